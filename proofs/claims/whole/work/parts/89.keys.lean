/-! WORDS OF THE TAPE: the reference's keywords -/
theorem mt_iff {g : Nat → Int32} {len : Nat} : ∀ (k : List Int32) (j : Nat), mtK g len j k = true ↔ (j + k.length = len ∧ ∀ x, x < k.length → g (j + x) = k.getD x 0)
  | [], j => by
    show decide (j = len) = true ↔ _
    rw [decide_eq_true_iff]
    constructor
    · intro e; exact ⟨e, fun x hx => absurd hx (Nat.not_lt_zero _)⟩
    · intro e; exact e.1
  | c :: k, j => by
    show (decide (j < len) && (decide (g j = c) && mtK g len (j + 1) k)) = true ↔ _
    rw [Bool.and_eq_true, Bool.and_eq_true, decide_eq_true_iff, decide_eq_true_iff, mt_iff k (j + 1)]
    simp only [List.length_cons]
    constructor
    · rintro ⟨h1, h2, h3, h4⟩
      refine ⟨by omega, fun x hx => ?_⟩
      cases x with
      | zero => exact h2
      | succ x => rw [show j + (x + 1) = j + 1 + x by omega]; exact h4 x (by omega)
    · rintro ⟨h1, h2⟩
      refine ⟨by omega, h2 0 (by omega), by omega, fun x hx => ?_⟩
      have := h2 (x + 1) (by omega)
      rw [show j + (x + 1) = j + 1 + x by omega] at this
      exact this
def offK (i : Nat) : Nat := 1 + ((kwR.take i).map (fun k => k.length + 1)).sum
def lenK (i : Nat) : Nat := (kwR.getD i []).length
theorem kwR_at : ∀ i, i < 22 → offK i + lenK i < 113 ∧ offK (i + 1) = offK i + lenK i + 1 ∧ sch 2 (offK i + lenK i) = 32 ∧ kwR.drop i = kwR.getD i [] :: kwR.drop (i + 1) := by decide +kernel
theorem kwR_in : ∀ i, i < 22 → ∀ j, j < lenK i → sch 2 (offK i + j) = (kwR.getD i []).getD j 0 ∧ sch 2 (offK i + j) ≠ 32 := by decide +kernel
theorem offK_22 : offK 22 = 113 := by decide +kernel
theorem r_inner {n a len i : Nat} {x1 : Int32} {g : Nat → Int32} {μ : Mu} (hi : i < 22) (h6 : rI μ 139 6 = nI a) (h7 : rI μ 139 7 = nI (a + len)) (hg : ∀ j, j < len → rI μ 142 (a + j) = g j) (hl : a + len ≤ 900) (hn : 1000 < n) : Rn (lp n (sX12_keyAt_15 n x1 (nI (offK i)) μ) 0) (fun r => ∃ j, j ≤ lenK i ∧ r = nI j ∧ (∀ q, q < j → q < len ∧ g q = (kwR.getD i []).getD q 0) ∧ (j = lenK i ∨ len ≤ j ∨ g j ≠ (kwR.getD i []).getD j 0)) := by
  obtain ⟨o1, o2, o3, o4⟩ := kwR_at i hi
  refine Rn.l (lenK i) (fun j x => x = nI j ∧ ∀ q, q < j → q < len ∧ g q = (kwR.getD i []).getD q 0) _ (by omega) ⟨rfl, fun q hq => absurd hq (Nat.not_lt_zero _)⟩ ?_ ?_
  · rintro j x hj ⟨rfl, h⟩
    obtain ⟨c1, c2⟩ := kwR_in i hi j hj
    show Rn (gd (ib (nI (offK i) + nI j) 113) _) _
    rw [nI_add, ib_n (by omega) (by omega), gd_true, ix_n (by omega), if_neg c2, h6, h7, nI_add]
    by_cases c : a + len ≤ a + j
    · rw [if_pos ((nI_leI (by omega) (by omega)).mpr c)]
      exact Rn.so ⟨j, by omega, rfl, h, Or.inr (Or.inl (by omega))⟩
    · rw [if_neg (fun e => c ((nI_leI (by omega) (by omega)).mp e)), ib_n (by omega) (by omega), gd_true, gd_true, ix_n (by omega), hg j (by omega), c1]
      by_cases e : g j = (kwR.getD i []).getD j 0
      · rw [if_pos e]
        refine Rn.so ⟨nI_add j 1, fun q hq => ?_⟩
        by_cases e2 : q = j
        · rw [e2]; exact ⟨by omega, e⟩
        · exact h q (by omega)
      · rw [if_neg e]
        exact Rn.so ⟨j, by omega, rfl, h, Or.inr (Or.inr e)⟩
  · rintro x ⟨rfl, h⟩
    refine Rn.e (r := nI (lenK i)) ?_ ⟨lenK i, Nat.le_refl _, rfl, h, Or.inl rfl⟩
    show gd (ib (nI (offK i) + nI (lenK i)) 113) _ = _
    rw [nI_add, ib_n (by omega) (by omega), gd_true, ix_n (by omega), if_pos o3]
theorem r_skipK {n i : Nat} {x1 : Int32} {μ : Mu} (hi : i < 22) (hn : 1000 < n) : lp n (sX12_keyAt_97 n x1 μ) (nI (offK i)) = some (nI (offK i + lenK i)) := by
  obtain ⟨o1, o2, o3, o4⟩ := kwR_at i hi
  have key : Rn (lp n (sX12_keyAt_97 n x1 μ) (nI (offK i))) (fun r => r = nI (offK i + lenK i)) := by
    refine Rn.l (lenK i) (fun j x => x = nI (offK i + j)) _ (by omega) rfl ?_ ?_
    · rintro j x hj rfl
      obtain ⟨c1, c2⟩ := kwR_in i hi j hj
      show Rn (gd (ib (nI (offK i + j)) 113) _) _
      rw [ib_n (by omega) (by omega), gd_true, ix_n (by omega), if_neg c2]
      exact Rn.so (nI_add _ 1)
    · rintro x rfl
      refine Rn.e (r := nI (offK i + lenK i)) ?_ rfl
      show gd (ib (nI (offK i + lenK i)) 113) _ = _
      rw [ib_n (by omega) (by omega), gd_true, ix_n (by omega), if_pos o3]
  obtain ⟨r, h1, h2⟩ := key
  rw [h1, h2]
def kwN (g : Nat → Int32) (len : Nat) : Nat := (kx g len kwR 0).getD 22
theorem r_word {n a len : Nat} {g : Nat → Int32} {μ : Mu} (h6 : rI μ 139 6 = nI a) (h7 : rI μ 139 7 = nI (a + len)) (hg : ∀ j, j < len → rI μ 142 (a + j) = g j) (hl : a + len ≤ 900) (hn : 1000 < n) : fX12_keyAt n μ = some (nI (kwN g len)) := by
  have key : Rn (lp n (sX12_keyAt_4 n μ) (0, 1)) (fun r => (match r with | .inl u => some u | .inr () => (some 22 : Option Int32)) = some (nI (kwN g len))) := by
    refine Rn.l 22 (fun i x => x = (nI i, nI (offK i)) ∧ kx g len kwR 0 = kx g len (kwR.drop i) i) _ (by omega) ⟨rfl, rfl⟩ ?_ ?_
    · rintro i x hi ⟨rfl, h⟩
      obtain ⟨o1, o2, o3, o4⟩ := kwR_at i hi
      rw [o4] at h
      have h : kx g len kwR 0 = if mtK g len 0 (kwR.getD i []) = true then some i else kx g len (kwR.drop (i + 1)) (i + 1) := h
      have mi := mt_iff (g := g) (len := len) (kwR.getD i []) 0
      obtain ⟨r, r1, j, j1, rfl, j3, j4⟩ := r_inner (n := n) (x1 := nI i) hi h6 h7 hg hl hn
      have sk := r_skipK (n := n) (x1 := nI i) (μ := μ) hi hn
      have step : ¬ mtK g len 0 (kwR.getD i []) = true → ∀ u : Int32, u = nI (offK i + lenK i) → OE (fun x : Int32 × Int32 => x = (nI (i + 1), nI (offK (i + 1))) ∧ kx g len kwR 0 = kx g len (kwR.drop (i + 1)) (i + 1)) (fun r : Int32 ⊕ Unit => (match r with | .inl u => some u | .inr () => (some 22 : Option Int32)) = some (nI (kwN g len))) (.inl (nI i + 1, u + 1)) := fun e u hu => by
        rw [if_neg e] at h
        refine ⟨?_, h⟩
        rw [hu, show nI i + 1 = nI (i + 1) from nI_add i 1, show nI (offK i + lenK i) + 1 = nI (offK i + lenK i + 1) from nI_add _ 1, o2]
      show Rn (if (113 : Int32) ≤ nI (offK i) then _ else _) _
      rw [if_neg (fun e => by have : 113 ≤ offK i := (le_l (k := 113) (by decide) (by omega)).mp e; omega), r1, bnd_some]
      show Rn (jX12_keyAt_69 n (nI i) (nI (offK i)) (nI j) μ) _
      unfold jX12_keyAt_69
      rw [nI_add, ib_n (by omega) (by omega), gd_true, ix_n (by omega), h6, h7, nI_add, sk]
      by_cases e : j = lenK i
      · subst e
        rw [if_pos o3]
        by_cases c : lenK i = len
        · rw [if_pos (by rw [c])]
          refine Rn.so ?_
          show (some (nI i) : Option Int32) = some (nI (kwN g len))
          have : mtK g len 0 (kwR.getD i []) = true := mi.mpr ⟨by rw [Nat.zero_add]; exact c, fun x hx => by rw [Nat.zero_add]; exact (j3 x hx).2⟩
          rw [if_pos this] at h
          unfold kwN
          rw [h]; rfl
        · rw [if_neg (fun q => c (by have := (nI_eq (by omega) (by omega)).mp q; omega)), bnd_some]
          exact Rn.so (step (fun q => c (by have := (mi.mp q).1; rw [Nat.zero_add] at this; exact this)) _ rfl)
      · obtain ⟨c1, c2⟩ := kwR_in i hi j (by omega)
        rw [if_neg c2, bnd_some]
        refine Rn.so (step (fun q => ?_) _ rfl)
        obtain ⟨q1, q2⟩ := mi.mp q
        have q1 : lenK i = len := by rw [Nat.zero_add] at q1; exact q1
        have q2 := q2 j (show j < lenK i by omega)
        rw [Nat.zero_add] at q2
        rcases j4 with z | z | z
        · exact e z
        · omega
        · exact z q2
    · rintro x ⟨rfl, h⟩
      have h : kx g len kwR 0 = none := h
      refine Rn.e (r := (Sum.inr () : Int32 ⊕ Unit)) ?_ ?_
      · have z : (113 : Int32) ≤ nI (offK 22) := by rw [offK_22]; decide
        simp only [sX12_keyAt_4, if_pos z]
      · show (some 22 : Option Int32) = some (nI (kwN g len))
        unfold kwN; rw [h]; rfl
  obtain ⟨r, h1, h2⟩ := key
  unfold fX12_keyAt
  rw [h1, bnd_some]
  exact h2
theorem kwN_le (g : Nat → Int32) (len : Nat) : kwN g len ≤ 22 := by
  unfold kwN
  cases h : kx g len kwR 0 with
  | none => exact Nat.le_refl _
  | some j =>
    have := (kx_lt kwR 0 j h).2
    have e : kwR.length = 22 := by decide +kernel
    show j ≤ 22
    omega
