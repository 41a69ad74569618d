/-! WORDS OF THE TAPE: keywords -/
def mtK (g : Nat → Int32) (len : Nat) : Nat → List Int32 → Bool
  | j, [] => decide (j = len)
  | j, c :: k => decide (j < len) && (decide (g j = c) && mtK g len (j + 1) k)
def cw (g : Nat → Int32) (len : Nat) : List Int32 → Nat → Nat → Bool → Option Nat
  | [], _, _, _ => none
  | c :: l, i, j, ok => if c = 32 then (if (ok && decide (j = len)) = true then some i else cw g len l (i + 1) 0 true) else cw g len l i (j + 1) (ok && (decide (j < len) && decide (g j = c)))
def kx (g : Nat → Int32) (len : Nat) : List (List Int32) → Nat → Option Nat
  | [], _ => none
  | k :: r, i => if mtK g len 0 k = true then some i else kx g len r (i + 1)
def flK : List (List Int32) → List Int32
  | [] => []
  | k :: r => k ++ (32 :: flK r)
theorem cw_key {g : Nat → Int32} {len : Nat} {l : List Int32} {i : Nat} : ∀ (k : List Int32) (j : Nat) (ok : Bool), (∀ c ∈ k, c ≠ 32) → cw g len (k ++ (32 :: l)) i j ok = if (ok && mtK g len j k) = true then some i else cw g len l (i + 1) 0 true
  | [], j, ok, _ => by
    show (if (32 : Int32) = 32 then _ else _) = _
    rw [if_pos rfl]
    rfl
  | c :: k, j, ok, h => by
    show (if c = 32 then _ else cw g len (k ++ (32 :: l)) i (j + 1) (ok && (decide (j < len) && decide (g j = c)))) = _
    rw [if_neg (h c (List.mem_cons_self ..)), cw_key k (j + 1) _ (fun d hd => h d (List.mem_cons_of_mem _ hd))]
    show _ = if (ok && (decide (j < len) && (decide (g j = c) && mtK g len (j + 1) k))) = true then _ else _
    rw [Bool.and_assoc, Bool.and_assoc]
theorem cw_flat {g : Nat → Int32} {len : Nat} : ∀ (ks : List (List Int32)) (i : Nat), (∀ k ∈ ks, ∀ c ∈ k, c ≠ 32) → cw g len (flK ks) i 0 true = kx g len ks i
  | [], _, _ => rfl
  | k :: r, i, h => by
    show cw g len (k ++ (32 :: flK r)) i 0 true = _
    rw [cw_key k 0 true (h k (List.mem_cons_self ..)), Bool.true_and, cw_flat r (i + 1) (fun q hq => h q (List.mem_cons_of_mem _ hq))]
    rfl
theorem mt_eq {g : Nat → Int32} {len : Nat} : ∀ (k : List Int32) (j : Nat), j ≤ len → (mtK g len j k = true ↔ k = (List.range' j (len - j)).map g)
  | [], j, hj => by
    show decide (j = len) = true ↔ _
    by_cases e : j = len
    · subst e; simp
    · obtain ⟨d, hd⟩ : ∃ d, len - j = d + 1 := ⟨len - j - 1, by omega⟩
      rw [decide_eq_false e, hd]
      simp [List.range']
  | c :: k, j, hj => by
    show (decide (j < len) && (decide (g j = c) && mtK g len (j + 1) k)) = true ↔ _
    by_cases e : j < len
    · obtain ⟨d, hd⟩ : ∃ d, len - j = d + 1 := ⟨len - j - 1, by omega⟩
      have ih := mt_eq (g := g) (len := len) k (j + 1) (by omega)
      rw [show len - (j + 1) = d by omega] at ih
      rw [decide_eq_true e, Bool.true_and, Bool.and_eq_true, decide_eq_true_iff, ih, hd]
      simp only [List.range', List.map_cons, List.cons.injEq]
      constructor
      · rintro ⟨h1, h2⟩; exact ⟨h1.symm, h2⟩
      · rintro ⟨h1, h2⟩; exact ⟨h1.symm, h2⟩
    · rw [decide_eq_false e, Bool.false_and, show len - j = 0 by omega]
      simp
theorem kx_congr {g : Nat → Int32} {len : Nat} {w : List Int32} (hw : w = (List.range' 0 len).map g) : ∀ (ks : List (List Int32)) (i : Nat), kx g len ks i = ((ks.findIdx? (fun k => decide (k = w))).map (· + i))
  | [], i => rfl
  | k :: r, i => by
    unfold kx
    rw [List.findIdx?_cons, kx_congr hw r (i + 1)]
    have m := mt_eq (g := g) (len := len) k 0 (Nat.zero_le _)
    rw [Nat.sub_zero, ← hw] at m
    by_cases e : k = w
    · rw [if_pos (m.mpr e), decide_eq_true e]; simp
    · rw [if_neg (fun q => e (m.mp q)), decide_eq_false e]
      simp only [Bool.false_eq_true, if_false]
      cases r.findIdx? (fun k => decide (k = w)) with
      | none => rfl
      | some j => simp; omega
/-- the words of the class and of the reference, in their order -/
def spl : List Int32 → List Int32 → List (List Int32)
  | [], _ => []
  | c :: l, k => if c = 32 then k.reverse :: spl l [] else spl l (c :: k)
def kwC : List (List Int32) := spl (bytS.getD 0 []) []
def kwR : List (List Int32) := spl ((bytS.getD 2 []).tail) []
theorem kwC_fl : bytS.getD 0 [] = flK kwC := by decide +kernel
theorem kwR_fl : (bytS.getD 2 []).tail = flK kwR := by decide +kernel
theorem kwC_ok : ∀ k ∈ kwC, ∀ c ∈ k, c ≠ 32 := by decide +kernel
theorem kwR_ok : ∀ k ∈ kwR, ∀ c ∈ k, c ≠ 32 := by decide +kernel
/-- the class's number of the reference's word -/
def cls (K : Nat) : Nat := if K ≤ 12 then K else if K ≤ 18 then K + 3 else if K = 19 then 14 else if K = 20 then 13 else 15
theorem kwC_kwR : ∀ w ∈ kwR, kwC.findIdx? (fun k => decide (k = w)) = (kwR.findIdx? (fun k => decide (k = w))).map cls := by decide +kernel
theorem kwC_sub : ∀ w ∈ kwC, w ∈ kwR := by decide +kernel
theorem kx_both {g : Nat → Int32} {len : Nat} : kx g len kwC 0 = (kx g len kwR 0).map cls := by
  rw [kx_congr rfl, kx_congr rfl]
  generalize (List.range' 0 len).map g = w
  have z : ∀ o : Option Nat, o.map (· + 0) = o := fun o => by cases o <;> rfl
  rw [z, z]
  by_cases h : w ∈ kwR
  · exact kwC_kwR w h
  · have n1 : kwR.findIdx? (fun k => decide (k = w)) = none := by
      rw [List.findIdx?_eq_none_iff]
      intro k hk
      exact decide_eq_false (fun e => h (e ▸ hk))
    have n2 : kwC.findIdx? (fun k => decide (k = w)) = none := by
      rw [List.findIdx?_eq_none_iff]
      intro k hk
      exact decide_eq_false (fun e => h (e ▸ kwC_sub k hk))
    rw [n1, n2]; rfl
theorem kx_lt {g : Nat → Int32} {len : Nat} : ∀ (ks : List (List Int32)) (i j : Nat), kx g len ks i = some j → i ≤ j ∧ j < i + ks.length
  | [], i, j, h => by cases h
  | k :: r, i, j, h => by
    unfold kx at h
    split at h
    · cases h; simp
    · have := kx_lt r (i + 1) j h
      simp only [List.length_cons]; omega
theorem sch0 : ∀ q, q < 112 → (bytS.getD 0 []).drop q = sch 0 q :: (bytS.getD 0 []).drop (q + 1) := by decide +kernel
/-- the class finds a word's number -/
theorem c_word {n a len : Nat} {g : Nat → Int32} {μ : Mu} (hg : ∀ j, j < len → rI μ 1 (a + j) = g j) (hl : a + len ≤ 900) (hn : 1000 < n) : fX9_wordOf n (nI a) (nI (a + len)) μ = some (match kx g len kwC 0 with | some i => nI (200 + i) | none => 2) := by
  have tot : kx g len kwC 0 = cw g len (bytS.getD 0 []) 0 0 true := by rw [kwC_fl, cw_flat kwC 0 kwC_ok]
  have key : Rn (lp n (sX9_wordOf_13 n (nI a) (nI (a + len)) μ) (200, nI a, 1, 0)) (fun r => (match r with | .inl u => some u | .inr () => (some 2 : Option Int32)) = some (match kx g len kwC 0 with | some i => nI (200 + i) | none => 2)) := by
    refine Rn.l 112 (fun q x => ∃ i j ok, i ≤ q ∧ j ≤ q ∧ x = (nI (200 + i), nI (a + j), (if ok = true then 1 else 0), nI q) ∧ kx g len kwC 0 = cw g len ((bytS.getD 0 []).drop q) i j ok) _ (by omega) ⟨0, 0, true, by omega, by omega, rfl, tot⟩ ?_ ?_
    · rintro q x hq ⟨i, j, ok, i1, j1, rfl, h⟩
      rw [sch0 q hq] at h
      have h : kx g len kwC 0 = if sch 0 q = 32 then (if (ok && decide (j = len)) = true then some i else cw g len ((bytS.getD 0 []).drop (q + 1)) (i + 1) 0 true) else cw g len ((bytS.getD 0 []).drop (q + 1)) i (j + 1) (ok && (decide (j < len) && decide (g j = sch 0 q))) := h
      have k1 : ib (nI q) 112 = true := ib_n hq (by omega)
      show Rn (if (112 : Int32) ≤ nI q then _ else _) _
      rw [if_neg (fun e => by have : 112 ≤ q := (le_l (k := 112) (by decide) (by omega)).mp e; omega), k1, gd_true, ix_n (by omega), ifb]
      by_cases c : sch 0 q = 32
      · rw [if_pos c] at h ⊢
        have nxt : ¬ (ok && decide (j = len)) = true → Rn (jX9_wordOf_85 n (nI a) (nI (a + len)) (nI (200 + i)) (nI q) μ) (OE (fun x : Int32 × Int32 × Int32 × Int32 => ∃ i j ok, i ≤ q + 1 ∧ j ≤ q + 1 ∧ x = (nI (200 + i), nI (a + j), (if ok = true then 1 else 0), nI (q + 1)) ∧ kx g len kwC 0 = cw g len ((bytS.getD 0 []).drop (q + 1)) i j ok) (fun r : Int32 ⊕ Unit => (match r with | .inl u => some u | .inr () => (some 2 : Option Int32)) = some (match kx g len kwC 0 with | some i => nI (200 + i) | none => 2))) := fun e => by
          rw [if_neg e] at h
          refine Rn.so ⟨i + 1, 0, true, by omega, by omega, ?_, h⟩
          show (nI (200 + i) + 1, nI a, (1 : Int32), nI q + 1) = _
          rw [show nI (200 + i) + 1 = nI (200 + (i + 1)) from nI_add _ 1, show nI q + 1 = nI (q + 1) from nI_add q 1]
          rfl
        by_cases co : ok = true
        · rw [if_pos co]
          by_cases e : j = len
          · rw [if_pos (by rw [e])]
            rw [if_pos (by rw [co, decide_eq_true e]; rfl)] at h
            refine Rn.so ?_
            show (some (nI (200 + i)) : Option Int32) = some (match kx g len kwC 0 with | some i => nI (200 + i) | none => 2)
            rw [h]
          · rw [if_neg (fun q => e (by have := (nI_eq (by omega) (by omega)).mp q; omega))]
            exact nxt (by rw [decide_eq_false e, Bool.and_false]; decide)
        · rw [if_neg co]
          exact nxt (by rw [show ok = false by simpa using co, Bool.false_and]; decide)
      · rw [if_neg c] at h ⊢
        rw [ifb]
        have no0 : (ok && (decide (j < len) && decide (g j = sch 0 q))) = false → Rn (jX9_wordOf_63 n (nI a) (nI (a + len)) (nI (200 + i)) (nI (a + j)) (nI q) μ) (OE (fun x : Int32 × Int32 × Int32 × Int32 => ∃ i j ok, i ≤ q + 1 ∧ j ≤ q + 1 ∧ x = (nI (200 + i), nI (a + j), (if ok = true then 1 else 0), nI (q + 1)) ∧ kx g len kwC 0 = cw g len ((bytS.getD 0 []).drop (q + 1)) i j ok) (fun r : Int32 ⊕ Unit => (match r with | .inl u => some u | .inr () => (some 2 : Option Int32)) = some (match kx g len kwC 0 with | some i => nI (200 + i) | none => 2))) := fun e => by
          rw [e] at h
          refine Rn.so ⟨i, j + 1, false, by omega, by omega, ?_, h⟩
          show (nI (200 + i), nI (a + j) + 1, (0 : Int32), nI q + 1) = _
          rw [show nI (a + j) + 1 = nI (a + (j + 1)) from nI_add _ 1, show nI q + 1 = nI (q + 1) from nI_add q 1]
          rfl
        by_cases co : ok = true
        · rw [if_pos co]
          by_cases e : j < len
          · rw [if_neg (fun q => by have := (nI_leI (by omega) (by omega)).mp q; omega), ib_n (by omega) (by omega), gd_true, ix_n (by omega), hg j e]
            rw [co, decide_eq_true e, Bool.true_and, Bool.true_and] at h
            refine Rn.so ⟨i, j + 1, decide (g j = sch 0 q), by omega, by omega, ?_, h⟩
            rw [show nI (a + j) + 1 = nI (a + (j + 1)) from nI_add _ 1, show nI q + 1 = nI (q + 1) from nI_add q 1]
            by_cases ec : g j = sch 0 q
            · rw [if_pos ec, decide_eq_true ec]; rfl
            · rw [if_neg ec, decide_eq_false ec]; rfl
          · rw [if_pos ((nI_leI (by omega) (by omega)).mpr (by omega))]
            exact no0 (by rw [decide_eq_false e, Bool.false_and, Bool.and_false])
        · rw [if_neg co]
          exact no0 (by rw [show ok = false by simpa using co]; rfl)
    · rintro x ⟨i, j, ok, i1, j1, rfl, h⟩
      have h : kx g len kwC 0 = none := h
      refine Rn.e (r := (Sum.inr () : Int32 ⊕ Unit)) rfl ?_
      rw [h]
  obtain ⟨r, h1, h2⟩ := key
  unfold fX9_wordOf
  rw [h1, bnd_some]
  exact h2
