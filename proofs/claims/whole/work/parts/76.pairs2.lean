/-! PAIRS: the reference's search -/
def RA (μ : Mu) (S : Nat) (cost : Nat → Nat → Nat) (b : PB) : Prop := rI μ 140 4 = nI S ∧ rI μ 139 26 = (if b.1 = 100000 then -1 else nI b.1) ∧ (∀ i j, i < j → j < S → rI μ 151 (8 * i + j) = nI (cost i j)) ∧ (b.1 < 100000 → ∀ i, i < S → rI μ 150 i = b.2 i)
def PAr : Nat → Nat → Prop := fun a i => (a = 139 ∧ i = 26) ∨ a = 149 ∨ a = 150
def RAf (S k : Nat) (U : Nat → Bool) (μ μ' : Mu) : Prop := Fg PAr μ μ' ∧ ∀ i, i < S → (i < k ∨ U i = true) → rI μ' 149 i = rI μ 149 i
theorem RA.w {μ : Mu} {S : Nat} {cost : Nat → Nat → Nat} {b : PB} (h : RA μ S cost b) (i : Nat) (v : Int32) : RA (wI μ 149 i v) S cost b := ⟨by rw [rI_ai (by decide)]; exact h.1, by rw [rI_ai (by decide)]; exact h.2.1, fun i j h1 h2 => by rw [rI_ai (by decide)]; exact h.2.2.1 i j h1 h2, fun h0 i hi => by rw [rI_ai (by decide)]; exact h.2.2.2 h0 i hi⟩
theorem f_best {n S : Nat} {F : Nat → Int32 → Int32 → Int32 → Mu → Option Mu} {v : Int32} {μ : Mu} (hn : 1000 < n) : ∃ μ', jX12_goesPairs_58 n F v μ = some μ' ∧ rI μ' 139 26 = v ∧ (∀ i, i < 8 → rI μ' 150 i = rI μ 149 i) ∧ Fg (fun a i => (a = 139 ∧ i = 26) ∨ a = 150) μ μ' := by
  have key : Rn (lp n (sX12_goesPairs_66 n F) (0, wI μ 139 26 v)) (fun m => (∀ i, i < 8 → rI m 150 i = rI μ 149 i) ∧ rI m 139 26 = v ∧ Fg (fun a i => (a = 139 ∧ i = 26) ∨ a = 150) μ m) := by
    refine Rn.l 8 (fun i q => q.1 = nI i ∧ (∀ k, k < i → rI q.2 150 k = rI μ 149 k) ∧ rI q.2 139 26 = v ∧ Fg (fun a i => (a = 139 ∧ i = 26) ∨ a = 150) μ q.2) _ (by omega) ⟨rfl, fun k hk => absurd hk (Nat.not_lt_zero _), rI_same _ _ _ _, (Fg.rfl' _ _).w (Or.inl ⟨rfl, rfl⟩) _⟩ ?_ ?_
    · rintro i ⟨x, m⟩ hi ⟨e1, e2, e3, e4⟩
      have e1 : x = nI i := e1
      subst e1
      have e2 : ∀ k, k < i → rI m 150 k = rI μ 149 k := e2
      have e4 : Fg (fun a i => (a = 139 ∧ i = 26) ∨ a = 150) μ m := e4
      simp (disch := first | omega | decide) only [sX12_goesPairs_66, gd_true, bnd_some, bnd2_some, ix_n, ib_n, add_l, add_r, mul_l, mul_r, nI_add, sub_r, nI_leI, nI_ltI, nI_eq, le_l, le_r, lt_l, lt_r, eq_l, eq_r, eq_m, if_true, if_false, not_false_eq_true, not_true_eq_false, show ¬ 8 ≤ i by omega]
      refine Rn.so ⟨rfl, fun k hk => ?_, ?_, e4.w (Or.inr rfl) _⟩
      · show rI (wI m 150 i (rI m 149 i)) 150 k = _
        by_cases e : k = i
        · rw [e, rI_same]; exact e4.i (by omega)
        · rw [rI_ii e]; exact e2 k (by omega)
      · show rI (wI m 150 i (rI m 149 i)) 139 26 = _
        rw [rI_ai (by decide)]; exact e3
    · rintro ⟨x, m⟩ ⟨e1, e2, e3, e4⟩
      have e1 : x = nI 8 := e1
      subst e1
      exact Rn.e (r := m) rfl ⟨e2, e3, e4⟩
  obtain ⟨m, h1, h2, h3, h4⟩ := key
  exact ⟨m, by unfold jX12_goesPairs_58; rw [h1, bnd_some], h3, h2, h4⟩
theorem r_pair {n S : Nat} {cost : Nat → Nat → Nat} (hS : S ≤ 8) (hc : ∀ i j, cost i j ≤ 24) (hn : 1000 < n) : ∀ d D k U left sum pa b x1 μ, k + d = S → d < D → sum ≤ 100 * k → b.1 ≤ 100000 → RA μ S cost b → bs x1 S (fun i => decide (i < k) || U i) → (∀ i, i < S → (i < k ∨ U i = true) → rI μ 149 i = pa i) → ∃ μ', fX12_Q n D 0 x1 (if left = true then 1 else 0) (nI sum) μ = some μ' ∧ RA μ' S cost (prD cost d k U left sum pa b) ∧ RAf S k U μ μ' := by
  intro d
  induction d with
  | zero =>
    intro D k U left sum pa b x1 μ hk hD hs hb hp hx hm
    obtain ⟨D, rfl⟩ : ∃ q, D = q + 1 := ⟨D - 1, by omega⟩
    have hp0 := hp
    obtain ⟨a1, a2, a3, a4⟩ := hp
    show ∃ μ', bX12_goesPairs n (fX12_Q n D) x1 (if left = true then 1 else 0) (nI sum) μ = some μ' ∧ _
    have lo : Rn (lp n (sX12_goesPairs_3 n (fX12_Q n D) x1 (if left = true then 1 else 0) (nI sum) μ) 0) (fun r => r = nI k) := by
      refine Rn.l k (fun i q => q = nI i) _ (by omega) rfl ?_ ?_
      · rintro i x hi e1
        subst e1
        have z := f_isIn (n := n) (v := x1) μ (show i < 32 by omega)
        rw [bs_at hx (by omega) (by omega)] at z
        simp (disch := first | omega | decide) only [sX12_goesPairs_3, gd_true, bnd_some, bnd2_some, ix_n, ib_n, add_l, add_r, mul_l, mul_r, nI_add, sub_r, nI_leI, nI_ltI, nI_eq, le_l, le_r, lt_l, lt_r, eq_l, eq_r, eq_m, if_true, if_false, not_false_eq_true, not_true_eq_false, a1, show ¬ S ≤ i by omega, z, ifb, show i < k from hi, decide_true, Bool.true_or]
        exact Rn.so rfl
      · rintro x e1
        subst e1
        exact Rn.e (r := nI k) (ite_le (by rw [a1]; congr 1; omega)) rfl
    obtain ⟨r, l1, l2⟩ := lo
    subst l2
    unfold bX12_goesPairs
    rw [l1, bnd_some]
    show ∃ μ', jX12_goesPairs_30 n (fX12_Q n D) x1 (if left = true then 1 else 0) (nI sum) (nI k) μ = some μ' ∧ _
    unfold jX12_goesPairs_30
    rw [a1, if_pos (show nI k = nI S by rw [show k = S by omega]), a2]
    obtain ⟨m', g1, g2, g3, g4⟩ := f_best (n := n) (S := S) (F := fX12_Q n D) (v := nI sum) (μ := μ) hn
    have set : sum < b.1 → RA m' S cost (prD cost 0 k U left sum pa b) ∧ RAf S k U μ m' := by
      intro c
      unfold prD
      rw [if_pos c]
      refine ⟨⟨by rw [g4.i (by omega)]; exact a1, by rw [g2, if_neg (show ¬ sum = 100000 by omega)], fun i j h1 h2 => by rw [g4.i (by omega)]; exact a3 i j h1 h2, fun _ i hi => by rw [g3 i (by omega)]; exact hm i hi (Or.inl (by omega))⟩, g4.mono fun a i q => ?_, fun i hi _ => g4.i (by omega)⟩
      rcases q with q | q
      · exact Or.inl q
      · exact Or.inr (Or.inr q)
    by_cases cb : b.1 = 100000
    · rw [if_pos cb, if_pos rfl]
      exact ⟨m', g1, set (by omega)⟩
    · rw [if_neg cb, if_neg (nI_m1 (by omega))]
      simp (disch := first | omega | decide) only [gd_true, bnd_some, bnd2_some, ix_n, ib_n, add_l, add_r, mul_l, mul_r, nI_add, sub_r, nI_leI, nI_ltI, nI_eq, le_l, le_r, lt_l, lt_r, eq_l, eq_r, eq_m, if_true, if_false, not_false_eq_true, not_true_eq_false]
      by_cases c : sum < b.1
      · rw [if_pos c]
        exact ⟨m', g1, set c⟩
      · rw [if_neg c]
        refine ⟨μ, rfl, ?_, Fg.rfl' _ _, fun _ _ _ => rfl⟩
        unfold prD; rw [if_neg c]; exact hp0
  | succ d ih =>
    intro D k U left sum pa b x1 μ hk hD hs hb hp hx hm
    by_cases cu : U k = true
    · have hx' : bs x1 S (fun i => decide (i < k + 1) || U i) := bs_congr hx fun i hi => by
        by_cases e : i = k
        · rw [e, cu]; simp
        · have : i < k + 1 ↔ i < k := by omega
          simp [this]
      obtain ⟨m', g1, g2, g3, g4⟩ := ih D (k + 1) U left sum pa b x1 μ (by omega) (by omega) (by omega) hb hp hx' (fun i hi h => hm i hi (by
        rcases h with h | h
        · by_cases e : i = k
          · rw [e]; exact Or.inr cu
          · exact Or.inl (by omega)
        · exact Or.inr h))
      refine ⟨m', g1, ?_, g3, fun i hi h => g4 i hi (by
        rcases h with h | h
        · exact Or.inl (by omega)
        · exact Or.inr h)⟩
      unfold prD; rw [if_pos cu]; exact g2
    have cu' : U k = false := by simpa using cu
    obtain ⟨D, rfl⟩ : ∃ q, D = q + 1 := ⟨D - 1, by omega⟩
    have hp0 := hp
    obtain ⟨a1, a2, a3, a4⟩ := hp
    show ∃ μ', bX12_goesPairs n (fX12_Q n D) x1 (if left = true then 1 else 0) (nI sum) μ = some μ' ∧ _
    have hvk : (decide (k < k) || U k) = false := by simp [cu']
    have lo : Rn (lp n (sX12_goesPairs_3 n (fX12_Q n D) x1 (if left = true then 1 else 0) (nI sum) μ) 0) (fun r => r = nI k) := by
      refine Rn.l k (fun i q => q = nI i) _ (by omega) rfl ?_ ?_
      · rintro i x hi e1
        subst e1
        have z := f_isIn (n := n) (v := x1) μ (show i < 32 by omega)
        rw [bs_at hx (by omega) (by omega)] at z
        simp (disch := first | omega | decide) only [sX12_goesPairs_3, gd_true, bnd_some, bnd2_some, ix_n, ib_n, add_l, add_r, mul_l, mul_r, nI_add, sub_r, nI_leI, nI_ltI, nI_eq, le_l, le_r, lt_l, lt_r, eq_l, eq_r, eq_m, if_true, if_false, not_false_eq_true, not_true_eq_false, a1, show ¬ S ≤ i by omega, z, ifb, show i < k from hi, decide_true, Bool.true_or]
        exact Rn.so rfl
      · rintro x e1
        subst e1
        have z := f_isIn (n := n) (v := x1) μ (show k < 32 by omega)
        rw [bs_at hx (by omega) (by omega), hvk] at z
        refine Rn.e (r := nI k) ?_ rfl
        simp (disch := first | omega | decide) only [sX12_goesPairs_3, gd_true, bnd_some, bnd2_some, ix_n, ib_n, add_l, add_r, mul_l, mul_r, nI_add, sub_r, nI_leI, nI_ltI, nI_eq, le_l, le_r, lt_l, lt_r, eq_l, eq_r, eq_m, if_true, if_false, not_false_eq_true, not_true_eq_false, a1, show ¬ S ≤ k by omega, z, ifb, Bool.false_eq_true]
    obtain ⟨r, l1, l2⟩ := lo
    subst l2
    unfold bX12_goesPairs
    rw [l1, bnd_some]
    show ∃ μ', jX12_goesPairs_30 n (fX12_Q n D) x1 (if left = true then 1 else 0) (nI sum) (nI k) μ = some μ' ∧ _
    unfold jX12_goesPairs_30
    rw [a1, if_neg (fun e => by have := nI_inj (by omega) (by omega) e; omega)]
    have lo : Rn (lp n (sX12_goesPairs_100 n (fX12_Q n D) x1 (if left = true then 1 else 0) (nI sum) (nI k)) (nI (k + 1), μ)) (fun m => RA m S cost (loopF (fun j b => if U j = true then b else prD cost d (k + 1) (fun i => U i || decide (i = j)) left (sum + cost k j) (pa2 pa k j) b) k d b) ∧ RAf S k U μ m) := by
      refine Rn.l d (fun i q => q.1 = nI (k + 1 + i) ∧ RA q.2 S cost (loopF (fun j b => if U j = true then b else prD cost d (k + 1) (fun i => U i || decide (i = j)) left (sum + cost k j) (pa2 pa k j) b) k i b) ∧ RAf S k U μ q.2 ∧ (loopF (fun j b => if U j = true then b else prD cost d (k + 1) (fun i => U i || decide (i = j)) left (sum + cost k j) (pa2 pa k j) b) k i b).1 ≤ 100000) _ (by omega) ⟨rfl, hp0, ⟨Fg.rfl' _ _, fun _ _ _ => rfl⟩, hb⟩ ?_ ?_
      · rintro i ⟨x, m⟩ hi ⟨e1, e2, ⟨e3, e4⟩, e5⟩
        have e1 : x = nI (k + 1 + i) := e1
        subst e1
        have e2 : RA m S cost _ := e2
        have e3 : Fg PAr μ m := e3
        have e4 : ∀ i, i < S → (i < k ∨ U i = true) → rI m 149 i = rI μ 149 i := e4
        generalize hb' : loopF (fun j b => if U j = true then b else prD cost d (k + 1) (fun i => U i || decide (i = j)) left (sum + cost k j) (pa2 pa k j) b) k i b = b' at e2 e5
        have el : loopF (fun j b => if U j = true then b else prD cost d (k + 1) (fun i => U i || decide (i = j)) left (sum + cost k j) (pa2 pa k j) b) k (i + 1) b = if U (k + 1 + i) = true then b' else prD cost d (k + 1) (fun l => U l || decide (l = k + 1 + i)) left (sum + cost k (k + 1 + i)) (pa2 pa k (k + 1 + i)) b' := by
          rw [← hb']; rfl
        have z := f_isIn (n := n) (v := x1) m (show k + 1 + i < 32 by omega)
        rw [bs_at hx (by omega) (by omega), show (decide (k + 1 + i < k) || U (k + 1 + i)) = U (k + 1 + i) by simp [show ¬ k + 1 + i < k by omega]] at z
        have q1 : rI m 140 4 = nI S := e2.1
        have hcost : rI (wI (wI m 149 k (nI (k + 1 + i))) 149 (k + 1 + i) (nI k)) 151 (8 * k + (k + 1 + i)) = nI (cost k (k + 1 + i)) := by
          rw [rI_ai (by decide), rI_ai (by decide)]; exact e2.2.2.1 k (k + 1 + i) (by omega) (by omega)
        simp (disch := first | omega | decide) only [sX12_goesPairs_100, gd_true, bnd_some, bnd2_some, ix_n, ib_n, add_l, add_r, mul_l, mul_r, nI_add, sub_r, nI_leI, nI_ltI, nI_eq, le_l, le_r, lt_l, lt_r, eq_l, eq_r, eq_m, if_true, if_false, not_false_eq_true, not_true_eq_false, q1, show ¬ S ≤ k + 1 + i by omega, z, ifb, hcost]
        by_cases cj : U (k + 1 + i) = true
        · rw [if_pos cj]
          refine Rn.so ⟨rfl, ?_, ⟨e3, e4⟩, ?_⟩
          · rw [el, if_pos cj]; exact e2
          · rw [el, if_pos cj]; exact e5
        · have cj' : U (k + 1 + i) = false := by simpa using cj
          rw [if_neg cj]
          have hcl := hc k (k + 1 + i)
          have hx' : bs ((x1 ||| shl 1 (nI k)) ||| shl 1 (nI (k + 1 + i))) S (fun l => decide (l < k + 1) || (U l || decide (l = k + 1 + i))) := by
            refine bs_congr (bs_set (bs_set hx (k := k) (by omega) (by omega)) (k := k + 1 + i) (by omega) (by omega)) fun l hl => ?_
            by_cases e : l = k
            · rw [e]; simp
            · have : l < k + 1 ↔ l < k := by omega
              simp [this, e, Bool.or_assoc]
          obtain ⟨m', g1, g2, g3, g4⟩ := ih D (k + 1) (fun l => U l || decide (l = k + 1 + i)) left (sum + cost k (k + 1 + i)) (pa2 pa k (k + 1 + i)) b' ((x1 ||| shl 1 (nI k)) ||| shl 1 (nI (k + 1 + i))) (wI (wI m 149 k (nI (k + 1 + i))) 149 (k + 1 + i) (nI k)) (by omega) (by omega) (by omega) e5 ((e2.w _ _).w _ _) hx' (fun l hl h => by
            unfold pa2
            by_cases z1 : l = k + 1 + i
            · rw [if_pos z1, z1, rI_same]
            · rw [if_neg z1, rI_ii z1]
              by_cases z2 : l = k
              · rw [if_pos z2, z2, rI_same]
              · rw [if_neg z2, rI_ii z2]
                have hh : l < k ∨ U l = true := by
                  rcases h with h | h
                  · exact Or.inl (by omega)
                  · right; simpa [z1] using h
                rw [e4 l hl hh]; exact hm l hl hh)
          rw [g1, bnd_some]
          refine Rn.so ⟨rfl, ?_, ⟨e3.tr ((((Fg.rfl' _ _).w (Or.inr (Or.inl rfl)) _).w (Or.inr (Or.inl rfl)) _).tr g3), fun l hl h => ?_⟩, ?_⟩
          · rw [el, if_neg cj]; exact g2
          · show rI m' 149 l = _
            have z1 : l ≠ k + 1 + i := fun e => by
              rcases h with h | h
              · omega
              · rw [e, cj'] at h; cases h
            have z2 : l ≠ k := fun e => by
              rcases h with h | h
              · omega
              · rw [e, cu'] at h; cases h
            rw [g4 l hl (by
              rcases h with h | h
              · exact Or.inl (by omega)
              · right; simp [h]), rI_ii z1, rI_ii z2]
            exact e4 l hl h
          · rw [el, if_neg cj]; exact Nat.le_trans (prD_le _ _ _ _ _ _ _ _) e5
      · rintro ⟨x, m⟩ ⟨e1, e2, e3, e5⟩
        have e1 : x = nI (k + 1 + d) := e1
        subst e1
        exact Rn.e (r := m) (ite_le (by rw [e2.1]; congr 1; omega)) ⟨e2, e3⟩
    obtain ⟨m1, l1, l2, l3, l4⟩ := lo
    rw [show nI k + 1 = nI (k + 1) from nI_add k 1, l1, bnd_some]
    have hbl : (loopF (fun j b => if U j = true then b else prD cost d (k + 1) (fun i => U i || decide (i = j)) left (sum + cost k j) (pa2 pa k j) b) k d b).1 ≤ 100000 := by
      have : ∀ c, (loopF (fun j b => if U j = true then b else prD cost d (k + 1) (fun i => U i || decide (i = j)) left (sum + cost k j) (pa2 pa k j) b) k c b).1 ≤ 100000 := by
        intro c
        induction c with
        | zero => exact hb
        | succ c ih2 =>
          refine Nat.le_trans ?_ ih2
          show (if U (k + 1 + c) = true then _ else _ : PB).1 ≤ _
          split
          · exact Nat.le_refl _
          · exact prD_le cost d _ _ _ _ _ _
      exact this d
    unfold prD
    rw [if_neg cu]
    cases left with
    | false => exact ⟨m1, rfl, l2, l3, l4⟩
    | true =>
      simp (disch := first | omega | decide) only [gd_true, bnd_some, bnd2_some, ix_n, ib_n, add_l, add_r, mul_l, mul_r, nI_add, sub_r, nI_leI, nI_ltI, nI_eq, le_l, le_r, lt_l, lt_r, eq_l, eq_r, eq_m, if_true, if_false, not_false_eq_true, not_true_eq_false]
      rw [if_neg (show ¬ (1 : Int32) = 0 by decide)]
      have hx' : bs (x1 ||| shl 1 (nI k)) S (fun l => decide (l < k + 1) || U l) := by
        refine bs_congr (bs_set hx (k := k) (by omega) (by omega)) fun l hl => ?_
        by_cases e : l = k
        · rw [e]; simp
        · have : l < k + 1 ↔ l < k := by omega
          simp [this, e]
      obtain ⟨m', g1, g2, g3, g4⟩ := ih D (k + 1) U false sum (pa1 pa k) _ (x1 ||| shl 1 (nI k)) (wI m1 149 k (-1)) (by omega) (by omega) (by omega) hbl (l2.w _ _) hx' (fun l hl h => by
        unfold pa1
        by_cases z2 : l = k
        · rw [if_pos z2, z2, rI_same]
        · rw [if_neg z2, rI_ii z2]
          have hh : l < k ∨ U l = true := by
            rcases h with h | h
            · exact Or.inl (by omega)
            · exact Or.inr h
          rw [l4 l hl hh]; exact hm l hl hh)
      refine ⟨m', ?_, g2, l3.tr (((Fg.rfl' _ _).w (Or.inr (Or.inl rfl)) _).tr g3), fun l hl h => ?_⟩
      · have g1 : fX12_Q n D 0 (x1 ||| shl 1 (nI k)) 0 (nI sum) (wI m1 149 k (-1)) = some m' := g1
        rw [g1, bnd_some]
      · have z2 : l ≠ k := fun e => by
          rcases h with h | h
          · omega
          · rw [e, cu'] at h; cases h
        rw [g4 l hl (by
          rcases h with h | h
          · exact Or.inl (by omega)
          · exact Or.inr h), rI_ii z2]
        exact l4 l hl h
/-! a pairing is found -/
theorem cnt_front (f : Nat → Bool) : ∀ n, cnt f (n + 1) = (if f 0 = true then 1 else 0) + cnt (fun i => f (i + 1)) n
  | 0 => by simp [cnt]
  | n + 1 => by
    show cnt f (n + 1) + _ = _
    rw [cnt_front f n]
    show _ + (if f (n + 1) = true then 1 else 0) = _ + (cnt (fun i => f (i + 1)) n + (if f (n + 1) = true then 1 else 0))
    omega
theorem cnt_rem {f : Nat → Bool} {j : Nat} (hj : f j = true) : ∀ {n : Nat}, j < n → cnt (fun i => f i && !decide (i = j)) n + 1 = cnt f n
  | n + 1, h => by
    unfold cnt
    by_cases e : j = n
    · subst e
      rw [if_neg (by simp), if_pos hj]
      have : cnt (fun i => f i && !decide (i = j)) j = cnt f j := cnt_congr fun i hi => by simp [show ¬ i = j by omega]
      omega
    · have ih := cnt_rem hj (n := n) (by omega)
      have hne : ¬ n = j := fun q => e q.symm
      simp only [hne, decide_false, Bool.not_false, Bool.and_true]
      omega
theorem cnt_pos {f : Nat → Bool} : ∀ {n : Nat}, 0 < cnt f n → ∃ i, i < n ∧ f i = true
  | n + 1, h => by
    unfold cnt at h
    by_cases c : f n = true
    · exact ⟨n, by omega, c⟩
    · rw [if_neg c] at h
      obtain ⟨i, h1, h2⟩ := cnt_pos (n := n) (by omega)
      exact ⟨i, by omega, h2⟩
theorem pr_found {cost : Nat → Nat → Nat} (hc : ∀ i j, cost i j ≤ 24) : ∀ d k U left sum pa b, cnt (fun i => !U (k + i)) d % 2 = (if left = true then 1 else 0) → (prD cost d k U left sum pa b).1 ≤ sum + 24 * d
  | 0, k, U, left, sum, pa, b, h => by
    unfold prD
    split
    · exact Nat.le_add_right _ _
    · omega
  | d + 1, k, U, left, sum, pa, b, h => by
    rw [cnt_front] at h
    have e1 : cnt (fun i => !U (k + (i + 1))) d = cnt (fun i => !U (k + 1 + i)) d := cnt_congr fun i _ => by rw [show k + (i + 1) = k + 1 + i by omega]
    rw [e1] at h
    have e0 : k + 0 = k := rfl
    rw [e0] at h
    unfold prD
    by_cases cu : U k = true
    · rw [if_pos cu]
      rw [cu] at h
      have := pr_found hc d (k + 1) U left sum pa b (by simpa using h)
      omega
    · rw [if_neg cu]
      have cu' : U k = false := by simpa using cu
      rw [cu'] at h
      cases left with
      | true =>
        simp only [if_true] at h ⊢
        have := pr_found hc d (k + 1) U false sum (pa1 pa k) (loopF (fun j b => if U j = true then b else prD cost d (k + 1) (fun i => U i || decide (i = j)) true (sum + cost k j) (pa2 pa k j) b) k d b) (by simp at h ⊢; omega)
        omega
      | false =>
        simp only [Bool.not_false, if_true, Bool.false_eq_true, if_false] at h ⊢
        obtain ⟨i, hi, hf⟩ := cnt_pos (f := fun i => !U (k + 1 + i)) (n := d) (by omega)
        have hf' : U (k + 1 + i) = false := by simpa using hf
        -- at this partner it is found, and behind it never gets worse
        have mono : ∀ c, (loopF (fun j b => if U j = true then b else prD cost d (k + 1) (fun i => U i || decide (i = j)) false (sum + cost k j) (pa2 pa k j) b) k (i + 1 + c) b).1 ≤ sum + 24 * (d + 1) := by
          intro c
          induction c with
          | zero =>
            show (if U (k + 1 + i) = true then _ else _ : PB).1 ≤ _
            rw [if_neg (by rw [hf']; decide)]
            have hcl := hc k (k + 1 + i)
            have z := pr_found hc d (k + 1) (fun l => U l || decide (l = k + 1 + i)) false (sum + cost k (k + 1 + i)) (pa2 pa k (k + 1 + i)) (loopF (fun j b => if U j = true then b else prD cost d (k + 1) (fun i => U i || decide (i = j)) false (sum + cost k j) (pa2 pa k j) b) k i b) (by
              have y := cnt_rem (f := fun i => !U (k + 1 + i)) hf hi
              have y2 : cnt (fun l => !(U (k + 1 + l) || decide (k + 1 + l = k + 1 + i))) d = cnt (fun l => (!U (k + 1 + l)) && !decide (l = i)) d := cnt_congr fun l _ => by
                have : k + 1 + l = k + 1 + i ↔ l = i := by omega
                simp [this]
              rw [y2]
              simp only [Bool.false_eq_true, if_false]
              omega)
            omega
          | succ c ih =>
            refine Nat.le_trans ?_ ih
            show (if U (k + 1 + (i + 1 + c)) = true then _ else _ : PB).1 ≤ _
            split
            · exact Nat.le_refl _
            · exact prD_le cost d _ _ _ _ _ _
        have := mono (d - (i + 1))
        rw [show i + 1 + (d - (i + 1)) = d by omega] at this
        exact this
/-! pairs() -/
def coS (s : SD) (t : ST) (i j : Nat) : Nat := ulS s t (s 6 i) (s 6 j) 24
theorem coS_le (s : SD) (t : ST) (i j : Nat) : coS s t i j ≤ 24 := cnt_le _ _
def prS (s : SD) (t : ST) : PB := prD (coS s t) (sS s) 0 (fun _ => false) (decide (sS s % 2 = 1)) 0 (fun _ => 0) (100000, fun _ => 0)
theorem prS_lt {s : SD} (hv : SV s) (t : ST) : (prS s t).1 < 100000 := by
  have hS := hv.2.2.2.1
  have hc : ∀ n, cnt (fun _ => true) n = n := fun n => by
    induction n with
    | zero => rfl
    | succ n ih => unfold cnt; rw [ih]; rfl
  have := pr_found (coS_le s t) (sS s) 0 (fun _ => false) (decide (sS s % 2 = 1)) 0 (fun _ => 0) (100000, fun _ => 0) (by
    show cnt (fun _ => true) (sS s) % 2 = _
    rw [hc]
    by_cases c : sS s % 2 = 1
    · rw [decide_eq_true c, c]; rfl
    · rw [decide_eq_false c]
      show sS s % 2 = 0
      omega)
  unfold prS
  omega
theorem f01b (b : Bool) : (if b = true then (1 : Int32) else 0) = (if b = true then 1 else 0) := rfl
theorem jr2 {S : Nat} (h : S ≤ 8) : (if jrem (nI S) 2 = 1 then (1 : Int32) else 0) = if decide (S % 2 = 1) = true then 1 else 0 := by
  have : ∀ S, S ≤ 8 → (if jrem (nI S) 2 = 1 then (1 : Int32) else 0) = if decide (S % 2 = 1) = true then 1 else 0 := by decide +kernel
  exact this S h
