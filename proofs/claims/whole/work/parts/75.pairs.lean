/-! PAIRS: a search in depth -/
abbrev PB : Type := Nat × (Nat → Int32)
def loopF (f : Nat → PB → PB) (k : Nat) : Nat → PB → PB
  | 0, b => b
  | c + 1, b => f (k + 1 + c) (loopF f k c b)
def pa2 (pa : Nat → Int32) (k j : Nat) : Nat → Int32 := fun i => if i = j then nI k else if i = k then nI j else pa i
def pa1 (pa : Nat → Int32) (k : Nat) : Nat → Int32 := fun i => if i = k then -1 else pa i
def prD (cost : Nat → Nat → Nat) : Nat → Nat → (Nat → Bool) → Bool → Nat → (Nat → Int32) → PB → PB
  | 0, _, _, _, sum, pa, b => if sum < b.1 then (sum, pa) else b
  | d + 1, k, U, left, sum, pa, b =>
    if U k = true then prD cost d (k + 1) U left sum pa b
    else
      if left = true then prD cost d (k + 1) U false sum (pa1 pa k) (loopF (fun j b => if U j = true then b else prD cost d (k + 1) (fun i => U i || decide (i = j)) left (sum + cost k j) (pa2 pa k j) b) k d b)
      else loopF (fun j b => if U j = true then b else prD cost d (k + 1) (fun i => U i || decide (i = j)) left (sum + cost k j) (pa2 pa k j) b) k d b
theorem loopF_id {f : Nat → PB → PB} {k : Nat} {b : PB} (h : ∀ j, f j b = b) : ∀ c, loopF f k c b = b
  | 0 => rfl
  | c + 1 => by unfold loopF; rw [loopF_id h c, h]
theorem prD_prune (cost : Nat → Nat → Nat) : ∀ d k U left sum pa b, b.1 ≤ sum → prD cost d k U left sum pa b = b
  | 0, k, U, left, sum, pa, b, h => by unfold prD; rw [if_neg (by omega)]
  | d + 1, k, U, left, sum, pa, b, h => by
    have hl : loopF (fun j b => if U j = true then b else prD cost d (k + 1) (fun i => U i || decide (i = j)) left (sum + cost k j) (pa2 pa k j) b) k d b = b := loopF_id (fun j => by
      show (if U j = true then b else prD cost d (k + 1) (fun i => U i || decide (i = j)) left (sum + cost k j) (pa2 pa k j) b) = b
      split
      · rfl
      · exact prD_prune cost d _ _ _ _ _ b (by omega)) d
    unfold prD
    split
    · exact prD_prune cost d _ _ _ _ _ b h
    · split
      · rw [hl]; exact prD_prune cost d _ _ _ _ _ b h
      · exact hl
theorem prD_le (cost : Nat → Nat → Nat) : ∀ d k U left sum pa b, (prD cost d k U left sum pa b).1 ≤ b.1
  | 0, k, U, left, sum, pa, b => by
    unfold prD
    split
    · show sum ≤ b.1; omega
    · exact Nat.le_refl _
  | d + 1, k, U, left, sum, pa, b => by
    have hl : ∀ c, (loopF (fun j b => if U j = true then b else prD cost d (k + 1) (fun i => U i || decide (i = j)) left (sum + cost k j) (pa2 pa k j) b) k c b).1 ≤ b.1 := by
      intro c
      induction c with
      | zero => exact Nat.le_refl _
      | succ c ih =>
        refine Nat.le_trans ?_ ih
        show (if U (k + 1 + c) = true then _ else _ : PB).1 ≤ _
        split
        · exact Nat.le_refl _
        · exact prD_le cost d _ _ _ _ _ _
    unfold prD
    split
    · exact prD_le cost d _ _ _ _ _ b
    · split
      · exact Nat.le_trans (prD_le cost d _ _ _ _ _ _) (hl d)
      · exact hl d
/-- what the class's search holds -/
def PA (μ : Mu) (S : Nat) (cost : Nat → Nat → Nat) (b : PB) : Prop := rI μ 124 4 = nI S ∧ rI μ 124 3 = nI b.1 ∧ (∀ i j, i < j → j < S → rI μ 125 (i * 8 + j) = nI (cost i j)) ∧ (b.1 < 100000 → ∀ i, i < S → rI μ 127 i = b.2 i)
def PAf (S k : Nat) (U : Nat → Bool) (μ μ' : Mu) : Prop := Fr (fun x => x = 124 ∨ x = 126 ∨ x = 127) μ μ' ∧ ∀ i, i < S → (i < k ∨ U i = true) → rI μ' 126 i = rI μ 126 i
theorem c_pair {n S : Nat} {cost : Nat → Nat → Nat} (hS : S ≤ 8) (hc : ∀ i j, cost i j ≤ 24) (hn : 1000 < n) : ∀ d D k U left sum pa b x2 μ, k + d = S → d < D → sum ≤ 100 * k → b.1 ≤ 100000 → PA μ S cost b → bs x2 S (fun i => !U i) → (∀ i, i < S → (i < k ∨ U i = true) → rI μ 126 i = pa i) → ∃ μ', fX4_Q n D 0 (nI k) x2 (nI sum) (if left = true then 1 else 0) μ = some μ' ∧ PA μ' S cost (prD cost d k U left sum pa b) ∧ PAf S k U μ μ' := by
  intro d
  induction d with
  | zero =>
    intro D k U left sum pa b x2 μ hk hD hs hb hp hx hm
    obtain ⟨D, rfl⟩ : ∃ q, D = q + 1 := ⟨D - 1, by omega⟩
    obtain ⟨a1, a2, a3, a4⟩ := hp
    show ∃ μ', bX4_pairFrom n (fX4_Q n D) (nI k) x2 (nI sum) (if left = true then 1 else 0) μ = some μ' ∧ _
    unfold bX4_pairFrom
    rw [a2, a1]
    simp (disch := first | omega | decide) only [gd_true, bnd_some, bnd2_some, ix_n, ib_n, add_l, add_r, mul_l, mul_r, nI_add, sub_r, nI_leI, nI_ltI, nI_eq, le_l, le_r, lt_l, lt_r, eq_l, eq_r, eq_m, if_true, if_false, not_false_eq_true, not_true_eq_false]
    unfold prD
    by_cases c : sum < b.1
    · rw [if_pos c, if_neg (show ¬ k < S by omega), if_pos c]
      refine ⟨_, rfl, ⟨?_, ?_, fun i j hi hj => ?_, fun _ i hi => ?_⟩, ?_, fun i hi _ => ?_⟩
      · rw [rI_cn (by decide), rI_ii (by decide)]; exact a1
      · rw [rI_cn (by decide), rI_same]
      · rw [rI_cn (by decide), rI_ai (by decide)]; exact a3 i j hi hj
      · rw [rI_cy (by omega), rI_ai (by decide)]; exact hm i hi (Or.inl (by omega))
      · exact ((Fr.rfl' _ _).w (Or.inl rfl) _ _).cp (Or.inr (Or.inr rfl)) _ _ _ _
      · rw [rI_cn (by decide), rI_ai (by decide)]
    · rw [if_neg c, if_neg c]
      exact ⟨μ, rfl, ⟨a1, a2, a3, a4⟩, Fr.rfl' _ _, fun _ _ _ => rfl⟩
  | succ d ih =>
    intro D k U left sum pa b x2 μ hk hD hs hb hp hx hm
    obtain ⟨D, rfl⟩ : ∃ q, D = q + 1 := ⟨D - 1, by omega⟩
    have hp0 := hp
    obtain ⟨a1, a2, a3, a4⟩ := hp
    show ∃ μ', bX4_pairFrom n (fX4_Q n D) (nI k) x2 (nI sum) (if left = true then 1 else 0) μ = some μ' ∧ _
    unfold bX4_pairFrom
    rw [a2, a1]
    simp (disch := first | omega | decide) only [gd_true, bnd_some, bnd2_some, ix_n, ib_n, add_l, add_r, mul_l, mul_r, nI_add, sub_r, nI_leI, nI_ltI, nI_eq, le_l, le_r, lt_l, lt_r, eq_l, eq_r, eq_m, if_true, if_false, not_false_eq_true, not_true_eq_false, b_test]
    by_cases c : sum < b.1
    · rw [if_pos c, if_pos (show k < S by omega)]
      have hbk : bt x2 k = !U k := bs_at hx (by omega) (by omega)
      rw [hbk]
      by_cases cu : U k = true
      · obtain ⟨m', g1, g2, g3, g4⟩ := ih D (k + 1) U left sum pa b x2 μ (by omega) (by omega) (by omega) hb hp0 hx (fun i hi h => hm i hi (by
          rcases h with h | h
          · by_cases e : i = k
            · rw [e]; exact Or.inr cu
            · exact Or.inl (by omega)
          · exact Or.inr h))
        refine ⟨m', ?_, ?_, g3, fun i hi h => g4 i hi (by
          rcases h with h | h
          · exact Or.inl (by omega)
          · exact Or.inr h)⟩
        · rw [cu, if_pos (by decide), g1, bnd_some]
        · unfold prD; rw [if_pos cu]; exact g2
      · have cu' : U k = false := by simpa using cu
        rw [cu', if_neg (by decide)]
        -- the partners
        have lo : Rn (lp n (sX4_pairFrom_63 n (fX4_Q n D) (nI k) x2 (nI sum) (if left = true then 1 else 0)) (nI (k + 1), μ)) (fun m => PA m S cost (loopF (fun j b => if U j = true then b else prD cost d (k + 1) (fun i => U i || decide (i = j)) left (sum + cost k j) (pa2 pa k j) b) k d b) ∧ PAf S k U μ m) := by
          refine Rn.l d (fun i q => q.1 = nI (k + 1 + i) ∧ PA q.2 S cost (loopF (fun j b => if U j = true then b else prD cost d (k + 1) (fun i => U i || decide (i = j)) left (sum + cost k j) (pa2 pa k j) b) k i b) ∧ PAf S k U μ q.2 ∧ (loopF (fun j b => if U j = true then b else prD cost d (k + 1) (fun i => U i || decide (i = j)) left (sum + cost k j) (pa2 pa k j) b) k i b).1 ≤ 100000) _ (by omega) ⟨rfl, hp0, ⟨Fr.rfl' _ _, fun _ _ _ => rfl⟩, hb⟩ ?_ ?_
          · rintro i ⟨x, m⟩ hi ⟨e1, e2, ⟨e3, e4⟩, e5⟩
            have e1 : x = nI (k + 1 + i) := e1
            subst e1
            have e2 : PA m S cost _ := e2
            have e3 : Fr (fun x => x = 124 ∨ x = 126 ∨ x = 127) μ m := e3
            have e4 : ∀ i, i < S → (i < k ∨ U i = true) → rI m 126 i = rI μ 126 i := e4
            generalize hb' : loopF (fun j b => if U j = true then b else prD cost d (k + 1) (fun i => U i || decide (i = j)) left (sum + cost k j) (pa2 pa k j) b) k i b = b' at e2 e5
            have el : loopF (fun j b => if U j = true then b else prD cost d (k + 1) (fun i => U i || decide (i = j)) left (sum + cost k j) (pa2 pa k j) b) k (i + 1) b = if U (k + 1 + i) = true then b' else prD cost d (k + 1) (fun l => U l || decide (l = k + 1 + i)) left (sum + cost k (k + 1 + i)) (pa2 pa k (k + 1 + i)) b' := by
              rw [← hb']; rfl
            have hbj : bt x2 (k + 1 + i) = !U (k + 1 + i) := bs_at hx (by omega) (by omega)
            have q1 : rI m 124 4 = nI S := e2.1
            simp (disch := first | omega | decide) only [sX4_pairFrom_63, gd_true, bnd_some, bnd2_some, ix_n, ib_n, add_l, add_r, mul_l, mul_r, nI_add, sub_r, nI_leI, nI_ltI, nI_eq, le_l, le_r, lt_l, lt_r, eq_l, eq_r, eq_m, if_true, if_false, not_false_eq_true, not_true_eq_false, q1, show ¬ S ≤ k + 1 + i by omega, b_test, hbj, t01]
            by_cases cj : U (k + 1 + i) = true
            · rw [cj, if_neg (by decide)]
              refine Rn.so ⟨rfl, ?_, ⟨e3, e4⟩, ?_⟩
              · rw [el, if_pos cj]; exact e2
              · rw [el, if_pos cj]; exact e5
            · have cj' : U (k + 1 + i) = false := by simpa using cj
              rw [cj', if_pos (by decide)]
              have hcost : rI (wI (wI m 126 k (nI (k + 1 + i))) 126 (k + 1 + i) (nI k)) 125 (k * 8 + (k + 1 + i)) = nI (cost k (k + 1 + i)) := by
                rw [rI_ai (by decide), rI_ai (by decide)]; exact e2.2.2.1 k (k + 1 + i) (by omega) (by omega)
              have hcl := hc k (k + 1 + i)
              have hp2 : PA (wI (wI m 126 k (nI (k + 1 + i))) 126 (k + 1 + i) (nI k)) S cost b' := by
                obtain ⟨z1, z2, z3, z4⟩ := e2
                exact ⟨by rw [rI_ai (by decide), rI_ai (by decide)]; exact z1, by rw [rI_ai (by decide), rI_ai (by decide)]; exact z2, fun i j h1 h2 => by rw [rI_ai (by decide), rI_ai (by decide)]; exact z3 i j h1 h2, fun h i hi => by rw [rI_ai (by decide), rI_ai (by decide)]; exact z4 h i hi⟩
              obtain ⟨m', g1, g2, g3, g4⟩ := ih D (k + 1) (fun l => U l || decide (l = k + 1 + i)) left (sum + cost k (k + 1 + i)) (pa2 pa k (k + 1 + i)) b' (x2 &&& (shl 1 (nI (k + 1 + i)) ^^^ (-1))) (wI (wI m 126 k (nI (k + 1 + i))) 126 (k + 1 + i) (nI k)) (by omega) (by omega) (by omega) e5 hp2 (bs_congr (bs_andn hx (bs_bit (k := k + 1 + i) (by omega) (by omega))) fun l hl => by cases U l <;> simp) (fun l hl h => by
                unfold pa2
                by_cases z1 : l = k + 1 + i
                · rw [if_pos z1, z1, rI_same]
                · rw [if_neg z1, rI_ii z1]
                  by_cases z2 : l = k
                  · rw [if_pos z2, z2, rI_same]
                  · rw [if_neg z2, rI_ii z2]
                    have hh : l < k ∨ U l = true := by
                      rcases h with h | h
                      · exact Or.inl (by omega)
                      · right; simpa [z1] using h
                    rw [e4 l hl hh]; exact hm l hl hh)
              simp only [hcost, nI_add]
              rw [g1, bnd_some]
              refine Rn.so ⟨rfl, ?_, ⟨e3.tr (((Fr.rfl' _ _).w (Or.inr (Or.inl rfl)) _ _).w (Or.inr (Or.inl rfl)) _ _ |>.tr g3), fun l hl h => ?_⟩, ?_⟩
              · rw [el, if_neg cj]; exact g2
              · show rI m' 126 l = _
                have z1 : l ≠ k + 1 + i := fun e => by
                  rcases h with h | h
                  · omega
                  · rw [e, cj'] at h; cases h
                have z2 : l ≠ k := fun e => by
                  rcases h with h | h
                  · omega
                  · rw [e, cu'] at h; cases h
                rw [g4 l hl (by
                  rcases h with h | h
                  · exact Or.inl (by omega)
                  · right; simp [h]), rI_ii z1, rI_ii z2]
                exact e4 l hl h
              · rw [el, if_neg cj]; exact Nat.le_trans (prD_le _ _ _ _ _ _ _ _) e5
          · rintro ⟨x, m⟩ ⟨e1, e2, e3, e5⟩
            have e1 : x = nI (k + 1 + d) := e1
            subst e1
            exact Rn.e (r := m) (ite_le (by rw [e2.1]; congr 1; omega)) ⟨e2, e3⟩
        obtain ⟨m1, l1, l2, l3, l4⟩ := lo
        rw [l1, bnd_some]
        have hbl : (loopF (fun j b => if U j = true then b else prD cost d (k + 1) (fun i => U i || decide (i = j)) left (sum + cost k j) (pa2 pa k j) b) k d b).1 ≤ 100000 := by
          have : ∀ c, (loopF (fun j b => if U j = true then b else prD cost d (k + 1) (fun i => U i || decide (i = j)) left (sum + cost k j) (pa2 pa k j) b) k c b).1 ≤ 100000 := by
            intro c
            induction c with
            | zero => exact hb
            | succ c ih2 =>
              refine Nat.le_trans ?_ ih2
              show (if U (k + 1 + c) = true then _ else _ : PB).1 ≤ _
              split
              · exact Nat.le_refl _
              · exact prD_le cost d _ _ _ _ _ _
          exact this d
        unfold prD
        rw [if_neg cu]
        cases left with
        | false =>
          exact ⟨m1, rfl, l2, l3, l4⟩
        | true =>
          simp (disch := first | omega | decide) only [gd_true, bnd_some, bnd2_some, ix_n, ib_n, add_l, add_r, mul_l, mul_r, nI_add, sub_r, nI_leI, nI_ltI, nI_eq, le_l, le_r, lt_l, lt_r, eq_l, eq_r, eq_m, if_true, if_false, not_false_eq_true, not_true_eq_false]
          rw [if_neg (show ¬ (1 : Int32) = 0 by decide)]
          have hp3 : PA (wI m1 126 k (-1)) S cost _ := ⟨by rw [rI_ai (by decide)]; exact l2.1, by rw [rI_ai (by decide)]; exact l2.2.1, fun i j h1 h2 => by rw [rI_ai (by decide)]; exact l2.2.2.1 i j h1 h2, fun h i hi => by rw [rI_ai (by decide)]; exact l2.2.2.2 h i hi⟩
          obtain ⟨m', g1, g2, g3, g4⟩ := ih D (k + 1) U false sum (pa1 pa k) _ x2 (wI m1 126 k (-1)) (by omega) (by omega) (by omega) hbl hp3 hx (fun l hl h => by
            unfold pa1
            by_cases z2 : l = k
            · rw [if_pos z2, z2, rI_same]
            · rw [if_neg z2, rI_ii z2]
              have hh : l < k ∨ U l = true := by
                rcases h with h | h
                · exact Or.inl (by omega)
                · exact Or.inr h
              rw [l4 l hl hh]; exact hm l hl hh)
          refine ⟨m', ?_, g2, l3.tr (((Fr.rfl' _ _).w (Or.inr (Or.inl rfl)) _ _).tr g3), fun l hl h => ?_⟩
          · have g1 : fX4_Q n D 0 (nI (k + 1)) x2 (nI sum) 0 (wI m1 126 k (-1)) = some m' := g1
            rw [g1, bnd_some]
          · have z2 : l ≠ k := fun e => by
              rcases h with h | h
              · omega
              · rw [e, cu'] at h; cases h
            rw [g4 l hl (by
              rcases h with h | h
              · exact Or.inl (by omega)
              · exact Or.inr h), rI_ii z2]
            exact l4 l hl h
    · rw [if_neg c]
      refine ⟨μ, rfl, ?_, Fr.rfl' _ _, fun _ _ _ => rfl⟩
      rw [prD_prune cost (d + 1) k U left sum pa b (by omega)]
      exact hp0
