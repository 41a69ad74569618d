/-! TOKENS: the reference's next -/
theorem nI_subI {a i : Nat} (h : a ≤ a + i) : nI (a + i) - nI a = nI i := (pk_sub h).trans (congrArg nI (Nat.add_sub_cancel_left a i))
theorem sch1 : ∀ i, i < 12 → sch 1 i = nI (sgL.getD i 0) ∧ sgL.getD i 0 < 256 := by decide +kernel
theorem sgP_le : ∀ i, i ≤ 12 → ∀ v, sgP v i ≤ 41
  | 0, _, v => by show 25 ≤ 41; omega
  | i + 1, h, v => by
    unfold sgP
    have := sgP_le i (by omega) v
    split <;> omega
theorem r_signs {n a N : Nat} {B : Nat → Nat} {μ : Mu} (h : RTp μ B N) (ha : a < N) (h6 : rI μ 139 6 = nI a) (h9 : rI μ 139 9 = 25) (hn : 1000 < n) : Rn (lp n (sX12_next_254 n) (0, μ)) (fun m => rI m 139 9 = nI (sgK (B a)) ∧ Fg (fun a i => a = 139 ∧ i = 9) μ m) := by
  have hN := h.1
  have hb := (h.2.2 a ha).1
  refine Rn.l 12 (fun i q => q.1 = nI i ∧ rI q.2 139 9 = nI (sgP (B a) i) ∧ Fg (fun a i => a = 139 ∧ i = 9) μ q.2) _ (by omega) ⟨rfl, h9, Fg.rfl' _ _⟩ ?_ ?_
  · rintro i ⟨x, m⟩ hi ⟨e1, e2, e3⟩
    have e1 : x = nI i := e1
    have e2 : rI m 139 9 = nI (sgP (B a) i) := e2
    have e3 : Fg (fun a i => a = 139 ∧ i = 9) μ m := e3
    subst e1
    have ht := h.fg e3 (by omega) (fun i => by omega)
    have m6 : rI m 139 6 = nI a := by rw [e3.i (by omega)]; exact h6
    obtain ⟨s1, s2⟩ := sch1 i hi
    show Rn (if (12 : Int32) ≤ nI i then _ else _) _
    rw [if_neg (fun e => by have : 12 ≤ i := (le_l (k := 12) (by decide) (by omega)).mp e; omega), m6, r_see ht (by omega), bnd_some, if_pos ha, ib_n (by omega) (by omega), gd_true, ix_n (by omega), s1]
    have es : sgP (B a) (i + 1) = if B a = sgL.getD i 0 then 30 + i else sgP (B a) i := rfl
    by_cases c : B a = sgL.getD i 0
    · rw [if_pos (by rw [c]), show (30 : Int32) + nI i = nI (30 + i) from nI_add 30 i]
      rw [if_pos c] at es
      exact Rn.so ⟨nI_add i 1, by rw [es]; exact rI_same _ _ _ _, e3.w ⟨rfl, rfl⟩ _⟩
    · rw [if_neg (fun e => c ((nI_eq (by omega) (by omega)).mp e))]
      rw [if_neg c] at es
      exact Rn.so ⟨nI_add i 1, by rw [es]; exact e2, e3⟩
  · rintro ⟨x, m⟩ ⟨e1, e2, e3⟩
    have e1 : x = nI 12 := e1
    subst e1
    exact Rn.e (r := m) rfl ⟨e2, e3⟩
theorem r_run {n a N : Nat} {B : Nat → Nat} {μ : Mu} (h : RTp μ B N) (ha : a ≤ N) (h7 : rI μ 139 7 = nI a) (hn : 1000 < n) : Rn (lp n (sX12_next_89 n) μ) (fun m => rI m 139 7 = nI (runE (ltB B) a N) ∧ Fg (fun a i => a = 139 ∧ i = 7) μ m) := by
  have hN := h.1
  obtain ⟨g1, g2, g3, g4⟩ := run_spec (ltB B) ha
  refine Rn.l (runE (ltB B) a N - a) (fun i m => rI m 139 7 = nI (a + i) ∧ Fg (fun a i => a = 139 ∧ i = 7) μ m) _ (by omega) ⟨h7, Fg.rfl' _ _⟩ ?_ ?_
  · rintro i m hi ⟨e1, e2⟩
    have ht := h.fg e2 (by omega) (fun i => by omega)
    have w := g3 (a + i) (by omega) (by omega)
    show Rn (bnd (fX12_see n (rI m 139 7) m) _) _
    rw [e1, r_see ht (by omega), bnd_some, r_small (n := n) (m := m) ht, bnd_some, ifb, if_pos (by rw [w, decide_eq_true (show a + i < N by omega)]; rfl), show nI (a + i) + 1 = nI (a + i + 1) from nI_add _ 1]
    exact Rn.so ⟨rI_same _ _ _ _, e2.w ⟨rfl, rfl⟩ _⟩
  · rintro m ⟨e1, e2⟩
    rw [show a + (runE (ltB B) a N - a) = runE (ltB B) a N by omega] at e1
    have ht := h.fg e2 (by omega) (fun i => by omega)
    refine Rn.e (r := m) ?_ ⟨e1, e2⟩
    show bnd (fX12_see n (rI m 139 7) m) _ = _
    rw [e1, r_see ht (by omega), bnd_some, r_small (n := n) (m := m) ht, bnd_some, ifb, if_neg ?_]
    by_cases c : runE (ltB B) a N < N
    · rw [g4 c, Bool.and_false]; decide
    · rw [decide_eq_false c, Bool.false_and]; decide
theorem r_dig {n a N : Nat} {B : Nat → Nat} {μ : Mu} (h : RTp μ B N) (ha : a ≤ N) (h6 : rI μ 139 6 = nI a) (h7 : rI μ 139 7 = nI a) (h10 : rI μ 139 10 = 0) (hn : 1000 < n) : Rn (lp n (sX12_next_146 n) μ) (fun m => rI m 139 7 = nI (runE (dgB B) a N) ∧ (runE (dgB B) a N - a ≤ 3 → rI m 139 10 = nI (nmN B a (runE (dgB B) a N - a))) ∧ Fg (fun a i => a = 139 ∧ (i = 7 ∨ i = 10)) μ m) := by
  have hN := h.1
  obtain ⟨g1, g2, g3, g4⟩ := run_spec (dgB B) ha
  refine Rn.l (runE (dgB B) a N - a) (fun i m => rI m 139 7 = nI (a + i) ∧ rI m 139 10 = nI (nmN B a (min i 3)) ∧ Fg (fun a i => a = 139 ∧ (i = 7 ∨ i = 10)) μ m) _ (by omega) ⟨h7, h10, Fg.rfl' _ _⟩ ?_ ?_
  · rintro i m hi ⟨e1, e0, e2⟩
    have ht := h.fg e2 (by omega) (fun i => by omega)
    have m6 : rI m 139 6 = nI a := by rw [e2.i (by omega)]; exact h6
    have w := g3 (a + i) (by omega) (by omega)
    show Rn (bnd (fX12_see n (rI m 139 7) m) _) _
    rw [e1, r_see ht (by omega), bnd_some, r_digit (n := n) (m := m) ht, bnd_some, ifb, if_pos (by rw [w, decide_eq_true (show a + i < N by omega)]; rfl), m6, show nI (a + i) - nI a = nI i from nI_subI (by omega)]
    by_cases c : 3 ≤ i
    · rw [if_pos ((le_l (k := 3) (by decide) (by omega)).mpr c)]
      unfold jX12_next_196
      rw [e1, show nI (a + i) + 1 = nI (a + i + 1) from nI_add _ 1]
      refine Rn.so ⟨rI_same _ _ _ _, ?_, e2.w ⟨rfl, Or.inl rfl⟩ _⟩
      rw [rI_ii (by decide), e0, show min i 3 = min (i + 1) 3 by omega]
    · have d : ∀ k, k < i + 1 → 48 ≤ B (a + k) ∧ B (a + k) ≤ 57 := fun k hk => of_decide_eq_true (g3 (a + k) (by omega) (by omega))
      have dl := nm_lt (B := B) (a := a) i (fun k hk => d k (by omega))
      have d0 := d i (by omega)
      have pl : 10 ^ i ≤ 10 ^ 2 := Nat.pow_le_pow_right (by omega) (by omega)
      have e0 : rI m 139 10 = nI (nmN B a i) := by rw [e0, show min i 3 = i by omega]
      have ev : ((10 : Int32) * (rI m 139 10) + nI (B (a + i))) - 48 = nI (nmN B a (min (i + 1) 3)) := by
        rw [e0, show min (i + 1) 3 = i + 1 by omega]
        show (10 * nI (nmN B a i) + nI (B (a + i))) - 48 = nI (10 * nmN B a i + (B (a + i) - 48))
        rw [show (10 : Int32) * nI (nmN B a i) = nI (10 * nmN B a i) from pk_mul 10 _, nI_add, show (48 : Int32) = nI 48 from rfl, show 10 * nmN B a i + B (a + i) = 48 + (10 * nmN B a i + (B (a + i) - 48)) by omega]
        exact nI_subI (by omega)
      rw [if_neg (fun e => c ((le_l (k := 3) (by decide) (by omega)).mp e)), if_pos (show a + i < N by omega), bnd_some, ev]
      unfold jX12_next_196
      rw [rI_ii (by decide), e1, show nI (a + i) + 1 = nI (a + i + 1) from nI_add _ 1]
      refine Rn.so ⟨rI_same _ _ _ _, ?_, (e2.w ⟨rfl, Or.inr rfl⟩ _).w ⟨rfl, Or.inl rfl⟩ _⟩
      rw [rI_ii (by decide), rI_same]
  · rintro m ⟨e1, e0, e2⟩
    rw [show a + (runE (dgB B) a N - a) = runE (dgB B) a N by omega] at e1
    have ht := h.fg e2 (by omega) (fun i => by omega)
    refine Rn.e (r := m) ?_ ⟨e1, fun hl => by rw [e0, Nat.min_eq_left hl], e2⟩
    show bnd (fX12_see n (rI m 139 7) m) _ = _
    rw [e1, r_see ht (by omega), bnd_some, r_digit (n := n) (m := m) ht, bnd_some, ifb, if_neg ?_]
    by_cases c : runE (dgB B) a N < N
    · rw [g4 c, Bool.and_false]; decide
    · rw [decide_eq_false c, Bool.false_and]; decide
