/-! THE READER: the first line, and all -/
theorem f_clear {n : Nat} (μ : Mu) (hn : 10 < n) : ∃ μ', fX7_clear n 14 μ = some μ' ∧ rI μ' 14 0 = 1 ∧ (∀ j, 1 ≤ j → j ≤ 7 → rI μ' 14 j = 0) ∧ rI μ' 21 1 = 0 ∧ (∀ l, l < 3 → rI μ' 23 l = 0 ∧ rI μ' 24 l = 0) ∧ Fr (fun x => x = 14 ∨ x = 21 ∨ x = 23 ∨ x = 24) μ μ' := by
  have f0 : Fr (fun x => x = 14 ∨ x = 21 ∨ x = 23 ∨ x = 24) μ (wI (wI (wI (wI (wI (wI (wI (wI (wI μ 14 0 1) 14 1 0) 14 2 0) 14 3 0) 14 4 0) 14 5 0) 14 6 0) 14 7 0) 21 1 0) := (((((((((Fr.rfl' _ _).w (Or.inl rfl) _ _).w (Or.inl rfl) _ _).w (Or.inl rfl) _ _).w (Or.inl rfl) _ _).w (Or.inl rfl) _ _).w (Or.inl rfl) _ _).w (Or.inl rfl) _ _).w (Or.inl rfl) _ _).w (Or.inr (Or.inl rfl)) _ _
  have a0 : rI (wI (wI (wI (wI (wI (wI (wI (wI (wI μ 14 0 1) 14 1 0) 14 2 0) 14 3 0) 14 4 0) 14 5 0) 14 6 0) 14 7 0) 21 1 0) 14 0 = 1 := by simp [rw_I]
  have a1 : ∀ j, 1 ≤ j → j ≤ 7 → rI (wI (wI (wI (wI (wI (wI (wI (wI (wI μ 14 0 1) 14 1 0) 14 2 0) 14 3 0) 14 4 0) 14 5 0) 14 6 0) 14 7 0) 21 1 0) 14 j = 0 := fun j h1 h2 => by
    have : j = 1 ∨ j = 2 ∨ j = 3 ∨ j = 4 ∨ j = 5 ∨ j = 6 ∨ j = 7 := by omega
    rcases this with e | e | e | e | e | e | e <;> subst e <;> simp [rw_I]
  have a2 : rI (wI (wI (wI (wI (wI (wI (wI (wI (wI μ 14 0 1) 14 1 0) 14 2 0) 14 3 0) 14 4 0) 14 5 0) 14 6 0) 14 7 0) 21 1 0) 21 1 = 0 := rI_same _ _ _ _
  unfold fX7_clear fX3_clear
  generalize wI (wI (wI (wI (wI (wI (wI (wI (wI μ 14 0 1) 14 1 0) 14 2 0) 14 3 0) 14 4 0) 14 5 0) 14 6 0) 14 7 0) 21 1 0 = X at f0 a0 a1 a2
  obtain ⟨m1, g1, g2, g3⟩ := f_fillI (n := n) (a := 23) (N := 3) (v := 0) X (by omega) (by omega)
  obtain ⟨m2, h1, h2, h3⟩ := f_fillI (n := n) (a := 24) (N := 3) (v := 0) m1 (by omega) (by omega)
  have fr : Fr (fun x => x = 23 ∨ x = 24) X m2 := (g3.mono fun x q => Or.inl q).tr (h3.mono fun x q => Or.inr q)
  refine ⟨m2, ?_, ?_, fun j q1 q2 => ?_, ?_, fun l hl => ⟨?_, h2 l hl⟩, f0.tr (fr.mono fun x q => by omega)⟩
  · show bnd (bnd (fJ7_fill_53178 n 23 3 0 X) _) _ = _
    rw [g1, bnd_some, show fJ7_fill_53178 n (14 + 7 + 3) 3 0 m1 = some m2 from h1, bnd_some, bnd_some]
  · rw [fr.i (by omega)]; exact a0
  · rw [fr.i (by omega)]; exact a1 j q1 q2
  · rw [fr.i (by omega)]; exact a2
  · rw [h3.i (by omega)]; exact g2 l hl
theorem f_plain {n : Nat} (μ : Mu) (hn : 5000 < n) : ∃ μ', fX12_plain n 143 2242 μ = some μ' ∧ (∀ i, i < 2242 → rI μ' 143 i = if i = 1 then 1 else if 68 ≤ i ∧ i < 76 then -1 else 0) ∧ Fr (fun x => x = 143) μ μ' := by
  have k1 : Rn (lp n (sX12_plain_2 n 143 2242) (0, μ)) (fun m => (∀ k, k < 2242 → rI m 143 k = 0) ∧ Fr (fun x => x = 143) μ m) := by
    refine Rn.l 2242 (fun i q => q.1 = nI i ∧ (∀ k, k < i → rI q.2 143 k = 0) ∧ Fr (fun x => x = 143) μ q.2) _ (by omega) ⟨rfl, fun k hk => absurd hk (Nat.not_lt_zero _), Fr.rfl' _ _⟩ ?_ ?_
    · rintro i ⟨x, m⟩ hi ⟨e1, e2, e3⟩
      have e1 : x = nI i := e1
      subst e1
      have e2 : ∀ k, k < i → rI m 143 k = 0 := e2
      show Rn (if (2242 : Int32) ≤ nI i then _ else _) _
      rw [if_neg (fun e => by have : 2242 ≤ i := (le_l (k := 2242) (by decide) (by omega)).mp e; omega), ib_n hi (by omega), gd_true, ix_n (by omega)]
      refine Rn.so ⟨nI_add i 1, fun k hk => ?_, e3.w rfl _ _⟩
      show rI (wI m 143 i 0) 143 k = 0
      by_cases e : k = i
      · rw [e, rI_same]
      · rw [rI_ii e]; exact e2 k (by omega)
    · rintro ⟨x, m⟩ ⟨e1, e2, e3⟩
      have e1 : x = nI 2242 := e1
      subst e1
      exact Rn.e (r := m) (by
        simp only [sX12_plain_2]
        rw [if_pos (by decide)]) ⟨e2, e3⟩
  obtain ⟨m1, g1, g2, g3⟩ := k1
  have k2 : Rn (lp n (sX12_plain_25 n 143 2242) (0, wI m1 143 1 1)) (fun m => (∀ k, k < 8 → rI m 143 (68 + k) = -1) ∧ Fg (fun a i => a = 143 ∧ 68 ≤ i ∧ i < 76) (wI m1 143 1 1) m ∧ Fr (fun x => x = 143) (wI m1 143 1 1) m) := by
    refine Rn.l 8 (fun i q => q.1 = nI i ∧ (∀ k, k < i → rI q.2 143 (68 + k) = -1) ∧ Fg (fun a i => a = 143 ∧ 68 ≤ i ∧ i < 76) (wI m1 143 1 1) q.2 ∧ Fr (fun x => x = 143) (wI m1 143 1 1) q.2) _ (by omega) ⟨rfl, fun k hk => absurd hk (Nat.not_lt_zero _), Fg.rfl' _ _, Fr.rfl' _ _⟩ ?_ ?_
    · rintro i ⟨x, m⟩ hi ⟨e1, e2, e3, e4⟩
      have e1 : x = nI i := e1
      subst e1
      have e2 : ∀ k, k < i → rI m 143 (68 + k) = -1 := e2
      show Rn (if (8 : Int32) ≤ nI i then _ else _) _
      rw [if_neg (fun e => by have : 8 ≤ i := (le_l (k := 8) (by decide) (by omega)).mp e; omega), show (68 : Int32) + nI i = nI (68 + i) from nI_add 68 i, ib_n (by omega) (by omega), gd_true, ix_n (by omega)]
      refine Rn.so ⟨nI_add i 1, fun k hk => ?_, e3.w ⟨rfl, by omega, by omega⟩ _, e4.w rfl _ _⟩
      show rI (wI m 143 (68 + i) (-1)) 143 (68 + k) = -1
      by_cases e : k = i
      · rw [e, rI_same]
      · rw [rI_ii (by omega)]; exact e2 k (by omega)
    · rintro ⟨x, m⟩ ⟨e1, e2, e3, e4⟩
      have e1 : x = nI 8 := e1
      subst e1
      exact Rn.e (r := m) (by
        simp only [sX12_plain_25]
        rw [if_pos (by decide)]) ⟨e2, e3, e4⟩
  obtain ⟨m2, h1, h2, h3, h4⟩ := k2
  refine ⟨m2, ?_, fun i hi => ?_, fun a ha => ⟨fun i => ?_, fun i => ?_⟩⟩
  · unfold fX12_plain
    rw [g1, bnd_some, show ib 1 2242 = true from rfl, gd_true, h1, bnd_some]
  · by_cases e : 68 ≤ i ∧ i < 76
    · rw [if_neg (by omega), if_pos e]
      have := h2 (i - 68) (by omega)
      rw [show 68 + (i - 68) = i by omega] at this
      exact this
    · rw [if_neg e, h3.i (fun q => e q.2)]
      by_cases e1 : i = 1
      · rw [e1, rI_same]; rfl
      · rw [if_neg e1, rI_ii e1]; exact g2 i hi
  · rw [h3.i (fun q => ha q.1), rI_ai ha]; exact (g3 a ha).1 i
  · rw [(h4 a ha).2 i]
    exact (g3 a ha).2 i
