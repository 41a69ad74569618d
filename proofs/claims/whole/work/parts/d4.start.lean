/-! THE START -/
theorem f_plainA {n n0 : Nat} (μ : Mu) (h0 : 2242 ≤ n0) (h1 : n0 < 2147483648) (hn : 5000 < n) : ∃ μ', fX12_plain n 140 n0 μ = some μ' ∧ (∀ i, i < 2242 → rI μ' 140 i = if i = 1 then 1 else if 68 ≤ i ∧ i < 76 then -1 else 0) ∧ Fr (fun x => x = 140) μ μ' := by
  have k1 : Rn (lp n (sX12_plain_2 n 140 n0) (0, μ)) (fun m => (∀ k, k < 2242 → rI m 140 k = 0) ∧ Fr (fun x => x = 140) μ m) := by
    refine Rn.l 2242 (fun i q => q.1 = nI i ∧ (∀ k, k < i → rI q.2 140 k = 0) ∧ Fr (fun x => x = 140) μ q.2) _ (by omega) ⟨rfl, fun k hk => absurd hk (Nat.not_lt_zero _), Fr.rfl' _ _⟩ ?_ ?_
    · rintro i ⟨x, m⟩ hi ⟨e1, e2, e3⟩
      have e1 : x = nI i := e1
      subst e1
      have e2 : ∀ k, k < i → rI m 140 k = 0 := e2
      show Rn (if (2242 : Int32) ≤ nI i then _ else _) _
      rw [if_neg (fun e => by have : 2242 ≤ i := (le_l (k := 2242) (by decide) (by omega)).mp e; omega), ib_n (by omega) (by omega), gd_true, ix_n (by omega)]
      refine Rn.so ⟨nI_add i 1, fun k hk => ?_, e3.w rfl _ _⟩
      show rI (wI m 140 i 0) 140 k = 0
      by_cases e : k = i
      · rw [e, rI_same]
      · rw [rI_ii e]; exact e2 k (by omega)
    · rintro ⟨x, m⟩ ⟨e1, e2, e3⟩
      have e1 : x = nI 2242 := e1
      subst e1
      exact Rn.e (r := m) (by
        simp only [sX12_plain_2]
        rw [if_pos (by decide)]) ⟨e2, e3⟩
  have g0 := k1
  obtain ⟨m1, g1, g2, g3⟩ := g0
  have k2 : Rn (lp n (sX12_plain_25 n 140 n0) (0, wI m1 140 1 1)) (fun m => (∀ k, k < 8 → rI m 140 (68 + k) = -1) ∧ Fg (fun a i => a = 140 ∧ 68 ≤ i ∧ i < 76) (wI m1 140 1 1) m ∧ Fr (fun x => x = 140) (wI m1 140 1 1) m) := by
    refine Rn.l 8 (fun i q => q.1 = nI i ∧ (∀ k, k < i → rI q.2 140 (68 + k) = -1) ∧ Fg (fun a i => a = 140 ∧ 68 ≤ i ∧ i < 76) (wI m1 140 1 1) q.2 ∧ Fr (fun x => x = 140) (wI m1 140 1 1) q.2) _ (by omega) ⟨rfl, fun k hk => absurd hk (Nat.not_lt_zero _), Fg.rfl' _ _, Fr.rfl' _ _⟩ ?_ ?_
    · rintro i ⟨x, m⟩ hi ⟨e1, e2, e3, e4⟩
      have e1 : x = nI i := e1
      subst e1
      have e2 : ∀ k, k < i → rI m 140 (68 + k) = -1 := e2
      show Rn (if (8 : Int32) ≤ nI i then _ else _) _
      rw [if_neg (fun e => by have : 8 ≤ i := (le_l (k := 8) (by decide) (by omega)).mp e; omega), show (68 : Int32) + nI i = nI (68 + i) from nI_add 68 i, ib_n (by omega) (by omega), gd_true, ix_n (by omega)]
      refine Rn.so ⟨nI_add i 1, fun k hk => ?_, e3.w ⟨rfl, by omega, by omega⟩ _, e4.w rfl _ _⟩
      show rI (wI m 140 (68 + i) (-1)) 140 (68 + k) = -1
      by_cases e : k = i
      · rw [e, rI_same]
      · rw [rI_ii (by omega)]; exact e2 k (by omega)
    · rintro ⟨x, m⟩ ⟨e1, e2, e3, e4⟩
      have e1 : x = nI 8 := e1
      subst e1
      exact Rn.e (r := m) (by
        simp only [sX12_plain_25]
        rw [if_pos (by decide)]) ⟨e2, e3, e4⟩
  obtain ⟨m2, h1, h2, h3, h4⟩ := k2
  refine ⟨m2, ?_, fun i hi => ?_, fun a ha => ⟨fun i => ?_, fun i => ?_⟩⟩
  · unfold fX12_plain
    rw [g1, bnd_some, show ib 1 n0 = true from (ib_n (by omega) (by omega) : ib (nI 1) n0 = true), gd_true, h1, bnd_some]
  · by_cases e : 68 ≤ i ∧ i < 76
    · rw [if_neg (by omega), if_pos e]
      have := h2 (i - 68) (by omega)
      rw [show 68 + (i - 68) = i by omega] at this
      exact this
    · rw [if_neg e, h3.i (fun q => e q.2)]
      by_cases e1 : i = 1
      · rw [e1, rI_same]; rfl
      · rw [if_neg e1, rI_ii e1]; exact g2 i hi
  · rw [h3.i (fun q => ha q.1), rI_ai ha]; exact (g3 a ha).1 i
  · rw [(h4 a ha).2 i]
    exact (g3 a ha).2 i

def s0 : SD := fun a i => if a = 0 ∧ i = 0 then 1 else 0
theorem s0_SV : SV s0 := by
  refine ⟨⟨Nat.le_refl 1, by decide⟩, by decide, by decide, by decide, fun c h => absurd h (Nat.not_lt_zero _), fun c h => absurd h (Nat.not_lt_zero _), fun c h => absurd h (Nat.not_lt_zero _), fun l hl => ⟨?_, fun q => ?_⟩, by decide, by decide, by decide⟩
  · have : sLn s0 l = 0 := by unfold sLn s0; rw [if_neg (by omega)]
    omega
  · have : sLn s0 l = 0 := by unfold sLn s0; rw [if_neg (by omega)]
    omega
theorem s0_L {l : Nat} : sLn s0 l = 0 := by unfold sLn s0; rw [if_neg (by omega)]
theorem st_2 : ∀ j, j < 8 → rI TS127.2.2 2 j = if j = 0 then 1 else 0 := by decide +kernel
theorem st_9 : rI TS127.2.2 9 1 = 0 ∧ ∀ l, l < 3 → rI TS127.2.2 11 l = 0 ∧ rI TS127.2.2 12 l = 0 := by decide +kernel
theorem st_29 : ∀ i, i < 288 → rI TS127.2.2 29 i = -1 := by decide +kernel
theorem st_30 : ∀ i, i < 48 → rI TS127.2.2 30 i = -1 := by decide +kernel
theorem st_31 : ∀ i, i < 432 → rI TS127.2.2 31 i = -1 := by decide +kernel
theorem st_34 : ∀ j, j < 4 → rI TS127.2.2 34 j = 0 := by decide +kernel
theorem st_40 : ∀ p, p < 6 → rI TS127.2.2 40 p = 0 := by decide +kernel
theorem st_48 : rI TS127.2.2 48 1 = 0 ∧ rI TS127.2.2 48 2 = 0 := by decide +kernel
theorem st_tr : ∀ T, T < 4 → rI TS127.2.2 (129 + 2 * T) 1 = -1 ∧ rI TS127.2.2 152 T = -1 := by decide +kernel
theorem st_0 : rI TS127.2.2 0 1 = 0 ∧ rI TS127.2.2 0 2 = 0 ∧ rI TS127.2.2 0 3 = -1 ∧ rI TS127.2.2 139 5 = 0 ∧ rI TS127.2.2 139 13 = 0 ∧ rI TS127.2.2 139 14 = -1 ∧ rI TS127.2.2 139 19 = 0 := by decide +kernel
theorem st_im : ∀ i, i < 2 → TS127.2.1 137 i = none ∧ rI TS127.2.2 141 i = 0 := by decide +kernel
theorem start_INV {n : Nat} (hn : 5000 < n) : ∃ μ, fX12_plain n 140 6726 TS127.2.2 = some μ ∧ INV 0 TS127.1 TS127.2.1 μ := by
  obtain ⟨μ, g1, g2, g3⟩ := f_plainA (n := n) (n0 := 6726) TS127.2.2 (by omega) (by omega) hn
  have o : ∀ a i, a ≠ 140 → rI μ a i = rI TS127.2.2 a i := fun a i ha => g3.i ha i
  refine ⟨μ, g1, s0, begS s0, 0, fun _ => begS s0, ⟨s0_SV, begS_TV s0_SV, Nat.zero_le _, fun j hj => absurd hj (Nat.not_lt_zero _)⟩, ⟨⟨?_, ?_, ?_, ?_, ?_, ?_, ?_, ?_, fun c h => absurd h (Nat.not_lt_zero _), fun c h => absurd h (Nat.not_lt_zero _), fun c h => absurd h (Nat.not_lt_zero _), 0, by omega, ?_, fun l hl => ?_⟩, ⟨fun h g b q1 q2 q3 => Or.inl ?_, fun h g q1 q2 => Or.inl ?_, fun h g k q1 q2 q3 => Or.inl ?_⟩, ⟨?_, ?_, ?_, ?_, fun c h => absurd h (Nat.not_lt_zero _), fun c h => absurd h (Nat.not_lt_zero _), fun p hp => ?_⟩, 0, by omega, ?_, ?_, by omega, fun j hj => absurd hj (Nat.not_lt_zero _)⟩, ⟨⟨?_, ?_, ?_, ?_, ?_, fun l hl => ?_, fun c h => absurd h (Nat.not_lt_zero _), fun c h => absurd h (Nat.not_lt_zero _), fun c h => absurd h (Nat.not_lt_zero _)⟩, ⟨?_, ?_, ?_, ?_, fun c h => absurd h (Nat.not_lt_zero _), fun c h => absurd h (Nat.not_lt_zero _)⟩, ⟨?_, by omega, fun j hj => absurd hj (Nat.not_lt_zero _)⟩, ?_⟩, fun T hT => ?_, ⟨0, by omega, ?_, ?_, fun j hj => absurd hj (Nat.not_lt_zero _), ?_, ?_⟩, fun i hi => ?_, fun a b h1 h2 => ?_⟩
  · rw [o _ _ (by decide), st_2 0 (by decide)]; rfl
  · rw [o _ _ (by decide), st_2 1 (by decide)]; rfl
  · rw [o _ _ (by decide), st_2 2 (by decide)]; rfl
  · rw [o _ _ (by decide), st_2 3 (by decide)]; rfl
  · rw [o _ _ (by decide), st_2 4 (by decide)]; rfl
  · rw [o _ _ (by decide), st_2 5 (by decide)]; rfl
  · rw [o _ _ (by decide), st_2 6 (by decide)]; rfl
  · rw [o _ _ (by decide), st_2 7 (by decide)]; exact bs_z _
  · rw [o _ _ (by decide)]; exact st_9.1
  · rw [s0_L, o _ _ (by decide), o _ _ (by decide)]
    exact ⟨0, (st_9.2 l hl).1, (st_9.2 l hl).2, by omega, fun i hi => by omega⟩
  · have q3 : b < 1 := q3
    rw [o _ _ (by decide)]; exact st_29 _ (by omega)
  · rw [o _ _ (by decide)]; exact st_30 _ (by omega)
  · rw [o _ _ (by decide)]; exact st_31 _ (by omega)
  · rw [o _ _ (by decide)]; exact st_34 0 (by decide)
  · rw [o _ _ (by decide)]; exact st_34 1 (by decide)
  · rw [o _ _ (by decide)]; exact st_34 2 (by decide)
  · rw [o _ _ (by decide)]; exact st_34 3 (by decide)
  · rw [o _ _ (by decide), st_40 p hp]; exact bs_z _
  · rw [o _ _ (by decide)]; exact st_48.1
  · rw [o _ _ (by decide)]; exact st_48.2
  · rw [g2 0 (by omega)]; rfl
  · rw [g2 1 (by omega)]; rfl
  · rw [g2 2 (by omega)]; rfl
  · rw [g2 3 (by omega)]; rfl
  · rw [g2 4 (by omega)]; rfl
  · rw [s0_L, g2 _ (by omega), if_neg (by omega), if_neg (by omega)]
    exact ⟨rfl, fun q => by omega⟩
  · show rI μ 140 (64 + 0) = _
    rw [g2 _ (by omega)]; rfl
  · show rI μ 140 (64 + 1) = _
    rw [g2 _ (by omega)]; rfl
  · show rI μ 140 (64 + 2) = _
    rw [g2 _ (by omega)]; rfl
  · show rI μ 140 (64 + 3) = _
    rw [g2 _ (by omega)]; rfl
  · rw [g2 _ (by omega)]; rfl
  · rw [o _ _ (by decide)]; exact st_0.2.2.2.2.2.2
  · rw [o _ _ (by omega), o _ _ (by decide)]
    exact Or.inl (st_tr T hT)
  · rw [o _ _ (by decide)]; exact st_0.1
  · rw [o _ _ (by decide)]; exact st_0.2.2.2.1
  · rw [o _ _ (by decide), o _ _ (by decide), st_0.2.1, st_0.2.2.2.2.1]
  · rw [o _ _ (by decide), o _ _ (by decide), st_0.2.2.1, st_0.2.2.2.2.2.1]
  · rw [o _ _ (by decide)]
    exact Or.inl (st_im i hi)
  · rw [(st_im 0 (by decide)).1] at h1
    cases h1
