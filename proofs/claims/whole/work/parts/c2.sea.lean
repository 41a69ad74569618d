/-! SEA -/
def PSr : Nat → Nat → Prop := fun a i => (a = 139 ∧ (i = 0 ∨ (5 ≤ i ∧ i ≤ 11))) ∨ a = 143
theorem ref_start {n N : Nat} {B : Nat → Nat} {μ : Mu} (hN : N ≤ 900) (hB : ∀ k, k < N → B k < 256 ∧ rI μ 142 k = nI (B k)) (hn : 5000 < n) : ∃ m5 m7, fX12_plain n 143 2242 (wI (wI (wI (wI (wI μ 139 0 0) 139 8 (nI N)) 139 5 0) 139 7 0) 139 11 0) = some m5 ∧ fX12_next n m5 = some m7 ∧ RK m7 B N 0 ∧ rI m7 143 0 = 0 ∧ (∀ i, 2 ≤ i → i < 2242 → ¬ (68 ≤ i ∧ i < 76) → rI m7 143 i = 0) ∧ Fg PSr μ m7 ∧ rI m7 139 5 = 0 := by
  have f0 : Fg PSr μ (wI (wI (wI (wI (wI μ 139 0 0) 139 8 (nI N)) 139 5 0) 139 7 0) 139 11 0) := (((((Fg.rfl' _ _).w (Or.inl ⟨rfl, by omega⟩) _).w (Or.inl ⟨rfl, by omega⟩) _).w (Or.inl ⟨rfl, by omega⟩) _).w (Or.inl ⟨rfl, by omega⟩) _).w (Or.inl ⟨rfl, by omega⟩) _
  have x8 : rI (wI (wI (wI (wI (wI μ 139 0 0) 139 8 (nI N)) 139 5 0) 139 7 0) 139 11 0) 139 8 = nI N := by rw [rI_ii (by decide), rI_ii (by decide), rI_ii (by decide), rI_same]
  have x5 : rI (wI (wI (wI (wI (wI μ 139 0 0) 139 8 (nI N)) 139 5 0) 139 7 0) 139 11 0) 139 5 = 0 := by rw [rI_ii (by decide), rI_ii (by decide), rI_same]
  have x7 : rI (wI (wI (wI (wI (wI μ 139 0 0) 139 8 (nI N)) 139 5 0) 139 7 0) 139 11 0) 139 7 = 0 := by rw [rI_ii (by decide), rI_same]
  have x11 : rI (wI (wI (wI (wI (wI μ 139 0 0) 139 8 (nI N)) 139 5 0) 139 7 0) 139 11 0) 139 11 = 0 := by rw [rI_same]
  generalize wI (wI (wI (wI (wI μ 139 0 0) 139 8 (nI N)) 139 5 0) 139 7 0) 139 11 0 = X at f0 x8 x5 x7 x11
  obtain ⟨m5, g1, g2, g3⟩ := f_plain (n := n) X hn
  have g9 : ∀ i, rI m5 139 i = rI X 139 i := fun i => g3.i (by omega) i
  have rt : RTp m5 B N := ⟨hN, by rw [g9]; exact x8, fun k hk => ⟨(hB k hk).1, by rw [g3.i (by omega), f0.i (by unfold PSr; omega)]; exact (hB k hk).2⟩⟩
  obtain ⟨m7, h1, h2, h3⟩ := r_next (n := n) (p := 0) rt (Nat.zero_le _) (by rw [g9]; exact x7) (by omega)
  have h9 : ∀ i, rI m7 143 i = rI m5 143 i := fun i => h3.i (by unfold PN; omega)
  refine ⟨m5, m7, g1, h1, ⟨rt.fg h3 (fun q => by unfold PN at q; omega) (fun i q => by unfold PN at q; omega), h2, by rw [h3.i (by unfold PN; omega), g9]; exact x11⟩, ?_, fun i q1 q2 q3 => ?_, (f0.tr (g3.fg.mono fun a i q => Or.inr q)).tr (h3.mono fun a i q => by unfold PN at q; unfold PSr; omega), by rw [h3.i (by unfold PN; omega), g9]; exact x5⟩
  · rw [h9, g2 0 (by omega)]; rfl
  · rw [h9, g2 i q2, if_neg (by omega), if_neg q3]
theorem SEA.CS {μc μr : Mu} {s : SD} {len : Nat} (h : SEA μc μr s len) (hl : len ≤ 900) : CS μc 14 s := by
  obtain ⟨hv, ⟨⟨a0, a1, a2, a3, a4, a5, a6, a7⟩, aC, aP, aK, aL1, aL2⟩, -⟩ := h
  exact ⟨a0, a1, a2, a3, a4, a5, a6, a7, aC, aP, aK, len, hl, aL1, aL2⟩
theorem SEA.R {μc μr μ2 : Mu} {s : SD} {len : Nat} (h : SEA μc μr s len) (hl : len ≤ 900) (e : ∀ i, i < 2242 → rI μ2 140 i = rI μr 143 i) : RS μ2 s ∧ RT μ2 s (begS s) ∧ rI μ2 140 180 = 0 := by
  obtain ⟨hv, -, ⟨b0, b1, b2, b3, b4, b5, b6, b7, b8, b9⟩, bC, bP, bK, bL1, bL2⟩ := h
  obtain ⟨v1, v2, v3, v4, -⟩ := hv
  refine ⟨⟨by rw [e 0 (by omega)]; exact b0, by rw [e 1 (by omega)]; exact b1, by rw [e 2 (by omega)]; exact b2, by rw [e 3 (by omega)]; exact b3, by rw [e 4 (by omega)]; exact b4, fun l hl' => ?_, fun c hc => ?_, fun p hp => ?_, fun k hk => ?_⟩, ⟨?_, ?_, ?_, ?_, fun k hk => ?_, fun w hw => absurd hw (Nat.not_lt_zero _)⟩, by rw [e 180 (by omega)]; exact b9⟩
  · obtain ⟨f1, f2⟩ := bL2 l hl'
    refine ⟨by rw [e _ (by omega)]; exact f1, fun q => ?_⟩
    obtain ⟨f, g1, g2, g3, g4⟩ := f2 q
    exact ⟨f, by rw [e _ (by omega)]; exact g1, by omega, by rw [e _ (by omega)]; exact g3, fun i hi => by rw [e _ (by omega)]; exact g4 i hi⟩
  · rw [e _ (by omega), e _ (by omega), e _ (by omega)]; exact bC c hc
  · rw [e _ (by omega), e _ (by omega)]; exact bP.1 p hp
  · rw [e _ (by omega)]; exact (bK k hk).1
  · show rI μ2 140 (64 + 0) = _
    rw [e _ (by omega)]; exact b5
  · show rI μ2 140 (64 + 1) = _
    rw [e _ (by omega)]; exact b6
  · show rI μ2 140 (64 + 2) = _
    rw [e _ (by omega)]; exact b7
  · show rI μ2 140 (64 + 3) = _
    rw [e _ (by omega)]; exact b8
  · show rI μ2 140 (64 + (4 + k)) = _
    rw [e _ (by omega), show 64 + (4 + k) = 68 + k by omega]; exact (bK k hk).2
/-- the reference's end: something was wrong -/
theorem end_bad {n : Nat} {μ : Mu} (h : rI μ 139 11 ≠ 0) : jX12_sea_110 n μ = some (-30 - rI μ 139 11, wI (wI μ 139 13 (rI μ 139 11)) 139 14 (rI μ 139 12)) := by
  unfold jX12_sea_110
  rw [rI_ii (show (11 : Nat) ≠ 13 by decide), if_neg h, rI_ii (show (11 : Nat) ≠ 14 by decide), rI_ii (show (11 : Nat) ≠ 13 by decide), if_neg h, rI_ii (show (12 : Nat) ≠ 13 by decide)]
theorem end_good {n : Nat} {μ : Mu} (h : rI μ 139 11 = 0) (hn : 5000 < n) : ∃ μ', jX12_sea_110 n μ = some (rI μ 143 0, μ') ∧ (∀ i, i < 2242 → rI μ' 140 i = rI μ 143 i) ∧ rI μ' 139 13 = 0 ∧ rI μ' 139 14 = -1 ∧ Fg (fun a i => (a = 139 ∧ (i = 13 ∨ i = 14)) ∨ (a = 140 ∧ i < 2242)) μ μ' := by
  have f0 : Fg (fun a i => (a = 139 ∧ (i = 13 ∨ i = 14)) ∨ (a = 140 ∧ i < 2242)) μ (wI (wI μ 139 13 0) 139 14 (-1)) := ((Fg.rfl' _ _).w (Or.inl ⟨rfl, Or.inl rfl⟩) _).w (Or.inl ⟨rfl, Or.inr rfl⟩) _
  have key : Rn (lp n (sX12_sea_154 n) (0, wI (wI μ 139 13 0) 139 14 (-1))) (fun m => (∀ k, k < 2242 → rI m 140 k = rI μ 143 k) ∧ Fg (fun a i => a = 140 ∧ i < 2242) (wI (wI μ 139 13 0) 139 14 (-1)) m) := by
    refine Rn.l 2242 (fun i q => q.1 = nI i ∧ (∀ k, k < i → rI q.2 140 k = rI μ 143 k) ∧ Fg (fun a i => a = 140 ∧ i < 2242) (wI (wI μ 139 13 0) 139 14 (-1)) q.2) _ (by omega) ⟨rfl, fun k hk => absurd hk (Nat.not_lt_zero _), Fg.rfl' _ _⟩ ?_ ?_
    · rintro i ⟨x, m⟩ hi ⟨e1, e2, e3⟩
      have e1 : x = nI i := e1
      subst e1
      have e2 : ∀ k, k < i → rI m 140 k = rI μ 143 k := e2
      have e3 : Fg (fun a i => a = 140 ∧ i < 2242) (wI (wI μ 139 13 0) 139 14 (-1)) m := e3
      show Rn (if (2242 : Int32) ≤ nI i then _ else _) _
      rw [if_neg (fun e => by have : 2242 ≤ i := (le_l (k := 2242) (by decide) (by omega)).mp e; omega), ib_n hi (by omega), gd_true, ib_n (by omega) (by omega), gd_true, ix_n (by omega)]
      refine Rn.so ⟨nI_add i 1, fun k hk => ?_, e3.w ⟨rfl, hi⟩ _⟩
      show rI (wI m 140 i (rI m 143 i)) 140 k = _
      by_cases e : k = i
      · rw [e, rI_same, e3.i (by omega), rI_ai (by decide), rI_ai (by decide)]
      · rw [rI_ii e]; exact e2 k (by omega)
    · rintro ⟨x, m⟩ ⟨e1, e2, e3⟩
      have e1 : x = nI 2242 := e1
      subst e1
      exact Rn.e (r := m) (by
        simp only [sX12_sea_154]
        rw [if_pos (by decide)]) ⟨e2, e3⟩
  obtain ⟨m, g1, g2, g3⟩ := key
  refine ⟨m, ?_, g2, ?_, ?_, f0.tr (g3.mono fun a i q => Or.inr q)⟩
  · unfold jX12_sea_110
    rw [rI_ii (show (11 : Nat) ≠ 13 by decide), if_pos h, rI_ii (show (11 : Nat) ≠ 14 by decide), rI_ii (show (11 : Nat) ≠ 13 by decide), if_pos h, h, g1, bnd_some]
    show some (rI m 140 0, m) = _
    rw [g2 0 (by omega)]
  · rw [g3.i (by omega), rI_ii (by decide), rI_same]
  · rw [g3.i (by omega), rI_same]
theorem i32_nat {x : Int32} (h : 0 ≤ x) : ∃ k, x = nI k ∧ k < 2147483648 := by
  have h1 := Int32.le_iff_toInt_le.mp h
  have h2 := Int32.toInt_lt x
  have h1 : (0 : Int) ≤ x.toInt := h1
  refine ⟨x.toInt.toNat, ?_, by omega⟩
  refine Int32.toInt_inj.mp ?_
  rw [nI_toI (by omega)]
  omega
