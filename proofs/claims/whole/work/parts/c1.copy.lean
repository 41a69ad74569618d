/-! A SEA COPIED -/
def cpY (μ : Mu) (a b : Nat) : Mu := cpI (cpI (cpI (cpI (cpI (cpI (wI (wI (wI (wI (wI (wI (wI (wI μ a 0 (rI μ b 0)) a 1 (rI μ b 1)) a 2 (rI μ b 2)) a 3 (rI μ b 3)) a 4 (rI μ b 4)) a 5 (rI μ b 5)) a 6 (rI μ b 6)) a 7 (rI μ b 7)) (b + 1) 0 (a + 1) 0 10) (b + 2) 0 (a + 2) 0 10) (b + 3) 0 (a + 3) 0 10) (b + 4) 0 (a + 4) 0 6) (b + 5) 0 (a + 5) 0 8) (b + 6) 0 (a + 6) 0 8
def cpZ (μ : Mu) (a b len : Nat) : Mu := cpI (cpI (cpI (wI μ a 1 (nI len)) (b + 1) 0 (a + 1) 0 len) (b + 2) 0 (a + 2) 0 3) (b + 3) 0 (a + 3) 0 3
def PZ (a : Nat) : Nat → Prop := fun x => a ≤ x ∧ x ≤ a + 10
theorem cpY_fr (μ : Mu) (a b : Nat) : Fr (PZ a) μ (cpY μ a b) := by
  have p : ∀ j, j ≤ 6 → PZ a (a + j) := fun j hj => by unfold PZ; omega
  have p0 : PZ a a := p 0 (by omega)
  exact ((((((((((((((Fr.rfl' _ _).w p0 _ _).w p0 _ _).w p0 _ _).w p0 _ _).w p0 _ _).w p0 _ _).w p0 _ _).w p0 _ _).cp (p 1 (by omega)) _ _ _ _).cp (p 2 (by omega)) _ _ _ _).cp (p 3 (by omega)) _ _ _ _).cp (p 4 (by omega)) _ _ _ _).cp (p 5 (by omega)) _ _ _ _).cp (p 6 (by omega)) _ _ _ _
theorem cpZ_fr (μ : Mu) (a b len : Nat) : Fr (fun x => a ≤ x ∧ x ≤ a + 3) μ (cpZ μ a b len) := by
  have p : ∀ j, j ≤ 3 → (fun x => a ≤ x ∧ x ≤ a + 3) (a + j) := fun j hj => by show a ≤ a + j ∧ a + j ≤ a + 3; omega
  exact ((((Fr.rfl' _ _).w (p 0 (by omega)) _ _).cp (p 1 (by omega)) _ _ _ _).cp (p 2 (by omega)) _ _ _ _).cp (p 3 (by omega)) _ _ _ _
theorem f_copySea {n a b : Nat} {μ : Mu} {s : SD} (hab : a + 11 ≤ b ∨ b + 11 ≤ a) (hv : SV s) (h : CS μ b s) : ∃ μ', fX7_copyFrom n a b μ = some μ' ∧ CS μ' a s ∧ Fr (PZ a) μ μ' := by
  obtain ⟨v1, v2, v3, v4, -⟩ := hv
  obtain ⟨h0, h1, h2, h3, h4, h5, h6, h7, hC, hP, hK, len, l1, l2, l3⟩ := h
  have l2 : rI μ (b + 7) 1 = nI len := l2
  have e1 : ∀ (m : Mu) (i : Nat) (v : Int32) (j : Nat), rI (wI m a i v) b j = rI m b j := fun m i v j => rI_ai (by omega)
  have y7 : ∀ i, rI (cpY μ a b) (b + 7) i = rI μ (b + 7) i := fun i => (cpY_fr μ a b).i (by unfold PZ; omega) i
  have e : fX7_copyFrom n a b μ = some (cpZ (cpY μ a b) (a + 7) (b + 7) len) := by
    unfold fX7_copyFrom
    simp only [e1]
    show bnd (fX3_copyFrom n (a + 7) (b + 7) (cpY μ a b)) _ = _
    unfold fX3_copyFrom
    rw [y7, l2, rI_same, acb_n (by omega) (by omega) (by omega), gd_true, ix_n (by omega), bnd_some]
    rfl
  refine ⟨_, e, ?_, (cpY_fr μ a b).tr ((cpZ_fr _ _ _ _).mono fun x q => by unfold PZ; omega)⟩
  have zf : ∀ x i, x < a + 7 → rI (cpZ (cpY μ a b) (a + 7) (b + 7) len) x i = rI (cpY μ a b) x i := fun x i hx => (cpZ_fr _ _ _ _).i (by omega) i
  have u0 : ∀ i, i < 8 → rI (cpZ (cpY μ a b) (a + 7) (b + 7) len) a i = rI μ b i := by
    intro i hi
    rw [zf a i (by omega)]
    unfold cpY
    rw [rI_cn (by omega), rI_cn (by omega), rI_cn (by omega), rI_cn (by omega), rI_cn (by omega), rI_cn (by omega)]
    rcases (show i = 0 ∨ i = 1 ∨ i = 2 ∨ i = 3 ∨ i = 4 ∨ i = 5 ∨ i = 6 ∨ i = 7 by omega) with rfl | rfl | rfl | rfl | rfl | rfl | rfl | rfl
    · rw [rI_ii (by decide), rI_ii (by decide), rI_ii (by decide), rI_ii (by decide), rI_ii (by decide), rI_ii (by decide), rI_ii (by decide), rI_same]
    · rw [rI_ii (by decide), rI_ii (by decide), rI_ii (by decide), rI_ii (by decide), rI_ii (by decide), rI_ii (by decide), rI_same]
    · rw [rI_ii (by decide), rI_ii (by decide), rI_ii (by decide), rI_ii (by decide), rI_ii (by decide), rI_same]
    · rw [rI_ii (by decide), rI_ii (by decide), rI_ii (by decide), rI_ii (by decide), rI_same]
    · rw [rI_ii (by decide), rI_ii (by decide), rI_ii (by decide), rI_same]
    · rw [rI_ii (by decide), rI_ii (by decide), rI_same]
    · rw [rI_ii (by decide), rI_same]
    · rw [rI_same]
  have w8 : ∀ x i, x ≠ a → rI (wI (wI (wI (wI (wI (wI (wI (wI μ a 0 (rI μ b 0)) a 1 (rI μ b 1)) a 2 (rI μ b 2)) a 3 (rI μ b 3)) a 4 (rI μ b 4)) a 5 (rI μ b 5)) a 6 (rI μ b 6)) a 7 (rI μ b 7)) x i = rI μ x i := fun x i hx => by
    rw [rI_ai hx, rI_ai hx, rI_ai hx, rI_ai hx, rI_ai hx, rI_ai hx, rI_ai hx, rI_ai hx]
  have u1 : ∀ i, i < 10 → rI (cpZ (cpY μ a b) (a + 7) (b + 7) len) (a + 1) i = rI μ (b + 1) i := fun i hi => by
    rw [zf _ i (by omega)]
    unfold cpY
    rw [rI_cn (by omega), rI_cn (by omega), rI_cn (by omega), rI_cn (by omega), rI_cn (by omega), rI_cy hi, w8 _ _ (by omega)]
  have u2 : ∀ i, i < 10 → rI (cpZ (cpY μ a b) (a + 7) (b + 7) len) (a + 2) i = rI μ (b + 2) i := fun i hi => by
    rw [zf _ i (by omega)]
    unfold cpY
    rw [rI_cn (by omega), rI_cn (by omega), rI_cn (by omega), rI_cn (by omega), rI_cy hi, rI_cn (by omega), w8 _ _ (by omega)]
  have u3 : ∀ i, i < 10 → rI (cpZ (cpY μ a b) (a + 7) (b + 7) len) (a + 3) i = rI μ (b + 3) i := fun i hi => by
    rw [zf _ i (by omega)]
    unfold cpY
    rw [rI_cn (by omega), rI_cn (by omega), rI_cn (by omega), rI_cy hi, rI_cn (by omega), rI_cn (by omega), w8 _ _ (by omega)]
  have u4 : ∀ i, i < 6 → rI (cpZ (cpY μ a b) (a + 7) (b + 7) len) (a + 4) i = rI μ (b + 4) i := fun i hi => by
    rw [zf _ i (by omega)]
    unfold cpY
    rw [rI_cn (by omega), rI_cn (by omega), rI_cy hi, rI_cn (by omega), rI_cn (by omega), rI_cn (by omega), w8 _ _ (by omega)]
  have u5 : ∀ i, i < 8 → rI (cpZ (cpY μ a b) (a + 7) (b + 7) len) (a + 5) i = rI μ (b + 5) i := fun i hi => by
    rw [zf _ i (by omega)]
    unfold cpY
    rw [rI_cn (by omega), rI_cy hi, rI_cn (by omega), rI_cn (by omega), rI_cn (by omega), rI_cn (by omega), w8 _ _ (by omega)]
  have u6 : ∀ i, i < 8 → rI (cpZ (cpY μ a b) (a + 7) (b + 7) len) (a + 6) i = rI μ (b + 6) i := fun i hi => by
    rw [zf _ i (by omega)]
    unfold cpY
    rw [rI_cy hi, rI_cn (by omega), rI_cn (by omega), rI_cn (by omega), rI_cn (by omega), rI_cn (by omega), w8 _ _ (by omega)]
  have yb : ∀ x i, b ≤ x → x ≤ b + 10 → rI (cpY μ a b) x i = rI μ x i := fun x i h1 h2 => (cpY_fr μ a b).i (by unfold PZ; omega) i
  refine ⟨by rw [u0 0 (by omega)]; exact h0, by rw [u0 1 (by omega)]; exact h1, by rw [u0 2 (by omega)]; exact h2, by rw [u0 3 (by omega)]; exact h3, by rw [u0 4 (by omega)]; exact h4, by rw [u0 5 (by omega)]; exact h5, by rw [u0 6 (by omega)]; exact h6, by rw [u0 7 (by omega)]; exact h7, fun c hc => ?_, fun p hp => ?_, fun k hk => ?_, len, l1, ?_, fun l hl => ?_⟩
  · rw [u1 c (by omega), u2 c (by omega), u3 c (by omega)]; exact hC c hc
  · rw [u4 p (by omega)]; exact hP p hp
  · rw [u5 k (by omega), u6 k (by omega)]; exact hK k hk
  · unfold cpZ
    rw [rI_cn (by omega), rI_cn (by omega), rI_cn (by omega), rI_same]
  · obtain ⟨f, f1, f2, f3, f4⟩ := l3 l hl
    refine ⟨f, ?_, ?_, f3, fun i hi => ?_⟩
    · unfold cpZ
      rw [rI_cn (by omega), rI_cy hl, rI_cn (by omega), rI_ai (by omega), yb _ _ (by omega) (by omega)]; exact f1
    · unfold cpZ
      rw [rI_cy hl, rI_cn (by omega), rI_cn (by omega), rI_ai (by omega), yb _ _ (by omega) (by omega)]; exact f2
    · unfold cpZ
      rw [rI_cn (by omega), rI_cn (by omega), rI_cy (by omega), rI_ai (by omega), yb _ _ (by omega) (by omega)]; exact f4 i hi
theorem f_forget {n : Nat} {s : SD} (μ : Mu) (hv : SV s) (hn : 1000 < n) : ∃ μ', fX6_forget n μ = some μ' ∧ RU μ' s ∧ Fr (fun x => 29 ≤ x ∧ x ≤ 31) μ μ' := by
  obtain ⟨m1, g1, g2, g3⟩ := f_fillI (n := n) (a := 29) (N := 288) (v := -1) μ (by omega) (by omega)
  obtain ⟨m2, h1, h2, h3⟩ := f_fillI (n := n) (a := 30) (N := 48) (v := -1) m1 (by omega) (by omega)
  obtain ⟨m3, k1, k2, k3⟩ := f_fillI (n := n) (a := 31) (N := 432) (v := -1) m2 (by omega) (by omega)
  have hB := hv.1
  refine ⟨m3, by unfold fX6_forget; rw [g1, bnd_some, h1, bnd_some, k1, bnd_some], ⟨fun h g b q1 q2 q3 => Or.inl ?_, fun h g q1 q2 => Or.inl ?_, fun h g k q1 q2 q3 => Or.inl (k2 _ (by omega))⟩, ((g3.mono fun x q => by omega).tr (h3.mono fun x q => by omega)).tr (k3.mono fun x q => by omega)⟩
  · rw [k3.i (by omega), h3.i (by omega)]; exact g2 _ (by omega)
  · rw [k3.i (by omega)]; exact h2 _ (by omega)
/-- the state in which a sea begins -/
def begS (s : SD) : ST := ((s 0 8, s 0 9, 0, 0), s 10, fun _ _ => false, fun _ _ => false, fun _ _ => false, fun _ _ => 0)
theorem begS_TV {s : SD} (hv : SV s) : TV s (begS s) := by
  obtain ⟨v1, v2, v3, v4, v5, v6, v7, v8, v9, v10, v11⟩ := hv
  exact ⟨v11, Nat.zero_le _, fun k hk => (v7 k hk).2, fun w c hw => absurd hw (Nat.not_lt_zero _)⟩
theorem f_begin {n : Nat} {s : SD} {μ : Mu} (hv : SV s) (h : CS μ 2 s) (hn : 1000 < n) : ∃ μ', fX8_begin n 34 2 μ = some μ' ∧ CB μ' 34 s (begS s) ∧ Fr (PS 34) μ μ' := by
  obtain ⟨h0, h1, h2, h3, h4, h5, h6, h7, hC, hP, hK, hL⟩ := h
  have hS := hv.2.2.2.1
  unfold fX8_begin
  obtain ⟨m1, g1, g2, g3⟩ := f_fillI (n := n) (a := 40) (N := 6) (v := 0) (cpI (wI (wI (wI (wI μ 34 0 (rI μ 2 5)) 34 1 (rI (wI μ 34 0 (rI μ 2 5)) 2 6)) 34 2 0) 34 3 0) 8 0 35 0 8) (by omega) (by omega)
  have fr0 : Fr (PS 34) μ (cpI (wI (wI (wI (wI μ 34 0 (rI μ 2 5)) 34 1 (rI (wI μ 34 0 (rI μ 2 5)) 2 6)) 34 2 0) 34 3 0) 8 0 35 0 8) := (((((Fr.rfl' _ _).w (show PS 34 34 by unfold PS; omega) _ _).w (show PS 34 34 by unfold PS; omega) _ _).w (show PS 34 34 by unfold PS; omega) _ _).w (show PS 34 34 by unfold PS; omega) _ _).cp (show PS 34 35 by unfold PS; omega) _ _ _ _
  refine ⟨m1, ?_, ⟨?_, ?_, ?_, ?_, fun k hk => ?_, fun w hw => absurd hw (Nat.not_lt_zero _), fun p hp => ?_⟩, fr0.tr (g3.mono fun x q => by unfold PS; omega)⟩
  · show bnd (fJ7_fill_53178 n 40 6 0 _) _ = _
    rw [g1, bnd_some]
  · rw [g3.i (by omega), rI_cn (by decide), rI_ii (by decide), rI_ii (by decide), rI_ii (by decide), rI_same]; exact h5
  · rw [g3.i (by omega), rI_cn (by decide), rI_ii (by decide), rI_ii (by decide), rI_same, rI_ai (by decide)]; exact h6
  · rw [g3.i (by omega), rI_cn (by decide), rI_ii (by decide), rI_same]; rfl
  · rw [g3.i (by omega), rI_cn (by decide), rI_same]; rfl
  · rw [g3.i (by omega), rI_cy (by omega), rI_ai (by decide), rI_ai (by decide), rI_ai (by decide), rI_ai (by decide)]
    exact (hK k hk).2
  · rw [g2 p hp]; exact bs_z _
