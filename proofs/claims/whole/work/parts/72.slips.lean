/-! sounds told in a tray -/
abbrev snS (s : SD) (t : ST) (b i : Nat) : Int32 := soundS s b (tH t + i) (gk (tG t) i)
def slS (s : SD) (t : ST) (vals : Nat → Int64) (N b : Nat) : Nat := cnt (fun i => decide (vals i ≠ -1) && decide (vals i ≠ (snS s t b i).toInt64)) N
def TrC (μ : Mu) (T N : Nat) (vals : Nat → Int64) : Prop := rI μ (129 + 2 * T) 1 = nI N ∧ ∀ k, k < N → rL μ (129 + 2 * T + 1) k = vals k
def TrR (μ : Mu) (T N : Nat) (vals : Nat → Int64) : Prop := rI μ 153 T = nI N ∧ ∀ k, k < N → rL μ 154 (40 * T + k) = vals k
theorem TrC.q {μ μ' : Mu} {s : SD} {T N : Nat} {vals : Nat → Int64} (hT : T < 4) (h : TrC μ T N vals) (e : CQ s μ μ') : TrC μ' T N vals := by
  have o : ∀ x, 129 ≤ x → x ≤ 136 → ¬ QC x := fun x h1 h2 q => by unfold QC at q; omega
  exact ⟨by rw [e.1.i (o _ (by omega) (by omega))]; exact h.1, fun k hk => by rw [(e.1 _ (o _ (by omega) (by omega))).2]; exact h.2 k hk⟩
theorem TrR.q {μ μ' : Mu} {T N : Nat} {vals : Nat → Int64} (h : TrR μ T N vals) (e : RQ μ μ') : TrR μ' T N vals := by
  exact ⟨by rw [e.i (fun q => by unfold QR at q; omega)]; exact h.1, fun k hk => by rw [e.2 _ _ (by decide) (fun j q => by unfold QR at q; omega)]; exact h.2 k hk⟩
theorem nI_s0 (j : Nat) : nI j + 0 = nI j := nI_add j 0
theorem nI_s1 (j : Nat) : nI j + 1 = nI (j + 1) := nI_add j 1
theorem c_slips {n T N b : Nat} {vals : Nat → Int64} {μ : Mu} {s : SD} {t : ST} (hp : CP μ s t) (hT : T < 4) (hN : N ≤ 40) (hb : b < sB s) (ht : TrC μ T N vals) (hn : 1000 < n) : ∃ μ', fX11_slipsOf n (129 + 2 * T) (nI b) μ = some (nI (slS s t vals N b), μ') ∧ CQ s μ μ' := by
  have key : Rn (lp n (sX11_slipsOf_5 n (129 + 2 * T) (nI b)) (0, 0, μ)) (fun r => r.1 = nI (slS s t vals N b) ∧ CQ s μ r.2) := by
    refine Rn.l N (fun i q => q.1 = nI (slS s t vals i b) ∧ q.2.1 = nI i ∧ CQ s μ q.2.2) _ (by omega) ⟨rfl, rfl, CQ.rfl' hp⟩ ?_ ?_
    · rintro i ⟨x, y, m⟩ hi ⟨e1, e2, e3⟩
      have e1 : x = nI (slS s t vals i b) := e1
      have e2 : y = nI i := e2
      have e3 : CQ s μ m := e3
      subst e1; subst e2
      obtain ⟨t1, t2⟩ := ht.q hT e3
      obtain ⟨m', g1, g2⟩ := c_sound (n := n) (b := b) (k := i) (hp.q e3) hb (by omega) hn
      have es : slS s t vals (i + 1) b = slS s t vals i b + (if (decide (vals i ≠ -1) && decide (vals i ≠ (snS s t b i).toInt64)) = true then 1 else 0) := rfl
      simp (disch := first | omega | decide) only [sX11_slipsOf_5, gd_true, bnd_some, bnd2_some, ix_n, ib_n, add_l, add_r, mul_l, mul_r, nI_add, sub_r, nI_leI, nI_ltI, nI_eq, le_l, le_r, lt_l, lt_r, eq_l, eq_r, eq_m, if_true, if_false, not_false_eq_true, not_true_eq_false, t1, show ¬ N ≤ i by omega, t2 i hi, g1, lgc_eq]
      by_cases c1 : vals i = -1
      · rw [if_pos c1]
        refine Rn.so ⟨?_, rfl, e3⟩
        rw [es]; simp [c1]
      · rw [if_neg c1]
        by_cases c2 : vals i = (snS s t b i).toInt64
        · rw [if_pos c2]
          refine Rn.so ⟨?_, rfl, e3.tr g2⟩
          rw [es]; simp [c2]
        · rw [if_neg c2]
          refine Rn.so ⟨?_, rfl, e3.tr g2⟩
          rw [es]; simp [c1, c2]
    · rintro ⟨x, y, m⟩ ⟨e1, e2, e3⟩
      have e2 : y = nI N := e2
      subst e2
      exact Rn.e (r := (x, m)) (ite_le (ht.q hT e3).1) ⟨e1, e3⟩
  obtain ⟨⟨x, m⟩, h1, h2, h3⟩ := key
  have h2 : x = nI (slS s t vals N b) := h2
  subst h2
  exact ⟨m, by unfold fX11_slipsOf; rw [h1, bnd_some], h3⟩
theorem r_slips {n T N b : Nat} {vals : Nat → Int64} {μ : Mu} {s : SD} {t : ST} (hp : RP μ s t) (hT : T < 4) (hN : N ≤ 40) (hb : b < sB s) (ht : TrR μ T N vals) (hn : 1000 < n) : ∃ μ', fX12_slipsOf n (nI T) (nI b) μ = some (nI (slS s t vals N b), μ') ∧ RQ μ μ' := by
  have key : Rn (lp n (sX12_slipsOf_5 n (nI T) (nI b)) (0, 0, μ)) (fun r => r.1 = nI (slS s t vals N b) ∧ RQ μ r.2) := by
    refine Rn.l N (fun i q => q.1 = nI (slS s t vals i b) ∧ q.2.1 = nI i ∧ RQ μ q.2.2) _ (by omega) ⟨rfl, rfl, RQ.rfl' _⟩ ?_ ?_
    · rintro i ⟨x, y, m⟩ hi ⟨e1, e2, e3⟩
      have e1 : x = nI (slS s t vals i b) := e1
      have e2 : y = nI i := e2
      have e3 : RQ μ m := e3
      subst e1; subst e2
      obtain ⟨t1, t2⟩ := ht.q e3
      obtain ⟨m', g1, g2⟩ := r_sound (n := n) (b := b) (k := i) (hp.q e3) hb (by omega) hn
      have es : slS s t vals (i + 1) b = slS s t vals i b + (if (decide (vals i ≠ -1) && decide (vals i ≠ (snS s t b i).toInt64)) = true then 1 else 0) := rfl
      simp (disch := first | omega | decide) only [sX12_slipsOf_5, jX12_slipsOf_60, jX12_slipsOf_65, gd_true, bnd_some, bnd2_some, ix_n, ib_n, add_l, add_r, mul_l, mul_r, nI_add, sub_r, nI_leI, nI_ltI, nI_eq, le_l, le_r, lt_l, lt_r, eq_l, eq_r, eq_m, if_true, if_false, not_false_eq_true, not_true_eq_false, t1, show ¬ N ≤ i by omega, t2 i hi, g1, lgc_eq]
      by_cases c1 : vals i = -1
      · rw [if_pos c1]
        refine Rn.so ⟨?_, rfl, e3⟩
        rw [es]; simp [c1, nI_s0]
      · rw [if_neg c1]
        by_cases c2 : vals i = (snS s t b i).toInt64
        · rw [if_pos c2]
          refine Rn.so ⟨?_, rfl, e3.tr g2⟩
          rw [es]; simp [c2, nI_s0]
        · rw [if_neg c2]
          refine Rn.so ⟨?_, rfl, e3.tr g2⟩
          rw [es]; simp [c1, c2, nI_s1]
    · rintro ⟨x, y, m⟩ ⟨e1, e2, e3⟩
      have e2 : y = nI N := e2
      subst e2
      refine Rn.e (r := (x, m)) ?_ ⟨e1, e3⟩
      show gd (ib (nI T) 4) (if rI m 153 (ix (nI T)) ≤ nI N then some (Sum.inr (x, m)) else _) = _
      rw [ib_n hT (by omega), gd_true, ix_n (by omega)]
      exact ite_le (TrR.q ht e3).1
  obtain ⟨⟨x, m⟩, h1, h2, h3⟩ := key
  have h2 : x = nI (slS s t vals N b) := h2
  subst h2
  exact ⟨m, by unfold fX12_slipsOf; rw [h1, bnd_some], h3⟩
def fiS (s : SD) (t : ST) (vals : Nat → Int64) (N : Nat) : Nat → Bool := fun b => decide (slS s t vals N b = 0)
theorem slS_le (s : SD) (t : ST) (vals : Nat → Int64) (N b : Nat) : slS s t vals N b ≤ N := cnt_le _ _
theorem c_fits {n T N : Nat} {vals : Nat → Int64} {μ : Mu} {s : SD} {t : ST} (hp : CP μ s t) (hT : T < 4) (hN : N ≤ 40) (ht : TrC μ T N vals) (hn : 1000 < n) : ∃ r μ', fX11_fitting n (129 + 2 * T) μ = some (r, μ') ∧ bs r (sB s) (fiS s t vals N) ∧ CQ s μ μ' := by
  have hB := hp.2.1.1.2
  have key : Rn (lp n (sX11_fitting_4 n (129 + 2 * T)) (0, 0, μ)) (fun r => bs r.1 (sB s) (fiS s t vals N) ∧ CQ s μ r.2) := by
    refine Rn.l (sB s) (fun i q => bs q.1 i (fiS s t vals N) ∧ q.2.1 = nI i ∧ CQ s μ q.2.2) _ (by omega) ⟨bs_z _, rfl, CQ.rfl' hp⟩ ?_ ?_
    · rintro i ⟨x, y, m⟩ hi ⟨e1, e2, e3⟩
      have e2 : y = nI i := e2
      have e3 : CQ s μ m := e3
      subst e2
      obtain ⟨m', g1, g2⟩ := c_slips (n := n) (b := i) (hp.q e3) hT hN hi (ht.q hT e3) hn
      have a0 : rI m 2 0 = nI (sB s) := (hp.q e3).1.1
      have hl := slS_le s t vals N i
      simp (disch := first | omega | decide) only [sX11_fitting_4, gd_true, bnd_some, bnd2_some, ix_n, ib_n, add_l, add_r, mul_l, mul_r, nI_add, sub_r, nI_leI, nI_ltI, nI_eq, le_l, le_r, lt_l, lt_r, eq_l, eq_r, eq_m, if_true, if_false, not_false_eq_true, not_true_eq_false, a0, show ¬ sB s ≤ i by omega, g1, nI_z]
      have z := bs_up e1 (show i < 32 by omega)
      by_cases c : slS s t vals N i = 0
      · rw [if_pos (show fiS s t vals N i = true from decide_eq_true c)] at z
        rw [if_pos c]; exact Rn.so ⟨z, rfl, e3.tr g2⟩
      · rw [if_neg (fun e : fiS s t vals N i = true => c (of_decide_eq_true e))] at z
        rw [if_neg c]; exact Rn.so ⟨z, rfl, e3.tr g2⟩
    · rintro ⟨x, y, m⟩ ⟨e1, e2, e3⟩
      have e2 : y = nI (sB s) := e2
      subst e2
      exact Rn.e (r := (x, m)) (ite_le (hp.q e3).1.1) ⟨e1, e3⟩
  obtain ⟨⟨x, m⟩, h1, h2, h3⟩ := key
  exact ⟨x, m, by unfold fX11_fitting; rw [h1, bnd_some], h2, h3⟩
theorem r_fits {n T N : Nat} {vals : Nat → Int64} {μ : Mu} {s : SD} {t : ST} (hp : RP μ s t) (hT : T < 4) (hN : N ≤ 40) (ht : TrR μ T N vals) (hn : 1000 < n) : ∃ r μ', fX12_fitting n (nI T) μ = some (r, μ') ∧ bs r (sB s) (fiS s t vals N) ∧ RQ μ μ' := by
  have hB := hp.2.1.1.2
  have key : Rn (lp n (sX12_fitting_4 n (nI T)) (0, 0, μ)) (fun r => bs r.1 (sB s) (fiS s t vals N) ∧ RQ μ r.2) := by
    refine Rn.l (sB s) (fun i q => bs q.1 i (fiS s t vals N) ∧ q.2.1 = nI i ∧ RQ μ q.2.2) _ (by omega) ⟨bs_z _, rfl, RQ.rfl' _⟩ ?_ ?_
    · rintro i ⟨x, y, m⟩ hi ⟨e1, e2, e3⟩
      have e2 : y = nI i := e2
      have e3 : RQ μ m := e3
      subst e2
      obtain ⟨m', g1, g2⟩ := r_slips (n := n) (b := i) (hp.q e3) hT hN hi (ht.q e3) hn
      have a0 : rI m 140 1 = nI (sB s) := (hp.q e3).1.2.1
      have hl := slS_le s t vals N i
      simp (disch := first | omega | decide) only [sX12_fitting_4, gd_true, bnd_some, bnd2_some, ix_n, ib_n, add_l, add_r, mul_l, mul_r, nI_add, sub_r, nI_leI, nI_ltI, nI_eq, le_l, le_r, lt_l, lt_r, eq_l, eq_r, eq_m, if_true, if_false, not_false_eq_true, not_true_eq_false, a0, show ¬ sB s ≤ i by omega, g1, nI_z]
      have z := bs_up2 e1 (show i < 32 by omega)
      by_cases c : slS s t vals N i = 0
      · rw [if_pos (show fiS s t vals N i = true from decide_eq_true c)] at z
        rw [if_pos c]; exact Rn.so ⟨z, rfl, e3.tr g2⟩
      · rw [if_neg (fun e : fiS s t vals N i = true => c (of_decide_eq_true e))] at z
        rw [if_neg c]; exact Rn.so ⟨z, rfl, e3.tr g2⟩
    · rintro ⟨x, y, m⟩ ⟨e1, e2, e3⟩
      have e2 : y = nI (sB s) := e2
      subst e2
      exact Rn.e (r := (x, m)) (ite_le (RP.q hp e3).1.2.1) ⟨e1, e3⟩
  obtain ⟨⟨x, m⟩, h1, h2, h3⟩ := key
  exact ⟨x, m, by unfold fX12_fitting; rw [h1, bnd_some], h2, h3⟩
