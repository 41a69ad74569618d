/-- the class's laws at a -/
def CL (μ : Mu) (a : Nat) (s : SD) : Prop := ∃ len, len ≤ 900 ∧ rI μ a 1 = nI len ∧ ∀ l, l < 3 → ∃ f, rI μ (a + 2) l = nI f ∧ rI μ (a + 3) l = nI (f + sLn s l) ∧ f + sLn s l ≤ len ∧ ∀ i, i < sLn s l → rI μ (a + 1) (f + i) = nI (ccO l (s (7 + l) i))
/-- the class's sea at a -/
def CS (μ : Mu) (a : Nat) (s : SD) : Prop := rI μ a 0 = nI (sB s) ∧ rI μ a 1 = nI (sC s) ∧ rI μ a 2 = nI (sP s) ∧ rI μ a 3 = nI (sS s) ∧ rI μ a 4 = nI (s 0 4) ∧ rI μ a 5 = nI (s 0 8) ∧ rI μ a 6 = nI (s 0 9) ∧ bs (rI μ a 7) (sP s) (fun p => decide (s 5 p = 1)) ∧ (∀ c, c < sC s → rI μ (a + 1) c = nI (s 1 c) ∧ rI μ (a + 2) c = nI (s 2 c) ∧ rI μ (a + 3) c = nI (s 3 c)) ∧ (∀ p, p < sP s → rI μ (a + 4) p = e6 (s 4 p)) ∧ (∀ k, k < sS s → rI μ (a + 5) k = nI (s 6 k) ∧ rI μ (a + 6) k = e6 (s 10 k)) ∧ CL μ (a + 7) s
theorem CS.congr {μ μ' : Mu} {a : Nat} {s : SD} (h : CS μ a s) (e : ∀ k, k ≤ 10 → ∀ i, rI μ' (a + k) i = rI μ (a + k) i) : CS μ' a s := by
  have e0 := e 0 (by omega)
  simp only [Nat.add_zero] at e0
  obtain ⟨h0, h1, h2, h3, h4, h5, h6, h7, h8, h9, h10, len, l1, l2, l3⟩ := h
  refine ⟨by rw [e0]; exact h0, by rw [e0]; exact h1, by rw [e0]; exact h2, by rw [e0]; exact h3, by rw [e0]; exact h4, by rw [e0]; exact h5, by rw [e0]; exact h6, by rw [e0]; exact h7, fun c hc => ?_, fun p hp => ?_, fun k hk => ?_, len, l1, by rw [e 7 (by omega)]; exact l2, fun l hl => ?_⟩
  · rw [e 1 (by omega), e 2 (by omega), e 3 (by omega)]; exact h8 c hc
  · rw [e 4 (by omega)]; exact h9 p hp
  · rw [e 5 (by omega), e 6 (by omega)]; exact h10 k hk
  · obtain ⟨f, f1, f2, f3, f4⟩ := l3 l hl
    have g2 : ∀ i, rI μ' (a + 7 + 2) i = rI μ (a + 7 + 2) i := fun i => e 9 (by omega) i
    have g3 : ∀ i, rI μ' (a + 7 + 3) i = rI μ (a + 7 + 3) i := fun i => e 10 (by omega) i
    have g1 : ∀ i, rI μ' (a + 7 + 1) i = rI μ (a + 7 + 1) i := fun i => e 8 (by omega) i
    exact ⟨f, by rw [g2]; exact f1, by rw [g3]; exact f2, f3, fun i hi => by rw [g1]; exact f4 i hi⟩
def tp (h : Nat) : Int32 := if h = 0 then -1 else nI (h - 1)
theorem tp_1 (h : Nat) : tp h + 1 = nI h := by
  unfold tp
  by_cases h0 : h = 0
  · rw [if_pos h0, h0]; decide
  · rw [if_neg h0, nI_1]; congr 1; omega
theorem tp_lt {h : Nat} (hb : h < 1000) : tp h < 0 ↔ h = 0 := by
  unfold tp
  by_cases h0 : h = 0
  · simp [h0]
  · simp only [h0, if_false, iff_false]
    exact nI_pos (by omega)
theorem tp_s (h : Nat) : tp (h + 1) = nI h := by unfold tp; rw [if_neg (by omega)]; rfl
theorem f_isTold {n l : Nat} {μ : Mu} {s : SD} (h : CL μ 9 s) (hl : l < 3) (hv : SV s) : fX3_isTold n 9 (nI l) μ = some (if sLn s l = 0 then 0 else 1) := by
  obtain ⟨len, l1, -, l3⟩ := h
  obtain ⟨f, f1, f2, f3, -⟩ := l3 l hl
  unfold fX3_isTold
  simp (disch := first | omega | decide) only [gd_true, bnd_some, bnd2_some, ix_n, ib_n, add_l, add_r, mul_l, mul_r, nI_add, sub_r, nI_leI, nI_ltI, nI_eq, le_l, le_r, lt_l, lt_r, eq_l, eq_r, eq_m, if_true, if_false, not_false_eq_true, not_true_eq_false, f1, f2]
  by_cases c : sLn s l = 0
  · rw [if_pos (by omega), if_pos c]
  · rw [if_neg (by omega), if_neg c]
/-- nothing changed but the row 33 -/
def S33 (μ μ' : Mu) : Prop := ∀ a, a ≠ 33 → (∀ i, rI μ' a i = rI μ a i) ∧ ∀ i, rL μ' a i = rL μ a i
set_option maxHeartbeats 4000000 in
theorem f_valueOf {n l : Nat} {μ : Mu} {s : SD} {g : Nat → Int32} (h : CL μ 9 s) (hv : SV s) (hl : l < 3) (hln : 0 < sLn s l) (hn : 1000 < n)
    (hg : g 0 = rI μ 32 0 ∧ g 1 = rI μ 32 1 ∧ (l = 0 → g 2 = rI μ 32 2) ∧ (l = 1 → g 3 = rI μ 32 2 ∧ g 4 = rI μ 32 3 ∧ g 5 = rI μ 32 4) ∧ (l = 2 → g 6 = rI μ 32 2 ∧ g 7 = rI μ 32 3 ∧ g 8 = rI μ 32 4)) :
    ∃ μ', fX3_valueOf n 9 (nI l) μ = some (lawV s l g, μ') ∧ S33 μ μ' := by
  obtain ⟨len, l1, -, l3⟩ := h
  obtain ⟨f, f1, f2, f3, f4⟩ := l3 l hl
  have hok := (hv.2.2.2.2.2.2.2.1 l hl).2 hln
  generalize hm0 : wI μ 33 0 0 = m0
  have hsc : S33 μ m0 := by rw [← hm0]; exact fun a ha => ⟨fun j => rI_ai ha, fun j => rfl⟩
  have key : ∃ r, lp n (sX3_valueOf_15 n 9 (nI l)) (tp (hgN (s (7 + l)) 0), nI (f + 0), m0) = some r ∧ (∃ m, r = .inr m ∧ S33 m0 m ∧ stR (fun j => rI m 33 j) (evN g (s (7 + l)) (sLn s l))) := by
    refine lp_inv (step := sX3_valueOf_15 n 9 (nI l)) (sLn s l) (fun i m => (tp (hgN (s (7 + l)) i), nI (f + i), m)) (fun i m => S33 m0 m ∧ stR (fun j => rI m 33 j) (evN g (s (7 + l)) i)) _ ?_ ?_ (n := n) (by omega) m0 ⟨fun _ _ => ⟨fun _ => rfl, fun _ => rfl⟩, fun j hj => absurd hj (Nat.not_lt_zero j)⟩
    · rintro i m hi ⟨hm, hst⟩
      obtain ⟨hc, hbig, h40⟩ := hok.1 i hi
      have hty := hok.2.2.1 i hi
      have htr := ty_all (g := g) hok i (by omega)
      have hel := evN_len (g := g) hok i (by omega)
      have a1 : rI m (9 + 3) l = nI (f + sLn s l) := by rw [(hm _ (by decide)).1, (hsc _ (by decide)).1]; exact f2
      have a3 : rI m (9 + 1) (f + i) = nI (ccO l (s (7 + l) i)) := by rw [(hm _ (by decide)).1, (hsc _ (by decide)).1]; exact f4 i hi
      have ag : ∀ k, rI m 32 k = rI μ 32 k := fun k => by rw [(hm _ (by decide)).1, (hsc _ (by decide)).1]
      have hcc : ccO l (s (7 + l) i) < 1019 := by unfold ccO; (repeat' split) <;> omega
      have keep : ∀ (k : Nat) (v : Int32), S33 m0 (wI m 33 k v) := fun k v a ha => ⟨fun j => by rw [rI_ai ha]; exact (hm a ha).1 j, fun j => (hm a ha).2 j⟩
      simp (disch := first | omega | decide) only [sX3_valueOf_15, jX3_valueOf_83, jX3_valueOf_113, gd_true, bnd_some, bnd2_some, ix_n, ib_n, add_l, add_r, mul_l, mul_r, nI_add, sub_r, nI_leI, nI_ltI, nI_eq, le_l, le_r, lt_l, lt_r, eq_l, eq_r, eq_m, if_true, if_false, not_false_eq_true, not_true_eq_false, a1, a3, show ¬ f + sLn s l ≤ f + i by omega, tp_1]
      by_cases c1 : s (7 + l) i < 3000
      · have e : hgN (s (7 + l)) (i + 1) = hgN (s (7 + l)) i + 1 := by show (if _ then _ else _) = _; rw [if_pos c1]
        have e9 : ¬ 1010 ≤ ccO l (s (7 + l) i) := by unfold ccO; (repeat' split) <;> omega
        rw [e, tp_s]
        simp (disch := first | omega | decide) only [e9, gd_true, bnd_some, bnd2_some, ix_n, ib_n, add_l, add_r, mul_l, mul_r, nI_add, sub_r, nI_leI, nI_ltI, nI_eq, le_l, le_r, lt_l, lt_r, eq_l, eq_r, eq_m, if_true, if_false, not_false_eq_true, not_true_eq_false, show hgN (s (7 + l)) i < 64 by omega]
        have push : ∀ v : Int32, ev1 g (s (7 + l) i) (evN g (s (7 + l)) i) = v :: evN g (s (7 + l)) i → stR (fun j => rI (wI m 33 (hgN (s (7 + l)) i) v) 33 j) (evN g (s (7 + l)) (i + 1)) := by
          intro v hv2
          rw [upd_w, ← hel]
          show stR _ (ev1 _ _ _)
          rw [hv2]
          exact stR_push hst v
        have e7 : nI (f + i + 1) = nI (f + (i + 1)) := rfl
        by_cases c2 : s (7 + l) i < 1000
        · have e8 : ccO l (s (7 + l) i) = s (7 + l) i := by unfold ccO; rw [if_pos (by omega)]
          rw [e8]
          simp (disch := first | omega | decide) only [show ¬ 1000 ≤ s (7 + l) i by omega, gd_true, bnd_some, bnd2_some, ix_n, ib_n, add_l, add_r, mul_l, mul_r, nI_add, sub_r, nI_leI, nI_ltI, nI_eq, le_l, le_r, lt_l, lt_r, eq_l, eq_r, eq_m, if_true, if_false, not_false_eq_true, not_true_eq_false]
          refine ⟨_, rfl, keep _ _, push _ ?_⟩
          unfold ev1; rw [if_pos c1, if_pos c2]
        · have e8 : 1000 ≤ ccO l (s (7 + l) i) ∧ ccO l (s (7 + l) i) ≤ 1004 ∧ rI m 32 (ccO l (s (7 + l) i) - 1000) = g (s (7 + l) i - 1000) := by
            rw [ag]
            rcases (show (s (7 + l) i = 1000 ∨ s (7 + l) i = 1001 ∨ (l = 0 ∧ s (7 + l) i = 1002) ∨ (l = 1 ∧ (s (7 + l) i = 1003 ∨ s (7 + l) i = 1004 ∨ s (7 + l) i = 1005)) ∨ (l = 2 ∧ (s (7 + l) i = 1006 ∨ s (7 + l) i = 1007 ∨ s (7 + l) i = 1008))) by omega) with h | h | ⟨rfl, h⟩ | ⟨rfl, h | h | h⟩ | ⟨rfl, h | h | h⟩ <;> rw [h]
            · rw [show ccO l 1000 = 1000 by unfold ccO; rw [if_pos (by omega)]]; exact ⟨by decide, by decide, hg.1.symm⟩
            · rw [show ccO l 1001 = 1001 by unfold ccO; rw [if_pos (by omega)]]; exact ⟨by decide, by decide, hg.2.1.symm⟩
            · exact ⟨by decide, by decide, (hg.2.2.1 rfl).symm⟩
            · exact ⟨by decide, by decide, (hg.2.2.2.1 rfl).1.symm⟩
            · exact ⟨by decide, by decide, (hg.2.2.2.1 rfl).2.1.symm⟩
            · exact ⟨by decide, by decide, (hg.2.2.2.1 rfl).2.2.symm⟩
            · exact ⟨by decide, by decide, (hg.2.2.2.2 rfl).1.symm⟩
            · exact ⟨by decide, by decide, (hg.2.2.2.2 rfl).2.1.symm⟩
            · exact ⟨by decide, by decide, (hg.2.2.2.2 rfl).2.2.symm⟩
          have e10 : jmin (nI (ccO l (s (7 + l) i) - 1000)) 4 = nI (ccO l (s (7 + l) i) - 1000) := by
            unfold jmin; rw [if_neg]; rw [lt_l (by decide) (by omega)]; show ¬ 4 < _; omega
          simp (disch := first | omega | decide) only [e8.1, gd_true, bnd_some, bnd2_some, ix_n, ib_n, add_l, add_r, mul_l, mul_r, nI_add, sub_r, nI_leI, nI_ltI, nI_eq, le_l, le_r, lt_l, lt_r, eq_l, eq_r, eq_m, if_true, if_false, not_false_eq_true, not_true_eq_false, e10, e8.2.2]
          refine ⟨_, rfl, keep _ _, push _ ?_⟩
          unfold ev1; rw [if_pos c1, if_neg c2]
      · have e9 : 1010 ≤ ccO l (s (7 + l) i) := by unfold ccO; (repeat' split) <;> omega
        simp only [e9, if_true]
        by_cases c2 : s (7 + l) i = 3006
        · have e : hgN (s (7 + l)) (i + 1) = hgN (s (7 + l)) i := by show (if _ then _ else _) = _; rw [if_neg c1, if_pos c2]
          have e8 : ccO l (s (7 + l) i) = 1010 := by rw [c2]; rfl
          rw [e, e8]
          have h5 := hbig (by omega)
          rw [if_pos c2] at h5
          match hst2 : evN g (s (7 + l)) i, hel with
          | x :: r, hel =>
            rw [hst2] at hst
            have e2 : hgN (s (7 + l)) i = r.length + 1 := by rw [← hel]; rfl
            rw [e2, tp_s]
            simp (disch := first | omega | decide) only [gd_true, bnd_some, bnd2_some, ix_n, ib_n, add_l, add_r, mul_l, mul_r, nI_add, sub_r, nI_leI, nI_ltI, nI_eq, le_l, le_r, lt_l, lt_r, eq_l, eq_r, eq_m, if_true, if_false, not_false_eq_true, not_true_eq_false, show ¬ nI r.length < 0 from nI_pos (by omega)]
            refine ⟨_, rfl, keep _ _, ?_⟩
            rw [upd_w]
            show stR _ (ev1 _ _ _)
            rw [hst2, show rI m 33 r.length = x from stR_hd hst]
            unfold ev1; rw [if_neg c1, if_pos c2]
            exact stR_top hst
          | [], hel => exact absurd hel (by simp; omega)
        · have e : hgN (s (7 + l)) (i + 1) = hgN (s (7 + l)) i - 1 := by show (if _ then _ else _) = _; rw [if_neg c1, if_neg c2]
          have e8 : ¬ ccO l (s (7 + l) i) = 1010 := by unfold ccO; (repeat' split) <;> omega
          rw [e]
          have h5 := hbig (by omega)
          rw [if_neg c2] at h5
          match hst2 : evN g (s (7 + l)) i, hel with
          | y :: x :: r, hel =>
            rw [hst2] at hst htr
            have e2 : hgN (s (7 + l)) i = r.length + 1 + 1 := by rw [← hel]; rfl
            rw [e2, tp_s]
            have e3 : nI (r.length + 1) + (-1) = nI r.length := pk_m1 _
            have hb01 : s (7 + l) i = 3007 ∨ s (7 + l) i = 3008 → (x = 0 ∨ x = 1) ∧ (y = 0 ∨ y = 1) := by
              intro hq
              obtain ⟨q, hq2⟩ := hty.2 hq
              rw [hq2] at htr
              exact ⟨htr.2.1 rfl, htr.1 rfl⟩
            have hj := f_joined (n := n) (l := l) (c := s (7 + l) i) (x := x) (y := y) (μ := m) (by omega) (by omega) c2 hb01
            have t1 : rI m 33 (r.length + 1) = y := stR_hd hst
            have t2 : rI m 33 r.length = x := stR_hd (stR_tail hst)
            simp (disch := first | omega | decide) only [e8, gd_true, bnd_some, bnd2_some, ix_n, ib_n, add_l, add_r, mul_l, mul_r, nI_add, sub_r, nI_leI, nI_ltI, nI_eq, le_l, le_r, lt_l, lt_r, eq_l, eq_r, eq_m, if_true, if_false, not_false_eq_true, not_true_eq_false, e3, t1, t2, hj, show ¬ r.length + 1 < 1 by omega]
            refine ⟨_, rfl, keep _ _, ?_⟩
            rw [upd_w]
            show stR _ (ev1 _ _ _)
            rw [hst2]
            unfold ev1; rw [if_neg c1, if_neg c2]
            exact stR_top (stR_tail hst)
          | [_], hel => exact absurd hel (by simp; omega)
          | [], hel => exact absurd hel (by simp; omega)
    · rintro m ⟨hm, hst⟩
      have a1 : rI m (9 + 3) l = nI (f + sLn s l) := by rw [(hm _ (by decide)).1, (hsc _ (by decide)).1]; exact f2
      exact ⟨.inr m, by simp (disch := first | omega | decide) only [sX3_valueOf_15, gd_true, bnd_some, bnd2_some, ix_n, ib_n, add_l, add_r, mul_l, mul_r, nI_add, sub_r, nI_leI, nI_ltI, nI_eq, le_l, le_r, lt_l, lt_r, eq_l, eq_r, eq_m, if_true, if_false, not_false_eq_true, not_true_eq_false, a1, Nat.le_refl], m, rfl, hm, hst⟩
  obtain ⟨r, h1, m, rfl, h2, h3⟩ := key
  refine ⟨m, ?_, fun a ha => ⟨fun i => by rw [(h2 a ha).1, (hsc a ha).1], fun i => by rw [(h2 a ha).2, (hsc a ha).2]⟩⟩
  unfold fX3_valueOf
  have f1' : rI m0 (9 + 2) l = nI f := by rw [(hsc _ (by decide)).1]; exact f1
  have h1 : lp n (sX3_valueOf_15 n 9 (nI l)) (-1, nI f, m0) = some (.inr m) := h1
  simp (disch := first | omega | decide) only [gd_true, bnd_some, bnd2_some, ix_n, ib_n, add_l, add_r, mul_l, mul_r, nI_add, sub_r, nI_leI, nI_ltI, nI_eq, le_l, le_r, lt_l, lt_r, eq_l, eq_r, eq_m, if_true, if_false, not_false_eq_true, not_true_eq_false, hm0, f1', h1]
  have hlen1 := evN_len (g := g) hok _ (Nat.le_refl _)
  rw [hok.2.1] at hlen1
  unfold lawV
  match hst : evN g (s (7 + l)) (sLn s l), hlen1 with
  | [x], _ =>
    rw [hst] at h3
    show some (rI m 33 0, m) = some (x, m)
    rw [show rI m 33 0 = x from stR_hd h3]
