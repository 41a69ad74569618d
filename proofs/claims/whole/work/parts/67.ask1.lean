/-! questions: the sea, the state -/
theorem Sc.rq {μ μ' : Mu} (h : Sc μ μ') : RQ μ μ' := ⟨fun a i hi => (h a (fun q => by unfold QR at hi; omega) (fun q => by unfold QR at hi; omega)).1 i, fun a i _ hi => (h a (fun q => by have := hi 0; unfold QR at this; omega) (fun q => by have := hi 0; unfold QR at this; omega)).2 i⟩
theorem Sr.cq {μ μ' : Mu} {s : SD} (h : Sr μ μ') (hu : RU μ' s) : CQ s μ μ' := ⟨h.fr.mono fun x q => Or.inl q, hu⟩
theorem bs_wid {x : Int32} {m n : Nat} {f : Nat → Bool} (h : bs x n (fun p => decide (p < m) && f p)) (hm : m ≤ n) : bs x m f := fun i hi => by
  rw [h i hi]
  by_cases c : i < m
  · simp [c, show i < n by omega]
  · simp [c]
theorem f_shellsOf {n a p : Nat} {μ : Mu} {s : SD} {t : ST} (hs : CS μ 2 s) (hv : SV s) (ht : CB μ a s t) (hV : TV s t) (hp : p < sP s) (hn : 10 < n) : ∃ r, fX8_shellsOf n a 2 (nI p) μ = some r ∧ bs r (sS s) (fun k => decide (tHo t k = p)) := by
  have hS := hv.2.2.2.1
  have hP := hv.2.2.1
  have a4 : rI μ 2 3 = nI (sS s) := hs.2.2.2.1
  obtain ⟨r, h1, h2⟩ := lp_set (step := sX8_shellsOf_5 n a 2 (nI p) μ) (K := sS s) (n := n) (f := fun k => decide (tHo t k = p)) (by omega) (by omega) (fun i x hi => by
      have b1 : rI μ (a + 1) i = e6 (tHo t i) := ht.2.2.2.2.1 i hi
      have b4 : tHo t i ≤ 6 := by rcases hV.2.2.1 i hi with h | h <;> omega
      have z := e6_nI b4 (show p < 6 by omega)
      by_cases c : tHo t i = p
      · simp (disch := first | omega | decide) only [sX8_shellsOf_5, gd_true, bnd_some, bnd2_some, ix_n, ib_n, add_l, add_r, mul_l, mul_r, nI_add, sub_r, nI_leI, nI_ltI, nI_eq, le_l, le_r, lt_l, lt_r, eq_l, eq_r, eq_m, if_true, if_false, not_false_eq_true, not_true_eq_false, a4, b1, show ¬ sS s ≤ i by omega, z.mpr c, c, decide_true, show e6 p = nI p by unfold e6; rw [if_neg (by omega)]]
      · simp (disch := first | omega | decide) only [sX8_shellsOf_5, gd_true, bnd_some, bnd2_some, ix_n, ib_n, add_l, add_r, mul_l, mul_r, nI_add, sub_r, nI_leI, nI_ltI, nI_eq, le_l, le_r, lt_l, lt_r, eq_l, eq_r, eq_m, if_true, if_false, not_false_eq_true, not_true_eq_false, a4, b1, show ¬ sS s ≤ i by omega, show ¬ e6 (tHo t i) = nI p from fun e => c (z.mp e), c, decide_false, Bool.false_eq_true]) (fun x => ite_le a4)
  exact ⟨r, by unfold fX8_shellsOf; rw [h1, bnd_some], h2⟩
theorem f_holdsOf {n p : Nat} {μ : Mu} {s : SD} {t : ST} (hs : RS μ s) (hv : SV s) (ht : RT μ s t) (hV : TV s t) (hp : p < sP s) (hn : 10 < n) : ∃ r, fX12_holdsOf n (nI p) μ = some r ∧ bs r (sS s) (fun k => decide (tHo t k = p)) := by
  have hS := hv.2.2.2.1
  have hP := hv.2.2.1
  have a4 : rI μ 140 4 = nI (sS s) := hs.2.2.2.2.1
  obtain ⟨r, h1, h2⟩ := lp_set (step := sX12_holdsOf_4 n (nI p) μ) (K := sS s) (n := n) (f := fun k => decide (tHo t k = p)) (by omega) (by omega) (fun i x hi => by
      have b1 : rI μ 140 (68 + i) = e6 (tHo t i) := by
        have := ht.2.2.2.2.1 i hi
        rw [show 68 + i = 64 + (4 + i) by omega]; exact this
      have b4 : tHo t i ≤ 6 := by rcases hV.2.2.1 i hi with h | h <;> omega
      have z := e6_nI b4 (show p < 6 by omega)
      by_cases c : tHo t i = p
      · simp (disch := first | omega | decide) only [sX12_holdsOf_4, gd_true, bnd_some, bnd2_some, ix_n, ib_n, add_l, add_r, mul_l, mul_r, nI_add, sub_r, nI_leI, nI_ltI, nI_eq, le_l, le_r, lt_l, lt_r, eq_l, eq_r, eq_m, if_true, if_false, not_false_eq_true, not_true_eq_false, a4, b1, show ¬ sS s ≤ i by omega, z.mpr c, c, decide_true, show e6 p = nI p by unfold e6; rw [if_neg (by omega)]]
      · simp (disch := first | omega | decide) only [sX12_holdsOf_4, gd_true, bnd_some, bnd2_some, ix_n, ib_n, add_l, add_r, mul_l, mul_r, nI_add, sub_r, nI_leI, nI_ltI, nI_eq, le_l, le_r, lt_l, lt_r, eq_l, eq_r, eq_m, if_true, if_false, not_false_eq_true, not_true_eq_false, a4, b1, show ¬ sS s ≤ i by omega, show ¬ e6 (tHo t i) = nI p from fun e => c (z.mp e), c, decide_false, Bool.false_eq_true, or_0]) (fun x => ite_le a4)
  exact ⟨r, by unfold fX12_holdsOf; rw [h1, bnd_some], h2⟩
theorem f_heardBy {n p : Nat} {μ : Mu} {s : SD} {t : ST} (ht : RT μ s t) (hv : SV s) (hV : TV s t) (hp : p < sP s) (hn : 10 < n) : ∃ r, fX12_heardBy n (nI p) μ = some r ∧ bs r (tW t) (fun w => tHe t w p) := by
  have hW := hV.2.1
  have hP := hv.2.2.1
  have a4 : rI μ 140 67 = nI (tW t) := ht.2.2.2.1
  obtain ⟨r, h1, h2⟩ := lp_set (step := sX12_heardBy_4 n (nI p) μ) (K := tW t) (n := n) (f := fun w => tHe t w p) (by omega) (by omega) (fun i x hi => by
      have b1 : bt (rI μ 140 (92 + i)) p = tHe t i p := by
        have := (ht.2.2.2.2.2 i hi).2.2.1
        rw [show 92 + i = 64 + (28 + i) by omega]; exact bs_at this hp (by omega)
      have z := f_isIn (n := n) (v := rI μ 140 (92 + i)) μ (show p < 32 by omega)
      simp (disch := first | omega | decide) only [sX12_heardBy_4, gd_true, bnd_some, bnd2_some, ix_n, ib_n, add_l, add_r, mul_l, mul_r, nI_add, sub_r, nI_leI, nI_ltI, nI_eq, le_l, le_r, lt_l, lt_r, eq_l, eq_r, eq_m, if_true, if_false, not_false_eq_true, not_true_eq_false, a4, show ¬ tW t ≤ i by omega, z, b1, ifb, or_ite]) (fun x => ite_le a4)
  exact ⟨r, by unfold fX12_heardBy; rw [h1, bnd_some], h2⟩
theorem f_hearersOf8 {n a w : Nat} {μ : Mu} {s : SD} {t : ST} (ht : CB μ a s t) (hv : SV s) (hV : TV s t) (hw : w < tW t) (hn : 10 < n) : ∃ r, fX8_hearersOf n a (nI w) μ = some r ∧ bs r (sP s) (tHe t w) := by
  have hW := hV.2.1
  have hP := hv.2.2.1
  obtain ⟨r, h1, h2⟩ := lp_set (step := sX8_hearersOf_4 n a (nI w) μ) (K := 6) (n := n) (f := fun p => decide (p < sP s) && tHe t w p) (by omega) (by omega) (fun i x hi => by
      have b1 : bt (rI μ (a + 6) i) w = (decide (i < sP s) && tHe t w i) := bs_at (ht.2.2.2.2.2.2 i hi) hw (by omega)
      simp (disch := first | omega | decide) only [sX8_hearersOf_4, gd_true, bnd_some, bnd2_some, ix_n, ib_n, add_l, add_r, mul_l, mul_r, nI_add, sub_r, nI_leI, nI_ltI, nI_eq, le_l, le_r, lt_l, lt_r, eq_l, eq_r, eq_m, if_true, if_false, not_false_eq_true, not_true_eq_false, show ¬ 6 ≤ i by omega, b_test, b1]
      by_cases c : (decide (i < sP s) && tHe t w i) = true
      · rw [if_pos c, if_pos c]
      · rw [if_neg c, if_neg c]
        have e : ∀ i, i < 6 → shl 0 (nI i) = 0 := by decide
        rw [e i hi, or_0]) (fun x => rfl)
  exact ⟨r, by unfold fX8_hearersOf; rw [h1, bnd_some], bs_wid h2 hP⟩
theorem m_current {n k : Nat} {sh : List Sh} {R : Rf} {μ : Mu} {x y : Int32} (hI : INV k sh R μ) (hk : k < 512) (hn : 5000 < n) : GO k sh R (fX11_current n x y μ) (fX12_current n x y) := by
  refine GO.q hI hk fun s t _ hp => ?_
  obtain ⟨p1, p2, p3, p4, p5, p6⟩ := hp
  have hC := p2.2.1
  have hG := p5.1
  have no2 : ∀ (x1 : fX11_current n x y μ = some (-2, μ)) (x2 : ∀ μ', RP μ' s t → fX12_current n x y μ' = some (-2, wI μ' 139 0 0)), ∃ r μ1, fX11_current n x y μ = some (r, μ1) ∧ CQ s μ μ1 ∧ ∀ μ', RP μ' s t → (∀ a, 139 ≤ a → (∀ i, rI μ' a i = rI μ a i) ∧ ∀ i, rL μ' a i = rL μ a i) → ∃ μ2, fX12_current n x y μ' = some (r, μ2) ∧ RQ μ' μ2 := fun x1 x2 => ⟨-2, μ, x1, ⟨Fr.rfl' _ _, p3⟩, fun μ' h _ => ⟨wI μ' 139 0 0, x2 μ' h, RQ.th _⟩⟩
  have a1 : rI μ 2 1 = nI (sC s) := p1.2.1
  by_cases c : okN x (sC s) = true
  · obtain ⟨j, hj, rfl⟩ := okN_of c (by omega)
    obtain ⟨o1, o2, o3⟩ := p1.2.2.2.2.2.2.2.2.1 j hj
    have o1 : rI μ 3 j = nI (s 1 j) := o1
    have o2 : rI μ 4 j = nI (s 2 j) := o2
    have o3 : rI μ 5 j = nI (s 3 j) := o3
    have n0 : ¬ nI j < 0 := Int32.not_lt.mpr (nI_pos' (by omega))
    have head : fX11_current n (nI j) y μ = if y = 0 then some (nI (s 1 j), μ) else if y = 1 then some (nI (s 2 j), μ) else if y = 2 then some (nI (s 3 j), μ) else if y = 3 then bnd2 (fX6_openCurrents n (rI μ 34 0) (if (rI μ 34 1) ≤ 0 then 0 else 1 : Int32) μ) fun u12 m13 => some ((shr u12 (nI j)) &&& 1, m13) else some (-2, μ) := by
      unfold fX11_current
      simp (disch := first | omega | decide) only [gd_true, bnd_some, bnd2_some, ix_n, ib_n, add_l, add_r, mul_l, mul_r, nI_add, sub_r, nI_leI, nI_ltI, nI_eq, le_l, le_r, lt_l, lt_r, eq_l, eq_r, eq_m, if_true, if_false, not_false_eq_true, not_true_eq_false, a1, n0, hj, o1, o2, o3]
    have headr : ∀ μ', RP μ' s t → fX12_current n (nI j) y μ' = if y = 0 then some (nI (s 1 j), wI μ' 139 0 0) else if y = 1 then some (nI (s 2 j), wI μ' 139 0 0) else if y = 2 then some (nI (s 3 j), wI μ' 139 0 0) else if y = 3 then bnd2 (fX12_isOpen n (nI j) (wI μ' 139 0 0)) fun u12 m13 => if u12 = 0 then (some (0, m13)) else (some (1, m13)) else some (-2, wI μ' 139 0 0) := by
      intro μ' h
      have h' := h.q (RQ.th _)
      obtain ⟨q1, q2, q3⟩ := h'.1.2.2.2.2.2.2.1 j hj
      unfold fX12_current
      rw [h'.isC, bnd_some, ifb, if_pos c]
      simp (disch := first | omega | decide) only [gd_true, bnd_some, bnd2_some, ix_n, ib_n, add_l, add_r, mul_l, mul_r, nI_add, sub_r, nI_leI, nI_ltI, nI_eq, le_l, le_r, lt_l, lt_r, eq_l, eq_r, eq_m, if_true, if_false, not_false_eq_true, not_true_eq_false, q1, q2, q3]
    have done : ∀ v : Int32, fX11_current n (nI j) y μ = some (v, μ) → (∀ μ', RP μ' s t → fX12_current n (nI j) y μ' = some (v, wI μ' 139 0 0)) → ∃ r μ1, fX11_current n (nI j) y μ = some (r, μ1) ∧ CQ s μ μ1 ∧ ∀ μ', RP μ' s t → (∀ a, 139 ≤ a → (∀ i, rI μ' a i = rI μ a i) ∧ ∀ i, rL μ' a i = rL μ a i) → ∃ μ2, fX12_current n (nI j) y μ' = some (r, μ2) ∧ RQ μ' μ2 := fun v x1 x2 => ⟨v, μ, x1, ⟨Fr.rfl' _ _, p3⟩, fun μ' h _ => ⟨wI μ' 139 0 0, x2 μ' h, RQ.th _⟩⟩
    by_cases y0 : y = 0
    · exact done (nI (s 1 j)) (by rw [head, if_pos y0]) (fun μ' h => by rw [headr μ' h, if_pos y0])
    by_cases y1 : y = 1
    · exact done (nI (s 2 j)) (by rw [head, if_neg y0, if_pos y1]) (fun μ' h => by rw [headr μ' h, if_neg y0, if_pos y1])
    by_cases y2 : y = 2
    · exact done (nI (s 3 j)) (by rw [head, if_neg y0, if_neg y1, if_pos y2]) (fun μ' h => by rw [headr μ' h, if_neg y0, if_neg y1, if_pos y2])
    by_cases y3 : y = 3
    · obtain ⟨op, m1, g1, g2, g3, g4⟩ := f_openCurrents (n := n) (h := tH t) (g := gl (tG t)) p1 p2 p3 (by omega) (gl_lt _) (by omega)
      refine ⟨if openS s (tH t) (gl (tG t)) j = true then 1 else 0, m1, ?_, g3.cq g4, fun μ' h _ => ?_⟩
      · rw [head, if_neg y0, if_neg y1, if_neg y2, if_pos y3, p4.1, p4.2.1, gl_if (by omega), g1, bnd2_some, b_test (by omega), bs_at g2 hj (by omega)]
      · have h' := h.q (RQ.th _)
        obtain ⟨m2, k1, k2⟩ := f_isOpen (n := n) (c := j) h'.1 p2 h'.2.2.1 p5 hj (by omega) (by omega)
        refine ⟨m2, ?_, (RQ.th _).tr k2.rq⟩
        rw [headr μ' h, if_neg y0, if_neg y1, if_neg y2, if_pos y3, k1, bnd2_some, ifb]
        split <;> rfl
    · exact done (-2) (by rw [head, if_neg y0, if_neg y1, if_neg y2, if_neg y3]) (fun μ' h => by rw [headr μ' h, if_neg y0, if_neg y1, if_neg y2, if_neg y3])
  · refine no2 ?_ (fun μ' h => ?_)
    · unfold fX11_current
      rw [a1]
      by_cases c1 : x < 0
      · rw [if_pos c1]
      · rw [if_neg c1, if_neg (fun e => c (decide_eq_true ⟨Int32.not_lt.mp c1, e⟩))]
    · unfold fX12_current
      rw [(h.q (RQ.th _)).isC, bnd_some, ifb, if_neg c]
theorem m_person {n k : Nat} {sh : List Sh} {R : Rf} {μ : Mu} {x y : Int32} (hI : INV k sh R μ) (hk : k < 512) (hn : 5000 < n) : GO k sh R (fX11_person n x y μ) (fX12_person n x y) := by
  refine GO.q hI hk fun s t _ hp => ?_
  have hp0 := hp
  obtain ⟨p1, p2, p3, p4, p5, p6⟩ := hp
  have hP := p2.2.2.1
  have hG := p5.1
  have hW := p5.2.1
  have done : ∀ v : Int32, fX11_person n x y μ = some (v, μ) → (∀ μ', RP μ' s t → fX12_person n x y μ' = some (v, wI μ' 139 0 0)) → ∃ r μ1, fX11_person n x y μ = some (r, μ1) ∧ CQ s μ μ1 ∧ ∀ μ', RP μ' s t → (∀ a, 139 ≤ a → (∀ i, rI μ' a i = rI μ a i) ∧ ∀ i, rL μ' a i = rL μ a i) → ∃ μ2, fX12_person n x y μ' = some (r, μ2) ∧ RQ μ' μ2 := fun v x1 x2 => ⟨v, μ, x1, ⟨Fr.rfl' _ _, p3⟩, fun μ' h _ => ⟨wI μ' 139 0 0, x2 μ' h, RQ.th _⟩⟩
  by_cases c : okN x (sP s) = true
  · have hx := okN_of c (by omega)
    obtain ⟨j, hj, hxj⟩ := hx
    have o1 : rI μ 6 j = e6 (s 4 j) := p1.2.2.2.2.2.2.2.2.2.1 j hj
    have o2 : bt (rI μ 2 7) j = decide (s 5 j = 1) := bs_at p1.2.2.2.2.2.2.2.1 hj (by omega)
    have o3 : bs (rI μ 40 j) (tW t) (fun w => tHe t w j) := bs_congr (p4.2.2.2.2.2.2 j (by omega)) fun w _ => by simp [hj]
    obtain ⟨sho, s1, s2⟩ := f_shellsOf (n := n) (a := 34) p1 p2 p4 p5 hj (by omega)
    have head : fX11_person n x y μ = if y = 0 then some (e6 (s 4 j), μ) else if y = 1 then some (if decide (s 5 j = 1) = true then 1 else 0, μ) else if y = 2 then some (rI μ 40 j, μ) else if y = 3 then some (sho, μ) else if y = 4 then (bnd2 (fX6_listeners n (rI μ 34 0) (if (rI μ 34 1) ≤ 0 then 0 else 1 : Int32) (bitc (rI μ 40 j)) μ) fun u16 m17 => some ((shr u16 (nI j)) &&& 1, m17)) else some (-2, μ) := by
      unfold fX11_person
      rw [hp0.isP, bnd_some, ifb, if_pos c, hxj, s1]
      simp (disch := first | omega | decide) only [gd_true, bnd_some, bnd2_some, ix_n, ib_n, add_l, add_r, mul_l, mul_r, nI_add, sub_r, nI_leI, nI_ltI, nI_eq, le_l, le_r, lt_l, lt_r, eq_l, eq_r, eq_m, if_true, if_false, not_false_eq_true, not_true_eq_false, o1, b_test, o2]
    have v5 := (p2.2.2.2.2.2.1 j hj).2
    have headr : ∀ μ', RP μ' s t → fX12_person n x y μ' = if y = 0 then some (e6 (s 4 j), wI μ' 139 0 0) else if y = 1 then some (if decide (s 5 j = 1) = true then 1 else 0, wI μ' 139 0 0) else if y = 2 then some (rI μ 40 j, wI μ' 139 0 0) else if y = 3 then some (sho, wI μ' 139 0 0) else if y = 4 then bnd2 (fX12_listens n (nI j) (wI μ' 139 0 0)) fun u12 m13 => if u12 = 0 then (some (0, m13)) else (some (1, m13)) else some (-2, wI μ' 139 0 0) := by
      intro μ' h
      have h' := h.q (RQ.th _)
      obtain ⟨q1, q2⟩ := h'.1.2.2.2.2.2.2.2.1 j hj
      obtain ⟨hb, h1, h2⟩ := f_heardBy (n := n) h'.2.2.1 p2 p5 hj (by omega)
      obtain ⟨ho, k1, k2⟩ := f_holdsOf (n := n) h'.1 p2 h'.2.2.1 p5 hj (by omega)
      have e1 : hb = rI μ 40 j := bs_eq h2 o3
      have e2 : ho = sho := bs_eq k2 s2
      have e3 : nI (s 5 j) = if decide (s 5 j = 1) = true then 1 else 0 := by
        rcases (show s 5 j = 0 ∨ s 5 j = 1 by omega) with e | e <;> rw [e] <;> rfl
      unfold fX12_person
      rw [h'.isP, bnd_some, ifb, if_pos c, hxj, h1, k1, e1, e2]
      simp (disch := first | omega | decide) only [gd_true, bnd_some, bnd2_some, ix_n, ib_n, add_l, add_r, mul_l, mul_r, nI_add, sub_r, nI_leI, nI_ltI, nI_eq, le_l, le_r, lt_l, lt_r, eq_l, eq_r, eq_m, if_true, if_false, not_false_eq_true, not_true_eq_false, q1, q2]
      rw [e3]
    by_cases y0 : y = 0
    · exact done _ (by rw [head, if_pos y0]) (fun μ' h => by rw [headr μ' h, if_pos y0])
    by_cases y1 : y = 1
    · exact done _ (by rw [head, if_neg y0, if_pos y1]) (fun μ' h => by rw [headr μ' h, if_neg y0, if_pos y1])
    by_cases y2 : y = 2
    · exact done _ (by rw [head, if_neg y0, if_neg y1, if_pos y2]) (fun μ' h => by rw [headr μ' h, if_neg y0, if_neg y1, if_pos y2])
    by_cases y3 : y = 3
    · exact done _ (by rw [head, if_neg y0, if_neg y1, if_neg y2, if_pos y3]) (fun μ' h => by rw [headr μ' h, if_neg y0, if_neg y1, if_neg y2, if_pos y3])
    by_cases y4 : y = 4
    · have hc : hdS t j ≤ tW t := cnt_le _ _
      obtain ⟨li, m1, g1, g2, g3, g4⟩ := f_listeners (n := n) (h := tH t) (g := gl (tG t)) (k := hdS t j) p1 p2 p3 (by omega) (gl_lt _) (by omega) (by omega)
      refine ⟨if lisS s (tH t) (gl (tG t)) j (hdS t j) = true then 1 else 0, m1, ?_, g3.cq g4, fun μ' h _ => ?_⟩
      · rw [head, if_neg y0, if_neg y1, if_neg y2, if_neg y3, if_pos y4, p4.1, p4.2.1, gl_if (by omega), bs_bitc o3 (by omega)]
        rw [show cnt (fun w => tHe t w j) (tW t) = hdS t j from rfl, g1, bnd2_some, b_test (by omega), bs_at g2 hj (by omega)]
      · have h' := h.q (RQ.th _)
        obtain ⟨m2, k1, k2⟩ := f_listens (n := n) (p := j) h'.1 p2 h'.2.2.1 p5 hj (by omega) (by omega)
        refine ⟨m2, ?_, (RQ.th _).tr k2.rq⟩
        rw [headr μ' h, if_neg y0, if_neg y1, if_neg y2, if_neg y3, if_pos y4, k1, bnd2_some, ifb]
        split <;> rfl
    · exact done (-2) (by rw [head, if_neg y0, if_neg y1, if_neg y2, if_neg y3, if_neg y4]) (fun μ' h => by rw [headr μ' h, if_neg y0, if_neg y1, if_neg y2, if_neg y3, if_neg y4])
  · refine done (-2) ?_ (fun μ' h => ?_)
    · unfold fX11_person
      rw [hp0.isP, bnd_some, ifb, if_neg c]
    · unfold fX12_person
      rw [(h.q (RQ.th _)).isP, bnd_some, ifb, if_neg c]
theorem m_shell {n k : Nat} {sh : List Sh} {R : Rf} {μ : Mu} {x y : Int32} (hI : INV k sh R μ) (hk : k < 512) (hn : 5000 < n) : GO k sh R (bnd (fX11_shell n x y μ) fun r => some (r, μ)) (fX12_shell n x y) := by
  refine GO.q hI hk fun s t _ hp => ?_
  have hp0 := hp
  obtain ⟨p1, p2, p3, p4, p5, p6⟩ := hp
  have hS := p2.2.2.2.1
  have done : ∀ v : Int32, fX11_shell n x y μ = some v → (∀ μ', RP μ' s t → fX12_shell n x y μ' = some (v, wI μ' 139 0 0)) → ∃ r μ1, (bnd (fX11_shell n x y μ) fun r => some (r, μ)) = some (r, μ1) ∧ CQ s μ μ1 ∧ ∀ μ', RP μ' s t → (∀ a, 139 ≤ a → (∀ i, rI μ' a i = rI μ a i) ∧ ∀ i, rL μ' a i = rL μ a i) → ∃ μ2, fX12_shell n x y μ' = some (r, μ2) ∧ RQ μ' μ2 := fun v x1 x2 => ⟨v, μ, by rw [x1, bnd_some], ⟨Fr.rfl' _ _, p3⟩, fun μ' h _ => ⟨wI μ' 139 0 0, x2 μ' h, RQ.th _⟩⟩
  have e2 : ∀ m : Mu, fX12_within n y.toInt64 0 1 m = some (if wi y 0 1 = true then 1 else 0) := fun m => w12 0 1
  by_cases c : okN x (sS s) = true
  · obtain ⟨j, hj, hxj⟩ := okN_of c (by omega)
    have o1 : rI μ 7 j = nI (s 6 j) := (p1.2.2.2.2.2.2.2.2.2.2.1 j hj).1
    have o2 : rI μ 35 j = e6 (tHo t j) := p4.2.2.2.2.1 j hj
    have head : fX11_shell n x y μ = if y = 0 then some (nI (s 6 j)) else if y = 1 then some (e6 (tHo t j)) else some (-2) := by
      unfold fX11_shell
      rw [hp0.isS, bnd_some, ifb, if_pos c, hxj]
      simp (disch := first | omega | decide) only [gd_true, bnd_some, bnd2_some, ix_n, ib_n, add_l, add_r, mul_l, mul_r, nI_add, sub_r, nI_leI, nI_ltI, nI_eq, le_l, le_r, lt_l, lt_r, eq_l, eq_r, eq_m, if_true, if_false, not_false_eq_true, not_true_eq_false, o1, o2]
    have headr : ∀ μ', RP μ' s t → fX12_shell n x y μ' = if wi y 0 1 = true then (if y = 0 then some (nI (s 6 j), wI μ' 139 0 0) else some (e6 (tHo t j), wI μ' 139 0 0)) else some (-2, wI μ' 139 0 0) := by
      intro μ' h
      have h' := h.q (RQ.th _)
      have q1 : rI (wI μ' 139 0 0) 140 (56 + j) = nI (s 6 j) := h'.1.2.2.2.2.2.2.2.2 j hj
      have q2 : rI (wI μ' 139 0 0) 140 (68 + j) = e6 (tHo t j) := by
        have := h'.2.2.1.2.2.2.2.1 j hj
        rw [show 68 + j = 64 + (4 + j) by omega]; exact this
      unfold fX12_shell
      rw [h'.isS, bnd_some, ifb, if_pos c, hxj, e2, bnd_some, ifb]
      simp (disch := first | omega | decide) only [gd_true, bnd_some, bnd2_some, ix_n, ib_n, add_l, add_r, mul_l, mul_r, nI_add, sub_r, nI_leI, nI_ltI, nI_eq, le_l, le_r, lt_l, lt_r, eq_l, eq_r, eq_m, if_true, if_false, not_false_eq_true, not_true_eq_false, q1, q2]
    by_cases y0 : y = 0
    · subst y0
      exact done _ (by rw [head, if_pos rfl]) (fun μ' h => by rw [headr μ' h, if_pos (by decide), if_pos rfl])
    by_cases y1 : y = 1
    · subst y1
      exact done _ (by rw [head, if_neg y0, if_pos rfl]) (fun μ' h => by rw [headr μ' h, if_pos (by decide), if_neg y0])
    · refine done _ (by rw [head, if_neg y0, if_neg y1]) (fun μ' h => ?_)
      rw [headr μ' h, if_neg]
      intro q
      obtain ⟨i, i1, i2, rfl⟩ := wi_of q (by omega) (by omega)
      rcases (show i = 0 ∨ i = 1 by omega) with rfl | rfl
      · exact y0 rfl
      · exact y1 rfl
  · refine done (-2) ?_ (fun μ' h => ?_)
    · unfold fX11_shell
      rw [hp0.isS, bnd_some, ifb, if_neg c]
    · unfold fX12_shell
      rw [(h.q (RQ.th _)).isS, bnd_some, ifb, if_neg c]
theorem f_word12 {n w : Nat} {μ : Mu} {s : SD} {t : ST} (hs : RS μ s) (hv : SV s) (ht : RT μ s t) (hV : TV s t) (hw : w < tW t) (hn : 20 < n) : lp n (sX12_word_65 n (nI w) μ) (0, 0) = some (nI (cnt (fun c => decide (tLe t w c ≠ 0)) (sC s))) := by
  have hC := hv.2.1
  have hW := hV.2.1
  have a2 : rI μ 140 2 = nI (sC s) := hs.2.2.1
  refine lp_up (step := sX12_word_65 n (nI w) μ) (sC s) (fun i => (nI (cnt (fun c => decide (tLe t w c ≠ 0)) i), nI i)) _ (fun i hi => ?_) (ite_le a2) (n := n) (by omega)
  have b1 : rI μ 140 (100 + 10 * w + i) = nI (tLe t w i) := by
    have := (ht.2.2.2.2.2 w hw).2.2.2 i hi
    rw [show 100 + 10 * w + i = 64 + (36 + 10 * w + i) by omega]; exact this
  have b2 := hV.2.2.2 w i hw hi
  simp (disch := first | omega | decide) only [sX12_word_65, gd_true, bnd_some, bnd2_some, ix_n, ib_n, add_l, add_r, mul_l, mul_r, nI_add, sub_r, nI_leI, nI_ltI, nI_eq, le_l, le_r, lt_l, lt_r, eq_l, eq_r, eq_m, if_true, if_false, not_false_eq_true, not_true_eq_false, a2, show ¬ sC s ≤ i by omega, b1, cnt]
  by_cases c : tLe t w i = 0
  · simp only [c, Nat.le_refl, if_true, ne_eq, not_true_eq_false, decide_false, Bool.false_eq_true, if_false]
    rw [show nI (cnt (fun c => decide (tLe t w c ≠ 0)) i) + 0 = nI (cnt (fun c => decide (tLe t w c ≠ 0)) i + 0) from nI_add _ 0]
  · simp only [show ¬ tLe t w i ≤ 0 by omega, if_false, ne_eq, c, not_false_eq_true, decide_true, if_true]
    rw [show nI (cnt (fun c => decide (¬ tLe t w c = 0)) i) + 1 = nI (cnt (fun c => decide (¬ tLe t w c = 0)) i + 1) from nI_add _ 1]
theorem m_word {n k : Nat} {sh : List Sh} {R : Rf} {μ : Mu} {x y : Int32} (hI : INV k sh R μ) (hk : k < 512) (hn : 5000 < n) : GO k sh R (bnd (fX11_word n x y μ) fun r => some (r, μ)) (fX12_word n x y) := by
  refine GO.q hI hk fun s t _ hp => ?_
  have hp0 := hp
  obtain ⟨p1, p2, p3, p4, p5, p6⟩ := hp
  have hW := p5.2.1
  have hC := p2.2.1
  have done : ∀ v : Int32, fX11_word n x y μ = some v → (∀ μ', RP μ' s t → fX12_word n x y μ' = some (v, wI μ' 139 0 0)) → ∃ r μ1, (bnd (fX11_word n x y μ) fun r => some (r, μ)) = some (r, μ1) ∧ CQ s μ μ1 ∧ ∀ μ', RP μ' s t → (∀ a, 139 ≤ a → (∀ i, rI μ' a i = rI μ a i) ∧ ∀ i, rL μ' a i = rL μ a i) → ∃ μ2, fX12_word n x y μ' = some (r, μ2) ∧ RQ μ' μ2 := fun v x1 x2 => ⟨v, μ, by rw [x1, bnd_some], ⟨Fr.rfl' _ _, p3⟩, fun μ' h _ => ⟨wI μ' 139 0 0, x2 μ' h, RQ.th _⟩⟩
  have e2 : ∀ m : Mu, fX12_within n y.toInt64 0 2 m = some (if wi y 0 2 = true then 1 else 0) := fun m => w12 0 2
  by_cases c : okN x (tW t) = true
  · obtain ⟨j, hj, hxj⟩ := okN_of c (by omega)
    obtain ⟨o1, o2, o3, o4⟩ := p4.2.2.2.2.2.1 j hj
    obtain ⟨he, h1, h2⟩ := f_hearersOf8 (n := n) (w := j) p4 p2 p5 hj (by omega)
    have o3' : bitc (rI μ 38 j) = nI (cnt (fun c => decide (tLe t j c ≠ 0)) (sC s)) := bs_bitc o3 (by omega)
    have head : fX11_word n x y μ = if y = 0 then some (rI μ 36 j) else if y = 1 then some (nI (cnt (fun c => decide (tLe t j c ≠ 0)) (sC s))) else if y = 2 then some he else some (-2) := by
      unfold fX11_word
      rw [hp0.isW, bnd_some, ifb, if_pos c, hxj, h1]
      simp (disch := first | omega | decide) only [gd_true, bnd_some, bnd2_some, ix_n, ib_n, add_l, add_r, mul_l, mul_r, nI_add, sub_r, nI_leI, nI_ltI, nI_eq, le_l, le_r, lt_l, lt_r, eq_l, eq_r, eq_m, if_true, if_false, not_false_eq_true, not_true_eq_false, o3']
    have headr : ∀ μ', RP μ' s t → fX12_word n x y μ' = if wi y 0 2 = true then (if y = 1 then some (nI (cnt (fun c => decide (tLe t j c ≠ 0)) (sC s)), wI μ' 139 0 0) else if y = 0 then some (rI μ 36 j, wI μ' 139 0 0) else some (he, wI μ' 139 0 0)) else some (-2, wI μ' 139 0 0) := by
      intro μ' h
      have h' := h.q (RQ.th _)
      obtain ⟨r1, r2, r3, r4⟩ := h'.2.2.1.2.2.2.2.2 j hj
      have q1 : rI (wI μ' 139 0 0) 140 (76 + j) = rI μ 36 j := by
        rw [show 76 + j = 64 + (12 + j) by omega]; exact bs_eq r1 o1
      have q2 : rI (wI μ' 139 0 0) 140 (92 + j) = he := by
        rw [show 92 + j = 64 + (28 + j) by omega]; exact bs_eq r3 h2
      unfold fX12_word
      rw [h'.isW, bnd_some, ifb, if_pos c, hxj, e2, bnd_some, ifb, f_word12 h'.1 p2 h'.2.2.1 p5 hj (by omega), bnd_some]
      simp (disch := first | omega | decide) only [gd_true, bnd_some, bnd2_some, ix_n, ib_n, add_l, add_r, mul_l, mul_r, nI_add, sub_r, nI_leI, nI_ltI, nI_eq, le_l, le_r, lt_l, lt_r, eq_l, eq_r, eq_m, if_true, if_false, not_false_eq_true, not_true_eq_false, q1, q2]
    by_cases y0 : y = 0
    · subst y0
      exact done _ (by rw [head, if_pos rfl]) (fun μ' h => by rw [headr μ' h, if_pos (by decide), if_neg (by decide), if_pos rfl])
    by_cases y1 : y = 1
    · subst y1
      exact done _ (by rw [head, if_neg y0, if_pos rfl]) (fun μ' h => by rw [headr μ' h, if_pos (by decide), if_pos rfl])
    by_cases y2 : y = 2
    · subst y2
      exact done _ (by rw [head, if_neg y0, if_neg y1, if_pos rfl]) (fun μ' h => by rw [headr μ' h, if_pos (by decide), if_neg y1, if_neg y0])
    · refine done _ (by rw [head, if_neg y0, if_neg y1, if_neg y2]) (fun μ' h => ?_)
      rw [headr μ' h, if_neg]
      intro q
      obtain ⟨i, i1, i2, rfl⟩ := wi_of q (by omega) (by omega)
      rcases (show i = 0 ∨ i = 1 ∨ i = 2 by omega) with rfl | rfl | rfl
      · exact y0 rfl
      · exact y1 rfl
      · exact y2 rfl
  · refine done (-2) ?_ (fun μ' h => ?_)
    · unfold fX11_word
      rw [hp0.isW, bnd_some, ifb, if_neg c]
    · unfold fX12_word
      rw [(h.q (RQ.th _)).isW, bnd_some, ifb, if_neg c]
/-- the class's sound -/
theorem c_sound {n b k : Nat} {μ : Mu} {s : SD} {t : ST} (hp : CP μ s t) (hb : b < sB s) (hk : k < 10000) (hn : 1000 < n) : ∃ μ', fX11_soundIn n (nI b) (nI k) μ = some (soundS s b (tH t + k) (gk (tG t) k), μ') ∧ CQ s μ μ' := by
  obtain ⟨p1, p2, p3, p4, p5, p6⟩ := hp
  have hG := p5.1
  obtain ⟨m1, g1, g2, g3⟩ := f_soundOf (n := n) (b := b) (h := tH t + k) (g := gk (tG t) k) p1 p2 p3 hb (by omega) (gk_lt _ _) hn
  refine ⟨m1, ?_, g2.cq g3⟩
  unfold fX11_soundIn
  rw [p4.1, p4.2.1, gk_if (by omega) (by omega), nI_add, g1, bnd2_some]
theorem r_sound {n b k : Nat} {μ : Mu} {s : SD} {t : ST} (hp : RP μ s t) (hb : b < sB s) (hk : k < 10000) (hn : 1000 < n) : ∃ μ', fX12_soundIn n (nI b) (nI k) μ = some (soundS s b (tH t + k) (gk (tG t) k), μ') ∧ RQ μ μ' := by
  obtain ⟨p1, p2, p3, p4, p5, p6⟩ := hp
  have hB := p2.1.2
  obtain ⟨m1, g1, g2⟩ := f_soundIn (n := n) (b := b) (k := k) p1 p2 p3 p4 (by omega) hk (by omega) hn
  exact ⟨m1, g1, g2.rq⟩
theorem m_sound {n k : Nat} {sh : List Sh} {R : Rf} {μ : Mu} {x y : Int32} (hI : INV k sh R μ) (hk : k < 512) (hn : 5000 < n) : GO k sh R (fX11_sound n x y μ) (fX12_sound n x y) := by
  refine GO.q hI hk fun s t _ hp => ?_
  have hB := hp.2.1.1.2
  have e1 : ∀ m : Mu, fX11_within n y 0 999 m = some (if wi y 0 999 = true then 1 else 0) := fun m => w11 0 999
  have e2 : ∀ m : Mu, fX12_within n y.toInt64 0 999 m = some (if wi y 0 999 = true then 1 else 0) := fun m => w12 0 999
  unfold fX11_sound fX12_sound
  rw [hp.isB, bnd_some, ifb]
  by_cases c : okN x (sB s) = true
  · rw [if_pos c, e1, bnd_some, ifb]
    by_cases c2 : wi y 0 999 = true
    · obtain ⟨b, hb, rfl⟩ := okN_of c (by omega)
      obtain ⟨j, j1, j2, rfl⟩ := wi_of c2 (by omega) (by omega)
      obtain ⟨m1, g1, g2⟩ := c_sound (n := n) (b := b) (k := j) hp hb (by omega) (by omega)
      refine ⟨_, m1, by rw [if_pos c2, g1, bnd2_some], g2, fun μ' h _ => ?_⟩
      have h' := h.q (RQ.th _)
      obtain ⟨m2, k1, k2⟩ := r_sound (n := n) (b := b) (k := j) h' hb (by omega) (by omega)
      exact ⟨m2, by rw [h'.isB, bnd_some, ifb, if_pos c, e2, bnd_some, ifb, if_pos c2, k1, bnd2_some], (RQ.th _).tr k2⟩
    · refine ⟨-3, μ, by rw [if_neg c2], CQ.rfl' hp, fun μ' h _ => ⟨wI μ' 139 0 0, ?_, RQ.th _⟩⟩
      rw [(h.q (RQ.th _)).isB, bnd_some, ifb, if_pos c, e2, bnd_some, ifb, if_neg c2]
  · refine ⟨-2, μ, by rw [if_neg c], CQ.rfl' hp, fun μ' h _ => ⟨wI μ' 139 0 0, ?_, RQ.th _⟩⟩
    rw [(h.q (RQ.th _)).isB, bnd_some, ifb, if_neg c]
theorem m_fault {n k : Nat} {sh : List Sh} {R : Rf} {μ : Mu} {x : Int32} (hI : INV k sh R μ) : GO k sh R (bnd (fX11_fault n x μ) fun r => some (r, μ)) (fX12_fault n x) := by
  obtain ⟨s, t, m, h, hV, hC, hR, hT, hA, hG⟩ := hI
  have i2 := INV.same hV hR hT hA hG hC (Fr.rfl' _ _)
  obtain ⟨T, a1, a2, a3, a4, a5, a6⟩ := hA
  unfold GO fX11_fault fX12_fault
  by_cases x0 : x = 0
  · exact ⟨rI μ 0 2, μ, wI μ 139 0 0, by rw [if_pos x0, bnd_some], by rw [if_pos x0, rI_ii (by decide), a5], i2⟩
  by_cases x1 : x = 1
  · exact ⟨rI μ 0 3, μ, wI μ 139 0 0, by rw [if_neg x0, if_pos x1, bnd_some], by rw [if_neg x0, if_pos x1, rI_ii (by decide), a6], i2⟩
  · exact ⟨-1, μ, wI μ 139 0 0, by rw [if_neg x0, if_neg x1, bnd_some], by rw [if_neg x0, if_neg x1], i2⟩
