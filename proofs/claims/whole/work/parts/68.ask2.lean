theorem m_count {n k : Nat} {sh : List Sh} {R : Rf} {μ : Mu} {x : Int32} (hI : INV k sh R μ) : GO k sh R (bnd (fX11_count n x μ) fun r => some (r, μ)) (fX12_count n x) := by
  obtain ⟨s, t, m, h, hV, hC, hR, hT, hA, hG⟩ := hI
  have i2 := INV.same hV hR hT hA hG hC (Fr.rfl' _ _)
  obtain ⟨T, a1, a2, a3, a4, a5, a6⟩ := hA
  have b0 : rI μ 140 1 = rI μ 2 0 := by rw [hR.1.2.1, hC.1.1]
  have b1 : rI μ 140 2 = rI μ 2 1 := by rw [hR.1.2.2.1, hC.1.2.1]
  have b2 : rI μ 140 3 = rI μ 2 2 := by rw [hR.1.2.2.2.1, hC.1.2.2.1]
  have b3 : rI μ 140 4 = rI μ 2 3 := by rw [hR.1.2.2.2.2.1, hC.1.2.2.2.1]
  have b4 : rI μ 140 67 = rI μ 34 3 := by rw [show rI μ 140 67 = _ from hR.2.1.2.2.2.1, hC.2.2.1.2.2.2.1]
  have b5 : rI μ 140 64 = rI μ 34 0 := by rw [show rI μ 140 64 = _ from hR.2.1.1, hC.2.2.1.1]
  have b6 : rI μ 140 65 = rI μ 34 1 := by rw [show rI μ 140 65 = _ from hR.2.1.2.1, hC.2.2.1.2.1]
  have b7 : rI μ 140 180 = rI μ 48 2 := by obtain ⟨q, -, -, q3, -⟩ := hC.2.2.2; rw [hR.2.2.1.1, q3]
  have b8 : rI μ 139 5 = rI μ 0 1 := by rw [a2, a3]
  have b9 : rI μ 140 0 = rI μ 2 4 := by rw [hR.1.1, hC.1.2.2.2.2.1]
  have z : ∀ i, rI (wI μ 139 0 0) 140 i = rI μ 140 i := fun i => rI_ai (by decide)
  have z5 : rI (wI μ 139 0 0) 139 5 = rI μ 139 5 := rI_ii (by decide)
  have hr : fX12_count n x μ = bnd (fX11_count n x μ) fun r => some (r, wI μ 139 0 0) := by
    unfold fX12_count fX11_count
    simp only [z, z5, b0, b1, b2, b3, b4, b5, b6, b7, b8, b9]
    repeat' split
    all_goals rfl
  have ex : ∃ r, fX11_count n x μ = some r := by
    unfold fX11_count
    repeat' split
    all_goals exact ⟨_, rfl⟩
  obtain ⟨r, e⟩ := ex
  exact ⟨r, μ, wI μ 139 0 0, by rw [e, bnd_some], by rw [hr, e, bnd_some], i2⟩
/-! who heard all -/
def allB (f : Nat → Bool) : Nat → Bool
  | 0 => true
  | n + 1 => allB f n && f n
theorem allB_iff {f : Nat → Bool} : ∀ {n : Nat}, allB f n = true ↔ ∀ i, i < n → f i = true
  | 0 => by simp [allB]
  | n + 1 => by
    unfold allB
    rw [Bool.and_eq_true, allB_iff]
    constructor
    · rintro ⟨h1, h2⟩ i hi
      by_cases e : i = n
      · rw [e]; exact h2
      · exact h1 i (by omega)
    · intro h
      exact ⟨fun i hi => h i (by omega), h n (by omega)⟩
theorem f_heardAll8 {n a : Nat} {μ : Mu} {s : SD} {t : ST} (hs : CS μ 2 s) (hv : SV s) (ht : CB μ a s t) (hV : TV s t) (hn : 10 < n) : ∃ r, fX8_heardAll n a 2 μ = some r ∧ bs r (sP s) (fun p => allB (fun w => tHe t w p) (tW t)) := by
  have hW := hV.2.1
  have hP := hv.2.2.1
  have a2 : rI μ 2 2 = nI (sP s) := hs.2.2.1
  have a3 : rI μ a 3 = nI (tW t) := ht.2.2.2.1
  obtain ⟨r, h1, h2⟩ := lp_set (step := sX8_heardAll_4 n a 2 μ) (K := sP s) (n := n) (f := fun p => allB (fun w => tHe t w p) (tW t)) (by omega) (by omega) (fun i x hi => by
      have b1 : bs (rI μ (a + 6) i) (tW t) (fun w => tHe t w i) := bs_congr (ht.2.2.2.2.2.2 i (by omega)) fun w _ => by simp [hi]
      have z : rI μ (a + 6) i = shl 1 (nI (tW t)) - 1 ↔ allB (fun w => tHe t w i) (tW t) = true := by
        rw [allB_iff]
        constructor
        · intro e w hw
          rw [e] at b1
          rw [← bs_at b1 hw (by omega)]
          exact bs_at (bs_full (by omega)) hw (by omega)
        · intro h
          exact bs_eq b1 (bs_congr (bs_full (by omega)) fun w hw => (h w hw).symm)
      by_cases c : allB (fun w => tHe t w i) (tW t) = true
      · simp (disch := first | omega | decide) only [sX8_heardAll_4, gd_true, bnd_some, bnd2_some, ix_n, ib_n, add_l, add_r, mul_l, mul_r, nI_add, sub_r, nI_leI, nI_ltI, nI_eq, le_l, le_r, lt_l, lt_r, eq_l, eq_r, eq_m, if_true, if_false, not_false_eq_true, not_true_eq_false, a2, a3, show ¬ sP s ≤ i by omega, z.mpr c, c]
      · simp (disch := first | omega | decide) only [sX8_heardAll_4, gd_true, bnd_some, bnd2_some, ix_n, ib_n, add_l, add_r, mul_l, mul_r, nI_add, sub_r, nI_leI, nI_ltI, nI_eq, le_l, le_r, lt_l, lt_r, eq_l, eq_r, eq_m, if_true, if_false, not_false_eq_true, not_true_eq_false, a2, a3, show ¬ sP s ≤ i by omega, show ¬ rI μ (a + 6) i = shl 1 (nI (tW t)) - 1 from fun e => c (z.mp e), c, Bool.false_eq_true]) (fun x => ite_le a2)
  exact ⟨r, by unfold fX8_heardAll; rw [h1, bnd_some], h2⟩
theorem f_heardAll12 {n : Nat} {μ : Mu} {s : SD} {t : ST} (hs : RS μ s) (hv : SV s) (ht : RT μ s t) (hV : TV s t) (hn : 10 < n) : ∃ r, fX12_heardAll n μ = some r ∧ bs r (sP s) (fun p => allB (fun w => tHe t w p) (tW t)) := by
  have hW := hV.2.1
  have hP := hv.2.2.1
  have a2 : rI μ 140 3 = nI (sP s) := hs.2.2.2.1
  have a3 : rI μ 140 67 = nI (tW t) := ht.2.2.2.1
  have key : Rn (lp n (sX12_heardAll_13 n μ) (shl 1 (nI (sP s)) - 1, 0)) (fun r => bs r (sP s) (fun p => allB (fun w => tHe t w p) (tW t))) := by
    refine Rn.l (tW t) (fun i q => q.2 = nI i ∧ bs q.1 (sP s) (fun p => allB (fun w => tHe t w p) i)) _ (by omega) ⟨rfl, bs_full (by omega)⟩ ?_ ?_
    · rintro i ⟨x, y⟩ hi ⟨e1, e2⟩
      have e1 : y = nI i := e1
      subst e1
      have b1 : bs (rI μ 140 (92 + i)) (sP s) (tHe t i) := by
        have := (ht.2.2.2.2.2 i hi).2.2.1
        rw [show 92 + i = 64 + (28 + i) by omega]; exact this
      simp (disch := first | omega | decide) only [sX12_heardAll_13, gd_true, bnd_some, bnd2_some, ix_n, ib_n, add_l, add_r, mul_l, mul_r, nI_add, sub_r, nI_leI, nI_ltI, nI_eq, le_l, le_r, lt_l, lt_r, eq_l, eq_r, eq_m, if_true, if_false, not_false_eq_true, not_true_eq_false, a3, show ¬ tW t ≤ i by omega]
      exact Rn.so ⟨rfl, bs_and e2 b1⟩
    · rintro ⟨x, y⟩ ⟨e1, e2⟩
      have e1 : y = nI (tW t) := e1
      subst e1
      exact Rn.e (r := x) (ite_le a3) e2
  obtain ⟨r, h1, h2⟩ := key
  exact ⟨r, by unfold fX12_heardAll; rw [a2, h1, bnd_some], h2⟩
theorem m_judge {n k : Nat} {sh : List Sh} {R : Rf} {μ : Mu} {x y : Int32} (hI : INV k sh R μ) (hk : k < 512) (hn : 5000 < n) : GO k sh R (fX11_judge n x y μ) (fX12_judge n x y) := by
  refine GO.q hI hk fun s t hT hp => ?_
  have hp0 := hp
  obtain ⟨c1, p2, c2, c3, p5, p6⟩ := hp
  have e1 : ∀ m : Mu, fX11_within n y 0 3 m = some (if wi y 0 3 = true then 1 else 0) := fun m => w11 0 3
  have e2 : ∀ m : Mu, fX12_within n y.toInt64 0 3 m = some (if wi y 0 3 = true then 1 else 0) := fun m => w12 0 3
  have done : ∀ v : Int32, fX11_judge n x y μ = some (v, μ) → (∀ μ', (∀ a, 139 ≤ a → (∀ i, rI μ' a i = rI μ a i) ∧ ∀ i, rL μ' a i = rL μ a i) → fX12_judge n x y μ' = some (v, wI μ' 139 0 0)) → ∃ r μ1, fX11_judge n x y μ = some (r, μ1) ∧ CQ s μ μ1 ∧ ∀ μ', RP μ' s t → (∀ a, 139 ≤ a → (∀ i, rI μ' a i = rI μ a i) ∧ ∀ i, rL μ' a i = rL μ a i) → ∃ μ2, fX12_judge n x y μ' = some (r, μ2) ∧ RQ μ' μ2 := fun v x1 x2 => ⟨v, μ, x1, ⟨Fr.rfl' _ _, c2⟩, fun μ' _ h => ⟨wI μ' 139 0 0, x2 μ' h, RQ.th _⟩⟩
  by_cases k0' : ¬ okN x 4 = true
  · have k0 := k0'
    refine done (-2) (by unfold fX11_judge; rw [CP.isT, bnd_some, ifb, if_neg k0]) (fun μ' h => ?_)
    unfold fX12_judge
    rw [e2, bnd_some, ifb]
    by_cases k1 : wi y 0 3 = true
    · rw [if_pos k1, f_noTrayN k0, bnd_some]; rfl
    · rw [if_neg k1]
  have k0 := Decidable.not_not.mp k0'
  by_cases k1' : ¬ wi y 0 3 = true
  · have k1 := k1'
    refine done (-2) (by unfold fX11_judge; rw [CP.isT, bnd_some, ifb, if_pos k0, e1, bnd_some, ifb, if_neg k1]) (fun μ' h => ?_)
    unfold fX12_judge
    rw [e2, bnd_some, ifb, if_neg k1]
  have k1 := Decidable.not_not.mp k1'
  obtain ⟨T, hT4, rfl⟩ := okN_of k0 (by omega)
  obtain ⟨w, w1, w2, rfl⟩ := wi_of k1 (by omega) (by omega)
  rcases hT T hT4 with ⟨a1, a2⟩ | ⟨N, so, N1, N2, N3, N4, N5, N6, N7⟩
  · refine done (-6) ?_ (fun μ' h => ?_)
    · unfold fX11_judge
      rw [CP.isT, bnd_some, ifb, if_pos k0, e1, bnd_some, ifb, if_pos k1]
      simp (disch := first | omega | decide) only [gd_true, bnd_some, bnd2_some, ix_n, ib_n, add_l, add_r, mul_l, mul_r, nI_add, sub_r, nI_leI, nI_ltI, nI_eq, le_l, le_r, lt_l, lt_r, eq_l, eq_r, eq_m, if_true, if_false, not_false_eq_true, not_true_eq_false]
      rw [f_isMissing a1, bnd_some]; rfl
    · unfold fX12_judge
      rw [e2, bnd_some, ifb, if_pos k1, f_noTray (v := -1) hT4 (by rw [rI_ai (by omega), (h 152 (by omega)).1]; exact a2), bnd_some]; rfl
  · have em : ¬ nI N = -1 := nI_m1 (by omega)
    have es : ¬ nI so = -1 := nI_m1 (by omega)
    obtain ⟨m1, g1, g2, g3⟩ := f_copyFrom (n := n) (a := 41) (b := 34) (Or.inr (by omega)) p2 p5.2.1 c3
    have o41 : ∀ x, 48 ≤ x → ¬ PS 41 x := fun x hx q => by unfold PS at q; omega
    have s1 := c1.fr g3 (fun k hk q => by unfold PS at q; omega)
    obtain ⟨d, m2, k1', k2, k3, k4, k5⟩ := f_attemptAll (n := n) (a := 41) (b := 129 + 2 * T) (N := N) (vals := fun k => rL μ (129 + 2 * T + 1) k) (by omega) (by omega) (by omega) s1 p2 (c2.fr g3 (fun k h1 h2 q => by unfold PS at q; omega)) p5 (by omega) (by omega) g2 N1 (by rw [g3.i (o41 _ (by omega))]; exact N3) (fun k hk => (g3 _ (o41 _ (by omega))).2 k)
    have hdN := k2.1
    obtain ⟨v1, v2⟩ := Tl_TV p2 p5 k2.2.1 d (Nat.le_refl _)
    have f2 : Fr (PH 41) μ m2 := g3.ph.tr k5
    have oH : ∀ x, 48 ≤ x → ¬ PH 41 x := fun x hx q => by unfold PH at q; omega
    have s2 : CS m2 2 s := c1.fr f2 (fun k hk q => by unfold PH at q; omega)
    have b1 : rI m2 (129 + 2 * T) 1 = nI N := by rw [f2.i (oH _ (by omega))]; exact N3
    have b2 : rL m2 (129 + 2 * T + 1) d = rL μ (129 + 2 * T + 1) d := (f2 _ (oH _ (by omega))).2 d
    have cq : ∀ m3, Fr (PH 41) m2 m3 → RU m3 s → CQ s μ m3 := fun m3 f3 r3 => ⟨(f2.tr f3).mono fun x q => by unfold PH at q; unfold QC; omega, r3⟩
    obtain ⟨ha, ha1, ha2⟩ := f_heardAll8 (n := n) (a := 41) s2 p2 k3 v1 (by omega)
    generalize hvals : (fun k => rL μ (129 + 2 * T + 1) k) = vals at k2 k3 v1 v2 ha2
    have hvd : ∀ k, rL μ (129 + 2 * T + 1) k = vals k := fun k => by rw [← hvals]
    obtain ⟨m3, q1, q2, q3, q4⟩ := f_attempt (n := n) (a := 41) (v := vals d) (by omega) s2 p2 k4 v1 (by omega) (by omega) k3
    -- what the answer is
    have hle := whyV_le s (dnS s vals t d) (vals d)
    have head : fX11_judge n (nI T) (nI w) μ = if w = 0 then (if d = N then some (-1, m2) else some (nI d, m2)) else if w = 1 then (if d = N then some (0, m2) else some (nI (whyV s (dnS s vals t d) (vals d)), m3)) else if w = 2 then some (nI (tH (dnS s vals t d)), m2) else some (ha, m2) := by
      unfold fX11_judge
      rw [CP.isT, bnd_some, ifb, if_pos k0, e1, bnd_some, ifb, if_pos k1]
      simp (disch := first | omega | decide) only [gd_true, bnd_some, bnd2_some, ix_n, ib_n, add_l, add_r, mul_l, mul_r, nI_add, sub_r, nI_leI, nI_ltI, nI_eq, le_l, le_r, lt_l, lt_r, eq_l, eq_r, eq_m, if_true, if_false, not_false_eq_true, not_true_eq_false]
      rw [f_isMissing N3, bnd_some, if_neg em, if_pos rfl, g1, bnd_some, k1', bnd2_some, b1, ha1, bnd_some]
      have c41 : rI m2 41 0 = nI (tH (dnS s vals t d)) := k3.1
      simp (disch := first | omega | decide) only [gd_true, bnd_some, bnd2_some, ix_n, ib_n, add_l, add_r, mul_l, mul_r, nI_add, sub_r, nI_leI, nI_ltI, nI_eq, le_l, le_r, lt_l, lt_r, eq_l, eq_r, eq_m, if_true, if_false, not_false_eq_true, not_true_eq_false, c41]
      by_cases cN : d = N
      · simp only [cN, if_true]
        by_cases c0 : w = 0
        · simp only [c0, if_true]; rfl
        by_cases c1 : w = 1
        · simp only [c1, if_true]; rfl
        simp only [c0, c1, if_false]
      · simp only [cN, if_false, if_true]
        by_cases c0 : w = 0
        · simp only [c0, if_true]
        by_cases c1 : w = 1
        · simp only [c1, if_true]
          simp (disch := first | omega | decide) only [gd_true, bnd_some, bnd2_some, ix_n, ib_n, add_l, add_r, mul_l, mul_r, nI_add, sub_r, nI_leI, nI_ltI, nI_eq, le_l, le_r, lt_l, lt_r, eq_l, eq_r, eq_m, if_true, if_false, not_false_eq_true, not_true_eq_false, b2, hvd, q1, show d < 40 by omega]
        simp only [c0, c1, if_false]
    have headr : ∀ μ', RP μ' s t → (∀ a, 139 ≤ a → (∀ i, rI μ' a i = rI μ a i) ∧ ∀ i, rL μ' a i = rL μ a i) → ∃ μ2, fX12_judge n (nI T) (nI w) μ' = (if w = 0 then (if d = N then some (-1, μ2) else some (nI d, μ2)) else if w = 1 then (if d = N then some (0, μ2) else some (nI (whyV s (dnS s vals t d) (vals d)), μ2)) else if w = 2 then some (nI (tH (dnS s vals t d)), μ2) else some (ha, μ2)) ∧ RQ μ' μ2 := by
      intro μ' h hsame
      have h' := h.q (RQ.th _)
      obtain ⟨m4, r1, r2, r3⟩ := f_keeps (n := n) (wI μ' 139 0 0) (by omega)
      have hs4 : RS m4 s := h'.1.congr p2 fun i hi => r3.i (by omega)
      have ht4 : RT m4 s t := RB.congr h'.2.2.1 p5 p2 fun i hi => r3.i (by omega)
      obtain ⟨d', m5, l1, l2, l3, l4, l5⟩ := f_tells (n := n) (T := T) (N := N) (vals := vals) hs4 p2 ht4 p5 (by rw [r3.i (by omega)]; exact h'.2.2.2.2.2) (by omega) (by omega) hT4 N1 (by rw [r3.i (by omega), rI_ai (by omega), (hsame 153 (by omega)).1]; exact N6) (fun k hk => by
        rw [r3.2 _ _ (by decide) (by omega)]
        show rL μ' 154 _ = _
        rw [(hsame 154 (by omega)).2, ← hvd k, N7 k hk])
      have e := Tl_un l2 k2
      subst e
      obtain ⟨hb, hb1, hb2⟩ := f_heardAll12 (n := n) (hs4.congr p2 fun i hi => l5.i (fun q => by unfold PT PR at q; omega)) p2 l3 v1 (by omega)
      have e9 : hb = ha := bs_eq hb2 ha2
      subst e9
      obtain ⟨m6, o1, o2, o3⟩ := r_again (n := n) r2 r3 (l5.mono fun _ _ => PT_PG) (by omega)
      refine ⟨m6, ?_, (RQ.th _).tr o2⟩
      have t20 : rI m6 139 20 = nI (if d' < N then whyV s (dnS s vals t d') (vals d') else 0) := by rw [o3 _ _ (by decide)]; exact l4
      have t64 : rI m5 140 64 = nI (tH (dnS s vals t d')) := l3.1
      unfold fX12_judge
      rw [e2, bnd_some, ifb, if_pos k1, f_noTray (v := nI so) hT4 (by rw [rI_ai (by omega), (hsame 152 (by omega)).1]; exact N5), bnd_some, if_neg es, if_pos rfl, r1, bnd_some, l1, bnd2_some, hb1, bnd_some, o1, bnd_some, t20, t64]
      simp (disch := first | omega | decide) only [gd_true, bnd_some, bnd2_some, ix_n, ib_n, add_l, add_r, mul_l, mul_r, nI_add, sub_r, nI_leI, nI_ltI, nI_eq, le_l, le_r, lt_l, lt_r, eq_l, eq_r, eq_m, if_true, if_false, not_false_eq_true, not_true_eq_false]
      by_cases cN : d' = N
      · subst cN
        simp only [Nat.lt_irrefl, if_false, if_true]
        by_cases c0 : w = 0
        · simp only [c0, if_true]; rfl
        by_cases c1 : w = 1
        · simp only [c1, if_true]; rfl
        simp only [c0, c1, if_false]
      · have hlt : d' < N := by omega
        have hne := l2.2.2 hlt
        have hz : ¬ nI (whyV s (dnS s vals t d') (vals d')) = 0 := fun e => hne ((nI_z (by omega)).mp e)
        simp only [hlt, if_true, cN, if_false, hz]
    have hx : ∀ v m9, fX11_judge n (nI T) (nI w) μ = some (v, m9) → CQ s μ m9 → (∀ μ2 : Mu, (if w = 0 then (if d = N then some ((-1 : Int32), μ2) else some (nI d, μ2)) else if w = 1 then (if d = N then some (0, μ2) else some (nI (whyV s (dnS s vals t d) (vals d)), μ2)) else if w = 2 then some (nI (tH (dnS s vals t d)), μ2) else some (ha, μ2)) = some (v, μ2)) → ∃ r μ1, fX11_judge n (nI T) (nI w) μ = some (r, μ1) ∧ CQ s μ μ1 ∧ ∀ μ', RP μ' s t → (∀ a, 139 ≤ a → (∀ i, rI μ' a i = rI μ a i) ∧ ∀ i, rL μ' a i = rL μ a i) → ∃ μ2, fX12_judge n (nI T) (nI w) μ' = some (r, μ2) ∧ RQ μ' μ2 := by
      intro v m9 z1 z2 z3
      refine ⟨v, m9, z1, z2, fun μ' h1 h2 => ?_⟩
      obtain ⟨μ2, y1, y2⟩ := headr μ' h1 h2
      exact ⟨μ2, by rw [y1, z3], y2⟩
    have cq2 : CQ s μ m2 := cq m2 (Fr.rfl' _ _) k4
    have cq3 : CQ s μ m3 := cq m3 q4 q3
    by_cases c0 : w = 0
    · by_cases cN : d = N
      · exact hx (-1) m2 (by rw [head, if_pos c0, if_pos cN]) cq2 (fun μ2 => by rw [if_pos c0, if_pos cN])
      · exact hx (nI d) m2 (by rw [head, if_pos c0, if_neg cN]) cq2 (fun μ2 => by rw [if_pos c0, if_neg cN])
    by_cases c1 : w = 1
    · by_cases cN : d = N
      · exact hx 0 m2 (by rw [head, if_neg c0, if_pos c1, if_pos cN]) cq2 (fun μ2 => by rw [if_neg c0, if_pos c1, if_pos cN])
      · exact hx _ m3 (by rw [head, if_neg c0, if_pos c1, if_neg cN]) cq3 (fun μ2 => by rw [if_neg c0, if_pos c1, if_neg cN])
    by_cases c2 : w = 2
    · exact hx _ m2 (by rw [head, if_neg c0, if_neg c1, if_pos c2]) cq2 (fun μ2 => by rw [if_neg c0, if_neg c1, if_pos c2])
    · exact hx _ m2 (by rw [head, if_neg c0, if_neg c1, if_neg c2]) cq2 (fun μ2 => by rw [if_neg c0, if_neg c1, if_neg c2])
