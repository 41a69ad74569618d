/-! the first number that .. -/
def fsI (f : Nat → Bool) : Nat → Int32
  | 0 => -1
  | n + 1 => if fsI f n = -1 then (if f n = true then nI n else -1) else fsI f n
theorem fsI_none {f : Nat → Bool} : ∀ {n : Nat}, (∀ i, i < n → f i = false) → fsI f n = -1
  | 0, _ => rfl
  | n + 1, h => by unfold fsI; rw [if_pos (fsI_none fun i hi => h i (by omega)), h n (by omega)]; rfl
theorem fsI_hit {f : Nat → Bool} {d : Nat} (h : ∀ i, i < d → f i = false) (hd : f d = true) : fsI f (d + 1) = nI d := by unfold fsI; rw [if_pos (fsI_none h), if_pos hd]
theorem fsI_stay {f : Nat → Bool} {i : Nat} (h : ¬ fsI f i = -1) : ∀ n, fsI f (i + n) = fsI f i
  | 0 => rfl
  | n + 1 => by
    show (if fsI f (i + n) = -1 then _ else fsI f (i + n)) = _
    rw [fsI_stay h n, if_neg h]
theorem fsI_at {f : Nat → Bool} {d n : Nat} (h : ∀ i, i < d → f i = false) (hd : f d = true) (hn : d < n) (hb : d < 2147483648) : fsI f n = nI d := by
  have e := fsI_hit h hd
  obtain ⟨k, rfl⟩ : ∃ k, n = d + 1 + k := ⟨n - (d + 1), by omega⟩
  rw [fsI_stay (by rw [e]; exact nI_m1 (by omega)), e]
theorem fsI_congr {f g : Nat → Bool} : ∀ {n : Nat}, (∀ i, i < n → f i = g i) → fsI f n = fsI g n
  | 0, _ => rfl
  | n + 1, h => by unfold fsI; rw [fsI_congr fun i hi => h i (by omega), h n (by omega)]
theorem PH_QC {x : Nat} (h : PH 41 x) : QC x := by unfold PH at h; unfold QC; omega
theorem c_first {n N : Nat} {μ : Mu} {s : SD} {t : ST} {f : Nat → Bool} (hs : CS μ 2 s) (hv : SV s) (hr : RU μ s) (hV : TV s t) (hh : tH t ≤ 50000) (hN : N ≤ 200) (hn : 1000 < n) (ht : CB μ 41 s t) (step : Int32 × Mu → Option ((Int32 × Mu) ⊕ ((Int32 × Mu) ⊕ Mu)))
    (hstep : ∀ i m, i < N → CB m 41 s (hoursS s no i t) → step (nI i, m) = if f i = true then some (.inr (.inl (nI i, m))) else bnd2 (fX8_passHour n 41 2 m) fun _ m14 => some (.inl (nI (i + 1), m14))) (hend : ∀ m, step (nI N, m) = some (.inr (.inr m))) :
    ∃ q m', lp n step (0, μ) = some q ∧ ((q = .inl (fsI f N, m')) ∨ (q = .inr m' ∧ fsI f N = -1)) ∧ RU m' s ∧ Fr (PH 41) μ m' := by
  have outs : ∀ k, k ≤ 10 → ¬ PH 41 (2 + k) := fun k hk q => by unfold PH at q; omega
  have key : Rn (lp n step (0, μ)) (fun q => ∃ m', ((q = .inl (fsI f N, m')) ∨ (q = .inr m' ∧ fsI f N = -1)) ∧ RU m' s ∧ Fr (PH 41) μ m') := by
    refine Rn.l N (fun i q => q.1 = nI i ∧ (∀ j, j < i → f j = false) ∧ CB q.2 41 s (hoursS s no i t) ∧ RU q.2 s ∧ Fr (PH 41) μ q.2) _ (by omega) ⟨rfl, fun j hj => absurd hj (Nat.not_lt_zero _), ht, hr, Fr.rfl' _ _⟩ ?_ ?_
    · rintro i ⟨x, m⟩ hi ⟨e1, e2, e3, e4, e5⟩
      have e1 : x = nI i := e1
      subst e1
      have e5 : Fr (PH 41) μ m := e5
      rw [hstep i m hi e3]
      by_cases c : f i = true
      · rw [if_pos c]
        exact Rn.so ⟨m, Or.inl (by rw [fsI_at e2 c hi (by omega)]), e4, e5⟩
      · rw [if_neg c]
        obtain ⟨v1, v2⟩ := TV_hours (x := no) hv hV i
        obtain ⟨m', g1, g2, g3, g4⟩ := f_passHour (n := n) (a := 41) (by omega) (hs.fr e5 outs) hv e4 v1 (by omega) hn e3
        rw [g1, bnd2_some]
        refine Rn.so ⟨rfl, fun j hj => ?_, g2, g3, e5.tr g4⟩
        by_cases e : j = i
        · rw [e]; simpa using c
        · exact e2 j (by omega)
    · rintro ⟨x, m⟩ ⟨e1, e2, e3, e4, e5⟩
      have e1 : x = nI N := e1
      subst e1
      rw [hend]
      exact Rn.so ⟨m, Or.inr ⟨rfl, fsI_none e2⟩, e4, e5⟩
  obtain ⟨q, h1, m', h2, h3, h4⟩ := key
  exact ⟨q, m', h1, h2, h3, h4⟩
theorem r_first {n N : Nat} {μ : Mu} {s : SD} {t : ST} {x f : Nat → Bool} (hs : RS μ s) (hv : SV s) (ht : RT μ s t) (hV : TV s t) (hx : bs (rI μ 139 19) 10 x) (hh : tH t ≤ 50000) (hN : N ≤ 200) (hn : 1000 < n) (step : Int32 × Int32 × Mu → Option ((Int32 × Int32 × Mu) ⊕ (Int32 × Mu)))
    (hstep : ∀ i m, i < N → RT m s (hoursS s x i t) → step (-1, nI i, m) = bnd2 (fX12_goesHour n m) fun _ m' => some (.inl (if f i = true then nI i else -1, nI (i + 1), m'))) (hstop : ∀ v i m, i ≤ N → ¬ v = -1 → step (v, nI i, m) = some (.inr (v, m))) (hend : ∀ v m, step (v, nI N, m) = some (.inr (v, m))) :
    ∃ m', lp n step (-1, 0, μ) = some (fsI f N, m') ∧ Fg PR μ m' := by
  have key : Rn (lp n step (-1, 0, μ)) (fun q => q.1 = fsI f N ∧ Fg PR μ q.2) := by
    refine Rn.l N (fun i q => q.1 = fsI f i ∧ q.2.1 = nI i ∧ RT q.2.2 s (hoursS s x i t) ∧ Fg PR μ q.2.2) _ (by omega) ⟨rfl, rfl, ht, Fg.rfl' _ _⟩ ?_ ?_
    · rintro i ⟨z, y, m⟩ hi ⟨e1, e2, e3, e5⟩
      have e1 : z = fsI f i := e1
      have e2 : y = nI i := e2
      subst e1; subst e2
      have e5 : Fg PR μ m := e5
      by_cases c : fsI f i = -1
      · obtain ⟨v1, v2⟩ := TV_hours (x := x) hv hV i
        obtain ⟨m', g1, g2, g3⟩ := f_goesHour (n := n) (x := x) (hs.fg hv e5 (fun i hi q => by unfold PR at q; omega)) hv v1 (by rw [e5.i (fun q => by unfold PR at q; omega)]; exact hx) (by omega) hn e3
        rw [c, hstep i m hi e3, g1, bnd2_some]
        refine Rn.so ⟨?_, rfl, g2, e5.tr g3.fg⟩
        show (if f i = true then nI i else -1) = fsI f (i + 1)
        unfold fsI; rw [if_pos c]
      · rw [hstop _ i m (by omega) c]
        refine Rn.so ⟨?_, e5⟩
        obtain ⟨k, rfl⟩ : ∃ k, N = i + k := ⟨N - i, by omega⟩
        exact (fsI_stay c k).symm
    · rintro ⟨z, y, m⟩ ⟨e1, e2, e3, e5⟩
      have e2 : y = nI N := e2
      subst e2
      rw [hend]
      exact Rn.so ⟨e1, e5⟩
  obtain ⟨⟨z, m⟩, h1, h2, h3⟩ := key
  have h2 : z = fsI f N := h2
  subst h2
  exact ⟨m, h1, h3⟩
/-- what the reference does between keeps and isAgain -/
theorem r_keep {n : Nat} {μ : Mu} {s : SD} {t : ST} (h : RP μ s t) (hn : 1000 < n) : ∃ m1, fX12_keeps n μ = some m1 ∧ (∀ k, k < 116 → rI m1 146 k = rI μ 140 (64 + k)) ∧ Fg (fun a _ => a = 146) μ m1 ∧ RP m1 s t := by
  obtain ⟨m1, k1, k2, k3⟩ := f_keeps (n := n) μ hn
  exact ⟨m1, k1, k2, k3, h.q (k3.mono fun a i q => by unfold QR; omega)⟩
theorem RP.x0 {μ : Mu} {s : SD} {t : ST} (h : RP μ s t) : bs (rI μ 139 19) 10 no := by rw [h.2.2.2.2.2]; exact bs_0 10
theorem lt_lit {i : Nat} (hi : i < 2147483648) (N : Nat) (hN : N < 2147483648) : nI N < nI i ↔ N < i := nI_ltI (by omega) (by omega)
theorem m_comesIn {n k : Nat} {sh : List Sh} {R : Rf} {μ : Mu} {x y : Int32} (hI : INV k sh R μ) (hk : k < 512) (hn : 5000 < n) : GO k sh R (fX11_comesIn n x y μ) (fX12_comesIn n x y) := by
  refine GO.q hI hk fun s t _ hp => ?_
  have hp0 := hp
  obtain ⟨c1, p2, c2, c3, p5, p6⟩ := hp
  have hB := p2.1.2
  have hW := p5.2.1
  have e1 : fX11_comesIn n x y μ = if okN x (tW t) = true then (if okN y (sB s) = true then (bnd (fX8_copyFrom n 41 34 μ) fun m8 => bnd (lp n (sX11_comesIn_32 n x y) (0, m8)) fun q => match q with | .inl (u15, m16) => (some (u15, m16)) | .inr m17 => (some ((-1), m17))) else some (-2, μ)) else some (-2, μ) := by
    unfold fX11_comesIn
    rw [hp0.isW, bnd_some, ifb, hp0.isB, bnd_some, ifb]
    rfl
  have e2 : ∀ μ', RP μ' s t → fX12_comesIn n x y μ' = if okN x (tW t) = true then (if okN y (sB s) = true then (bnd (fX12_keeps n (wI μ' 139 0 0)) fun m8 => bnd (lp n (sX12_comesIn_35 n x y) ((-1), 0, m8)) fun q => match q with | (u18, m19) => jX12_comesIn_78 n u18 m19) else some (-2, wI μ' 139 0 0)) else some (-2, wI μ' 139 0 0) := by
    intro μ' h
    have h' := h.q (RQ.th _)
    unfold fX12_comesIn
    rw [h'.isW, bnd_some, ifb, h'.isB, bnd_some, ifb]
  by_cases k1 : okN x (tW t) = true
  · by_cases k2 : okN y (sB s) = true
    · obtain ⟨w, hw, rfl⟩ := okN_of k1 (by omega)
      obtain ⟨b, hb, rfl⟩ := okN_of k2 (by omega)
      obtain ⟨m1, g1, g2, g3⟩ := f_copyFrom (n := n) (a := 41) (b := 34) (Or.inr (by omega)) p2 hW c3
      have hwh : ∀ i, tW (hoursS s no i t) = tW t := fun i => by
        induction i with
        | zero => rfl
        | succ i ih => exact ih
      obtain ⟨q, m2, q1, q2, q3, q4⟩ := c_first (n := n) (N := 100) (f := fun i => tAt (hoursS s no i t) w b) (c1.fr g3 (fun k hk q => by unfold PS at q; omega)) p2 (c2.fr g3 (fun k h1 h2 q => by unfold PS at q; omega)) p5 (by omega) (by omega) (by omega) g2 (sX11_comesIn_32 n (nI w) (nI b)) (fun i m hi hm => by
          have a1 : bt (rI m 43 w) b = tAt (hoursS s no i t) w b := bs_at (hm.2.2.2.2.2.1 w (by rw [hwh]; exact hw)).1 hb (by omega)
          simp (disch := first | omega | decide) only [sX11_comesIn_32, gd_true, bnd_some, bnd2_some, ix_n, ib_n, add_l, add_r, mul_l, mul_r, nI_add, sub_r, nI_leI, nI_ltI, nI_eq, le_l, le_r, lt_l, lt_r, eq_l, eq_r, eq_m, if_true, if_false, not_false_eq_true, not_true_eq_false, show ¬ 99 < i by omega, b_test, a1, t01]) (fun m => rfl)
      have hq : fX11_comesIn n (nI w) (nI b) μ = some (fsI (fun i => tAt (hoursS s no i t) w b) 100, m2) := by
        rw [e1, if_pos k1, if_pos k2, g1, bnd_some, q1, bnd_some]
        rcases q2 with rfl | ⟨rfl, e⟩
        · rfl
        · rw [e]
      refine ⟨_, m2, hq, ⟨(g3.ph.tr q4).mono fun x => PH_QC, q3⟩, fun μ' h _ => ?_⟩
      have h' := h.q (RQ.th _)
      obtain ⟨m3, l1, l2, l3, l4⟩ := r_keep (n := n) h' (by omega)
      obtain ⟨m4, o1, o2⟩ := r_first (n := n) (N := 100) (f := fun i => tAt (hoursS s no i t) w b) l4.1 p2 l4.2.2.1 p5 l4.x0 (by omega) (by omega) (by omega) (sX12_comesIn_35 n (nI w) (nI b)) (fun i m hi hm => by
          have a1 : bt (rI m 140 (76 + w)) b = tAt (hoursS s no i t) w b := by
            have := (hm.2.2.2.2.2 w (by rw [hwh]; exact hw)).1
            rw [show 76 + w = 64 + (12 + w) by omega]; exact bs_at this hb (by omega)
          have z := f_isIn (n := n) (v := rI m 140 (76 + w)) m (show b < 32 by omega)
          simp (disch := first | omega | decide) only [sX12_comesIn_35, jX12_comesIn_67, gd_true, bnd_some, bnd2_some, ix_n, ib_n, add_l, add_r, mul_l, mul_r, nI_add, sub_r, nI_leI, nI_ltI, nI_eq, le_l, le_r, lt_l, lt_r, eq_l, eq_r, eq_m, if_true, if_false, not_false_eq_true, not_true_eq_false, show ¬ 99 < i by omega, z, a1, ifb]
          split <;> rfl) (fun v i m hi hv => by
          by_cases c : 99 < i
          · simp (disch := first | omega | decide) only [sX12_comesIn_35, gd_true, bnd_some, bnd2_some, ix_n, ib_n, add_l, add_r, mul_l, mul_r, nI_add, sub_r, nI_leI, nI_ltI, nI_eq, le_l, le_r, lt_l, lt_r, eq_l, eq_r, eq_m, if_true, if_false, not_false_eq_true, not_true_eq_false, c]
          · simp (disch := first | omega | decide) only [sX12_comesIn_35, gd_true, bnd_some, bnd2_some, ix_n, ib_n, add_l, add_r, mul_l, mul_r, nI_add, sub_r, nI_leI, nI_ltI, nI_eq, le_l, le_r, lt_l, lt_r, eq_l, eq_r, eq_m, if_true, if_false, not_false_eq_true, not_true_eq_false, c, hv]) (fun v m => rfl)
      obtain ⟨m5, r1, r2, r3⟩ := r_again (n := n) l2 l3 (o2.mono fun _ _ => PR_PG) (by omega)
      refine ⟨m5, ?_, (RQ.th _).tr r2⟩
      rw [e2 μ' h, if_pos k1, if_pos k2, l1, bnd_some, o1, bnd_some]
      show bnd (fX12_isAgain n m4) _ = _
      rw [r1, bnd_some]
    · exact ⟨-2, μ, by rw [e1, if_pos k1, if_neg k2], CQ.rfl' hp0, fun μ' h _ => ⟨_, by rw [e2 μ' h, if_pos k1, if_neg k2], RQ.th _⟩⟩
  · exact ⟨-2, μ, by rw [e1, if_neg k1], CQ.rfl' hp0, fun μ' h _ => ⟨_, by rw [e2 μ' h, if_neg k1], RQ.th _⟩⟩
theorem m_hearsIn {n k : Nat} {sh : List Sh} {R : Rf} {μ : Mu} {x y : Int32} (hI : INV k sh R μ) (hk : k < 512) (hn : 5000 < n) : GO k sh R (fX11_hearsIn n x y μ) (fX12_hearsIn n x y) := by
  refine GO.q hI hk fun s t _ hp => ?_
  have hp0 := hp
  obtain ⟨c1, p2, c2, c3, p5, p6⟩ := hp
  have hP := p2.2.2.1
  have hW := p5.2.1
  have e1 : fX11_hearsIn n x y μ = if okN x (tW t) = true then (if okN y (sP s) = true then (bnd (fX8_copyFrom n 41 34 μ) fun m8 => bnd (lp n (sX11_hearsIn_32 n x y) (0, m8)) fun q => match q with | .inl (u15, m16) => (some (u15, m16)) | .inr m17 => (some ((-1), m17))) else some (-2, μ)) else some (-2, μ) := by
    unfold fX11_hearsIn
    rw [hp0.isW, bnd_some, ifb, hp0.isP, bnd_some, ifb]
    rfl
  have e2 : ∀ μ', RP μ' s t → fX12_hearsIn n x y μ' = if okN x (tW t) = true then (if okN y (sP s) = true then (bnd (fX12_keeps n (wI μ' 139 0 0)) fun m8 => bnd (lp n (sX12_hearsIn_35 n x y) ((-1), 0, m8)) fun q => match q with | (u18, m19) => jX12_hearsIn_78 n u18 m19) else some (-2, wI μ' 139 0 0)) else some (-2, wI μ' 139 0 0) := by
    intro μ' h
    have h' := h.q (RQ.th _)
    unfold fX12_hearsIn
    rw [h'.isW, bnd_some, ifb, h'.isP, bnd_some, ifb]
  by_cases k1 : okN x (tW t) = true
  · by_cases k2 : okN y (sP s) = true
    · obtain ⟨w, hw, rfl⟩ := okN_of k1 (by omega)
      obtain ⟨b, hb, rfl⟩ := okN_of k2 (by omega)
      obtain ⟨m1, g1, g2, g3⟩ := f_copyFrom (n := n) (a := 41) (b := 34) (Or.inr (by omega)) p2 hW c3
      have hwh : ∀ i, tW (hoursS s no i t) = tW t := fun i => by
        induction i with
        | zero => rfl
        | succ i ih => exact ih
      obtain ⟨q, m2, q1, q2, q3, q4⟩ := c_first (n := n) (N := 100) (f := fun i => tHe (hoursS s no i t) w b) (c1.fr g3 (fun k hk q => by unfold PS at q; omega)) p2 (c2.fr g3 (fun k h1 h2 q => by unfold PS at q; omega)) p5 (by omega) (by omega) (by omega) g2 (sX11_hearsIn_32 n (nI w) (nI b)) (fun i m hi hm => by
          have a1 : bt (rI m 47 b) w = tHe (hoursS s no i t) w b := by
            have := bs_at (hm.2.2.2.2.2.2 b (by omega)) (show w < tW (hoursS s no i t) by rw [hwh]; exact hw) (by rw [hwh]; omega)
            rw [this]; simp [hb]
          simp (disch := first | omega | decide) only [sX11_hearsIn_32, gd_true, bnd_some, bnd2_some, ix_n, ib_n, add_l, add_r, mul_l, mul_r, nI_add, sub_r, nI_leI, nI_ltI, nI_eq, le_l, le_r, lt_l, lt_r, eq_l, eq_r, eq_m, if_true, if_false, not_false_eq_true, not_true_eq_false, show ¬ 99 < i by omega, b_test, a1, t01]) (fun m => rfl)
      have hq : fX11_hearsIn n (nI w) (nI b) μ = some (fsI (fun i => tHe (hoursS s no i t) w b) 100, m2) := by
        rw [e1, if_pos k1, if_pos k2, g1, bnd_some, q1, bnd_some]
        rcases q2 with rfl | ⟨rfl, e⟩
        · rfl
        · rw [e]
      refine ⟨_, m2, hq, ⟨(g3.ph.tr q4).mono fun x => PH_QC, q3⟩, fun μ' h _ => ?_⟩
      have h' := h.q (RQ.th _)
      obtain ⟨m3, l1, l2, l3, l4⟩ := r_keep (n := n) h' (by omega)
      obtain ⟨m4, o1, o2⟩ := r_first (n := n) (N := 100) (f := fun i => tHe (hoursS s no i t) w b) l4.1 p2 l4.2.2.1 p5 l4.x0 (by omega) (by omega) (by omega) (sX12_hearsIn_35 n (nI w) (nI b)) (fun i m hi hm => by
          have a1 : bt (rI m 140 (92 + w)) b = tHe (hoursS s no i t) w b := by
            have := (hm.2.2.2.2.2 w (by rw [hwh]; exact hw)).2.2.1
            rw [show 92 + w = 64 + (28 + w) by omega]; exact bs_at this hb (by omega)
          have z := f_isIn (n := n) (v := rI m 140 (92 + w)) m (show b < 32 by omega)
          simp (disch := first | omega | decide) only [sX12_hearsIn_35, jX12_hearsIn_67, gd_true, bnd_some, bnd2_some, ix_n, ib_n, add_l, add_r, mul_l, mul_r, nI_add, sub_r, nI_leI, nI_ltI, nI_eq, le_l, le_r, lt_l, lt_r, eq_l, eq_r, eq_m, if_true, if_false, not_false_eq_true, not_true_eq_false, show ¬ 99 < i by omega, z, a1, ifb]
          split <;> rfl) (fun v i m hi hv => by
          by_cases c : 99 < i
          · simp (disch := first | omega | decide) only [sX12_hearsIn_35, gd_true, bnd_some, bnd2_some, ix_n, ib_n, add_l, add_r, mul_l, mul_r, nI_add, sub_r, nI_leI, nI_ltI, nI_eq, le_l, le_r, lt_l, lt_r, eq_l, eq_r, eq_m, if_true, if_false, not_false_eq_true, not_true_eq_false, c]
          · simp (disch := first | omega | decide) only [sX12_hearsIn_35, gd_true, bnd_some, bnd2_some, ix_n, ib_n, add_l, add_r, mul_l, mul_r, nI_add, sub_r, nI_leI, nI_ltI, nI_eq, le_l, le_r, lt_l, lt_r, eq_l, eq_r, eq_m, if_true, if_false, not_false_eq_true, not_true_eq_false, c, hv]) (fun v m => rfl)
      obtain ⟨m5, r1, r2, r3⟩ := r_again (n := n) l2 l3 (o2.mono fun _ _ => PR_PG) (by omega)
      refine ⟨m5, ?_, (RQ.th _).tr r2⟩
      rw [e2 μ' h, if_pos k1, if_pos k2, l1, bnd_some, o1, bnd_some]
      show bnd (fX12_isAgain n m4) _ = _
      rw [r1, bnd_some]
    · exact ⟨-2, μ, by rw [e1, if_pos k1, if_neg k2], CQ.rfl' hp0, fun μ' h _ => ⟨_, by rw [e2 μ' h, if_pos k1, if_neg k2], RQ.th _⟩⟩
  · exact ⟨-2, μ, by rw [e1, if_neg k1], CQ.rfl' hp0, fun μ' h _ => ⟨_, by rw [e2 μ' h, if_neg k1], RQ.th _⟩⟩
theorem c_probe {n N : Nat} {μ : Mu} {s : SD} {t : ST} (hp : CP μ s t) (hN : N ≤ 200) (hn : 1000 < n) : ∃ μ', fX11_probeHours n (nI N) μ = some μ' ∧ CB μ' 41 s (hoursS s no N t) ∧ CQ s μ μ' := by
  obtain ⟨c1, p2, c2, c3, p5, p6⟩ := hp
  obtain ⟨m1, g1, g2, g3⟩ := f_copyFrom (n := n) (a := 41) (b := 34) (Or.inr (by omega)) p2 p5.2.1 c3
  have outs : ∀ k, k ≤ 10 → ¬ PH 41 (2 + k) := fun k hk q => by unfold PH at q; omega
  have key : Rn (lp n (sX11_probeHours_13 n (nI N)) (0, m1)) (fun r => CB r 41 s (hoursS s no N t) ∧ RU r s ∧ Fr (PH 41) μ r) := by
    refine Rn.l N (fun i q => q.1 = nI i ∧ CB q.2 41 s (hoursS s no i t) ∧ RU q.2 s ∧ Fr (PH 41) μ q.2) _ (by omega) ⟨rfl, g2, c2.fr g3 (fun k h1 h2 q => by unfold PS at q; omega), g3.ph⟩ ?_ ?_
    · rintro i ⟨x, m⟩ hi ⟨e1, e3, e4, e5⟩
      have e1 : x = nI i := e1
      subst e1
      have e5 : Fr (PH 41) μ m := e5
      obtain ⟨v1, v2⟩ := TV_hours (x := no) p2 p5 i
      obtain ⟨m', k1, k2, k3, k4⟩ := f_passHour (n := n) (a := 41) (by omega) (c1.fr e5 outs) p2 e4 v1 (by omega) hn e3
      simp (disch := first | omega | decide) only [sX11_probeHours_13, gd_true, bnd_some, bnd2_some, ix_n, ib_n, add_l, add_r, mul_l, mul_r, nI_add, sub_r, nI_leI, nI_ltI, nI_eq, le_l, le_r, lt_l, lt_r, eq_l, eq_r, eq_m, if_true, if_false, not_false_eq_true, not_true_eq_false, show ¬ N ≤ i by omega, k1]
      exact Rn.so ⟨rfl, k2, k3, e5.tr k4⟩
    · rintro ⟨x, m⟩ ⟨e1, e3, e4, e5⟩
      have e1 : x = nI N := e1
      subst e1
      exact Rn.e (r := m) (ite_le rfl) ⟨e3, e4, e5⟩
  obtain ⟨r, h1, h2, h3, h4⟩ := key
  exact ⟨r, by unfold fX11_probeHours; rw [g1, bnd_some, h1, bnd_some], h2, h4.mono fun x => PH_QC, h3⟩
theorem r_hours {n N : Nat} {μ : Mu} {s : SD} {t : ST} {x : Nat → Bool} (hs : RS μ s) (hv : SV s) (ht : RT μ s t) (hV : TV s t) (hx : bs (rI μ 139 19) 10 x) (hh : tH t ≤ 50000) (hN : N ≤ 200) (hn : 1000 < n) : ∃ μ', fX12_goesHours n (nI N) μ = some μ' ∧ RT μ' s (hoursS s x N t) ∧ Fg PR μ μ' := by
  have key : Rn (lp n (sX12_goesHours_2 n (nI N)) (0, μ)) (fun r => RT r s (hoursS s x N t) ∧ Fg PR μ r) := by
    refine Rn.l N (fun i q => q.1 = nI i ∧ RT q.2 s (hoursS s x i t) ∧ Fg PR μ q.2) _ (by omega) ⟨rfl, ht, Fg.rfl' _ _⟩ ?_ ?_
    · rintro i ⟨z, m⟩ hi ⟨e1, e3, e5⟩
      have e1 : z = nI i := e1
      subst e1
      have e5 : Fg PR μ m := e5
      obtain ⟨v1, v2⟩ := TV_hours (x := x) hv hV i
      obtain ⟨m', k1, k2, k3⟩ := f_goesHour (n := n) (x := x) (hs.fg hv e5 (fun i hi q => by unfold PR at q; omega)) hv v1 (by rw [e5.i (fun q => by unfold PR at q; omega)]; exact hx) (by omega) hn e3
      simp (disch := first | omega | decide) only [sX12_goesHours_2, gd_true, bnd_some, bnd2_some, ix_n, ib_n, add_l, add_r, mul_l, mul_r, nI_add, sub_r, nI_leI, nI_ltI, nI_eq, le_l, le_r, lt_l, lt_r, eq_l, eq_r, eq_m, if_true, if_false, not_false_eq_true, not_true_eq_false, show ¬ N ≤ i by omega, k1]
      exact Rn.so ⟨rfl, k2, e5.tr k3.fg⟩
    · rintro ⟨z, m⟩ ⟨e1, e3, e5⟩
      have e1 : z = nI N := e1
      subst e1
      exact Rn.e (r := m) (ite_le rfl) ⟨e3, e5⟩
  obtain ⟨r, h1, h2, h3⟩ := key
  exact ⟨r, by unfold fX12_goesHours; rw [h1, bnd_some], h2, h3⟩
theorem tW_hours (s : SD) (x : Nat → Bool) (t : ST) : ∀ i, tW (hoursS s x i t) = tW t
  | 0 => rfl
  | i + 1 => tW_hours s x t i
theorem m_heard {n k : Nat} {sh : List Sh} {R : Rf} {μ : Mu} {x y : Int32} (hI : INV k sh R μ) (hk : k < 512) (hn : 5000 < n) : GO k sh R (fX11_heard n x y μ) (fX12_heard n x y) := by
  refine GO.q hI hk fun s t _ hp => ?_
  have hW := hp.2.2.2.2.1.2.1
  have hb := hp.2.2.2.2.2
  have e1 : ∀ m : Mu, fX11_within n y 0 99 m = some (if wi y 0 99 = true then 1 else 0) := fun m => w11 0 99
  have e2 : ∀ m : Mu, fX12_within n y.toInt64 0 99 m = some (if wi y 0 99 = true then 1 else 0) := fun m => w12 0 99
  unfold fX11_heard fX12_heard
  rw [hp.isW, bnd_some, ifb, e1, bnd_some, ifb]
  by_cases k1 : okN x (tW t) = true
  · rw [if_pos k1]
    by_cases k2 : wi y 0 99 = true
    · rw [if_pos k2]
      obtain ⟨w, hw, rfl⟩ := okN_of k1 (by omega)
      obtain ⟨j, j1, j2, rfl⟩ := wi_of k2 (by omega) (by omega)
      obtain ⟨m1, g1, g2, g3⟩ := c_probe (n := n) (N := j) hp (by omega) (by omega)
      obtain ⟨v1, v2⟩ := TV_hours (x := no) hp.2.1 hp.2.2.2.2.1 j
      obtain ⟨r, h1, h2⟩ := f_hearersOf8 (n := n) (a := 41) (w := w) g2 hp.2.1 v1 (by rw [tW_hours]; exact hw) (by omega)
      refine ⟨r, m1, by rw [g1, bnd_some, h1, bnd_some], g3, fun μ' h _ => ?_⟩
      have h' := h.q (RQ.th _)
      obtain ⟨m3, l1, l2, l3, l4⟩ := r_keep (n := n) h' (by omega)
      obtain ⟨m4, o1, o2, o3⟩ := r_hours (n := n) (N := j) l4.1 l4.2.1 l4.2.2.1 l4.2.2.2.1 l4.x0 (by omega) (by omega) (by omega)
      obtain ⟨m5, r1, r2, r3⟩ := r_again (n := n) l2 l3 (o3.mono fun _ _ => PR_PG) (by omega)
      have a1 : rI m4 140 (92 + w) = r := by
        have := (o2.2.2.2.2.2 w (by rw [tW_hours]; exact hw)).2.2.1
        rw [show 92 + w = 64 + (28 + w) by omega]; exact bs_eq this h2
      refine ⟨m5, ?_, (RQ.th _).tr r2⟩
      rw [h'.isW, bnd_some, ifb, if_pos k1, e2, bnd_some, ifb, if_pos k2, l1, bnd_some, o1, bnd_some]
      simp (disch := first | omega | decide) only [gd_true, bnd_some, bnd2_some, ix_n, ib_n, add_l, add_r, mul_l, mul_r, nI_add, sub_r, nI_leI, nI_ltI, nI_eq, le_l, le_r, lt_l, lt_r, eq_l, eq_r, eq_m, if_true, if_false, not_false_eq_true, not_true_eq_false, r1, a1]
    · exact ⟨-3, μ, by rw [if_neg k2], CQ.rfl' hp, fun μ' h _ => ⟨_, by rw [(h.q (RQ.th _)).isW, bnd_some, ifb, if_pos k1, e2, bnd_some, ifb, if_neg k2], RQ.th _⟩⟩
  · exact ⟨-2, μ, by rw [if_neg k1], CQ.rfl' hp, fun μ' h _ => ⟨_, by rw [(h.q (RQ.th _)).isW, bnd_some, ifb, if_neg k1], RQ.th _⟩⟩
/-! the first of the greatest -/
def amx (g : Nat → Nat) : Nat → Nat
  | 0 => 0
  | n + 1 => if n = 0 then 0 else if g (amx g n) < g n then n else amx g n
def amI (g : Nat → Nat) (n : Nat) : Int32 := if n = 0 then -1 else nI (amx g n)
def amV (g : Nat → Nat) (n : Nat) : Int32 := if n = 0 then -1 else nI (g (amx g n))
theorem amx_lt (g : Nat → Nat) : ∀ {n : Nat}, 0 < n → amx g n < n
  | n + 1, _ => by
    unfold amx
    by_cases c : n = 0
    · rw [if_pos c]; omega
    · rw [if_neg c]
      have := amx_lt g (n := n) (by omega)
      split <;> omega
theorem amx_s {g : Nat → Nat} {n : Nat} (h : 0 < n) : amx g (n + 1) = if g (amx g n) < g n then n else amx g n := by
  show (if n = 0 then 0 else _) = _
  rw [if_neg (by omega)]
theorem amI_1 (g : Nat → Nat) : amI g 1 = nI 0 ∧ amV g 1 = nI (g 0) := ⟨rfl, rfl⟩
theorem amI_m1 {g : Nat → Nat} {n : Nat} (h : 0 < n) (hn : n < 2147483648) : ¬ amI g n = -1 := by
  unfold amI; rw [if_neg (by omega)]
  have := amx_lt g h
  exact nI_m1 (by omega)
theorem amx_congr {g g' : Nat → Nat} : ∀ {n : Nat}, (∀ i, i < n → g i = g' i) → amx g n = amx g' n
  | 0, _ => rfl
  | n + 1, h => by
    unfold amx
    rw [amx_congr (fun i hi => h i (by omega)), h n (by omega)]
    by_cases c : n = 0
    · rw [if_pos c, if_pos c]
    · rw [if_neg c, if_neg c, h (amx g' n) (by have := amx_lt g' (n := n) (by omega); omega)]
/-- one step of the class's search for the greatest -/
theorem am_step {g : Nat → Nat} {i : Nat} (hb : ∀ j, j ≤ i → g j < 2147483648) : (if nI (g i) ≤ amV g i then (amI g i, amV g i) else (nI i, nI (g i))) = (amI g (i + 1), amV g (i + 1)) := by
  unfold amI amV
  by_cases c : i = 0
  · subst c
    rw [if_neg]
    · rfl
    · rw [if_pos rfl]
      intro e
      have e2 : (-1 : Int32).toInt = -1 := by decide
      rw [Int32.le_iff_toInt_le, nI_toInt (hb 0 (by omega)), e2] at e
      omega
  · have hl := amx_lt g (n := i) (by omega)
    rw [if_neg c, if_neg c, if_neg (Nat.succ_ne_zero i), if_neg (Nat.succ_ne_zero i), amx_s (by omega)]
    have z := nI_leI (hb i (by omega)) (hb (amx g i) (by omega))
    by_cases c2 : g i ≤ g (amx g i)
    · rw [if_pos (z.mpr c2), if_neg (by omega)]
    · rw [if_neg (fun e => c2 (z.mp e)), if_pos (by omega)]
theorem m_loudest {n k : Nat} {sh : List Sh} {R : Rf} {μ : Mu} {x : Int32} (hI : INV k sh R μ) (hk : k < 512) (hn : 5000 < n) : GO k sh R (fX11_loudest n x μ) (fX12_loudest n x) := by
  refine GO.q hI hk fun s t _ hp => ?_
  have hW := hp.2.2.2.2.1.2.1
  have hP := hp.2.1.2.2.1
  have hb := hp.2.2.2.2.2
  have e1 : ∀ m : Mu, fX11_within n x 0 99 m = some (if wi x 0 99 = true then 1 else 0) := fun m => w11 0 99
  have e2 : ∀ m : Mu, fX12_within n x.toInt64 0 99 m = some (if wi x 0 99 = true then 1 else 0) := fun m => w12 0 99
  unfold fX11_loudest fX12_loudest
  rw [e1, bnd_some, ifb]
  by_cases k2 : wi x 0 99 = true
  · rw [if_pos k2]
    obtain ⟨j, j1, j2, rfl⟩ := wi_of k2 (by omega) (by omega)
    obtain ⟨m1, g1, g2, g3⟩ := c_probe (n := n) (N := j) hp (by omega) (by omega)
    obtain ⟨v1, v2⟩ := TV_hours (x := no) hp.2.1 hp.2.2.2.2.1 j
    have tw := tW_hours s no t j
    generalize hu : hoursS s no j t = u at g2 v1 v2 tw
    have gb : ∀ i, cnt (tHe u i) (sP s) < 2147483648 := fun i => by have := cnt_le (tHe u i) (sP s); omega
    have lc : lp n (sX11_loudest_25 n m1) ((-1), (-1), 0) = some (amI (fun w => cnt (tHe u w) (sP s)) (tW t)) := by
      refine lp_up (step := sX11_loudest_25 n m1) (tW t) (fun i => (amI (fun w => cnt (tHe u w) (sP s)) i, amV (fun w => cnt (tHe u w) (sP s)) i, nI i)) _ (fun i hi => ?_) ?_ (n := n) (by omega)
      · obtain ⟨r, h1, h2⟩ := f_hearersOf8 (n := n) (a := 41) (w := i) g2 hp.2.1 v1 (by rw [tw]; exact hi) (by omega)
        have a3 : rI m1 41 3 = nI (tW t) := by rw [← tw]; exact g2.2.2.2.1
        have bc : bitc r = nI (cnt (tHe u i) (sP s)) := bs_bitc h2 (by omega)
        have z := am_step (g := fun w => cnt (tHe u w) (sP s)) (i := i) (fun q _ => gb q)
        simp (disch := first | omega | decide) only [sX11_loudest_25, gd_true, bnd_some, bnd2_some, ix_n, ib_n, add_l, add_r, mul_l, mul_r, nI_add, sub_r, nI_leI, nI_ltI, nI_eq, le_l, le_r, lt_l, lt_r, eq_l, eq_r, eq_m, if_true, if_false, not_false_eq_true, not_true_eq_false, a3, show ¬ tW t ≤ i by omega, h1, bc]
        by_cases cc : nI (cnt (tHe u i) (sP s)) ≤ amV (fun w => cnt (tHe u w) (sP s)) i
        · rw [if_pos cc] at z ⊢
          obtain ⟨z1, z2⟩ := Prod.mk.inj z
          rw [← z1, ← z2]
        · rw [if_neg cc] at z ⊢
          obtain ⟨z1, z2⟩ := Prod.mk.inj z
          rw [← z1, ← z2]
      · have a3 : rI m1 41 3 = nI (tW t) := by rw [← tw]; exact g2.2.2.2.1
        exact ite_le a3
    refine ⟨amI (fun w => cnt (tHe u w) (sP s)) (tW t), m1, by rw [g1, bnd_some, lc, bnd_some], g3, fun μ' h _ => ?_⟩
    have h' := h.q (RQ.th _)
    obtain ⟨m3, l1, l2, l3, l4⟩ := r_keep (n := n) h' (by omega)
    obtain ⟨m4, o1, o2, o3⟩ := r_hours (n := n) (N := j) l4.1 l4.2.1 l4.2.2.1 l4.2.2.2.1 l4.x0 (by omega) (by omega) (by omega)
    rw [hu] at o2
    obtain ⟨m5, r1, r2, r3⟩ := r_again (n := n) l2 l3 (o3.mono fun _ _ => PR_PG) (by omega)
    have lr : lp n (sX12_loudest_33 n m4) ((-1), 0) = some (amI (fun w => cnt (tHe u w) (sP s)) (tW t)) := by
      have a3 : rI m4 140 67 = nI (tW t) := by rw [← tw]; exact o2.2.2.2.1
      have bo : ∀ w, w < tW t → fX12_bitsOf n (rI m4 140 (92 + w)) m4 = some (nI (cnt (tHe u w) (sP s))) := fun w hw => by
        have := (o2.2.2.2.2.2 w (by rw [tw]; exact hw)).2.2.1
        rw [show 92 + w = 64 + (28 + w) by omega]
        exact f_bitsOf this (by omega) (by omega)
      refine lp_up (step := sX12_loudest_33 n m4) (tW t) (fun i => (amI (fun w => cnt (tHe u w) (sP s)) i, nI i)) _ (fun i hi => ?_) (ite_le a3) (n := n) (by omega)
      by_cases c : i = 0
      · subst c
        simp (disch := first | omega | decide) only [sX12_loudest_33, jX12_loudest_76, gd_true, bnd_some, bnd2_some, ix_n, ib_n, add_l, add_r, mul_l, mul_r, nI_add, sub_r, nI_leI, nI_ltI, nI_eq, le_l, le_r, lt_l, lt_r, eq_l, eq_r, eq_m, if_true, if_false, not_false_eq_true, not_true_eq_false, a3, show ¬ tW t ≤ 0 by omega, show amI (fun w => cnt (tHe u w) (sP s)) 0 = -1 from rfl]
        rfl
      · have hl := amx_lt (fun w => cnt (tHe u w) (sP s)) (n := i) (by omega)
        have ea : amI (fun w => cnt (tHe u w) (sP s)) i = nI (amx (fun w => cnt (tHe u w) (sP s)) i) := by unfold amI; rw [if_neg c]
        have eb : amI (fun w => cnt (tHe u w) (sP s)) (i + 1) = nI (amx (fun w => cnt (tHe u w) (sP s)) (i + 1)) := by unfold amI; rw [if_neg (Nat.succ_ne_zero i)]
        rw [ea, eb, amx_s (by omega)]
        have b1 := bo i hi
        have b2 := bo (amx (fun w => cnt (tHe u w) (sP s)) i) (by omega)
        have gb1 := gb i
        have gb2 := gb (amx (fun w => cnt (tHe u w) (sP s)) i)
        simp (disch := first | omega | decide) only [sX12_loudest_33, jX12_loudest_76, gd_true, bnd_some, bnd2_some, ix_n, ib_n, add_l, add_r, mul_l, mul_r, nI_add, sub_r, nI_leI, nI_ltI, nI_eq, le_l, le_r, lt_l, lt_r, eq_l, eq_r, eq_m, if_true, if_false, not_false_eq_true, not_true_eq_false, a3, show ¬ tW t ≤ i by omega, b1, b2]
        by_cases c2 : cnt (tHe u i) (sP s) ≤ cnt (tHe u (amx (fun w => cnt (tHe u w) (sP s)) i)) (sP s)
        · rw [if_pos c2, if_neg (by omega)]
        · rw [if_neg c2, if_pos (by omega)]
    refine ⟨m5, ?_, (RQ.th _).tr r2⟩
    rw [e2, bnd_some, ifb, if_pos k2, l1, bnd_some, o1, bnd_some, lr, bnd_some]
    show bnd (fX12_isAgain n m4) _ = _
    rw [r1, bnd_some]
  · exact ⟨-3, μ, by rw [if_neg k2], CQ.rfl' hp, fun μ' h _ => ⟨_, by rw [e2, bnd_some, ifb, if_neg k2], RQ.th _⟩⟩
