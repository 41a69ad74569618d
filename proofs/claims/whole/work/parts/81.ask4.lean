/-! CALLS: the reference -/
def RX (μ : Mu) (s : SD) (t : ST) (x : Nat → Bool) : Prop := RS μ s ∧ SV s ∧ RT μ s t ∧ TV s t ∧ tH t ≤ 30000 ∧ bs (rI μ 139 19) 10 x
theorem RP.rx {μ : Mu} {s : SD} {t : ST} (h : RP μ s t) : RX μ s t no := ⟨h.1, h.2.1, h.2.2.1, h.2.2.2.1, h.2.2.2.2.1, h.x0⟩
theorem RX.q {μ μ' : Mu} {s : SD} {t : ST} {x : Nat → Bool} (h : RX μ s t x) (e : RQ μ μ') : RX μ' s t x := by
  obtain ⟨h1, h2, h3, h4, h5, h6⟩ := h
  exact ⟨h1.congr h2 fun i _ => e.i (fun q => by unfold QR at q; omega), h2, RB.congr h3 h4 h2 fun i _ => e.i (fun q => by unfold QR at q; omega), h4, h5, by rw [e.i (fun q => by unfold QR at q; omega)]; exact h6⟩
theorem TV_noW {s : SD} {t : ST} (h : TV s t) : TV s (noW t) := ⟨h.1, Nat.zero_le _, h.2.2.1, fun w c hw => absurd hw (Nat.not_lt_zero _)⟩
theorem TV_whis {s : SD} {u : ST} {b : Nat} (h : TV s u) (hW : tW u < 8) : TV s (whisS u b) := ⟨h.1, by show tW u + 1 ≤ 8; omega, h.2.2.1, fun w c hw hc => by
  show (if w = tW u then 0 else tLe u w c) ≤ 9
  by_cases e : w = tW u
  · rw [if_pos e]; omega
  · rw [if_neg e]
    have hw : w < tW u + 1 := hw
    exact h.2.2.2 w c (by omega) hc⟩
theorem RT_noW {m : Mu} {s : SD} {t : ST} (h : RT m s t) : RT (wI m 140 67 0) s (noW t) := by
  obtain ⟨h0, h1, h2, h3, h4, h5⟩ := h
  have u : ∀ j, j ≠ 3 → rI (wI m 140 67 0) 140 (64 + j) = rI m 140 (64 + j) := fun j hj => by rw [rI_ii (by omega)]
  exact ⟨(u 0 (by omega)).trans h0, (u 1 (by omega)).trans h1, (u 2 (by omega)).trans h2, rI_same _ _ _ _, fun q hq => (u _ (by omega)).trans (h4 q hq), fun w hw => absurd hw (Nat.not_lt_zero _)⟩
theorem TV_ca {s : SD} {x : Nat → Bool} {t : ST} {b w N : Nat} (hv : SV s) (h : TV s t) : TV s (caS s x t b w N) ∧ tH (caS s x t b w N) = tH t + w + N := by
  obtain ⟨h1, h2, h3, h4⟩ := noW_hours s x t w
  obtain ⟨a1, a2⟩ := TV_hours (x := x) hv (TV_noW h) w
  obtain ⟨b1, b2⟩ := TV_hours (x := x) hv (TV_whis (b := b) a1 (by omega)) N
  refine ⟨b1, ?_⟩
  unfold caS
  rw [b2]
  show tH (hoursS s x w (noW t)) + N = _
  omega
theorem r_calls {n b w N : Nat} {μ : Mu} {s : SD} {t : ST} {x : Nat → Bool} (h : RX μ s t x) (hb : b < sB s) (hw : w ≤ 100) (hN : N ≤ 100) (hn : 1000 < n) : ∃ μ', fX12_calls n (nI b) (nI w) (nI N) μ = some μ' ∧ RT μ' s (caS s x t b w N) ∧ Fg PR μ μ' := by
  obtain ⟨p1, p2, p3, p4, p5, p6⟩ := h
  have ro : ∀ i, i < 64 ∨ 1341 ≤ i ∧ i < 2242 → ¬ PR 140 i := fun i hi q => by unfold PR at q; omega
  have rs : ¬ PR 139 19 := fun q => by unfold PR at q; omega
  have f0 : Fg PR μ (wI μ 140 67 0) := (Fg.rfl' _ _).w (Or.inl ⟨rfl, by omega, by omega⟩) _
  obtain ⟨h1, h2, h3, h4⟩ := noW_hours s x t w
  obtain ⟨m1, g1, g2, g3⟩ := r_hours (n := n) (N := w) (x := x) (p1.fg p2 f0 ro) p2 (RT_noW p3) (TV_noW p4) (by rw [f0.i rs]; exact p6) (by show tH t ≤ 50000; omega) (by omega) hn
  have f1 := f0.tr g3
  obtain ⟨a1, a2⟩ := TV_hours (x := x) p2 (TV_noW p4) w
  obtain ⟨m2, k1, k2, k3⟩ := f_whispers (n := n) (b := b) p2 g2 (by omega) hb hn
  have f2 := f1.tr k3
  obtain ⟨m3, l1, l2, l3⟩ := r_hours (n := n) (N := N) (x := x) (p1.fg p2 f2 ro) p2 k2 (TV_whis a1 (by omega)) (by rw [f2.i rs]; exact p6) (by show tH (hoursS s x w (noW t)) ≤ 50000; omega) (by omega) hn
  refine ⟨m3, ?_, l2, f2.tr l3⟩
  unfold fX12_calls
  rw [g1, bnd_some, k1, bnd2_some, l1, bnd_some]
def erS (s : SD) (x : Nat → Bool) (t : ST) (b w N : Nat) : Nat → Bool := tHe (caS s x t b w N) 0
theorem ca_W {s : SD} {x : Nat → Bool} {t : ST} {b w N : Nat} : tW (caS s x t b w N) = 1 := by
  unfold caS
  rw [tW_hours]
  show tW (hoursS s x w (noW t)) + 1 = 1
  rw [(noW_hours s x t w).2.2.1]
theorem r_hearers {n b w N : Nat} {μ : Mu} {s : SD} {t : ST} {x : Nat → Bool} (h : RX μ s t x) (hb : b < sB s) (hw : w ≤ 100) (hN : N ≤ 100) (hn : 1000 < n) : ∃ v m', fX12_hearersOf n (nI b) (nI w) (nI N) μ = some (v, m') ∧ bs v (sP s) (erS s x t b w N) ∧ RQ μ m' := by
  obtain ⟨m1, k1, k2, k3⟩ := f_keeps (n := n) μ hn
  have h1 : RX m1 s t x := h.q (k3.mono fun a i q => by unfold QR; omega)
  obtain ⟨m2, g1, g2, g3⟩ := r_calls (n := n) (b := b) (w := w) (N := N) h1 hb hw hN hn
  obtain ⟨m3, l1, l2, l3⟩ := r_again (n := n) k2 k3 (g3.mono fun _ _ => PR_PG) hn
  refine ⟨rI m2 140 92, m3, ?_, ?_, l2⟩
  · unfold fX12_hearersOf
    rw [k1, bnd_some, g1, bnd_some, l1, bnd_some]
  · exact (g2.2.2.2.2.2 0 (by rw [ca_W]; omega)).2.2.1
/-! the class's call -/
theorem c_call {n L b w N : Nat} {x3 : Int32} {x : Nat → Bool} {μ : Mu} {s : SD} {t : ST} (hp : CP μ s t) (hla : LA μ s t L) (hL : L ≤ 71) (hw : w + N ≤ L) (hb : b < sB s) (hx : bs x3 (sC s) x) (hn : 1000 < n) : ∃ m' r, fX0_send n (nI b) (nI w) x3 μ = some m' ∧ fX0_hearersBy n (nI (w + N)) m' = some r ∧ bs r (sP s) (erS s x t b w N) ∧ LA m' s t L ∧ CQ s μ m' := by
  obtain ⟨m1, g1, g2, g3⟩ := c_send (n := n) hp hla hL (show w ≤ L by omega) hb hx hn
  obtain ⟨r, k1, k2⟩ := c_hearers (n := n) (T := w + N) (hp.q g3) g2 hL (by omega) (by omega) hn
  refine ⟨m1, r, g1, k1, bs_congr k2 fun p hp' => ?_, g2.2.2, g3⟩
  exact ((sim hp.2.1 hL hb N hw).2.2.2.2.2.2 p hp').symm
theorem bs_no {s : SD} : bs (0 : Int32) (sC s) no := bs_0 _
theorem m_hearers {n k : Nat} {sh : List Sh} {R : Rf} {μ : Mu} {x y z : Int32} (hI : INV k sh R μ) (hk : k < 512) (hn : 5000 < n) : GO k sh R (fX11_hearers n x y z μ) (fX12_hearers n x y z) := by
  refine GO.q hI hk fun s t hT hp => ?_
  have hB := hp.2.1.1.2
  have e1 : ∀ m : Mu, fX11_within n y 0 23 m = some (if wi y 0 23 = true then 1 else 0) := fun m => w11 0 23
  have e2 : ∀ m : Mu, fX12_within n y.toInt64 0 23 m = some (if wi y 0 23 = true then 1 else 0) := fun m => w12 0 23
  have e3 : ∀ m : Mu, fX11_within n z 0 48 m = some (if wi z 0 48 = true then 1 else 0) := fun m => w11 0 48
  have e4 : ∀ m : Mu, fX12_isSoon n z m = some (if wi z 0 48 = true then 1 else 0) := fun m => by
    unfold fX12_isSoon
    rw [show fX12_within n z.toInt64 0 48 m = some (if wi z 0 48 = true then 1 else 0) from w12 0 48, bnd_some, isb_01, gd_true]
  have h1 : fX11_hearers n x y z μ = if okN x (sB s) = true then (if wi y 0 23 = true then (if wi z 0 48 = true then (bnd (fX0_lookAhead n (y + z) μ) fun m11 => bnd (fX0_send n x y 0 m11) fun m13 => bnd (fX0_hearersBy n (y + z) m13) fun u15 => some (u15, m13)) else some (-3, μ)) else some (-3, μ)) else some (-2, μ) := by
    unfold fX11_hearers; rw [hp.isB, bnd_some, ifb, e1, bnd_some, ifb, e3, bnd_some, ifb]
  have h2 : ∀ μ', RP μ' s t → fX12_hearers n x y z μ' = if okN x (sB s) = true then (if wi y 0 23 = true then (if wi z 0 48 = true then (bnd2 (fX12_hearersOf n x y z (wI μ' 139 0 0)) fun u11 m12 => some (u11, m12)) else some (-3, wI μ' 139 0 0)) else some (-3, wI μ' 139 0 0)) else some (-2, wI μ' 139 0 0) := by
    intro μ' h; unfold fX12_hearers; rw [(h.q (RQ.th _)).isB, bnd_some, ifb, e2, bnd_some, ifb, e4, bnd_some, ifb]
  by_cases k1 : okN x (sB s) = true
  · by_cases k2 : wi y 0 23 = true
    · by_cases k3 : wi z 0 48 = true
      · obtain ⟨b, hb, rfl⟩ := okN_of k1 (by omega)
        obtain ⟨w, w1, w2, rfl⟩ := wi_of k2 (by omega) (by omega)
        obtain ⟨N, N1, N2, rfl⟩ := wi_of k3 (by omega) (by omega)
        obtain ⟨m1, g1, g2, g3⟩ := c_look (n := n) (L := w + N) hp (by omega) (by omega)
        obtain ⟨m2, r, l1, l2, l3, l4, l5⟩ := c_call (n := n) (b := b) (w := w) (N := N) (hp.q g3) g2 (by omega) (Nat.le_refl _) hb bs_no (by omega)
        refine ⟨r, m2, by rw [h1, if_pos k1, if_pos k2, if_pos k3, nI_add, g1, bnd_some, l1, bnd_some, l2, bnd_some], g3.tr l5, fun μ' h _ => ?_⟩
        obtain ⟨v, m3, o1, o2, o3⟩ := r_hearers (n := n) (b := b) (w := w) (N := N) (h.q (RQ.th _)).rx hb (by omega) (by omega) (by omega)
        exact ⟨m3, by rw [h2 μ' h, if_pos k1, if_pos k2, if_pos k3, o1, bnd2_some, bs_eq o2 l3], (RQ.th _).tr o3⟩
      · exact ⟨-3, μ, by rw [h1, if_pos k1, if_pos k2, if_neg k3], CQ.rfl' hp, fun μ' h _ => ⟨_, by rw [h2 μ' h, if_pos k1, if_pos k2, if_neg k3], RQ.th _⟩⟩
    · exact ⟨-3, μ, by rw [h1, if_pos k1, if_neg k2], CQ.rfl' hp, fun μ' h _ => ⟨_, by rw [h2 μ' h, if_pos k1, if_neg k2], RQ.th _⟩⟩
  · exact ⟨-2, μ, by rw [h1, if_neg k1], CQ.rfl' hp, fun μ' h _ => ⟨_, by rw [h2 μ' h, if_neg k1], RQ.th _⟩⟩
theorem fsI_le {h : Nat} (hh : h < 2147483648) (N : Nat) : fsI (fun i => decide (h ≤ i)) (N + 1) = if h ≤ N then nI h else -1 := by
  by_cases c : h ≤ N
  · rw [if_pos c]
    exact fsI_at (fun i hi => decide_eq_false (by omega)) (decide_eq_true (Nat.le_refl _)) (by omega) hh
  · rw [if_neg c]
    exact fsI_none fun i hi => decide_eq_false (by omega)
theorem m_far {n k : Nat} {sh : List Sh} {R : Rf} {μ : Mu} {x y : Int32} (hI : INV k sh R μ) (hk : k < 512) (hn : 5000 < n) : GO k sh R (fX11_far n x y μ) (fX12_far n x y) := by
  refine GO.q hI hk fun s t hT hp => ?_
  have hB := hp.2.1.1.2
  have e1 : fX11_far n x y μ = if okN x (sB s) = true then (if okN y (sB s) = true then (bnd (fX0_lookAhead n 48 μ) fun m8 => bnd (fX0_send n x 0 0 m8) fun m10 => gd (ib y 6) (if 48 < (rI m10 123 (ix y)) then (some ((-1), m10)) else (some (rI m10 123 (ix y), m10)))) else some (-2, μ)) else some (-2, μ) := by
    unfold fX11_far; rw [hp.isB, bnd_some, ifb, hp.isB, bnd_some, ifb]
  have e2 : ∀ μ', RP μ' s t → fX12_far n x y μ' = if okN x (sB s) = true then (if okN y (sB s) = true then (bnd (fX12_keeps n (wI μ' 139 0 0)) fun m8 => bnd (fX12_calls n x 0 0 m8) fun m10 => bnd (lp n (sX12_far_42 n y) ((-1), 0, m10)) fun q => match q with | (u19, m20) => jX12_far_83 n u19 m20) else some (-2, wI μ' 139 0 0)) else some (-2, wI μ' 139 0 0) := by
    intro μ' h
    have h' := h.q (RQ.th _)
    unfold fX12_far; rw [h'.isB, bnd_some, ifb, h'.isB, bnd_some, ifb]
  by_cases k1 : okN x (sB s) = true
  · by_cases k2 : okN y (sB s) = true
    · obtain ⟨b, hb, rfl⟩ := okN_of k1 (by omega)
      obtain ⟨c, hc, rfl⟩ := okN_of k2 (by omega)
      obtain ⟨m1, g1, g2, g3⟩ := c_look (n := n) (L := 48) hp (by omega) (by omega)
      obtain ⟨m2, l1, l2, l3⟩ := c_send (n := n) (b := b) (w := 0) (hp.q g3) g2 (by omega) (by omega) hb bs_no (by omega)
      have g1 : fX0_lookAhead n 48 μ = some m1 := g1
      have l1 : fX0_send n (nI b) 0 0 m1 = some m2 := l1
      have ac : rI m2 123 c = nI (arS s no t 48 b 0 c) := l2.1 c (by omega)
      have abd := (ar_sup (s := s) (x := no) (t := t) (L := 48) (b := b) (w := 0) hp.2.1 (by omega) (by omega)).2.1 c
      have val : fsI (fun i => tAt (caS s no t b 0 i) 0 c) 49 = if arS s no t 48 b 0 c ≤ 48 then nI (arS s no t 48 b 0 c) else -1 := by
        rw [← fsI_le (by omega) 48]
        exact fsI_congr fun i hi => by
          have := (sim hp.2.1 (show 48 ≤ 71 by omega) hb (x := no) (t := t) (w := 0) i (by omega)).2.2.2.2.1 c hc
          rw [this, Nat.zero_add]
      refine ⟨fsI (fun i => tAt (caS s no t b 0 i) 0 c) 49, m2, ?_, g3.tr l3, fun μ' h _ => ?_⟩
      · rw [e1, if_pos k1, if_pos k2, g1, bnd_some, l1, bnd_some, val]
        simp (disch := first | omega | decide) only [gd_true, bnd_some, bnd2_some, ix_n, ib_n, add_l, add_r, mul_l, mul_r, nI_add, sub_r, nI_leI, nI_ltI, nI_eq, le_l, le_r, lt_l, lt_r, eq_l, eq_r, eq_m, if_true, if_false, not_false_eq_true, not_true_eq_false, ac]
        by_cases q : arS s no t 48 b 0 c ≤ 48
        · rw [if_neg (show ¬ 48 < arS s no t 48 b 0 c by omega), if_pos q]
        · rw [if_pos (show 48 < arS s no t 48 b 0 c by omega), if_neg q]
      · have h' := h.q (RQ.th _)
        obtain ⟨m3, o1, o2, o3, o4⟩ := r_keep (n := n) h' (by omega)
        obtain ⟨m4, r1, r2, r3⟩ := r_calls (n := n) (b := b) (w := 0) (N := 0) o4.rx hb (by omega) (by omega) (by omega)
        obtain ⟨v1, v2⟩ := TV_ca (x := no) (b := b) (w := 0) (N := 0) hp.2.1 hp.2.2.2.2.1
        have hh := hp.2.2.2.2.2
        obtain ⟨m5, q1, q2⟩ := r_first (n := n) (N := 49) (f := fun i => tAt (caS s no t b 0 i) 0 c) (o4.1.fg hp.2.1 r3 (fun i hi q => by unfold PR at q; omega)) hp.2.1 r2 v1 (by rw [r3.i (fun q => by unfold PR at q; omega)]; exact o4.x0) (by omega) (by omega) (by omega) (sX12_far_42 n (nI c)) (fun i m hi hm => by
            have a1 : bt (rI m 140 76) c = tAt (caS s no t b 0 i) 0 c := by
              have := (hm.2.2.2.2.2 0 (by rw [tW_hours, ca_W]; omega)).1
              exact bs_at this hc (by omega)
            have z := f_isIn (n := n) (v := rI m 140 76) m (show c < 32 by omega)
            simp (disch := first | omega | decide) only [sX12_far_42, jX12_far_72, gd_true, bnd_some, bnd2_some, ix_n, ib_n, add_l, add_r, mul_l, mul_r, nI_add, sub_r, nI_leI, nI_ltI, nI_eq, le_l, le_r, lt_l, lt_r, eq_l, eq_r, eq_m, if_true, if_false, not_false_eq_true, not_true_eq_false, show ¬ 48 < i by omega, z, a1, ifb]
            split <;> rfl) (fun v i m hi hv => by
            by_cases q : 48 < i
            · simp (disch := first | omega | decide) only [sX12_far_42, gd_true, bnd_some, bnd2_some, ix_n, ib_n, add_l, add_r, mul_l, mul_r, nI_add, sub_r, nI_leI, nI_ltI, nI_eq, le_l, le_r, lt_l, lt_r, eq_l, eq_r, eq_m, if_true, if_false, not_false_eq_true, not_true_eq_false, q]
            · simp (disch := first | omega | decide) only [sX12_far_42, gd_true, bnd_some, bnd2_some, ix_n, ib_n, add_l, add_r, mul_l, mul_r, nI_add, sub_r, nI_leI, nI_ltI, nI_eq, le_l, le_r, lt_l, lt_r, eq_l, eq_r, eq_m, if_true, if_false, not_false_eq_true, not_true_eq_false, q, hv]) (fun v m => rfl)
        obtain ⟨m6, z1, z2, z3⟩ := r_again (n := n) o2 o3 ((r3.tr q2).mono fun _ _ => PR_PG) (by omega)
        refine ⟨m6, ?_, (RQ.th _).tr z2⟩
        have r1 : fX12_calls n (nI b) 0 0 m3 = some m4 := r1
        rw [e2 μ' h, if_pos k1, if_pos k2, o1, bnd_some, r1, bnd_some, q1, bnd_some]
        show bnd (fX12_isAgain n m5) _ = _
        rw [z1, bnd_some]
    · exact ⟨-2, μ, by rw [e1, if_pos k1, if_neg k2], CQ.rfl' hp, fun μ' h _ => ⟨_, by rw [e2 μ' h, if_pos k1, if_neg k2], RQ.th _⟩⟩
  · exact ⟨-2, μ, by rw [e1, if_neg k1], CQ.rfl' hp, fun μ' h _ => ⟨_, by rw [e2 μ' h, if_neg k1], RQ.th _⟩⟩
theorem r_reach {n b p : Nat} {m3 m4 : Mu} {s : SD} {t : ST} {f : Nat → Bool} (hf : ∀ i, f i = tHe (caS s no t b 0 i) 0 p) (f0 : f 0 = false) (o4 : RP m3 s t) (r2 : RT m4 s (caS s no t b 0 0)) (r3 : Fg PR m3 m4) (hpp : p < sP s) (hn : 5000 < n) : Rn (lp n (sX12_reaches_42 n (nI p)) (-1, 1, m4)) (fun q => q.1 = fsI f 49 ∧ Fg PR m4 q.2) := by
  have hP := o4.2.1.2.2.1
  have hh := o4.2.2.2.2.1
  refine Rn.l1 49 (by omega) (fun i q => q.1 = fsI f i ∧ q.2.1 = nI i ∧ RT q.2.2 s (caS s no t b 0 (i - 1)) ∧ Fg PR m4 q.2.2) _ (by omega) ⟨(fsI_none (n := 1) fun i hi => by rw [show i = 0 by omega]; exact f0).symm, rfl, r2, Fg.rfl' _ _⟩ ?_ ?_
  · rintro i ⟨z, y', m⟩ i1 hi ⟨e1, e2, e3, e5⟩
    have e1 : z = fsI f i := e1
    have e2 : y' = nI i := e2
    subst e1; subst e2
    have e3 : RT m s (caS s no t b 0 (i - 1)) := e3
    have e5 : Fg PR m4 m := e5
    show Rn (if (48 : Int32) < nI i then _ else _) _
    rw [if_neg (fun e => by have : 48 < i := (lt_l (k := 48) (by decide) (by omega)).mp e; omega)]
    by_cases c : fsI f i = -1
    · obtain ⟨v1, v2⟩ := TV_ca (x := no) (b := b) (w := 0) (N := i - 1) o4.2.1 o4.2.2.2.1
      have f4 := r3.tr e5
      obtain ⟨m', q1, q2, q3⟩ := f_goesHour (n := n) (x := no) (o4.1.fg o4.2.1 f4 (fun i hi q => by unfold PR at q; omega)) o4.2.1 v1 (by rw [f4.i (fun q => by unfold PR at q; omega)]; exact o4.x0) (by omega) (by omega) e3
      have q2 : RT m' s (caS s no t b 0 (i - 1 + 1)) := q2
      rw [show i - 1 + 1 = i by omega] at q2
      have a1 : bt (rI m' 140 92) p = f i := by
        have := (q2.2.2.2.2.2 0 (by rw [ca_W]; omega)).2.2.1
        rw [hf]; exact bs_at this hpp (by omega)
      have es : fsI f (i + 1) = if f i = true then nI i else -1 := by
        show (if fsI f i = -1 then _ else _) = _
        rw [if_pos c]
      rw [if_pos c, q1, bnd2_some, f_isIn _ (by omega), bnd_some, a1, ifb]
      by_cases ct : f i = true
      · rw [if_pos ct]
        exact Rn.so ⟨by rw [es, if_pos ct], nI_add i 1, q2, e5.tr q3.fg⟩
      · rw [if_neg ct]
        exact Rn.so ⟨by rw [es, if_neg ct]; exact c, nI_add i 1, q2, e5.tr q3.fg⟩
    · rw [if_neg c]
      refine Rn.so ⟨?_, e5⟩
      have z := fsI_stay c (49 - i)
      rw [show i + (49 - i) = 49 by omega] at z
      exact z.symm
  · rintro ⟨z, y', m⟩ ⟨e1, e2, e3, e5⟩
    have e2 : y' = nI 49 := e2
    subst e2
    exact Rn.e (r := (z, m)) rfl ⟨e1, e5⟩
theorem m_reaches {n k : Nat} {sh : List Sh} {R : Rf} {μ : Mu} {x y : Int32} (hI : INV k sh R μ) (hk : k < 512) (hn : 5000 < n) : GO k sh R (fX11_reaches n x y μ) (fX12_reaches n x y) := by
  refine GO.q hI hk fun s t hT hp => ?_
  have hB := hp.2.1.1.2
  have hP := hp.2.1.2.2.1
  have e1 : fX11_reaches n x y μ = if okN x (sB s) = true then (if okN y (sP s) = true then (bnd (fX0_lookAhead n 48 μ) fun m8 => bnd (fX0_send n x 0 0 m8) fun m10 => bnd (fX0_hourHeard n y m10) fun u12 => if 48 < u12 then (some ((-1), m10)) else (some (u12, m10))) else some (-2, μ)) else some (-2, μ) := by
    unfold fX11_reaches; rw [hp.isB, bnd_some, ifb, hp.isP, bnd_some, ifb]
  have e2 : ∀ μ', RP μ' s t → fX12_reaches n x y μ' = if okN x (sB s) = true then (if okN y (sP s) = true then (bnd (fX12_keeps n (wI μ' 139 0 0)) fun m8 => bnd (fX12_calls n x 0 0 m8) fun m10 => bnd (lp n (sX12_reaches_42 n y) ((-1), 1, m10)) fun q => match q with | (u19, m20) => jX12_reaches_83 n u19 m20) else some (-2, wI μ' 139 0 0)) else some (-2, wI μ' 139 0 0) := by
    intro μ' h
    have h' := h.q (RQ.th _)
    unfold fX12_reaches; rw [h'.isB, bnd_some, ifb, h'.isP, bnd_some, ifb]
  by_cases k1 : okN x (sB s) = true
  · by_cases k2 : okN y (sP s) = true
    · obtain ⟨b, hb, rfl⟩ := okN_of k1 (by omega)
      obtain ⟨p, hpp, rfl⟩ := okN_of k2 (by omega)
      obtain ⟨m1, g1, g2, g3⟩ := c_look (n := n) (L := 48) hp (by omega) (by omega)
      obtain ⟨m2, l1, l2, l3⟩ := c_send (n := n) (b := b) (w := 0) (hp.q g3) g2 (by omega) (by omega) hb bs_no (by omega)
      have g1 : fX0_lookAhead n 48 μ = some m1 := g1
      have l1 : fX0_send n (nI b) 0 0 m1 = some m2 := l1
      have ac := c_heard (n := n) (p := p) (hp.q (g3.tr l3)) l2 (by omega) (by omega) hpp (by omega)
      have abd : hhS s no t 48 b 0 p ≤ 100000 := hf_bd (by omega)
      have simp' : ∀ i, i < 49 → tHe (caS s no t b 0 i) 0 p = decide (hhS s no t 48 b 0 p ≤ i) := fun i hi => by
        have := (sim hp.2.1 (show 48 ≤ 71 by omega) hb (x := no) (t := t) (w := 0) i (by omega)).2.2.2.2.2.2 p hpp
        rw [this, Nat.zero_add]
      obtain ⟨f, hf⟩ : ∃ f : Nat → Bool, ∀ i, f i = tHe (caS s no t b 0 i) 0 p := ⟨_, fun _ => rfl⟩
      have f0 : f 0 = false := by rw [hf]; rfl
      have val : fsI f 49 = if hhS s no t 48 b 0 p ≤ 48 then nI (hhS s no t 48 b 0 p) else -1 := by
        rw [← fsI_le (by omega) 48]
        exact fsI_congr fun i hi => by rw [hf]; exact simp' i hi
      refine ⟨fsI f 49, m2, ?_, g3.tr l3, fun μ' h _ => ?_⟩
      · rw [e1, if_pos k1, if_pos k2, g1, bnd_some, l1, bnd_some, val, ac, bnd_some]
        simp (disch := first | omega | decide) only [gd_true, bnd_some, bnd2_some, ix_n, ib_n, add_l, add_r, mul_l, mul_r, nI_add, sub_r, nI_leI, nI_ltI, nI_eq, le_l, le_r, lt_l, lt_r, eq_l, eq_r, eq_m, if_true, if_false, not_false_eq_true, not_true_eq_false]
        by_cases q : hhS s no t 48 b 0 p ≤ 48
        · rw [if_neg (show ¬ 48 < hhS s no t 48 b 0 p by omega), if_pos q]
        · rw [if_pos (show 48 < hhS s no t 48 b 0 p by omega), if_neg q]
      · have h' := h.q (RQ.th _)
        obtain ⟨m3, o1, o2, o3, o4⟩ := r_keep (n := n) h' (by omega)
        obtain ⟨m4, r1, r2, r3⟩ := r_calls (n := n) (b := b) (w := 0) (N := 0) o4.rx hb (by omega) (by omega) (by omega)
        have hh := hp.2.2.2.2.2
        have lo := r_reach (n := n) hf f0 o4 r2 r3 hpp (by omega)
        obtain ⟨⟨z, m5⟩, q1, q2, q3⟩ := lo
        have q2 : z = fsI f 49 := q2
        rw [q2] at q1
        obtain ⟨m6, z1, z2, z3⟩ := r_again (n := n) o2 o3 ((r3.tr q3).mono fun _ _ => PR_PG) (by omega)
        refine ⟨m6, ?_, (RQ.th _).tr z2⟩
        have r1 : fX12_calls n (nI b) 0 0 m3 = some m4 := r1
        rw [e2 μ' h, if_pos k1, if_pos k2, o1, bnd_some, r1, bnd_some, q1, bnd_some]
        show bnd (fX12_isAgain n m5) _ = _
        rw [z1, bnd_some]
    · exact ⟨-2, μ, by rw [e1, if_pos k1, if_neg k2], CQ.rfl' hp, fun μ' h _ => ⟨_, by rw [e2 μ' h, if_pos k1, if_neg k2], RQ.th _⟩⟩
  · exact ⟨-2, μ, by rw [e1, if_neg k1], CQ.rfl' hp, fun μ' h _ => ⟨_, by rw [e2 μ' h, if_neg k1], RQ.th _⟩⟩
