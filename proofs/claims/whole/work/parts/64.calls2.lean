theorem okN_ff {x : Int32} {N : Nat} (h : ¬ okN x N = true) : okN x N = false := by simpa using h
theorem m_give {n k : Nat} {sh : List Sh} {R : Rf} {μ : Mu} {x y : Int32} (hI : INV k sh R μ) (hk : k < 512) (hn : 5000 < n) : GO k sh R (fX11_give n x y μ) (fX12_give n x y) := by
  obtain ⟨s, t, m, h, hV, hC, hR, hT, hA, hG⟩ := hI
  have hb := hV.2.2.1
  have hcp := INV.cp hk hV hC
  have hS := hV.1.2.2.2.1
  have hP := hV.1.2.2.1
  have hW := hV.2.1.2.1
  unfold GO fX11_give fX12_give
  simp only [hcp.isS, bnd_some, ifb]
  by_cases c1 : okN x (sS s) = true
  · by_cases c2 : okN y (sP s) = true
    · obtain ⟨j, hj, rfl⟩ := okN_of c1 (by omega)
      obtain ⟨p, hp, rfl⟩ := okN_of c2 (by omega)
      have e1 : (100 : Int32) + nI j * 100 + nI p = nI (100 + j * 100 + p) := by rw [mul_r, add_l, nI_add]
      have hw : whyV s t (nI (100 + j * 100 + p)).toInt64 = 0 := by
        rw [whyV_j (by omega)]
        unfold whyN
        rw [if_neg (by omega), if_pos (by omega), show (100 + j * 100 + p - 100) / 100 = j by omega, show (100 + j * 100 + p) % 100 = p by omega, if_pos hj, if_pos hp]
      have hd : doV s t (nI (100 + j * 100 + p)).toInt64 = giveS t j p := by
        rw [doV_j (by omega)]
        unfold doN
        rw [if_neg (by omega), if_pos (by omega), show (100 + j * 100 + p - 100) / 100 = j by omega, show (100 + j * 100 + p) % 100 = p by omega]
      have hTV : TV s (giveS t j p) ∧ tH (giveS t j p) ≤ tH t + 1 := by
        have z := TV_do hV.1 hV.2.1 hw
        rw [hd] at z; exact z
      obtain ⟨m1, d1, d2, d3⟩ := f_deed (n := n) (x := nI (100 + j * 100 + p)) hC hV.1 hV.2.1 (by omega) (by omega)
      rw [if_pos hw, hd] at d2
      have hR1 := (hR.fr hV d3 PCo).th
      have hrp := INV.rp hk hV hR1
      obtain ⟨m3, k1, k2, k3⟩ := f_keeps (n := n) (wI m1 139 0 0) (by omega)
      have hR3 := hR1.keep k3
      have e6e : e6 p = nI p := by unfold e6; rw [if_neg (by omega)]
      have z := RT_give (k := j) (p := p) hR3.2.1 hV.1 hW (by omega)
      rw [e6e] at z
      obtain ⟨m5, l1, l2, l3, l4⟩ := r_notes (n := n) hR1 hV k2 k3 z hTV.1 (PT_w _ (by omega) (by omega)) (by omega)
      refine ⟨e6 (tHo t j), m1, m5, ?_, ?_, INV.step hT hA hG d2 d3 l2 ((PQ.th _).tr l4) (VI_push hV hTV.1 (by have := hTV.2; omega) (by omega))⟩
      · have a1 : rI μ 35 j = e6 (tHo t j) := hC.2.2.1.2.2.2.2.1 j hj
        rw [if_pos c1, hcp.isP, bnd_some, ifb, if_pos c2, ib_n (by omega) (by omega), gd_true, e1, d1, bnd2_some, ix_n (by omega), a1]
      · rw [hrp.isS, bnd_some, ifb, if_pos c1, hrp.isP, bnd_some, ifb, if_pos c2, k1, bnd_some]
        simp (disch := first | omega | decide) only [gd_true, bnd_some, bnd2_some, ix_n, ib_n, add_l, add_r, mul_l, mul_r, nI_add, sub_r, nI_leI, nI_ltI, nI_eq, le_l, le_r, lt_l, lt_r, eq_l, eq_r, eq_m, if_true, if_false, not_false_eq_true, not_true_eq_false, l1]
        rw [l3 (4 + j) (by omega)]
        have : rI (wI m1 139 0 0) 140 (64 + (4 + j)) = e6 (tHo t j) := hR1.2.1.2.2.2.2.1 j hj
        rw [this]
    · have hrp := INV.rp hk hV hR.th
      refine ⟨-11, μ, wI μ 139 0 0, ?_, ?_, INV.same hV hR hT hA hG hC (Fr.rfl' _ _)⟩
      · rw [if_pos c1, hcp.isP, bnd_some, ifb, if_neg c2]
      · rw [hrp.isS, bnd_some, ifb, if_pos c1, hrp.isP, bnd_some, ifb, if_neg c2]
  · have hrp := INV.rp hk hV hR.th
    refine ⟨-11, μ, wI μ 139 0 0, ?_, ?_, INV.same hV hR hT hA hG hC (Fr.rfl' _ _)⟩
    · rw [if_neg c1]
    · rw [hrp.isS, bnd_some, ifb, if_neg c1]
theorem m_lay {n k : Nat} {sh : List Sh} {R : Rf} {μ : Mu} {x : Int32} (hI : INV k sh R μ) (hk : k < 512) (hn : 5000 < n) : GO k sh R (fX11_lay n x μ) (fX12_lay n x) := by
  obtain ⟨s, t, m, h, hV, hC, hR, hT, hA, hG⟩ := hI
  have hb := hV.2.2.1
  have hcp := INV.cp hk hV hC
  have hS := hV.1.2.2.2.1
  have hP := hV.1.2.2.1
  have hW := hV.2.1.2.1
  unfold GO fX11_lay fX12_lay jX11_lay_21
  simp only [hcp.isS, bnd_some, ifb]
  by_cases c1 : okN x (sS s) = true
  · obtain ⟨j, hj, rfl⟩ := okN_of c1 (by omega)
    have hh : tHo t j ≤ 6 := by rcases hV.2.1.2.2.1 _ hj with h | h <;> omega
    obtain ⟨m1, d1, d2, d3⟩ := f_deed (n := n) (x := nI (1000 + j)) hC hV.1 hV.2.1 (by omega) (by omega)
    have hR1 := (hR.fr hV d3 PCo).th
    have w1 := f_whyLay (n := n) (j := j) hR1.1 hV.1 hR1.2.1 hV.2.1 (by omega)
    have hw : whyV s t (nI (1000 + j)).toInt64 = if tHo t j = 6 then 2 else 0 := by
      rw [whyV_j (by omega)]
      unfold whyN
      rw [if_neg (by omega), if_neg (by omega), if_neg (by omega), if_pos (by omega), show 1000 + j - 1000 = j by omega, if_pos hj]
    rw [if_pos hj] at w1
    have a1 : rI μ 35 j = e6 (tHo t j) := hC.2.2.1.2.2.2.2.1 j hj
    rw [if_pos c1]
    simp (disch := first | omega | decide) only [gd_true, bnd_some, bnd2_some, ix_n, ib_n, add_l, add_r, mul_l, mul_r, nI_add, sub_r, nI_leI, nI_ltI, nI_eq, le_l, le_r, lt_l, lt_r, eq_l, eq_r, eq_m, if_true, if_false, not_false_eq_true, not_true_eq_false, if_pos c1]
    rw [d1, bnd2_some, hw]
    rw [hw] at d2
    by_cases c2 : tHo t j = 6
    · rw [if_pos c2] at d2 ⊢
      rw [if_neg (by decide)] at d2
      refine ⟨-12, m1, wI m1 139 0 0, by rw [if_neg (by decide)]; rfl, by rw [w1, bnd_some, if_pos c2, if_neg (by decide)]; rfl, INV.same hV hR hT hA hG d2 d3⟩
    · rw [if_neg c2] at d2 ⊢ hw
      rw [if_pos rfl] at d2
      have hd : doV s t (nI (1000 + j)).toInt64 = giveS t j 6 := by
        rw [doV_j (by omega)]
        unfold doN
        rw [if_neg (by omega), if_neg (by omega), if_pos (by omega), show 1000 + j - 1000 = j by omega]
      rw [hd] at d2
      have hTV : TV s (giveS t j 6) ∧ tH (giveS t j 6) ≤ tH t + 1 := by
        have z := TV_do hV.1 hV.2.1 hw
        rw [hd] at z; exact z
      obtain ⟨m3, k1, k2, k3⟩ := f_keeps (n := n) (wI m1 139 0 0) (by omega)
      have hR3 := hR1.keep k3
      have z : RT (wI m3 140 (68 + j) (-1)) s (giveS t j 6) := RT_give (k := j) (p := 6) hR3.2.1 hV.1 hW (by omega)
      obtain ⟨m5, l1, l2, l3, l4⟩ := r_notes (n := n) hR1 hV k2 k3 z hTV.1 (PT_w _ (by omega) (by omega)) (by omega)
      refine ⟨e6 (tHo t j), m1, m5, ?_, ?_, INV.step hT hA hG d2 d3 l2 ((PQ.th _).tr l4) (VI_push hV hTV.1 (by have := hTV.2; omega) (by omega))⟩
      · rw [if_pos (by decide), a1]
      · rw [w1, bnd_some, if_neg c2, if_pos (by decide), k1, bnd_some]
        simp (disch := first | omega | decide) only [gd_true, bnd_some, bnd2_some, ix_n, ib_n, add_l, add_r, mul_l, mul_r, nI_add, sub_r, nI_leI, nI_ltI, nI_eq, le_l, le_r, lt_l, lt_r, eq_l, eq_r, eq_m, if_true, if_false, not_false_eq_true, not_true_eq_false, l1]
        rw [l3 (4 + j) (by omega)]
        have : rI (wI m1 139 0 0) 140 (64 + (4 + j)) = e6 (tHo t j) := hR1.2.1.2.2.2.2.1 j hj
        rw [this]
  · obtain ⟨m1, d1, d2, d3⟩ := f_deed (n := n) (x := 900) hC hV.1 hV.2.1 (by omega) (by omega)
    have hw : whyV s t ((900 : Int32).toInt64) = 1 := by
      have z := whyV_j (s := s) (t := t) (j := 900) (by omega)
      have z : whyV s t ((900 : Int32).toInt64) = whyN s t 900 := z
      rw [z]; rfl
    rw [hw] at d1 d2
    rw [if_neg (by decide)] at d2
    have hR1 := (hR.fr hV d3 PCo).th
    have hrp := INV.rp hk hV hR1
    rw [if_neg c1, if_neg c1, d1, bnd2_some]
    refine ⟨-11, m1, wI m1 139 0 0, by rw [if_neg (by decide)]; rfl, ?_, INV.same hV hR hT hA hG d2 d3⟩
    unfold fX12_whyLay
    rw [hrp.isS, bnd_some, ifb, if_neg c1, bnd_some, if_neg (by decide)]
    rfl
theorem m_gale {n k : Nat} {sh : List Sh} {R : Rf} {μ : Mu} {x : Int32} (hI : INV k sh R μ) (hk : k < 512) (hn : 5000 < n) : GO k sh R (fX11_gale n x μ) (fX12_gale n x) := by
  obtain ⟨s, t, m, h, hV, hC, hR, hT, hA, hG⟩ := hI
  have hb := hV.2.2.1
  have hW := hV.2.1.2.1
  unfold GO fX11_gale fX12_gale
  have e1 : ∀ m : Mu, fX11_within n x 0 99 m = some (if wi x 0 99 = true then 1 else 0) := fun m => w11 0 99
  have e2 : ∀ m : Mu, fX12_within n x.toInt64 0 99 m = some (if wi x 0 99 = true then 1 else 0) := fun m => w12 0 99
  simp only [e1, e2, bnd_some, ifb]
  by_cases c : wi x 0 99 = true
  · obtain ⟨j, h1, h2, rfl⟩ := wi_of c (by omega) (by omega)
    have e3 : (2000 : Int32) + nI j = nI (2000 + j) := nI_add 2000 j
    have hw : whyV s t (nI (2000 + j)).toInt64 = 0 := by
      rw [whyV_j (by omega)]
      unfold whyN
      rw [if_neg (by omega), if_neg (by omega), if_neg (by omega), if_neg (by omega), if_neg (by omega)]
    have hd : doV s t (nI (2000 + j)).toInt64 = galeS t j := by
      rw [doV_j (by omega)]
      unfold doN
      rw [if_neg (by omega), if_neg (by omega), if_neg (by omega), show 2000 + j - 2000 = j by omega]
    have hTV : TV s (galeS t j) ∧ tH (galeS t j) ≤ tH t + 1 := by
      have z := TV_do hV.1 hV.2.1 hw
      rw [hd] at z; exact z
    obtain ⟨m1, d1, d2, d3⟩ := f_deed (n := n) (x := nI (2000 + j)) hC hV.1 hV.2.1 (by omega) (by omega)
    rw [if_pos hw, hd] at d2
    have hR1 := (hR.fr hV d3 PCo).th
    obtain ⟨m3, k1, k2, k3⟩ := f_keeps (n := n) (wI m1 139 0 0) (by omega)
    have hR3 := hR1.keep k3
    have z : RT (wI m3 140 65 (nI j)) s (galeS t j) := RT_gale hR3.2.1 hV.1 hV.2.1 j
    obtain ⟨m5, l1, l2, l3, l4⟩ := r_notes (n := n) hR1 hV k2 k3 z hTV.1 (PT_w _ (by omega) (by omega)) (by omega)
    refine ⟨nI (tG t), m1, m5, ?_, ?_, INV.step hT hA hG d2 d3 l2 ((PQ.th _).tr l4) (VI_push hV hTV.1 (by have := hTV.2; omega) (by omega))⟩
    · rw [if_pos c, e3, d1, bnd2_some, hC.2.2.1.2.1]
    · rw [if_pos c, k1, bnd_some, l1, bnd_some, l3 1 (by omega)]
      have : rI (wI m1 139 0 0) 140 (64 + 1) = nI (tG t) := hR1.2.1.2.1
      rw [this]
  · exact ⟨-3, μ, wI μ 139 0 0, by rw [if_neg c], by rw [if_neg c], INV.same hV hR hT hA hG hC (Fr.rfl' _ _)⟩
/-! hours -/
theorem TV_hours {s : SD} {x : Nat → Bool} {t : ST} (hv : SV s) (h : TV s t) : ∀ k, TV s (hoursS s x k t) ∧ tH (hoursS s x k t) = tH t + k
  | 0 => ⟨h, rfl⟩
  | k + 1 => by
    obtain ⟨a, b⟩ := TV_hours hv h k
    exact ⟨TV_hour hv a, by show tH (hoursS s x k t) + 1 = _; omega⟩
def sumH (s : SD) (t : ST) : Nat → Nat := sumN (fun i => newN s no (hoursS s no i t) (sP s))
theorem f_hours11 {n a N : Nat} {μ : Mu} {s : SD} {t : ST} (ha : 34 ≤ a) (ha2 : a ≤ 41) (hs : CS μ 2 s) (hv : SV s) (hr : RU μ s) (hV : TV s t) (hh : tH t ≤ 50000) (hN : N ≤ 200) (hn : 1000 < n) (ht : CB μ a s t) (step : Int32 × Int32 × Mu → Option ((Int32 × Int32 × Mu) ⊕ (Int32 × Mu))) (hstep : ∀ x y m, step (x, y, m) = if nI N ≤ y then some (.inr (x, m)) else bnd2 (fX8_passHour n a 2 m) fun u8 m9 => some (.inl (x + u8, y + 1, m9))) : ∃ μ', lp n step (0, 0, μ) = some (nI (sumH s t N), μ') ∧ CB μ' a s (hoursS s no N t) ∧ RU μ' s ∧ Fr (PH a) μ μ' := by
  have outs : ∀ k, k ≤ 10 → ¬ PH a (2 + k) := fun k hk q => by unfold PH at q; omega
  have key : Rn (lp n step (0, 0, μ)) (fun r => r.1 = nI (sumH s t N) ∧ CB r.2 a s (hoursS s no N t) ∧ RU r.2 s ∧ Fr (PH a) μ r.2) := by
    refine Rn.l N (fun i q => q.1 = nI (sumH s t i) ∧ q.2.1 = nI i ∧ CB q.2.2 a s (hoursS s no i t) ∧ RU q.2.2 s ∧ Fr (PH a) μ q.2.2) _ (by omega) ⟨rfl, rfl, ht, hr, Fr.rfl' _ _⟩ ?_ ?_
    · rintro i ⟨x, y, m⟩ hi ⟨e1, e2, e3, e4, e5⟩
      have e1 : x = nI (sumH s t i) := e1
      have e2 : y = nI i := e2
      subst e1; subst e2
      have e5 : Fr (PH a) μ m := e5
      obtain ⟨v1, v2⟩ := TV_hours (x := no) hv hV i
      obtain ⟨m', g1, g2, g3, g4⟩ := f_passHour (n := n) ha (hs.fr e5 outs) hv e4 v1 (by omega) hn e3
      rw [hstep, if_neg (fun e => by have := (nI_leI (by omega) (by omega)).mp e; omega), g1, bnd2_some]
      exact Rn.so ⟨nI_add _ _, nI_add i 1, g2, g3, e5.tr g4⟩
    · rintro ⟨x, y, m⟩ ⟨e1, e2, e3, e4, e5⟩
      have e2 : y = nI N := e2
      subst e2
      refine Rn.e (r := (x, m)) ?_ ⟨e1, e3, e4, e5⟩
      rw [hstep]; exact ite_le rfl
  obtain ⟨⟨x, m⟩, h1, h2, h3, h4, h5⟩ := key
  have h2 : x = nI (sumH s t N) := h2
  subst h2
  exact ⟨m, h1, h3, h4, h5⟩
theorem f_hours12 {n N : Nat} {μ : Mu} {s : SD} {t : ST} {x : Nat → Bool} (hs : RS μ s) (hv : SV s) (ht : RT μ s t) (hV : TV s t) (hx : bs (rI μ 139 19) 10 x) (hh : tH t ≤ 50000) (hN : N ≤ 200) (hn : 1000 < n) : Rn (lp n (sX12_hours_28 n (nI N)) (0, 0, μ)) (fun r => r.1 = nI (sumN (fun i => newN s x (hoursS s x i t) (sP s)) N) ∧ RT r.2 s (hoursS s x N t) ∧ Fg PR μ r.2) := by
  refine Rn.l N (fun i q => q.1 = nI (sumN (fun i => newN s x (hoursS s x i t) (sP s)) i) ∧ q.2.1 = nI i ∧ RT q.2.2 s (hoursS s x i t) ∧ Fg PR μ q.2.2) _ (by omega) ⟨rfl, rfl, ht, Fg.rfl' _ _⟩ ?_ ?_
  · rintro i ⟨z, y, m⟩ hi ⟨e1, e2, e3, e5⟩
    have e1 : z = nI (sumN (fun i => newN s x (hoursS s x i t) (sP s)) i) := e1
    have e2 : y = nI i := e2
    subst e1; subst e2
    have e5 : Fg PR μ m := e5
    obtain ⟨v1, v2⟩ := TV_hours (x := x) hv hV i
    obtain ⟨m', g1, g2, g3⟩ := f_goesHour (n := n) (x := x) (hs.fg hv e5 (fun i hi q => by unfold PR at q; omega)) hv v1 (by rw [e5.i (fun q => by unfold PR at q; omega)]; exact hx) (by omega) hn e3
    show Rn (if nI N ≤ nI i then _ else _) _
    rw [if_neg (fun e => by have := (nI_leI (by omega) (by omega)).mp e; omega), g1, bnd2_some]
    exact Rn.so ⟨nI_add _ _, nI_add i 1, g2, e5.tr g3.fg⟩
  · rintro ⟨z, y, m⟩ ⟨e1, e2, e3, e5⟩
    have e2 : y = nI N := e2
    subst e2
    exact Rn.e (r := (z, m)) (ite_le rfl) ⟨e1, e3, e5⟩
theorem m_hours {n k : Nat} {sh : List Sh} {R : Rf} {μ : Mu} {x : Int32} (hI : INV k sh R μ) (hk : k < 512) (hn : 5000 < n) : GO k sh R (fX11_hours n x μ) (fX12_hours n x) := by
  obtain ⟨s, t, m, h, hV, hC, hR, hT, hA, hG⟩ := hI
  have hb := hV.2.2.1
  unfold GO fX11_hours fX12_hours
  have e1 : ∀ m : Mu, fX11_within n x 1 48 m = some (if wi x 1 48 = true then 1 else 0) := fun m => w11 1 48
  have e2 : ∀ m : Mu, fX12_within n x.toInt64 1 48 m = some (if wi x 1 48 = true then 1 else 0) := fun m => w12 1 48
  simp only [e1, e2, bnd_some, ifb]
  by_cases c : wi x 1 48 = true
  · obtain ⟨j, h1, h2, rfl⟩ := wi_of c (by omega) (by omega)
    obtain ⟨m1, g1, g2, g3⟩ := c_keep (n := n) (a := 34) (Or.inl rfl) hV.1 hV.2.1.2.1 hC.1 hC.2.1 hC.2.2.1 hC.2.2.1 hC.2.2.2
    obtain ⟨m2, p1, p2, p3, p4⟩ := f_hours11 (n := n) (a := 34) (N := j) (by omega) (by omega) g2.1 hV.1 g2.2.1 hV.2.1 (by omega) (by omega) (by omega) g2.2.2.1 (sX11_hours_28 n (nI j)) (fun _ _ _ => rfl)
    have f2 : Fr PC μ m2 := (g3.mono fun x q => by unfold PC; omega).tr (p4.mono fun x => PH_PC (Or.inl rfl))
    have hR1 := (hR.fr hV f2 PCo).th
    obtain ⟨m3, k1, k2, k3⟩ := f_keeps (n := n) (wI m2 139 0 0) (by omega)
    have hR3 := hR1.keep k3
    obtain ⟨⟨z, m4⟩, q1, q2, q3, q4⟩ := f_hours12 (n := n) (N := j) (x := no) hR3.1 hV.1 hR3.2.1 hV.2.1 (by rw [hR3.2.2.2]; exact bs_0 10) (by omega) (by omega) (by omega)
    have q2 : z = nI (sumH s t j) := q2
    subst q2
    obtain ⟨v1, v2⟩ := TV_hours (x := no) hV.1 hV.2.1 j
    obtain ⟨m5, l1, l2, l3, l4⟩ := r_notes (n := n) hR1 hV k2 k3 q3 v1 (q4.mono fun _ _ q => Or.inl q) (by omega)
    refine ⟨nI (sumH s t j), m2, m5, ?_, ?_, INV.step hT hA hG ⟨g2.1.fr p4 (fun k hk q => by unfold PH at q; omega), p3, p2, g2.2.2.2.fr p4 (fun x h1 h2 q => by unfold PH at q; omega)⟩ f2 l2 ((PQ.th _).tr l4) (VI_push hV v1 (by omega) (by omega))⟩
    · rw [if_pos c, g1, bnd_some, p1, bnd_some]
    · rw [if_pos c, k1, bnd_some, q1, bnd_some]
      show bnd (fX12_notes n m4) _ = _
      rw [l1, bnd_some]
  · exact ⟨-3, μ, wI μ 139 0 0, by rw [if_neg c], by rw [if_neg c], INV.same hV hR hT hA hG hC (Fr.rfl' _ _)⟩
