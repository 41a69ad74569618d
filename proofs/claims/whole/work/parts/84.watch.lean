/-! watch, secret -/
theorem bsp_pc {s : SD} {t : ST} {N k : Nat} : ∀ m j, bspS s t N k m = some j → pcN j = k
  | 0, j, e => by cases e
  | m + 1, j, e => by
    unfold bspS at e
    by_cases c : (decide (pcN m = k) && better s t N (bspS s t N k m) m) = true
    · rw [if_pos c] at e
      cases e
      simp only [Bool.and_eq_true, decide_eq_true_eq] at c
      exact c.1
    · rw [if_neg c] at e; exact bsp_pc m j e
theorem pc_all : ∀ B, B ≤ 6 → ∀ j, j < 64 → j < 2 ^ B → pcN j = B → j = 2 ^ B - 1 := by decide +kernel
def wkS (s : SD) (t : ST) (N k : Nat) : Nat := match bspS s t N k (2 ^ sB s) with | some j => wbS s t N j | none => 0
theorem wk_le (s : SD) (t : ST) (N k : Nat) : wkS s t N k ≤ sB s := by
  unfold wkS
  split
  · exact wb_le _ _ _ _
  · exact Nat.zero_le _
theorem cnt_all {f : Nat → Bool} : ∀ {n : Nat}, (∀ i, i < n → f i = true) → cnt f n = n
  | 0, _ => rfl
  | n + 1, h => by unfold cnt; rw [cnt_all fun i hi => h i (by omega), if_pos (h n (by omega))]
theorem wk_full {s : SD} {t : ST} {N : Nat} (hv : SV s) (hN : N ≤ 48) : wkS s t N (sB s) = sB s := by
  have hB := hv.1.2
  have hpw := pow_B hB
  obtain ⟨j, j1, j2⟩ := bsp_ex (s := s) (t := t) (N := N) (Nat.le_refl (sB s)) hB
  have e := pc_all (sB s) hB j (by omega) j2 (bsp_pc _ _ j1)
  unfold wkS
  rw [j1]
  show wbS s t N j = sB s
  refine cnt_all fun b hb => ?_
  show (!decide (cvS s t N b &&& nI j = 0)) = true
  rw [Bool.not_eq_true', decide_eq_false_iff_not]
  intro q
  have q2 := congrArg (fun v => bt v b) q
  have b1 : bt (cvS s t N b) b = true := by
    unfold cvS
    rw [bs_at (bs_bN _ (by omega)) hb (by omega)]
    have z := (sim hv (show N ≤ 71 by omega) hb (x := no) (t := t) (w := 0) N (by omega)).2.2.2.2.1 b hb
    rw [z, (ar_sup (s := s) (x := no) (t := t) (L := N) (b := b) (w := 0) hv (by omega) (by omega)).1]
    simp
  have b2 : bt (nI j) b = true := by
    rw [b_nI _ _ (by omega), e, Nat.testBit_two_pow_sub_one]; simp [hb]
  have q2 : bt (cvS s t N b &&& nI j) b = bt 0 b := q2
  rw [b_and, b1, b2, b_0] at q2
  cases q2
theorem m_watch {n k : Nat} {sh : List Sh} {R : Rf} {μ : Mu} {x : Int32} (hI : INV k sh R μ) (hk : k < 512) (hn : 5000 < n) : GO k sh R (fX11_watch n x μ) (fX12_watch n x) := by
  refine GO.q hI hk fun s t hT hp => ?_
  have hB := hp.2.1.1
  have e3 : ∀ m : Mu, fX11_within n x 0 48 m = some (if wi x 0 48 = true then 1 else 0) := fun m => w11 0 48
  unfold fX11_watch fX12_watch
  rw [e3, bnd_some, ifb]
  simp only [f_soon, bnd_some, ifb]
  by_cases k1 : wi x 0 48 = true
  · obtain ⟨N, N1, N2, rfl⟩ := wi_of k1 (by omega) (by omega)
    obtain ⟨m1, g1, g2, g3⟩ := c_reached (n := n) hp N2 hn
    have hp1 := hp.q g3
    have fB := wk_full (t := t) (N := N) hp.2.1 N2
    -- the first number of spies that do
    obtain ⟨d, d1, d2, d3, d4⟩ : ∃ d, 1 ≤ d ∧ d ≤ sB s ∧ wkS s t N d = sB s ∧ ∀ j, 1 ≤ j → j < d → ¬ wkS s t N j = sB s := by
      obtain ⟨i, i1, i2, i3⟩ := least_ex (P := fun i => 1 ≤ i ∧ wkS s t N i = sB s) (g := fun i => i) (n := sB s + 1) ⟨sB s, by omega, by omega, fB⟩
      exact ⟨i, i2.1, by omega, i2.2, fun j h1 h2 h3 => by have := i3 j (by omega) ⟨h1, h3⟩; omega⟩
    have a0 : rI m1 2 0 = nI (sB s) := hp1.1.1
    have lc : Rn (lp n (sX11_watch_20 n m1) 1) (fun r => (r = .inl (nI d) ∧ d < sB s) ∨ (r = .inr () ∧ d = sB s)) := by
      refine Rn.l1 (sB s) (by omega) (fun i q => q = nI i ∧ i ≤ d) _ (by omega) ⟨rfl, d1⟩ ?_ ?_
      · rintro i x' i1 hi ⟨e1, e2⟩
        subst e1
        obtain ⟨j, j1, j2, j3⟩ := f_best11 (n := n) (k := i) hp1 g2 i1 (by omega) (by omega)
        have w := f_watched (n := n) (m := j) hp1 g2 (by omega)
        have ewk : wkS s t N i = wbS s t N j := by unfold wkS; rw [j1]
        have wl := wb_le s t N j
        simp (disch := first | omega | decide) only [sX11_watch_20, gd_true, bnd_some, bnd2_some, ix_n, ib_n, add_l, add_r, mul_l, mul_r, nI_add, sub_r, nI_leI, nI_ltI, nI_eq, le_l, le_r, lt_l, lt_r, eq_l, eq_r, eq_m, if_true, if_false, not_false_eq_true, not_true_eq_false, a0, show ¬ sB s ≤ i by omega, j3, w]
        by_cases c : wbS s t N j = sB s
        · rw [if_pos c]
          have : d = i := by
            refine Classical.byContradiction fun hne => d4 i i1 (by omega) (by rw [ewk]; exact c)
          refine Rn.so (Or.inl ⟨by rw [this], by omega⟩)
        · rw [if_neg c]
          refine Rn.so ⟨rfl, ?_⟩
          have : d ≠ i := fun e => c (by rw [← ewk, ← e]; exact d3)
          omega
      · rintro x' ⟨e1, e2⟩
        subst e1
        refine Rn.e (r := (Sum.inr () : Int32 ⊕ Unit)) ?_ (Or.inr ⟨rfl, by omega⟩)
        show (if rI m1 2 0 ≤ nI (sB s) then some (Sum.inr (Sum.inr ())) else _) = _
        exact ite_le a0
    obtain ⟨r, q1, q2⟩ := lc
    refine ⟨nI d, m1, ?_, g3, fun μ' h _ => ?_⟩
    · rw [if_pos k1, g1, bnd_some, q1, bnd_some]
      rcases q2 with ⟨rfl, _⟩ | ⟨rfl, e⟩
      · rfl
      · show some (rI m1 2 0, m1) = _
        rw [a0, e]
    · obtain ⟨m2, l1, l2, l3⟩ := r_reached (n := n) (h.q (RQ.th _)) N2 hn
      have hr := (h.q (RQ.th _)).q l3
      have b0 : rI m2 140 1 = nI (sB s) := hr.1.2.1
      have lr : Rn (lp n (sX12_watch_22 n m2) 1) (fun r => r = nI d) := by
        have stepat : ∀ i, 1 ≤ i → i ≤ sB s → i ≤ d → Rn (sX12_watch_22 n m2 (nI i)) (OE (fun q => q = nI (i + 1) ∧ i + 1 ≤ d) (fun r => r = nI d)) := by
          intro i i1 hi e2
          obtain ⟨j, j1, j2, j3⟩ := f_best12 (n := n) (k := i) hr l2 hi (by omega)
          have w := f_seen (n := n) (m := j) hr l2 (by omega)
          have ewk : wkS s t N i = wbS s t N j := by unfold wkS; rw [j1]
          have wl := wb_le s t N j
          simp (disch := first | omega | decide) only [sX12_watch_22, gd_true, bnd_some, bnd2_some, ix_n, ib_n, add_l, add_r, mul_l, mul_r, nI_add, sub_r, nI_leI, nI_ltI, nI_eq, le_l, le_r, lt_l, lt_r, eq_l, eq_r, eq_m, if_true, if_false, not_false_eq_true, not_true_eq_false, b0, j3, w]
          by_cases c : sB s ≤ wbS s t N j
          · rw [if_pos c]
            have : d = i := by
              refine Classical.byContradiction fun hne => d4 i i1 (by omega) (by rw [ewk]; omega)
            exact Rn.so (by rw [this]; rfl)
          · rw [if_neg c]
            refine Rn.so ⟨rfl, ?_⟩
            have : d ≠ i := fun e => c (by rw [← ewk, ← e, d3]; exact Nat.le_refl _)
            omega
        refine Rn.l1 (sB s) (by omega) (fun i q => q = nI i ∧ i ≤ d) _ (by omega) ⟨rfl, d1⟩ ?_ ?_
        · rintro i x' i1 hi ⟨e1, e2⟩
          subst e1
          exact stepat i i1 (by omega) e2
        · rintro x' ⟨e1, e2⟩
          subst e1
          refine (stepat (sB s) (by omega) (Nat.le_refl _) e2).mono fun o ho => ?_
          cases o with
          | inl q => exact absurd ho.2 (by omega)
          | inr q => exact ho
      obtain ⟨r', p1, p2⟩ := lr
      refine ⟨m2, ?_, (RQ.th _).tr l3⟩
      rw [if_pos k1, l1, bnd_some, p1, bnd_some, p2]
  · exact ⟨-3, μ, by rw [if_neg k1], CQ.rfl' hp, fun μ' h _ => ⟨_, by rw [if_neg k1], RQ.th _⟩⟩
/-! SECRET -/
def evS (s : SD) (t : ST) (N w b : Nat) : Int32 := nI (bN (erS s no t b w N) (sP s))
def isF (f : Nat → Bool) (K d : Nat) : Prop := d < K ∧ f d = true ∧ ∀ i, i < d → f i = false
theorem isF_un {f : Nat → Bool} {K d d' : Nat} (h : isF f K d) (h' : isF f K d') : d = d' := by
  rcases Nat.lt_trichotomy d d' with e | e | e
  · have := h'.2.2 d e; rw [h.2.1] at this; cases this
  · exact e
  · have := h.2.2 d' e; rw [h'.2.1] at this; cases this
theorem isF_or (f : Nat → Bool) (K : Nat) : (∃ d, isF f K d) ∨ ∀ i, i < K → f i = false := by
  by_cases c : ∃ i, i < K ∧ f i = true
  · obtain ⟨i, i1, i2, i3⟩ := least_ex (P := fun i => f i = true) (g := fun i => i) c
    refine Or.inl ⟨i, i1, i2, fun j hj => ?_⟩
    cases h : f j
    · rfl
    · have := i3 j (by omega) h; omega
  · refine Or.inr fun i hi => ?_
    cases h : f i
    · rfl
    · exact absurd ⟨i, hi, h⟩ c
theorem set_ok {x : Int32} {P : Nat} (hP : P ≤ 6) : (x &&& (((shl 1 (nI P)) - 1) ^^^ (-1)) = 0) ↔ (¬ x < 0 ∧ ¬ shl 1 (nI P) ≤ x) := by
  have hm := bs_full (n := P) (by omega)
  have hpw : 2 ^ P ≤ 64 := by
    have : 2 ^ P ≤ 2 ^ 6 := Nat.pow_le_pow_right (by omega) hP
    omega
  rw [shl_B P (by omega)]
  rw [shl_B P (by omega)] at hm
  constructor
  · intro e
    have hb : bs x P (bt x) := fun i hi => by
      have q := congrArg (fun v => bt v i) e
      have q : bt (x &&& ((nI (2 ^ P) - 1) ^^^ (-1))) i = bt 0 i := q
      rw [b_and, b_xor, hm i hi, b_m1 i hi, b_0] at q
      by_cases c : i < P
      · simp [c]
      · simp [c] at q; simp [c, q]
    have e2 := bs_nI hb (by omega)
    have hl := bN_lt (bt x) P
    rw [e2]
    exact ⟨Int32.not_lt.mpr (nI_pos' (by omega)), fun q => by have := (nI_leI (by omega) (by omega)).mp q; omega⟩
  · rintro ⟨h1, h2⟩
    obtain ⟨j, hj, rfl⟩ := nI_of h1
    have hlt : j < 2 ^ P := by
      refine Nat.not_le.mp fun q => h2 ((nI_leI (by omega) hj).mpr q)
    refine b_ext fun i hi => ?_
    rw [b_and, b_xor, hm i hi, b_m1 i hi, b_0, b_nI _ _ hi]
    by_cases c : i < P
    · simp [c]
    · rw [Nat.testBit_lt_two_pow (Nat.lt_of_lt_of_le hlt (Nat.pow_le_pow_right (n := 2) (by omega) (show P ≤ i by omega)))]
      rfl
def sfB (s : SD) (t : ST) (N : Nat) (x : Int32) (w : Nat) : Nat → Bool := fun b => decide (evS s t N w b = x)
def sfW (s : SD) (t : ST) (N : Nat) (x : Int32) : Nat → Bool := fun w => anyB (sfB s t N x w) (sB s)
theorem c_sec1 {n N w : Nat} {x y z : Int32} {μ m0 : Mu} {s : SD} {t : ST} (hp : CP μ s t) (hN : N ≤ 48) (hw : w ≤ 23) (hla : LA m0 s t (23 + N)) (hcq : CQ s μ m0) (hy : y = nI N) (hn : 1000 < n) : Rn (lp n (sX11_secret_66 n x y z (nI w)) (0, m0)) (fun r => ∃ m, LA m s t (23 + N) ∧ CQ s μ m ∧ ((∃ b, isF (sfB s t N x w) (sB s) b ∧ r = .inl (nI b, m)) ∨ ((∀ b, b < sB s → sfB s t N x w b = false) ∧ r = .inr m))) := by
  have hB := hp.2.1.1.2
  have hP := hp.2.1.2.2.1
  subst hy
  refine Rn.l (sB s) (fun b q => q.1 = nI b ∧ (∀ i, i < b → sfB s t N x w i = false) ∧ LA q.2 s t (23 + N) ∧ CQ s μ q.2) _ (by omega) ⟨rfl, fun i hi => absurd hi (Nat.not_lt_zero _), hla, hcq⟩ ?_ ?_
  · rintro b ⟨v, m⟩ hb ⟨e1, e2, e3, e4⟩
    have e1 : v = nI b := e1
    subst e1
    have e2 : ∀ i, i < b → sfB s t N x w i = false := e2
    have e4 : CQ s μ m := e4
    obtain ⟨m2, r, l1, l2, l3, l4, l5⟩ := c_call (n := n) (b := b) (w := w) (N := N) (hp.q e4) e3 (by omega) (by omega) hb bs_no (by omega)
    have er : r = evS s t N w b := bs_nI l3 (by omega)
    subst er
    have a0 : rI m 2 0 = nI (sB s) := (hp.q e4).1.1
    simp (disch := first | omega | decide) only [sX11_secret_66, gd_true, bnd_some, bnd2_some, ix_n, ib_n, add_l, add_r, mul_l, mul_r, nI_add, sub_r, nI_leI, nI_ltI, nI_eq, le_l, le_r, lt_l, lt_r, eq_l, eq_r, eq_m, if_true, if_false, not_false_eq_true, not_true_eq_false, a0, show ¬ sB s ≤ b by omega, l1, l2]
    by_cases c : evS s t N w b = x
    · rw [if_pos c]
      exact Rn.so ⟨m2, l4, e4.tr l5, Or.inl ⟨b, ⟨hb, decide_eq_true c, e2⟩, rfl⟩⟩
    · rw [if_neg c]
      refine Rn.so ⟨rfl, fun i hi => ?_, l4, e4.tr l5⟩
      by_cases e : i = b
      · rw [e]; exact decide_eq_false c
      · exact e2 i (by omega)
  · rintro ⟨v, m⟩ ⟨e1, e2, e3, e4⟩
    have e1 : v = nI (sB s) := e1
    subst e1
    refine Rn.e (r := (Sum.inr m : (Int32 × Mu) ⊕ Mu)) ?_ ⟨m, e3, e4, Or.inr ⟨e2, rfl⟩⟩
    show (if rI m 2 0 ≤ nI (sB s) then some (Sum.inr (Sum.inr m)) else _) = _
    exact ite_le (hp.q e4).1.1
theorem c_sec2 {n N : Nat} {x y z : Int32} {μ m0 : Mu} {s : SD} {t : ST} (hp : CP μ s t) (hN : N ≤ 48) (hla : LA m0 s t (23 + N)) (hcq : CQ s μ m0) (hy : y = nI N) (hn : 1000 < n) : Rn (lp n (sX11_secret_56 n x y z) (0, m0)) (fun r => ∃ m, CQ s μ m ∧ ((∃ w b, isF (sfW s t N x) 24 w ∧ isF (sfB s t N x w) (sB s) b ∧ r = .inl (nI w, nI b, m)) ∨ ((∀ w, w < 24 → sfW s t N x w = false) ∧ r = .inr m))) := by
  refine Rn.l 24 (fun w q => q.1 = nI w ∧ (∀ i, i < w → sfW s t N x i = false) ∧ LA q.2 s t (23 + N) ∧ CQ s μ q.2) _ (by omega) ⟨rfl, fun i hi => absurd hi (Nat.not_lt_zero _), hla, hcq⟩ ?_ ?_
  · rintro w ⟨v, m⟩ hw ⟨e1, e2, e3, e4⟩
    have e1 : v = nI w := e1
    subst e1
    have e2 : ∀ i, i < w → sfW s t N x i = false := e2
    obtain ⟨r, r1, m', r2, r3, r4⟩ := c_sec1 (n := n) (x := x) (z := z) hp hN (show w ≤ 23 by omega) e3 e4 hy hn
    show Rn (if (23 : Int32) < nI w then _ else _) _
    rw [if_neg (fun e => by have : 23 < w := (lt_l (k := 23) (by decide) (by omega)).mp e; omega), r1, bnd_some]
    rcases r4 with ⟨b, b1, rfl⟩ | ⟨b1, rfl⟩
    · refine Rn.so ⟨m', r3, Or.inl ⟨w, b, ⟨hw, anyB_iff.mpr ⟨b, b1.1, b1.2.1⟩, e2⟩, b1, rfl⟩⟩
    · refine Rn.so ⟨nI_add w 1, fun i hi => ?_, r2, r3⟩
      by_cases e : i = w
      · rw [e]
        refine Bool.eq_false_iff.mpr fun q => ?_
        obtain ⟨b, q1, q2⟩ := anyB_iff.mp q
        rw [b1 b q1] at q2; cases q2
      · exact e2 i (by omega)
  · rintro ⟨v, m⟩ ⟨e1, e2, e3, e4⟩
    have e1 : v = nI 24 := e1
    subst e1
    exact Rn.e (r := (Sum.inr m : (Int32 × Int32 × Mu) ⊕ Mu)) rfl ⟨m, e4, Or.inr ⟨e2, rfl⟩⟩
theorem r_sec1 {n N w : Nat} {x y z : Int32} {μ m0 : Mu} {s : SD} {t : ST} (hp : RP μ s t) (hN : N ≤ 48) (hw : w ≤ 23) (hcq : RQ μ m0) (hy : y = nI N) (hn : 1000 < n) : Rn (lp n (sX12_secret_58 n x y z (nI w)) (0, m0)) (fun r => ∃ m, RQ μ m ∧ ((∃ b, isF (sfB s t N x w) (sB s) b ∧ r = .inl (nI b, m)) ∨ ((∀ b, b < sB s → sfB s t N x w b = false) ∧ r = .inr m))) := by
  have hB := hp.2.1.1.2
  have hP := hp.2.1.2.2.1
  subst hy
  refine Rn.l (sB s) (fun b q => q.1 = nI b ∧ (∀ i, i < b → sfB s t N x w i = false) ∧ RQ μ q.2) _ (by omega) ⟨rfl, fun i hi => absurd hi (Nat.not_lt_zero _), hcq⟩ ?_ ?_
  · rintro b ⟨v, m⟩ hb ⟨e1, e2, e4⟩
    have e1 : v = nI b := e1
    subst e1
    have e2 : ∀ i, i < b → sfB s t N x w i = false := e2
    have e4 : RQ μ m := e4
    obtain ⟨r, m2, l1, l3, l5⟩ := r_hearers (n := n) (b := b) (w := w) (N := N) (hp.q e4).rx hb (by omega) (by omega) hn
    have er : r = evS s t N w b := bs_nI l3 (by omega)
    subst er
    have a0 : rI m 140 1 = nI (sB s) := (hp.q e4).1.2.1
    simp (disch := first | omega | decide) only [sX12_secret_58, gd_true, bnd_some, bnd2_some, ix_n, ib_n, add_l, add_r, mul_l, mul_r, nI_add, sub_r, nI_leI, nI_ltI, nI_eq, le_l, le_r, lt_l, lt_r, eq_l, eq_r, eq_m, if_true, if_false, not_false_eq_true, not_true_eq_false, a0, show ¬ sB s ≤ b by omega, l1]
    by_cases c : evS s t N w b = x
    · rw [if_pos c]
      exact Rn.so ⟨m2, e4.tr l5, Or.inl ⟨b, ⟨hb, decide_eq_true c, e2⟩, rfl⟩⟩
    · rw [if_neg c]
      refine Rn.so ⟨rfl, fun i hi => ?_, e4.tr l5⟩
      by_cases e : i = b
      · rw [e]; exact decide_eq_false c
      · exact e2 i (by omega)
  · rintro ⟨v, m⟩ ⟨e1, e2, e4⟩
    have e1 : v = nI (sB s) := e1
    have e4 : RQ μ m := e4
    subst e1
    refine Rn.e (r := (Sum.inr m : (Int32 × Mu) ⊕ Mu)) ?_ ⟨m, e4, Or.inr ⟨e2, rfl⟩⟩
    show (if rI m 140 1 ≤ nI (sB s) then some (Sum.inr (Sum.inr m)) else _) = _
    exact ite_le (hp.q e4).1.2.1
theorem r_sec2 {n N : Nat} {x y z : Int32} {μ : Mu} {s : SD} {t : ST} (hp : RP μ s t) (hN : N ≤ 48) (hy : y = nI N) (hn : 1000 < n) : Rn (lp n (sX12_secret_48 n x y z) (0, μ)) (fun r => ∃ m, RQ μ m ∧ ((∃ w b, isF (sfW s t N x) 24 w ∧ isF (sfB s t N x w) (sB s) b ∧ r = .inl (nI w, nI b, m)) ∨ ((∀ w, w < 24 → sfW s t N x w = false) ∧ r = .inr m))) := by
  refine Rn.l 24 (fun w q => q.1 = nI w ∧ (∀ i, i < w → sfW s t N x i = false) ∧ RQ μ q.2) _ (by omega) ⟨rfl, fun i hi => absurd hi (Nat.not_lt_zero _), RQ.rfl' _⟩ ?_ ?_
  · rintro w ⟨v, m⟩ hw ⟨e1, e2, e4⟩
    have e1 : v = nI w := e1
    subst e1
    have e2 : ∀ i, i < w → sfW s t N x i = false := e2
    obtain ⟨r, r1, m', r3, r4⟩ := r_sec1 (n := n) (x := x) (z := z) hp hN (show w ≤ 23 by omega) e4 hy hn
    show Rn (if (24 : Int32) ≤ nI w then _ else _) _
    rw [if_neg (fun e => by have : 24 ≤ w := (le_l (k := 24) (by decide) (by omega)).mp e; omega), r1, bnd_some]
    rcases r4 with ⟨b, b1, rfl⟩ | ⟨b1, rfl⟩
    · refine Rn.so ⟨m', r3, Or.inl ⟨w, b, ⟨hw, anyB_iff.mpr ⟨b, b1.1, b1.2.1⟩, e2⟩, b1, rfl⟩⟩
    · refine Rn.so ⟨nI_add w 1, fun i hi => ?_, r3⟩
      by_cases e : i = w
      · rw [e]
        refine Bool.eq_false_iff.mpr fun q => ?_
        obtain ⟨b, q1, q2⟩ := anyB_iff.mp q
        rw [b1 b q1] at q2; cases q2
      · exact e2 i (by omega)
  · rintro ⟨v, m⟩ ⟨e1, e2, e4⟩
    have e1 : v = nI 24 := e1
    subst e1
    exact Rn.e (r := (Sum.inr m : (Int32 × Int32 × Mu) ⊕ Mu)) rfl ⟨m, e4, Or.inr ⟨e2, rfl⟩⟩
theorem m_secret {n k : Nat} {sh : List Sh} {R : Rf} {μ : Mu} {x y z : Int32} (hI : INV k sh R μ) (hk : k < 512) (hn : 5000 < n) : GO k sh R (fX11_secret n x y z μ) (fX12_secret n x y z) := by
  refine GO.q hI hk fun s t hT hp => ?_
  have hB := hp.2.1.1
  have hP := hp.2.1.2.2.1
  have e1 : ∀ m : Mu, fX11_within n z 0 1 m = some (if wi z 0 1 = true then 1 else 0) := fun m => w11 0 1
  have e2 : ∀ m : Mu, fX12_within n z.toInt64 0 1 m = some (if wi z 0 1 = true then 1 else 0) := fun m => w12 0 1
  have e5 : ∀ m : Mu, fX11_within n y 0 48 m = some (if wi y 0 48 = true then 1 else 0) := fun m => w11 0 48
  have so := set_ok (x := x) hP
  have a2 : rI μ 2 2 = nI (sP s) := hp.1.2.2.1
  unfold fX11_secret fX12_secret
  rw [e1, bnd_some, ifb, a2]
  by_cases k1 : wi z 0 1 = true
  · rw [if_pos k1]
    by_cases k2 : x &&& (((shl 1 (nI (sP s))) - 1) ^^^ (-1)) = 0
    · obtain ⟨s1, s2⟩ := so.mp k2
      rw [if_neg s1, if_neg s2, e5, bnd_some, ifb]
      by_cases k3 : wi y 0 48 = true
      · obtain ⟨N, N1, N2, hy⟩ := wi_of k3 (by omega) (by omega)
        rw [if_pos k3]
        obtain ⟨m1, g1, g2, g3⟩ := c_look (n := n) (L := 23 + N) hp (by omega) (by omega)
        have g1 : fX0_lookAhead n (23 + y) μ = some m1 := by rw [hy, show (23 : Int32) + nI N = nI (23 + N) from nI_add 23 N]; exact g1
        obtain ⟨r, r1, m2, r2, r3⟩ := c_sec2 (n := n) (x := x) (z := z) hp N2 g2 g3 hy (by omega)
        have ref : ∀ μ', RP μ' s t → ∀ v, (∀ r m, ((∃ w b, isF (sfW s t N x) 24 w ∧ isF (sfB s t N x w) (sB s) b ∧ r = Sum.inl (nI w, nI b, m)) ∨ ((∀ w, w < 24 → sfW s t N x w = false) ∧ r = Sum.inr m)) → (match r with | .inl (u19, u20, m21) => (if z = 0 then (some (u19, m21)) else (some (u20, m21))) | .inr m22 => (some ((-1), m22)) : Option (Int32 × Mu)) = some (v, m)) → ∃ μ2, (bnd (fX12_within n z.toInt64 0 1 (wI μ' 139 0 0)) fun u2 => if u2 = 0 then (some ((-2), wI μ' 139 0 0)) else (if (x &&& (((shl 1 (rI (wI μ' 139 0 0) 140 3)) - 1) ^^^ (-1))) = 0 then (bnd (fX12_isSoon n y (wI μ' 139 0 0)) fun u6 => if u6 = 0 then (some ((-3), wI μ' 139 0 0)) else (bnd (lp n (sX12_secret_48 n x y z) (0, wI μ' 139 0 0)) fun q => match q with | .inl (u19, u20, m21) => (if z = 0 then (some (u19, m21)) else (some (u20, m21))) | .inr m22 => (some ((-1), m22)))) else (some ((-3), wI μ' 139 0 0)))) = some (v, μ2) ∧ RQ μ' μ2 := by
          intro μ' h v hv
          have h' := h.q (RQ.th _)
          obtain ⟨r', q1, m3, q2, q3⟩ := r_sec2 (n := n) (x := x) (z := z) h' N2 hy (by omega)
          refine ⟨m3, ?_, (RQ.th _).tr q2⟩
          have a3 : rI (wI μ' 139 0 0) 140 3 = nI (sP s) := h'.1.2.2.2.1
          rw [e2, bnd_some, ifb, if_pos k1, a3, if_pos k2, f_soon, bnd_some, ifb, if_pos k3, q1, bnd_some]
          exact hv r' m3 q3
        have fin : ∀ v, (∀ r m, ((∃ w b, isF (sfW s t N x) 24 w ∧ isF (sfB s t N x w) (sB s) b ∧ r = Sum.inl (nI w, nI b, m)) ∨ ((∀ w, w < 24 → sfW s t N x w = false) ∧ r = Sum.inr m)) → (match r with | .inl (u19, u20, m21) => (if z = 0 then (some (u19, m21)) else (some (u20, m21))) | .inr m22 => (some ((-1), m22)) : Option (Int32 × Mu)) = some (v, m)) → _ := fun v hv => (⟨v, m2, by rw [g1, bnd_some, r1, bnd_some]; exact hv r m2 r3, r2, fun μ' h _ => ref μ' h v hv⟩ : ∃ r μ1, (bnd (fX0_lookAhead n (23 + y) μ) fun m10 => bnd (lp n (sX11_secret_56 n x y z) (0, m10)) fun q => match q with | .inl (u23, u24, m25) => (if z = 0 then (some (u23, m25)) else (some (u24, m25))) | .inr m26 => (some ((-1), m26))) = some (r, μ1) ∧ CQ s μ μ1 ∧ ∀ μ', RP μ' s t → (∀ a, 139 ≤ a → (∀ i, rI μ' a i = rI μ a i) ∧ ∀ i, rL μ' a i = rL μ a i) → ∃ μ2, (bnd (fX12_within n z.toInt64 0 1 (wI μ' 139 0 0)) fun u2 => if u2 = 0 then (some ((-2), wI μ' 139 0 0)) else (if (x &&& (((shl 1 (rI (wI μ' 139 0 0) 140 3)) - 1) ^^^ (-1))) = 0 then (bnd (fX12_isSoon n y (wI μ' 139 0 0)) fun u6 => if u6 = 0 then (some ((-3), wI μ' 139 0 0)) else (bnd (lp n (sX12_secret_48 n x y z) (0, wI μ' 139 0 0)) fun q => match q with | .inl (u19, u20, m21) => (if z = 0 then (some (u19, m21)) else (some (u20, m21))) | .inr m22 => (some ((-1), m22)))) else (some ((-3), wI μ' 139 0 0)))) = some (r, μ2) ∧ RQ μ' μ2)
        rcases r3 with ⟨w, b, w1, b1, -⟩ | ⟨w1, -⟩
        · refine fin (if z = 0 then nI w else nI b) fun r' m' h' => ?_
          rcases h' with ⟨w', b', w2, b2, rfl⟩ | ⟨w2, -⟩
          · have ew := isF_un w2 w1
            subst ew
            have eb := isF_un b2 b1
            subst eb
            show (if z = 0 then some (nI w', m') else some (nI b', m')) = _
            split <;> rfl
          · have := w2 w w1.1; rw [w1.2.1] at this; cases this
        · refine fin (-1) fun r' m' h' => ?_
          rcases h' with ⟨w', b', w2, b2, rfl⟩ | ⟨w2, rfl⟩
          · have := w1 w' w2.1; rw [w2.2.1] at this; cases this
          · rfl
      · refine ⟨-3, μ, by rw [if_neg k3], CQ.rfl' hp, fun μ' h _ => ⟨wI μ' 139 0 0, ?_, RQ.th _⟩⟩
        have a3 : rI (wI μ' 139 0 0) 140 3 = nI (sP s) := (h.q (RQ.th _)).1.2.2.2.1
        rw [e2, bnd_some, ifb, if_pos k1, a3, if_pos k2, f_soon, bnd_some, ifb, if_neg k3]
    · refine ⟨-3, μ, ?_, CQ.rfl' hp, fun μ' h _ => ⟨wI μ' 139 0 0, ?_, RQ.th _⟩⟩
      · by_cases c1 : x < 0
        · rw [if_pos c1]
        · rw [if_neg c1, if_pos (Classical.byContradiction fun c2 => k2 (so.mpr ⟨c1, c2⟩))]
      · have a3 : rI (wI μ' 139 0 0) 140 3 = nI (sP s) := (h.q (RQ.th _)).1.2.2.2.1
        rw [e2, bnd_some, ifb, if_pos k1, a3, if_neg k2]
  · exact ⟨-2, μ, by rw [if_neg k1], CQ.rfl' hp, fun μ' h _ => ⟨wI μ' 139 0 0, by rw [e2, bnd_some, ifb, if_neg k1], RQ.th _⟩⟩
