/-! SPIES -/
theorem bs_nat {m : Nat} (h : m < 1024) : bs (nI m) 10 (fun i => m.testBit i) := fun i hi => by
  rw [b_nI _ _ hi]
  by_cases c : i < 10
  · simp [c]
  · rw [decide_eq_false c, Bool.false_and]
    exact Nat.testBit_lt_two_pow (Nat.lt_of_lt_of_le h (Nat.pow_le_pow_right (n := 2) (by omega) (show 10 ≤ i by omega)))
def pcN (m : Nat) : Nat := cnt (fun i => m.testBit i) 10
def cvS (s : SD) (t : ST) (N b : Nat) : Int32 := nI (bN (tAt (caS s no t b 0 N) 0) (sB s))
def wbS (s : SD) (t : ST) (N m : Nat) : Nat := cnt (fun b => !decide (cvS s t N b &&& nI m = 0)) (sB s)
def better (s : SD) (t : ST) (N : Nat) (o : Option Nat) (m : Nat) : Bool := match o with | none => true | some j => decide (wbS s t N j < wbS s t N m)
def bspS (s : SD) (t : ST) (N k : Nat) : Nat → Option Nat
  | 0 => none
  | m + 1 => if (decide (pcN m = k) && better s t N (bspS s t N k m) m) = true then some m else bspS s t N k m
theorem bsp_some {s : SD} {t : ST} {N k m' : Nat} (h : pcN m' = k) : ∀ m, m' < m → ∃ j, bspS s t N k m = some j ∧ j < m
  | m + 1, hm => by
    have hj : ∀ q j, bspS s t N k q = some j → j < q := by
      intro q
      induction q with
      | zero => intro j e; cases e
      | succ q ih =>
        intro j e
        unfold bspS at e
        split at e
        · cases e; omega
        · have := ih j e; omega
    by_cases e : m' = m
    · subst e
      unfold bspS
      by_cases c : (decide (pcN m' = k) && better s t N (bspS s t N k m') m') = true
      · rw [if_pos c]; exact ⟨m', rfl, by omega⟩
      · rw [if_neg c]
        rw [decide_eq_true h, Bool.true_and] at c
        cases ho : bspS s t N k m' with
        | none => rw [ho] at c; exact absurd rfl c
        | some j => exact ⟨j, rfl, by have := hj _ _ ho; omega⟩
    · obtain ⟨j, h1, h2⟩ := bsp_some (s := s) (t := t) (N := N) h m (by omega)
      unfold bspS
      split
      · exact ⟨m, rfl, by omega⟩
      · exact ⟨j, h1, by omega⟩
theorem pc_full : ∀ k, k ≤ 6 → pcN (2 ^ k - 1) = k := by decide +kernel
theorem bsp_ex {s : SD} {t : ST} {N k : Nat} (hk : k ≤ sB s) (hB : sB s ≤ 6) : ∃ j, bspS s t N k (2 ^ sB s) = some j ∧ j < 2 ^ sB s := by
  refine bsp_some (m' := 2 ^ k - 1) (pc_full k (by omega)) _ ?_
  have h1 : 2 ^ k ≤ 2 ^ sB s := Nat.pow_le_pow_right (by omega) hk
  have h2 : 0 < 2 ^ k := Nat.pow_pos (by omega)
  omega
theorem pow_B {B : Nat} (h : B ≤ 6) : 2 ^ B ≤ 64 := by
  have : 2 ^ B ≤ 2 ^ 6 := Nat.pow_le_pow_right (by omega) h
  omega
theorem shl_B : ∀ B, B ≤ 10 → shl 1 (nI B) = nI (2 ^ B) := by decide +kernel
def bsI (o : Option Nat) : Int32 := match o with | none => -1 | some j => nI j
/-- what the class and the reference hold of where words come -/
def CO (μ : Mu) (a : Nat) (s : SD) (t : ST) (N : Nat) : Prop := ∀ b, b < sB s → rI μ a b = cvS s t N b
theorem f_watched {n N m : Nat} {μ : Mu} {s : SD} {t : ST} (hp : CP μ s t) (hc : CO μ 138 s t N) (hn : 1000 < n) : fX11_watchedBy n (nI m) μ = some (nI (wbS s t N m)) := by
  have hB := hp.2.1.1.2
  have a0 : rI μ 2 0 = nI (sB s) := hp.1.1
  have key : lp n (sX11_watchedBy_4 n (nI m) μ) (0, 0) = some (nI (wbS s t N m)) := by
    refine lp_up (step := sX11_watchedBy_4 n (nI m) μ) (sB s) (fun i => (nI (cnt (fun b => !decide (cvS s t N b &&& nI m = 0)) i), nI i)) _ (fun i hi => ?_) (ite_le a0) (n := n) (by omega)
    simp (disch := first | omega | decide) only [sX11_watchedBy_4, gd_true, bnd_some, bnd2_some, ix_n, ib_n, add_l, add_r, mul_l, mul_r, nI_add, sub_r, nI_leI, nI_ltI, nI_eq, le_l, le_r, lt_l, lt_r, eq_l, eq_r, eq_m, if_true, if_false, not_false_eq_true, not_true_eq_false, a0, show ¬ sB s ≤ i by omega, hc i hi, cnt]
    by_cases c : cvS s t N i &&& nI m = 0
    · simp [c]
    · simp [c]
  unfold fX11_watchedBy
  rw [key, bnd_some]
theorem f_seen {n N m : Nat} {μ : Mu} {s : SD} {t : ST} (hp : RP μ s t) (hc : CO μ 148 s t N) (hn : 1000 < n) : fX12_seenBy n (nI m) μ = some (nI (wbS s t N m)) := by
  have hB := hp.2.1.1.2
  have a0 : rI μ 140 1 = nI (sB s) := hp.1.2.1
  have key : lp n (sX12_seenBy_4 n (nI m) μ) (0, 0) = some (nI (wbS s t N m)) := by
    refine lp_up (step := sX12_seenBy_4 n (nI m) μ) (sB s) (fun i => (nI (cnt (fun b => !decide (cvS s t N b &&& nI m = 0)) i), nI i)) _ (fun i hi => ?_) (ite_le a0) (n := n) (by omega)
    simp (disch := first | omega | decide) only [sX12_seenBy_4, gd_true, bnd_some, bnd2_some, ix_n, ib_n, add_l, add_r, mul_l, mul_r, nI_add, sub_r, nI_leI, nI_ltI, nI_eq, le_l, le_r, lt_l, lt_r, eq_l, eq_r, eq_m, if_true, if_false, not_false_eq_true, not_true_eq_false, a0, show ¬ sB s ≤ i by omega, hc i hi, cnt]
    by_cases c : cvS s t N i &&& nI m = 0
    · simp [c, nI_s0]
    · simp [c, nI_s1]
  unfold fX12_seenBy
  rw [key, bnd_some]
theorem wb_le (s : SD) (t : ST) (N m : Nat) : wbS s t N m ≤ sB s := cnt_le _ _
theorem f_best11 {n N k : Nat} {μ : Mu} {s : SD} {t : ST} (hp : CP μ s t) (hc : CO μ 138 s t N) (h1 : 1 ≤ k) (hk : k ≤ sB s) (hn : 1000 < n) : ∃ j, bspS s t N k (2 ^ sB s) = some j ∧ j < 64 ∧ fX11_bestSpies n (nI k) μ = some (nI j) := by
  have hB := hp.2.1.1.2
  have hpw := pow_B hB
  obtain ⟨j, j1, j2⟩ := bsp_ex (s := s) (t := t) (N := N) hk hB
  refine ⟨j, j1, by omega, ?_⟩
  have a0 : rI μ 2 0 = nI (sB s) := hp.1.1
  have h0 : 0 < 2 ^ sB s := Nat.pow_pos (by omega)
  have key : Rn (lp n (sX11_bestSpies_7 n (nI k) μ) (0, -1, 1)) (fun r => r = nI j) := by
    refine Rn.l1 (2 ^ sB s) (by omega) (fun m q => q.2.2 = nI m ∧ ((bspS s t N k m = none ∧ q.1 = 0 ∧ q.2.1 = -1) ∨ ∃ i, bspS s t N k m = some i ∧ q.1 = nI i ∧ q.2.1 = nI (wbS s t N i))) _ (by omega) ⟨rfl, Or.inl ⟨?_, rfl, rfl⟩⟩ ?_ ?_
    · show (if (decide (pcN 0 = k) && better s t N none 0) = true then some 0 else none) = none
      rw [show pcN 0 = 0 by decide, decide_eq_false (by omega)]; rfl
    · rintro m ⟨a, v, y⟩ m1 hm ⟨e1, e2⟩
      have e1 : y = nI m := e1
      subst e1
      have bc : bitc (nI m) = nI (pcN m) := bitc_all m (by omega)
      have pl : pcN m ≤ 10 := cnt_le _ _
      have w := f_watched (n := n) (m := m) hp hc hn
      have wl := wb_le s t N m
      have es : bspS s t N k (m + 1) = if (decide (pcN m = k) && better s t N (bspS s t N k m) m) = true then some m else bspS s t N k m := rfl
      have sk : rI μ 2 0 = nI (sB s) := a0
      simp (disch := first | omega | decide) only [sX11_bestSpies_7, gd_true, bnd_some, bnd2_some, ix_n, ib_n, add_l, add_r, mul_l, mul_r, nI_add, sub_r, nI_leI, nI_ltI, nI_eq, le_l, le_r, lt_l, lt_r, eq_l, eq_r, eq_m, if_true, if_false, not_false_eq_true, not_true_eq_false, a0, shl_B (sB s) (by omega), show ¬ 2 ^ sB s ≤ m by omega, bc, w]
      by_cases c : pcN m = k
      · rw [if_pos c]
        have dt : decide (pcN m = k) = true := decide_eq_true c
        rcases e2 with ⟨q1, q2, q3⟩ | ⟨i, q1, q2, q3⟩
        · have q3 : v = -1 := q3
          rw [q3, if_neg (fun e => by
            have e2 : (-1 : Int32).toInt = -1 := by decide
            rw [Int32.le_iff_toInt_le, nI_toInt (by omega), e2] at e; omega)]
          refine Rn.so ⟨rfl, Or.inr ⟨m, ?_, rfl, rfl⟩⟩
          rw [es, dt, q1]; rfl
        · have q3 : v = nI (wbS s t N i) := q3
          have wi := wb_le s t N i
          rw [q3]
          by_cases c2 : wbS s t N m ≤ wbS s t N i
          · rw [if_pos ((nI_leI (by omega) (by omega)).mpr c2)]
            refine Rn.so ⟨rfl, Or.inr ⟨i, ?_, q2, rfl⟩⟩
            rw [es, dt, q1]
            show (if (true && decide (wbS s t N i < wbS s t N m)) = true then some m else some i) = some i
            rw [decide_eq_false (by omega)]; rfl
          · rw [if_neg (fun e => c2 ((nI_leI (by omega) (by omega)).mp e))]
            refine Rn.so ⟨rfl, Or.inr ⟨m, ?_, rfl, rfl⟩⟩
            rw [es, dt, q1]
            show (if (true && decide (wbS s t N i < wbS s t N m)) = true then some m else some i) = some m
            rw [decide_eq_true (by omega)]; rfl
      · rw [if_neg c]
        refine Rn.so ⟨rfl, ?_⟩
        show (bspS s t N k (m + 1) = none ∧ _) ∨ _
        rw [es, decide_eq_false c]
        exact e2
    · rintro ⟨a, v, y⟩ ⟨e1, e2⟩
      have e1 : y = nI (2 ^ sB s) := e1
      subst e1
      rcases e2 with ⟨q1, q2, q3⟩ | ⟨i, q1, q2, q3⟩
      · rw [j1] at q1; cases q1
      · rw [j1] at q1
        cases q1
        have q2 : a = nI j := q2
        refine Rn.e (r := a) ?_ q2
        show (if shl 1 (rI μ 2 0) ≤ nI (2 ^ sB s) then some (Sum.inr a) else _) = _
        exact ite_le (by rw [a0]; exact shl_B _ (by omega))
  obtain ⟨r, h1, h2⟩ := key
  unfold fX11_bestSpies
  rw [h1, bnd_some, h2]
theorem f_best12 {n N k : Nat} {μ : Mu} {s : SD} {t : ST} (hp : RP μ s t) (hc : CO μ 148 s t N) (hk : k ≤ sB s) (hn : 1000 < n) : ∃ j, bspS s t N k (2 ^ sB s) = some j ∧ j < 64 ∧ fX12_bestSpies n (nI k) μ = some (nI j) := by
  have hB := hp.2.1.1.2
  have hpw := pow_B hB
  obtain ⟨j, j1, j2⟩ := bsp_ex (s := s) (t := t) (N := N) hk hB
  refine ⟨j, j1, by omega, ?_⟩
  have a0 : rI μ 140 1 = nI (sB s) := hp.1.2.1
  have hjl : ∀ q i, bspS s t N k q = some i → i < q := by
    intro q
    induction q with
    | zero => intro i e; cases e
    | succ q ih =>
      intro i e
      unfold bspS at e
      split at e
      · cases e; omega
      · have := ih i e; omega
  have key : Rn (lp n (sX12_bestSpies_4 n (nI k) μ) (-1, 0)) (fun r => r = nI j) := by
    refine Rn.l (2 ^ sB s) (fun m q => q.2 = nI m ∧ q.1 = bsI (bspS s t N k m)) _ (by omega) ⟨rfl, rfl⟩ ?_ ?_
    · rintro m ⟨a, y⟩ hm ⟨e1, e2⟩
      have e1 : y = nI m := e1
      have e2 : a = bsI (bspS s t N k m) := e2
      subst e1
      have bo : fX12_bitsOf n (nI m) μ = some (nI (pcN m)) := f_bitsOf (bs_nat (by omega)) (by omega) (by omega)
      have pl : pcN m ≤ 10 := cnt_le _ _
      have w := f_seen (n := n) (m := m) hp hc hn
      have wl := wb_le s t N m
      have es : bspS s t N k (m + 1) = if (decide (pcN m = k) && better s t N (bspS s t N k m) m) = true then some m else bspS s t N k m := rfl
      simp (disch := first | omega | decide) only [sX12_bestSpies_4, jX12_bestSpies_42, gd_true, bnd_some, bnd2_some, ix_n, ib_n, add_l, add_r, mul_l, mul_r, nI_add, sub_r, nI_leI, nI_ltI, nI_eq, le_l, le_r, lt_l, lt_r, eq_l, eq_r, eq_m, if_true, if_false, not_false_eq_true, not_true_eq_false, a0, shl_B (sB s) (by omega), show ¬ 2 ^ sB s ≤ m by omega, bo, w]
      by_cases c : pcN m = k
      · rw [if_pos c]
        have dt : decide (pcN m = k) = true := decide_eq_true c
        cases ho : bspS s t N k m with
        | none =>
          rw [ho] at e2
          have e2 : a = -1 := e2
          rw [if_pos e2]
          refine Rn.so ⟨rfl, ?_⟩
          rw [es, dt, ho]; rfl
        | some i =>
          rw [ho] at e2
          have e2 : a = nI i := e2
          have il := hjl m i ho
          have wi := wb_le s t N i
          have w2 := f_seen (n := n) (m := i) hp hc hn
          rw [e2, if_neg (nI_m1 (by omega)), w2, bnd_some]
          by_cases c2 : wbS s t N m ≤ wbS s t N i
          · rw [if_pos ((nI_leI (by omega) (by omega)).mpr c2)]
            refine Rn.so ⟨rfl, ?_⟩
            rw [es, dt, ho]
            show nI i = bsI (if (true && decide (wbS s t N i < wbS s t N m)) = true then some m else some i)
            rw [decide_eq_false (by omega)]; rfl
          · rw [if_neg (fun e => c2 ((nI_leI (by omega) (by omega)).mp e))]
            refine Rn.so ⟨rfl, ?_⟩
            rw [es, dt, ho]
            show nI m = bsI (if (true && decide (wbS s t N i < wbS s t N m)) = true then some m else some i)
            rw [decide_eq_true (by omega)]; rfl
      · rw [if_neg c]
        refine Rn.so ⟨rfl, ?_⟩
        rw [es, decide_eq_false c]; exact e2
    · rintro ⟨a, y⟩ ⟨e1, e2⟩
      have e1 : y = nI (2 ^ sB s) := e1
      have e2 : a = bsI (bspS s t N k (2 ^ sB s)) := e2
      subst e1
      rw [j1] at e2
      refine Rn.e (r := a) ?_ e2
      show (if shl 1 (rI μ 140 1) ≤ nI (2 ^ sB s) then some (Sum.inr a) else _) = _
      exact ite_le (by rw [a0]; exact shl_B _ (by omega))
  obtain ⟨r, h1, h2⟩ := key
  unfold fX12_bestSpies
  rw [h1, bnd_some, h2]
theorem c_reached {n N : Nat} {μ : Mu} {s : SD} {t : ST} (hp : CP μ s t) (hN : N ≤ 48) (hn : 5000 < n) : ∃ μ', fX11_findReached n (nI N) μ = some μ' ∧ CO μ' 138 s t N ∧ CQ s μ μ' := by
  have hB := hp.2.1.1.2
  obtain ⟨m1, g1, g2, g3⟩ := c_look (n := n) (L := N) hp (by omega) (by omega)
  have lo : Rn (lp n (sX11_findReached_10 n (nI N)) (0, m1)) (fun m => CO m 138 s t N ∧ CQ s μ m) := by
    refine Rn.l (sB s) (fun b q => q.1 = nI b ∧ (∀ i, i < b → rI q.2 138 i = cvS s t N i) ∧ LA q.2 s t N ∧ CQ s μ q.2) _ (by omega) ⟨rfl, fun i hi => absurd hi (Nat.not_lt_zero _), g2, g3⟩ ?_ ?_
    · rintro b ⟨x, m⟩ hb ⟨e1, e2, e3, e4⟩
      have e1 : x = nI b := e1
      subst e1
      have e2 : ∀ i, i < b → rI m 138 i = cvS s t N i := e2
      have e4 : CQ s μ m := e4
      obtain ⟨m2, l1, l2, l3, l4⟩ := c_sendF (n := n) (b := b) (w := 0) (hp.q e4) e3 (by omega) (by omega) hb bs_no (by omega)
      obtain ⟨r, k1, k2⟩ := c_beaches (n := n) (T := N) (hp.q (e4.tr l3)) l2 (by omega) (by omega) (by omega) (by omega)
      have er : r = cvS s t N b := by
        unfold cvS
        refine bs_nI (bs_congr k2 fun i hi => ?_) (by omega)
        have := (sim hp.2.1 (show N ≤ 71 by omega) hb (x := no) (t := t) (w := 0) N (by omega)).2.2.2.2.1 i hi
        rw [this, Nat.zero_add]
      subst er
      have l1 : fX0_send n (nI b) 0 0 m = some m2 := l1
      have a0 : rI m 2 0 = nI (sB s) := (hp.q e4).1.1
      simp (disch := first | omega | decide) only [sX11_findReached_10, gd_true, bnd_some, bnd2_some, ix_n, ib_n, add_l, add_r, mul_l, mul_r, nI_add, sub_r, nI_leI, nI_ltI, nI_eq, le_l, le_r, lt_l, lt_r, eq_l, eq_r, eq_m, if_true, if_false, not_false_eq_true, not_true_eq_false, a0, show ¬ sB s ≤ b by omega, l1, k1]
      have cq := e4.tr l3
      refine Rn.so ⟨rfl, fun i hi => ?_, l2.2.2.fr ((Fr.rfl' (fun x => x = 138) m2).w rfl _ _) (rI_ai (by decide)) ⟨by omega, by omega⟩, cq.1.w (by unfold QC; omega) _ _, cq.2.congr fun k h1 h2 j => rI_ai (by omega)⟩
      show rI (wI m2 138 b _) 138 i = _
      by_cases e : i = b
      · rw [e, rI_same]
      · rw [rI_ii e, l4.i (by omega)]; exact e2 i (by omega)
    · rintro ⟨x, m⟩ ⟨e1, e2, e3, e4⟩
      have e1 : x = nI (sB s) := e1
      subst e1
      exact Rn.e (r := m) (ite_le (hp.q e4).1.1) ⟨e2, e4⟩
  obtain ⟨m, h1, h2, h3⟩ := lo
  exact ⟨m, by unfold fX11_findReached; rw [g1, bnd_some, h1, bnd_some], h2, h3⟩
theorem r_reached {n N : Nat} {μ : Mu} {s : SD} {t : ST} (hp : RP μ s t) (hN : N ≤ 48) (hn : 5000 < n) : ∃ μ', fX12_laysComes n (nI N) μ = some μ' ∧ CO μ' 148 s t N ∧ RQ μ μ' := by
  have hB := hp.2.1.1.2
  have lo : Rn (lp n (sX12_laysComes_2 n (nI N)) (0, μ)) (fun m => CO m 148 s t N ∧ RQ μ m) := by
    refine Rn.l (sB s) (fun b q => q.1 = nI b ∧ (∀ i, i < b → rI q.2 148 i = cvS s t N i) ∧ RQ μ q.2) _ (by omega) ⟨rfl, fun i hi => absurd hi (Nat.not_lt_zero _), RQ.rfl' _⟩ ?_ ?_
    · rintro b ⟨x, m⟩ hb ⟨e1, e2, e4⟩
      have e1 : x = nI b := e1
      subst e1
      have e2 : ∀ i, i < b → rI m 148 i = cvS s t N i := e2
      have e4 : RQ μ m := e4
      have q1 := hp.q e4
      obtain ⟨m1, k1, k2, k3, k4⟩ := r_keep (n := n) q1 (by omega)
      obtain ⟨m2, l1, l2, l3⟩ := r_calls (n := n) (b := b) (w := 0) (N := N) k4.rx hb (by omega) (by omega) (by omega)
      have er : rI m2 140 76 = cvS s t N b := by
        unfold cvS
        exact bs_nI (l2.2.2.2.2.2 0 (by rw [ca_W]; omega)).1 (by omega)
      have f2 : Fg PG m1 (wI m2 148 b (rI m2 140 76)) := (l3.mono fun _ _ => PR_PG).w (by unfold PG; omega) _
      obtain ⟨m3, o1, o2, o3⟩ := r_again (n := n) k2 k3 f2 (by omega)
      have l1 : fX12_calls n (nI b) 0 (nI N) m1 = some m2 := l1
      have a0 : rI m 140 1 = nI (sB s) := q1.1.2.1
      simp (disch := first | omega | decide) only [sX12_laysComes_2, gd_true, bnd_some, bnd2_some, ix_n, ib_n, add_l, add_r, mul_l, mul_r, nI_add, sub_r, nI_leI, nI_ltI, nI_eq, le_l, le_r, lt_l, lt_r, eq_l, eq_r, eq_m, if_true, if_false, not_false_eq_true, not_true_eq_false, a0, show ¬ sB s ≤ b by omega, k1, l1, o1]
      refine Rn.so ⟨rfl, fun i hi => ?_, e4.tr o2⟩
      show rI m3 148 i = _
      rw [o3 _ _ (by decide)]
      by_cases e : i = b
      · rw [e, rI_same, er]
      · rw [rI_ii e, l3.i (fun q => by unfold PR at q; omega), k3.i (by decide)]; exact e2 i (by omega)
    · rintro ⟨x, m⟩ ⟨e1, e2, e4⟩
      have e1 : x = nI (sB s) := e1
      have e4 : RQ μ m := e4
      subst e1
      exact Rn.e (r := m) (ite_le (hp.q e4).1.2.1) ⟨e2, e4⟩
  obtain ⟨m, h1, h2, h3⟩ := lo
  exact ⟨m, by unfold fX12_laysComes; rw [h1, bnd_some], h2, h3⟩
theorem m_spies {n k : Nat} {sh : List Sh} {R : Rf} {μ : Mu} {x y z : Int32} (hI : INV k sh R μ) (hk : k < 512) (hn : 5000 < n) : GO k sh R (fX11_spies n x y z μ) (fX12_spies n x y z) := by
  refine GO.q hI hk fun s t hT hp => ?_
  have hB := hp.2.1.1
  have e1 : ∀ m : Mu, fX11_within n z 0 1 m = some (if wi z 0 1 = true then 1 else 0) := fun m => w11 0 1
  have e2 : ∀ m : Mu, fX12_within n z.toInt64 0 1 m = some (if wi z 0 1 = true then 1 else 0) := fun m => w12 0 1
  have e3 : ∀ m : Mu, fX11_within n x 1 (nI (sB s)) m = some (if wi x 1 (sB s) = true then 1 else 0) := fun m => w11 1 (sB s)
  have e4 : ∀ m : Mu, fX12_within n x.toInt64 1 ((nI (sB s)).toInt64) m = some (if wi x 1 (sB s) = true then 1 else 0) := fun m => w12 1 (sB s)
  have e5 : ∀ m : Mu, fX11_within n y 0 48 m = some (if wi y 0 48 = true then 1 else 0) := fun m => w11 0 48
  have h1 : fX11_spies n x y z μ = if wi z 0 1 = true then (if wi x 1 (sB s) = true then (if wi y 0 48 = true then (bnd (fX11_findReached n y μ) fun m11 => bnd (fX11_bestSpies n x m11) fun u13 => if z = 0 then (bnd (fX11_watchedBy n u13 m11) fun u16 => some (u16, m11)) else (some (u13, m11))) else some (-3, μ)) else some (-3, μ)) else some (-2, μ) := by
    unfold fX11_spies; rw [e1, bnd_some, ifb, hp.1.1, e3, bnd_some, ifb, e5, bnd_some, ifb]
  have h2 : ∀ μ', RP μ' s t → fX12_spies n x y z μ' = if wi z 0 1 = true then (if wi x 1 (sB s) = true then (if wi y 0 48 = true then (bnd (fX12_laysComes n y (wI μ' 139 0 0)) fun m11 => bnd (fX12_bestSpies n x m11) fun u13 => if z = 0 then (bnd (fX12_seenBy n u13 m11) fun u16 => some (u16, m11)) else (some (u13, m11))) else some (-3, wI μ' 139 0 0)) else some (-3, wI μ' 139 0 0)) else some (-2, wI μ' 139 0 0) := by
    intro μ' h
    unfold fX12_spies; rw [e2, bnd_some, ifb, (h.q (RQ.th _)).1.2.1, e4, bnd_some, ifb, f_soon, bnd_some, ifb]
  by_cases k1 : wi z 0 1 = true
  · by_cases k2 : wi x 1 (sB s) = true
    · by_cases k3 : wi y 0 48 = true
      · obtain ⟨q, q1, q2, rfl⟩ := wi_of k2 (by omega) (by omega)
        obtain ⟨N, N1, N2, rfl⟩ := wi_of k3 (by omega) (by omega)
        obtain ⟨m1, g1, g2, g3⟩ := c_reached (n := n) hp N2 hn
        obtain ⟨j, j1, j2, j3⟩ := f_best11 (n := n) (k := q) (hp.q g3) g2 q1 q2 (by omega)
        have w := f_watched (n := n) (m := j) (hp.q g3) g2 (by omega)
        refine ⟨if z = 0 then nI (wbS s t N j) else nI j, m1, ?_, g3, fun μ' h _ => ?_⟩
        · rw [h1, if_pos k1, if_pos k2, if_pos k3, g1, bnd_some, j3, bnd_some, w, bnd_some]
          split <;> rfl
        · obtain ⟨m2, l1, l2, l3⟩ := r_reached (n := n) (h.q (RQ.th _)) N2 hn
          have hr := (h.q (RQ.th _)).q l3
          obtain ⟨j', i1, i2, i3⟩ := f_best12 (n := n) (k := q) hr l2 q2 (by omega)
          rw [j1] at i1
          cases i1
          have w2 := f_seen (n := n) (m := j) hr l2 (by omega)
          refine ⟨m2, ?_, (RQ.th _).tr l3⟩
          rw [h2 μ' h, if_pos k1, if_pos k2, if_pos k3, l1, bnd_some, i3, bnd_some, w2, bnd_some]
          split <;> rfl
      · exact ⟨-3, μ, by rw [h1, if_pos k1, if_pos k2, if_neg k3], CQ.rfl' hp, fun μ' h _ => ⟨_, by rw [h2 μ' h, if_pos k1, if_pos k2, if_neg k3], RQ.th _⟩⟩
    · exact ⟨-3, μ, by rw [h1, if_pos k1, if_neg k2], CQ.rfl' hp, fun μ' h _ => ⟨_, by rw [h2 μ' h, if_pos k1, if_neg k2], RQ.th _⟩⟩
  · exact ⟨-2, μ, by rw [h1, if_neg k1], CQ.rfl' hp, fun μ' h _ => ⟨_, by rw [h2 μ' h, if_neg k1], RQ.th _⟩⟩
