/-! SHUT and TAKE: the class, and both together -/
theorem w_shut {s : SD} {t : ST} {b p N : Nat} (m : Nat) (hv : SV s) (hN : N ≤ 48) (hb : b < sB s) (hpp : p < sP s) : wtS s t b p N 0 m = decide (N < hhS s (fun i => m.testBit i) t N b 0 p) := by
  have z : erS s (fun i => m.testBit i) t b 0 N p = decide (hhS s (fun i => m.testBit i) t N b 0 p ≤ 0 + N) := (sim hv (show N ≤ 71 by omega) hb (x := fun i => m.testBit i) (t := t) (w := 0) N (by omega)).2.2.2.2.2.2 p hpp
  show (!erS s (fun i => m.testBit i) t b 0 N p) = _
  rw [z, Nat.zero_add]
  by_cases c : hhS s (fun i => m.testBit i) t N b 0 p ≤ N
  · rw [decide_eq_true c, decide_eq_false (by omega)]; rfl
  · rw [decide_eq_false c, decide_eq_true (by omega)]; rfl
theorem hh_le {s : SD} {x : Nat → Bool} {t : ST} {L b p : Nat} (hL : L ≤ 71) : hhS s x t L b 0 p ≤ L ↔ ∃ i, i < sB s ∧ audS s (tHo t) p i = true ∧ hfS s t L 0 (arS s x t L b 0 i) p ≤ L := by
  unfold hhS
  rw [hf_le hL (Nat.le_refl _)]
  constructor
  · rintro ⟨j, h1, h2, h3, h4⟩
    obtain ⟨i, q1, q2, q3⟩ := (mn_le (show j < 100000 by omega)).mp h1
    exact ⟨i, q1, q2, (hf_le hL (Nat.le_refl _)).mpr ⟨j, q3, h2, h3, h4⟩⟩
  · rintro ⟨i, q1, q2, q3⟩
    obtain ⟨j, h1, h2, h3, h4⟩ := (hf_le hL (Nat.le_refl _)).mp q3
    exact ⟨j, (mn_le (show j < 100000 by omega)).mpr ⟨i, q1, q2, h1⟩, h2, h3, h4⟩
theorem shut_all {s : SD} {t : ST} {b p N : Nat} (hv : SV s) (hN : N ≤ 48) (hb : b < sB s) (hpp : p < sP s) (h : wtS s t b p N 0 (2 ^ sC s - 1) = false) (m : Nat) : wtS s t b p N 0 m = false := by
  have hL : N ≤ 71 := by omega
  rw [w_shut _ hv hN hb hpp] at h ⊢
  have h1 := of_decide_eq_false h
  obtain ⟨i, q1, q2, q3⟩ := (hh_le hL).mp (Nat.not_lt.mp h1)
  have eb : i = b := Classical.byContradiction fun e => by
    obtain ⟨j, j1, j2, j3, j4⟩ := (hf_le hL (Nat.le_refl _)).mp q3
    obtain ⟨c, c1, c2, c3, c4⟩ := ar_by (T := arS s (fun i => (2 ^ sC s - 1).testBit i) t N b 0 i) hv hL (Nat.zero_le _) hb e (by omega) rfl
    have hx : (fun i => (2 ^ sC s - 1).testBit i) c = true := by
      show (2 ^ sC s - 1).testBit c = true
      rw [Nat.testBit_two_pow_sub_one]; exact decide_eq_true c1
    have ed : depS s (fun i => (2 ^ sC s - 1).testBit i) t N b 0 c = 100000 := by unfold depS; rw [if_pos hx]
    omega
  subst eb
  refine decide_eq_false (Nat.not_lt.mpr ((hh_le hL).mpr ⟨i, q1, q2, ?_⟩))
  have a1 := (ar_sup (s := s) (x := fun i => m.testBit i) (t := t) (L := N) (b := i) (w := 0) hv hL (Nat.zero_le _)).1
  have a2 := (ar_sup (s := s) (x := fun i => (2 ^ sC s - 1).testBit i) (t := t) (L := N) (b := i) (w := 0) hv hL (Nat.zero_le _)).1
  rw [a2] at q3
  rw [a1]; exact q3
theorem all_C : ∀ C, C ≤ 10 → shl 1 (nI C) - 1 = nI (2 ^ C - 1) := by decide +kernel
theorem c_shut {n b p N : Nat} {μ : Mu} {s : SD} {t : ST} (hp : CP μ s t) (hla : LA μ s t N) (hN : N ≤ 48) (hb : b < sB s) (hpp : p < sP s) (hn : 5000 < n) : ∃ m', fX0_fewestToShut n (nI b) (nI p) (nI N) μ = some (bsI (fwO (wtS s t b p N 0) (2 ^ sC s)), m') ∧ CQ s μ m' := by
  have hC := hp.2.1.2.1
  have pw := pw10 hC
  have p0 : 0 < 2 ^ sC s := Nat.pow_pos (by omega)
  have hbd : ∀ x, hhS s x t N b 0 p ≤ 100000 := fun x => hf_bd (by omega)
  have a1 : rI μ 2 1 = nI (sC s) := hp.1.2.1
  obtain ⟨m1, g1, g2, g3⟩ := c_send (n := n) (b := b) (w := 0) (x := fun i => (2 ^ sC s - 1).testBit i) (x3 := nI (2 ^ sC s - 1)) hp hla (by omega) (by omega) hb (bs_natK (by omega)) (by omega)
  have g1 : fX0_send n (nI b) 0 (nI (2 ^ sC s - 1)) μ = some m1 := g1
  have g4 := c_heard (n := n) (p := p) (hp.q g3) g2 (by omega) (by omega) hpp (by omega)
  have hw := w_shut (t := t) (2 ^ sC s - 1) hp.2.1 hN hb hpp
  have bd := hbd (fun i => (2 ^ sC s - 1).testBit i)
  unfold fX0_fewestToShut
  rw [a1, all_C _ hC, g1, bnd_some, g4, bnd_some]
  by_cases c : N < hhS s (fun i => (2 ^ sC s - 1).testBit i) t N b 0 p
  · rw [if_pos ((nI_ltI (by omega) (by omega)).mpr c)]
    rw [decide_eq_true c] at hw
    have key : Rn (lp n (sX0_fewestToShut_39 n (nI b) (nI p) (nI N) (nI (2 ^ sC s - 1))) (nI (2 ^ sC s - 1), 0, m1)) (fun r => r.1 = nI ((fwO (wtS s t b p N 0) (2 ^ sC s - 1)).getD (2 ^ sC s - 1)) ∧ CQ s μ r.2) := by
      refine Rn.l (2 ^ sC s - 1) (fun m q => q.1 = nI ((fwO (wtS s t b p N 0) m).getD (2 ^ sC s - 1)) ∧ q.2.1 = nI m ∧ LA q.2.2 s t N ∧ CQ s μ q.2.2) _ (by omega) ⟨rfl, rfl, g2.2.2, g3⟩ ?_ ?_
      · rintro m ⟨v, y, q⟩ hm ⟨e1, e2, e3, e4⟩
        have e1 : v = nI ((fwO (wtS s t b p N 0) m).getD (2 ^ sC s - 1)) := e1
        have e2 : y = nI m := e2
        have e4 : CQ s μ q := e4
        subst e1; subst e2
        have es : fwO (wtS s t b p N 0) (m + 1) = if (lsB (fwO (wtS s t b p N 0) m) m && wtS s t b p N 0 m) = true then some m else fwO (wtS s t b p N 0) m := rfl
        have jl : (fwO (wtS s t b p N 0) m).getD (2 ^ sC s - 1) < 1024 := by
          cases ho : fwO (wtS s t b p N 0) m with
          | none => show 2 ^ sC s - 1 < 1024; omega
          | some j => have := fw_lt ho; show j < 1024; omega
        have ls : lsB (fwO (wtS s t b p N 0) m) m = decide (pcN m < pcN ((fwO (wtS s t b p N 0) m).getD (2 ^ sC s - 1))) := by
          cases ho : fwO (wtS s t b p N 0) m with
          | none => exact (decide_eq_true (by show pcN m < pcN (2 ^ sC s - 1); rw [pc_top _ hC]; exact pc_lt _ hC m hm)).symm
          | some j => rfl
        have pl : pcN m ≤ 10 := cnt_le _ _
        have pj : pcN ((fwO (wtS s t b p N 0) m).getD (2 ^ sC s - 1)) ≤ 10 := cnt_le _ _
        show Rn (if nI (2 ^ sC s - 1) ≤ nI m then _ else _) _
        rw [if_neg (fun e => by have := (nI_leI (by omega) (by omega)).mp e; omega), show bitc (nI m) = nI (pcN m) from bitc_all m (by omega), show bitc (nI ((fwO (wtS s t b p N 0) m).getD (2 ^ sC s - 1))) = nI (pcN ((fwO (wtS s t b p N 0) m).getD (2 ^ sC s - 1))) from bitc_all _ jl]
        by_cases c1 : pcN m < pcN ((fwO (wtS s t b p N 0) m).getD (2 ^ sC s - 1))
        · rw [if_neg (fun e => by have := (nI_leI (by omega) (by omega)).mp e; omega)]
          rw [ls, decide_eq_true c1, Bool.true_and, w_shut m hp.2.1 hN hb hpp] at es
          obtain ⟨q2, k1, k2, k3⟩ := c_send (n := n) (b := b) (w := 0) (x := fun i => m.testBit i) (x3 := nI m) (hp.q e4) e3 (by omega) (by omega) hb (bs_natK (by omega)) (by omega)
          have k1 : fX0_send n (nI b) 0 (nI m) q = some q2 := k1
          have k4 := c_heard (n := n) (p := p) (hp.q (e4.tr k3)) k2 (by omega) (by omega) hpp (by omega)
          have bd2 := hbd (fun i => m.testBit i)
          rw [k1, bnd_some, k4, bnd_some]
          by_cases c2 : N < hhS s (fun i => m.testBit i) t N b 0 p
          · rw [if_pos ((nI_ltI (by omega) (by omega)).mpr c2)]
            rw [decide_eq_true c2, if_pos rfl] at es
            exact Rn.so ⟨by rw [es]; rfl, nI_add m 1, k2.2.2, e4.tr k3⟩
          · rw [if_neg (fun e => c2 ((nI_ltI (by omega) (by omega)).mp e))]
            rw [decide_eq_false c2, if_neg (by decide)] at es
            exact Rn.so ⟨by rw [es], nI_add m 1, k2.2.2, e4.tr k3⟩
        · rw [if_pos ((nI_leI (by omega) (by omega)).mpr (by omega))]
          rw [ls, decide_eq_false c1, Bool.false_and, if_neg (by decide)] at es
          exact Rn.so ⟨by rw [es], nI_add m 1, e3, e4⟩
      · rintro ⟨v, y, q⟩ ⟨e1, e2, e3, e4⟩
        have e2 : y = nI (2 ^ sC s - 1) := e2
        subst e2
        exact Rn.e (r := (v, q)) (ite_le rfl) ⟨e1, e4⟩
    obtain ⟨⟨v, q⟩, h1, h2, h3⟩ := key
    have h2 : v = nI ((fwO (wtS s t b p N 0) (2 ^ sC s - 1)).getD (2 ^ sC s - 1)) := h2
    rw [h2] at h1
    refine ⟨q, ?_, h3⟩
    rw [h1, bnd_some]
    have es : fwO (wtS s t b p N 0) (2 ^ sC s - 1 + 1) = if (lsB (fwO (wtS s t b p N 0) (2 ^ sC s - 1)) (2 ^ sC s - 1) && wtS s t b p N 0 (2 ^ sC s - 1)) = true then some (2 ^ sC s - 1) else fwO (wtS s t b p N 0) (2 ^ sC s - 1) := rfl
    rw [show 2 ^ sC s - 1 + 1 = 2 ^ sC s by omega, hw, Bool.and_true] at es
    rw [es]
    cases ho : fwO (wtS s t b p N 0) (2 ^ sC s - 1) with
    | none => rfl
    | some j =>
      have jl := fw_lt ho
      have := pc_lt _ hC j jl
      rw [show lsB (some j) (2 ^ sC s - 1) = false from decide_eq_false (by rw [pc_top _ hC]; omega)]
      rfl
  · rw [if_neg (fun e => c ((nI_ltI (by omega) (by omega)).mp e))]
    rw [decide_eq_false c] at hw
    refine ⟨m1, ?_, g3⟩
    rw [fw_none fun i _ => shut_all hp.2.1 hN hb hpp hw i]
    rfl
/-! TAKE -/
def hmS (s : SD) (t : ST) (b p N : Nat) : Bool := decide (s 4 p ≠ 6) && decide (hfS s t N 0 (arS s no t N b 0 (s 4 p)) p ≤ N)
def tkH (s : SD) (t : ST) (b p N : Nat) : Nat → Bool := fun k => decide (tHo t k = p) && decide (hfS s t N 0 (arS s no t N b 0 (s 6 k)) p ≤ N)
theorem w_take {s : SD} {t : ST} {b p N : Nat} (m : Nat) (hv : SV s) (hN : N ≤ 48) (hb : b < sB s) (hpp : p < sP s) : wtS s t b p N 1 m = true ↔ (hmS s t b p N = false ∧ ∀ k, k < sS s → tkH s t b p N k = true → m.testBit k = true) := by
  have hP := hv.2.2.1
  have hB := hv.1.2
  have z : erS s no (tkS m t) b 0 N p = decide (hhS s no (tkS m t) N b 0 p ≤ 0 + N) := (sim hv (show N ≤ 71 by omega) hb (x := no) (t := tkS m t) (w := 0) N (by omega)).2.2.2.2.2.2 p hpp
  have z2 : wtS s t b p N 1 m = !erS s no (tkS m t) b 0 N p := rfl
  rw [z2, z, Nat.zero_add, Bool.not_eq_true', decide_eq_false_iff_not, hh_le (by omega)]
  have ea : ∀ i, hfS s (tkS m t) N 0 (arS s no (tkS m t) N b 0 i) p = hfS s t N 0 (arS s no t N b 0 i) p := fun i => rfl
  have eo : tHo (tkS m t) = fun k => if m.testBit k = true then 6 else tHo t k := rfl
  simp only [ea, eo]
  constructor
  · intro h
    refine ⟨?_, fun k hk hh => ?_⟩
    · refine Bool.eq_false_iff.mpr fun q => ?_
      unfold hmS at q
      rw [Bool.and_eq_true] at q
      have q1 := of_decide_eq_true q.1
      have q2 := of_decide_eq_true q.2
      have v := (hv.2.2.2.2.2.1 p hpp).1
      refine h ⟨s 4 p, by omega, ?_, q2⟩
      unfold audS
      rw [decide_eq_true rfl, Bool.true_or]
    · unfold tkH at hh
      rw [Bool.and_eq_true] at hh
      have q1 := of_decide_eq_true hh.1
      have q2 := of_decide_eq_true hh.2
      have v := (hv.2.2.2.2.2.2.1 k hk).1
      refine Classical.byContradiction fun c => h ⟨s 6 k, v, ?_, q2⟩
      unfold audS
      rw [Bool.or_eq_true]
      right
      refine anyB_iff.mpr ⟨k, hk, ?_⟩
      rw [Bool.and_eq_true]
      refine ⟨decide_eq_true ?_, decide_eq_true rfl⟩
      show (if m.testBit k = true then 6 else tHo t k) = p
      rw [if_neg c]; exact q1
  · rintro ⟨h1, h2⟩ ⟨i, i1, i2, i3⟩
    unfold audS at i2
    rw [Bool.or_eq_true] at i2
    rcases i2 with q | q
    · have q := of_decide_eq_true q
      have : hmS s t b p N = true := by
        unfold hmS
        rw [Bool.and_eq_true]
        exact ⟨decide_eq_true (by omega), decide_eq_true (by rw [q]; exact i3)⟩
      rw [h1] at this; cases this
    · obtain ⟨k, k1, k2⟩ := anyB_iff.mp q
      rw [Bool.and_eq_true] at k2
      have q1 := of_decide_eq_true k2.1
      have q1 : (if m.testBit k = true then 6 else tHo t k) = p := q1
      have q2 := of_decide_eq_true k2.2
      by_cases c : m.testBit k = true
      · rw [if_pos c] at q1; omega
      · rw [if_neg c] at q1
        refine c (h2 k k1 ?_)
        unfold tkH
        rw [Bool.and_eq_true]
        exact ⟨decide_eq_true q1, decide_eq_true (by rw [q2]; exact i3)⟩
theorem fw_take {s : SD} {t : ST} {b p N : Nat} (hv : SV s) (hN : N ≤ 48) (hb : b < sB s) (hpp : p < sP s) : fwO (wtS s t b p N 1) (2 ^ sS s) = if hmS s t b p N = true then none else some (bN (tkH s t b p N) (sS s)) := by
  have hS := hv.2.2.2.1
  by_cases c : hmS s t b p N = true
  · rw [if_pos c]
    refine fw_none fun i _ => Bool.eq_false_iff.mpr fun q => ?_
    have := ((w_take i hv hN hb hpp).mp q).1
    rw [c] at this; cases this
  · have c' : hmS s t b p N = false := by simpa using c
    rw [if_neg c]
    have bb : ∀ k, (bN (tkH s t b p N) (sS s)).testBit k = (decide (k < sS s) && tkH s t b p N k) := bN_bit _ _
    refine fw_of ⟨bN_lt _ _, (w_take _ hv hN hb hpp).mpr ⟨c', fun k hk hh => ?_⟩, fun i hi hw => ?_⟩
    · rw [bb, hh, decide_eq_true hk]; rfl
    · have h2 := ((w_take i hv hN hb hpp).mp hw).2
      have sub : ∀ k, (bN (tkH s t b p N) (sS s)).testBit k = true → i.testBit k = true := fun k q => by
        rw [bb, Bool.and_eq_true] at q
        exact h2 k (of_decide_eq_true q.1) q.2
      by_cases e : ∃ k, k < 10 ∧ i.testBit k = true ∧ (bN (tkH s t b p N) (sS s)).testBit k = false
      · left
        exact cnt_lt (fun k _ q => sub k q) e
      · right
        have : bN (tkH s t b p N) (sS s) = i := by
          refine Nat.eq_of_testBit_eq fun k => ?_
          by_cases hk : k < 10
          · cases q1 : (bN (tkH s t b p N) (sS s)).testBit k
            · cases q2 : i.testBit k
              · rfl
              · exact absurd ⟨k, hk, q2, q1⟩ e
            · rw [sub k q1]
          · have l1 : ∀ y, y < 2 ^ sS s → y.testBit k = false := fun y hy => Nat.testBit_lt_two_pow (Nat.lt_of_lt_of_le hy (Nat.pow_le_pow_right (n := 2) (by omega) (by omega)))
            rw [l1 _ (bN_lt _ _), l1 _ hi]
        rw [this]; exact ⟨rfl, Nat.le_refl _⟩
theorem c_take {n b p N : Nat} {μ : Mu} {s : SD} {t : ST} (hp : CP μ s t) (hs : SN μ s no t N b 0) (hN : N ≤ 48) (hb : b < sB s) (hpp : p < sP s) (hn : 5000 < n) : fX0_shellsToTake n (nI p) (nI N) μ = some (bsI (fwO (wtS s t b p N 1) (2 ^ sS s))) := by
  have hv := hp.2.1
  have hP := hv.2.2.1
  have hS := hv.2.2.2.1
  have hB := hv.1.2
  have sup := (ar_sup (s := s) (x := no) (t := t) (L := N) (b := b) (w := 0) hv (by omega) (by omega)).2.1
  have fr : ∀ i, i < 6 → fX0_hourHeardFrom n (rI μ 123 i) (nI p) μ = some (nI (hfS s t N 0 (arS s no t N b 0 i) p)) := fun i hi => by
    rw [hs.1 i hi]
    exact c_from hv hs.2.1 hs.2.2 (by omega) (by omega) (sup i) hpp
  have hbd : ∀ i, hfS s t N 0 (arS s no t N b 0 i) p ≤ 100000 := fun i => hf_bd (by omega)
  have a3 : rI μ 2 3 = nI (sS s) := hp.1.2.2.2.1
  have o1 : rI μ 6 p = e6 (s 4 p) := hp.1.2.2.2.2.2.2.2.2.2.1 p hpp
  obtain ⟨r, h1, h2⟩ := lp_set (step := sX0_shellsToTake_43 n (nI p) (nI N) μ) (K := sS s) (n := n) (f := tkH s t b p N) (by omega) (by omega) (fun i v hi => by
      have b1 : rI μ 35 i = e6 (tHo t i) := hp.2.2.2.1.2.2.2.2.1 i hi
      have b2 : rI μ 7 i = nI (s 6 i) := (hp.1.2.2.2.2.2.2.2.2.2.2.1 i hi).1
      have v6 := (hv.2.2.2.2.2.2.1 i hi).1
      have hq := hp.2.2.2.2.1.2.2.1 i hi
      have f6 := fr (s 6 i) (by omega)
      have hd := hbd (s 6 i)
      have et : (e6 (tHo t i) = nI p) ↔ (tHo t i = p) := e6_nI (by omega) (by omega)
      simp (disch := first | omega | decide) only [sX0_shellsToTake_43, gd_true, bnd_some, bnd2_some, ix_n, ib_n, add_l, add_r, mul_l, mul_r, nI_add, sub_r, nI_leI, nI_ltI, nI_eq, le_l, le_r, lt_l, lt_r, eq_l, eq_r, eq_m, if_true, if_false, not_false_eq_true, not_true_eq_false, a3, show ¬ sS s ≤ i by omega, b1, b2, f6, et]
      by_cases c : tHo t i = p
      · rw [if_pos c]
        by_cases c2 : N < hfS s t N 0 (arS s no t N b 0 (s 6 i)) p
        · have z : tkH s t b p N i = false := by unfold tkH; rw [decide_eq_false (show ¬ hfS s t N 0 (arS s no t N b 0 (s 6 i)) p ≤ N by omega), Bool.and_false]
          rw [if_pos c2, z]; rfl
        · have z : tkH s t b p N i = true := by unfold tkH; rw [decide_eq_true (show hfS s t N 0 (arS s no t N b 0 (s 6 i)) p ≤ N by omega), decide_eq_true c]; rfl
          rw [if_neg c2, z]; rfl
      · have z : tkH s t b p N i = false := by unfold tkH; rw [decide_eq_false c, Bool.false_and]
        rw [if_neg c, z]; rfl) (fun v => ite_le a3)
  have hj : jX0_shellsToTake_38 n (nI p) (nI N) μ = some (nI (bN (tkH s t b p N) (sS s))) := by
    unfold jX0_shellsToTake_38
    rw [h1, bnd_some, ← bs_nI h2 (by omega)]
  rw [fw_take hv hN hb hpp]
  unfold fX0_shellsToTake
  have v4 := (hv.2.2.2.2.2.1 p hpp).1
  rw [ib_n (by omega) (by omega), gd_true, ix_n (by omega), o1]
  by_cases c : s 4 p = 6
  · have : hmS s t b p N = false := by unfold hmS; rw [decide_eq_false (by omega)]; rfl
    rw [if_pos ((e6_m1 (by omega)).mpr c), this, hj]; rfl
  · have e4 : e6 (s 4 p) = nI (s 4 p) := by unfold e6; rw [if_neg c]
    rw [if_neg (fun e => c ((e6_m1 (by omega)).mp e)), gd_true, e4, ib_n (by omega) (by omega), gd_true, ix_n (by omega), fr _ (by omega), bnd_some]
    have hd := hbd (s 4 p)
    by_cases c2 : N < hfS s t N 0 (arS s no t N b 0 (s 4 p)) p
    · have : hmS s t b p N = false := by unfold hmS; rw [decide_eq_false (show ¬ hfS s t N 0 (arS s no t N b 0 (s 4 p)) p ≤ N by omega), Bool.and_false]
      rw [if_pos ((nI_ltI (by omega) (by omega)).mpr c2), this, hj]; rfl
    · have : hmS s t b p N = true := by unfold hmS; rw [decide_eq_true (show hfS s t N 0 (arS s no t N b 0 (s 4 p)) p ≤ N by omega), decide_eq_true c]; rfl
      rw [if_neg (fun e => c2 ((nI_ltI (by omega) (by omega)).mp e)), this]; rfl
/-! both -/
theorem wi_nI {a b j : Nat} (h1 : a ≤ j) (h2 : j ≤ b) (hb : b < 2147483648) : wi (nI j) a b = true := decide_eq_true ⟨(nI_leI (by omega) (by omega)).mpr h1, (nI_leI (by omega) (by omega)).mpr h2⟩
theorem okN_nI {j N : Nat} (h : j < N) (hN : N < 2147483648) : okN (nI j) N = true := by rw [okN_n (by omega) (by omega)]; exact decide_eq_true h
theorem r_wo {n : Nat} {x y u z : Int32} {c K : Nat} {o : Int32} {μ' : Mu} {s : SD} {t : ST} (h : RP μ' s t) (hw : ∀ b p N, b < sB s → p < sP s → N ≤ 48 → x = nI b → y = nI p → u = nI N → (o = 0 ∨ o = 1) ∧ rI μ' 140 c = nI K ∧ K ≤ 10 ∧ ((o = 0 ∧ c = 2) ∨ (o = 1 ∧ c = 4))) (hn : 5000 < n) (res : Int32) (hres : res = if okN x (sB s) = true then (if okN y (sP s) = true then (if wi z 0 1 = true then (if wi u 0 48 = true then res else -3) else -2) else -2) else -2) (hok : ∀ b p N, b < sB s → p < sP s → N ≤ 48 → x = nI b → y = nI p → u = nI N → (z = 0 ∨ z = 1) → res = nosI (fwO (wtS s t b p N o) (2 ^ K)) z) : ∃ μ2, fX12_without n x y u z o μ' = some (res, μ2) ∧ RQ μ' μ2 := by
  have hB := h.2.1.1.2
  have hP := h.2.1.2.2.1
  have e2 : ∀ m : Mu, fX12_within n z.toInt64 0 1 m = some (if wi z 0 1 = true then 1 else 0) := fun m => w12 0 1
  unfold fX12_without
  rw [h.isB, bnd_some, ifb, h.isP, bnd_some, ifb, e2, bnd_some, ifb, f_soon, bnd_some, ifb]
  by_cases k1 : okN x (sB s) = true
  · by_cases k2 : okN y (sP s) = true
    · by_cases k3 : wi z 0 1 = true
      · by_cases k4 : wi u 0 48 = true
        · obtain ⟨b, hb, xb⟩ := okN_of k1 (by omega)
          obtain ⟨p, hpp, yp⟩ := okN_of k2 (by omega)
          obtain ⟨N, N1, N2, uN⟩ := wi_of k4 (by omega) (by omega)
          obtain ⟨j, j1, j2, zj⟩ := wi_of k3 (by omega) (by omega)
          have hz : z = 0 ∨ z = 1 := by
            rcases Nat.lt_or_ge j 1 with q | q
            · left; rw [zj, show j = 0 by omega]; rfl
            · right; rw [zj, show j = 1 by omega]; rfl
          obtain ⟨w1, w2, w3, w4⟩ := hw b p N hb hpp N2 xb yp uN
          have pw := pw10 w3
          obtain ⟨m', g1, g2⟩ := r_fewest (n := n) (x1 := nI b) (x2 := nI p) (x3 := nI N) (W := wtS s t b p N o) w3 w4 w2 (fun m hm q hq => by
            obtain ⟨q', q1, q2⟩ := r_without (n := n) (m := m) (h.q hq) w1 hb hpp N2 (by omega) hn
            exact ⟨q', q1, hq.tr q2⟩) hn
          refine ⟨m', ?_, g2⟩
          rw [if_pos k1, if_pos k2, if_pos k3, if_pos k4, hok b p N hb hpp N2 xb yp uN hz, xb, yp, uN, g1, bnd2_some]
          exact r_nos pw hz (by omega)
        · rw [if_pos k1, if_pos k2, if_pos k3, if_neg k4] at hres
          exact ⟨μ', by rw [if_pos k1, if_pos k2, if_pos k3, if_neg k4, hres], RQ.rfl' _⟩
      · rw [if_pos k1, if_pos k2, if_neg k3] at hres
        exact ⟨μ', by rw [if_pos k1, if_pos k2, if_neg k3, hres], RQ.rfl' _⟩
    · rw [if_pos k1, if_neg k2] at hres
      exact ⟨μ', by rw [if_pos k1, if_neg k2, hres], RQ.rfl' _⟩
  · rw [if_neg k1] at hres
    exact ⟨μ', by rw [if_neg k1, hres], RQ.rfl' _⟩

theorem m_shut {n k : Nat} {sh : List Sh} {R : Rf} {μ : Mu} {x y u z : Int32} (hI : INV k sh R μ) (hk : k < 512) (hn : 5000 < n) : GO k sh R (fX11_shut n x y u z μ) (fX12_shut n x y u z) := by
  refine GO.q hI hk fun s t hT hp => ?_
  have hB := hp.2.1.1.2
  have hP := hp.2.1.2.2.1
  have hC := hp.2.1.2.1
  have e1 : ∀ m : Mu, fX11_within n z 0 1 m = some (if wi z 0 1 = true then 1 else 0) := fun m => w11 0 1
  have e3 : ∀ m : Mu, fX11_within n u 0 48 m = some (if wi u 0 48 = true then 1 else 0) := fun m => w11 0 48
  have fin : ∀ res, (res = if okN x (sB s) = true then (if okN y (sP s) = true then (if wi z 0 1 = true then (if wi u 0 48 = true then res else -3) else -2) else -2) else -2) → (∀ b p N, b < sB s → p < sP s → N ≤ 48 → x = nI b → y = nI p → u = nI N → (z = 0 ∨ z = 1) → res = nosI (fwO (wtS s t b p N 0) (2 ^ sC s)) z) → ∀ μ', RP μ' s t → ∃ μ2, fX12_shut n x y u z μ' = some (res, μ2) ∧ RQ μ' μ2 := fun res h1 h2 μ' h => by
    have h' := h.q (RQ.th _)
    obtain ⟨μ2, q1, q2⟩ := r_wo (n := n) (x := x) (y := y) (u := u) (z := z) (c := 2) (K := sC s) (o := 0) h' (fun b p N _ _ _ _ _ _ => ⟨Or.inl rfl, h'.1.2.2.1, hC, Or.inl ⟨rfl, rfl⟩⟩) hn res h1 h2
    refine ⟨μ2, ?_, (RQ.th _).tr q2⟩
    unfold fX12_shut
    rw [q1, bnd2_some]
  unfold fX11_shut
  rw [hp.isB, bnd_some, ifb, hp.isP, bnd_some, ifb, e1, bnd_some, ifb, e3, bnd_some, ifb]
  by_cases k1 : okN x (sB s) = true
  · by_cases k2 : okN y (sP s) = true
    · by_cases k3 : wi z 0 1 = true
      · by_cases k4 : wi u 0 48 = true
        · obtain ⟨b, hb, xb⟩ := okN_of k1 (by omega)
          obtain ⟨p, hpp, yp⟩ := okN_of k2 (by omega)
          obtain ⟨N, N1, N2, uN⟩ := wi_of k4 (by omega) (by omega)
          obtain ⟨m1, g1, g2, g3⟩ := c_look (n := n) (L := N) hp (by omega) (by omega)
          obtain ⟨m2, l1, l2⟩ := c_shut (n := n) (b := b) (p := p) (N := N) (hp.q g3) g2 N2 hb hpp hn
          refine ⟨nosI (fwO (wtS s t b p N 0) (2 ^ sC s)) z, m2, ?_, g3.tr l2, fun μ' h _ => fin _ (by rw [if_pos k1, if_pos k2, if_pos k3, if_pos k4]) (fun b' p' N' b1 p1 N1 xb' yp' uN' _ => ?_) μ' h⟩
          · rw [if_pos k1, if_pos k2, if_pos k3, if_pos k4, uN, g1, bnd_some, xb, yp, l1, bnd2_some, c_nos (pw10 hC), bnd_some]
          · have eb := (nI_eq (by omega) (by omega)).mp (xb.symm.trans xb')
            have ep := (nI_eq (by omega) (by omega)).mp (yp.symm.trans yp')
            have eN := (nI_eq (by omega) (by omega)).mp (uN.symm.trans uN')
            subst eb; subst ep; subst eN; rfl
        · exact ⟨-3, μ, by rw [if_pos k1, if_pos k2, if_pos k3, if_neg k4], CQ.rfl' hp, fun μ' h _ => fin _ (by rw [if_pos k1, if_pos k2, if_pos k3, if_neg k4]) (fun b p N _ _ hN _ _ e _ => absurd (by rw [e]; exact wi_nI (Nat.zero_le _) hN (by omega)) k4) μ' h⟩
      · exact ⟨-2, μ, by rw [if_pos k1, if_pos k2, if_neg k3], CQ.rfl' hp, fun μ' h _ => fin _ (by rw [if_pos k1, if_pos k2, if_neg k3]) (fun b p N _ _ hN _ _ e hz => absurd (by rcases hz with q | q <;> rw [q] <;> decide) k3) μ' h⟩
    · exact ⟨-2, μ, by rw [if_pos k1, if_neg k2], CQ.rfl' hp, fun μ' h _ => fin _ (by rw [if_pos k1, if_neg k2]) (fun b p N _ hp' hN _ e _ _ => absurd (by rw [e]; exact okN_nI hp' (by omega)) k2) μ' h⟩
  · exact ⟨-2, μ, by rw [if_neg k1], CQ.rfl' hp, fun μ' h _ => fin _ (by rw [if_neg k1]) (fun b p N hb _ hN e _ _ _ => absurd (by rw [e]; exact okN_nI hb (by omega)) k1) μ' h⟩
theorem m_take {n k : Nat} {sh : List Sh} {R : Rf} {μ : Mu} {x y u z : Int32} (hI : INV k sh R μ) (hk : k < 512) (hn : 5000 < n) : GO k sh R (fX11_take n x y u z μ) (fX12_take n x y u z) := by
  refine GO.q hI hk fun s t hT hp => ?_
  have hB := hp.2.1.1.2
  have hP := hp.2.1.2.2.1
  have hS := hp.2.1.2.2.2.1
  have e1 : ∀ m : Mu, fX11_within n z 0 1 m = some (if wi z 0 1 = true then 1 else 0) := fun m => w11 0 1
  have e3 : ∀ m : Mu, fX11_within n u 0 48 m = some (if wi u 0 48 = true then 1 else 0) := fun m => w11 0 48
  have fin : ∀ res, (res = if okN x (sB s) = true then (if okN y (sP s) = true then (if wi z 0 1 = true then (if wi u 0 48 = true then res else -3) else -2) else -2) else -2) → (∀ b p N, b < sB s → p < sP s → N ≤ 48 → x = nI b → y = nI p → u = nI N → (z = 0 ∨ z = 1) → res = nosI (fwO (wtS s t b p N 1) (2 ^ sS s)) z) → ∀ μ', RP μ' s t → ∃ μ2, fX12_take n x y u z μ' = some (res, μ2) ∧ RQ μ' μ2 := fun res h1 h2 μ' h => by
    have h' := h.q (RQ.th _)
    obtain ⟨μ2, q1, q2⟩ := r_wo (n := n) (x := x) (y := y) (u := u) (z := z) (c := 4) (K := sS s) (o := 1) h' (fun b p N _ _ _ _ _ _ => ⟨Or.inr rfl, h'.1.2.2.2.2.1, by omega, Or.inr ⟨rfl, rfl⟩⟩) hn res h1 h2
    refine ⟨μ2, ?_, (RQ.th _).tr q2⟩
    unfold fX12_take
    rw [q1, bnd2_some]
  unfold fX11_take
  rw [hp.isB, bnd_some, ifb, hp.isP, bnd_some, ifb, e1, bnd_some, ifb, e3, bnd_some, ifb]
  by_cases k1 : okN x (sB s) = true
  · by_cases k2 : okN y (sP s) = true
    · by_cases k3 : wi z 0 1 = true
      · by_cases k4 : wi u 0 48 = true
        · obtain ⟨b, hb, xb⟩ := okN_of k1 (by omega)
          obtain ⟨p, hpp, yp⟩ := okN_of k2 (by omega)
          obtain ⟨N, N1, N2, uN⟩ := wi_of k4 (by omega) (by omega)
          obtain ⟨m1, g1, g2, g3⟩ := c_look (n := n) (L := N) hp (by omega) (by omega)
          obtain ⟨m2, l1, l2, l3⟩ := c_send (n := n) (b := b) (w := 0) (hp.q g3) g2 (by omega) (by omega) hb bs_no (by omega)
          have l1 : fX0_send n (nI b) 0 0 m1 = some m2 := l1
          have l4 := c_take (n := n) (p := p) (hp.q (g3.tr l3)) l2 N2 hb hpp hn
          have pw := pw10 (show sS s ≤ 10 by omega)
          refine ⟨nosI (fwO (wtS s t b p N 1) (2 ^ sS s)) z, m2, ?_, g3.tr l3, fun μ' h _ => fin _ (by rw [if_pos k1, if_pos k2, if_pos k3, if_pos k4]) (fun b' p' N' b1 p1 N1 xb' yp' uN' _ => ?_) μ' h⟩
          · rw [if_pos k1, if_pos k2, if_pos k3, if_pos k4, uN, g1, bnd_some, xb, yp, l1, bnd_some, l4, bnd_some, c_nos pw, bnd_some]
          · have eb := (nI_eq (by omega) (by omega)).mp (xb.symm.trans xb')
            have ep := (nI_eq (by omega) (by omega)).mp (yp.symm.trans yp')
            have eN := (nI_eq (by omega) (by omega)).mp (uN.symm.trans uN')
            subst eb; subst ep; subst eN; rfl
        · exact ⟨-3, μ, by rw [if_pos k1, if_pos k2, if_pos k3, if_neg k4], CQ.rfl' hp, fun μ' h _ => fin _ (by rw [if_pos k1, if_pos k2, if_pos k3, if_neg k4]) (fun b p N _ _ hN _ _ e _ => absurd (by rw [e]; exact wi_nI (Nat.zero_le _) hN (by omega)) k4) μ' h⟩
      · exact ⟨-2, μ, by rw [if_pos k1, if_pos k2, if_neg k3], CQ.rfl' hp, fun μ' h _ => fin _ (by rw [if_pos k1, if_pos k2, if_neg k3]) (fun b p N _ _ hN _ _ e hz => absurd (by rcases hz with q | q <;> rw [q] <;> decide) k3) μ' h⟩
    · exact ⟨-2, μ, by rw [if_pos k1, if_neg k2], CQ.rfl' hp, fun μ' h _ => fin _ (by rw [if_pos k1, if_neg k2]) (fun b p N _ hp' hN _ e _ _ => absurd (by rw [e]; exact okN_nI hp' (by omega)) k2) μ' h⟩
  · exact ⟨-2, μ, by rw [if_neg k1], CQ.rfl' hp, fun μ' h _ => fin _ (by rw [if_neg k1]) (fun b p N hb _ hN e _ _ _ => absurd (by rw [e]; exact okN_nI hb (by omega)) k1) μ' h⟩
