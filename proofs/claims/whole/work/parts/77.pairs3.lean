theorem c_sound2 {n b k : Nat} {μ : Mu} {s : SD} {t : ST} (hp : CP μ s t) (hb : b < sB s) (hk : k < 10000) (hn : 1000 < n) : ∃ μ', fX11_soundIn n (nI b) (nI k) μ = some (soundS s b (tH t + k) (gk (tG t) k), μ') ∧ Sr μ μ' ∧ RU μ' s := by
  obtain ⟨p1, p2, p3, p4, p5, p6⟩ := hp
  have hG := p5.1
  obtain ⟨m1, g1, g2, g3⟩ := f_soundOf (n := n) (b := b) (h := tH t + k) (g := gk (tG t) k) p1 p2 p3 hb (by omega) (gk_lt _ _) hn
  refine ⟨m1, ?_, g2, g3⟩
  unfold fX11_soundIn
  rw [p4.1, p4.2.1, gk_if (by omega) (by omega), nI_add, g1, bnd2_some]
theorem c_unlike2 {n b c : Nat} {μ : Mu} {s : SD} {t : ST} (hp : CP μ s t) (hb : b < sB s) (hc : c < sB s) (hn : 1000 < n) : ∃ μ', fX11_unlikeHours n (nI b) (nI c) μ = some (nI (ulS s t b c 24), μ') ∧ Sr μ μ' ∧ RU μ' s := by
  have key : Rn (lp n (sX11_unlikeHours_5 n (nI b) (nI c)) (0, 0, μ)) (fun r => r.1 = nI (ulS s t b c 24) ∧ Sr μ r.2 ∧ RU r.2 s) := by
    refine Rn.l 24 (fun i q => q.1 = nI (ulS s t b c i) ∧ q.2.1 = nI i ∧ Sr μ q.2.2 ∧ RU q.2.2 s) _ (by omega) ⟨rfl, rfl, Sr.rfl' _, hp.2.2.1⟩ ?_ ?_
    · rintro i ⟨x, y, m⟩ hi ⟨e1, e2, e3, e4⟩
      have e1 : x = nI (ulS s t b c i) := e1
      have e2 : y = nI i := e2
      have e3 : Sr μ m := e3
      subst e1; subst e2
      have q1 := hp.q (e3.cq e4)
      obtain ⟨m1, g1, g2, g2'⟩ := c_sound2 (n := n) (b := b) (k := i) q1 hb (by omega) hn
      obtain ⟨m2, g3, g4, g4'⟩ := c_sound2 (n := n) (b := c) (k := i) (q1.q (g2.cq g2')) hc (by omega) hn
      have ea : ulS s t b c (i + 1) = ulS s t b c i + (if decide (snS s t b i ≠ snS s t c i) = true then 1 else 0) := rfl
      simp (disch := first | omega | decide) only [sX11_unlikeHours_5, gd_true, bnd_some, bnd2_some, ix_n, ib_n, add_l, add_r, mul_l, mul_r, nI_add, sub_r, nI_leI, nI_ltI, nI_eq, le_l, le_r, lt_l, lt_r, eq_l, eq_r, eq_m, if_true, if_false, not_false_eq_true, not_true_eq_false, show ¬ 24 ≤ i by omega, g1, g3]
      by_cases c2 : snS s t b i = snS s t c i
      · rw [if_pos c2]
        refine Rn.so ⟨?_, rfl, (e3.tr g2).tr g4, g4'⟩
        rw [ea]; simp [c2]
      · rw [if_neg c2]
        refine Rn.so ⟨?_, rfl, (e3.tr g2).tr g4, g4'⟩
        rw [ea]; simp [c2]
    · rintro ⟨x, y, m⟩ ⟨e1, e2, e3, e4⟩
      have e2 : y = nI 24 := e2
      subst e2
      exact Rn.e (r := (x, m)) rfl ⟨e1, e3, e4⟩
  obtain ⟨⟨x, m⟩, h1, h2, h3⟩ := key
  have h2 : x = nI (ulS s t b c 24) := h2
  subst h2
  exact ⟨m, by unfold fX11_unlikeHours; rw [h1, bnd_some], h3⟩
theorem r_unlike2 {n b c : Nat} {μ : Mu} {s : SD} {t : ST} (hp : RP μ s t) (hb : b < sB s) (hc : c < sB s) (hn : 1000 < n) : ∃ μ', fX12_unlikeOf n (nI b) (nI c) μ = some (nI (ulS s t b c 24), μ') ∧ Sc μ μ' := by
  have hB := hp.2.1.1.2
  have key : Rn (lp n (sX12_unlikeOf_5 n (nI b) (nI c)) (0, 0, μ)) (fun r => r.1 = nI (ulS s t b c 24) ∧ Sc μ r.2) := by
    refine Rn.l 24 (fun i q => q.1 = nI (ulS s t b c i) ∧ q.2.1 = nI i ∧ Sc μ q.2.2) _ (by omega) ⟨rfl, rfl, Sc.rfl' _⟩ ?_ ?_
    · rintro i ⟨x, y, m⟩ hi ⟨e1, e2, e3⟩
      have e1 : x = nI (ulS s t b c i) := e1
      have e2 : y = nI i := e2
      have e3 : Sc μ m := e3
      subst e1; subst e2
      have q1 := hp.q e3.rq
      have q5 := q1.2.2.2.2.1
      obtain ⟨m1, g1, g2⟩ := f_soundIn (n := n) (b := b) (k := i) q1.1 q1.2.1 q1.2.2.1 q1.2.2.2.1 (by omega) (by omega) (by omega) hn
      have q2 := q1.q g2.rq
      obtain ⟨m2, g3, g4⟩ := f_soundIn (n := n) (b := c) (k := i) q2.1 q2.2.1 q2.2.2.1 q2.2.2.2.1 (by omega) (by omega) (by omega) hn
      have ea : ulS s t b c (i + 1) = ulS s t b c i + (if decide (snS s t b i ≠ snS s t c i) = true then 1 else 0) := rfl
      simp (disch := first | omega | decide) only [sX12_unlikeOf_5, gd_true, bnd_some, bnd2_some, ix_n, ib_n, add_l, add_r, mul_l, mul_r, nI_add, sub_r, nI_leI, nI_ltI, nI_eq, le_l, le_r, lt_l, lt_r, eq_l, eq_r, eq_m, if_true, if_false, not_false_eq_true, not_true_eq_false, show ¬ 24 ≤ i by omega, g1, g3]
      refine Rn.so ⟨?_, rfl, (e3.tr g2).tr g4⟩
      rw [ea]
      by_cases c2 : snS s t b i = snS s t c i
      · simp [c2, nI_s0]
      · simp [c2, nI_s1]
    · rintro ⟨x, y, m⟩ ⟨e1, e2, e3⟩
      have e2 : y = nI 24 := e2
      subst e2
      exact Rn.e (r := (x, m)) rfl ⟨e1, e3⟩
  obtain ⟨⟨x, m⟩, h1, h2, h3⟩ := key
  have h2 : x = nI (ulS s t b c 24) := h2
  subst h2
  exact ⟨m, by unfold fX12_unlikeOf; rw [h1, bnd_some], h3⟩
theorem c_pairs {n : Nat} {x1 x2 : Int32} {μ : Mu} {s : SD} {t : ST} (hp : CP μ s t) (hn : 5000 < n) : ∃ m14 m17, lp n (sX11_pairs_32 n x1 x2) (0, μ) = some m14 ∧ fX4_solve n (rI m14 2 3) m14 = some m17 ∧ rI m17 124 3 = nI (prS s t).1 ∧ (∀ i, i < sS s → rI m17 127 i = (prS s t).2 i) ∧ CQ s μ m17 := by
  have hS := hp.2.1.2.2.2.1
  have lo : Rn (lp n (sX11_pairs_32 n x1 x2) (0, μ)) (fun m => (∀ i j, i < j → j < sS s → rI m 125 (i * 8 + j) = nI (coS s t i j)) ∧ CQ s μ m) := by
    refine Rn.l (sS s) (fun i q => q.1 = nI i ∧ (∀ i' j, i' < i → i' < j → j < sS s → rI q.2 125 (i' * 8 + j) = nI (coS s t i' j)) ∧ CQ s μ q.2) _ (by omega) ⟨rfl, fun i' j h => absurd h (Nat.not_lt_zero _), CQ.rfl' hp⟩ ?_ ?_
    · rintro i ⟨x, m⟩ hi ⟨e1, e2, e3⟩
      have e1 : x = nI i := e1
      subst e1
      have e2 : ∀ i' j, i' < i → i' < j → j < sS s → rI m 125 (i' * 8 + j) = nI (coS s t i' j) := e2
      have e3 : CQ s μ m := e3
      have inner : Rn (lp n (sX11_pairs_48 n x1 x2 (nI i)) (nI (i + 1), m)) (fun m => (∀ i' j, i' < i + 1 → i' < j → j < sS s → rI m 125 (i' * 8 + j) = nI (coS s t i' j)) ∧ CQ s μ m) := by
        refine Rn.l (sS s - (i + 1)) (fun c q => q.1 = nI (i + 1 + c) ∧ (∀ i' j, (i' < i ∨ i' = i ∧ j < i + 1 + c) → i' < j → j < sS s → rI q.2 125 (i' * 8 + j) = nI (coS s t i' j)) ∧ CQ s μ q.2) _ (by omega) ⟨rfl, fun i' j h h1 h2 => ?_, e3⟩ ?_ ?_
        · rcases h with h | h
          · exact e2 i' j h h1 h2
          · omega
        · rintro c ⟨x, q⟩ hc ⟨f1, f2, f3⟩
          have f1 : x = nI (i + 1 + c) := f1
          subst f1
          have f2 : ∀ i' j, (i' < i ∨ i' = i ∧ j < i + 1 + c) → i' < j → j < sS s → rI q 125 (i' * 8 + j) = nI (coS s t i' j) := f2
          have f3 : CQ s μ q := f3
          have q1 := hp.q f3
          have a3 : rI q 2 3 = nI (sS s) := q1.1.2.2.2.1
          have o1 : rI q 7 i = nI (s 6 i) := (q1.1.2.2.2.2.2.2.2.2.2.2.1 i hi).1
          have o2 : rI q 7 (i + 1 + c) = nI (s 6 (i + 1 + c)) := (q1.1.2.2.2.2.2.2.2.2.2.2.1 (i + 1 + c) (by omega)).1
          have v1 := (hp.2.1.2.2.2.2.2.2.1 i hi).1
          have v2 := (hp.2.1.2.2.2.2.2.2.1 (i + 1 + c) (by omega)).1
          obtain ⟨m', g1, g2, g3⟩ := c_unlike2 (n := n) q1 v1 v2 (by omega)
          simp (disch := first | omega | decide) only [sX11_pairs_48, gd_true, bnd_some, bnd2_some, ix_n, ib_n, add_l, add_r, mul_l, mul_r, nI_add, sub_r, nI_leI, nI_ltI, nI_eq, le_l, le_r, lt_l, lt_r, eq_l, eq_r, eq_m, if_true, if_false, not_false_eq_true, not_true_eq_false, a3, show ¬ sS s ≤ i + 1 + c by omega, o1, o2, g1, fX4_setCost]
          refine Rn.so ⟨rfl, fun i' j h h1 h2 => ?_, ?_⟩
          · show rI (wI m' 125 (i * 8 + (i + 1 + c)) _) 125 (i' * 8 + j) = _
            by_cases e : i' = i ∧ j = i + 1 + c
            · rw [e.1, e.2, rI_same]; rfl
            · rw [rI_ii (by omega), g2.i (by omega)]
              exact f2 i' j (by omega) h1 h2
          · have z := f3.tr (g2.cq g3)
            exact ⟨z.1.w (by unfold QC; omega) _ _, g3.congr fun k h1 h2 j => rI_ai (by omega)⟩
        · rintro ⟨x, q⟩ ⟨f1, f2, f3⟩
          have f1 : x = nI (i + 1 + (sS s - (i + 1))) := f1
          subst f1
          have a3 : rI q 2 3 = nI (sS s) := (hp.q f3).1.2.2.2.1
          refine Rn.e (r := q) (ite_le (by rw [a3]; congr 1; omega)) ⟨fun i' j h h1 h2 => f2 i' j (by omega) h1 h2, f3⟩
      obtain ⟨m', h1, h2, h3⟩ := inner
      have a3 : rI m 2 3 = nI (sS s) := (hp.q e3).1.2.2.2.1
      simp (disch := first | omega | decide) only [sX11_pairs_32, gd_true, bnd_some, bnd2_some, ix_n, ib_n, add_l, add_r, mul_l, mul_r, nI_add, sub_r, nI_leI, nI_ltI, nI_eq, le_l, le_r, lt_l, lt_r, eq_l, eq_r, eq_m, if_true, if_false, not_false_eq_true, not_true_eq_false, a3, show ¬ sS s ≤ i by omega]
      rw [h1, bnd_some]
      exact Rn.so ⟨rfl, h2, h3⟩
    · rintro ⟨x, m⟩ ⟨e1, e2, e3⟩
      have e1 : x = nI (sS s) := e1
      subst e1
      exact Rn.e (r := m) (ite_le (hp.q e3).1.2.2.2.1) ⟨fun i j h1 h2 => e2 i j (by omega) h1 h2, e3⟩
  obtain ⟨m14, l1, l2, l3⟩ := lo
  have a3 : rI m14 2 3 = nI (sS s) := (hp.q l3).1.2.2.2.1
  obtain ⟨m17, g1, g2, g3, g4⟩ := c_pair (n := n) (S := sS s) (cost := coS s t) hS (coS_le s t) (by omega) (sS s) 12 0 (fun _ => false) (decide (sS s % 2 = 1)) 0 (fun _ => 0) (100000, fun _ => 0) (shl 1 (nI (sS s)) - 1) (wI (wI m14 124 4 (nI (sS s))) 124 3 100000) (by omega) (by omega) (by omega) (Nat.le_refl _) ⟨by rw [rI_ii (by decide), rI_same], by rw [rI_same]; rfl, fun i j h1 h2 => by rw [rI_ai (by decide), rI_ai (by decide)]; exact l2 i j h1 h2, fun h => absurd h (Nat.lt_irrefl _)⟩ (bs_congr (bs_full (by omega)) fun i _ => rfl) (fun i hi h => by
    rcases h with h | h
    · omega
    · cases h)
  have hlt := prS_lt hp.2.1 t
  have fq : Fr QC m14 m17 := (((Fr.rfl' _ _).w (show QC 124 by unfold QC; omega) _ _).w (show QC 124 by unfold QC; omega) _ _).tr (g3.mono fun x q => by unfold QC; omega)
  refine ⟨m14, m17, l1, ?_, g2.2.1, g2.2.2.2 hlt, l3.1.tr fq, ?_⟩
  · unfold fX4_solve fX4_pairFrom
    rw [a3, jr2 hS]
    have g1 : fX4_Q n 12 0 0 (shl 1 (nI (sS s)) - 1) 0 (if decide (sS s % 2 = 1) = true then 1 else 0) (wI (wI m14 124 4 (nI (sS s))) 124 3 100000) = some m17 := g1
    rw [g1, bnd_some]
  · refine RU.fr (P := fun x => x = 124 ∨ x = 126 ∨ x = 127) ?_ g3 (fun k h1 h2 q => by omega)
    exact l3.2.congr fun k h1 h2 j => by rw [rI_ai (by omega), rI_ai (by omega)]
theorem r_pairs {n : Nat} {x1 : Int32} {μ : Mu} {s : SD} {t : ST} (hp : RP μ s t) (hn : 5000 < n) : ∃ m12 m16, lp n (sX12_pairs_35 n x1) (0, μ) = some m12 ∧ fX12_goesPairs n 0 (if (jrem (rI (wI m12 139 26 (-1)) 140 4) 2) = 1 then 1 else 0 : Int32) 0 (wI m12 139 26 (-1)) = some m16 ∧ rI m16 139 26 = nI (prS s t).1 ∧ (∀ i, i < sS s → rI m16 150 i = (prS s t).2 i) ∧ RQ μ m16 := by
  have hS := hp.2.1.2.2.2.1
  have lo : Rn (lp n (sX12_pairs_35 n x1) (0, μ)) (fun m => (∀ i j, i < sS s → j < sS s → rI m 151 (8 * i + j) = nI (coS s t i j)) ∧ RQ μ m) := by
    refine Rn.l (sS s) (fun i q => q.1 = nI i ∧ (∀ i' j, i' < i → j < sS s → rI q.2 151 (8 * i' + j) = nI (coS s t i' j)) ∧ RQ μ q.2) _ (by omega) ⟨rfl, fun i' j h => absurd h (Nat.not_lt_zero _), RQ.rfl' _⟩ ?_ ?_
    · rintro i ⟨x, m⟩ hi ⟨e1, e2, e3⟩
      have e1 : x = nI i := e1
      subst e1
      have e2 : ∀ i' j, i' < i → j < sS s → rI m 151 (8 * i' + j) = nI (coS s t i' j) := e2
      have e3 : RQ μ m := e3
      have inner : Rn (lp n (sX12_pairs_47 n x1 (nI i)) (0, m)) (fun m => (∀ i' j, i' < i + 1 → j < sS s → rI m 151 (8 * i' + j) = nI (coS s t i' j)) ∧ RQ μ m) := by
        refine Rn.l (sS s) (fun c q => q.1 = nI c ∧ (∀ i' j, (i' < i ∨ i' = i ∧ j < c) → j < sS s → rI q.2 151 (8 * i' + j) = nI (coS s t i' j)) ∧ RQ μ q.2) _ (by omega) ⟨rfl, fun i' j h h2 => ?_, e3⟩ ?_ ?_
        · rcases h with h | h
          · exact e2 i' j h h2
          · omega
        · rintro c ⟨x, q⟩ hc ⟨f1, f2, f3⟩
          have f1 : x = nI c := f1
          subst f1
          have f2 : ∀ i' j, (i' < i ∨ i' = i ∧ j < c) → j < sS s → rI q 151 (8 * i' + j) = nI (coS s t i' j) := f2
          have f3 : RQ μ q := f3
          have q1 := hp.q f3
          have a3 : rI q 140 4 = nI (sS s) := q1.1.2.2.2.2.1
          have o1 : rI q 140 (56 + i) = nI (s 6 i) := q1.1.2.2.2.2.2.2.2.2 i hi
          have o2 : rI q 140 (56 + c) = nI (s 6 c) := q1.1.2.2.2.2.2.2.2.2 c hc
          have v1 := (hp.2.1.2.2.2.2.2.2.1 i hi).1
          have v2 := (hp.2.1.2.2.2.2.2.2.1 c hc).1
          obtain ⟨m', g1, g2⟩ := r_unlike2 (n := n) q1 v1 v2 (by omega)
          simp (disch := first | omega | decide) only [sX12_pairs_47, gd_true, bnd_some, bnd2_some, ix_n, ib_n, add_l, add_r, mul_l, mul_r, nI_add, sub_r, nI_leI, nI_ltI, nI_eq, le_l, le_r, lt_l, lt_r, eq_l, eq_r, eq_m, if_true, if_false, not_false_eq_true, not_true_eq_false, a3, show ¬ sS s ≤ c by omega, o1, o2, g1]
          refine Rn.so ⟨rfl, fun i' j h h2 => ?_, (f3.tr g2.rq).w (Or.inr ⟨by omega, by omega⟩) _⟩
          show rI (wI m' 151 (8 * i + c) _) 151 (8 * i' + j) = _
          by_cases e : i' = i ∧ j = c
          · rw [e.1, e.2, rI_same]; rfl
          · rw [rI_ii (by omega), (g2 151 (by decide) (by decide)).1]
            exact f2 i' j (by omega) h2
        · rintro ⟨x, q⟩ ⟨f1, f2, f3⟩
          have f1 : x = nI (sS s) := f1
          have f3 : RQ μ q := f3
          subst f1
          exact Rn.e (r := q) (ite_le (hp.q f3).1.2.2.2.2.1) ⟨fun i' j h h2 => f2 i' j (by omega) h2, f3⟩
      obtain ⟨m', h1, h2, h3⟩ := inner
      have a3 : rI m 140 4 = nI (sS s) := (hp.q e3).1.2.2.2.2.1
      simp (disch := first | omega | decide) only [sX12_pairs_35, gd_true, bnd_some, bnd2_some, ix_n, ib_n, add_l, add_r, mul_l, mul_r, nI_add, sub_r, nI_leI, nI_ltI, nI_eq, le_l, le_r, lt_l, lt_r, eq_l, eq_r, eq_m, if_true, if_false, not_false_eq_true, not_true_eq_false, a3, show ¬ sS s ≤ i by omega]
      rw [h1, bnd_some]
      exact Rn.so ⟨rfl, h2, h3⟩
    · rintro ⟨x, m⟩ ⟨e1, e2, e3⟩
      have e1 : x = nI (sS s) := e1
      have e3 : RQ μ m := e3
      subst e1
      exact Rn.e (r := m) (ite_le (hp.q e3).1.2.2.2.2.1) ⟨fun i j h1 h2 => e2 i j h1 h2, e3⟩
  obtain ⟨m12, l1, l2, l3⟩ := lo
  have a3 : rI (wI m12 139 26 (-1)) 140 4 = nI (sS s) := (hp.q l3).1.2.2.2.2.1
  obtain ⟨m16, g1, g2, g3, g4⟩ := r_pair (n := n) (S := sS s) (cost := coS s t) hS (coS_le s t) (by omega) (sS s) 12 0 (fun _ => false) (decide (sS s % 2 = 1)) 0 (fun _ => 0) (100000, fun _ => 0) 0 (wI m12 139 26 (-1)) (by omega) (by omega) (by omega) (Nat.le_refl _) ⟨a3, by rw [rI_same]; rfl, fun i j h1 h2 => by rw [rI_ai (by decide)]; exact l2 i j (by omega) h2, fun h => absurd h (Nat.lt_irrefl _)⟩ (bs_congr (bs_0 _) fun i _ => by simp) (fun i hi h => by
    rcases h with h | h
    · omega
    · cases h)
  have hlt := prS_lt hp.2.1 t
  have hne : ¬ (prS s t).1 = 100000 := by omega
  have g21 : rI m16 139 26 = if (prS s t).1 = 100000 then -1 else nI (prS s t).1 := g2.2.1
  rw [if_neg hne] at g21
  refine ⟨m12, m16, l1, ?_, g21, g2.2.2.2 hlt, (l3.w (Or.inl ⟨rfl, by omega, by omega, by omega, by omega⟩) _).tr (g3.mono fun a i q => ?_)⟩
  · unfold fX12_goesPairs
    rw [a3, jr2 hS]
    exact g1
  · unfold PAr at q; unfold QR; omega
theorem m_pairs {n k : Nat} {sh : List Sh} {R : Rf} {μ : Mu} {x : Int32} (hI : INV k sh R μ) (hk : k < 512) (hn : 5000 < n) : GO k sh R (fX11_pairs n x μ) (fX12_pairs n x) := by
  refine GO.q hI hk fun s t hT hp => ?_
  have hS := hp.2.1.2.2.2.1
  by_cases x0 : x = 0
  · subst x0
    obtain ⟨m14, m17, g1, g2, g3, g4, g5⟩ := c_pairs (n := n) (x1 := 0) (x2 := if (10 : Int32) ≤ 0 then (0 - 10) else (-1)) hp hn
    refine ⟨nI (prS s t).1, m17, ?_, g5, fun μ' h _ => ?_⟩
    · unfold fX11_pairs jX11_pairs_30
      rw [if_pos rfl, g1, bnd_some]
      show bnd (fX4_solve n (rI m14 2 3) m14) _ = _
      rw [g2, bnd_some, if_pos rfl, g3]
    · obtain ⟨m12, m16, l1, l2, l3, l4, l5⟩ := r_pairs (n := n) (x1 := 0) (h.q (RQ.th _)) hn
      refine ⟨m16, ?_, (RQ.th _).tr l5⟩
      unfold fX12_pairs jX12_pairs_33
      rw [if_pos rfl, l1, bnd_some]
      show bnd (fX12_goesPairs n 0 _ 0 (wI m12 139 26 (-1))) _ = _
      rw [l2, bnd_some, if_pos rfl, l3]
  · -- what is 10 and a shell, or none such
    have okb : (∃ j, j < sS s ∧ x = nI (10 + j)) ∨ (okN (if 10 ≤ x then (x - 10) else (-1)) (sS s) = false ∧ ∀ m : Mu, rI m 140 4 = nI (sS s) → fX12_within n x.toInt64 10 ((9 + rI m 140 4).toInt64) m = some 0) := by
      have w : ∀ m : Mu, rI m 140 4 = nI (sS s) → fX12_within n x.toInt64 10 ((9 + rI m 140 4).toInt64) m = some (if wi x 10 (9 + sS s) = true then 1 else 0) := fun m e => by
        rw [e, show (9 : Int32) + nI (sS s) = nI (9 + sS s) from nI_add 9 _]; exact w12 10 (9 + sS s)
      by_cases c : wi x 10 (9 + sS s) = true
      · obtain ⟨j, h1, h2, rfl⟩ := wi_of c (by omega) (by omega)
        exact Or.inl ⟨j - 10, by omega, by congr 1; omega⟩
      · right
        refine ⟨?_, fun m e => by rw [w m e, if_neg c]⟩
        by_cases c2 : (10 : Int32) ≤ x
        · rw [if_pos c2]
          cases h : okN (x - 10) (sS s)
          · rfl
          · obtain ⟨j, hj, e⟩ := okN_of h (by omega)
            exfalso
            apply c
            have e2 : x = nI (10 + j) := by
              have : x = (x - 10) + 10 := by simp
              rw [this, e, show nI j + 10 = nI (j + 10) from nI_add j 10, Nat.add_comm]
            rw [e2]
            exact decide_eq_true ⟨(nI_leI (by omega) (by omega)).mpr (by omega), (nI_leI (by omega) (by omega)).mpr (by omega)⟩
        · rw [if_neg c2]
          unfold okN
          exact decide_eq_false (fun q => absurd q.1 (by decide))
    rcases okb with ⟨j, hj, rfl⟩ | ⟨h1, h2⟩
    · have ek : (if (10 : Int32) ≤ nI (10 + j) then (nI (10 + j) - 10) else (-1)) = nI j := by
        rw [if_pos ((le_l (k := 10) (by decide) (by omega)).mpr (show 10 ≤ 10 + j by omega)), show nI (10 + j) - 10 = nI (10 + j - 10) from pk_sub (a := 10 + j) (b := 10) (by omega)]
        congr 1; omega
      have okj : okN (nI j) (sS s) = true := by rw [okN_n (by omega) (by omega)]; exact decide_eq_true hj
      obtain ⟨m14, m17, g1, g2, g3, g4, g5⟩ := c_pairs (n := n) (x1 := nI (10 + j)) (x2 := nI j) hp hn
      refine ⟨(prS s t).2 j, m17, ?_, g5, fun μ' h _ => ?_⟩
      · unfold fX11_pairs jX11_pairs_30
        rw [if_neg x0, ek, hp.isS, bnd_some, ifb, if_pos okj, g1, bnd_some]
        show bnd (fX4_solve n (rI m14 2 3) m14) _ = _
        rw [g2, bnd_some, if_neg x0, ib_n (by omega) (by omega), gd_true, ix_n (by omega), g4 j hj]
      · have h' := h.q (RQ.th _)
        obtain ⟨m12, m16, l1, l2, l3, l4, l5⟩ := r_pairs (n := n) (x1 := nI (10 + j)) h' hn
        refine ⟨m16, ?_, (RQ.th _).tr l5⟩
        have a4 : rI (wI μ' 139 0 0) 140 4 = nI (sS s) := h'.1.2.2.2.2.1
        have w : fX12_within n (nI (10 + j)).toInt64 10 ((9 + nI (sS s)).toInt64) (wI μ' 139 0 0) = some 1 := by
          rw [show (9 : Int32) + nI (sS s) = nI (9 + sS s) from nI_add 9 _]
          have z : fX12_within n (nI (10 + j)).toInt64 10 (nI (9 + sS s)).toInt64 (wI μ' 139 0 0) = some (if wi (nI (10 + j)) 10 (9 + sS s) = true then 1 else 0) := w12 10 (9 + sS s)
          rw [z, if_pos (show wi (nI (10 + j)) 10 (9 + sS s) = true from decide_eq_true ⟨(nI_leI (by omega) (by omega)).mpr (by omega), (nI_leI (by omega) (by omega)).mpr (by omega)⟩)]
        unfold fX12_pairs jX12_pairs_33
        rw [if_neg x0, a4, w, bnd_some, if_neg (by decide), l1, bnd_some]
        show bnd (fX12_goesPairs n 0 _ 0 (wI m12 139 26 (-1))) _ = _
        rw [l2, bnd_some, if_neg x0, show nI (10 + j) - 10 = nI (10 + j - 10) from pk_sub (a := 10 + j) (b := 10) (by omega), show 10 + j - 10 = j by omega, ib_n (by omega) (by omega), gd_true, ix_n (by omega), l4 j hj]
    · refine ⟨-2, μ, ?_, CQ.rfl' hp, fun μ' h _ => ⟨wI μ' 139 0 0, ?_, RQ.th _⟩⟩
      · unfold fX11_pairs
        rw [if_neg x0, hp.isS, bnd_some, ifb, h1, if_neg (by decide)]
      · unfold fX12_pairs
        rw [if_neg x0, h2 _ (h.q (RQ.th _)).1.2.2.2.2.1, bnd_some, if_pos rfl]
