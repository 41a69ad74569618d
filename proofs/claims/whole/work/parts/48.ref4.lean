theorem RB_le {s : SD} {t : ST} {g : Nat → Int32} (h : RB s t g) (hv : SV s) (hV : TV s t) {w c k : Nat} (hw : w < tW t) (hc : c < sC s) : RB s (t.1, tHo t, tAt t, tWe t, tHe t, fun w' c' => if w' = w ∧ c' = c then k else tLe t w' c') (upd g (36 + 10 * w + c) (nI k)) := by
  obtain ⟨h0, h1, h2, h3, h4, h5⟩ := h
  have hC := hv.2.1
  have hS := hv.2.2.2.1
  have hW := hV.2.1
  have u : ∀ j, j ≠ 36 + 10 * w + c → upd g (36 + 10 * w + c) (nI k) j = g j := fun j e2 => by unfold upd; rw [if_neg e2]
  refine ⟨by rw [u 0 (by omega)]; exact h0, by rw [u 1 (by omega)]; exact h1, by rw [u 2 (by omega)]; exact h2, by rw [u 3 (by omega)]; exact h3, fun q hq => by rw [u _ (by omega)]; exact h4 q hq, fun w' hw' => ?_⟩
  have hw' : w' < tW t := hw'
  obtain ⟨a, b, d, e⟩ := h5 w' hw'
  refine ⟨by rw [u _ (by omega)]; exact a, by rw [u _ (by omega)]; exact b, by rw [u _ (by omega)]; exact d, fun c' hc' => ?_⟩
  by_cases hcc : w' = w ∧ c' = c
  · obtain ⟨rfl, rfl⟩ := hcc
    show upd _ _ _ _ = nI (if _ then _ else _)
    rw [if_pos ⟨rfl, rfl⟩]
    unfold upd; rw [if_pos rfl]
  · rw [u _ (by omega)]
    show _ = nI (if _ then _ else _)
    rw [if_neg hcc]
    exact e c' hc'
theorem RB_at {s : SD} {t : ST} {g : Nat → Int32} (h : RB s t g) (hv : SV s) (hV : TV s t) {w b : Nat} (hw : w < tW t) (hb : b < sB s) : RB s (t.1, tHo t, fun w' b' => tAt t w' b' || (decide (w' = w) && decide (b' = b)), tWe t, tHe t, tLe t) (upd g (12 + w) (g (12 + w) ||| shl 1 (nI b))) := by
  obtain ⟨h0, h1, h2, h3, h4, h5⟩ := h
  have hB := hv.1.2
  have hS := hv.2.2.2.1
  have hW := hV.2.1
  have u : ∀ j, j ≠ 12 + w → upd g (12 + w) (g (12 + w) ||| shl 1 (nI b)) j = g j := fun j e2 => by unfold upd; rw [if_neg e2]
  refine ⟨by rw [u 0 (by omega)]; exact h0, by rw [u 1 (by omega)]; exact h1, by rw [u 2 (by omega)]; exact h2, by rw [u 3 (by omega)]; exact h3, fun q hq => by rw [u _ (by omega)]; exact h4 q hq, fun w' hw' => ?_⟩
  have hw' : w' < tW t := hw'
  obtain ⟨a, b2, d, e⟩ := h5 w' hw'
  refine ⟨?_, by rw [u _ (by omega)]; exact b2, by rw [u _ (by omega)]; exact d, fun c' hc' => by rw [u _ (by omega)]; exact e c' hc'⟩
  by_cases hww : w' = w
  · subst hww
    have e2 : upd g (12 + w') (g (12 + w') ||| shl 1 (nI b)) (12 + w') = g (12 + w') ||| shl 1 (nI b) := by unfold upd; rw [if_pos rfl]
    rw [e2]
    exact bs_congr (bs_set a hb (by omega)) (fun i _ => by show (tAt t w' i || decide (i = b)) = (tAt t w' i || (decide (w' = w') && decide (i = b))); simp)
  · rw [u _ (by omega)]
    exact bs_congr a (fun i _ => by show tAt t w' i = (tAt t w' i || (decide (w' = w) && decide (i = b))); simp [hww])
theorem RB_he {s : SD} {t : ST} {g : Nat → Int32} (h : RB s t g) (hv : SV s) (hV : TV s t) {w p : Nat} (hw : w < tW t) (hp : p < sP s) : RB s (t.1, tHo t, tAt t, tWe t, fun w' p' => tHe t w' p' || (decide (w' = w) && decide (p' = p)), tLe t) (upd g (28 + w) (g (28 + w) ||| shl 1 (nI p))) := by
  obtain ⟨h0, h1, h2, h3, h4, h5⟩ := h
  have hP := hv.2.2.1
  have hS := hv.2.2.2.1
  have hW := hV.2.1
  have u : ∀ j, j ≠ 28 + w → upd g (28 + w) (g (28 + w) ||| shl 1 (nI p)) j = g j := fun j e2 => by unfold upd; rw [if_neg e2]
  refine ⟨by rw [u 0 (by omega)]; exact h0, by rw [u 1 (by omega)]; exact h1, by rw [u 2 (by omega)]; exact h2, by rw [u 3 (by omega)]; exact h3, fun q hq => by rw [u _ (by omega)]; exact h4 q hq, fun w' hw' => ?_⟩
  have hw' : w' < tW t := hw'
  obtain ⟨a, b2, d, e⟩ := h5 w' hw'
  refine ⟨by rw [u _ (by omega)]; exact a, by rw [u _ (by omega)]; exact b2, ?_, fun c' hc' => by rw [u _ (by omega)]; exact e c' hc'⟩
  by_cases hww : w' = w
  · subst hww
    have e2 : upd g (28 + w') (g (28 + w') ||| shl 1 (nI p)) (28 + w') = g (28 + w') ||| shl 1 (nI p) := by unfold upd; rw [if_pos rfl]
    rw [e2]
    exact bs_congr (bs_set d hp (by omega)) (fun i _ => by show (tHe t w' i || decide (i = p)) = (tHe t w' i || (decide (w' = w') && decide (i = p))); simp)
  · rw [u _ (by omega)]
    exact bs_congr d (fun i _ => by show tHe t w' i = (tHe t w' i || (decide (w' = w) && decide (i = p))); simp [hww])
def pcS (s : SD) (u : ST) (pr : Nat → Nat → Bool) : ST := (u.1, tHo u, fun w b => tAt u w b || anyB (fun c => pr w c && (decide (tLe u w c = 1) && decide (s 2 c = b))) (sC s), tWe u, tHe u, fun w c => if pr w c = true then tLe u w c - 1 else tLe u w c)
theorem pc_TV {s : SD} {u : ST} {pr : Nat → Nat → Bool} (h : TV s u) : TV s (pcS s u pr) := ⟨h.1, h.2.1, h.2.2.1, fun w c hw hc => by
  have := h.2.2.2 w c hw hc
  show (if _ then _ else _) ≤ 9
  split
  · exact Nat.le_trans (Nat.sub_le _ _) this
  · exact this⟩
theorem upto_ne {w i w' c : Nat} (h : ¬ (w' = w ∧ c = i)) : upto w (i + 1) w' c = upto w i w' c := by
  unfold upto
  by_cases e2 : w' = w
  · have : c < i + 1 ↔ c < i := by omega
    simp [e2, this]
  · simp [e2]
theorem upto_at (w i : Nat) : upto w i w i = false := by simp [upto]
theorem upto_at1 (w i : Nat) : upto w (i + 1) w i = true := by simp [upto]
theorem any_1 {f : Nat → Bool} {n k : Nat} (hk : k < n) (g : Nat → Bool) (h : ∀ i, i < n → i ≠ k → f i = g i) (hg : g k = false) : anyB f n = (anyB g n || f k) := by
  rw [Bool.eq_iff_iff, Bool.or_eq_true, anyB_iff, anyB_iff]
  constructor
  · rintro ⟨i, h1, h2⟩
    by_cases e : i = k
    · subst e; exact Or.inr h2
    · exact Or.inl ⟨i, h1, by rw [← h i h1 e]; exact h2⟩
  · rintro (⟨i, h1, h2⟩ | h2)
    · by_cases e : i = k
      · subst e; rw [hg] at h2; cases h2
      · exact ⟨i, h1, by rw [h i h1 e]; exact h2⟩
    · exact ⟨k, hk, h2⟩
set_option maxHeartbeats 4000000 in
theorem f_comesAll {n w : Nat} {μ : Mu} {s : SD} {u : ST} (hs : RS μ s) (hv : SV s) (hV : TV s u) (hw : w < tW u) (hn : 1000 < n) (ht : RT μ s (pcS s u (upto w 0))) : ∃ μ', fX12_comesAll n (nI w) μ = some μ' ∧ RT μ' s (pcS s u (upto w (sC s))) ∧ Sb μ μ' := by
  have hC := hv.2.1
  have hB := hv.1.2
  have hW := hV.2.1
  have key : ∃ r, lp n (sX12_comesAll_2 n (nI w)) (nI 0, μ) = some r ∧ (RT r s (pcS s u (upto w (sC s))) ∧ Sb μ r) := by
    refine lp_inv (step := sX12_comesAll_2 n (nI w)) (sC s) (fun i m => (nI i, m)) (fun i m => RT m s (pcS s u (upto w i)) ∧ Sb μ m) _ ?_ ?_ (n := n) (by omega) μ ⟨ht, Sb.rfl' μ⟩
    · rintro i m hi ⟨hT, hb⟩
      have hS := hs.sb hv hb
      have hTV := pc_TV (s := s) (pr := upto w i) hV
      have a2 : rI m 140 2 = nI (sC s) := hS.2.2.1
      obtain ⟨o1, o2, o3⟩ := hS.2.2.2.2.2.2.1 i hi
      obtain ⟨c1, c2, c3, c4⟩ := hv.2.2.2.2.1 i hi
      obtain ⟨d1, d2, d3, d4⟩ := hT.2.2.2.2.2 w hw
      have hle9 := hV.2.2.2 w i hw hi
      have le : rI m 140 (100 + 10 * w + i) = nI (tLe u w i) := by
        rw [show 100 + 10 * w + i = 64 + (36 + 10 * w + i) by omega]
        refine (d4 i hi).trans ?_
        show nI (if upto w i w i = true then _ else _) = _
        rw [upto_at]; rfl
      have eat : ∀ w' b, w' < tW u → tAt (pcS s u (upto w (i + 1))) w' b = (tAt (pcS s u (upto w i)) w' b || (decide (w' = w) && (decide (tLe u w i = 1) && decide (s 2 i = b)))) := by
        intro w' b _
        show (_ || _) = ((_ || _) || _)
        rw [Bool.or_assoc]
        congr 1
        by_cases e : w' = w
        · subst e
          rw [any_1 (k := i) hi (fun c => upto w' i w' c && (decide (tLe u w' c = 1) && decide (s 2 c = b))) (fun c _ hc => by rw [upto_ne (fun q => hc q.2)]) (by simp [upto_at]), upto_at1]
          simp
        · have : (fun c => upto w (i + 1) w' c && (decide (tLe u w' c = 1) && decide (s 2 c = b))) = fun c => upto w i w' c && (decide (tLe u w' c = 1) && decide (s 2 c = b)) := by
            funext c; rw [upto_ne (fun q => e q.1)]
          rw [this]
          simp [e]
      have ele : ∀ w' c, tLe (pcS s u (upto w (i + 1))) w' c = if w' = w ∧ c = i then tLe u w i - 1 else tLe (pcS s u (upto w i)) w' c := by
        intro w' c
        show (if _ then _ else _) = _
        by_cases e : w' = w ∧ c = i
        · obtain ⟨rfl, rfl⟩ := e
          rw [upto_at1]; simp
        · rw [upto_ne e, if_neg e]; rfl
      simp (disch := first | omega | decide) only [sX12_comesAll_2, gd_true, bnd_some, bnd2_some, ix_n, ib_n, add_l, add_r, mul_l, mul_r, nI_add, sub_r, nI_leI, nI_ltI, nI_eq, le_l, le_r, lt_l, lt_r, eq_l, eq_r, eq_m, if_true, if_false, not_false_eq_true, not_true_eq_false, a2, show ¬ sC s ≤ i by omega, le]
      by_cases g0 : tLe u w i = 0
      · simp only [g0, if_true]
        refine ⟨m, rfl, ?_, hb⟩
        refine RB.ext hT rfl (fun _ _ => rfl) (fun w' hw' => ⟨fun b _ => ?_, fun c _ => ⟨rfl, ?_⟩, fun _ _ => rfl⟩)
        · rw [eat w' b hw', g0]; simp
        · rw [ele, g0]
          split
          · next h => obtain ⟨rfl, rfl⟩ := h; show 0 - 1 = (if _ then _ else _); rw [upto_at]; simp [g0]
          · rfl
      · simp (disch := first | omega | decide) only [g0, gd_true, bnd_some, bnd2_some, ix_n, ib_n, add_l, add_r, mul_l, mul_r, nI_add, sub_r, nI_leI, nI_ltI, nI_eq, le_l, le_r, lt_l, lt_r, eq_l, eq_r, eq_m, if_true, if_false, not_false_eq_true, not_true_eq_false, rI_same]
        have z := RB_le (k := tLe u w i - 1) hT hv hTV hw hi
        have e0 : (fun j => rI (wI m 140 (100 + 10 * w + i) (nI (tLe u w i - 1))) 140 (64 + j)) = upd (fun j => rI m 140 (64 + j)) (36 + 10 * w + i) (nI (tLe u w i - 1)) := by
          rw [RT_w (by omega), show 100 + 10 * w + i - 64 = 36 + 10 * w + i by omega]
        have hb2 := hb.w (i := 100 + 10 * w + i) (by omega) (by omega) (nI (tLe u w i - 1))
        rw [← e0] at z
        by_cases g1 : tLe u w i - 1 = 0
        · have g2 : tLe u w i = 1 := by omega
          simp (disch := first | omega | decide) only [g1, gd_true, bnd_some, bnd2_some, ix_n, ib_n, add_l, add_r, mul_l, mul_r, nI_add, sub_r, nI_leI, nI_ltI, nI_eq, le_l, le_r, lt_l, lt_r, eq_l, eq_r, eq_m, if_true, if_false, not_false_eq_true, not_true_eq_false, rI_ii (show 24 + i ≠ 100 + 10 * w + i by omega), o2]
          rw [g1] at z hb2 e0
          have hTV2 : TV s ((pcS s u (upto w i)).1, tHo (pcS s u (upto w i)), tAt (pcS s u (upto w i)), tWe (pcS s u (upto w i)), tHe (pcS s u (upto w i)), fun w' c' => if w' = w ∧ c' = i then 0 else tLe (pcS s u (upto w i)) w' c') := ⟨hTV.1, hTV.2.1, hTV.2.2.1, fun w' c hw2 hc => by
            show (if _ then _ else _) ≤ 9
            split
            · omega
            · exact hTV.2.2.2 w' c hw2 hc⟩
          have z3 := RB_at (b := s 2 i) z hv hTV2 hw c2
          have e1 : (fun j => rI (wI (wI m 140 (100 + 10 * w + i) (nI 0)) 140 (76 + w) (rI (wI m 140 (100 + 10 * w + i) (nI 0)) 140 (76 + w) ||| shl 1 (nI (s 2 i)))) 140 (64 + j)) = upd (fun j => rI (wI m 140 (100 + 10 * w + i) (nI 0)) 140 (64 + j)) (12 + w) (rI (wI m 140 (100 + 10 * w + i) (nI 0)) 140 (64 + (12 + w)) ||| shl 1 (nI (s 2 i))) := by
            rw [RT_w (by omega), show 76 + w - 64 = 12 + w by omega, show 76 + w = 64 + (12 + w) by omega]
          rw [← e1] at z3
          refine ⟨_, rfl, ?_, hb2.w (by omega) (by omega) _⟩
          refine RB.ext z3 rfl (fun _ _ => rfl) (fun w' hw' => ⟨fun b _ => ?_, fun c _ => ⟨rfl, ?_⟩, fun _ _ => rfl⟩)
          · rw [eat w' b hw', g2]
            show (_ || _) = (_ || _)
            congr 2
            simp [eq_comm]
          · rw [ele, g1]
        · simp (disch := first | omega | decide) only [g1, gd_true, bnd_some, bnd2_some, ix_n, ib_n, add_l, add_r, mul_l, mul_r, nI_add, sub_r, nI_leI, nI_ltI, nI_eq, le_l, le_r, lt_l, lt_r, eq_l, eq_r, eq_m, if_true, if_false, not_false_eq_true, not_true_eq_false]
          refine ⟨_, rfl, ?_, hb2⟩
          refine RB.ext z rfl (fun _ _ => rfl) (fun w' hw' => ⟨fun b _ => ?_, fun c _ => ⟨rfl, ?_⟩, fun _ _ => rfl⟩)
          · rw [eat w' b hw']
            have : ¬ tLe u w i = 1 := by omega
            simp [this]
          · rw [ele]
    · rintro m ⟨hT, hb⟩
      have a2 : rI m 140 2 = nI (sC s) := (hs.sb hv hb).2.2.1
      exact ⟨m, by simp (disch := first | omega | decide) only [sX12_comesAll_2, gd_true, bnd_some, bnd2_some, ix_n, ib_n, add_l, add_r, mul_l, mul_r, nI_add, sub_r, nI_leI, nI_ltI, nI_eq, le_l, le_r, lt_l, lt_r, eq_l, eq_r, eq_m, if_true, if_false, not_false_eq_true, not_true_eq_false, a2, Nat.le_refl], hT, hb⟩
  obtain ⟨r, h1, h2, h3⟩ := key
  refine ⟨r, ?_, h2, h3⟩
  unfold fX12_comesAll
  have h1 : lp n (sX12_comesAll_2 n (nI w)) (0, μ) = some r := h1
  rw [h1, bnd_some]
