theorem RB_hg {s : SD} {t : ST} {g : Nat → Int32} (h : RB s t g) (hv : SV s) (hV : TV s t) (a b : Nat) : RB s ((a, b, tX t, tW t), tHo t, tAt t, tWe t, tHe t, tLe t) (upd (upd g 0 (nI a)) 1 (nI b)) := by
  obtain ⟨h0, h1, h2, h3, h4, h5⟩ := h
  have u : ∀ j, 2 ≤ j → upd (upd g 0 (nI a)) 1 (nI b) j = g j := fun j e => by unfold upd; rw [if_neg (by omega), if_neg (by omega)]
  refine ⟨rfl, rfl, by rw [u 2 (by omega)]; exact h2, by rw [u 3 (by omega)]; exact h3, fun q hq => by rw [u _ (by omega)]; exact h4 q hq, fun w' hw' => ?_⟩
  obtain ⟨a, b, d, e⟩ := h5 w' hw'
  exact ⟨by rw [u _ (by omega)]; exact a, by rw [u _ (by omega)]; exact b, by rw [u _ (by omega)]; exact d, fun c' hc' => by rw [u _ (by omega)]; exact e c' hc'⟩
theorem RT_hour {m : Mu} {s : SD} {t : ST} (h : RT m s t) (hv : SV s) (hV : TV s t) (v : Nat) : RT (wI m 140 64 (nI v)) s ((v, tG t, tX t, tW t), tHo t, tAt t, tWe t, tHe t, tLe t) := by
  have z := RB_hg h hv hV v (tG t)
  have e : (fun j => rI (wI m 140 64 (nI v)) 140 (64 + j)) = upd (upd (fun j => rI m 140 (64 + j)) 0 (nI v)) 1 (nI (tG t)) := by
    rw [RT_w (by omega)]
    funext j
    unfold upd
    by_cases h1 : j = 1
    · subst h1; rw [if_neg (by omega), if_pos rfl]; exact h.2.1
    · rw [if_neg h1]
  rw [← e] at z
  exact z
theorem RT_gale {m : Mu} {s : SD} {t : ST} (h : RT m s t) (hv : SV s) (hV : TV s t) (v : Nat) : RT (wI m 140 65 (nI v)) s ((tH t, v, tX t, tW t), tHo t, tAt t, tWe t, tHe t, tLe t) := by
  have z := RB_hg h hv hV (tH t) v
  have e : (fun j => rI (wI m 140 65 (nI v)) 140 (64 + j)) = upd (upd (fun j => rI m 140 (64 + j)) 0 (nI (tH t))) 1 (nI v) := by
    rw [RT_w (by omega)]
    funext j
    unfold upd
    by_cases h1 : j = 1
    · subst h1; rw [if_pos rfl, if_pos rfl]
    · rw [if_neg (show ¬ j = 65 - 64 by omega), if_neg h1]
      by_cases h0 : j = 0
      · subst h0; rw [if_pos rfl]; exact h.1
      · rw [if_neg h0]
  rw [← e] at z
  exact z
/-- behind the hour's first two parts -/
def midS (s : SD) (x : Nat → Bool) (t : ST) : ST := ((tH t + 1, tG t - 1, tX t, tW t), tHo t, tAt t, fun w c => tWe t w c || goesS s x t w c, tHe t, fun w c => le1S s x t w c)
def mid2S (s : SD) (x : Nat → Bool) (t : ST) : ST := ((tH t + 1, tG t - 1, tX t, tW t), tHo t, at1S s x t, fun w c => tWe t w c || goesS s x t w c, tHe t, fun w c => le1S s x t w c - 1)
theorem hr_eq {s : SD} {x : Nat → Bool} {t : ST} (w p : Nat) : (tHe t w p || hrS s (mid2S s x t) w p) = he1S s x t w p := rfl
theorem TV_mid {s : SD} {x : Nat → Bool} {t : ST} (hv : SV s) (h : TV s t) : TV s (midS s x t) := ⟨Nat.le_trans (Nat.sub_le _ _) h.1, h.2.1, h.2.2.1, fun w c hw hc => by
  show (if _ then _ else _) ≤ 9
  split
  · exact (hv.2.2.2.2.1 c hc).2.2.2
  · exact h.2.2.2 w c hw hc⟩
theorem TV_mid2 {s : SD} {x : Nat → Bool} {t : ST} (hv : SV s) (h : TV s t) : TV s (mid2S s x t) := ⟨Nat.le_trans (Nat.sub_le _ _) h.1, h.2.1, h.2.2.1, fun w c hw hc => Nat.le_trans (Nat.sub_le _ _) ((TV_mid (x := x) hv h).2.2.2 w c hw hc)⟩
theorem TV_hour {s : SD} {x : Nat → Bool} {t : ST} (hv : SV s) (h : TV s t) : TV s (hourS s x t) := TV_mid2 (x := x) hv h
/-- how many were heard anew, by the people 0 .. k - 1 -/
def newN (s : SD) (x : Nat → Bool) (t : ST) : Nat → Nat := sumN (newS s x t)
theorem nw_eq {s : SD} {x : Nat → Bool} {t : ST} (p : Nat) : nwS s (mid2S s x t) p (tW t) = newS s x t p := by
  unfold nwS newS
  refine cnt_congr fun w _ => ?_
  rw [← hr_eq]
  show (hrS s (mid2S s x t) w p && !tHe t w p) = ((tHe t w p || hrS s (mid2S s x t) w p) && !tHe t w p)
  cases tHe t w p <;> simp
set_option maxHeartbeats 4000000 in
theorem f_goesHour {n : Nat} {μ : Mu} {s : SD} {t : ST} {x : Nat → Bool} (hs : RS μ s) (hv : SV s) (hV : TV s t) (hx : bs (rI μ 139 19) 10 x) (hh : tH t < 100000000) (hn : 1000 < n) (ht : RT μ s t) : ∃ μ', fX12_goesHour n μ = some (nI (newN s x t (sP s)), μ') ∧ RT μ' s (hourS s x t) ∧ Sb μ μ' := by
  have hG : tG t ≤ 99 := hV.1
  have hW := hV.2.1
  have hP := hv.2.2.1
  have hC := hv.2.1
  -- words go out
  have k1 : ∃ r, lp n (sX12_goesHour_2 n) (nI 0, μ) = some r ∧ (RT r s (pgS s x t (upto (tW t) 0)) ∧ Sb μ r) := by
    refine lp_inv (step := sX12_goesHour_2 n) (tW t) (fun i m => (nI i, m)) (fun i m => RT m s (pgS s x t (upto i 0)) ∧ Sb μ m) _ ?_ ?_ (n := n) (by omega) μ ⟨RB.ext ht rfl (fun _ _ => rfl) (fun w _ => ⟨fun _ _ => rfl, fun c _ => ⟨by show (_ || _) = _; simp [upto], by show (if _ then _ else _) = _; simp [upto]⟩, fun _ _ => rfl⟩), Sb.rfl' μ⟩
    · rintro i m hi ⟨hT, hb⟩
      have a3 : rI m 140 67 = nI (tW t) := hT.2.2.2.1
      obtain ⟨m', g1, g2, g3⟩ := f_goesOut (n := n) (w := i) (hs.sb hv hb) hv hV (x := x) (by rw [(hb.1 139 (by decide) (by decide) (by decide)).1]; exact hx) hi (by omega) hn hT
      refine ⟨m', by simp (disch := first | omega | decide) only [sX12_goesHour_2, gd_true, bnd_some, bnd2_some, ix_n, ib_n, add_l, add_r, mul_l, mul_r, nI_add, sub_r, nI_leI, nI_ltI, nI_eq, le_l, le_r, lt_l, lt_r, eq_l, eq_r, eq_m, if_true, if_false, not_false_eq_true, not_true_eq_false, a3, show ¬ tW t ≤ i by omega, g1], ?_, hb.tr g3⟩
      refine RB.ext g2 rfl (fun _ _ => rfl) (fun w' _ => ⟨fun _ _ => rfl, fun c hc => ?_, fun _ _ => rfl⟩)
      have e : upto (i + 1) 0 w' c = upto i (sC s) w' c := by
        unfold upto
        by_cases h : w' = i
        · simp [h, hc]
        · have : w' < i + 1 ↔ w' < i := by omega
          simp [h, this]
      exact ⟨by show (_ || _) = (_ || _); rw [e], by show (if _ then _ else _) = (if _ then _ else _); rw [e]⟩
    · rintro m ⟨hT, hb⟩
      have a3 : rI m 140 67 = nI (tW t) := hT.2.2.2.1
      exact ⟨m, by simp (disch := first | omega | decide) only [sX12_goesHour_2, gd_true, bnd_some, bnd2_some, ix_n, ib_n, add_l, add_r, mul_l, mul_r, nI_add, sub_r, nI_leI, nI_ltI, nI_eq, le_l, le_r, lt_l, lt_r, eq_l, eq_r, eq_m, if_true, if_false, not_false_eq_true, not_true_eq_false, a3, Nat.le_refl], hT, hb⟩
  obtain ⟨m4, q1, q2, q3⟩ := k1
  have q1 : lp n (sX12_goesHour_2 n) (0, μ) = some m4 := q1
  have hTV1 := pg_TV (x := x) (pr := upto (tW t) 0) hV hv
  -- the hour, the gale
  have a0 : rI m4 140 64 = nI (tH t) := q2.1
  have a1 : rI m4 140 65 = nI (tG t) := q2.2.1
  have mid : ∃ m5, RT m5 s (midS s x t) ∧ Sb μ m5 ∧ fX12_goesHour n μ = jX12_goesHour_56 n m5 := by
    have z := RT_hour q2 hv hTV1 (tH t + 1)
    have hTV2 : TV s (((tH t + 1, tG t, tX t, tW t), tHo (pgS s x t (upto (tW t) 0)), tAt (pgS s x t (upto (tW t) 0)), tWe (pgS s x t (upto (tW t) 0)), tHe (pgS s x t (upto (tW t) 0)), tLe (pgS s x t (upto (tW t) 0)))) := ⟨hTV1.1, hTV1.2.1, hTV1.2.2.1, hTV1.2.2.2⟩
    have z2 := RT_gale z hv hTV2 (tG t - 1)
    have fin : ∀ m, RT m s ((tH t + 1, tG t - 1, tX t, tW t), tHo t, tAt t, tWe (pgS s x t (upto (tW t) 0)), tHe t, tLe (pgS s x t (upto (tW t) 0))) → RT m s (midS s x t) := by
      intro m h
      refine RB.ext h rfl (fun _ _ => rfl) (fun w' hw' => ⟨fun _ _ => rfl, fun c hc => ?_, fun _ _ => rfl⟩)
      have hw' : w' < tW t := hw'
      have e : upto (tW t) 0 w' c = true := by unfold upto; simp [hw']
      refine ⟨?_, ?_⟩
      · show (_ || _) = (_ || (upto (tW t) 0 w' c && _)); rw [e]; simp
      · show (if _ then _ else _) = (if (upto (tW t) 0 w' c && _) = true then _ else _); rw [e]; simp
    unfold fX12_goesHour
    rw [q1, bnd_some]
    simp (disch := first | omega | decide) only [gd_true, bnd_some, bnd2_some, ix_n, ib_n, add_l, add_r, mul_l, mul_r, nI_add, sub_r, nI_leI, nI_ltI, nI_eq, le_l, le_r, lt_l, lt_r, eq_l, eq_r, eq_m, if_true, if_false, not_false_eq_true, not_true_eq_false, a0, rI_ii (show (65 : Nat) ≠ 64 by decide), a1]
    by_cases g : tG t ≤ 0
    · refine ⟨wI m4 140 64 (nI (tH t + 1)), fin _ ?_, q3.w (by decide) (by decide) _, by rw [if_pos g]⟩
      have e : tG t - 1 = tG t := by omega
      rw [e]
      exact z
    · refine ⟨wI (wI m4 140 64 (nI (tH t + 1))) 140 65 (nI (tG t - 1)), fin _ z2, (q3.w (by decide) (by decide) _).w (by decide) (by decide) _, ?_⟩
      rw [if_neg g]
  obtain ⟨m5, z1, z2, z3⟩ := mid
  rw [z3]
  have hTV3 := TV_mid (x := x) hv hV
  -- words come in
  have k2 : ∃ r, lp n (sX12_goesHour_58 n) (nI 0, m5) = some r ∧ (RT r s (pcS s (midS s x t) (upto (tW t) 0)) ∧ Sb μ r) := by
    refine lp_inv (step := sX12_goesHour_58 n) (tW t) (fun i m => (nI i, m)) (fun i m => RT m s (pcS s (midS s x t) (upto i 0)) ∧ Sb μ m) _ ?_ ?_ (n := n) (by omega) m5 ⟨?_, z2⟩
    · rintro i m hi ⟨hT, hb⟩
      have a3 : rI m 140 67 = nI (tW t) := hT.2.2.2.1
      obtain ⟨m', g1, g2, g3⟩ := f_comesAll (n := n) (w := i) (u := midS s x t) (hs.sb hv hb) hv hTV3 hi hn hT
      refine ⟨m', by simp (disch := first | omega | decide) only [sX12_goesHour_58, gd_true, bnd_some, bnd2_some, ix_n, ib_n, add_l, add_r, mul_l, mul_r, nI_add, sub_r, nI_leI, nI_ltI, nI_eq, le_l, le_r, lt_l, lt_r, eq_l, eq_r, eq_m, if_true, if_false, not_false_eq_true, not_true_eq_false, a3, show ¬ tW t ≤ i by omega, g1], ?_, hb.tr g3⟩
      have e : ∀ w' c, c < sC s → upto (i + 1) 0 w' c = upto i (sC s) w' c := by
        intro w' c hc
        unfold upto
        by_cases h : w' = i
        · simp [h, hc]
        · have : w' < i + 1 ↔ w' < i := by omega
          simp [h, this]
      refine RB.ext g2 rfl (fun _ _ => rfl) (fun w' _ => ⟨fun b _ => ?_, fun c hc => ⟨rfl, ?_⟩, fun _ _ => rfl⟩)
      · show (_ || _) = (_ || _)
        congr 1
        exact anyB_congr (fun c hc => by rw [e w' c hc])
      · show (if _ then _ else _) = (if _ then _ else _); rw [e w' c hc]
    · rintro m ⟨hT, hb⟩
      have a3 : rI m 140 67 = nI (tW t) := hT.2.2.2.1
      exact ⟨m, by simp (disch := first | omega | decide) only [sX12_goesHour_58, gd_true, bnd_some, bnd2_some, ix_n, ib_n, add_l, add_r, mul_l, mul_r, nI_add, sub_r, nI_leI, nI_ltI, nI_eq, le_l, le_r, lt_l, lt_r, eq_l, eq_r, eq_m, if_true, if_false, not_false_eq_true, not_true_eq_false, a3, Nat.le_refl], hT, hb⟩
    · refine RB.ext z1 rfl (fun _ _ => rfl) (fun w' _ => ⟨fun b _ => ?_, fun c hc => ⟨rfl, ?_⟩, fun _ _ => rfl⟩)
      · show (_ || anyB _ _) = _
        have : anyB (fun c => upto 0 0 w' c && (decide (tLe (midS s x t) w' c = 1) && decide (s 2 c = b))) (sC s) = false := by
          rw [← Bool.not_eq_true, anyB_iff]
          rintro ⟨c, -, h⟩
          simp [upto] at h
        rw [this]; simp
      · show (if _ then _ else _) = _; simp [upto]
  obtain ⟨m10, y1, y2, y3⟩ := k2
  have y1 : lp n (sX12_goesHour_58 n) (0, m5) = some m10 := y1
  have y4 : RT m10 s (mid2S s x t) := by
    refine RB.ext y2 rfl (fun _ _ => rfl) (fun w' hw' => ⟨fun b _ => ?_, fun c hc => ⟨rfl, ?_⟩, fun _ _ => rfl⟩)
    · have hw' : w' < tW t := hw'
      show (_ || _) = (_ || _)
      congr 1
      refine anyB_congr (fun c hc => ?_)
      have e : upto (tW t) 0 w' c = true := by unfold upto; simp [hw']
      rw [e]; rfl
    · have hw' : w' < tW t := hw'
      show _ = (if _ then _ else _)
      have e : upto (tW t) 0 w' c = true := by unfold upto; simp [hw']
      rw [e]; rfl
  have hTV4 := TV_mid2 (x := x) hv hV
  -- people hear
  have k3 : ∃ r, lp n (sX12_goesHour_84 n) (nI (newN s x t 0), nI 0, m10) = some r ∧ (r.1 = nI (newN s x t (sP s)) ∧ RT r.2 s (hourS s x t) ∧ Sb μ r.2) := by
    refine lp_inv (step := sX12_goesHour_84 n) (sP s) (fun i m => (nI (newN s x t i), nI i, m)) (fun i m => RT m s (phS s (mid2S s x t) (upto i 0)) ∧ Sb μ m) _ ?_ ?_ (n := n) (by omega) m10 ⟨?_, y3⟩
    · rintro i m hi ⟨hT, hb⟩
      have hS := hs.sb hv hb
      have a3 : rI m 140 3 = nI (sP s) := hS.2.2.2.1
      obtain ⟨m', g1, g2, g3⟩ := f_hearsAll (n := n) (p := i) (u := mid2S s x t) hS hv hTV4 hi (by show tH t + 1 < _; omega) hn hT
      have g1 : fX12_hearsAll n (nI i) m = some (nI (newS s x t i), m') := by rw [← nw_eq]; exact g1
      refine ⟨m', by simp (disch := first | omega | decide) only [sX12_goesHour_84, gd_true, bnd_some, bnd2_some, ix_n, ib_n, add_l, add_r, mul_l, mul_r, nI_add, sub_r, nI_leI, nI_ltI, nI_eq, le_l, le_r, lt_l, lt_r, eq_l, eq_r, eq_m, if_true, if_false, not_false_eq_true, not_true_eq_false, a3, show ¬ sP s ≤ i by omega, g1]; rfl, ?_, hb.tr g3⟩
      refine RB.ext g2 rfl (fun _ _ => rfl) (fun w' hw' => ⟨fun _ _ => rfl, fun _ _ => ⟨rfl, rfl⟩, fun p' _ => ?_⟩)
      have hw' : w' < tW t := hw'
      have e : upto (i + 1) 0 p' w' = upto i (tW (mid2S s x t)) p' w' := by
        have h0 : tW (mid2S s x t) = tW t := rfl
        rw [h0]
        unfold upto
        by_cases h : p' = i
        · simp [h, hw']
        · have : p' < i + 1 ↔ p' < i := by omega
          simp [h, this]
      show (_ || _) = (_ || _); rw [e]
    · rintro m ⟨hT, hb⟩
      have a3 : rI m 140 3 = nI (sP s) := (hs.sb hv hb).2.2.2.1
      refine ⟨(nI (newN s x t (sP s)), m), by simp (disch := first | omega | decide) only [sX12_goesHour_84, gd_true, bnd_some, bnd2_some, ix_n, ib_n, add_l, add_r, mul_l, mul_r, nI_add, sub_r, nI_leI, nI_ltI, nI_eq, le_l, le_r, lt_l, lt_r, eq_l, eq_r, eq_m, if_true, if_false, not_false_eq_true, not_true_eq_false, a3, Nat.le_refl], rfl, ?_, hb⟩
      refine RB.ext hT rfl (fun _ _ => rfl) (fun w' hw' => ⟨fun _ _ => rfl, fun _ _ => ⟨rfl, rfl⟩, fun p' hp' => ?_⟩)
      have e : upto (sP s) 0 p' w' = true := by unfold upto; simp [hp']
      show he1S s x t w' p' = (_ || (upto (sP s) 0 p' w' && _)); rw [e, ← hr_eq]; rfl
    · refine RB.ext y4 rfl (fun _ _ => rfl) (fun w' hw' => ⟨fun _ _ => rfl, fun _ _ => ⟨rfl, rfl⟩, fun p' hp' => ?_⟩)
      show (_ || _) = _; simp [upto]
  obtain ⟨⟨r1, r2⟩, h1, h2, h3, h4⟩ := k3
  have h2 : r1 = nI (newN s x t (sP s)) := h2
  subst h2
  have h1 : lp n (sX12_goesHour_84 n) (0, 0, m10) = some (nI (newN s x t (sP s)), r2) := h1
  unfold jX12_goesHour_56
  rw [y1, bnd_some]
  refine ⟨r2, ?_, h3, h4⟩
  show bnd (lp n (sX12_goesHour_84 n) (0, 0, m10)) _ = _
  rw [h1, bnd_some]
