/-! the reference: whispers, why not, does -/
theorem RB_whis {s : SD} {t : ST} {g : Nat → Int32} (h : RB s t g) (hv : SV s) (hW : tW t < 8) {b : Nat} (hb : b < sB s) {g' : Nat → Int32} (e3 : g' 3 = nI (tW t + 1)) (e12 : g' (12 + tW t) = shl 1 (nI b)) (e20 : g' (20 + tW t) = 0) (e28 : g' (28 + tW t) = 0) (e36 : ∀ c, c < 10 → g' (36 + 10 * tW t + c) = 0) (eo : ∀ j, j < 116 → j ≠ 3 → j ≠ 12 + tW t → j ≠ 20 + tW t → j ≠ 28 + tW t → (j < 36 + 10 * tW t ∨ 36 + 10 * tW t + 10 ≤ j) → g' j = g j) : RB s (whisS t b) g' := by
  have hB := hv.1.2
  have hC := hv.2.1
  have hS := hv.2.2.2.1
  obtain ⟨h0, h1, h2, h3, h4, h5⟩ := h
  refine ⟨by rw [eo 0 (by omega) (by omega) (by omega) (by omega) (by omega) (by omega)]; exact h0, by rw [eo 1 (by omega) (by omega) (by omega) (by omega) (by omega) (by omega)]; exact h1, by rw [eo 2 (by omega) (by omega) (by omega) (by omega) (by omega) (by omega)]; exact h2, e3, fun k hk => by rw [eo (4 + k) (by omega) (by omega) (by omega) (by omega) (by omega) (by omega)]; exact h4 k hk, fun w hw => ?_⟩
  have hw : w < tW t + 1 := hw
  show bs _ (sB s) (fun x => if w = tW t then decide (x = b) else tAt t w x) ∧ bs _ (sC s) (fun c => if w = tW t then false else tWe t w c) ∧ bs _ (sP s) (fun p => if w = tW t then false else tHe t w p) ∧ ∀ c, c < sC s → _ = nI (if w = tW t then 0 else tLe t w c)
  by_cases e : w = tW t
  · subst e
    simp only [if_true]
    refine ⟨by rw [e12]; exact bs_bit hb (by omega), by rw [e20]; exact bs_0 _, by rw [e28]; exact bs_0 _, fun c hc => by rw [e36 c (by omega)]; rfl⟩
  · simp only [e, if_false]
    obtain ⟨x1, x2, x3, x4⟩ := h5 w (by omega)
    refine ⟨by rw [eo _ (by omega) (by omega) (by omega) (by omega) (by omega) (by omega)]; exact x1, by rw [eo _ (by omega) (by omega) (by omega) (by omega) (by omega) (by omega)]; exact x2, by rw [eo _ (by omega) (by omega) (by omega) (by omega) (by omega) (by omega)]; exact x3, fun c hc => by rw [eo _ (by omega) (by omega) (by omega) (by omega) (by omega) (by omega)]; exact x4 c hc⟩
theorem f_whispers {n b : Nat} {μ : Mu} {s : SD} {t : ST} (hv : SV s) (ht : RT μ s t) (hW : tW t < 8) (hb : b < sB s) (hn : 1000 < n) : ∃ μ', fX12_whispers n (nI b) μ = some (nI (tW t), μ') ∧ RT μ' s (whisS t b) ∧ Fg PR μ μ' := by
  have a3 : rI μ 140 67 = nI (tW t) := ht.2.2.2.1
  generalize hm : wI (wI (wI (wI μ 140 67 (nI (tW t + 1))) 140 (76 + tW t) (shl 1 (nI b))) 140 (84 + tW t) 0) 140 (92 + tW t) 0 = m0
  have key : Rn (lp n (sX12_whispers_53 n (nI (tW t))) (0, m0)) (fun q => (∀ k, k < 10 → rI q 140 (100 + 10 * tW t + k) = 0) ∧ Fg (fun a i => a = 140 ∧ 100 + 10 * tW t ≤ i ∧ i < 110 + 10 * tW t) m0 q) := by
    refine Rn.l 10 (fun i q => q.1 = nI i ∧ (∀ k, k < i → rI q.2 140 (100 + 10 * tW t + k) = 0) ∧ Fg (fun a i => a = 140 ∧ 100 + 10 * tW t ≤ i ∧ i < 110 + 10 * tW t) m0 q.2) _ (by omega) ⟨rfl, fun k hk => absurd hk (Nat.not_lt_zero _), Fg.rfl' _ _⟩ ?_ ?_
    · rintro i ⟨x, q⟩ hi ⟨e1, e2, e3⟩
      have e1 : x = nI i := e1
      subst e1
      have e2 : ∀ k, k < i → rI q 140 (100 + 10 * tW t + k) = 0 := e2
      simp (disch := first | omega | decide) only [sX12_whispers_53, gd_true, bnd_some, bnd2_some, ix_n, ib_n, add_l, add_r, mul_l, mul_r, nI_add, sub_r, nI_leI, nI_ltI, nI_eq, le_l, le_r, lt_l, lt_r, eq_l, eq_r, eq_m, if_true, if_false, not_false_eq_true, not_true_eq_false, show ¬ 10 ≤ i by omega]
      refine Rn.so ⟨rfl, fun k hk => ?_, e3.w ⟨rfl, by omega, by omega⟩ _⟩
      show rI (wI q 140 (100 + 10 * tW t + i) 0) 140 (100 + 10 * tW t + k) = 0
      by_cases e : k = i
      · rw [e, rI_same]
      · rw [rI_ii (by omega)]; exact e2 k (by omega)
    · rintro ⟨x, q⟩ ⟨e1, e2, e3⟩
      have e1 : x = nI 10 := e1
      subst e1
      exact Rn.e rfl ⟨e2, e3⟩
  obtain ⟨q, h1, h2, h3⟩ := key
  have f0 : Fg PR μ m0 := by
    rw [← hm]
    refine ((((Fg.rfl' _ _).w ?_ _).w ?_ _).w ?_ _).w ?_ _ <;> exact Or.inl ⟨rfl, by omega, by omega⟩
  refine ⟨q, ?_, ?_, ?_⟩
  · unfold fX12_whispers
    simp (disch := first | omega | decide) only [a3, gd_true, bnd_some, bnd2_some, ix_n, ib_n, add_l, add_r, mul_l, mul_r, nI_add, sub_r, nI_leI, nI_ltI, nI_eq, le_l, le_r, lt_l, lt_r, eq_l, eq_r, eq_m, if_true, if_false, not_false_eq_true, not_true_eq_false, hm, h1]
  · refine RB_whis ht hv hW hb ?_ ?_ ?_ ?_ (fun c hc => ?_) (fun j h4 h5 h6 h7 h8 h9 => ?_)
    · show rI q 140 67 = _
      rw [h3.i (by omega), ← hm, rI_ii (by omega), rI_ii (by omega), rI_ii (by omega), rI_same]
    · show rI q 140 (64 + (12 + tW t)) = _
      rw [h3.i (by omega), ← hm, rI_ii (by omega), rI_ii (by omega), show 64 + (12 + tW t) = 76 + tW t by omega, rI_same]
    · show rI q 140 (64 + (20 + tW t)) = _
      rw [h3.i (by omega), ← hm, rI_ii (by omega), show 64 + (20 + tW t) = 84 + tW t by omega, rI_same]
    · show rI q 140 (64 + (28 + tW t)) = _
      rw [h3.i (by omega), ← hm, show 64 + (28 + tW t) = 92 + tW t by omega, rI_same]
    · show rI q 140 (64 + (36 + 10 * tW t + c)) = _
      rw [show 64 + (36 + 10 * tW t + c) = 100 + 10 * tW t + c by omega]; exact h2 c hc
    · show rI q 140 (64 + j) = rI μ 140 (64 + j)
      rw [h3.i (by omega), ← hm, rI_ii (by omega), rI_ii (by omega), rI_ii (by omega), rI_ii (by omega)]
  · refine f0.tr (h3.mono fun x i hq => Or.inl ⟨hq.1, by omega, by omega⟩)
theorem w64 {n j a b : Nat} {μ : Mu} (hj : j < 2147483648) (ha : a < 2147483648) (hb : b < 2147483648) : fX12_within n (nI j).toInt64 (nI a).toInt64 (nI b).toInt64 μ = some (if a ≤ j ∧ j ≤ b then 1 else 0) := by
  rw [f_within]
  simp only [l_le, nI_leI (show a < 2 ^ 31 by omega) (show j < 2 ^ 31 by omega), nI_leI (show j < 2 ^ 31 by omega) (show b < 2 ^ 31 by omega), decide_eq_true_eq]
theorem i64_sub_n {j k : Nat} (hj : j < 2147483648) (hk : k ≤ j) : (nI j).toInt64 - (nI k).toInt64 = (nI (j - k)).toInt64 := by
  refine Int64.toInt_inj.mp ?_
  rw [i64_sub, nI_toInt (by omega), nI_toInt (by omega), nI64_toInt (by omega)]
  omega
theorem i64_div_n {j k : Nat} (hj : j < 2147483648) (hk : k < 2147483648) : jdivl (nI j).toInt64 (nI k).toInt64 = (nI (j / k)).toInt64 := by
  unfold jdivl
  refine Int64.toInt_inj.mp ?_
  have hd : j / k ≤ j := Nat.div_le_self _ _
  rw [Int64.toInt_div, nI64_toInt hj, nI64_toInt hk, nI64_toInt (by omega)]
  rw [← Int.ofNat_tdiv]
  generalize j / k = q at hd
  exact Int.bmod_eq_of_le (by omega) (by omega)
theorem i64_mul_n {j k : Nat} (h : j * k < 2147483648) (hj : j < 2147483648) (hk : k < 2147483648) : (nI j).toInt64 * (nI k).toInt64 = (nI (j * k)).toInt64 := by
  refine Int64.toInt_inj.mp ?_
  rw [i64_mul, nI_toInt (by omega), nI_toInt (by omega), nI64_toInt h]
  push_cast; rfl
theorem i64_rem_n {j k : Nat} (hj : j < 2147483648) (hk : k < 2147483648) : jreml (nI j).toInt64 (nI k).toInt64 = (nI (j % k)).toInt64 := by
  unfold jreml
  have hd : j / k * k ≤ j := Nat.div_mul_le_self _ _
  have e := i64_div_n hj hk
  unfold jdivl at e
  have hd2 : j / k ≤ j := Nat.div_le_self _ _
  rw [e, i64_mul_n (by omega) (by omega) hk, i64_sub_n hj hd]
  congr 2
  have := Nat.mod_add_div j k
  rw [Nat.mul_comm] at this
  omega
theorem f_whyWhisper {n j : Nat} {μ : Mu} {s : SD} {t : ST} (hs : RS μ s) (hv : SV s) (ht : RT μ s t) (hV : TV s t) (hj : j < 2147483648) : fX12_whyWhisper n (nI j).toInt64 μ = some (nI (if j < sB s then (if tW t = 8 then 2 else 0) else 1)) := by
  have hB := hv.1.2
  have hW := hV.2.1
  have a3 : rI μ 140 67 = nI (tW t) := ht.2.2.2.1
  unfold fX12_whyWhisper
  rw [f_isBeach hs.2.1 (by omega), bnd_some, okN_n (by omega) (by omega)]
  by_cases c : j < sB s
  · by_cases c2 : tW t = 8
    · simp (disch := first | omega | decide) only [c, decide_true, gd_true, bnd_some, bnd2_some, ix_n, ib_n, add_l, add_r, mul_l, mul_r, nI_add, sub_r, nI_leI, nI_ltI, nI_eq, le_l, le_r, lt_l, lt_r, eq_l, eq_r, eq_m, if_true, if_false, not_false_eq_true, not_true_eq_false, a3, c2]; rfl
    · simp (disch := first | omega | decide) only [c, decide_true, gd_true, bnd_some, bnd2_some, ix_n, ib_n, add_l, add_r, mul_l, mul_r, nI_add, sub_r, nI_leI, nI_ltI, nI_eq, le_l, le_r, lt_l, lt_r, eq_l, eq_r, eq_m, if_true, if_false, not_false_eq_true, not_true_eq_false, a3, c2]; rfl
  · simp only [c, decide_false, if_false]; rfl
theorem f_whyLay {n j : Nat} {μ : Mu} {s : SD} {t : ST} (hs : RS μ s) (hv : SV s) (ht : RT μ s t) (hV : TV s t) (hj : j < 2147483648) : fX12_whyLay n (nI j).toInt64 μ = some (nI (if j < sS s then (if tHo t j = 6 then 2 else 0) else 1)) := by
  have hS := hv.2.2.2.1
  have hP := hv.2.2.1
  unfold fX12_whyLay
  rw [f_isShell hs.2.2.2.2.1 (by omega), bnd_some, okN_n (by omega) (by omega)]
  by_cases c : j < sS s
  · have hl : rI μ 140 (68 + j) = e6 (tHo t j) := by
      have := ht.2.2.2.2.1 j c
      rw [show 68 + j = 64 + (4 + j) by omega]; exact this
    have hle : tHo t j ≤ 6 := by rcases hV.2.2.1 _ c with h | h <;> omega
    have e6' := e6_m1 (x := tHo t j) (by omega)
    by_cases c2 : tHo t j = 6
    · simp (disch := first | omega | decide) only [c, decide_true, nI64_to32, gd_true, bnd_some, bnd2_some, ix_n, ib_n, add_l, add_r, mul_l, mul_r, nI_add, sub_r, nI_leI, nI_ltI, nI_eq, le_l, le_r, lt_l, lt_r, eq_l, eq_r, eq_m, if_true, if_false, not_false_eq_true, not_true_eq_false, hl, e6'.mpr c2, c2]; rfl
    · simp (disch := first | omega | decide) only [c, decide_true, nI64_to32, gd_true, bnd_some, bnd2_some, ix_n, ib_n, add_l, add_r, mul_l, mul_r, nI_add, sub_r, nI_leI, nI_ltI, nI_eq, le_l, le_r, lt_l, lt_r, eq_l, eq_r, eq_m, if_true, if_false, not_false_eq_true, not_true_eq_false, hl, show ¬ e6 (tHo t j) = -1 from fun q => c2 (e6'.mp q), c2]; rfl
  · simp only [c, decide_false, if_false]; rfl
theorem okN_64 {j N : Nat} (hj : j < 2147483648) (hN : N < 2147483648) : okN (nI j) N = decide (j < N) := okN_n (by omega) (by omega)
set_option maxHeartbeats 1000000 in
theorem f_whyNot {n : Nat} {v : Int64} {μ : Mu} {s : SD} {t : ST} (hs : RS μ s) (hv : SV s) (ht : RT μ s t) (hV : TV s t) : fX12_whyNot n v μ = some (nI (whyV s t v)) := by
  have hS := hv.2.2.2.1
  have hP := hv.2.2.1
  have em1 : lg_cmp v (-1) = 0 ↔ v = -1 := lgc_eq _ _
  unfold fX12_whyNot
  rcases v_cases v with rfl | ⟨c1, c2⟩ | ⟨j, hj, rfl⟩
  · rw [if_pos (by decide)]; rfl
  · have w1 : whyV s t v = 1 := by unfold whyV; rw [if_neg c1, if_neg c2]
    have out : ∀ a b : Int64, 0 ≤ a → b < 2100 → fX12_within n v a b μ = some 0 := by
      intro a b h1 h2
      rw [f_within, if_neg]
      intro q
      obtain ⟨q1, q2⟩ := of_decide_eq_true q
      refine c2 ?_
      simp only [Int64.le_iff_toInt_le, Int64.lt_iff_toInt_lt] at h1 h2 q1 q2 ⊢
      omega
    rw [if_neg (fun e => c1 (em1.mp e)), out 0 99 (by decide) (by decide), bnd_some, if_pos rfl, out 100 899 (by decide) (by decide), bnd_some, if_pos rfl, out 1000 1099 (by decide) (by decide), bnd_some, if_pos rfl, out 2000 2099 (by decide) (by decide), bnd_some, if_pos rfl, w1]
    rfl
  · have hne := nI64_m1 (j := j) (by omega)
    have W : ∀ a b : Nat, a < 2147483648 → b < 2147483648 → fX12_within n (nI j).toInt64 (nI a).toInt64 (nI b).toInt64 μ = some (if a ≤ j ∧ j ≤ b then 1 else 0) := fun a b h1 h2 => w64 (by omega) h1 h2
    have W1 := W 0 99 (by omega) (by omega)
    have W2 := W 100 899 (by omega) (by omega)
    have W3 := W 1000 1099 (by omega) (by omega)
    have W4 := W 2000 2099 (by omega) (by omega)
    have W1 : fX12_within n (nI j).toInt64 0 99 μ = _ := W1
    have W2 : fX12_within n (nI j).toInt64 100 899 μ = _ := W2
    have W3 : fX12_within n (nI j).toInt64 1000 1099 μ = _ := W3
    have W4 : fX12_within n (nI j).toInt64 2000 2099 μ = _ := W4
    rw [if_neg (fun e => hne (em1.mp e)), whyV_j hj, W1, bnd_some]
    unfold whyN
    by_cases b1 : j < 100
    · rw [if_pos (show 0 ≤ j ∧ j ≤ 99 by omega), if_neg (by decide), f_whyWhisper hs hv ht hV (by omega), bnd_some, if_pos b1]
    rw [if_neg (show ¬ (0 ≤ j ∧ j ≤ 99) by omega), if_pos rfl, W2, bnd_some, if_neg b1]
    by_cases b2 : j < 900
    · have e1 : jdivl ((nI j).toInt64 - 100) 100 = (nI ((j - 100) / 100)).toInt64 := by
        have z := i64_sub_n (j := j) (k := 100) (by omega) (by omega)
        have z : (nI j).toInt64 - 100 = (nI (j - 100)).toInt64 := z
        rw [z]
        exact i64_div_n (k := 100) (by omega) (by omega)
      have e2 : jreml (nI j).toInt64 100 = (nI (j % 100)).toInt64 := i64_rem_n (k := 100) (by omega) (by omega)
      rw [if_pos (show 100 ≤ j ∧ j ≤ 899 by omega), if_neg (by decide), if_pos b2, e1, e2, f_isShell hs.2.2.2.2.1 (by omega), bnd_some, okN_64 (by omega) (by omega), f_isPerson hs.2.2.2.1 (by omega), okN_64 (by omega) (by omega), bnd_some]
      by_cases c1 : (j - 100) / 100 < sS s
      · by_cases c2 : j % 100 < sP s
        · simp only [c1, c2, decide_true, if_true]; rfl
        · simp only [c1, c2, decide_true, decide_false, if_true]; rfl
      · simp only [c1, decide_false, if_false]; rfl
    rw [if_neg (show ¬ (100 ≤ j ∧ j ≤ 899) by omega), if_pos rfl, W3, bnd_some, if_neg b2]
    by_cases b3 : j < 1000
    · rw [if_neg (show ¬ (1000 ≤ j ∧ j ≤ 1099) by omega), if_pos rfl, W4, bnd_some, if_neg (show ¬ (2000 ≤ j ∧ j ≤ 2099) by omega), if_pos rfl, if_pos b3]; rfl
    rw [if_neg b3]
    by_cases b4 : j < 1100
    · have z := i64_sub_n (j := j) (k := 1000) (by omega) (by omega)
      have z : (nI j).toInt64 - 1000 = (nI (j - 1000)).toInt64 := z
      rw [if_pos (show 1000 ≤ j ∧ j ≤ 1099 by omega), if_neg (by decide), if_pos b4, z, f_whyLay hs hv ht hV (by omega), bnd_some]
    rw [if_neg (show ¬ (1000 ≤ j ∧ j ≤ 1099) by omega), if_pos rfl, W4, bnd_some, if_neg b4]
    by_cases b5 : j < 2000
    · rw [if_neg (show ¬ (2000 ≤ j ∧ j ≤ 2099) by omega), if_pos rfl, if_pos b5]; rfl
    rw [if_pos (show 2000 ≤ j ∧ j ≤ 2099 by omega), if_neg (by decide), if_neg b5]; rfl
theorem RB_give {s : SD} {t : ST} {g : Nat → Int32} (h : RB s t g) (hv : SV s) (hW : tW t ≤ 8) {k p : Nat} (hk : k < 8) : RB s (giveS t k p) (upd g (4 + k) (e6 p)) := by
  have hC := hv.2.1
  obtain ⟨h0, h1, h2, h3, h4, h5⟩ := h
  have u : ∀ j, j ≠ 4 + k → upd g (4 + k) (e6 p) j = g j := fun j hj => by unfold upd; simp [hj]
  refine ⟨by rw [u _ (by omega)]; exact h0, by rw [u _ (by omega)]; exact h1, by rw [u _ (by omega)]; exact h2, by rw [u _ (by omega)]; exact h3, fun q hq => ?_, fun w hw => ?_⟩
  · show _ = e6 (if q = k then p else tHo t q)
    by_cases e : q = k
    · rw [if_pos e, e]; unfold upd; simp
    · rw [if_neg e, u _ (by omega)]; exact h4 q hq
  · have hw : w < tW t := hw
    obtain ⟨x1, x2, x3, x4⟩ := h5 w hw
    exact ⟨by rw [u _ (by omega)]; exact x1, by rw [u _ (by omega)]; exact x2, by rw [u _ (by omega)]; exact x3, fun c hc => by rw [u _ (by omega)]; exact x4 c hc⟩
theorem RT_give {m : Mu} {s : SD} {t : ST} (h : RT m s t) (hv : SV s) (hW : tW t ≤ 8) {k p : Nat} (hk : k < 8) : RT (wI m 140 (68 + k) (e6 p)) s (giveS t k p) := by
  unfold RT
  rw [RT_w (by omega), show 68 + k - 64 = 4 + k by omega]
  exact RB_give h hv hW hk
theorem RT_seed {m : Mu} {s : SD} {t : ST} (h : RT m s t) (x : Int32) : RT (wI m 140 66 x) s (seedS t x) := by
  obtain ⟨h0, h1, h2, h3, h4, h5⟩ := h
  have u : ∀ j, j ≠ 2 → rI (wI m 140 66 x) 140 (64 + j) = rI m 140 (64 + j) := fun j hj => by rw [rI_ii (by omega)]
  refine ⟨(u 0 (by omega)).trans h0, (u 1 (by omega)).trans h1, rI_same _ _ _ _, (u 3 (by omega)).trans h3, fun q hq => (u _ (by omega)).trans (h4 q hq), fun w hw => ?_⟩
  obtain ⟨x1, x2, x3, x4⟩ := h5 w hw
  refine ⟨?_, ?_, ?_, fun c hc => (u _ (by omega)).trans (x4 c hc)⟩
  · show bs (rI (wI m 140 66 x) 140 (64 + (12 + w))) _ _
    rw [u _ (by omega)]; exact x1
  · show bs (rI (wI m 140 66 x) 140 (64 + (20 + w))) _ _
    rw [u _ (by omega)]; exact x2
  · show bs (rI (wI m 140 66 x) 140 (64 + (28 + w))) _ _
    rw [u _ (by omega)]; exact x3
theorem f_does {n : Nat} {v : Int64} {μ : Mu} {s : SD} {t : ST} (hs : RS μ s) (hv : SV s) (ht : RT μ s t) (hV : TV s t) (hx : rI μ 139 19 = 0) (hh : tH t < 100000000) (hn : 1000 < n) (hw : whyV s t v = 0) : ∃ μ', fX12_does n v.toInt32 μ = some μ' ∧ RT μ' s (doV s t v) ∧ Fg PR μ μ' := by
  have hS := hv.2.2.2.1
  have hP := hv.2.2.1
  have hW := hV.2.1
  rcases v_cases v with rfl | ⟨c1, c2⟩ | ⟨j, hj, rfl⟩
  · obtain ⟨m', g1, g2, g3⟩ := f_goesHour (n := n) (x := no) hs hv hV (by rw [hx]; exact bs_0 10) hh hn ht
    refine ⟨m', ?_, g2, g3.fg⟩
    unfold fX12_does
    rw [if_pos (by decide), g1, bnd2_some]
  · unfold whyV at hw; rw [if_neg c1, if_neg c2] at hw; cases hw
  · rw [whyV_j hj] at hw
    rw [doV_j hj]
    unfold whyN at hw
    unfold doN fX12_does
    simp (disch := first | omega | decide) only [nI64_to32, gd_true, bnd_some, bnd2_some, ix_n, ib_n, add_l, add_r, mul_l, mul_r, nI_add, sub_r, nI_leI, nI_ltI, nI_eq, le_l, le_r, lt_l, lt_r, eq_l, eq_r, eq_m, if_true, if_false, not_false_eq_true, not_true_eq_false, jdiv_l, jrem_l]
    have pr : ∀ i, 64 ≤ i → i < 180 → PR 140 i := fun i h1 h2 => Or.inl ⟨rfl, h1, h2⟩
    by_cases b1 : j < 100
    · rw [if_pos b1] at hw
      simp only [b1, show ¬ 100 ≤ j by omega, if_true, if_false]
      by_cases b2 : j < sB s
      · rw [if_pos b2] at hw
        by_cases b3 : tW t = 8
        · rw [if_pos b3] at hw; cases hw
        · obtain ⟨m', g1, g2, g3⟩ := f_whispers (n := n) (b := j) hv ht (by omega) b2 hn
          exact ⟨m', by rw [g1, bnd2_some], g2, g3⟩
      · rw [if_neg b2] at hw; cases hw
    · rw [if_neg b1] at hw
      simp only [b1, show 100 ≤ j by omega, if_true, if_false]
      by_cases b2 : j < 900
      · rw [if_pos b2] at hw
        by_cases c1 : (j - 100) / 100 < sS s
        · rw [if_pos c1] at hw
          by_cases c2 : j % 100 < sP s
          · simp (disch := first | omega | decide) only [b2, show ¬ 1000 ≤ j by omega, gd_true, bnd_some, bnd2_some, ix_n, ib_n, add_l, add_r, mul_l, mul_r, nI_add, sub_r, nI_leI, nI_ltI, nI_eq, le_l, le_r, lt_l, lt_r, eq_l, eq_r, eq_m, if_true, if_false, not_false_eq_true, not_true_eq_false]
            have e6e : e6 (j % 100) = nI (j % 100) := by unfold e6; rw [if_neg (by omega)]
            refine ⟨_, rfl, ?_, (Fg.rfl' _ _).w (pr _ (by omega) (by omega)) _⟩
            rw [← e6e]
            exact RT_give ht hv hW (by omega)
          · rw [if_neg c2] at hw; cases hw
        · rw [if_neg c1] at hw; cases hw
      · rw [if_neg b2] at hw
        by_cases b3 : j < 1000
        · rw [if_pos b3] at hw; cases hw
        · rw [if_neg b3] at hw
          by_cases b4 : j < 1100
          · rw [if_pos b4] at hw
            by_cases c1 : j - 1000 < sS s
            · simp (disch := first | omega | decide) only [b2, b4, show 1000 ≤ j by omega, show ¬ 2000 ≤ j by omega, gd_true, bnd_some, bnd2_some, ix_n, ib_n, add_l, add_r, mul_l, mul_r, nI_add, sub_r, nI_leI, nI_ltI, nI_eq, le_l, le_r, lt_l, lt_r, eq_l, eq_r, eq_m, if_true, if_false, not_false_eq_true, not_true_eq_false, show 68 + j - 1000 = 68 + (j - 1000) by omega]
              exact ⟨_, rfl, RT_give (p := 6) ht hv hW (by omega), (Fg.rfl' _ _).w (pr _ (by omega) (by omega)) _⟩
            · rw [if_neg c1] at hw; cases hw
          · rw [if_neg b4] at hw
            by_cases b5 : j < 2000
            · rw [if_pos b5] at hw; cases hw
            · simp (disch := first | omega | decide) only [b2, b4, show 1000 ≤ j by omega, show 2000 ≤ j by omega, gd_true, bnd_some, bnd2_some, ix_n, ib_n, add_l, add_r, mul_l, mul_r, nI_add, sub_r, nI_leI, nI_ltI, nI_eq, le_l, le_r, lt_l, lt_r, eq_l, eq_r, eq_m, if_true, if_false, not_false_eq_true, not_true_eq_false]
              exact ⟨_, rfl, RT_gale ht hv hV _, (Fg.rfl' _ _).w (pr _ (by omega) (by omega)) _⟩
