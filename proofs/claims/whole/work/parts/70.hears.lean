/-! who hears whom -/
/-- p hears q -/
def heS (s : SD) (ho : Nat → Nat) (p q : Nat) : Bool := (decide (p ≠ q) && decide (s 5 p = 0)) && (decide (s 4 q ≠ 6) && audS s ho p (s 4 q))
theorem f_hearable {n a p : Nat} {μ : Mu} {s : SD} {t : ST} (hs : CS μ 2 s) (hv : SV s) (ht : CB μ a s t) (hV : TV s t) (hp : p < sP s) (hn : 10 < n) : ∃ r, fX8_hearable n a 2 (nI p) μ = some r ∧ bs r (sP s) (heS s (tHo t) p) := by
  have hP := hv.2.2.1
  have hB := hv.1.2
  have a2 : rI μ 2 2 = nI (sP s) := hs.2.2.1
  have o2 : bt (rI μ 2 7) p = decide (s 5 p = 1) := bs_at hs.2.2.2.2.2.2.2.1 hp (by omega)
  have v5 := (hv.2.2.2.2.2.1 p hp).2
  unfold fX8_hearable
  simp (disch := first | omega | decide) only [b_test, o2, t01]
  by_cases c : s 5 p = 1
  · rw [if_pos (decide_eq_true c)]
    refine ⟨0, rfl, bs_congr (bs_0 _) fun q _ => ?_⟩
    unfold heS; simp [c]
  · rw [if_neg (by simpa using c)]
    have c0 : s 5 p = 0 := by omega
    obtain ⟨au, g1, g2⟩ := f_audible (n := n) (a := a) hs hv ht hV hp hn
    obtain ⟨r, h1, h2⟩ := lp_set (step := sX8_hearable_27 n a 2 (nI p) au μ) (K := sP s) (n := n) (f := heS s (tHo t) p) (by omega) (by omega) (fun i x hi => by
      have o1 : rI μ 6 i = e6 (s 4 i) := hs.2.2.2.2.2.2.2.2.2.1 i hi
      have v1 := (hv.2.2.2.2.2.1 i hi).1
      by_cases e : i = p
      · have hf : ¬ heS s (tHo t) p i = true := by unfold heS; simp [e]
        subst e
        simp (disch := first | omega | decide) only [sX8_hearable_27, gd_true, bnd_some, bnd2_some, ix_n, ib_n, add_l, add_r, mul_l, mul_r, nI_add, sub_r, nI_leI, nI_ltI, nI_eq, le_l, le_r, lt_l, lt_r, eq_l, eq_r, eq_m, if_true, if_false, not_false_eq_true, not_true_eq_false, a2, show ¬ sP s ≤ i by omega, hf]
        simp
      · by_cases e2 : s 4 i = 6
        · have hf : ¬ heS s (tHo t) p i = true := by unfold heS; simp [e2]
          simp (disch := first | omega | decide) only [sX8_hearable_27, gd_true, bnd_some, bnd2_some, ix_n, ib_n, add_l, add_r, mul_l, mul_r, nI_add, sub_r, nI_leI, nI_ltI, nI_eq, le_l, le_r, lt_l, lt_r, eq_l, eq_r, eq_m, if_true, if_false, not_false_eq_true, not_true_eq_false, a2, show ¬ sP s ≤ i by omega, e, o1, (e6_m1 (show s 4 i < 2 ^ 31 by omega)).mpr e2, hf]
          simp
        · have e3 : e6 (s 4 i) = nI (s 4 i) := by unfold e6; rw [if_neg e2]
          have z : bt au (s 4 i) = audS s (tHo t) p (s 4 i) := bs_at g2 (by omega) (by omega)
          have hf : heS s (tHo t) p i = audS s (tHo t) p (s 4 i) := by unfold heS; simp [e2, c0, show p ≠ i from fun q => e q.symm]
          simp (disch := first | omega | decide) only [sX8_hearable_27, gd_true, bnd_some, bnd2_some, ix_n, ib_n, add_l, add_r, mul_l, mul_r, nI_add, sub_r, nI_leI, nI_ltI, nI_eq, le_l, le_r, lt_l, lt_r, eq_l, eq_r, eq_m, if_true, if_false, not_false_eq_true, not_true_eq_false, a2, show ¬ sP s ≤ i by omega, e, o1, e3, b_test, z, t01, hf]
          split <;> rfl) (fun x => ite_le a2)
    exact ⟨r, by rw [g1, bnd_some, h1, bnd_some], h2⟩
theorem f_isHeard {n p q : Nat} {μ : Mu} {s : SD} {t : ST} (hs : RS μ s) (hv : SV s) (ht : RT μ s t) (hV : TV s t) (hp : p < sP s) (hq : q < sP s) (hn : 10 < n) : fX12_isHeard n (nI q) (nI p) μ = some (if heS s (tHo t) p q = true then 1 else 0) := by
  have hP := hv.2.2.1
  have hB := hv.1.2
  obtain ⟨-, o2⟩ := hs.2.2.2.2.2.2.2.1 p hp
  obtain ⟨o1, -⟩ := hs.2.2.2.2.2.2.2.1 q hq
  obtain ⟨v1, -⟩ := hv.2.2.2.2.2.1 q hq
  have v5 := (hv.2.2.2.2.2.1 p hp).2
  unfold fX12_isHeard
  by_cases e : q = p
  · have hf : ¬ heS s (tHo t) p q = true := by unfold heS; simp [e]
    rw [if_neg hf, if_pos (by rw [e])]
  · rw [if_neg (fun z => e ((nI_eq (by omega) (by omega)).mp z))]
    simp (disch := first | omega | decide) only [gd_true, bnd_some, bnd2_some, ix_n, ib_n, add_l, add_r, mul_l, mul_r, nI_add, sub_r, nI_leI, nI_ltI, nI_eq, le_l, le_r, lt_l, lt_r, eq_l, eq_r, eq_m, if_true, if_false, not_false_eq_true, not_true_eq_false, o2, nI_z]
    by_cases c0 : s 5 p = 0
    · rw [if_pos c0]
      simp (disch := first | omega | decide) only [gd_true, bnd_some, bnd2_some, ix_n, ib_n, add_l, add_r, mul_l, mul_r, nI_add, sub_r, nI_leI, nI_ltI, nI_eq, le_l, le_r, lt_l, lt_r, eq_l, eq_r, eq_m, if_true, if_false, not_false_eq_true, not_true_eq_false, o1]
      by_cases e2 : s 4 q = 6
      · have hf : ¬ heS s (tHo t) p q = true := by unfold heS; simp [e2]
        rw [if_pos ((e6_m1 (by omega)).mpr e2), if_neg hf]
      · have e3 : e6 (s 4 q) = nI (s 4 q) := by unfold e6; rw [if_neg e2]
        obtain ⟨au, g1, g2⟩ := f_hearsAt (n := n) hs hv ht hV hp hn
        have z : bt au (s 4 q) = audS s (tHo t) p (s 4 q) := bs_at g2 (by omega) (by omega)
        have hf : heS s (tHo t) p q = audS s (tHo t) p (s 4 q) := by unfold heS; simp [e2, c0, show p ≠ q from fun z => e z.symm]
        rw [if_neg (fun z => e2 ((e6_m1 (by omega)).mp z)), g1, bnd_some, e3, f_isIn μ (by omega), bnd_some, z, hf, ifb]
        split <;> rfl
    · rw [if_neg c0]
      have hf : ¬ heS s (tHo t) p q = true := by unfold heS; simp [c0]
      rw [if_neg hf]
def mutN (s : SD) (ho : Nat → Nat) : Nat := sumN (fun p => cnt (fun q => heS s ho p q && heS s ho q p) p) (sP s)
theorem sum_le {f : Nat → Nat} {B : Nat} : ∀ {n : Nat}, (∀ i, i < n → f i ≤ B) → sumN f n ≤ n * B
  | 0, _ => by simp [sumN]
  | n + 1, h => by
    have h1 := sum_le (n := n) fun i hi => h i (by omega)
    have h2 := h n (by omega)
    unfold sumN
    rw [Nat.add_mul]; omega
theorem mutN_le {s : SD} (hv : SV s) (ho : Nat → Nat) : mutN s ho ≤ 36 := by
  have hP := hv.2.2.1
  have h1 := sum_le (f := fun p => cnt (fun q => heS s ho p q && heS s ho q p) p) (B := 6) (n := sP s) (fun i hi => Nat.le_trans (cnt_le _ _) (by omega))
  unfold mutN
  have : sP s * 6 ≤ 36 := by omega
  omega
theorem f_mutual8 {n a : Nat} {μ : Mu} {s : SD} {t : ST} (hs : CS μ 2 s) (hv : SV s) (ht : CB μ a s t) (hV : TV s t) (hn : 10 < n) : fX8_mutualTwos n a 2 μ = some (nI (mutN s (tHo t))) := by
  have hP := hv.2.2.1
  have a2 : rI μ 2 2 = nI (sP s) := hs.2.2.1
  have key : lp n (sX8_mutualTwos_4 n a 2 μ) (0, 0) = some (nI (mutN s (tHo t))) := by
    refine lp_up (step := sX8_mutualTwos_4 n a 2 μ) (sP s) (fun p => (nI (sumN (fun p => cnt (fun q => heS s (tHo t) p q && heS s (tHo t) q p) p) p), nI p)) _ (fun p hp => ?_) (ite_le a2) (n := n) (by omega)
    obtain ⟨r, h1, h2⟩ := f_hearable (n := n) (a := a) hs hv ht hV hp hn
    have inner : lp n (sX8_mutualTwos_23 n a 2 (nI p) r μ) (nI (sumN (fun p => cnt (fun q => heS s (tHo t) p q && heS s (tHo t) q p) p) p), 0) = some (nI (sumN (fun p => cnt (fun q => heS s (tHo t) p q && heS s (tHo t) q p) p) p + cnt (fun q => heS s (tHo t) p q && heS s (tHo t) q p) p)) := by
      refine lp_up (step := sX8_mutualTwos_23 n a 2 (nI p) r μ) p (fun q => (nI (sumN (fun p => cnt (fun q => heS s (tHo t) p q && heS s (tHo t) q p) p) p + cnt (fun q => heS s (tHo t) p q && heS s (tHo t) q p) q), nI q)) _ (fun q hq => ?_) (ite_le rfl) (n := n) (by omega)
      obtain ⟨r2, k1, k2⟩ := f_hearable (n := n) (a := a) (p := q) hs hv ht hV (by omega) hn
      have z : (bt r q && bt r2 p) = (heS s (tHo t) p q && heS s (tHo t) q p) := by rw [bs_at h2 (by omega) (by omega), bs_at k2 hp (by omega)]
      simp (disch := first | omega | decide) only [sX8_mutualTwos_23, gd_true, bnd_some, bnd2_some, ix_n, ib_n, add_l, add_r, mul_l, mul_r, nI_add, sub_r, nI_leI, nI_ltI, nI_eq, le_l, le_r, lt_l, lt_r, eq_l, eq_r, eq_m, if_true, if_false, not_false_eq_true, not_true_eq_false, show ¬ p ≤ q by omega, k1, b_test2, z, t01, cnt]
      split <;> simp only [Nat.add_assoc, Nat.add_zero]
    simp (disch := first | omega | decide) only [sX8_mutualTwos_4, gd_true, bnd_some, bnd2_some, ix_n, ib_n, add_l, add_r, mul_l, mul_r, nI_add, sub_r, nI_leI, nI_ltI, nI_eq, le_l, le_r, lt_l, lt_r, eq_l, eq_r, eq_m, if_true, if_false, not_false_eq_true, not_true_eq_false, a2, show ¬ sP s ≤ p by omega, h1]
    rw [inner, bnd_some]
    rfl
  unfold fX8_mutualTwos
  rw [key, bnd_some]
theorem f_mutual12 {n : Nat} {μ : Mu} {s : SD} {t : ST} (hs : RS μ s) (hv : SV s) (ht : RT μ s t) (hV : TV s t) (hn : 10 < n) : fX12_mutualMany n μ = some (nI (mutN s (tHo t))) := by
  have hP := hv.2.2.1
  have a2 : rI μ 140 3 = nI (sP s) := hs.2.2.2.1
  have key : lp n (sX12_mutualMany_4 n μ) (0, 0) = some (nI (mutN s (tHo t))) := by
    refine lp_up (step := sX12_mutualMany_4 n μ) (sP s) (fun p => (nI (sumN (fun p => cnt (fun q => heS s (tHo t) p q && heS s (tHo t) q p) p) p), nI p)) _ (fun p hp => ?_) (ite_le a2) (n := n) (by omega)
    have inner : lp n (sX12_mutualMany_16 n (nI p) μ) (nI (sumN (fun p => cnt (fun q => heS s (tHo t) p q && heS s (tHo t) q p) p) p), 0) = some (nI (sumN (fun p => cnt (fun q => heS s (tHo t) p q && heS s (tHo t) q p) p) p + cnt (fun q => heS s (tHo t) p q && heS s (tHo t) q p) p)) := by
      refine lp_up (step := sX12_mutualMany_16 n (nI p) μ) p (fun q => (nI (sumN (fun p => cnt (fun q => heS s (tHo t) p q && heS s (tHo t) q p) p) p + cnt (fun q => heS s (tHo t) p q && heS s (tHo t) q p) q), nI q)) _ (fun q hq => ?_) (ite_le rfl) (n := n) (by omega)
      have k1 := f_isHeard (n := n) (p := p) (q := q) hs hv ht hV hp (by omega) hn
      have k2 := f_isHeard (n := n) (p := q) (q := p) hs hv ht hV (by omega) hp hn
      have add0 : ∀ j, nI j + 0 = nI (j + 0) := fun j => nI_add j 0
      have add1 : ∀ j, nI j + 1 = nI (j + 1) := fun j => nI_add j 1
      simp (disch := first | omega | decide) only [sX12_mutualMany_16, jX12_mutualMany_44, jX12_mutualMany_45, gd_true, bnd_some, bnd2_some, ix_n, ib_n, add_l, add_r, mul_l, mul_r, nI_add, sub_r, nI_leI, nI_ltI, nI_eq, le_l, le_r, lt_l, lt_r, eq_l, eq_r, eq_m, if_true, if_false, not_false_eq_true, not_true_eq_false, show ¬ p ≤ q by omega, k1, k2, ifb, cnt]
      by_cases c1 : heS s (tHo t) p q = true <;> by_cases c2 : heS s (tHo t) q p = true <;> simp [c1, c2, add0, add1, Nat.add_assoc]
    simp (disch := first | omega | decide) only [sX12_mutualMany_4, gd_true, bnd_some, bnd2_some, ix_n, ib_n, add_l, add_r, mul_l, mul_r, nI_add, sub_r, nI_leI, nI_ltI, nI_eq, le_l, le_r, lt_l, lt_r, eq_l, eq_r, eq_m, if_true, if_false, not_false_eq_true, not_true_eq_false, a2, show ¬ sP s ≤ p by omega]
    rw [inner, bnd_some]
    rfl
  unfold fX12_mutualMany
  rw [key, bnd_some]
theorem m_mutual {n k : Nat} {sh : List Sh} {R : Rf} {μ : Mu} (hI : INV k sh R μ) (hk : k < 512) (hn : 5000 < n) : GO k sh R (bnd (fX11_mutual n μ) fun r => some (r, μ)) (fX12_mutual n) := by
  refine GO.q hI hk fun s t _ hp => ?_
  have hp0 := hp
  obtain ⟨c1, p2, c2, c3, p5, p6⟩ := hp
  refine ⟨nI (mutN s (tHo t)), μ, ?_, CQ.rfl' hp0, fun μ' h _ => ⟨wI μ' 139 0 0, ?_, RQ.th _⟩⟩
  · unfold fX11_mutual; rw [f_mutual8 c1 p2 c3 p5 (by omega), bnd_some, bnd_some]
  · have h' := h.q (RQ.th _)
    unfold fX12_mutual; rw [f_mutual12 h'.1 p2 h'.2.2.1 p5 (by omega), bnd_some]
theorem m_hears {n k : Nat} {sh : List Sh} {R : Rf} {μ : Mu} {x : Int32} (hI : INV k sh R μ) (hk : k < 512) (hn : 5000 < n) : GO k sh R (bnd (fX11_hears n x μ) fun r => some (r, μ)) (fX12_hears n x) := by
  refine GO.q hI hk fun s t _ hp => ?_
  have hp0 := hp
  obtain ⟨c1, p2, c2, c3, p5, p6⟩ := hp
  have hP := p2.2.2.1
  unfold fX11_hears fX12_hears
  rw [hp0.isP, bnd_some, ifb]
  by_cases c : okN x (sP s) = true
  · obtain ⟨p, hp, rfl⟩ := okN_of c (by omega)
    obtain ⟨r, h1, h2⟩ := f_hearable (n := n) (a := 34) c1 p2 c3 p5 hp (by omega)
    refine ⟨r, μ, by rw [if_pos c, h1, bnd_some, bnd_some], CQ.rfl' hp0, fun μ' h _ => ⟨wI μ' 139 0 0, ?_, RQ.th _⟩⟩
    have h' := h.q (RQ.th _)
    have a2 : rI (wI μ' 139 0 0) 140 3 = nI (sP s) := h'.1.2.2.2.1
    obtain ⟨r2, k1, k2⟩ := lp_set (step := sX12_hears_21 n (nI p) (wI μ' 139 0 0)) (K := sP s) (n := n) (f := heS s (tHo t) p) (by omega) (by omega) (fun i x hi => by
      have z := f_isHeard (n := n) (p := p) (q := i) h'.1 p2 h'.2.2.1 p5 hp hi (by omega)
      simp (disch := first | omega | decide) only [sX12_hears_21, gd_true, bnd_some, bnd2_some, ix_n, ib_n, add_l, add_r, mul_l, mul_r, nI_add, sub_r, nI_leI, nI_ltI, nI_eq, le_l, le_r, lt_l, lt_r, eq_l, eq_r, eq_m, if_true, if_false, not_false_eq_true, not_true_eq_false, a2, show ¬ sP s ≤ i by omega, z, ifb, or_ite]) (fun x => ite_le a2)
    rw [h'.isP, bnd_some, ifb, if_pos c, k1, bnd_some]
    show some (r2, _) = _
    rw [bs_eq k2 h2]
  · exact ⟨-2, μ, by rw [if_neg c, bnd_some], CQ.rfl' hp0, fun μ' h _ => ⟨_, by rw [(h.q (RQ.th _)).isP, bnd_some, ifb, if_neg c], RQ.th _⟩⟩
/-! passing on -/
def psS (s : SD) (ho : Nat → Nat) (K : Nat → Bool) : Nat → Bool := fun r => K r || anyB (fun k => heS s ho r k && K k) (sP s)
def psN (s : SD) (ho : Nat → Nat) (p : Nat) : Nat → Nat → Bool
  | 0 => fun i => decide (i = p)
  | k + 1 => psS s ho (psN s ho p k)
theorem psS_congr {s : SD} {ho : Nat → Nat} {K K' : Nat → Bool} (h : ∀ i, i < sP s → K i = K' i) : ∀ i, i < sP s → psS s ho K i = psS s ho K' i := fun i hi => by
  unfold psS; rw [h i hi, anyB_congr fun k hk => by rw [h k hk]]
theorem cnt_mono {f g : Nat → Bool} : ∀ {n : Nat}, (∀ i, i < n → f i = true → g i = true) → cnt f n ≤ cnt g n
  | 0, _ => Nat.le_refl _
  | n + 1, h => by
    have ih := cnt_mono (n := n) fun i hi => h i (by omega)
    unfold cnt
    by_cases c : f n = true
    · rw [if_pos c, if_pos (h n (by omega) c)]; omega
    · rw [if_neg c]; omega
theorem cnt_lt {f g : Nat → Bool} : ∀ {n : Nat}, (∀ i, i < n → f i = true → g i = true) → (∃ i, i < n ∧ g i = true ∧ f i = false) → cnt f n < cnt g n
  | 0, _, ⟨i, hi, _⟩ => absurd hi (Nat.not_lt_zero _)
  | n + 1, h, ⟨i, hi, h1, h2⟩ => by
    have ih := cnt_mono (n := n) fun i hi => h i (by omega)
    unfold cnt
    by_cases e : i = n
    · subst e
      rw [if_pos h1, if_neg (by rw [h2]; decide)]; omega
    · have ih2 := cnt_lt (n := n) (fun i hi => h i (by omega)) ⟨i, by omega, h1, h2⟩
      by_cases c : f n = true
      · rw [if_pos c, if_pos (h n (by omega) c)]; omega
      · rw [if_neg c]; omega
theorem ps_mono {s : SD} {ho : Nat → Nat} {p k i : Nat} (h : psN s ho p k i = true) : psN s ho p (k + 1) i = true := by
  show (psN s ho p k i || _) = true
  rw [h]; rfl
def psSt (s : SD) (ho : Nat → Nat) (p j : Nat) : Prop := ∀ i, i < sP s → psN s ho p (j + 1) i = psN s ho p j i
theorem psSt_all {s : SD} {ho : Nat → Nat} {p j : Nat} (h : psSt s ho p j) : ∀ d i, i < sP s → psN s ho p (j + d) i = psN s ho p j i
  | 0, _, _ => rfl
  | d + 1, i, hi => by
    show psS s ho (psN s ho p (j + d)) i = _
    rw [psS_congr (psSt_all h d) i hi]
    exact h i hi
theorem ps_or {s : SD} {ho : Nat → Nat} {p : Nat} (hp : p < sP s) : ∀ k, (∃ j, j ≤ k ∧ psSt s ho p j) ∨ k + 1 ≤ cnt (psN s ho p k) (sP s)
  | 0 => by
    right
    have : cnt (fun _ => false) (sP s) < cnt (psN s ho p 0) (sP s) := cnt_lt (fun i _ h => by cases h) ⟨p, hp, decide_eq_true rfl, rfl⟩
    omega
  | k + 1 => by
    rcases ps_or hp k with ⟨j, h1, h2⟩ | h
    · exact Or.inl ⟨j, by omega, h2⟩
    · by_cases c : psSt s ho p k
      · exact Or.inl ⟨k, by omega, c⟩
      · right
        have : ∃ i, i < sP s ∧ psN s ho p (k + 1) i = true ∧ psN s ho p k i = false := by
          refine Classical.byContradiction fun hh => c fun i hi => ?_
          cases h1 : psN s ho p k i
          · cases h2 : psN s ho p (k + 1) i
            · rfl
            · exact absurd ⟨i, hi, h2, h1⟩ hh
          · exact ps_mono h1
        have := cnt_lt (f := psN s ho p k) (g := psN s ho p (k + 1)) (fun i _ h => ps_mono h) this
        omega
theorem ps_end {s : SD} {ho : Nat → Nat} {p q : Nat} (hp : p < sP s) (hq : q < sP s) (h : psN s ho p (sP s - 1) q = false) (d : Nat) : psN s ho p (sP s - 1 + d) q = false := by
  rcases ps_or (s := s) (ho := ho) hp (sP s - 1) with ⟨j, h1, h2⟩ | h1
  · obtain ⟨e, he⟩ : ∃ e, sP s - 1 = j + e := ⟨sP s - 1 - j, by omega⟩
    rw [he, psSt_all h2 e q hq] at h
    rw [he, Nat.add_assoc, psSt_all h2 (e + d) q hq]
    exact h
  · have := cnt_full (n := sP s) (f := psN s ho p (sP s - 1)) (by omega) q hq
    rw [this] at h; cases h
theorem ps_fs {s : SD} {ho : Nat → Nat} {p q : Nat} (hP : sP s ≤ 6) (hp : p < sP s) (hq : q < sP s) : fsI (fun i => psN s ho p i q) (sP s) = fsI (fun i => psN s ho p i q) 7 := by
  by_cases c : ∃ d, d < sP s ∧ psN s ho p d q = true ∧ ∀ i, i < d → psN s ho p i q = false
  · obtain ⟨d, h1, h2, h3⟩ := c
    rw [fsI_at h3 h2 h1 (by omega), fsI_at h3 h2 (by omega) (by omega)]
  · have all : ∀ i, i < sP s → psN s ho p i q = false := by
      intro i
      induction i using Nat.strongRecOn with
      | _ i ih =>
        intro hi
        cases h : psN s ho p i q
        · rfl
        · exact absurd ⟨i, hi, h, fun j hj => ih j hj (by omega)⟩ c
    rw [fsI_none all, fsI_none]
    intro i hi
    by_cases h : i < sP s
    · exact all i h
    · have := ps_end hp hq (all (sP s - 1) (by omega)) (i - (sP s - 1))
      rw [show sP s - 1 + (i - (sP s - 1)) = i by omega] at this
      exact this
theorem f_pass11 {n i : Nat} {v : Int32} {K : Nat → Bool} {μ : Mu} {s : SD} {t : ST} {x2 : Int32} (hs : CS μ 2 s) (hv : SV s) (ht : CB μ 34 s t) (hV : TV s t) (hK : bs v (sP s) K) (hn : 10 < n) : ∃ r, lp n (sX11_passes_49 n x2 v (nI i) μ) (v, 0) = some r ∧ bs r (sP s) (psS s (tHo t) K) := by
  have hP := hv.2.2.1
  have a2 : rI μ 2 2 = nI (sP s) := hs.2.2.1
  refine Rn.l (sP s) (fun r q => q.2 = nI r ∧ bs q.1 (sP s) (fun j => K j || (decide (j < r) && anyB (fun k => heS s (tHo t) j k && K k) (sP s)))) _ (by omega) ⟨rfl, bs_congr hK fun j _ => by simp⟩ ?_ ?_
  · rintro r ⟨x, y⟩ hr ⟨e1, e2⟩
    have e1 : y = nI r := e1
    subst e1
    have e2 : bs x (sP s) (fun j => K j || (decide (j < r) && anyB (fun k => heS s (tHo t) j k && K k) (sP s))) := e2
    obtain ⟨h, h1, h2⟩ := f_hearable (n := n) (a := 34) hs hv ht hV hr hn
    have z := any_and h2 hK (by omega)
    simp (disch := first | omega | decide) only [sX11_passes_49, gd_true, bnd_some, bnd2_some, ix_n, ib_n, add_l, add_r, mul_l, mul_r, nI_add, sub_r, nI_leI, nI_ltI, nI_eq, le_l, le_r, lt_l, lt_r, eq_l, eq_r, eq_m, if_true, if_false, not_false_eq_true, not_true_eq_false, a2, show ¬ sP s ≤ r by omega, h1]
    by_cases c : anyB (fun k => heS s (tHo t) r k && K k) (sP s) = true
    · rw [if_neg (fun e => by rw [z.mp e] at c; cases c)]
      refine Rn.so ⟨rfl, bs_congr (bs_set e2 hr (by omega)) fun j hj => ?_⟩
      by_cases e : j = r
      · subst e; simp [c]
      · have : j < r + 1 ↔ j < r := by omega
        simp [e, this]
    · rw [if_pos (z.mpr (by simpa using c))]
      refine Rn.so ⟨rfl, bs_congr e2 fun j hj => ?_⟩
      by_cases e : j = r
      · subst e
        rw [show anyB (fun k => heS s (tHo t) j k && K k) (sP s) = false by simpa using c]; simp
      · have : j < r + 1 ↔ j < r := by omega
        simp [this]
  · rintro ⟨x, y⟩ ⟨e1, e2⟩
    have e1 : y = nI (sP s) := e1
    subst e1
    exact Rn.e (r := x) (ite_le a2) (bs_congr e2 fun j hj => by unfold psS; simp [hj])
theorem f_pass12 {n i : Nat} {v : Int32} {K : Nat → Bool} {μ : Mu} {s : SD} {t : ST} {x2 : Int32} (hs : RS μ s) (hv : SV s) (ht : RT μ s t) (hV : TV s t) (hK : bs v (sP s) K) (hn : 10 < n) : ∃ r, lp n (sX12_passes_51 n x2 v (nI i) μ) (v, 0) = some r ∧ bs r (sP s) (psS s (tHo t) K) := by
  have hP := hv.2.2.1
  have a2 : rI μ 140 3 = nI (sP s) := hs.2.2.2.1
  refine Rn.l (sP s) (fun r q => q.2 = nI r ∧ bs q.1 (sP s) (fun j => K j || anyB (fun k => heS s (tHo t) j k && K k) r)) _ (by omega) ⟨rfl, bs_congr hK fun j _ => by simp [anyB]⟩ ?_ ?_
  · rintro r ⟨x, y⟩ hr ⟨e1, e2⟩
    have e1 : y = nI r := e1
    subst e1
    have e2 : bs x (sP s) (fun j => K j || anyB (fun k => heS s (tHo t) j k && K k) r) := e2
    have inner : Rn (lp n (sX12_passes_65 n x2 v (nI i) (nI r) μ) (x, 0)) (fun w => bs w (sP s) (fun j => K j || anyB (fun k => heS s (tHo t) j k && K k) (r + 1))) := by
      refine Rn.l (sP s) (fun l q => q.2 = nI l ∧ bs q.1 (sP s) (fun j => (K j || anyB (fun k => heS s (tHo t) j k && K k) r) || (decide (j < l) && (heS s (tHo t) j r && K r)))) _ (by omega) ⟨rfl, bs_congr e2 fun j _ => by simp⟩ ?_ ?_
      · rintro l ⟨x', y'⟩ hl ⟨e3, e4⟩
        have e3 : y' = nI l := e3
        subst e3
        have e4 : bs x' (sP s) (fun j => (K j || anyB (fun k => heS s (tHo t) j k && K k) r) || (decide (j < l) && (heS s (tHo t) j r && K r))) := e4
        have z := f_isIn (n := n) (v := v) μ (show r < 32 by omega)
        rw [bs_at hK hr (by omega)] at z
        have z2 := f_isHeard (n := n) (p := l) (q := r) hs hv ht hV hl hr hn
        simp (disch := first | omega | decide) only [sX12_passes_65, gd_true, bnd_some, bnd2_some, ix_n, ib_n, add_l, add_r, mul_l, mul_r, nI_add, sub_r, nI_leI, nI_ltI, nI_eq, le_l, le_r, lt_l, lt_r, eq_l, eq_r, eq_m, if_true, if_false, not_false_eq_true, not_true_eq_false, a2, show ¬ sP s ≤ l by omega, z, z2, ifb]
        have stay : (heS s (tHo t) l r && K r) = false → bs x' (sP s) (fun j => (K j || anyB (fun k => heS s (tHo t) j k && K k) r) || (decide (j < l + 1) && (heS s (tHo t) j r && K r))) := fun hf => bs_congr e4 fun j hj => by
          by_cases e : j = l
          · subst e; rw [hf]; simp
          · have : j < l + 1 ↔ j < l := by omega
            simp [this]
        by_cases c : K r = true
        · rw [if_pos c]
          by_cases c2 : heS s (tHo t) l r = true
          · rw [if_pos c2]
            refine Rn.so ⟨rfl, bs_congr (bs_set e4 hl (by omega)) fun j hj => ?_⟩
            by_cases e : j = l
            · subst e; simp [c, c2]
            · have : j < l + 1 ↔ j < l := by omega
              simp [e, this]
          · rw [if_neg c2]
            exact Rn.so ⟨rfl, stay (by simp [c2])⟩
        · rw [if_neg c]
          exact Rn.so ⟨rfl, stay (by simp [c])⟩
      · rintro ⟨x', y'⟩ ⟨e3, e4⟩
        have e3 : y' = nI (sP s) := e3
        subst e3
        exact Rn.e (r := x') (ite_le a2) (bs_congr e4 fun j hj => by rw [anyB_succ]; simp [hj, Bool.or_assoc])
    obtain ⟨w, h1, h2⟩ := inner
    simp (disch := first | omega | decide) only [sX12_passes_51, gd_true, bnd_some, bnd2_some, ix_n, ib_n, add_l, add_r, mul_l, mul_r, nI_add, sub_r, nI_leI, nI_ltI, nI_eq, le_l, le_r, lt_l, lt_r, eq_l, eq_r, eq_m, if_true, if_false, not_false_eq_true, not_true_eq_false, a2, show ¬ sP s ≤ r by omega]
    have h1 : lp n (sX12_passes_65 n x2 v (nI i) (nI r) μ) (x, 0) = some w := h1
    rw [h1, bnd_some]
    exact Rn.so ⟨rfl, h2⟩
  · rintro ⟨x, y⟩ ⟨e1, e2⟩
    have e1 : y = nI (sP s) := e1
    subst e1
    exact Rn.e (r := x) (ite_le a2) e2
/-- a search that begins at 1 -/
theorem Rn.l1 {τ ρ : Type} {step : τ → Option (τ ⊕ ρ)} {n : Nat} {t : τ} (K : Nat) (hK : 1 ≤ K) (I : Nat → τ → Prop) (E : ρ → Prop) (hn : K < n) (h0 : I 1 t) (hs : ∀ i t, 1 ≤ i → i < K → I i t → Rn (step t) (OE (I (i + 1)) E)) (he : ∀ t, I K t → Rn (step t) (OE (fun _ => False) E)) : Rn (lp n step t) E :=
  Rn.l (K - 1) (fun i => I (i + 1)) E (by omega) h0 (fun i t hi h => hs (i + 1) t (by omega) (by omega) h) (fun t h => he t (by rw [show K - 1 + 1 = K by omega] at h; exact h))
theorem m_passes {n k : Nat} {sh : List Sh} {R : Rf} {μ : Mu} {x y : Int32} (hI : INV k sh R μ) (hk : k < 512) (hn : 5000 < n) : GO k sh R (bnd (fX11_passes n x y μ) fun r => some (r, μ)) (fX12_passes n x y) := by
  refine GO.q hI hk fun s t _ hp => ?_
  have hp0 := hp
  obtain ⟨c1, p2, c2, c3, p5, p6⟩ := hp
  have hP := p2.2.2.1
  have done : fX11_passes n x y μ = some (-2) → (∀ μ', RP μ' s t → fX12_passes n x y μ' = some (-2, wI μ' 139 0 0)) → ∃ r μ1, (bnd (fX11_passes n x y μ) fun r => some (r, μ)) = some (r, μ1) ∧ CQ s μ μ1 ∧ ∀ μ', RP μ' s t → (∀ a, 139 ≤ a → (∀ i, rI μ' a i = rI μ a i) ∧ ∀ i, rL μ' a i = rL μ a i) → ∃ μ2, fX12_passes n x y μ' = some (r, μ2) ∧ RQ μ' μ2 := fun x1 x2 => ⟨-2, μ, by rw [x1, bnd_some], CQ.rfl' hp0, fun μ' h _ => ⟨_, x2 μ' h, RQ.th _⟩⟩
  by_cases k1 : okN x (sP s) = true
  · by_cases k2 : okN y (sP s) = true
    · obtain ⟨p, hp, rfl⟩ := okN_of k1 (by omega)
      obtain ⟨q, hq, rfl⟩ := okN_of k2 (by omega)
      by_cases k3 : p = q
      · subst k3
        refine done ?_ (fun μ' h => ?_)
        · unfold fX11_passes
          rw [hp0.isP, bnd_some, ifb, if_pos k1, bnd_some, ifb, if_pos k1, if_pos rfl]
        · have h' := h.q (RQ.th _)
          unfold fX12_passes
          rw [h'.isP, bnd_some, ifb, if_pos k1, bnd_some, ifb, if_pos k1, if_pos rfl]
      · have k3' : ¬ nI p = nI q := fun e => k3 ((nI_eq (by omega) (by omega)).mp e)
        have b0 : bs (shl 1 (nI p)) (sP s) (psN s (tHo t) p 0) := bs_bit hp (by omega)
        have b1 : bs (shl 1 (nI p)) (sP s) (psN s (tHo t) p (1 - 1)) := b0
        have pq : psN s (tHo t) p 0 q = false := decide_eq_false (fun e => k3 e.symm)
        have lc : ∃ r, lp n (sX11_passes_31 n (nI q) μ) (shl 1 (nI p), 1) = some r ∧ ((r = .inl (fsI (fun i => psN s (tHo t) p i q) (sP s))) ∨ (r = .inr () ∧ fsI (fun i => psN s (tHo t) p i q) (sP s) = -1)) := by
          have a2 : rI μ 2 2 = nI (sP s) := c1.2.2.1
          refine Rn.l1 (sP s) (by omega) (fun i z => z.2 = nI i ∧ bs z.1 (sP s) (psN s (tHo t) p (i - 1)) ∧ ∀ j, j < i → psN s (tHo t) p j q = false) _ (by omega) ⟨rfl, b1, fun j hj => by rw [show j = 0 by omega]; exact pq⟩ ?_ ?_
          · rintro i ⟨v, z⟩ h1 hi ⟨e1, e2, e3⟩
            have e1 : z = nI i := e1
            subst e1
            obtain ⟨r, g1, g2⟩ := f_pass11 (n := n) (i := i) (x2 := nI q) c1 p2 c3 p5 e2 (by omega)
            have g2 : bs r (sP s) (psN s (tHo t) p (i - 1 + 1)) := g2
            rw [show i - 1 + 1 = i by omega] at g2
            have g1 : lp n (sX11_passes_49 n (nI q) v (nI i) μ) (v, 0) = some r := g1
            simp (disch := first | omega | decide) only [sX11_passes_31, gd_true, bnd_some, bnd2_some, ix_n, ib_n, add_l, add_r, mul_l, mul_r, nI_add, sub_r, nI_leI, nI_ltI, nI_eq, le_l, le_r, lt_l, lt_r, eq_l, eq_r, eq_m, if_true, if_false, not_false_eq_true, not_true_eq_false, a2, show ¬ sP s ≤ i by omega]
            rw [g1, bnd_some]
            simp only [b_test (x := r) (show q < 32 by omega), t01, bs_at g2 hq (show sP s ≤ 32 by omega)]
            by_cases c : psN s (tHo t) p i q = true
            · rw [if_pos c]
              exact Rn.so (Or.inl (by rw [fsI_at e3 c hi (by omega)]))
            · rw [if_neg c]
              refine Rn.so ⟨rfl, g2, fun j hj => ?_⟩
              by_cases e : j = i
              · rw [e]; simpa using c
              · exact e3 j (by omega)
          · rintro ⟨v, z⟩ ⟨e1, e2, e3⟩
            have e1 : z = nI (sP s) := e1
            subst e1
            exact Rn.e (r := (Sum.inr () : Int32 ⊕ Unit)) (ite_le a2) (Or.inr ⟨rfl, fsI_none e3⟩)
        obtain ⟨rc, lc1, lc2⟩ := lc
        refine ⟨fsI (fun i => psN s (tHo t) p i q) (sP s), μ, ?_, CQ.rfl' hp0, fun μ' h _ => ⟨wI μ' 139 0 0, ?_, RQ.th _⟩⟩
        · unfold fX11_passes
          rw [hp0.isP, bnd_some, ifb, if_pos k1, hp0.isP, bnd_some, ifb, if_pos k2, if_neg k3', lc1, bnd_some]
          rcases lc2 with rfl | ⟨rfl, e⟩
          · rfl
          · rw [e]; rfl
        · have h' := h.q (RQ.th _)
          have lr : ∃ r, lp n (sX12_passes_38 n (nI q) (wI μ' 139 0 0)) (shl 1 (nI p), 1) = some r ∧ ((r = .inl (fsI (fun i => psN s (tHo t) p i q) 7)) ∨ (r = .inr () ∧ fsI (fun i => psN s (tHo t) p i q) 7 = -1)) := by
            refine Rn.l1 7 (by omega) (fun i z => z.2 = nI i ∧ bs z.1 (sP s) (psN s (tHo t) p (i - 1)) ∧ ∀ j, j < i → psN s (tHo t) p j q = false) _ (by omega) ⟨rfl, b1, fun j hj => by rw [show j = 0 by omega]; exact pq⟩ ?_ ?_
            · rintro i ⟨v, z⟩ h1 hi ⟨e1, e2, e3⟩
              have e1 : z = nI i := e1
              subst e1
              obtain ⟨r, g1, g2⟩ := f_pass12 (n := n) (i := i) (x2 := nI q) h'.1 p2 h'.2.2.1 p5 e2 (by omega)
              have g2 : bs r (sP s) (psN s (tHo t) p (i - 1 + 1)) := g2
              rw [show i - 1 + 1 = i by omega] at g2
              have g1 : lp n (sX12_passes_51 n (nI q) v (nI i) (wI μ' 139 0 0)) (v, 0) = some r := g1
              simp (disch := first | omega | decide) only [sX12_passes_38, gd_true, bnd_some, bnd2_some, ix_n, ib_n, add_l, add_r, mul_l, mul_r, nI_add, sub_r, nI_leI, nI_ltI, nI_eq, le_l, le_r, lt_l, lt_r, eq_l, eq_r, eq_m, if_true, if_false, not_false_eq_true, not_true_eq_false, show ¬ 6 < i by omega]
              rw [g1, bnd_some]
              show Rn (bnd (fX12_isIn n r.toInt64 (nI q) (wI μ' 139 0 0)) _) _
              rw [f_isIn _ (by omega), bnd_some, ifb, bs_at g2 hq (by omega)]
              by_cases c : psN s (tHo t) p i q = true
              · rw [if_pos c]
                exact Rn.so (Or.inl (by rw [fsI_at e3 c hi (by omega)]))
              · rw [if_neg c]
                refine Rn.so ⟨rfl, g2, fun j hj => ?_⟩
                by_cases e : j = i
                · rw [e]; simpa using c
                · exact e3 j (by omega)
            · rintro ⟨v, z⟩ ⟨e1, e2, e3⟩
              have e1 : z = nI 7 := e1
              subst e1
              exact Rn.e (r := (Sum.inr () : Int32 ⊕ Unit)) rfl (Or.inr ⟨rfl, fsI_none e3⟩)
          obtain ⟨rr, lr1, lr2⟩ := lr
          rw [ps_fs hP hp hq]
          unfold fX12_passes
          rw [h'.isP, bnd_some, ifb, if_pos k1, h'.isP, bnd_some, ifb, if_pos k2, if_neg k3', lr1, bnd_some]
          rcases lr2 with rfl | ⟨rfl, e⟩
          · rfl
          · rw [e]
    · refine done ?_ (fun μ' h => ?_)
      · unfold fX11_passes
        rw [hp0.isP, bnd_some, ifb, if_pos k1, hp0.isP, bnd_some, ifb, if_neg k2]
      · have h' := h.q (RQ.th _)
        unfold fX12_passes
        rw [h'.isP, bnd_some, ifb, if_pos k1, h'.isP, bnd_some, ifb, if_neg k2]
  · refine done ?_ (fun μ' h => ?_)
    · unfold fX11_passes
      rw [hp0.isP, bnd_some, ifb, if_neg k1]
    · have h' := h.q (RQ.th _)
      unfold fX12_passes
      rw [h'.isP, bnd_some, ifb, if_neg k1]
