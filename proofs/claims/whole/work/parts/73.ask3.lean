/-! questions of sounds -/
abbrev Same (μ μ' : Mu) : Prop := ∀ a, 139 ≤ a → (∀ i, rI μ' a i = rI μ a i) ∧ ∀ i, rL μ' a i = rL μ a i
theorem hc_or {n : Nat} {x : Int32} {μ : Mu} (hT : TRY μ) : (∃ c, ¬ c = 0 ∧ fX11_heardCode n x μ = some c ∧ ∀ μ', Same μ μ' → fX12_noHeard n x (wI μ' 139 0 0) = some c) ∨ (∃ T N vals, x = nI T ∧ T < 4 ∧ okN x 4 = true ∧ 1 ≤ N ∧ N ≤ 24 ∧ TrC μ T N vals ∧ fX11_heardCode n x μ = some 0 ∧ ∀ μ', Same μ μ' → fX12_noHeard n x (wI μ' 139 0 0) = some 0 ∧ TrR (wI μ' 139 0 0) T N vals) := by
  unfold fX11_heardCode fX12_noHeard
  rw [CP.isT, bnd_some, ifb]
  by_cases k0 : okN x 4 = true
  · obtain ⟨T, hT4, rfl⟩ := okN_of k0 (by omega)
    rw [if_pos k0]
    simp (disch := first | omega | decide) only [gd_true, bnd_some, bnd2_some, ix_n, ib_n, add_l, add_r, mul_l, mul_r, nI_add, sub_r, nI_leI, nI_ltI, nI_eq, le_l, le_r, lt_l, lt_r, eq_l, eq_r, eq_m, if_true, if_false, not_false_eq_true, not_true_eq_false]
    rcases hT T hT4 with ⟨a1, a2⟩ | ⟨N, so, N1, N2, N3, N4, N5, N6, N7⟩
    · refine Or.inl ⟨-6, by decide, ?_, fun μ' h => ?_⟩
      · rw [f_isMissing a1, bnd_some]; rfl
      · rw [f_noTray (v := -1) hT4 (by rw [rI_ai (by omega), (h 152 (by omega)).1]; exact a2), bnd_some]; rfl
    · have em : ¬ nI N = -1 := nI_m1 (by omega)
      have es : ¬ nI so = -1 := nI_m1 (by omega)
      have e1 : ∀ m : Mu, fX11_within n (nI N) 1 24 m = some (if wi (nI N) 1 24 = true then 1 else 0) := fun m => w11 1 24
      have e2 : ∀ m : Mu, fX12_within n (nI N).toInt64 1 24 m = some (if wi (nI N) 1 24 = true then 1 else 0) := fun m => w12 1 24
      have r3 : ∀ μ', Same μ μ' → rI (wI μ' 139 0 0) 153 T = nI N := fun μ' h => by rw [rI_ai (by omega), (h 153 (by omega)).1]; exact N6
      have rn : ∀ μ', Same μ μ' → fX12_noTray n (nI T) (wI μ' 139 0 0) = some 0 := fun μ' h => by rw [f_noTray (v := nI so) hT4 (by rw [rI_ai (by omega), (h 152 (by omega)).1]; exact N5), if_neg es]
      rw [f_isMissing N3, bnd_some, if_neg em, if_pos rfl, N3, e1, bnd_some, ifb]
      by_cases c : wi (nI N) 1 24 = true
      · obtain ⟨j, j1, j2, j3⟩ := wi_of c (by omega) (by omega)
        have := nI_inj (by omega) (by omega) j3
        subst this
        refine Or.inr ⟨T, N, fun k => rL μ (129 + 2 * T + 1) k, rfl, hT4, k0, j1, j2, ⟨N3, fun _ _ => rfl⟩, by rw [if_pos c], fun μ' h => ⟨?_, r3 μ' h, fun k hk => ?_⟩⟩
        · rw [rn μ' h, bnd_some, if_pos rfl, r3 μ' h, e2, bnd_some, ifb, if_pos c]
        · show rL μ' 154 _ = _
          rw [(h 154 (by omega)).2]; exact (N7 k hk).symm
      · refine Or.inl ⟨-4, by decide, by rw [if_neg c], fun μ' h => ?_⟩
        rw [rn μ' h, bnd_some, if_pos rfl, r3 μ' h, e2, bnd_some, ifb, if_neg c]
  · refine Or.inl ⟨-2, by decide, by rw [if_neg k0], fun μ' h => ?_⟩
    rw [f_noTrayN k0, bnd_some]; rfl
theorem m_fits {n k : Nat} {sh : List Sh} {R : Rf} {μ : Mu} {x : Int32} (hI : INV k sh R μ) (hk : k < 512) (hn : 5000 < n) : GO k sh R (fX11_fits n x μ) (fX12_fits n x) := by
  refine GO.q hI hk fun s t hT hp => ?_
  unfold fX11_fits fX12_fits
  rcases hc_or (n := n) (x := x) hT with ⟨c, c0, h1, h2⟩ | ⟨T, N, vals, rfl, hT4, k0, N1, N2, t1, h1, h2⟩
  · exact ⟨c, μ, by rw [h1, bnd_some, if_neg c0], CQ.rfl' hp, fun μ' _ h => ⟨_, by rw [h2 μ' h, bnd_some, if_neg c0], RQ.th _⟩⟩
  · obtain ⟨r, m1, g1, g2, g3⟩ := c_fits (n := n) hp hT4 (by omega) t1 (by omega)
    refine ⟨r, m1, ?_, g3, fun μ' hr h => ?_⟩
    · rw [h1, bnd_some, if_pos rfl]
      simp (disch := first | omega | decide) only [gd_true, bnd_some, bnd2_some, ix_n, ib_n, add_l, add_r, mul_l, mul_r, nI_add, sub_r, nI_leI, nI_ltI, nI_eq, le_l, le_r, lt_l, lt_r, eq_l, eq_r, eq_m, if_true, if_false, not_false_eq_true, not_true_eq_false, g1]
    · obtain ⟨h3, h4⟩ := h2 μ' h
      obtain ⟨r', m2, l1, l2, l3⟩ := r_fits (n := n) (hr.q (RQ.th _)) hT4 (by omega) h4 (by omega)
      refine ⟨m2, ?_, (RQ.th _).tr l3⟩
      rw [h3, bnd_some, if_pos rfl, l1, bnd2_some, bs_eq l2 g2]
theorem m_slips {n k : Nat} {sh : List Sh} {R : Rf} {μ : Mu} {x y : Int32} (hI : INV k sh R μ) (hk : k < 512) (hn : 5000 < n) : GO k sh R (fX11_slips n x y μ) (fX12_slips n x y) := by
  refine GO.q hI hk fun s t hT hp => ?_
  have hB := hp.2.1.1.2
  unfold fX11_slips fX12_slips
  rw [hp.isB, bnd_some, ifb]
  simp only [RP.isT, bnd_some, ifb]
  by_cases kb : okN y (sB s) = true
  · obtain ⟨b, hb, rfl⟩ := okN_of kb (by omega)
    rw [if_pos kb]
    rcases hc_or (n := n) (x := x) hT with ⟨c, c0, h1, h2⟩ | ⟨T, N, vals, rfl, hT4, k0, N1, N2, t1, h1, h2⟩
    · refine ⟨c, μ, by rw [h1, bnd_some, if_neg c0], CQ.rfl' hp, fun μ' hr h => ⟨wI μ' 139 0 0, ?_, RQ.th _⟩⟩
      by_cases kt : okN x 4 = true
      · rw [if_pos kt, (hr.q (RQ.th _)).isB, bnd_some, ifb, if_pos kb, h2 μ' h, bnd_some, if_neg c0]
      · rw [if_neg kt]
        unfold fX11_heardCode at h1
        rw [CP.isT, bnd_some, ifb, if_neg kt] at h1
        cases h1; rfl
    · obtain ⟨m1, g1, g3⟩ := c_slips (n := n) (b := b) hp hT4 (by omega) hb t1 (by omega)
      refine ⟨nI (slS s t vals N b), m1, ?_, g3, fun μ' hr h => ?_⟩
      · rw [h1, bnd_some, if_pos rfl]
        simp (disch := first | omega | decide) only [gd_true, bnd_some, bnd2_some, ix_n, ib_n, add_l, add_r, mul_l, mul_r, nI_add, sub_r, nI_leI, nI_ltI, nI_eq, le_l, le_r, lt_l, lt_r, eq_l, eq_r, eq_m, if_true, if_false, not_false_eq_true, not_true_eq_false, g1]
      · obtain ⟨h3, h4⟩ := h2 μ' h
        have hr' := hr.q (RQ.th _)
        obtain ⟨m2, l1, l3⟩ := r_slips (n := n) (b := b) hr' hT4 (by omega) hb h4 (by omega)
        refine ⟨m2, ?_, (RQ.th _).tr l3⟩
        rw [if_pos k0, hr'.isB, bnd_some, ifb, if_pos kb, h3, bnd_some, if_pos rfl, l1, bnd2_some]
  · refine ⟨-2, μ, by rw [if_neg kb], CQ.rfl' hp, fun μ' hr h => ⟨wI μ' 139 0 0, ?_, RQ.th _⟩⟩
    by_cases kt : okN x 4 = true
    · rw [if_pos kt, (hr.q (RQ.th _)).isB, bnd_some, ifb, if_neg kb]
    · rw [if_neg kt]
/-- the class's search for the least, M being above all -/
theorem am_less {g : Nat → Nat} {M i : Nat} (hM : M < 2147483648) (hb : ∀ j, j ≤ i → g j < M) : (if (if i = 0 then nI M else nI (g (amx (fun j => M - g j) i))) ≤ nI (g i) then (amI (fun j => M - g j) i, (if i = 0 then nI M else nI (g (amx (fun j => M - g j) i)))) else (nI i, nI (g i))) = (amI (fun j => M - g j) (i + 1), nI (g (amx (fun j => M - g j) (i + 1)))) := by
  unfold amI
  rw [if_neg (Nat.succ_ne_zero i)]
  have hi := hb i (Nat.le_refl _)
  by_cases c : i = 0
  · subst c
    simp only [if_true]
    rw [if_neg (fun e => by have := (nI_leI (by omega) (by omega)).mp e; omega)]
    rfl
  · have hl := amx_lt (fun j => M - g j) (n := i) (by omega)
    have ha := hb (amx (fun j => M - g j) i) (by omega)
    simp only [c, if_false]
    rw [amx_s (by omega)]
    by_cases c2 : g (amx (fun j => M - g j) i) ≤ g i
    · rw [if_pos ((nI_leI (by omega) (by omega)).mpr c2), if_neg (by omega)]
    · rw [if_neg (fun e => c2 ((nI_leI (by omega) (by omega)).mp e)), if_pos (by omega)]
theorem m_likeliest {n k : Nat} {sh : List Sh} {R : Rf} {μ : Mu} {x : Int32} (hI : INV k sh R μ) (hk : k < 512) (hn : 5000 < n) : GO k sh R (fX11_likeliest n x μ) (fX12_likeliest n x) := by
  refine GO.q hI hk fun s t hT hp => ?_
  have hB := hp.2.1.1
  unfold fX11_likeliest fX12_likeliest
  rcases hc_or (n := n) (x := x) hT with ⟨c, c0, h1, h2⟩ | ⟨T, N, vals, rfl, hT4, k0, N1, N2, t1, h1, h2⟩
  · exact ⟨c, μ, by rw [h1, bnd_some, if_neg c0], CQ.rfl' hp, fun μ' _ h => ⟨_, by rw [h2 μ' h, bnd_some, if_neg c0], RQ.th _⟩⟩
  · have sl : ∀ b, slS s t vals N b < 25 := fun b => by have := slS_le s t vals N b; omega
    have lc : Rn (lp n (sX11_likeliest_21 n (nI T)) (-1, 25, 0, μ)) (fun r => r.1 = nI (amx (fun b => 25 - slS s t vals N b) (sB s)) ∧ CQ s μ r.2) := by
      refine Rn.l (sB s) (fun i q => q.1 = amI (fun b => 25 - slS s t vals N b) i ∧ q.2.1 = (if i = 0 then nI 25 else nI (slS s t vals N (amx (fun b => 25 - slS s t vals N b) i))) ∧ q.2.2.1 = nI i ∧ CQ s μ q.2.2.2) _ (by omega) ⟨rfl, rfl, rfl, CQ.rfl' hp⟩ ?_ ?_
      · rintro i ⟨a, b, y, m⟩ hi ⟨e1, e2, e3, e4⟩
        have e1 : a = amI (fun b => 25 - slS s t vals N b) i := e1
        have e2 : b = (if i = 0 then nI 25 else nI (slS s t vals N (amx (fun b => 25 - slS s t vals N b) i))) := e2
        have e3 : y = nI i := e3
        have e4 : CQ s μ m := e4
        subst e3
        obtain ⟨m', g1, g2⟩ := c_slips (n := n) (b := i) (hp.q e4) hT4 (by omega) hi (t1.q hT4 e4) (by omega)
        have a0 : rI m 2 0 = nI (sB s) := (hp.q e4).1.1
        have z := am_less (g := slS s t vals N) (M := 25) (i := i) (by omega) (fun j _ => sl j)
        rw [← e1, ← e2] at z
        simp (disch := first | omega | decide) only [sX11_likeliest_21, gd_true, bnd_some, bnd2_some, ix_n, ib_n, add_l, add_r, mul_l, mul_r, nI_add, sub_r, nI_leI, nI_ltI, nI_eq, le_l, le_r, lt_l, lt_r, eq_l, eq_r, eq_m, if_true, if_false, not_false_eq_true, not_true_eq_false, a0, show ¬ sB s ≤ i by omega, g1]
        by_cases c : b ≤ nI (slS s t vals N i)
        · rw [if_pos c] at z ⊢
          obtain ⟨z1, z2⟩ := Prod.mk.inj z
          exact Rn.so ⟨z1, by rw [if_neg (Nat.succ_ne_zero i)]; exact z2, rfl, e4.tr g2⟩
        · rw [if_neg c] at z ⊢
          obtain ⟨z1, z2⟩ := Prod.mk.inj z
          exact Rn.so ⟨z1, by rw [if_neg (Nat.succ_ne_zero i)]; exact z2, rfl, e4.tr g2⟩
      · rintro ⟨a, b, y, m⟩ ⟨e1, e2, e3, e4⟩
        have e1 : a = amI (fun b => 25 - slS s t vals N b) (sB s) := e1
        have e3 : y = nI (sB s) := e3
        subst e3
        refine Rn.e (r := (a, m)) (ite_le (hp.q e4).1.1) ⟨?_, e4⟩
        rw [e1]; unfold amI; rw [if_neg (by omega)]
    obtain ⟨⟨r, m1⟩, g1, g2, g3⟩ := lc
    have g2 : r = nI (amx (fun b => 25 - slS s t vals N b) (sB s)) := g2
    subst g2
    refine ⟨_, m1, by rw [h1, bnd_some, if_pos rfl, g1, bnd_some], g3, fun μ' hr h => ?_⟩
    obtain ⟨h3, h4⟩ := h2 μ' h
    have hr' := hr.q (RQ.th _)
    have lr : Rn (lp n (sX12_likeliest_22 n (nI T)) (0, 1, wI μ' 139 0 0)) (fun r => r.1 = nI (amx (fun b => 25 - slS s t vals N b) (sB s)) ∧ RQ (wI μ' 139 0 0) r.2) := by
      refine Rn.l1 (sB s) (by omega) (fun i q => q.1 = nI (amx (fun b => 25 - slS s t vals N b) i) ∧ q.2.1 = nI i ∧ RQ (wI μ' 139 0 0) q.2.2) _ (by omega) ⟨rfl, rfl, RQ.rfl' _⟩ ?_ ?_
      · rintro i ⟨a, y, m⟩ i1 hi ⟨e1, e3, e4⟩
        have e1 : a = nI (amx (fun b => 25 - slS s t vals N b) i) := e1
        have e3 : y = nI i := e3
        have e4 : RQ (wI μ' 139 0 0) m := e4
        subst e1; subst e3
        have hl := amx_lt (fun b => 25 - slS s t vals N b) (n := i) (by omega)
        have q1 := hr'.q e4
        obtain ⟨m', l1, l2⟩ := r_slips (n := n) (b := i) q1 hT4 (by omega) hi (h4.q e4) (by omega)
        obtain ⟨m'', l3, l4⟩ := r_slips (n := n) (b := amx (fun b => 25 - slS s t vals N b) i) (q1.q l2) hT4 (by omega) (by omega) ((h4.q e4).q l2) (by omega)
        have a0 : rI m 140 1 = nI (sB s) := q1.1.2.1
        have s1 := sl i
        have s2 := sl (amx (fun b => 25 - slS s t vals N b) i)
        simp (disch := first | omega | decide) only [sX12_likeliest_22, gd_true, bnd_some, bnd2_some, ix_n, ib_n, add_l, add_r, mul_l, mul_r, nI_add, sub_r, nI_leI, nI_ltI, nI_eq, le_l, le_r, lt_l, lt_r, eq_l, eq_r, eq_m, if_true, if_false, not_false_eq_true, not_true_eq_false, a0, show ¬ sB s ≤ i by omega, l1, l3]
        have ez := amx_s (g := fun b => 25 - slS s t vals N b) (n := i) (by omega)
        by_cases c : slS s t vals N (amx (fun b => 25 - slS s t vals N b) i) ≤ slS s t vals N i
        · rw [if_pos c]
          refine Rn.so ⟨?_, rfl, (e4.tr l2).tr l4⟩
          rw [ez, if_neg (by omega)]
        · rw [if_neg c]
          refine Rn.so ⟨?_, rfl, (e4.tr l2).tr l4⟩
          rw [ez, if_pos (by omega)]
      · rintro ⟨a, y, m⟩ ⟨e1, e3, e4⟩
        have e3 : y = nI (sB s) := e3
        have e4 : RQ (wI μ' 139 0 0) m := e4
        subst e3
        exact Rn.e (r := (a, m)) (ite_le (hr'.q e4).1.2.1) ⟨e1, e4⟩
    obtain ⟨⟨r, m2⟩, l1, l2, l3⟩ := lr
    have l2 : r = nI (amx (fun b => 25 - slS s t vals N b) (sB s)) := l2
    subst l2
    exact ⟨m2, by rw [h3, bnd_some, if_pos rfl, l1, bnd_some], (RQ.th _).tr l3⟩
/-! the hour that tells more -/
def maxN (f : Nat → Nat) : Nat → Nat
  | 0 => 0
  | n + 1 => max (maxN f n) (f n)
theorem maxN_le {f : Nat → Nat} {B : Nat} : ∀ {n : Nat}, (∀ i, i < n → f i ≤ B) → maxN f n ≤ B
  | 0, _ => Nat.zero_le _
  | n + 1, h => by
    have := maxN_le (n := n) fun i hi => h i (by omega)
    have := h n (by omega)
    unfold maxN; omega
def alS (s : SD) (t : ST) (S : Nat → Bool) (k b : Nat) : Nat → Nat := cnt (fun c => (S b && S c) && decide (snS s t b k = snS s t c k))
def maS (s : SD) (t : ST) (S : Nat → Bool) (k : Nat) : Nat := maxN (fun b => alS s t S k b (sB s)) (sB s)
theorem c_alike {n k : Nat} {v : Int32} {S : Nat → Bool} {μ : Mu} {s : SD} {t : ST} (hp : CP μ s t) (hS : bs v (sB s) S) (hk : k < 200) (hn : 1000 < n) : ∃ μ', fX11_mostAlike n v (nI k) μ = some (nI (maS s t S k), μ') ∧ CQ s μ μ' := by
  have hB := hp.2.1.1.2
  have alb : ∀ b, alS s t S k b (sB s) ≤ 6 := fun b => Nat.le_trans (cnt_le _ _) hB
  have mb : ∀ j, j ≤ sB s → maxN (fun b => alS s t S k b (sB s)) j ≤ 6 := fun j _ => maxN_le fun b _ => alb b
  have key : Rn (lp n (sX11_mostAlike_5 n v (nI k)) (0, 0, μ)) (fun r => r.1 = nI (maS s t S k) ∧ CQ s μ r.2) := by
    refine Rn.l (sB s) (fun i q => q.1 = nI (maxN (fun b => alS s t S k b (sB s)) i) ∧ q.2.1 = nI i ∧ CQ s μ q.2.2) _ (by omega) ⟨rfl, rfl, CQ.rfl' hp⟩ ?_ ?_
    · rintro b ⟨x, y, m⟩ hb ⟨e1, e2, e3⟩
      have e1 : x = nI (maxN (fun b => alS s t S k b (sB s)) b) := e1
      have e2 : y = nI b := e2
      have e3 : CQ s μ m := e3
      subst e1; subst e2
      have inner : Rn (lp n (sX11_mostAlike_23 n v (nI k) (nI (maxN (fun b => alS s t S k b (sB s)) b)) (nI b)) (0, 0, m)) (fun r => r.1 = nI (alS s t S k b (sB s)) ∧ CQ s μ r.2) := by
        refine Rn.l (sB s) (fun i q => q.1 = nI (alS s t S k b i) ∧ q.2.1 = nI i ∧ CQ s μ q.2.2) _ (by omega) ⟨rfl, rfl, e3⟩ ?_ ?_
        · rintro c ⟨x', y', m'⟩ hc ⟨f1, f2, f3⟩
          have f1 : x' = nI (alS s t S k b c) := f1
          have f2 : y' = nI c := f2
          have f3 : CQ s μ m' := f3
          subst f1; subst f2
          have q1 := hp.q f3
          have a0 : rI m' 2 0 = nI (sB s) := q1.1.1
          have z : (bt v b && bt v c) = (S b && S c) := by rw [bs_at hS hb (by omega), bs_at hS hc (by omega)]
          have ea : alS s t S k b (c + 1) = alS s t S k b c + (if ((S b && S c) && decide (snS s t b k = snS s t c k)) = true then 1 else 0) := rfl
          obtain ⟨m1, g1, g2⟩ := c_sound (n := n) (b := b) (k := k) q1 hb (by omega) hn
          obtain ⟨m2, g3, g4⟩ := c_sound (n := n) (b := c) (k := k) (q1.q g2) hc (by omega) hn
          simp (disch := first | omega | decide) only [sX11_mostAlike_23, gd_true, bnd_some, bnd2_some, ix_n, ib_n, add_l, add_r, mul_l, mul_r, nI_add, sub_r, nI_leI, nI_ltI, nI_eq, le_l, le_r, lt_l, lt_r, eq_l, eq_r, eq_m, if_true, if_false, not_false_eq_true, not_true_eq_false, a0, show ¬ sB s ≤ c by omega, b_test2, z, t01, ifb, g1, g3]
          by_cases c1 : (S b && S c) = true
          · rw [if_pos c1]
            by_cases c2 : snS s t b k = snS s t c k
            · rw [if_pos c2]
              refine Rn.so ⟨?_, rfl, (f3.tr g2).tr g4⟩
              rw [ea, c1, decide_eq_true c2]; rfl
            · rw [if_neg c2]
              refine Rn.so ⟨?_, rfl, (f3.tr g2).tr g4⟩
              rw [ea, c1, decide_eq_false c2]; rfl
          · rw [if_neg c1]
            refine Rn.so ⟨?_, rfl, f3⟩
            rw [ea, show (S b && S c) = false by simpa using c1]; rfl
        · rintro ⟨x', y', m'⟩ ⟨f1, f2, f3⟩
          have f2 : y' = nI (sB s) := f2
          subst f2
          exact Rn.e (r := (x', m')) (ite_le (hp.q f3).1.1) ⟨f1, f3⟩
      obtain ⟨⟨x', m'⟩, h1, h2, h3⟩ := inner
      have h2 : x' = nI (alS s t S k b (sB s)) := h2
      subst h2
      have a0 : rI m 2 0 = nI (sB s) := (hp.q e3).1.1
      have ab := alb b
      have mbb := mb b (by omega)
      have jm : jmax (nI (maxN (fun b => alS s t S k b (sB s)) b)) (nI (alS s t S k b (sB s))) = nI (maxN (fun b => alS s t S k b (sB s)) (b + 1)) := by
        unfold jmax
        show _ = nI (max (maxN (fun b => alS s t S k b (sB s)) b) (alS s t S k b (sB s)))
        by_cases c : maxN (fun b => alS s t S k b (sB s)) b < alS s t S k b (sB s)
        · rw [if_pos ((nI_ltI (by omega) (by omega)).mpr c)]; congr 1; omega
        · rw [if_neg (fun e => c ((nI_ltI (by omega) (by omega)).mp e))]; congr 1; omega
      simp (disch := first | omega | decide) only [sX11_mostAlike_5, gd_true, bnd_some, bnd2_some, ix_n, ib_n, add_l, add_r, mul_l, mul_r, nI_add, sub_r, nI_leI, nI_ltI, nI_eq, le_l, le_r, lt_l, lt_r, eq_l, eq_r, eq_m, if_true, if_false, not_false_eq_true, not_true_eq_false, a0, show ¬ sB s ≤ b by omega]
      rw [h1, bnd_some]
      exact Rn.so ⟨jm, rfl, h3⟩
    · rintro ⟨x, y, m⟩ ⟨e1, e2, e3⟩
      have e2 : y = nI (sB s) := e2
      subst e2
      exact Rn.e (r := (x, m)) (ite_le (hp.q e3).1.1) ⟨e1, e3⟩
  obtain ⟨⟨x, m⟩, h1, h2, h3⟩ := key
  have h2 : x = nI (maS s t S k) := h2
  subst h2
  exact ⟨m, by unfold fX11_mostAlike; rw [h1, bnd_some], h3⟩
theorem r_alike {n k : Nat} {v : Int32} {S : Nat → Bool} {μ : Mu} {s : SD} {t : ST} (hp : RP μ s t) (hS : bs v (sB s) S) (hk : k < 200) (hn : 1000 < n) : ∃ μ', fX12_mostAlike n v (nI k) μ = some (nI (maS s t S k), μ') ∧ RQ μ μ' := by
  have hB := hp.2.1.1.2
  have alb : ∀ b, alS s t S k b (sB s) ≤ 6 := fun b => Nat.le_trans (cnt_le _ _) hB
  have mb : ∀ j, j ≤ sB s → maxN (fun b => alS s t S k b (sB s)) j ≤ 6 := fun j _ => maxN_le fun b _ => alb b
  have key : Rn (lp n (sX12_mostAlike_5 n v (nI k)) (0, 0, μ)) (fun r => r.1 = nI (maS s t S k) ∧ RQ μ r.2) := by
    refine Rn.l (sB s) (fun i q => q.1 = nI (maxN (fun b => alS s t S k b (sB s)) i) ∧ q.2.1 = nI i ∧ RQ μ q.2.2) _ (by omega) ⟨rfl, rfl, RQ.rfl' _⟩ ?_ ?_
    · rintro b ⟨x, y, m⟩ hb ⟨e1, e2, e3⟩
      have e1 : x = nI (maxN (fun b => alS s t S k b (sB s)) b) := e1
      have e2 : y = nI b := e2
      have e3 : RQ μ m := e3
      subst e1; subst e2
      have a0 : rI m 140 1 = nI (sB s) := (hp.q e3).1.2.1
      have zb := f_isIn (n := n) (v := v) m (show b < 32 by omega)
      rw [bs_at hS hb (by omega)] at zb
      have ab := alb b
      have mbb := mb b (by omega)
      have em : maxN (fun b => alS s t S k b (sB s)) (b + 1) = max (maxN (fun b => alS s t S k b (sB s)) b) (alS s t S k b (sB s)) := rfl
      by_cases cb : S b = true
      · have inner : Rn (lp n (sX12_mostAlike_35 n v (nI k) (nI (maxN (fun b => alS s t S k b (sB s)) b)) (nI b)) (0, 0, m)) (fun r => r.1 = nI (alS s t S k b (sB s)) ∧ RQ μ r.2) := by
          refine Rn.l (sB s) (fun i q => q.1 = nI (alS s t S k b i) ∧ q.2.1 = nI i ∧ RQ μ q.2.2) _ (by omega) ⟨rfl, rfl, e3⟩ ?_ ?_
          · rintro c ⟨x', y', m'⟩ hc ⟨f1, f2, f3⟩
            have f1 : x' = nI (alS s t S k b c) := f1
            have f2 : y' = nI c := f2
            have f3 : RQ μ m' := f3
            subst f1; subst f2
            have q1 := hp.q f3
            have a0 : rI m' 140 1 = nI (sB s) := q1.1.2.1
            have zc := f_isIn (n := n) (v := v) m' (show c < 32 by omega)
            rw [bs_at hS hc (by omega)] at zc
            have ea : alS s t S k b (c + 1) = alS s t S k b c + (if ((S b && S c) && decide (snS s t b k = snS s t c k)) = true then 1 else 0) := rfl
            obtain ⟨m1, g1, g2⟩ := r_sound (n := n) (b := c) (k := k) q1 hc (by omega) hn
            obtain ⟨m2, g3, g4⟩ := r_sound (n := n) (b := b) (k := k) (q1.q g2) hb (by omega) hn
            simp (disch := first | omega | decide) only [sX12_mostAlike_35, jX12_mostAlike_79, jX12_mostAlike_80, gd_true, bnd_some, bnd2_some, ix_n, ib_n, add_l, add_r, mul_l, mul_r, nI_add, sub_r, nI_leI, nI_ltI, nI_eq, le_l, le_r, lt_l, lt_r, eq_l, eq_r, eq_m, if_true, if_false, not_false_eq_true, not_true_eq_false, a0, show ¬ sB s ≤ c by omega, zc, ifb, g1, g3]
            by_cases c1 : S c = true
            · rw [if_pos c1]
              refine Rn.so ⟨?_, rfl, (f3.tr g2).tr g4⟩
              rw [ea, cb, c1]
              by_cases c2 : snS s t b k = snS s t c k
              · simp [c2, nI_s1]
              · simp [c2, show ¬ snS s t c k = snS s t b k from fun e => c2 e.symm, nI_s0]
            · rw [if_neg c1]
              refine Rn.so ⟨?_, rfl, f3⟩
              rw [ea, show S c = false by simpa using c1]; simp [nI_s0]
          · rintro ⟨x', y', m'⟩ ⟨f1, f2, f3⟩
            have f2 : y' = nI (sB s) := f2
            have f3 : RQ μ m' := f3
            subst f2
            exact Rn.e (r := (x', m')) (ite_le (hp.q f3).1.2.1) ⟨f1, f3⟩
        obtain ⟨⟨x', m'⟩, h1, h2, h3⟩ := inner
        have h2 : x' = nI (alS s t S k b (sB s)) := h2
        subst h2
        simp (disch := first | omega | decide) only [sX12_mostAlike_5, gd_true, bnd_some, bnd2_some, ix_n, ib_n, add_l, add_r, mul_l, mul_r, nI_add, sub_r, nI_leI, nI_ltI, nI_eq, le_l, le_r, lt_l, lt_r, eq_l, eq_r, eq_m, if_true, if_false, not_false_eq_true, not_true_eq_false, a0, show ¬ sB s ≤ b by omega, zb, ifb, cb]
        rw [h1, bnd_some]
        refine Rn.so ⟨?_, rfl, h3⟩
        show (if nI (alS s t S k b (sB s)) ≤ nI (maxN (fun b => alS s t S k b (sB s)) b) then nI (maxN (fun b => alS s t S k b (sB s)) b) else nI (alS s t S k b (sB s))) = _
        rw [em]
        by_cases c : alS s t S k b (sB s) ≤ maxN (fun b => alS s t S k b (sB s)) b
        · rw [if_pos ((nI_leI (by omega) (by omega)).mpr c)]; congr 1; omega
        · rw [if_neg (fun e => c ((nI_leI (by omega) (by omega)).mp e))]; congr 1; omega
      · simp (disch := first | omega | decide) only [sX12_mostAlike_5, gd_true, bnd_some, bnd2_some, ix_n, ib_n, add_l, add_r, mul_l, mul_r, nI_add, sub_r, nI_leI, nI_ltI, nI_eq, le_l, le_r, lt_l, lt_r, eq_l, eq_r, eq_m, if_true, if_false, not_false_eq_true, not_true_eq_false, a0, show ¬ sB s ≤ b by omega, zb, ifb, cb, Bool.false_eq_true]
        refine Rn.so ⟨?_, rfl, e3⟩
        have e0 : alS s t S k b (sB s) = 0 := cnt_zero fun c _ => by simp [cb]
        rw [em, e0, Nat.max_eq_left (Nat.zero_le _)]
    · rintro ⟨x, y, m⟩ ⟨e1, e2, e3⟩
      have e2 : y = nI (sB s) := e2
      have e3 : RQ μ m := e3
      subst e2
      exact Rn.e (r := (x, m)) (ite_le (hp.q e3).1.2.1) ⟨e1, e3⟩
  obtain ⟨⟨x, m⟩, h1, h2, h3⟩ := key
  have h2 : x = nI (maS s t S k) := h2
  subst h2
  exact ⟨m, by unfold fX12_mostAlike; rw [h1, bnd_some], h3⟩
theorem maS_le {s : SD} (hv : SV s) (t : ST) (S : Nat → Bool) (k : Nat) : maS s t S k ≤ 6 := maxN_le fun b _ => Nat.le_trans (cnt_le _ _) hv.1.2
theorem m_look {n k : Nat} {sh : List Sh} {R : Rf} {μ : Mu} {x : Int32} (hI : INV k sh R μ) (hk : k < 512) (hn : 5000 < n) : GO k sh R (fX11_look n x μ) (fX12_look n x) := by
  refine GO.q hI hk fun s t hT hp => ?_
  have hB := hp.2.1.1
  unfold fX11_look fX12_look
  rcases hc_or (n := n) (x := x) hT with ⟨c, c0, h1, h2⟩ | ⟨T, N, vals, rfl, hT4, k0, N1, N2, t1, h1, h2⟩
  · exact ⟨c, μ, by rw [h1, bnd_some, if_neg c0], CQ.rfl' hp, fun μ' _ h => ⟨_, by rw [h2 μ' h, bnd_some, if_neg c0], RQ.th _⟩⟩
  · obtain ⟨v, m1, g1, g2, g3⟩ := c_fits (n := n) hp hT4 (by omega) t1 (by omega)
    have hp1 := hp.q g3
    rw [h1, bnd_some, if_pos rfl]
    simp (disch := first | omega | decide) only [gd_true, bnd_some, bnd2_some, ix_n, ib_n, add_l, add_r, mul_l, mul_r, nI_add, sub_r, nI_leI, nI_ltI, nI_eq, le_l, le_r, lt_l, lt_r, eq_l, eq_r, eq_m, if_true, if_false, not_false_eq_true, not_true_eq_false, g1]
    by_cases cv : v = 0
    · refine ⟨-1, m1, by rw [if_pos cv], g3, fun μ' hr h => ?_⟩
      obtain ⟨h3, h4⟩ := h2 μ' h
      obtain ⟨v', m2, l1, l2, l3⟩ := r_fits (n := n) (hr.q (RQ.th _)) hT4 (by omega) h4 (by omega)
      exact ⟨m2, by rw [h3, bnd_some, if_pos rfl, l1, bnd2_some, bs_eq l2 g2, if_pos cv], (RQ.th _).tr l3⟩
    · have sl : ∀ b, maS s t (fiS s t vals N) b < 7 := fun b => by have := maS_le hp.2.1 t (fiS s t vals N) b; omega
      have lc : Rn (lp n (sX11_look_39 n v) (-1, 7, 0, m1)) (fun r => r.1 = nI (amx (fun b => 7 - maS s t (fiS s t vals N) b) 100) ∧ CQ s μ r.2) := by
        refine Rn.l 100 (fun i q => q.1 = amI (fun b => 7 - maS s t (fiS s t vals N) b) i ∧ q.2.1 = (if i = 0 then nI 7 else nI (maS s t (fiS s t vals N) (amx (fun b => 7 - maS s t (fiS s t vals N) b) i))) ∧ q.2.2.1 = nI i ∧ CQ s μ q.2.2.2) _ (by omega) ⟨rfl, rfl, rfl, g3⟩ ?_ ?_
        · rintro i ⟨a, b, y, m⟩ hi ⟨e1, e2, e3, e4⟩
          have e1 : a = amI (fun b => 7 - maS s t (fiS s t vals N) b) i := e1
          have e2 : b = (if i = 0 then nI 7 else nI (maS s t (fiS s t vals N) (amx (fun b => 7 - maS s t (fiS s t vals N) b) i))) := e2
          have e3 : y = nI i := e3
          have e4 : CQ s μ m := e4
          subst e3
          obtain ⟨m', k1, k2⟩ := c_alike (n := n) (k := i) (hp.q e4) g2 (by omega) (by omega)
          have z := am_less (g := maS s t (fiS s t vals N)) (M := 7) (i := i) (by omega) (fun j _ => sl j)
          rw [← e1, ← e2] at z
          simp (disch := first | omega | decide) only [sX11_look_39, gd_true, bnd_some, bnd2_some, ix_n, ib_n, add_l, add_r, mul_l, mul_r, nI_add, sub_r, nI_leI, nI_ltI, nI_eq, le_l, le_r, lt_l, lt_r, eq_l, eq_r, eq_m, if_true, if_false, not_false_eq_true, not_true_eq_false, show ¬ 99 < i by omega, k1]
          by_cases c : b ≤ nI (maS s t (fiS s t vals N) i)
          · rw [if_pos c] at z ⊢
            obtain ⟨z1, z2⟩ := Prod.mk.inj z
            exact Rn.so ⟨z1, by rw [if_neg (Nat.succ_ne_zero i)]; exact z2, rfl, e4.tr k2⟩
          · rw [if_neg c] at z ⊢
            obtain ⟨z1, z2⟩ := Prod.mk.inj z
            exact Rn.so ⟨z1, by rw [if_neg (Nat.succ_ne_zero i)]; exact z2, rfl, e4.tr k2⟩
        · rintro ⟨a, b, y, m⟩ ⟨e1, e2, e3, e4⟩
          have e1 : a = amI (fun b => 7 - maS s t (fiS s t vals N) b) 100 := e1
          have e3 : y = nI 100 := e3
          subst e3
          refine Rn.e (r := (a, m)) rfl ⟨?_, e4⟩
          rw [e1]; rfl
      obtain ⟨⟨r, m2⟩, q1, q2, q3⟩ := lc
      have q2 : r = nI (amx (fun b => 7 - maS s t (fiS s t vals N) b) 100) := q2
      subst q2
      refine ⟨_, m2, by rw [if_neg cv, q1, bnd_some], q3, fun μ' hr h => ?_⟩
      obtain ⟨h3, h4⟩ := h2 μ' h
      have hr' := hr.q (RQ.th _)
      obtain ⟨v', m3, l1, l2, l3⟩ := r_fits (n := n) hr' hT4 (by omega) h4 (by omega)
      have ev := bs_eq l2 g2
      subst ev
      have lr : Rn (lp n (sX12_look_35 n v') (0, 1, m3)) (fun r => r.1 = nI (amx (fun b => 7 - maS s t (fiS s t vals N) b) 100) ∧ RQ (wI μ' 139 0 0) r.2) := by
        refine Rn.l1 100 (by omega) (fun i q => q.1 = nI (amx (fun b => 7 - maS s t (fiS s t vals N) b) i) ∧ q.2.1 = nI i ∧ RQ (wI μ' 139 0 0) q.2.2) _ (by omega) ⟨rfl, rfl, l3⟩ ?_ ?_
        · rintro i ⟨a, y, m⟩ i1 hi ⟨e1, e3, e4⟩
          have e1 : a = nI (amx (fun b => 7 - maS s t (fiS s t vals N) b) i) := e1
          have e3 : y = nI i := e3
          have e4 : RQ (wI μ' 139 0 0) m := e4
          subst e1; subst e3
          have hl := amx_lt (fun b => 7 - maS s t (fiS s t vals N) b) (n := i) (by omega)
          have q1 := hr'.q e4
          obtain ⟨m', o1, o2⟩ := r_alike (n := n) (k := i) q1 g2 (by omega) (by omega)
          obtain ⟨m'', o3, o4⟩ := r_alike (n := n) (k := amx (fun b => 7 - maS s t (fiS s t vals N) b) i) (q1.q o2) g2 (by omega) (by omega)
          have s1 := sl i
          have s2 := sl (amx (fun b => 7 - maS s t (fiS s t vals N) b) i)
          simp (disch := first | omega | decide) only [sX12_look_35, gd_true, bnd_some, bnd2_some, ix_n, ib_n, add_l, add_r, mul_l, mul_r, nI_add, sub_r, nI_leI, nI_ltI, nI_eq, le_l, le_r, lt_l, lt_r, eq_l, eq_r, eq_m, if_true, if_false, not_false_eq_true, not_true_eq_false, show ¬ 99 < i by omega, o1, o3]
          have ez := amx_s (g := fun b => 7 - maS s t (fiS s t vals N) b) (n := i) (by omega)
          by_cases c : maS s t (fiS s t vals N) (amx (fun b => 7 - maS s t (fiS s t vals N) b) i) ≤ maS s t (fiS s t vals N) i
          · rw [if_pos c]
            refine Rn.so ⟨?_, rfl, (e4.tr o2).tr o4⟩
            rw [ez, if_neg (by omega)]
          · rw [if_neg c]
            refine Rn.so ⟨?_, rfl, (e4.tr o2).tr o4⟩
            rw [ez, if_pos (by omega)]
        · rintro ⟨a, y, m⟩ ⟨e1, e3, e4⟩
          have e3 : y = nI 100 := e3
          subst e3
          exact Rn.e (r := (a, m)) rfl ⟨e1, e4⟩
      obtain ⟨⟨r, m4⟩, o1, o2, o3⟩ := lr
      have o2 : r = nI (amx (fun b => 7 - maS s t (fiS s t vals N) b) 100) := o2
      subst o2
      exact ⟨m4, by rw [h3, bnd_some, if_pos rfl, l1, bnd2_some, if_neg cv, o1, bnd_some], (RQ.th _).tr o3⟩
/-! unlike -/
def ulS (s : SD) (t : ST) (b c : Nat) : Nat → Nat := cnt (fun i => decide (snS s t b i ≠ snS s t c i))
theorem c_unlike {n b c : Nat} {μ : Mu} {s : SD} {t : ST} (hp : CP μ s t) (hb : b < sB s) (hc : c < sB s) (hn : 1000 < n) : ∃ μ', fX11_unlikeHours n (nI b) (nI c) μ = some (nI (ulS s t b c 24), μ') ∧ CQ s μ μ' := by
  have key : Rn (lp n (sX11_unlikeHours_5 n (nI b) (nI c)) (0, 0, μ)) (fun r => r.1 = nI (ulS s t b c 24) ∧ CQ s μ r.2) := by
    refine Rn.l 24 (fun i q => q.1 = nI (ulS s t b c i) ∧ q.2.1 = nI i ∧ CQ s μ q.2.2) _ (by omega) ⟨rfl, rfl, CQ.rfl' hp⟩ ?_ ?_
    · rintro i ⟨x, y, m⟩ hi ⟨e1, e2, e3⟩
      have e1 : x = nI (ulS s t b c i) := e1
      have e2 : y = nI i := e2
      have e3 : CQ s μ m := e3
      subst e1; subst e2
      have q1 := hp.q e3
      obtain ⟨m1, g1, g2⟩ := c_sound (n := n) (b := b) (k := i) q1 hb (by omega) hn
      obtain ⟨m2, g3, g4⟩ := c_sound (n := n) (b := c) (k := i) (q1.q g2) hc (by omega) hn
      have ea : ulS s t b c (i + 1) = ulS s t b c i + (if decide (snS s t b i ≠ snS s t c i) = true then 1 else 0) := rfl
      simp (disch := first | omega | decide) only [sX11_unlikeHours_5, gd_true, bnd_some, bnd2_some, ix_n, ib_n, add_l, add_r, mul_l, mul_r, nI_add, sub_r, nI_leI, nI_ltI, nI_eq, le_l, le_r, lt_l, lt_r, eq_l, eq_r, eq_m, if_true, if_false, not_false_eq_true, not_true_eq_false, show ¬ 24 ≤ i by omega, g1, g3]
      by_cases c2 : snS s t b i = snS s t c i
      · rw [if_pos c2]
        refine Rn.so ⟨?_, rfl, (e3.tr g2).tr g4⟩
        rw [ea]; simp [c2]
      · rw [if_neg c2]
        refine Rn.so ⟨?_, rfl, (e3.tr g2).tr g4⟩
        rw [ea]; simp [c2]
    · rintro ⟨x, y, m⟩ ⟨e1, e2, e3⟩
      have e2 : y = nI 24 := e2
      subst e2
      exact Rn.e (r := (x, m)) rfl ⟨e1, e3⟩
  obtain ⟨⟨x, m⟩, h1, h2, h3⟩ := key
  have h2 : x = nI (ulS s t b c 24) := h2
  subst h2
  exact ⟨m, by unfold fX11_unlikeHours; rw [h1, bnd_some], h3⟩
theorem r_unlike {n b c : Nat} {μ : Mu} {s : SD} {t : ST} (hp : RP μ s t) (hb : b < sB s) (hc : c < sB s) (hn : 1000 < n) : ∃ μ', fX12_unlikeOf n (nI b) (nI c) μ = some (nI (ulS s t b c 24), μ') ∧ RQ μ μ' := by
  have key : Rn (lp n (sX12_unlikeOf_5 n (nI b) (nI c)) (0, 0, μ)) (fun r => r.1 = nI (ulS s t b c 24) ∧ RQ μ r.2) := by
    refine Rn.l 24 (fun i q => q.1 = nI (ulS s t b c i) ∧ q.2.1 = nI i ∧ RQ μ q.2.2) _ (by omega) ⟨rfl, rfl, RQ.rfl' _⟩ ?_ ?_
    · rintro i ⟨x, y, m⟩ hi ⟨e1, e2, e3⟩
      have e1 : x = nI (ulS s t b c i) := e1
      have e2 : y = nI i := e2
      have e3 : RQ μ m := e3
      subst e1; subst e2
      have q1 := hp.q e3
      obtain ⟨m1, g1, g2⟩ := r_sound (n := n) (b := b) (k := i) q1 hb (by omega) hn
      obtain ⟨m2, g3, g4⟩ := r_sound (n := n) (b := c) (k := i) (q1.q g2) hc (by omega) hn
      have ea : ulS s t b c (i + 1) = ulS s t b c i + (if decide (snS s t b i ≠ snS s t c i) = true then 1 else 0) := rfl
      simp (disch := first | omega | decide) only [sX12_unlikeOf_5, gd_true, bnd_some, bnd2_some, ix_n, ib_n, add_l, add_r, mul_l, mul_r, nI_add, sub_r, nI_leI, nI_ltI, nI_eq, le_l, le_r, lt_l, lt_r, eq_l, eq_r, eq_m, if_true, if_false, not_false_eq_true, not_true_eq_false, show ¬ 24 ≤ i by omega, g1, g3]
      refine Rn.so ⟨?_, rfl, (e3.tr g2).tr g4⟩
      rw [ea]
      by_cases c2 : snS s t b i = snS s t c i
      · simp [c2, nI_s0]
      · simp [c2, nI_s1]
    · rintro ⟨x, y, m⟩ ⟨e1, e2, e3⟩
      have e2 : y = nI 24 := e2
      subst e2
      exact Rn.e (r := (x, m)) rfl ⟨e1, e3⟩
  obtain ⟨⟨x, m⟩, h1, h2, h3⟩ := key
  have h2 : x = nI (ulS s t b c 24) := h2
  subst h2
  exact ⟨m, by unfold fX12_unlikeOf; rw [h1, bnd_some], h3⟩
theorem m_unlike {n k : Nat} {sh : List Sh} {R : Rf} {μ : Mu} {x y : Int32} (hI : INV k sh R μ) (hk : k < 512) (hn : 5000 < n) : GO k sh R (fX11_unlike n x y μ) (fX12_unlike n x y) := by
  refine GO.q hI hk fun s t hT hp => ?_
  have hB := hp.2.1.1.2
  have e1 : fX11_unlike n x y μ = if okN x (sB s) = true then (if okN y (sB s) = true then (bnd2 (fX11_unlikeHours n x y μ) fun u8 m9 => some (u8, m9)) else some (-2, μ)) else some (-2, μ) := by
    unfold fX11_unlike
    rw [hp.isB, bnd_some, ifb, hp.isB, bnd_some, ifb]
  have e2 : ∀ μ', RP μ' s t → fX12_unlike n x y μ' = if okN x (sB s) = true then (if okN y (sB s) = true then (bnd2 (fX12_unlikeOf n x y (wI μ' 139 0 0)) fun u8 m9 => some (u8, m9)) else some (-2, wI μ' 139 0 0)) else some (-2, wI μ' 139 0 0) := by
    intro μ' h
    have h' := h.q (RQ.th _)
    unfold fX12_unlike
    rw [h'.isB, bnd_some, ifb, h'.isB, bnd_some, ifb]
  by_cases k1 : okN x (sB s) = true
  · by_cases k2 : okN y (sB s) = true
    · obtain ⟨b, hb, rfl⟩ := okN_of k1 (by omega)
      obtain ⟨c, hc, rfl⟩ := okN_of k2 (by omega)
      obtain ⟨m1, g1, g2⟩ := c_unlike (n := n) hp hb hc (by omega)
      refine ⟨_, m1, by rw [e1, if_pos k1, if_pos k2, g1, bnd2_some], g2, fun μ' h _ => ?_⟩
      obtain ⟨m2, l1, l2⟩ := r_unlike (n := n) (h.q (RQ.th _)) hb hc (by omega)
      exact ⟨m2, by rw [e2 μ' h, if_pos k1, if_pos k2, l1, bnd2_some], (RQ.th _).tr l2⟩
    · exact ⟨-2, μ, by rw [e1, if_pos k1, if_neg k2], CQ.rfl' hp, fun μ' h _ => ⟨_, by rw [e2 μ' h, if_pos k1, if_neg k2], RQ.th _⟩⟩
  · exact ⟨-2, μ, by rw [e1, if_neg k1], CQ.rfl' hp, fun μ' h _ => ⟨_, by rw [e2 μ' h, if_neg k1], RQ.th _⟩⟩
