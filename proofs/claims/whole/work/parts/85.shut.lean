/-! SHUT and TAKE -/
def tkS (m : Nat) (t : ST) : ST := (t.1, fun k => if m.testBit k = true then 6 else tHo t k, t.2.2)
theorem TV_tk {s : SD} {t : ST} (m : Nat) (h : TV s t) : TV s (tkS m t) := ⟨h.1, h.2.1, fun k hk => by
  show (if m.testBit k = true then 6 else tHo t k) < sP s ∨ (if m.testBit k = true then 6 else tHo t k) = 6
  split
  · exact Or.inr rfl
  · exact h.2.2.1 k hk, h.2.2.2⟩
def lsB (o : Option Nat) (m : Nat) : Bool := match o with | none => true | some j => decide (pcN m < pcN j)
def fwO (W : Nat → Bool) : Nat → Option Nat
  | 0 => none
  | m + 1 => if (lsB (fwO W m) m && W m) = true then some m else fwO W m
def isL (W : Nat → Bool) (M j : Nat) : Prop := j < M ∧ W j = true ∧ ∀ i, i < M → W i = true → pcN j < pcN i ∨ (pcN j = pcN i ∧ j ≤ i)
theorem fw_is (W : Nat → Bool) : ∀ m, (fwO W m = none ∧ ∀ i, i < m → W i = false) ∨ ∃ j, fwO W m = some j ∧ isL W m j
  | 0 => Or.inl ⟨rfl, fun i hi => absurd hi (Nat.not_lt_zero _)⟩
  | m + 1 => by
    have es : fwO W (m + 1) = if (lsB (fwO W m) m && W m) = true then some m else fwO W m := rfl
    rcases fw_is W m with ⟨h1, h2⟩ | ⟨j, h1, h2, h3, h4⟩
    · rw [es, h1]
      by_cases c : W m = true
      · right
        refine ⟨m, by rw [c]; rfl, by omega, c, fun i hi hw => ?_⟩
        by_cases e : i = m
        · right; rw [e]; exact ⟨rfl, Nat.le_refl _⟩
        · rw [h2 i (by omega)] at hw; cases hw
      · have c' : W m = false := by simpa using c
        left
        refine ⟨by rw [c']; rfl, fun i hi => ?_⟩
        by_cases e : i = m
        · rw [e]; exact c'
        · exact h2 i (by omega)
    · right
      rw [es, h1]
      by_cases c : (lsB (some j) m && W m) = true
      · rw [if_pos c]
        rw [Bool.and_eq_true] at c
        have c1 : pcN m < pcN j := of_decide_eq_true c.1
        refine ⟨m, rfl, by omega, c.2, fun i hi hw => ?_⟩
        by_cases e : i = m
        · right; rw [e]; exact ⟨rfl, Nat.le_refl _⟩
        · rcases h4 i (by omega) hw with q | q
          · left; omega
          · left; omega
      · rw [if_neg c]
        refine ⟨j, rfl, by omega, h3, fun i hi hw => ?_⟩
        by_cases e : i = m
        · rw [e] at hw ⊢
          rw [hw, Bool.and_true] at c
          have c1 : ¬ pcN m < pcN j := fun q => c (decide_eq_true q)
          omega
        · exact h4 i (by omega) hw
theorem fw_of {W : Nat → Bool} {M j : Nat} (h : isL W M j) : fwO W M = some j := by
  rcases fw_is W M with ⟨h1, h2⟩ | ⟨i, h1, h2⟩
  · have := h2 j h.1; rw [h.2.1] at this; cases this
  · have a := h.2.2 i h2.1 h2.2.1
    have b := h2.2.2 j h.1 h.2.1
    rw [h1, show i = j by omega]
theorem fw_none {W : Nat → Bool} {M : Nat} (h : ∀ i, i < M → W i = false) : fwO W M = none := by
  rcases fw_is W M with ⟨h1, h2⟩ | ⟨i, h1, h2⟩
  · exact h1
  · have := h i h2.1; rw [h2.2.1] at this; cases this
theorem fw_lt {W : Nat → Bool} {M j : Nat} (h : fwO W M = some j) : j < M := by
  rcases fw_is W M with ⟨h1, h2⟩ | ⟨i, h1, h2⟩
  · rw [h1] at h; cases h
  · rw [h1] at h; cases h; exact h2.1
theorem pc_lt : ∀ C, C ≤ 10 → ∀ m, m < 2 ^ C - 1 → pcN m < C := by decide +kernel
theorem pc_top : ∀ C, C ≤ 10 → pcN (2 ^ C - 1) = C := by decide +kernel
theorem pw10 {C : Nat} (h : C ≤ 10) : 2 ^ C ≤ 1024 := by
  have : 2 ^ C ≤ 2 ^ 10 := Nat.pow_le_pow_right (by omega) h
  omega
theorem bs_natK {m K : Nat} (h : m < 2 ^ K) : bs (nI m) K (fun i => m.testBit i) := fun i hi => by
  rw [b_nI _ _ hi]
  by_cases c : i < K
  · simp [c]
  · rw [decide_eq_false c, Bool.false_and]
    exact Nat.testBit_lt_two_pow (Nat.lt_of_lt_of_le h (Nat.pow_le_pow_right (n := 2) (by omega) (show K ≤ i by omega)))
def nosI (o : Option Nat) (y : Int32) : Int32 := match o with | none => -1 | some j => if y = 0 then nI (pcN j) else nI j
theorem c_nos {n : Nat} {W : Nat → Bool} {M : Nat} {y : Int32} {μ : Mu} (hM : M ≤ 1024) : fX11_numberOrSet n (bsI (fwO W M)) y μ = some (nosI (fwO W M) y) := by
  unfold fX11_numberOrSet
  cases h : fwO W M with
  | none => rfl
  | some j =>
    have := fw_lt h
    show (if nI j = -1 then _ else _) = _
    rw [if_neg (nI_m1 (by omega))]
    show _ = some (if y = 0 then nI (pcN j) else nI j)
    split
    · exact congrArg some (bitc_all j (by omega))
    · rfl
theorem r_nos {n : Nat} {W : Nat → Bool} {M : Nat} {y : Int32} {μ : Mu} (hM : M ≤ 1024) (hy : y = 0 ∨ y = 1) (hn : 1000 < n) : (if bsI (fwO W M) = (-1) then (some (bsI (fwO W M), μ)) else (if y = 1 then (some (bsI (fwO W M), μ)) else (bnd (fX12_bitsOf n (bsI (fwO W M)) μ) fun u19 => some (u19, μ)))) = some (nosI (fwO W M) y, μ) := by
  cases h : fwO W M with
  | none => rfl
  | some j =>
    have := fw_lt h
    show (if nI j = -1 then some (nI j, μ) else (if y = 1 then some (nI j, μ) else (bnd (fX12_bitsOf n (nI j) μ) fun u19 => some (u19, μ)))) = some (if y = 0 then nI (pcN j) else nI j, μ)
    rw [if_neg (nI_m1 (by omega)), show fX12_bitsOf n (nI j) μ = some (nI (pcN j)) from f_bitsOf (bs_nat (by omega)) (by omega) (by omega), bnd_some]
    rcases hy with e | e <;> subst e <;> rfl
/-! the reference: with some currents shut, with some shells away -/
theorem r_hear7 {n b w N : Nat} {μ : Mu} {s : SD} {t : ST} {x : Nat → Bool} (h : RX μ s t x) (hb : b < sB s) (hw : w ≤ 100) (hN : N ≤ 100) (hn : 1000 < n) : ∃ v m', fX12_hearersOf n (nI b) (nI w) (nI N) μ = some (v, m') ∧ bs v (sP s) (erS s x t b w N) ∧ RQ μ m' ∧ ∀ j, rI m' 147 j = rI μ 147 j := by
  obtain ⟨m1, k1, k2, k3⟩ := f_keeps (n := n) μ hn
  have h1 : RX m1 s t x := h.q (k3.mono fun a i q => by unfold QR; omega)
  obtain ⟨m2, g1, g2, g3⟩ := r_calls (n := n) (b := b) (w := w) (N := N) h1 hb hw hN hn
  obtain ⟨m3, l1, l2, l3⟩ := r_again (n := n) k2 k3 (g3.mono fun _ _ => PR_PG) hn
  refine ⟨rI m2 140 92, m3, ?_, ?_, l2, fun j => ?_⟩
  · unfold fX12_hearersOf
    rw [k1, bnd_some, g1, bnd_some, l1, bnd_some]
  · exact (g2.2.2.2.2.2 0 (by rw [ca_W]; omega)).2.2.1
  · rw [l3 _ _ (by decide), g3.i (fun q => by unfold PR at q; omega), k3.i (by decide)]
def PW : Nat → Nat → Prop := fun a i => a = 147 ∨ (a = 140 ∧ 68 ≤ i ∧ i < 76)
theorem r_laid {n m : Nat} {x1 x2 x3 z : Int32} (μ : Mu) (hz : z = 0 ∨ z = 1) (hn : 1000 < n) : Rn (lp n (sX12_isWithout_3 n x1 x2 x3 z (nI m)) (0, μ)) (fun q => (∀ j, j < 8 → rI q 147 j = rI μ 140 (68 + j)) ∧ (∀ j, j < 8 → rI q 140 (68 + j) = if z = 1 ∧ m.testBit j = true then -1 else rI μ 140 (68 + j)) ∧ Fg PW μ q) := by
  refine Rn.l 8 (fun i q => q.1 = nI i ∧ (∀ j, j < i → rI q.2 147 j = rI μ 140 (68 + j)) ∧ (∀ j, j < 8 → rI q.2 140 (68 + j) = if j < i ∧ z = 1 ∧ m.testBit j = true then -1 else rI μ 140 (68 + j)) ∧ Fg PW μ q.2) _ (by omega) ⟨rfl, fun j hj => absurd hj (Nat.not_lt_zero _), fun j _ => by rw [if_neg (fun q => absurd q.1 (Nat.not_lt_zero _))], Fg.rfl' _ _⟩ ?_ ?_
  · rintro i ⟨x, q⟩ hi ⟨e1, e2, e3, e4⟩
    have e1 : x = nI i := e1
    subst e1
    have e2 : ∀ j, j < i → rI q 147 j = rI μ 140 (68 + j) := e2
    have e3 : ∀ j, j < 8 → rI q 140 (68 + j) = if j < i ∧ z = 1 ∧ m.testBit j = true then -1 else rI μ 140 (68 + j) := e3
    have e4 : Fg PW μ q := e4
    have w1 : Fg PW μ (wI q 147 i (rI q 140 (68 + i))) := e4.w (Or.inl rfl) _
    have w2 : Fg PW μ (wI (wI q 147 i (rI q 140 (68 + i))) 140 (68 + i) (-1)) := w1.w (Or.inr ⟨rfl, by omega, by omega⟩) _
    have r0 : rI q 140 (68 + i) = rI μ 140 (68 + i) := by rw [e3 i hi, if_neg (fun q => absurd q.1 (Nat.lt_irrefl _))]
    have a1 : ∀ j, j < i + 1 → rI (wI q 147 i (rI q 140 (68 + i))) 147 j = rI μ 140 (68 + j) := fun j hj => by
      by_cases e : j = i
      · rw [e, rI_same, r0]
      · rw [rI_ii e]; exact e2 j (by omega)
    have isin : ∀ q', fX12_isIn n (nI m).toInt64 (nI i) q' = some (if m.testBit i = true then 1 else 0) := fun q' => by
      rw [f_isIn q' (by omega), b_nI _ _ (by omega)]
    have same : (¬ (z = 1 ∧ m.testBit i = true)) → ∀ j, j < 8 → rI (wI q 147 i (rI q 140 (68 + i))) 140 (68 + j) = if j < i + 1 ∧ z = 1 ∧ m.testBit j = true then -1 else rI μ 140 (68 + j) := fun h j hj => by
      rw [rI_ai (by decide), e3 j hj]
      by_cases e : j = i
      · rw [e, if_neg (fun q => h q.2), if_neg (fun q => h q.2)]
      · have : (j < i) ↔ (j < i + 1) := by omega
        simp only [this]
    simp (disch := first | omega | decide) only [sX12_isWithout_3, gd_true, bnd_some, bnd2_some, ix_n, ib_n, add_l, add_r, mul_l, mul_r, nI_add, sub_r, nI_leI, nI_ltI, nI_eq, le_l, le_r, lt_l, lt_r, eq_l, eq_r, eq_m, if_true, if_false, not_false_eq_true, not_true_eq_false, show ¬ 8 ≤ i by omega, isin, ifb]
    rcases hz with hz | hz
    · subst hz
      rw [if_pos rfl]
      exact Rn.so ⟨rfl, a1, same (fun q => absurd q.1 (by decide)), w1⟩
    · subst hz
      rw [if_neg (by decide)]
      by_cases c : m.testBit i = true
      · rw [if_pos c]
        refine Rn.so ⟨rfl, fun j hj => ?_, fun j hj => ?_, w2⟩
        · show rI (wI (wI q 147 i (rI q 140 (68 + i))) 140 (68 + i) (-1)) 147 j = _
          rw [rI_ai (by decide)]; exact a1 j hj
        · show rI (wI (wI q 147 i (rI q 140 (68 + i))) 140 (68 + i) (-1)) 140 (68 + j) = _
          by_cases e : j = i
          · rw [e, rI_same, if_pos ⟨by omega, rfl, c⟩]
          · rw [rI_ii (by omega), rI_ai (by decide), e3 j hj]
            have : (j < i) ↔ (j < i + 1) := by omega
            simp only [this]
      · rw [if_neg c]
        exact Rn.so ⟨rfl, a1, same (fun q => c q.2), w1⟩
  · rintro ⟨x, q⟩ ⟨e1, e2, e3, e4⟩
    have e1 : x = nI 8 := e1
    subst e1
    have e3 : ∀ j, j < 8 → rI q 140 (68 + j) = if j < 8 ∧ z = 1 ∧ m.testBit j = true then -1 else rI μ 140 (68 + j) := e3
    refine Rn.e (r := q) rfl ⟨e2, fun j hj => ?_, e4⟩
    rw [e3 j hj]
    have : (j < 8) ↔ True := iff_true_intro hj
    simp only [this, true_and]
theorem r_back {n : Nat} {y : Int32} (μ : Mu) (hn : 1000 < n) : Rn (lp n (sX12_isWithout_100 n y) (0, μ)) (fun q => (∀ j, j < 8 → rI q 140 (68 + j) = rI μ 147 j) ∧ Fg (fun a i => a = 140 ∧ 68 ≤ i ∧ i < 76) μ q) := by
  refine Rn.l 8 (fun i q => q.1 = nI i ∧ (∀ j, j < i → rI q.2 140 (68 + j) = rI μ 147 j) ∧ Fg (fun a i => a = 140 ∧ 68 ≤ i ∧ i < 76) μ q.2) _ (by omega) ⟨rfl, fun j hj => absurd hj (Nat.not_lt_zero _), Fg.rfl' _ _⟩ ?_ ?_
  · rintro i ⟨x, q⟩ hi ⟨e1, e2, e4⟩
    have e1 : x = nI i := e1
    subst e1
    have e2 : ∀ j, j < i → rI q 140 (68 + j) = rI μ 147 j := e2
    have e4 : Fg (fun a i => a = 140 ∧ 68 ≤ i ∧ i < 76) μ q := e4
    simp (disch := first | omega | decide) only [sX12_isWithout_100, gd_true, bnd_some, bnd2_some, ix_n, ib_n, add_l, add_r, mul_l, mul_r, nI_add, sub_r, nI_leI, nI_ltI, nI_eq, le_l, le_r, lt_l, lt_r, eq_l, eq_r, eq_m, if_true, if_false, not_false_eq_true, not_true_eq_false, show ¬ 8 ≤ i by omega]
    refine Rn.so ⟨rfl, fun j hj => ?_, e4.w ⟨rfl, by omega, by omega⟩ _⟩
    show rI (wI q 140 (68 + i) (rI q 147 i)) 140 (68 + j) = _
    by_cases e : j = i
    · rw [e, rI_same, e4.i (fun q => absurd q.1 (by decide))]
    · rw [rI_ii (by omega)]; exact e2 j (by omega)
  · rintro ⟨x, q⟩ ⟨e1, e2, e4⟩
    have e1 : x = nI 8 := e1
    subst e1
    exact Rn.e (r := q) rfl ⟨e2, e4⟩
theorem bs_e {x y : Int32} {n : Nat} {f : Nat → Bool} (e : x = y) (h : bs y n f) : bs x n f := e ▸ h
def wtS (s : SD) (t : ST) (b p N : Nat) (z : Int32) (m : Nat) : Bool := !erS s (if z = 0 then (fun i => m.testBit i) else no) (if z = 0 then t else tkS m t) b 0 N p
theorem r_without {n b p N m : Nat} {z : Int32} {μ : Mu} {s : SD} {t : ST} (hp : RP μ s t) (hz : z = 0 ∨ z = 1) (hb : b < sB s) (hpp : p < sP s) (hN : N ≤ 48) (hm : m < 1024) (hn : 5000 < n) : ∃ m', fX12_isWithout n (nI b) (nI p) (nI N) z (nI m) μ = some (if wtS s t b p N z m = true then 1 else 0, m') ∧ RQ μ m' := by
  have hP := hp.2.1.2.2.1
  have hS := hp.2.1.2.2.2.1
  obtain ⟨m1, g1, g2, g3, g4⟩ := r_laid (n := n) (m := m) (x1 := nI b) (x2 := nI p) (x3 := nI N) μ hz (by omega)
  have nP : ∀ i, ¬ (68 ≤ i ∧ i < 76) → ¬ PW 140 i := fun i hi q => by unfold PW at q; omega
  have rx : RX (wI m1 139 19 (if z = 0 then nI m else 0)) s (if z = 0 then t else tkS m t) (if z = 0 then (fun i => m.testBit i) else no) := by
    refine ⟨hp.1.congr hp.2.1 fun j hj => by rw [rI_ai (by decide)]; exact g4.i (nP _ (by omega)), hp.2.1, ?_, ?_, ?_, ?_⟩
    · obtain ⟨h0, h1, h2, h3, h4, h5⟩ := hp.2.2.1
      have u : ∀ j, ¬ (4 ≤ j ∧ j < 12) → rI (wI m1 139 19 (if z = 0 then nI m else 0)) 140 (64 + j) = rI μ 140 (64 + j) := fun j hj => by
        rw [rI_ai (by decide)]; exact g4.i (nP _ (by omega))
      have hh : ∀ k, k < sS s → rI (wI m1 139 19 (if z = 0 then nI m else 0)) 140 (64 + (4 + k)) = e6 (tHo (if z = 0 then t else tkS m t) k) := fun k hk => by
        rw [rI_ai (by decide), show 64 + (4 + k) = 68 + k by omega, g3 k (by omega)]
        have h4 : rI μ 140 (68 + k) = e6 (tHo t k) := by rw [show 68 + k = 64 + (4 + k) by omega]; exact h4 k hk
        rcases hz with hz | hz
        · subst hz; rw [if_neg (fun q => absurd q.1 (by decide)), h4]; rfl
        · subst hz
          show _ = e6 (if m.testBit k = true then 6 else tHo t k)
          by_cases c : m.testBit k = true
          · rw [if_pos ⟨rfl, c⟩, if_pos c]; rfl
          · rw [if_neg (fun q => c q.2), if_neg c, h4]
      rcases hz with hz | hz
      · subst hz
        exact ⟨(u 0 (by omega)).trans h0, (u 1 (by omega)).trans h1, (u 2 (by omega)).trans h2, (u 3 (by omega)).trans h3, hh, fun w hw => by
          have hw8 := hp.2.2.2.1.2.1
          have hw : w < tW t := hw
          obtain ⟨a, b', c, d⟩ := h5 w hw
          exact ⟨bs_e (u (12 + w) (by omega)) a, bs_e (u (20 + w) (by omega)) b', bs_e (u (28 + w) (by omega)) c, fun q hq => (u (36 + 10 * w + q) (by omega)).trans (d q hq)⟩⟩
      · subst hz
        exact ⟨(u 0 (by omega)).trans h0, (u 1 (by omega)).trans h1, (u 2 (by omega)).trans h2, (u 3 (by omega)).trans h3, hh, fun w hw => by
          have hw8 := hp.2.2.2.1.2.1
          have hw : w < tW t := hw
          obtain ⟨a, b', c, d⟩ := h5 w hw
          exact ⟨bs_e (u (12 + w) (by omega)) a, bs_e (u (20 + w) (by omega)) b', bs_e (u (28 + w) (by omega)) c, fun q hq => (u (36 + 10 * w + q) (by omega)).trans (d q hq)⟩⟩
    · rcases hz with hz | hz
      · subst hz; exact hp.2.2.2.1
      · subst hz; exact TV_tk m hp.2.2.2.1
    · rcases hz with hz | hz
      · subst hz; exact hp.2.2.2.2.1
      · subst hz; exact hp.2.2.2.2.1
    · rw [rI_same]
      rcases hz with hz | hz
      · subst hz; exact bs_nat hm
      · subst hz; exact bs_0 _
  obtain ⟨v, m2, k1, k2, k3, k4⟩ := r_hear7 (n := n) (b := b) (w := 0) (N := N) rx hb (by omega) (by omega) (by omega)
  obtain ⟨m3, l1, l2, l3⟩ := r_back (n := n) (y := if wtS s t b p N z m = true then 1 else 0) (wI m2 139 19 0) (by omega)
  have k1 : fX12_hearersOf n (nI b) 0 (nI N) (wI m1 139 19 (if z = 0 then nI m else 0)) = some (v, m2) := k1
  have bv : bt v p = !wtS s t b p N z m := by rw [bs_at k2 hpp (by omega)]; unfold wtS; rw [Bool.not_not]
  have cond : (if (if bt v p = true then (1 : Int32) else 0) = 0 then (1 : Int32) else 0) = if wtS s t b p N z m = true then 1 else 0 := by
    rw [bv]; cases wtS s t b p N z m <;> rfl
  refine ⟨m3, ?_, fun a i hi => ?_, fun a i h0 hi => ?_⟩
  · unfold fX12_isWithout fX12_isHearer
    rw [g1, bnd_some]
    show bnd2 (bnd2 (fX12_hearersOf n (nI b) 0 (nI N) (wI m1 139 19 (if z = 0 then nI m else 0))) _) _ = _
    rw [k1, bnd2_some, f_isIn _ (by omega), bnd_some, isb_01, gd_true, bnd2_some, cond, l1, bnd_some, isb_01]
    rfl
  · have n1 : ¬ PW a i ∨ PW a i := (Classical.em _).symm
    by_cases e : a = 140 ∧ 68 ≤ i ∧ i < 76
    · obtain ⟨rfl, e1, e2⟩ := e
      obtain ⟨j, rfl⟩ : ∃ j, i = 68 + j := ⟨i - 68, by omega⟩
      rw [l2 j (by omega), rI_ai (by decide), k4, rI_ai (by decide), g2 j (by omega)]
    · rw [l3.i e]
      by_cases e2 : a = 139 ∧ i = 19
      · rw [e2.1, e2.2, rI_same]; exact hp.2.2.2.2.2.symm
      · rw [rw_I, if_neg e2, k3.i hi, rw_I, if_neg e2]
        exact g4.i (fun q => by
          rcases q with q | q
          · exact hi (Or.inr ⟨by omega, by omega⟩)
          · exact e q)
  · rw [l3.2 a i h0 (fun j q => h0 q.1)]
    show rL m2 a i = _
    rw [k3.2 a i h0 hi]
    show rL m1 a i = _
    refine g4.2 a i h0 fun j q => ?_
    rcases q with q | q
    · exact hi j (Or.inr ⟨by omega, by omega⟩)
    · exact h0 q.1
theorem r_fewest {n K c : Nat} {x1 x2 x3 z : Int32} {W : Nat → Bool} {μ : Mu} (hK : K ≤ 10) (hz : (z = 0 ∧ c = 2) ∨ (z = 1 ∧ c = 4)) (hc : rI μ 140 c = nI K) (hW : ∀ m, m < 2 ^ K → ∀ q, RQ μ q → ∃ q', fX12_isWithout n x1 x2 x3 z (nI m) q = some (if W m = true then 1 else 0, q') ∧ RQ μ q') (hn : 5000 < n) : ∃ m', fX12_fewestFor n x1 x2 x3 z μ = some (bsI (fwO W (2 ^ K)), m') ∧ RQ μ m' := by
  have pw := pw10 hK
  have hstep : ∀ x5 x6 q, RQ μ q → sX12_fewestFor_6 n x1 x2 x3 z (x5, x6, q) = jX12_fewestFor_29 n x1 x2 x3 z x5 x6 (nI K) 1 x6 q := fun x5 x6 q hq => by
    have e : rI q 140 c = nI K := by rw [hq.i (fun q => by unfold QR at q; omega)]; exact hc
    rcases hz with ⟨h1, h2⟩ | ⟨h1, h2⟩
    · subst h1; subst h2
      show (if (0 : Int32) = 0 then jX12_fewestFor_29 n x1 x2 x3 0 x5 x6 (rI q 140 2) 1 x6 q else jX12_fewestFor_29 n x1 x2 x3 0 x5 x6 (rI q 140 4) 1 x6 q) = _
      rw [if_pos rfl, e]
    · subst h1; subst h2
      show (if (1 : Int32) = 0 then jX12_fewestFor_29 n x1 x2 x3 1 x5 x6 (rI q 140 2) 1 x6 q else jX12_fewestFor_29 n x1 x2 x3 1 x5 x6 (rI q 140 4) 1 x6 q) = _
      rw [if_neg (by decide), e]
  have key : Rn (lp n (sX12_fewestFor_6 n x1 x2 x3 z) (-1, 0, μ)) (fun r => r.1 = bsI (fwO W (2 ^ K)) ∧ RQ μ r.2) := by
    refine Rn.l (2 ^ K) (fun m q => q.1 = bsI (fwO W m) ∧ q.2.1 = nI m ∧ RQ μ q.2.2) _ (by omega) ⟨rfl, rfl, RQ.rfl' _⟩ ?_ ?_
    · rintro m ⟨v, y, q⟩ hm ⟨e1, e2, e3⟩
      have e1 : v = bsI (fwO W m) := e1
      have e2 : y = nI m := e2
      have e3 : RQ μ q := e3
      subst e1; subst e2
      obtain ⟨q', w1, w2⟩ := hW m hm q e3
      have es : fwO W (m + 1) = if (lsB (fwO W m) m && W m) = true then some m else fwO W m := rfl
      have b1 : fX12_bitsOf n (nI m) q = some (nI (pcN m)) := f_bitsOf (bs_nat (by omega)) (by omega) (by omega)
      have pl : pcN m ≤ 10 := cnt_le _ _
      rw [hstep _ _ _ e3]
      unfold jX12_fewestFor_29
      rw [shl_B K hK, if_neg (fun e => by have := (nI_leI (by omega) (by omega)).mp e; omega)]
      have go : lsB (fwO W m) m = true → Rn (jX12_fewestFor_55 n x1 x2 x3 z (bsI (fwO W m)) (nI m) q) (OE (fun q : Int32 × Int32 × Mu => q.1 = bsI (fwO W (m + 1)) ∧ q.2.1 = nI (m + 1) ∧ RQ μ q.2.2) (fun r : Int32 × Mu => r.1 = bsI (fwO W (2 ^ K)) ∧ RQ μ r.2)) := fun hl => by
        unfold jX12_fewestFor_55
        rw [w1, bnd2_some, ifb]
        rw [hl, Bool.true_and] at es
        by_cases c : W m = true
        · rw [if_pos c] at es ⊢
          exact Rn.so ⟨by rw [es]; rfl, nI_add m 1, w2⟩
        · rw [if_neg c] at es ⊢
          exact Rn.so ⟨by rw [es], nI_add m 1, w2⟩
      cases ho : fwO W m with
      | none =>
        rw [ho] at go
        rw [if_pos (show bsI none = -1 from rfl)]
        exact go rfl
      | some j =>
        rw [ho] at go es
        have jl := fw_lt ho
        have b2 : fX12_bitsOf n (bsI (some j)) q = some (nI (pcN j)) := f_bitsOf (bs_nat (by omega)) (by omega) (by omega)
        have pj : pcN j ≤ 10 := cnt_le _ _
        rw [if_neg (show ¬ bsI (some j) = -1 from nI_m1 (by omega)), b1, bnd_some, b2, bnd_some]
        by_cases c : pcN m < pcN j
        · rw [if_pos ((nI_ltI (by omega) (by omega)).mpr c)]
          exact go (decide_eq_true c)
        · rw [if_neg (fun e => c ((nI_ltI (by omega) (by omega)).mp e))]
          refine Rn.so ⟨?_, nI_add m 1, e3⟩
          rw [es, show lsB (some j) m = false from decide_eq_false c]; rfl
    · rintro ⟨v, y, q⟩ ⟨e1, e2, e3⟩
      have e2 : y = nI (2 ^ K) := e2
      have e3 : RQ μ q := e3
      subst e2
      rw [hstep _ _ _ e3]
      unfold jX12_fewestFor_29
      exact Rn.e (r := (v, q)) (ite_le (shl_B K hK)) ⟨e1, e3⟩
  obtain ⟨⟨v, q⟩, h1, h2, h3⟩ := key
  have h2 : v = bsI (fwO W (2 ^ K)) := h2
  rw [h2] at h1
  exact ⟨q, by unfold fX12_fewestFor; rw [h1, bnd_some], h3⟩
