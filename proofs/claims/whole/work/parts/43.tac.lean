/-! rows by which simp runs the functions -/
theorem gd_true {α : Type} (k : Option α) : gd true k = k := rfl
theorem bnd_some {α β : Type} (a : α) (k : α → Option β) : bnd (some a) k = k a := rfl
theorem bnd2_some {α β γ : Type} (a : α) (b : β) (k : α → β → Option γ) : bnd2 (some (a, b)) k = k a b := rfl
theorem ix_n {k : Nat} (h : k < 2147483648) : ix (nI k) = k := nI_clamp (by omega)
theorem ib_n {k N : Nat} (h : k < N) (hN : N < 2147483648) : ib (nI k) N = true := ib_nI h (by omega)
theorem add_l (k i : Nat) : (no_index (OfNat.ofNat k) : Int32) + nI i = nI ((OfNat.ofNat k : Nat) + i) := nI_add k i
theorem add_r (k i : Nat) : nI i + (no_index (OfNat.ofNat k) : Int32) = nI (i + (OfNat.ofNat k : Nat)) := nI_add i k
theorem mul_l (k i : Nat) : (no_index (OfNat.ofNat k) : Int32) * nI i = nI ((OfNat.ofNat k : Nat) * i) := pk_mul k i
theorem mul_r (k i : Nat) : nI i * (no_index (OfNat.ofNat k) : Int32) = nI (i * (OfNat.ofNat k : Nat)) := pk_mul i k
theorem sub_r {k i : Nat} (h : (OfNat.ofNat k : Nat) ≤ i) : nI i - (no_index (OfNat.ofNat k) : Int32) = nI (i - (OfNat.ofNat k : Nat)) := pk_sub h
theorem le_l {k i : Nat} (hk : (OfNat.ofNat k : Nat) < 2147483648) (hi : i < 2147483648) : (no_index (OfNat.ofNat k) : Int32) ≤ nI i ↔ (OfNat.ofNat k : Nat) ≤ i := nI_leI (a := k) hk (by omega)
theorem le_r {k i : Nat} (hk : (OfNat.ofNat k : Nat) < 2147483648) (hi : i < 2147483648) : nI i ≤ (no_index (OfNat.ofNat k) : Int32) ↔ i ≤ (OfNat.ofNat k : Nat) := nI_leI (b := k) (by omega) hk
theorem lt_l {k i : Nat} (hk : (OfNat.ofNat k : Nat) < 2147483648) (hi : i < 2147483648) : (no_index (OfNat.ofNat k) : Int32) < nI i ↔ (OfNat.ofNat k : Nat) < i := nI_ltI (a := k) hk (by omega)
theorem lt_r {k i : Nat} (hk : (OfNat.ofNat k : Nat) < 2147483648) (hi : i < 2147483648) : nI i < (no_index (OfNat.ofNat k) : Int32) ↔ i < (OfNat.ofNat k : Nat) := nI_ltI (b := k) (by omega) hk
theorem eq_l {k i : Nat} (hk : (OfNat.ofNat k : Nat) < 2147483648) (hi : i < 2147483648) : (no_index (OfNat.ofNat k) : Int32) = nI i ↔ (OfNat.ofNat k : Nat) = i := nI_eq (a := k) hk (by omega)
theorem eq_r {k i : Nat} (hk : (OfNat.ofNat k : Nat) < 2147483648) (hi : i < 2147483648) : nI i = (no_index (OfNat.ofNat k) : Int32) ↔ i = (OfNat.ofNat k : Nat) := nI_eq (b := k) (by omega) hk
theorem eq_m {i : Nat} (hi : i < 2147483648) : (nI i = -1) = False := eq_false (nI_m1 (by omega))
theorem ite01 (b : Bool) : (if b = true then (1 : Int32) else 0) = nI (if b = true then 1 else 0) := by cases b <;> rfl
theorem ite10 (b : Bool) : (if b = true then (0 : Int32) else 1) = nI (if b = true then 0 else 1) := by cases b <;> rfl
theorem isb_01 (b : Bool) : isb (if b = true then 1 else 0) = true := by cases b <;> decide
/-! the reference: small functions -/
theorem f_isIn {n : Nat} {v : Int32} {k : Nat} (μ : Mu) (hk : k < 32) : fX12_isIn n v.toInt64 (nI k) μ = some (if bt v k = true then 1 else 0) := by
  have key : ((v.toInt64 >>> ((nI k).toInt64 &&& 63)) &&& 1 = 1) ↔ bt v k = true := by
    have e : ∀ k, k < 32 → (((nI k).toInt64 &&& 63).toBitVec.smod 64).toNat = k := by decide +kernel
    have e2 : (v.toInt64 >>> ((nI k).toInt64 &&& 63)).toBitVec.getLsbD 0 = bt v k := by
      rw [Int64.toBitVec_shiftRight]
      show (v.toInt64.toBitVec.sshiftRight (((nI k).toInt64 &&& 63).toBitVec.smod 64).toNat).getLsbD 0 = _
      rw [e k hk, BitVec.getLsbD_sshiftRight]
      show _ = v.toBitVec.getLsbD k
      have h3 : v.toInt64.toBitVec = v.toBitVec.signExtend 64 := rfl
      rw [h3, BitVec.getLsbD_signExtend]
      simp [hk, show k < 64 by omega]
    have e4 : ∀ i, i < 64 → (1 : Int64).toBitVec.getLsbD i = decide (i = 0) := by decide +kernel
    constructor
    · intro h
      have h2 := congrArg (fun x : Int64 => x.toBitVec.getLsbD 0) h
      simp only [Int64.toBitVec_and, BitVec.getLsbD_and, e2, e4 0 (by omega)] at h2
      simpa using h2
    · intro h
      refine Int64.toBitVec_inj.mp (BitVec.eq_of_getLsbD_eq fun i hi => ?_)
      rw [Int64.toBitVec_and, BitVec.getLsbD_and, e4 i hi]
      by_cases h0 : i = 0
      · subst h0; rw [e2, h]; rfl
      · simp [h0]
  unfold fX12_isIn
  simp only [lgc_eq]
  by_cases h : bt v k = true
  · rw [if_pos (key.mpr h), if_pos h]
  · rw [if_neg (fun q => h (key.mp q)), if_neg h]
theorem f_within {n : Nat} {x a b : Int64} (μ : Mu) : fX12_within n x a b μ = some (if decide (a ≤ x ∧ x ≤ b) = true then 1 else 0) := by
  unfold fX12_within
  simp only [lgc_lt, lgc_gt]
  by_cases h1 : x < a
  · rw [if_pos h1, if_neg]
    simp only [decide_eq_true_eq, Int64.lt_iff_toInt_lt, Int64.le_iff_toInt_le] at h1 ⊢
    omega
  · rw [if_neg h1]
    by_cases h2 : b < x
    · rw [if_pos h2, if_neg]
      simp only [decide_eq_true_eq, Int64.lt_iff_toInt_lt, Int64.le_iff_toInt_le] at h1 h2 ⊢
      omega
    · rw [if_neg h2, if_pos]
      simp only [decide_eq_true_eq, Int64.lt_iff_toInt_lt, Int64.le_iff_toInt_le] at h1 h2 ⊢
      omega
/-- a number of the caller's against 0 .. N - 1 -/
def okN (x : Int32) (N : Nat) : Bool := decide (0 ≤ x ∧ x < nI N)
theorem okN_of {x : Int32} {N : Nat} (h : okN x N = true) (hN : N < 2 ^ 31) : ∃ j, j < N ∧ x = nI j := by
  obtain ⟨h1, h2⟩ := of_decide_eq_true h
  obtain ⟨j, hj, rfl⟩ := nI_of (Int32.not_lt.mpr h1)
  exact ⟨j, (nI_ltI hj hN).mp h2, rfl⟩
theorem okN_n {j N : Nat} (hj : j < 2 ^ 31) (hN : N < 2 ^ 31) : okN (nI j) N = decide (j < N) := by
  unfold okN
  congr 1
  have := nI_ltI hj hN
  simp [this, nI_pos' hj]
theorem okN_l {x : Int32} {N : Nat} (hN : N < 2 ^ 31) : decide ((0 : Int64) ≤ x.toInt64 ∧ x.toInt64 ≤ (nI N - 1).toInt64) = okN x N := by
  unfold okN
  congr 1
  have e0 : ((0 : Int32).toInt64) = (0 : Int64) := rfl
  rw [← e0, l_le, l_le]
  have h2 : (nI N - 1).toInt = (N : Int) - 1 := by
    by_cases h : N = 0
    · subst h; decide
    · rw [show (1 : Int32) = nI 1 from rfl, pk_sub (by omega), nI_toInt (by omega)]; omega
  simp only [Int32.le_iff_toInt_le, Int32.lt_iff_toInt_lt, nI_toInt hN, h2, eq_iff_iff]
  omega
theorem f_isBeach {n : Nat} {x : Int32} {μ : Mu} {N : Nat} (h : rI μ 140 1 = nI N) (hN : N < 2 ^ 31) : fX12_isBeach n x.toInt64 μ = some (if okN x N = true then 1 else 0) := by
  unfold fX12_isBeach
  rw [f_within, h, okN_l hN, bnd_some, isb_01, gd_true]
theorem f_isPerson {n : Nat} {x : Int32} {μ : Mu} {N : Nat} (h : rI μ 140 3 = nI N) (hN : N < 2 ^ 31) : fX12_isPerson n x.toInt64 μ = some (if okN x N = true then 1 else 0) := by
  unfold fX12_isPerson
  rw [f_within, h, okN_l hN, bnd_some, isb_01, gd_true]
theorem f_isShell {n : Nat} {x : Int32} {μ : Mu} {N : Nat} (h : rI μ 140 4 = nI N) (hN : N < 2 ^ 31) : fX12_isShell n x.toInt64 μ = some (if okN x N = true then 1 else 0) := by
  unfold fX12_isShell
  rw [f_within, h, okN_l hN, bnd_some, isb_01, gd_true]
theorem f_isCurrent {n : Nat} {x : Int32} {μ : Mu} {N : Nat} (h : rI μ 140 2 = nI N) (hN : N < 2 ^ 31) : fX12_isCurrent n x.toInt64 μ = some (if okN x N = true then 1 else 0) := by
  unfold fX12_isCurrent
  rw [f_within, h, okN_l hN, bnd_some, isb_01, gd_true]
theorem f_isWord {n : Nat} {x : Int32} {μ : Mu} {N : Nat} (h : rI μ 140 67 = nI N) (hN : N < 2 ^ 31) : fX12_isWord n x.toInt64 μ = some (if okN x N = true then 1 else 0) := by
  unfold fX12_isWord
  rw [f_within, h, okN_l hN, bnd_some, isb_01, gd_true]
theorem f_bitsOf {n m : Nat} {x : Int32} {f : Nat → Bool} {μ : Mu} (h : bs x m f) (hm : m ≤ 10) (hn : 10 < n) : fX12_bitsOf n x μ = some (nI (cnt f m)) := by
  unfold fX12_bitsOf
  rw [show ((0, 0) : Int32 × Int32) = (fun i => (nI (cnt (bt x) i), nI i)) 0 from rfl, lp_up 10 (fun i => (nI (cnt (bt x) i), nI i)) (nI (cnt (bt x) 10)) ?_ ?_ hn, bnd_some]
  · show some (nI (cnt (bt x) 10)) = _
    congr 2
    rw [show (10 : Nat) = m + (10 - m) by omega, ← cnt_ext f (10 - m)]
    exact cnt_congr fun i hi => h i (by omega)
  · intro i hi
    simp (disch := first | omega | decide) only [sX12_bitsOf_4, b_test, ite01, gd_true, bnd_some, bnd2_some, ix_n, ib_n, add_l, add_r, mul_l, mul_r, nI_add, sub_r, nI_leI, nI_ltI, nI_eq, le_l, le_r, lt_l, lt_r, eq_l, eq_r, eq_m, if_true, if_false, not_false_eq_true, not_true_eq_false, show ¬ 10 ≤ i by omega, cnt]
  · simp (disch := first | omega | decide) only [sX12_bitsOf_4, gd_true, bnd_some, bnd2_some, ix_n, ib_n, add_l, add_r, mul_l, mul_r, nI_add, sub_r, nI_leI, nI_ltI, nI_eq, le_l, le_r, lt_l, lt_r, eq_l, eq_r, eq_m, if_true, if_false, not_false_eq_true, not_true_eq_false, Nat.le_refl]
