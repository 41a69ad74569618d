def bt (x : Int32) (i : Nat) : Bool := x.toBitVec.getLsbD i
theorem b_ext {x y : Int32} (h : ∀ i, i < 32 → bt x i = bt y i) : x = y := Int32.toBitVec_inj.mp (BitVec.eq_of_getLsbD_eq (fun i hi => h i hi))
theorem b_or (x y : Int32) (i : Nat) : bt (x ||| y) i = (bt x i || bt y i) := by unfold bt; rw [Int32.toBitVec_or, BitVec.getLsbD_or]
theorem b_and (x y : Int32) (i : Nat) : bt (x &&& y) i = (bt x i && bt y i) := by unfold bt; rw [Int32.toBitVec_and, BitVec.getLsbD_and]
theorem b_xor (x y : Int32) (i : Nat) : bt (x ^^^ y) i = (bt x i ^^ bt y i) := by unfold bt; rw [Int32.toBitVec_xor, BitVec.getLsbD_xor]
theorem b_big {x : Int32} {i : Nat} (h : 32 ≤ i) : bt x i = false := BitVec.getLsbD_of_ge _ _ h
theorem b_255 (i : Nat) : bt 255 i = decide (i < 8) := by
  rcases Nat.lt_or_ge i 32 with h | h
  · exact (by decide +kernel : ∀ i, i < 32 → bt 255 i = decide (i < 8)) i h
  · rw [b_big h, decide_eq_false (by omega)]
theorem b_65535 (i : Nat) : bt 65535 i = decide (i < 16) := by
  rcases Nat.lt_or_ge i 32 with h | h
  · exact (by decide +kernel : ∀ i, i < 32 → bt 65535 i = decide (i < 16)) i h
  · rw [b_big h, decide_eq_false (by omega)]
theorem b_m1 : ∀ i, i < 32 → bt (-1) i = true := by decide +kernel
theorem b_0 (i : Nat) : bt 0 i = false := BitVec.getLsbD_zero
theorem s_l : ∀ n, n < 32 → ((nI n &&& 31).toBitVec.smod 32).toNat = n := by decide +kernel
theorem s_u : ∀ n, n < 32 → (((nI n).toUInt32 &&& Int32.toUInt32 31).toBitVec % 32).toNat = n := by decide +kernel
theorem b_shl (n : Nat) (hn : n < 32) (x : Int32) {i : Nat} (hi : i < 32) : bt (x <<< (nI n &&& 31)) i = (decide (n ≤ i) && bt x (i - n)) := by
  unfold bt
  rw [Int32.toBitVec_shiftLeft]
  show (x.toBitVec <<< ((nI n &&& 31).toBitVec.smod 32).toNat).getLsbD i = _
  rw [s_l n hn, BitVec.getLsbD_shiftLeft]
  rcases Nat.lt_or_ge i n with h | h
  · simp [h, Nat.not_le.mpr h]
  · simp [hi, h, Nat.not_lt.mpr h]
theorem b_ushr (n : Nat) (hn : n < 32) (x : Int32) (i : Nat) : bt ((x.toUInt32 >>> ((nI n).toUInt32 &&& Int32.toUInt32 31)).toInt32) i = bt x (n + i) := by
  show (x.toUInt32 >>> ((nI n).toUInt32 &&& Int32.toUInt32 31)).toBitVec.getLsbD i = x.toUInt32.toBitVec.getLsbD (n + i)
  rw [UInt32.toBitVec_shiftRight]
  show (x.toUInt32.toBitVec >>> (((nI n).toUInt32 &&& Int32.toUInt32 31).toBitVec % 32).toNat).getLsbD i = _
  rw [s_u n hn, BitVec.getLsbD_ushiftRight]
theorem b_sshr (n : Nat) (hn : n < 32) (x : Int32) {i : Nat} (hi : i < 32) : bt (x >>> (nI n &&& 31)) i = if n + i < 32 then bt x (n + i) else bt x 31 := by
  unfold bt
  rw [Int32.toBitVec_shiftRight]
  show (x.toBitVec.sshiftRight ((nI n &&& 31).toBitVec.smod 32).toNat).getLsbD i = _
  rw [s_l n hn, BitVec.getLsbD_sshiftRight, BitVec.msb_eq_getLsbD_last]
  simp [hi]

/-! sets of small numbers -/
def bs (x : Int32) (n : Nat) (f : Nat → Bool) : Prop := ∀ i, i < 32 → bt x i = (decide (i < n) && f i)
theorem b_nI (m i : Nat) (hi : i < 32) : bt (nI m) i = m.testBit i := by
  show (BitVec.ofNat 32 m).getLsbD i = m.testBit i
  rw [BitVec.getLsbD_ofNat]
  simp [hi]
theorem b_1 (i : Nat) (hi : i < 32) : bt 1 i = decide (i = 0) := by
  have h := b_nI 1 i hi
  rw [show (nI 1) = (1 : Int32) from rfl] at h
  rw [h]
  cases i with
  | zero => rfl
  | succ i => simp [Nat.testBit_succ]
theorem b_bit {k : Nat} (hk : k < 32) {i : Nat} (hi : i < 32) : bt (shl 1 (nI k)) i = decide (i = k) := by
  unfold shl
  rw [b_shl k hk 1 hi]
  by_cases h : k ≤ i
  · rw [b_1 _ (by omega)]
    by_cases h2 : i = k
    · subst h2; simp
    · have : ¬ i - k = 0 := by omega
      simp [h2, this]
  · have : ¬ i = k := by omega
    simp [h, this]
theorem b_test {x : Int32} {k : Nat} (hk : k < 32) : (shr x (nI k)) &&& 1 = if bt x k = true then 1 else 0 := by
  refine b_ext fun i hi => ?_
  rw [b_and, b_1 i hi]
  unfold shr
  rw [b_sshr k hk x hi]
  by_cases h : i = 0
  · subst h
    simp only [Nat.add_zero, hk, if_true, decide_true, Bool.and_true]
    cases hb : bt x k <;> simp
    · exact (b_0 0).symm
    · exact (by rw [b_1 0 (by omega)]; rfl)
  · simp only [h, decide_false, Bool.and_false]
    cases hb : bt x k <;> simp
    · exact b_0 i
    · rw [b_1 i hi]; simp [h]
theorem bs_0 (n : Nat) : bs 0 n (fun _ => false) := fun i _ => by rw [b_0]; simp
theorem bs_z (f : Nat → Bool) : bs 0 0 f := fun i _ => by rw [b_0]; simp
theorem bs_congr {x : Int32} {n : Nat} {f g : Nat → Bool} (h : bs x n f) (hg : ∀ i, i < n → f i = g i) : bs x n g := fun i hi => by
  rw [h i hi]
  by_cases hn : i < n
  · rw [hg i hn]
  · simp [hn]
theorem bs_eq {x y : Int32} {n : Nat} {f : Nat → Bool} (h : bs x n f) (h2 : bs y n f) : x = y := b_ext fun i hi => by rw [h i hi, h2 i hi]
theorem bs_at {x : Int32} {n : Nat} {f : Nat → Bool} (h : bs x n f) {k : Nat} (hk : k < n) (hn : n ≤ 32) : bt x k = f k := by rw [h k (by omega)]; simp [hk]
theorem bs_out {x : Int32} {n : Nat} {f : Nat → Bool} (h : bs x n f) {k : Nat} (hk : n ≤ k) : bt x k = false := by
  by_cases h2 : k < 32
  · rw [h k h2]; simp [Nat.not_lt.mpr hk]
  · exact b_big (by omega)
theorem bs_or {x y : Int32} {n : Nat} {f g : Nat → Bool} (h : bs x n f) (h2 : bs y n g) : bs (x ||| y) n (fun i => f i || g i) := fun i hi => by rw [b_or, h i hi, h2 i hi, Bool.and_or_distrib_left]
theorem bs_and {x y : Int32} {n : Nat} {f g : Nat → Bool} (h : bs x n f) (h2 : bs y n g) : bs (x &&& y) n (fun i => f i && g i) := fun i hi => by
  rw [b_and, h i hi, h2 i hi]
  cases decide (i < n) <;> simp
theorem bs_andn {x y : Int32} {n : Nat} {f g : Nat → Bool} (h : bs x n f) (h2 : bs y n g) : bs (x &&& (y ^^^ (-1))) n (fun i => f i && !g i) := fun i hi => by
  rw [b_and, b_xor, h i hi, h2 i hi, b_m1 i hi]
  cases hd : decide (i < n) <;> simp
theorem bs_bit {n k : Nat} (hk : k < n) (hn : n ≤ 32) : bs (shl 1 (nI k)) n (fun i => decide (i = k)) := fun i hi => by
  rw [b_bit (by omega) hi]
  by_cases h : i = k
  · subst h; simp [hk]
  · simp [h]
theorem bs_set {x : Int32} {n : Nat} {f : Nat → Bool} (h : bs x n f) {k : Nat} (hk : k < n) (hn : n ≤ 32) : bs (x ||| shl 1 (nI k)) n (fun i => f i || decide (i = k)) := bs_or h (bs_bit hk hn)
theorem bs_clr {x : Int32} {n : Nat} {f : Nat → Bool} (h : bs x n f) {k : Nat} (hk : k < n) (hn : n ≤ 32) (hf : f k = true) : bs (x ^^^ shl 1 (nI k)) n (fun i => f i && !decide (i = k)) := fun i hi => by
  rw [b_xor, h i hi, b_bit (by omega) hi]
  by_cases h2 : i = k
  · subst h2; simp [hk, hf]
  · simp [h2]
theorem bs_nz {x : Int32} {n : Nat} {f : Nat → Bool} (h : bs x n f) (hn : n ≤ 32) : x = 0 ↔ ∀ i, i < n → f i = false := by
  constructor
  · intro e i hi
    rw [← bs_at h hi hn, e, b_0]
  · intro g
    refine b_ext fun i hi => ?_
    rw [h i hi, b_0]
    by_cases h2 : i < n
    · simp [g i h2]
    · simp [h2]
/-- one more place -/
theorem bs_up {x : Int32} {n : Nat} {f : Nat → Bool} (h : bs x n f) (hn : n < 32) : bs (if f n = true then x ||| shl 1 (nI n) else x) (n + 1) f := by
  intro i hi
  by_cases hf : f n = true
  · rw [if_pos hf, b_or, h i hi, b_bit hn hi]
    by_cases h2 : i = n
    · subst h2; simp [hf]
    · have : i < n + 1 ↔ i < n := by omega
      simp [h2, this]
  · rw [if_neg hf, h i hi]
    by_cases h2 : i = n
    · subst h2; simp [hf]
    · have : i < n + 1 ↔ i < n := by omega
      simp [this]
theorem bs_up2 {x : Int32} {n : Nat} {f : Nat → Bool} (h : bs x n f) (hn : n < 32) : bs (x ||| (if f n = true then shl 1 (nI n) else 0)) (n + 1) f := by
  have h2 := bs_up h hn
  by_cases hf : f n = true
  · rw [if_pos hf] at h2 ⊢; exact h2
  · rw [if_neg hf] at h2 ⊢
    have e : x ||| 0 = x := b_ext fun i _ => by rw [b_or, b_0]; simp
    rw [e]; exact h2
/-! the number of a set -/
def bN (f : Nat → Bool) : Nat → Nat
  | 0 => 0
  | n + 1 => bN f n + (if f n = true then 2 ^ n else 0)
def cnt (f : Nat → Bool) : Nat → Nat
  | 0 => 0
  | n + 1 => cnt f n + (if f n = true then 1 else 0)
theorem bN_lt (f : Nat → Bool) : ∀ n, bN f n < 2 ^ n
  | 0 => by simp [bN]
  | n + 1 => by
    have := bN_lt f n
    unfold bN
    rw [Nat.pow_succ]
    split <;> omega
theorem bN_bit (f : Nat → Bool) : ∀ n i, (bN f n).testBit i = (decide (i < n) && f i)
  | 0, i => by simp [bN]
  | n + 1, i => by
    have ih := bN_bit f n i
    have hl := bN_lt f n
    unfold bN
    by_cases hf : f n = true
    · rw [if_pos hf, Nat.add_comm, show 2 ^ n + bN f n = 2 ^ n * 1 + bN f n by omega, Nat.two_pow_add_eq_or_of_lt hl, Nat.mul_one, Nat.testBit_or, ih, Nat.testBit_two_pow]
      by_cases h2 : i = n
      · subst h2; simp [hf]
      · have : i < n + 1 ↔ i < n := by omega
        have h3 : ¬ n = i := fun e => h2 e.symm
        simp [this, h3]
    · rw [if_neg hf, Nat.add_zero, ih]
      by_cases h2 : i = n
      · subst h2; simp [hf]
      · have : i < n + 1 ↔ i < n := by omega
        simp [this]
theorem bs_bN (f : Nat → Bool) {n : Nat} (_hn : n ≤ 32) : bs (nI (bN f n)) n f := fun i hi => by rw [b_nI _ _ hi, bN_bit]
theorem bs_nI {x : Int32} {n : Nat} {f : Nat → Bool} (h : bs x n f) (hn : n ≤ 32) : x = nI (bN f n) := bs_eq h (bs_bN f hn)
theorem cnt_le (f : Nat → Bool) : ∀ n, cnt f n ≤ n
  | 0 => Nat.le_refl _
  | n + 1 => by have := cnt_le f n; unfold cnt; split <;> omega
theorem cnt_congr {f g : Nat → Bool} : ∀ {n : Nat}, (∀ i, i < n → f i = g i) → cnt f n = cnt g n
  | 0, _ => rfl
  | n + 1, h => by unfold cnt; rw [cnt_congr (fun i hi => h i (by omega)), h n (by omega)]
theorem bitc_all : ∀ m, m < 1024 → bitc (nI m) = nI (cnt (fun i => m.testBit i) 10) := by decide +kernel
theorem cnt_ext (f : Nat → Bool) {n : Nat} : ∀ m, cnt (fun i => decide (i < n) && f i) (n + m) = cnt f n
  | 0 => cnt_congr (fun i hi => by simp [show i < n from hi])
  | m + 1 => by
    show cnt _ (n + m) + _ = _
    rw [cnt_ext f m]
    have : ¬ n + m < n := by omega
    simp [this]
theorem bs_bitc {x : Int32} {n : Nat} {f : Nat → Bool} (h : bs x n f) (hn : n ≤ 10) : bitc x = nI (cnt f n) := by
  rw [bs_nI h (by omega), bitc_all _ (Nat.lt_of_lt_of_le (bN_lt f n) (Nat.pow_le_pow_right (by omega) hn))]
  congr 1
  rw [show (10 : Nat) = n + (10 - n) by omega, ← cnt_ext f (10 - n)]
  exact cnt_congr fun i hi => bN_bit f n i
theorem bs_full {n : Nat} (hn : n ≤ 10) : bs (shl 1 (nI n) - 1) n (fun _ => true) := by
  have h : ∀ n, n ≤ 10 → shl 1 (nI n) - 1 = nI (bN (fun _ => true) n) := by decide +kernel
  rw [h n hn]
  exact bs_bN _ (by omega)
