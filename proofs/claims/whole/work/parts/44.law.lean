/-! numbers of laws -/
theorem i64_add (a b : Int32) : (a.toInt64 + b.toInt64).toInt = a.toInt + b.toInt := by
  have h1 := Int32.toInt_lt a; have h2 := Int32.le_toInt a; have h3 := Int32.toInt_lt b; have h4 := Int32.le_toInt b
  rw [Int64.toInt_add, Int32.toInt_toInt64, Int32.toInt_toInt64, Int.bmod_eq_of_le (by omega) (by omega)]
theorem i64_sub (a b : Int32) : (a.toInt64 - b.toInt64).toInt = a.toInt - b.toInt := by
  have h1 := Int32.toInt_lt a; have h2 := Int32.le_toInt a; have h3 := Int32.toInt_lt b; have h4 := Int32.le_toInt b
  rw [Int64.toInt_sub, Int32.toInt_toInt64, Int32.toInt_toInt64, Int.bmod_eq_of_le (by omega) (by omega)]
theorem mul_bd {a b : Int} (h1 : -2147483648 ≤ a) (h2 : a < 2147483648) (h3 : -2147483648 ≤ b) (h4 : b < 2147483648) : -4611686018427387904 ≤ a * b ∧ a * b ≤ 4611686018427387904 := by
  have e : (a * b).natAbs ≤ 2147483648 * 2147483648 := by
    rw [Int.natAbs_mul]
    exact Nat.mul_le_mul (by omega) (by omega)
  omega
theorem i64_mul (a b : Int32) : (a.toInt64 * b.toInt64).toInt = a.toInt * b.toInt := by
  have h1 := Int32.toInt_lt a; have h2 := Int32.le_toInt a; have h3 := Int32.toInt_lt b; have h4 := Int32.le_toInt b
  have h5 := mul_bd (a := a.toInt) (b := b.toInt) (by omega) (by omega) (by omega) (by omega)
  rw [Int64.toInt_mul, Int32.toInt_toInt64, Int32.toInt_toInt64, Int.bmod_eq_of_le (by omega) (by omega)]
theorem i64_to32 {v : Int64} {z : Int} (h : v.toInt = z) : v.toInt32 = Int32.ofInt z := by
  rw [← h]
  exact Int32.toInt_inj.mp (by rw [Int64.toInt_toInt32, Int32.toInt_ofInt])
theorem clamp_r {v : Int64} {z : Int} (h : v.toInt = z) : (if v ≤ 1000000 then (if (-1000000) ≤ v then v else (-1000000)) else 1000000).toInt32 = clampI z := by
  have e1 : (1000000 : Int64).toInt = 1000000 := by decide
  have e2 : (-1000000 : Int64).toInt = -1000000 := by decide
  unfold clampI
  by_cases h1 : v ≤ 1000000
  · rw [if_pos h1]
    by_cases h2 : (-1000000) ≤ v
    · rw [if_pos h2, i64_to32 h]
      simp only [Int64.le_iff_toInt_le, e1, e2, h] at h1 h2
      congr 1; omega
    · rw [if_neg h2, i64_to32 e2]
      simp only [Int64.le_iff_toInt_le, e1, e2, h] at h1 h2
      congr 1; omega
  · rw [if_neg h1, i64_to32 e1]
    simp only [Int64.le_iff_toInt_le, e1, h] at h1
    congr 1; omega
theorem f_between {n c : Nat} {x y : Int32} {μ : Mu} (h1 : 3000 ≤ c) (h2 : c ≤ 3008) (_h3 : c ≠ 3006) : fX12_between n (nI c) x y μ = some (btw c x y) := by
  unfold fX12_between btw
  simp (disch := first | omega | decide) only [gd_true, bnd_some, bnd2_some, ix_n, ib_n, add_l, add_r, mul_l, mul_r, nI_add, sub_r, nI_leI, nI_ltI, nI_eq, le_l, le_r, lt_l, lt_r, eq_l, eq_r, eq_m, if_true, if_false, not_false_eq_true, not_true_eq_false, lgc_le, lgc_ge]
  by_cases c1 : c = 3003
  · simp only [c1, if_true]; split <;> rfl
  simp only [c1, if_false]
  by_cases c2 : c = 3004
  · simp only [c2, if_true]
    by_cases h : y ≤ x
    · rw [if_pos h, if_neg (Int32.not_lt.mpr h)]
    · rw [if_neg h, if_pos (Int32.not_le.mp h)]
  simp only [c2, if_false]
  by_cases c3 : c = 3005
  · simp only [c3, if_true]
    by_cases h : x ≤ y
    · rw [if_pos h, if_neg (Int32.not_lt.mpr h)]
    · rw [if_neg h, if_pos (Int32.not_le.mp h)]
  simp only [c3, if_false]
  by_cases c4 : c = 3007
  · simp only [c4, if_true]
  simp only [c4, if_false]
  by_cases c5 : c = 3008
  · simp only [c5, if_true]
  simp only [c5, if_false]
  congr 1
  refine clamp_r ?_
  by_cases c6 : c = 3000
  · simp only [c6, if_true]; exact i64_add x y
  simp only [c6, if_false]
  by_cases c7 : c = 3001
  · simp only [c7, if_true]; exact i64_sub x y
  simp only [c7, if_false]
  exact i64_mul x y
theorem jrem_n {a d : Nat} (ha : a < 2147483648) (h0 : 0 < d) (hd : d < 2147483648) : jrem (nI a) (nI d) = nI (a % d) := pk_rem (by omega) h0 (by omega)
theorem jrem_l {a d : Nat} (ha : a < 2147483648) (h0 : 0 < (OfNat.ofNat d : Nat)) (hd : (OfNat.ofNat d : Nat) < 2147483648) : jrem (nI a) (no_index (OfNat.ofNat d)) = nI (a % (OfNat.ofNat d : Nat)) := pk_rem (by omega) h0 hd
/-! stacks -/
theorem ev1_len {g : Nat → Int32} {c : Nat} {st : List Int32} (h : 3000 ≤ c → (if c = 3006 then 1 else 2) ≤ st.length) : (ev1 g c st).length = if c < 3000 then st.length + 1 else if c = 3006 then st.length else st.length - 1 := by
  unfold ev1
  by_cases h1 : c < 3000
  · simp [h1]
  · simp only [h1, if_false]
    by_cases h2 : c = 3006
    · simp only [h2, if_true]
      cases st with
      | nil => rfl
      | cons x r => rfl
    · simp only [h2, if_false] at h ⊢
      have := h (by omega)
      match st, this with
      | y :: x :: r, _ => rfl
theorem evN_len {g : Nat → Int32} {l : Nat} {f : Nat → Nat} {n : Nat} (h : okC l f n) : ∀ k, k ≤ n → (evN g f k).length = hgN f k
  | 0, _ => rfl
  | k + 1, hk => by
    have ih := evN_len (g := g) h k (by omega)
    obtain ⟨-, h2, -⟩ := h.1 k (by omega)
    unfold evN hgN
    rw [ev1_len (by rw [ih]; exact h2), ih]
theorem ev1_congr {g g' : Nat → Int32} {c : Nat} (h : 1000 ≤ c → c < 3000 → g (c - 1000) = g' (c - 1000)) (st : List Int32) : ev1 g c st = ev1 g' c st := by
  unfold ev1
  by_cases h1 : c < 3000
  · simp only [h1, if_true]
    by_cases h2 : c < 1000
    · simp [h2]
    · simp only [h2, if_false]; rw [h (by omega) h1]
  · simp [h1]
theorem evN_congr {g g' : Nat → Int32} {f f' : Nat → Nat} : ∀ {n : Nat}, (∀ i, i < n → f i = f' i) → (∀ i, i < n → 1000 ≤ f i → f i < 3000 → g (f i - 1000) = g' (f i - 1000)) → evN g f n = evN g' f' n
  | 0, _, _ => rfl
  | n + 1, h1, h2 => by
    unfold evN
    rw [evN_congr (fun i hi => h1 i (by omega)) (fun i hi => h2 i (by omega)), ev1_congr (h2 n (by omega)), h1 n (by omega)]
/-- an array holds a stack: its bottom at 0 -/
def stR (a : Nat → Int32) (st : List Int32) : Prop := ∀ j, j < st.length → a (st.length - 1 - j) = st.getD j 0
theorem stR_push {a : Nat → Int32} {st : List Int32} (h : stR a st) (v : Int32) : stR (upd a st.length v) (v :: st) := by
  intro j hj
  cases j with
  | zero => simp [upd]
  | succ j =>
    have hj2 : j < st.length := by simpa using hj
    have e : (v :: st).length - 1 - (j + 1) = st.length - 1 - j := by simp; omega
    rw [e]
    unfold upd
    rw [if_neg (by omega), h j hj2]
    simp
theorem stR_top {a : Nat → Int32} {x v : Int32} {r : List Int32} (h : stR a (x :: r)) : stR (upd a r.length v) (v :: r) := by
  intro j hj
  cases j with
  | zero => simp [upd]
  | succ j =>
    have hj2 : j < r.length := by simpa using hj
    have e : (v :: r).length - 1 - (j + 1) = r.length - 1 - j := by simp; omega
    have h2 := h (j + 1) (by simpa using hj)
    have e2 : (x :: r).length - 1 - (j + 1) = r.length - 1 - j := by simp; omega
    rw [e2] at h2
    rw [e]
    unfold upd
    rw [if_neg (by omega), h2]
    simp
theorem stR_tail {a : Nat → Int32} {x : Int32} {r : List Int32} (h : stR a (x :: r)) : stR a r := by
  intro j hj
  have h2 := h (j + 1) (by simp; omega)
  have e2 : (x :: r).length - 1 - (j + 1) = r.length - 1 - j := by simp; omega
  rw [e2] at h2
  rw [h2]; simp
theorem stR_hd {a : Nat → Int32} {x : Int32} {r : List Int32} (h : stR a (x :: r)) : a r.length = x := by
  have := h 0 (by simp)
  simpa using this
