/-! THE CLASS: its laws -/
def ccO (l c : Nat) : Nat := if c < 1002 then c else if c < 3000 then (if l = 0 then 1002 else if l = 1 then c - 1 else c - 4) else if c = 3006 then 1010 else if c = 3007 then 1017 else if c = 3008 then 1018 else if c < 3003 then c - 1989 else c - 1989
/-- truths are 0 or 1 -/
def tyR : List Bool → List Int32 → Prop
  | [], [] => True
  | b :: bs, x :: xs => (b = true → x = 0 ∨ x = 1) ∧ tyR bs xs
  | _, _ => False
theorem b01_and {x y : Int32} (hx : x = 0 ∨ x = 1) (hy : y = 0 ∨ y = 1) : (x &&& y = 0 ∨ x &&& y = 1) ∧ (x ||| y = 0 ∨ x ||| y = 1) := by
  rcases hx with rfl | rfl <;> rcases hy with rfl | rfl <;> decide
theorem ty_step {g : Nat → Int32} {c : Nat} {ts : List Bool} {st : List Int32} (h : tyR ts st) (ho : tyOK c ts) (hl : 3000 ≤ c → (if c = 3006 then 1 else 2) ≤ st.length) (hc : c ≤ 3008) : tyR (ty1 c ts) (ev1 g c st) := by
  unfold ty1 ev1
  by_cases h1 : c < 3000
  · simp only [h1, if_true]
    exact ⟨(fun e => by cases e), h⟩
  · simp only [h1, if_false]
    by_cases h2 : c = 3006
    · simp only [h2, if_true]
      obtain ⟨r, rfl⟩ := ho.1 h2
      cases st with
      | nil => exact h.elim
      | cons x st =>
        refine ⟨fun _ => ?_, h.2⟩
        rcases h.1 rfl with e | e <;> rw [e] <;> decide
    · simp only [h2, if_false] at hl ⊢
      have hlen := hl (by omega)
      match ts, st, h, hlen with
      | [], y :: x :: st, h, _ => exact h.elim
      | [_], y :: x :: st, h, _ => exact h.2.elim
      | t1 :: t2 :: ts, y :: x :: st, h, _ =>
        obtain ⟨q1, q2, q3⟩ := h
        refine ⟨fun e => ?_, q3⟩
        have e : 3003 ≤ c := of_decide_eq_true e
        unfold btw
        by_cases c1 : c = 3003
        · rw [if_pos c1]; split <;> simp
        rw [if_neg c1]
        by_cases c2 : c = 3004
        · rw [if_pos c2]; split <;> simp
        rw [if_neg c2]
        by_cases c3 : c = 3005
        · rw [if_pos c3]; split <;> simp
        rw [if_neg c3]
        obtain ⟨r, hr⟩ := ho.2 (by omega)
        cases hr
        have z := b01_and (q2 rfl) (q1 rfl)
        by_cases c4 : c = 3007
        · rw [if_pos c4]; exact z.1
        rw [if_neg c4, if_pos (by omega)]; exact z.2
theorem ty_all {g : Nat → Int32} {l : Nat} {f : Nat → Nat} {n : Nat} (h : okC l f n) : ∀ k, k ≤ n → tyR (tyN f k) (evN g f k)
  | 0, _ => trivial
  | k + 1, hk => by
    have ih := ty_all (g := g) h k (by omega)
    obtain ⟨h1, h2, -⟩ := h.1 k (by omega)
    exact ty_step ih (h.2.2.1 k (by omega)) (by rw [evN_len h k (by omega)]; exact h2) (by omega)
theorem law_01 {s : SD} (hv : SV s) {l : Nat} (hl : l < 3) (hl1 : 1 ≤ l) (hln : 0 < sLn s l) (g : Nat → Int32) : lawV s l g = 0 ∨ lawV s l g = 1 := by
  have hok := (hv.2.2.2.2.2.2.2.1 l hl).2 hln
  have h := ty_all (g := g) hok _ (Nat.le_refl _)
  rw [hok.2.2.2 hl1] at h
  unfold lawV
  match evN g (s (7 + l)) (sLn s l), h with
  | [x], h => exact h.1 rfl
theorem lmm {v : Int64} {z : Int} (h : v.toInt = z) : (lmax (-1000000) (lmin 1000000 v)).toInt32 = clampI z := by
  have e1 : (1000000 : Int64).toInt = 1000000 := by decide
  have e2 : (-1000000 : Int64).toInt = -1000000 := by decide
  unfold lmax lmin clampI
  simp only [lgc_gt, lgc_lt, Int64.lt_iff_toInt_lt, e1, e2, h]
  by_cases c1 : z < 1000000
  · simp only [c1, if_true, h]
    by_cases c2 : -1000000 < z
    · simp only [c2, if_true]
      rw [i64_to32 h]; congr 1; omega
    · simp only [c2, if_false]
      rw [i64_to32 e2]; congr 1; omega
  · simp only [c1, if_false, e1]
    rw [if_pos (by decide), i64_to32 e1]; congr 1; omega
theorem f_joined {n l c : Nat} {x y : Int32} {μ : Mu} (h1 : 3000 ≤ c) (h2 : c ≤ 3008) (h3 : c ≠ 3006) (h4 : c = 3007 ∨ c = 3008 → (x = 0 ∨ x = 1) ∧ (y = 0 ∨ y = 1)) : fX3_joined n (nI (ccO l c)) x.toInt64 y.toInt64 μ = some (btw c x y) := by
  have eqq : (lg_cmp x.toInt64 y.toInt64 = 0) ↔ x = y := by rw [lgc_eq, ← Int64.toInt_inj, Int32.toInt_toInt64, Int32.toInt_toInt64, Int32.toInt_inj]
  rcases (show c = 3000 ∨ c = 3001 ∨ c = 3002 ∨ c = 3003 ∨ c = 3004 ∨ c = 3005 ∨ c = 3007 ∨ c = 3008 by omega) with rfl | rfl | rfl | rfl | rfl | rfl | rfl | rfl
  · exact congrArg some (lmm (i64_add x y))
  · exact congrArg some (lmm (i64_sub x y))
  · exact congrArg some (lmm (i64_mul x y))
  · show (if lg_cmp x.toInt64 y.toInt64 = 0 then _ else _) = some (if x = y then _ else _)
    simp only [eqq]; split <;> rfl
  · show (if 0 ≤ lg_cmp x.toInt64 y.toInt64 then _ else _) = some (if x < y then _ else _)
    simp only [lgc_ge, l_le]
    by_cases h : y ≤ x
    · rw [if_pos h, if_neg (Int32.not_lt.mpr h)]
    · rw [if_neg h, if_pos (Int32.not_le.mp h)]
  · show (if lg_cmp x.toInt64 y.toInt64 ≤ 0 then _ else _) = some (if y < x then _ else _)
    simp only [lgc_le, l_le]
    by_cases h : x ≤ y
    · rw [if_pos h, if_neg (Int32.not_lt.mpr h)]
    · rw [if_neg h, if_pos (Int32.not_le.mp h)]
  · obtain ⟨a, b⟩ := h4 (Or.inl rfl)
    rcases a with rfl | rfl <;> rcases b with rfl | rfl <;> rfl
  · obtain ⟨a, b⟩ := h4 (Or.inr rfl)
    rcases a with rfl | rfl <;> rcases b with rfl | rfl <;> rfl
