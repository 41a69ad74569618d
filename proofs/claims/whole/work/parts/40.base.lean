/-! loops -/
theorem lp_rel {τ ρ : Type} {step : τ → Option (τ ⊕ ρ)} (I : Nat → τ → Prop) (E : ρ → Prop) (hs : ∀ k t, I k t → (∃ r, step t = some (.inr r) ∧ E r) ∨ (∃ t' k', step t = some (.inl t') ∧ k' < k ∧ I k' t')) : ∀ n k t, I k t → k < n → ∃ r, lp n step t = some r ∧ E r := by
  intro n
  induction n with
  | zero => intro k t _ h; exact absurd h (Nat.not_lt_zero _)
  | succ n ih =>
    intro k t hI hk
    rcases hs k t hI with ⟨r, h1, h2⟩ | ⟨t', k', h1, h2, h3⟩
    · exact ⟨r, by unfold lp; rw [h1], h2⟩
    · obtain ⟨r, g1, g2⟩ := ih k' t' h3 (by omega)
      exact ⟨r, by unfold lp; rw [h1]; exact g1, g2⟩
/-- a loop that counts i up to K: the states s i -/
theorem lp_up {τ ρ : Type} {step : τ → Option (τ ⊕ ρ)} (K : Nat) (T : Nat → τ) (r : ρ) (hs : ∀ i, i < K → step (T i) = some (.inl (T (i + 1)))) (he : step (T K) = some (.inr r)) {n : Nat} (hn : K < n) : lp n step (T 0) = some r := by
  obtain ⟨r', h1, h2⟩ := lp_rel (step := step) (fun k t => ∃ i, i + k = K ∧ t = T i) (fun x => x = r) (by
    rintro k t ⟨i, h1, rfl⟩
    by_cases h : i < K
    · exact Or.inr ⟨T (i + 1), k - 1, hs i h, by omega, i + 1, by omega, rfl⟩
    · exact Or.inl ⟨r, by rw [show i = K by omega]; exact he, rfl⟩) n K (T 0) ⟨0, by omega, rfl⟩ hn
  rw [h1, h2]
/-- the same, from i on -/
theorem lp_upf {τ ρ : Type} {step : τ → Option (τ ⊕ ρ)} (i0 K : Nat) (hi : i0 ≤ K) (T : Nat → τ) (r : ρ) (hs : ∀ i, i0 ≤ i → i < K → step (T i) = some (.inl (T (i + 1)))) (he : step (T K) = some (.inr r)) {n : Nat} (hn : K < n) : lp n step (T i0) = some r := by
  obtain ⟨r', h1, h2⟩ := lp_rel (step := step) (fun k t => ∃ i, i0 ≤ i ∧ i + k = K ∧ t = T i) (fun x => x = r) (by
    rintro k t ⟨i, h0, h1, rfl⟩
    by_cases h : i < K
    · exact Or.inr ⟨T (i + 1), k - 1, hs i h0 h, by omega, i + 1, by omega, by omega, rfl⟩
    · exact Or.inl ⟨r, by rw [show i = K by omega]; exact he, rfl⟩) n (K - i0) (T i0) ⟨i0, Nat.le_refl _, by omega, rfl⟩ (by omega)
  rw [h1, h2]
/-- with an invariant of the state -/
theorem lp_inv {τ ρ σ : Type} {step : τ → Option (τ ⊕ ρ)} (K : Nat) (mk : Nat → σ → τ) (I : Nat → σ → Prop) (E : ρ → Prop) (hs : ∀ i s, i < K → I i s → ∃ s', step (mk i s) = some (.inl (mk (i + 1) s')) ∧ I (i + 1) s') (he : ∀ s, I K s → ∃ r, step (mk K s) = some (.inr r) ∧ E r) {n : Nat} (hn : K < n) (s : σ) (h0 : I 0 s) : ∃ r, lp n step (mk 0 s) = some r ∧ E r := by
  refine lp_rel (step := step) (fun k t => ∃ i s, i + k = K ∧ t = mk i s ∧ I i s) E ?_ n K (mk 0 s) ⟨0, s, by omega, rfl, h0⟩ hn
  rintro k t ⟨i, s, h1, rfl, h2⟩
  by_cases h : i < K
  · obtain ⟨s', g1, g2⟩ := hs i s h h2
    exact Or.inr ⟨_, k - 1, g1, by omega, i + 1, s', by omega, rfl, g2⟩
  · have e : i = K := by omega
    subst e
    obtain ⟨r, g1, g2⟩ := he s h2
    exact Or.inl ⟨r, g1, g2⟩
/-! guards, binds -/
theorem gd_t {α : Type} {b : Bool} {k : Option α} (h : b = true) : gd b k = k := by unfold gd; rw [if_pos h]
theorem bnd_s {α β : Type} {x : Option α} {a : α} {k : α → Option β} (h : x = some a) : bnd x k = k a := by rw [h]; rfl
theorem bnd2_s {α β γ : Type} {x : Option (α × β)} {a : α} {b : β} {k : α → β → Option γ} (h : x = some (a, b)) : bnd2 x k = k a b := by rw [h]; rfl
/-! memory -/
theorem rw_I (μ : Mu) (a i : Nat) (v : Int32) (b j : Nat) : rI (wI μ a i v) b j = if b = a ∧ j = i then v else rI μ b j := by
  unfold rI wI upd
  by_cases h : b = a
  · subst h
    by_cases h2 : j = i <;> simp [h2]
  · simp [h]
theorem rI_same (μ : Mu) (a i : Nat) (v : Int32) : rI (wI μ a i v) a i = v := by rw [rw_I]; simp
theorem rI_ai {μ : Mu} {a i : Nat} {v : Int32} {b j : Nat} (h : b ≠ a) : rI (wI μ a i v) b j = rI μ b j := by rw [rw_I]; simp [h]
theorem rI_ii {μ : Mu} {a i : Nat} {v : Int32} {b j : Nat} (h : j ≠ i) : rI (wI μ a i v) b j = rI μ b j := by rw [rw_I]; simp [h]
theorem rI_wL (μ : Mu) (a i : Nat) (v : Int64) (b j : Nat) : rI (wL μ a i v) b j = rI μ b j := rfl
theorem rL_wI (μ : Mu) (a i : Nat) (v : Int32) (b j : Nat) : rL (wI μ a i v) b j = rL μ b j := rfl
theorem rL_cp (μ : Mu) (a sp c dp n : Nat) (b j : Nat) : rL (cpI μ a sp c dp n) b j = rL μ b j := rfl
theorem rL_wL (μ : Mu) (a i : Nat) (v : Int64) (b j : Nat) : rL (wL μ a i v) b j = if b = a ∧ j = i then v else rL μ b j := by
  unfold rL wL vp_updL
  by_cases h : b = a
  · subst h
    by_cases h2 : j = i <;> simp [h2]
  · simp [h]
theorem rI_cp (μ : Mu) (a sp c dp n : Nat) (b j : Nat) : rI (cpI μ a sp c dp n) b j = if b = c ∧ dp ≤ j ∧ j < dp + n then rI μ a (sp + (j - dp)) else rI μ b j := by
  unfold rI cpI va_cpy
  by_cases h : b = c
  · subst h
    by_cases h2 : dp ≤ j ∧ j < dp + n <;> simp [h2]
  · simp [h]
/-! numbers -/
theorem lit_nI (k : Nat) : (OfNat.ofNat k : Int32) = nI k := rfl
theorem one_nI : (1 : Int32) = nI 1 := rfl
theorem zero_nI : (0 : Int32) = nI 0 := rfl
theorem ix_nI {k : Nat} (h : k < 2 ^ 31) : ix (nI k) = k := nI_clamp h
theorem ib_nI {k N : Nat} (h : k < N) (hN : N < 2 ^ 31) : ib (nI k) N = true := decide_eq_true (vp_in_nI h hN)
theorem nI_toI {k : Nat} (h : k < 2 ^ 31) : (nI k).toInt = k := nI_toInt h
theorem nI_m1 {k : Nat} (h : k < 2 ^ 31) : ¬ nI k = -1 := by
  intro e
  have := congrArg Int32.toInt e
  rw [nI_toInt h] at this
  have h2 : (-1 : Int32).toInt = -1 := by decide
  omega
theorem nI_inj {a b : Nat} (ha : a < 2 ^ 31) (hb : b < 2 ^ 31) (h : nI a = nI b) : a = b := (nI_eq ha hb).mp h
theorem lgc_lt (x y : Int64) : lg_cmp x y < 0 ↔ x < y := by
  unfold lg_cmp
  by_cases h1 : x > y
  · rw [if_pos h1]
    simp only [gt_iff_lt, Int64.lt_iff_toInt_lt] at h1 ⊢
    constructor
    · intro h; exact absurd h (by decide)
    · intro h; omega
  · rw [if_neg h1]
    by_cases h2 : x = y
    · rw [if_pos h2]; subst h2; simp
    · rw [if_neg h2]
      simp only [gt_iff_lt, Int64.lt_iff_toInt_lt, ← Int64.toInt_inj] at h1 h2 ⊢
      constructor
      · intro _; omega
      · intro _; decide
theorem lgc_gt (x y : Int64) : 0 < lg_cmp x y ↔ y < x := by
  unfold lg_cmp
  by_cases h1 : x > y
  · rw [if_pos h1]; exact ⟨fun _ => h1, fun _ => by decide⟩
  · rw [if_neg h1]
    by_cases h2 : x = y
    · rw [if_pos h2]; subst h2; simp
    · rw [if_neg h2]
      exact ⟨fun h => absurd h (by decide), fun h => absurd h h1⟩
theorem lgc_le (x y : Int64) : lg_cmp x y ≤ 0 ↔ x ≤ y := by
  have := lgc_gt x y
  simp only [Int32.lt_iff_toInt_lt, Int32.le_iff_toInt_le, Int64.lt_iff_toInt_lt, Int64.le_iff_toInt_le] at this ⊢
  have e : (0 : Int32).toInt = 0 := rfl
  omega
theorem lgc_ge (x y : Int64) : 0 ≤ lg_cmp x y ↔ y ≤ x := lg_cmp_ge x y
theorem lgc_eq (x y : Int64) : lg_cmp x y = 0 ↔ x = y := by
  have h1 := lgc_gt x y
  have h2 := lgc_lt x y
  simp only [Int32.lt_iff_toInt_lt, Int64.lt_iff_toInt_lt, ← Int64.toInt_inj, ← Int32.toInt_inj] at h1 h2 ⊢
  have e : (0 : Int32).toInt = 0 := rfl
  omega
theorem l_lt (a b : Int32) : a.toInt64 < b.toInt64 ↔ a < b := by simp [Int64.lt_iff_toInt_lt, Int32.lt_iff_toInt_lt]
theorem l_le (a b : Int32) : a.toInt64 ≤ b.toInt64 ↔ a ≤ b := by simp [Int64.le_iff_toInt_le, Int32.le_iff_toInt_le]
