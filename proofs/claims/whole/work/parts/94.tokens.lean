/-! TOKENS: the class's list of them -/
def ckI (B : Nat → Nat) (N p : Nat) : Int32 := if tkK B N p ≤ 21 then nI (200 + cls (tkK B N p)) else if tkK B N p = 22 then 2 else if tkK B N p = 23 then nI (1000 + tkV B N p) else if tkK B N p = 24 then 0 else if tkK B N p = 25 then 1 else nI (B (tkA B N p))
def tkP (B : Nat → Nat) (N : Nat) : Nat → Nat
  | 0 => 0
  | i + 1 => tkB B N (tkP B N i)
theorem tkP_le {B : Nat → Nat} {N : Nat} : ∀ i, tkP B N i ≤ N
  | 0 => Nat.zero_le _
  | i + 1 => (tk_bd (tkP_le i)).2.2.2.1
theorem sg_v : ∀ v, v < 256 → sgK v ≠ 25 → 40 ≤ v := by decide +kernel
theorem sg_K (v : Nat) : sgK v = 25 ∨ (30 ≤ sgK v ∧ sgK v ≤ 41) := by
  have : ∀ i, sgP v i = 25 ∨ 30 ≤ sgP v i := fun i => by
    induction i with
    | zero => exact Or.inl rfl
    | succ i ih =>
      unfold sgP
      split
      · right; omega
      · exact ih
  have h1 := this 12
  have h2 := sgP_le 12 (Nat.le_refl _) v
  unfold sgK
  omega
theorem cls_le (K : Nat) (h : K ≤ 21) : cls K ≤ 21 := by
  have : ∀ K, K ≤ 21 → cls K ≤ 21 := by decide
  exact this K h
/-- kinds, by what stands there -/
theorem tk_cases {B : Nat → Nat} {N p : Nat} (hp : p ≤ N) (hb : ∀ k, k < N → B k < 256) : (tkK B N p ≤ 22 ∧ tkA B N p < N) ∨ (tkK B N p = 23 ∧ tkA B N p < N ∧ tkV B N p < 1000) ∨ (tkK B N p = 24 ∧ tkA B N p = N) ∨ (tkK B N p = 25 ∧ tkA B N p < N) ∨ (30 ≤ tkK B N p ∧ tkK B N p ≤ 41 ∧ tkA B N p < N ∧ 40 ≤ B (tkA B N p) ∧ tkK B N p = sgK (B (tkA B N p))) := by
  obtain ⟨b1, b2, b3, b4, b5⟩ := tk_bd (B := B) hp
  have eK : tkK B N p = if N ≤ tkA B N p then 24 else if ltB B (tkA B N p) = true then kwN (fun j => nI (B (tkA B N p + j))) (tkB B N p - tkA B N p) else if dgB B (tkA B N p) = true then (if tkB B N p - tkA B N p ≤ 3 then 23 else 25) else sgK (B (tkA B N p)) := rfl
  by_cases c : N ≤ tkA B N p
  · rw [if_pos c] at eK; right; right; left; exact ⟨eK, by omega⟩
  · rw [if_neg c] at eK
    by_cases c1 : ltB B (tkA B N p) = true
    · rw [if_pos c1] at eK
      left
      exact ⟨by rw [eK]; exact kwN_le _ _, by omega⟩
    · rw [if_neg c1] at eK
      by_cases c2 : dgB B (tkA B N p) = true
      · rw [if_pos c2] at eK
        by_cases c3 : tkB B N p - tkA B N p ≤ 3
        · rw [if_pos c3] at eK
          right; left
          refine ⟨eK, by omega, ?_⟩
          have eB : tkB B N p = runE (dgB B) (tkA B N p) N := by
            unfold tkB tkE
            rw [if_neg c, if_neg c1, if_pos c2]
          obtain ⟨g1, g2, g3, g4⟩ := run_spec (dgB B) (show tkA B N p ≤ N by omega)
          have := nm_lt (B := B) (a := tkA B N p) (tkB B N p - tkA B N p) (fun k hk => of_decide_eq_true (g3 _ (by omega) (by omega)))
          have pl : 10 ^ (tkB B N p - tkA B N p) ≤ 10 ^ 3 := Nat.pow_le_pow_right (by omega) c3
          unfold tkV; omega
        · rw [if_neg c3] at eK
          right; right; right; left; exact ⟨eK, by omega⟩
      · rw [if_neg c2] at eK
        rcases sg_K (B (tkA B N p)) with q | q
        · right; right; right; left; exact ⟨by rw [eK]; exact q, by omega⟩
        · right; right; right; right
          exact ⟨by omega, by omega, by omega, sg_v _ (hb _ (by omega)) (by omega), eK⟩
theorem ck_1 {B : Nat → Nat} {N p : Nat} (hp : p ≤ N) (hb : ∀ k, k < N → B k < 256) : ckI B N p = 1 ↔ tkK B N p = 25 := by
  have t := tk_cases hp hb
  unfold ckI
  have n1 : ∀ k, k < 2147483648 → k ≠ 1 → ¬ nI k = 1 := fun k hk h e => h ((nI_eq (b := 1) (by omega) (by omega)).mp e)
  by_cases c1 : tkK B N p ≤ 21
  · have := cls_le _ c1
    rw [if_pos c1]; constructor
    · intro e; exact absurd e (n1 _ (by omega) (by omega))
    · intro e; omega
  · rw [if_neg c1]
    by_cases c2 : tkK B N p = 22
    · rw [if_pos c2]; constructor
      · intro e; exact absurd e (by decide)
      · intro e; omega
    · rw [if_neg c2]
      by_cases c3 : tkK B N p = 23
      · rw [if_pos c3]; constructor
        · intro e; exact absurd e (n1 _ (by omega) (by omega))
        · intro e; omega
      · rw [if_neg c3]
        by_cases c4 : tkK B N p = 24
        · rw [if_pos c4]; constructor
          · intro e; exact absurd e (by decide)
          · intro e; omega
        · rw [if_neg c4]
          by_cases c5 : tkK B N p = 25
          · rw [if_pos c5]; exact ⟨fun _ => c5, fun _ => rfl⟩
          · rw [if_neg c5]; constructor
            · intro e; exact absurd e (n1 _ (by have := hb (tkA B N p) (by omega); omega) (by omega))
            · intro e; omega
theorem c_add {n m : Nat} {x1 x2 : Int32} {μ : Mu} (h : rI μ 25 2 = nI m) (hm : m < 901) : fX9_add n x1 x2 μ = some (wI (wI (wI μ 26 m x1) 27 m x2) 25 2 (nI (m + 1))) := by
  unfold fX9_add
  have e1 : rI (wI μ 26 m x1) 25 2 = nI m := by rw [rI_ai (by decide)]; exact h
  have e2 : rI (wI (wI μ 26 m x1) 27 m x2) 25 2 = nI m := by rw [rI_ai (by decide)]; exact e1
  rw [h, if_neg (fun e => by have : 901 ≤ m := (le_l (k := 901) (by decide) (by omega)).mp e; omega), ib_n hm (by omega), gd_true, ix_n (by omega), e1, ib_n hm (by omega), gd_true, ix_n (by omega), e2, show nI m + 1 = nI (m + 1) from nI_add m 1]
/-- the tokens that the class has found -/
def SPL (μ0 μ : Mu) (B : Nat → Nat) (N m : Nat) : Prop := rI μ 25 2 = nI m ∧ (∀ i, i < m → rI μ 26 i = ckI B N (tkP B N i) ∧ rI μ 27 i = nI (tkA B N (tkP B N i))) ∧ Fr (fun x => 25 ≤ x ∧ x ≤ 27) μ0 μ
theorem SPL.add {μ0 μ : Mu} {B : Nat → Nat} {N m : Nat} (h : SPL μ0 μ B N m) : SPL μ0 (wI (wI (wI μ 26 m (ckI B N (tkP B N m))) 27 m (nI (tkA B N (tkP B N m)))) 25 2 (nI (m + 1))) B N (m + 1) := by
  obtain ⟨h1, h2, h3⟩ := h
  refine ⟨rI_same _ _ _ _, fun i hi => ⟨?_, ?_⟩, ((h3.w (by omega) _ _).w (by omega) _ _).w (by omega) _ _⟩
  · rw [rI_ai (by decide), rI_ai (by decide)]
    by_cases e : i = m
    · rw [e, rI_same]
    · rw [rI_ii e]; exact (h2 i (by omega)).1
  · rw [rI_ai (by decide)]
    by_cases e : i = m
    · rw [e, rI_same]
    · rw [rI_ii e, rI_ai (by decide)]; exact (h2 i (by omega)).2
theorem c_130 {n m N : Nat} {x2 x4 x6 : Int32} {B : Nat → Nat} {μ0 μ : Mu} (h : SPL μ0 μ B N m) (hm : m ≤ 901) (hb : ∀ k, k < N → B k < 256) : jX9_split_130 n x2 x4 x6 μ = some (if 0 < m ∧ tkK B N (tkP B N (m - 1)) = 25 then .inr (.inl μ) else .inl (x6, x4 + 1, μ)) := by
  obtain ⟨h1, h2, h3⟩ := h
  unfold jX9_split_130 jX9_split_153
  rw [h1]
  by_cases c : 0 < m
  · have k := (h2 (m - 1) (by omega)).1
    have o := ck_1 (tkP_le (B := B) (m - 1)) hb
    rw [if_neg (fun e => by have : m ≤ 0 := (le_r (k := 0) (by decide) (by omega)).mp e; omega), show nI m - 1 = nI (m - 1) from pk_sub (show 1 ≤ m by omega), ib_n (by omega) (by omega), gd_true, ix_n (by omega), k]
    by_cases e : tkK B N (tkP B N (m - 1)) = 25
    · rw [if_pos (o.mpr e), if_pos ⟨c, e⟩]
    · rw [if_neg (fun q => e (o.mp q)), if_neg (fun q => e q.2)]
  · rw [if_pos (show nI m ≤ 0 by rw [show m = 0 by omega]; decide), if_neg (fun q => c q.1)]
