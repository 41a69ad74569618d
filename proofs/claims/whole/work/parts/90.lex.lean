/-! TOKENS -/
def rnE (f : Nat → Bool) (p : Nat) : Nat → Nat
  | 0 => p
  | d + 1 => if f p = true then rnE f (p + 1) d else p
def runE (f : Nat → Bool) (p N : Nat) : Nat := rnE f p (N - p)
theorem rn_spec (f : Nat → Bool) : ∀ d p, p ≤ rnE f p d ∧ rnE f p d ≤ p + d ∧ (∀ k, p ≤ k → k < rnE f p d → f k = true) ∧ (rnE f p d < p + d → f (rnE f p d) = false)
  | 0, p => ⟨Nat.le_refl _, Nat.le_refl _, fun k h1 h2 => by have h2 : k < p := h2; omega, fun h => by have h : p < p + 0 := h; omega⟩
  | d + 1, p => by
    unfold rnE
    by_cases c : f p = true
    · rw [if_pos c]
      obtain ⟨h1, h2, h3, h4⟩ := rn_spec f d (p + 1)
      refine ⟨by omega, by omega, fun k k1 k2 => ?_, fun h => h4 (by omega)⟩
      by_cases e : k = p
      · rw [e]; exact c
      · exact h3 k (by omega) k2
    · rw [if_neg c]
      exact ⟨Nat.le_refl _, by omega, fun k h1 h2 => by omega, fun _ => by simpa using c⟩
theorem run_spec (f : Nat → Bool) {p N : Nat} (h : p ≤ N) : p ≤ runE f p N ∧ runE f p N ≤ N ∧ (∀ k, p ≤ k → k < runE f p N → f k = true) ∧ (runE f p N < N → f (runE f p N) = false) := by
  obtain ⟨h1, h2, h3, h4⟩ := rn_spec f (N - p) p
  refine ⟨h1, ?_, h3, fun q => h4 ?_⟩
  · show rnE f p (N - p) ≤ N; omega
  · have q : rnE f p (N - p) < N := q; omega
theorem run_eq {f : Nat → Bool} {p N q : Nat} (h : p ≤ N) (h1 : p ≤ q) (h2 : q ≤ N) (h3 : ∀ k, p ≤ k → k < q → f k = true) (h4 : q < N → f q = false) : runE f p N = q := by
  obtain ⟨g1, g2, g3, g4⟩ := run_spec f h
  rcases Nat.lt_trichotomy (runE f p N) q with e | e | e
  · have a := h3 _ g1 e
    rw [g4 (by omega)] at a; cases a
  · exact e
  · have a := g3 q h1 e
    rw [h4 (by omega)] at a; cases a
def wsB (B : Nat → Nat) : Nat → Bool := fun k => decide (B k = 10 ∨ B k = 32)
def ltB (B : Nat → Nat) : Nat → Bool := fun k => decide (97 ≤ B k ∧ B k ≤ 122)
def dgB (B : Nat → Nat) : Nat → Bool := fun k => decide (48 ≤ B k ∧ B k ≤ 57)
def sgL : List Nat := [59, 58, 43, 45, 42, 40, 41, 91, 93, 61, 60, 62]
def sgP (v : Nat) : Nat → Nat
  | 0 => 25
  | i + 1 => if v = sgL.getD i 0 then 30 + i else sgP v i
def sgK (v : Nat) : Nat := sgP v 12
def nmN (B : Nat → Nat) (a : Nat) : Nat → Nat
  | 0 => 0
  | j + 1 => 10 * nmN B a j + (B (a + j) - 48)
def tkA (B : Nat → Nat) (N p : Nat) : Nat := runE (wsB B) p N
def tkE (B : Nat → Nat) (N a : Nat) : Nat := if N ≤ a then a else if ltB B a = true then runE (ltB B) a N else if dgB B a = true then runE (dgB B) a N else a + 1
def tkB (B : Nat → Nat) (N p : Nat) : Nat := tkE B N (tkA B N p)
def tkK (B : Nat → Nat) (N p : Nat) : Nat := if N ≤ tkA B N p then 24 else if ltB B (tkA B N p) = true then kwN (fun j => nI (B (tkA B N p + j))) (tkB B N p - tkA B N p) else if dgB B (tkA B N p) = true then (if tkB B N p - tkA B N p ≤ 3 then 23 else 25) else sgK (B (tkA B N p))
def tkV (B : Nat → Nat) (N p : Nat) : Nat := nmN B (tkA B N p) (tkB B N p - tkA B N p)
theorem nm_lt {B : Nat → Nat} {a : Nat} : ∀ j, (∀ k, k < j → 48 ≤ B (a + k) ∧ B (a + k) ≤ 57) → nmN B a j < 10 ^ j
  | 0, _ => by show 0 < 1; omega
  | j + 1, h => by
    have ih := nm_lt (B := B) (a := a) j (fun k hk => h k (by omega))
    have hj := h j (by omega)
    show 10 * nmN B a j + (B (a + j) - 48) < 10 ^ (j + 1)
    rw [Nat.pow_succ]
    omega
/-- the tape as the reference sees it -/
def RTp (μ : Mu) (B : Nat → Nat) (N : Nat) : Prop := N ≤ 900 ∧ rI μ 139 8 = nI N ∧ ∀ k, k < N → B k < 256 ∧ rI μ 142 k = nI (B k)
def PN : Nat → Nat → Prop := fun a i => a = 139 ∧ (i = 6 ∨ i = 7 ∨ i = 9 ∨ i = 10)
theorem RTp.fg {P : Nat → Nat → Prop} {μ μ' : Mu} {B : Nat → Nat} {N : Nat} (h : RTp μ B N) (e : Fg P μ μ') (h8 : ¬ P 139 8) (h142 : ∀ i, ¬ P 142 i) : RTp μ' B N := ⟨h.1, by rw [e.i h8]; exact h.2.1, fun k hk => ⟨(h.2.2 k hk).1, by rw [e.i (h142 k)]; exact (h.2.2 k hk).2⟩⟩
theorem r_see {n k N : Nat} {B : Nat → Nat} {μ : Mu} (h : RTp μ B N) (hk : k ≤ 900) : fX12_see n (nI k) μ = some (if k < N then nI (B k) else -1) := by
  obtain ⟨h1, h2, h3⟩ := h
  unfold fX12_see
  rw [h2]
  by_cases c : k < N
  · rw [if_neg (fun e => by have := (nI_leI (by omega) (by omega)).mp e; omega), if_pos c, ib_n (by omega) (by omega), gd_true, ix_n (by omega), (h3 k c).2]
  · rw [if_pos ((nI_leI (by omega) (by omega)).mpr (by omega)), if_neg c]
theorem r_small {n k N : Nat} {B : Nat → Nat} {μ m : Mu} (h : RTp μ B N) : fX12_isSmall n (if k < N then nI (B k) else -1) m = some (if (decide (k < N) && ltB B k) = true then 1 else 0) := by
  unfold fX12_isSmall ltB
  by_cases c : k < N
  · have hb := (h.2.2 k c).1
    simp (disch := first | omega | decide) only [gd_true, bnd_some, bnd2_some, ix_n, ib_n, add_l, add_r, mul_l, mul_r, nI_add, sub_r, nI_leI, nI_ltI, nI_eq, le_l, le_r, lt_l, lt_r, eq_l, eq_r, eq_m, if_true, if_false, not_false_eq_true, not_true_eq_false, c, if_true, decide_true, Bool.true_and, decide_eq_true_eq]
    by_cases c1 : B k < 97
    · rw [if_pos c1, if_neg (by omega)]
    · rw [if_neg c1]
      by_cases c2 : 122 < B k
      · rw [if_pos c2, if_neg (by omega)]
      · rw [if_neg c2, if_pos (by omega)]
  · rw [if_neg c, decide_eq_false c]; rfl
theorem r_digit {n k N : Nat} {B : Nat → Nat} {μ m : Mu} (h : RTp μ B N) : fX12_isDigit n (if k < N then nI (B k) else -1) m = some (if (decide (k < N) && dgB B k) = true then 1 else 0) := by
  unfold fX12_isDigit dgB
  by_cases c : k < N
  · have hb := (h.2.2 k c).1
    simp (disch := first | omega | decide) only [gd_true, bnd_some, bnd2_some, ix_n, ib_n, add_l, add_r, mul_l, mul_r, nI_add, sub_r, nI_leI, nI_ltI, nI_eq, le_l, le_r, lt_l, lt_r, eq_l, eq_r, eq_m, if_true, if_false, not_false_eq_true, not_true_eq_false, c, if_true, decide_true, Bool.true_and, decide_eq_true_eq]
    by_cases c1 : B k < 48
    · rw [if_pos c1, if_neg (by omega)]
    · rw [if_neg c1]
      by_cases c2 : 57 < B k
      · rw [if_pos c2, if_neg (by omega)]
      · rw [if_neg c2, if_pos (by omega)]
  · rw [if_neg c, decide_eq_false c]; rfl
/-- the reference skips -/
theorem r_skip {n p N : Nat} {B : Nat → Nat} {μ : Mu} (h : RTp μ B N) (hp : p ≤ N) (h6 : rI μ 139 6 = nI p) (hn : 1000 < n) : Rn (lp n (sX12_next_8 n) μ) (fun m => rI m 139 6 = nI (tkA B N p) ∧ Fg (fun a i => a = 139 ∧ i = 6) μ m) := by
  have hN := h.1
  obtain ⟨g1, g2, g3, g4⟩ := run_spec (wsB B) hp
  have g1 : p ≤ tkA B N p := g1
  have g2 : tkA B N p ≤ N := g2
  refine Rn.l (tkA B N p - p) (fun i m => rI m 139 6 = nI (p + i) ∧ Fg (fun a i => a = 139 ∧ i = 6) μ m) _ (by omega) ⟨h6, Fg.rfl' _ _⟩ ?_ ?_
  · rintro i m hi ⟨e1, e2⟩
    have ht := h.fg e2 (by omega) (fun i => by omega)
    have w := g3 (p + i) (by omega) (show p + i < tkA B N p by omega)
    have w := of_decide_eq_true w
    have f1 : Rn (jX12_next_34 n m) (OE (fun m => rI m 139 6 = nI (p + (i + 1)) ∧ Fg (fun a i => a = 139 ∧ i = 6) μ m) (fun m => rI m 139 6 = nI (tkA B N p) ∧ Fg (fun a i => a = 139 ∧ i = 6) μ m)) := by
      unfold jX12_next_34
      rw [e1, show nI (p + i) + 1 = nI (p + i + 1) from nI_add _ 1]
      exact Rn.so ⟨rI_same _ _ _ _, e2.w ⟨rfl, rfl⟩ _⟩
    show Rn (bnd (fX12_see n (rI m 139 6) m) _) _
    rw [e1, r_see ht (by omega), bnd_some, if_pos (show p + i < N by omega)]
    by_cases c : B (p + i) = 10
    · rw [c, if_pos (show nI 10 = 10 from rfl)]; exact f1
    · rw [if_neg (show ¬ nI (B (p + i)) = 10 from fun e => c ((nI_eq (b := 10) (by have := (h.2.2 (p + i) (by omega)).1; omega) (by omega)).mp e)), bnd_some, if_pos (show nI (B (p + i)) = 32 by rw [show B (p + i) = 32 by omega]; rfl)]
      exact f1
  · rintro m ⟨e1, e2⟩
    rw [show p + (tkA B N p - p) = tkA B N p by omega] at e1
    have ht := h.fg e2 (by omega) (fun i => by omega)
    refine Rn.e (r := m) ?_ ⟨e1, e2⟩
    show bnd (fX12_see n (rI m 139 6) m) _ = _
    rw [e1, r_see ht (by omega), bnd_some]
    by_cases c : tkA B N p < N
    · have w := of_decide_eq_false (g4 c)
      have hb := (h.2.2 _ c).1
      have w1 : ¬ B (tkA B N p) = 10 := fun e => w (Or.inl e)
      have w2 : ¬ B (tkA B N p) = 32 := fun e => w (Or.inr e)
      rw [if_pos c, if_neg (show ¬ nI (B (tkA B N p)) = 10 from fun e => w1 ((nI_eq (b := 10) (by omega) (by omega)).mp e)), bnd_some, if_neg (show ¬ nI (B (tkA B N p)) = 32 from fun e => w2 ((nI_eq (b := 32) (by omega) (by omega)).mp e))]
    · rw [if_neg c]; rfl
