/-! THE READER: one token, class and reference -/
def KD (B : Nat → Nat) (N M : Nat) : Prop := N ≤ 900 ∧ M ≤ 900 ∧ (∀ k, k < N → B k < 256) ∧ (∀ i, i < M → tkK B N (tkP B N i) ≠ 24 ∧ tkK B N (tkP B N i) ≠ 25) ∧ (tkK B N (tkP B N M) = 24 ∨ tkK B N (tkP B N M) = 25)
abbrev kK (B : Nat → Nat) (N i : Nat) : Nat := tkK B N (tkP B N i)
abbrev kA (B : Nat → Nat) (N i : Nat) : Nat := tkA B N (tkP B N i)
def CK (μ : Mu) (B : Nat → Nat) (N M i : Nat) : Prop := rI μ 13 4 = nI i ∧ i ≤ M ∧ ∀ j, j ≤ M → rI μ 26 j = ckI B N (tkP B N j) ∧ rI μ 27 j = nI (kA B N j)
def RK (μ : Mu) (B : Nat → Nat) (N i : Nat) : Prop := RTp μ B N ∧ RTk μ B N (tkP B N i) ∧ rI μ 139 11 = 0
theorem KD.lt {B : Nat → Nat} {N M i : Nat} (h : KD B N M) (hi : i ≤ M) (h1 : kK B N i ≠ 24) (h2 : kK B N i ≠ 25) : i < M := by
  refine Classical.byContradiction fun q => ?_
  have e : i = M := by omega
  subst e
  rcases h.2.2.2.2 with z | z
  · exact h1 z
  · exact h2 z
theorem c_kind {n N M i : Nat} {B : Nat → Nat} {μ : Mu} (hD : KD B N M) (h : CK μ B N M i) : fX5_kind n μ = some (ckI B N (tkP B N i)) := by
  have hM := hD.2.1
  have hi := h.2.1
  unfold fX5_kind
  rw [h.1, if_neg (fun e => by have : 901 ≤ i := (le_l (k := 901) (by decide) (by omega)).mp e; omega), ib_n (by omega) (by omega), gd_true, ix_n (by omega), (h.2.2 i hi).1]
theorem CK.nx {N M i : Nat} {B : Nat → Nat} {μ : Mu} (h : CK μ B N M i) (hi : i < M) : CK (wI μ 13 4 (rI μ 13 4 + 1)) B N M (i + 1) := by
  refine ⟨by rw [rI_same, h.1]; exact nI_add i 1, hi, fun j hj => ?_⟩
  rw [rI_ai (by decide), rI_ai (by decide)]
  exact h.2.2 j hj
theorem CK.fr {P : Nat → Nat → Prop} {N M i : Nat} {B : Nat → Nat} {μ μ' : Mu} (h : CK μ B N M i) (e : Fg P μ μ') (h1 : ¬ P 13 4) (h2 : ∀ j, ¬ P 26 j ∧ ¬ P 27 j) : CK μ' B N M i := ⟨by rw [e.i h1]; exact h.1, h.2.1, fun j hj => ⟨by rw [e.i (h2 j).1]; exact (h.2.2 j hj).1, by rw [e.i (h2 j).2]; exact (h.2.2 j hj).2⟩⟩
theorem kK_le {B : Nat → Nat} {N i : Nat} (hb : ∀ k, k < N → B k < 256) : kK B N i ≤ 41 := by
  have tc := tk_cases (B := B) (tkP_le (B := B) (N := N) i) hb
  show tkK B N (tkP B N i) ≤ 41
  omega
theorem r_is {n N i x : Nat} {B : Nat → Nat} {μ : Mu} (h : RK μ B N i) (hx : x < 2147483648) (hb : ∀ k, k < N → B k < 256) : fX12_is n (nI x) μ = some (if kK B N i = x then 1 else 0) := by
  have kl := kK_le (i := i) hb
  unfold fX12_is
  rw [h.2.2, if_pos rfl, h.2.1.2.2.1]
  by_cases e : kK B N i = x
  · rw [if_pos e, if_pos (by rw [← e])]
  · rw [if_neg e, if_neg (fun q => e ((nI_eq (by omega) (by omega)).mp q))]
theorem r_isW {n : Nat} {x : Int32} {μ : Mu} (h : rI μ 139 11 ≠ 0) : fX12_is n x μ = some 0 := by
  unfold fX12_is
  rw [if_neg h]
theorem RK.nx {n N i : Nat} {B : Nat → Nat} {μ : Mu} (h : RK μ B N i) (hn : 1000 < n) : ∃ μ', fX12_next n μ = some μ' ∧ RK μ' B N (i + 1) ∧ Fg PN μ μ' := by
  obtain ⟨m, g1, g2, g3⟩ := r_next (n := n) h.1 (tkP_le (B := B) (N := N) (i + 1)) h.2.1.2.1 hn
  exact ⟨m, g1, ⟨h.1.fg g3 (fun q => by unfold PN at q; omega) (fun i q => by unfold PN at q; omega), g2, by rw [g3.i (fun q => by unfold PN at q; omega)]; exact h.2.2⟩, g3⟩
theorem c_blame {n N M i : Nat} {x : Int32} {B : Nat → Nat} {μ : Mu} (hD : KD B N M) (h : CK μ B N M i) : fX5_blame n x μ = some (0, wI (wI μ 13 1 x) 13 2 (nI (kA B N i))) := by
  have hM := hD.2.1
  have hi := h.2.1
  have e : rI (wI μ 13 1 x) 13 4 = nI i := by rw [rI_ii (by decide)]; exact h.1
  unfold fX5_blame jX5_blame_37
  rw [e, if_neg (fun e => by have : 901 ≤ i := (le_l (k := 901) (by decide) (by omega)).mp e; omega), ib_n (by omega) (by omega), gd_true, ix_n (by omega), rI_ai (by decide), (h.2.2 i hi).2]
theorem c_refuse {n N M i : Nat} {B : Nat → Nat} {μ : Mu} (hD : KD B N M) (h : CK μ B N M i) : fX5_refuse n μ = some (0, wI (wI μ 13 1 (if kK B N i = 25 then 1 else 2)) 13 2 (nI (kA B N i))) := by
  have o := ck_1 (tkP_le (B := B) (N := N) i) hD.2.2.1
  have ec : (if ckI B N (tkP B N i) = 1 then 1 else 2 : Int32) = if kK B N i = 25 then 1 else 2 := by
    by_cases e : kK B N i = 25
    · rw [if_pos e, if_pos (o.mpr e)]
    · rw [if_neg e, if_neg (fun q => e (o.mp q))]
  unfold fX5_refuse
  rw [c_kind hD h, bnd_some, ec, c_blame hD h, bnd2_some]
  rfl
theorem r_fails {n N i : Nat} {x : Int32} {B : Nat → Nat} {μ : Mu} (h : RK μ B N i) (hb : ∀ k, k < N → B k < 256) : fX12_fails n x μ = some (wI (wI μ 139 11 (if kK B N i = 25 then 1 else x)) 139 12 (nI (kA B N i))) := by
  have kl := kK_le (i := i) hb
  have ec : (if rI μ 139 9 = 25 then 1 else x) = if kK B N i = 25 then 1 else x := by
    rw [h.2.1.2.2.1]
    by_cases e : kK B N i = 25
    · rw [if_pos e, if_pos (by show nI (kK B N i) = 25; rw [e]; rfl)]
    · rw [if_neg e, if_neg (show ¬ nI (tkK B N (tkP B N i)) = 25 from fun q => e ((nI_eq (a := kK B N i) (b := 25) (by omega) (by omega)).mp q))]
  unfold fX12_fails
  rw [h.2.2, if_pos rfl, ec, rI_ii (by decide), h.2.1.1]
theorem r_failsW {n : Nat} {x : Int32} {μ : Mu} (h : rI μ 139 11 ≠ 0) : fX12_fails n x μ = some μ := by
  unfold fX12_fails
  rw [if_neg h]
