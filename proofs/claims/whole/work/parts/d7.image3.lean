/-! IMAGES: both sides -/
def IMG1 (sh : List Sh) (R : Rf) (μ : Mu) (B i : Nat) : Prop := (R 137 i = none ∧ rI μ 141 i = 0) ∨ (∃ a s t, R 137 i = some a ∧ isIm sh R a ∧ 155 ≤ a ∧ rI μ 141 i = 1 ∧ SV s ∧ TV s t ∧ tH t ≤ B ∧ CS μ (a + 1) s ∧ CB μ (a + 12) s t ∧ RSg (fun k => rI μ 140 (2242 * (i + 1) + k)) s ∧ RB s t (fun k => rI μ 140 (2242 * (i + 1) + 64 + k)))
theorem RI.hi {P : Nat → Nat → Prop} {μ μ' : Mu} {s : SD} {t : ST} {m : Nat} {h : Nat → ST} {B : Nat} (hh : RI μ s t m h) (hv : VI s t m h B) (e : Fg P μ μ') (h1 : ∀ i, i < 2242 → ¬ P 140 i) (h2 : ¬ P 139 19) : RI μ' s t m h := by
  obtain ⟨a1, a2, ⟨a3, a4, a5⟩, a6⟩ := hh
  exact ⟨a1.congr hv.1 fun i hi => e.i (h1 _ (by omega)), RB.congr a2 hv.2.1 hv.1 fun i hi => e.i (h1 _ (by omega)), ⟨by rw [e.i (h1 _ (by omega))]; exact a3, a4, fun j hj => (a5 j hj).congr (hv.2.2.2 j hj).1 hv.1 fun i hi => e.i (h1 _ (by omega))⟩, by rw [e.i h2]; exact a6⟩
theorem ref_image {n i : Nat} {μ : Mu} (hi : i < 2) (hn : 5000 < n) : ∃ μ2, fX12_image n (nI i) μ = some (0, μ2) ∧ (∀ j, j < 2242 → rI μ2 140 (2242 * (i + 1) + j) = rI μ 140 j) ∧ rI μ2 141 i = 1 ∧ Fg (fun a q => (a = 139 ∧ q = 0) ∨ (a = 140 ∧ 2242 * (i + 1) ≤ q ∧ q < 2242 * (i + 2)) ∨ (a = 141 ∧ q = i)) μ μ2 := by
  have key : Rn (lp n (sX12_image_20 n (nI i)) (0, wI μ 139 0 0)) (fun m => (∀ k, k < 2242 → rI m 140 (2242 * (i + 1) + k) = rI μ 140 k) ∧ Fg (fun a q => a = 140 ∧ 2242 * (i + 1) ≤ q ∧ q < 2242 * (i + 2)) (wI μ 139 0 0) m) := by
    refine Rn.l 2242 (fun j q => q.1 = nI j ∧ (∀ k, k < j → rI q.2 140 (2242 * (i + 1) + k) = rI μ 140 k) ∧ Fg (fun a q => a = 140 ∧ 2242 * (i + 1) ≤ q ∧ q < 2242 * (i + 2)) (wI μ 139 0 0) q.2) _ (by omega) ⟨rfl, fun k hk => absurd hk (Nat.not_lt_zero _), Fg.rfl' _ _⟩ ?_ ?_
    · rintro j ⟨x, m⟩ hj ⟨e1, e2, e3⟩
      have e1 : x = nI j := e1
      subst e1
      have e2 : ∀ k, k < j → rI m 140 (2242 * (i + 1) + k) = rI μ 140 k := e2
      have e3 : Fg (fun a q => a = 140 ∧ 2242 * (i + 1) ≤ q ∧ q < 2242 * (i + 2)) (wI μ 139 0 0) m := e3
      show Rn (if (2242 : Int32) ≤ nI j then _ else _) _
      have ea : (2242 : Int32) * (nI i + 1) + nI j = nI (2242 * (i + 1) + j) := by
        rw [show nI i + 1 = nI (i + 1) from nI_add i 1, show (2242 : Int32) * nI (i + 1) = nI (2242 * (i + 1)) from pk_mul 2242 (i + 1)]
        exact nI_add _ j
      rw [if_neg (fun e => by have : 2242 ≤ j := (le_l (k := 2242) (by decide) (by omega)).mp e; omega), ea, ib_n (by omega) (by omega), gd_true, ib_n (by omega) (by omega), gd_true, ix_n (by omega), ix_n (by omega)]
      refine Rn.so ⟨nI_add j 1, fun k hk => ?_, e3.w ⟨rfl, by omega, by omega⟩ _⟩
      show rI (wI m 140 (2242 * (i + 1) + j) (rI m 140 j)) 140 (2242 * (i + 1) + k) = _
      by_cases e : k = j
      · rw [e, rI_same, e3.i (by omega), rI_ai (by decide)]
      · rw [rI_ii (by omega)]; exact e2 k (by omega)
    · rintro ⟨x, m⟩ ⟨e1, e2, e3⟩
      have e1 : x = nI 2242 := e1
      subst e1
      exact Rn.e (r := m) (by
        simp only [sX12_image_20]
        rw [if_pos (by decide)]) ⟨e2, e3⟩
  obtain ⟨m, g1, g2, g3⟩ := key
  refine ⟨wI m 141 i 1, ?_, fun j hj => ?_, rI_same _ _ _ _, ((((Fg.rfl' _ _).w (Or.inl ⟨rfl, rfl⟩) _).tr (g3.mono fun a q z => Or.inr (Or.inl z))).w (Or.inr (Or.inr ⟨rfl, rfl⟩)) _)⟩
  · have wn : ∀ i, i < 2 → decide ((0 : Int64) ≤ (nI i).toInt64 ∧ (nI i).toInt64 ≤ 1) = true := by decide
    unfold fX12_image
    rw [f_within, bnd_some, ifb, if_pos (wn i hi), g1, bnd_some]
    show gd (ib (nI i) 2) (some (0, wI m 141 (ix (nI i)) (vp_nar .boolean 1))) = _
    rw [ib_n hi (by omega), gd_true, ix_n (by omega), show vp_nar .boolean 1 = 1 by decide]
  · rw [rI_ai (by decide)]; exact g2 j hj
theorem two_cases (x : Int32) : (∃ i, i < 2 ∧ x = nI i) ∨ (¬ (0 ≤ x ∧ x ≤ 1)) := by
  by_cases c : 0 ≤ x ∧ x ≤ 1
  · obtain ⟨k, e, hk⟩ := i32_nat c.1
    subst e
    have : k ≤ 1 := (nI_leI (a := k) (b := 1) hk (by omega)).mp c.2
    exact Or.inl ⟨k, by omega, rfl⟩
  · exact Or.inr c
theorem w11_in {n i : Nat} {μ : Mu} (hi : i < 2) : fX11_within n (nI i) 0 1 μ = some 1 := by
  have z : ∀ i, i < 2 → (if wi (nI i) 0 1 = true then (1 : Int32) else 0) = 1 := by decide
  exact (w11 (n := n) (x := nI i) (μ := μ) 0 1).trans (congrArg some (z i hi))
theorem w11_out {n : Nat} {x : Int32} {μ : Mu} (h : ¬ (0 ≤ x ∧ x ≤ 1)) : fX11_within n x 0 1 μ = some 0 := by
  refine (w11 (n := n) (x := x) (μ := μ) 0 1).trans ?_
  rw [if_neg]
  intro q
  unfold wi at q
  exact h (of_decide_eq_true q)
