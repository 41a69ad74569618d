/-! THE READER: expressions -/
def XC (μ : Mu) (B : Nat → Nat) (N M l i len : Nat) : Prop := CK μ B N M i ∧ rI μ 13 5 = nI l ∧ rI μ 21 1 = nI len
def XR (μ : Mu) (B : Nat → Nat) (N l i len : Nat) : Prop := RK μ B N i ∧ rI μ 139 15 = nI l ∧ rI μ 143 1341 = nI len
def PXc (l len : Nat) : Nat → Nat → Prop := fun a i => (a = 13 ∧ i = 4) ∨ (a = 21 ∧ i = 1) ∨ (a = 22 ∧ len ≤ i) ∨ (a = 24 ∧ i = l)
def PXr (len : Nat) : Nat → Nat → Prop := fun a i => PN a i ∨ (a = 143 ∧ (i = 1341 ∨ 1342 + len ≤ i))
def PBc : Nat → Nat → Prop := fun a _ => 13 ≤ a ∧ a ≤ 27
def PBr : Nat → Nat → Prop := fun a i => PN a i ∨ (a = 139 ∧ (i = 11 ∨ i = 12 ∨ i = 15)) ∨ a = 143
def CC (μc μr : Mu) (l len : Nat) (cs : List Nat) : Prop := ∀ j, j < cs.length → rI μc 22 (len + j) = nI (ccO l (cs.getD j 0)) ∧ rI μr 143 (1342 + len + j) = nI (cs.getD j 0)
/-- from token i0 and length l0 on: now token i, the codes cs more -/
def ACC (B : Nat → Nat) (N M l i0 l0 i : Nat) (cs : List Nat) (μc0 μr0 μc μr : Mu) : Prop := i0 ≤ i ∧ cs.length ≤ i - i0 ∧ XC μc B N M l i (l0 + cs.length) ∧ XR μr B N l i (l0 + cs.length) ∧ CC μc μr l l0 cs ∧ (0 < cs.length → rI μc 24 l = nI (l0 + cs.length)) ∧ Fg (PXc l l0) μc0 μc ∧ Fg (PXr l0) μr0 μr
def GOOD (B : Nat → Nat) (N M l : Nat) (ty : Bool) (H i len : Nat) (μc μr μc' μr' : Mu) : Prop := ∃ i' cs, i < i' ∧ 0 < cs.length ∧ Seg l ty H cs ∧ ACC B N M l i len i' cs μc μr μc' μr'
def BADf (μc μr μc' μr' : Mu) : Prop := rI μr' 139 11 ≠ 0 ∧ rI μc' 13 1 = rI μr' 139 11 ∧ rI μc' 13 2 = rI μr' 139 12 ∧ Fg PBc μc μc' ∧ Fg PBr μr μr'
def EXPR (B : Nat → Nat) (N M l : Nat) (ty : Bool) (H i len : Nat) (μc μr : Mu) (rc : Option (Int32 × Mu)) (rr : Option Mu) : Prop := ∃ u μc' μr', rc = some (u, μc') ∧ rr = some μr' ∧ ((u = 1 ∧ GOOD B N M l ty H i len μc μr μc' μr') ∨ (u = 0 ∧ BADf μc μr μc' μr'))
theorem PXc_B {l len a i : Nat} (h : PXc l len a i) : PBc a i := by unfold PXc at h; unfold PBc; omega
theorem PXr_B {len a i : Nat} (h : PXr len a i) : PBr a i := by
  unfold PXr at h; unfold PBr
  rcases h with h | h
  · exact Or.inl h
  · exact Or.inr (Or.inr h.1)
/-- a fault here, in both -/
theorem bad_here {N M i : Nat} {x : Int32} {B : Nat → Nat} {μc μr μc0 μr0 : Mu} (hx : x ≠ 0) (fc : Fg PBc μc0 μc) (fr : Fg PBr μr0 μr) : BADf μc0 μr0 (fbI μc B N i x) (frI μr B N i x) := by
  refine ⟨?_, ?_, ?_, ?_, ?_⟩
  · unfold frI; rw [rI_ii (by decide), rI_same]; exact hx
  · unfold frI fbI; rw [rI_ii (by decide), rI_same, rI_ii (by decide), rI_same]
  · unfold frI fbI; rw [rI_same, rI_same]
  · exact (fc.w (show PBc 13 1 by unfold PBc; omega) _).w (show PBc 13 2 by unfold PBc; omega) _
  · exact (fr.w (show PBr 139 11 from Or.inr (Or.inl ⟨rfl, by omega⟩)) _).w (show PBr 139 12 from Or.inr (Or.inl ⟨rfl, by omega⟩)) _
/-- one code more, in both -/
theorem c_code {n N M l i len c : Nat} {B : Nat → Nat} {μ : Mu} (h : XC μ B N M l i len) (hl : l < 3) (hlen : len < 900) : fX3_add n 21 (rI μ 13 5) (nI c) μ = some (wI (wI (wI μ 22 len (nI c)) 21 1 (nI (len + 1))) 24 l (nI (len + 1))) := by
  obtain ⟨h1, h2, h3⟩ := h
  unfold fX3_add
  rw [h3, h2, if_neg (fun e => by have : 900 ≤ len := (le_l (k := 900) (by decide) (by omega)).mp e; omega), ib_n hlen (by omega), gd_true, ib_n hl (by omega), gd_true, ix_n (by omega), ix_n (by omega), rI_ai (by decide), h3, show nI len + 1 = nI (len + 1) from nI_add len 1, rI_same]
theorem r_code {n N l i len c : Nat} {B : Nat → Nat} {μ : Mu} (h : XR μ B N l i len) (hlen : len < 900) : fX12_codes n (nI c) μ = some (wI (wI μ 143 (1342 + len) (nI c)) 143 1341 (nI (len + 1))) := by
  obtain ⟨h1, h2, h3⟩ := h
  unfold fX12_codes
  rw [h1.2.2, if_pos rfl, h3, show (1342 : Int32) + nI len = nI (1342 + len) from nI_add 1342 len, ib_n (by omega) (by omega), gd_true, ix_n (by omega), rI_ii (by omega), h3, show nI len + 1 = nI (len + 1) from nI_add len 1]
theorem ACC.nil {B : Nat → Nat} {N M l i len : Nat} {μc μr : Mu} (h1 : XC μc B N M l i len) (h2 : XR μr B N l i len) : ACC B N M l i len i [] μc μr μc μr := ⟨Nat.le_refl _, Nat.zero_le _, h1, h2, fun j hj => absurd hj (Nat.not_lt_zero _), fun h => absurd h (Nat.not_lt_zero _), Fg.rfl' _ _, Fg.rfl' _ _⟩
theorem ACC.nx {B : Nat → Nat} {N M l i0 l0 i n : Nat} {cs : List Nat} {μc0 μr0 μc μr : Mu} (h : ACC B N M l i0 l0 i cs μc0 μr0 μc μr) (hi : i < M) (hn : 1000 < n) : ∃ μr', fX12_next n μr = some μr' ∧ ACC B N M l i0 l0 (i + 1) cs μc0 μr0 (wI μc 13 4 (rI μc 13 4 + 1)) μr' := by
  obtain ⟨h1, h2, ⟨c1, c2, c3⟩, ⟨r1, r2, r3⟩, h5, h6, h7, h8⟩ := h
  obtain ⟨m, g1, g2, g3⟩ := r1.nx (n := n) hn
  have nn : ∀ i, ¬ PN 143 i := fun i q => by unfold PN at q; omega
  refine ⟨m, g1, by omega, by omega, ⟨c1.nx hi, by rw [rI_ii (by decide)]; exact c2, by rw [rI_ai (by decide)]; exact c3⟩, ⟨g2, by rw [g3.i (fun q => by unfold PN at q; omega)]; exact r2, by rw [g3.i (nn _)]; exact r3⟩, fun j hj => ?_, fun q => by rw [rI_ai (by decide)]; exact h6 q, h7.w (Or.inl ⟨rfl, rfl⟩) _, h8.tr (g3.mono fun a i q => Or.inl q)⟩
  rw [rI_ai (by decide), g3.i (nn _)]
  exact h5 j hj
theorem ACC.code {B : Nat → Nat} {N M l i0 l0 i n c : Nat} {cs : List Nat} {μc0 μr0 μc μr : Mu} (h : ACC B N M l i0 l0 i cs μc0 μr0 μc μr) (hc : cs.length < i - i0) (hl : l < 3) (h0 : l0 ≤ i0) (hM : M ≤ 900) : ∃ μc' μr', fX3_add n 21 (rI μc 13 5) (nI (ccO l c)) μc = some μc' ∧ fX12_codes n (nI c) μr = some μr' ∧ ACC B N M l i0 l0 i (cs ++ [c]) μc0 μr0 μc' μr' := by
  obtain ⟨h1, h2, hC, hR, h5, h6, h7, h8⟩ := h
  have hi := hC.1.2.1
  have a1 := c_code (n := n) (c := ccO l c) hC hl (by omega)
  have a2 := r_code (n := n) (c := c) hR (by omega)
  obtain ⟨c1, c2, c3⟩ := hC
  obtain ⟨r1, r2, r3⟩ := hR
  have ll : (cs ++ [c]).length = cs.length + 1 := by simp
  have fc : Fg (PXc l (l0 + cs.length)) μc (wI (wI (wI μc 22 (l0 + cs.length) (nI (ccO l c))) 21 1 (nI (l0 + cs.length + 1))) 24 l (nI (l0 + cs.length + 1))) := (((Fg.rfl' _ _).w (Or.inr (Or.inr (Or.inl ⟨rfl, Nat.le_refl _⟩))) _).w (Or.inr (Or.inl ⟨rfl, rfl⟩)) _).w (Or.inr (Or.inr (Or.inr ⟨rfl, rfl⟩))) _
  have fr : Fg (PXr (l0 + cs.length)) μr (wI (wI μr 143 (1342 + (l0 + cs.length)) (nI c)) 143 1341 (nI (l0 + cs.length + 1))) := ((Fg.rfl' _ _).w (Or.inr ⟨rfl, Or.inr (Nat.le_refl _)⟩) _).w (Or.inr ⟨rfl, Or.inl rfl⟩) _
  refine ⟨_, _, a1, a2, h1, by omega, ⟨⟨by rw [rI_ai (by decide), rI_ai (by decide), rI_ai (by decide)]; exact c1.1, c1.2.1, fun j hj => by rw [rI_ai (by decide), rI_ai (by decide), rI_ai (by decide), rI_ai (by decide), rI_ai (by decide), rI_ai (by decide)]; exact c1.2.2 j hj⟩, by rw [rI_ai (by decide), rI_ai (by decide), rI_ai (by decide)]; exact c2, by rw [rI_ai (by decide), rI_same, ll]; rfl⟩, ⟨⟨r1.1.fg fr (fun q => by unfold PXr PN at q; omega) (fun i q => by unfold PXr PN at q; omega), ?_, by rw [rI_ai (by decide), rI_ai (by decide)]; exact r1.2.2⟩, by rw [rI_ai (by decide), rI_ai (by decide)]; exact r2, by rw [rI_same, ll]; rfl⟩, fun j hj => ?_, fun _ => by rw [rI_same, ll]; rfl, h7.tr (fc.mono fun a i q => by unfold PXc at q ⊢; omega), h8.tr (fr.mono fun a i q => by
    unfold PXr at q ⊢
    rcases q with q | q
    · exact Or.inl q
    · exact Or.inr (by omega))⟩
  · obtain ⟨t1, t2, t3, t4⟩ := r1.2.1
    exact ⟨by rw [rI_ai (by decide), rI_ai (by decide)]; exact t1, by rw [rI_ai (by decide), rI_ai (by decide)]; exact t2, by rw [rI_ai (by decide), rI_ai (by decide)]; exact t3, fun e => by rw [rI_ai (by decide), rI_ai (by decide)]; exact t4 e⟩
  · rw [ll] at hj
    rw [rI_ai (by decide), rI_ai (by decide)]
    by_cases e : j = cs.length
    · subst e
      have g : (cs ++ [c]).getD cs.length 0 = c := by simp
      rw [g, rI_same, rI_ii (by omega), show 1342 + l0 + cs.length = 1342 + (l0 + cs.length) by omega, rI_same]
      exact ⟨rfl, rfl⟩
    · have g : (cs ++ [c]).getD j 0 = cs.getD j 0 := by
        rw [List.getD_eq_getElem?_getD, List.getD_eq_getElem?_getD, List.getElem?_append_left (by omega)]
      rw [g, rI_ii (by omega), rI_ii (by omega), rI_ii (by omega)]
      exact h5 j (by omega)
theorem ACC.app {B : Nat → Nat} {N M l i0 l0 i i' : Nat} {cs ds : List Nat} {μc0 μr0 μc μr μc' μr' : Mu} (h : ACC B N M l i0 l0 i cs μc0 μr0 μc μr) (h' : ACC B N M l i (l0 + cs.length) i' ds μc μr μc' μr') (hd : 0 < ds.length) : ACC B N M l i0 l0 i' (cs ++ ds) μc0 μr0 μc' μr' := by
  obtain ⟨h1, h2, hC, hR, h5, h6, h7, h8⟩ := h
  obtain ⟨g1, g2, gC, gR, g5, g6, g7, g8⟩ := h'
  have ll : (cs ++ ds).length = cs.length + ds.length := by simp
  have e : l0 + (cs ++ ds).length = l0 + cs.length + ds.length := by omega
  refine ⟨by omega, by omega, by rw [e]; exact gC, by rw [e]; exact gR, fun j hj => ?_, fun _ => by rw [e]; exact g6 hd, h7.tr (g7.mono fun a i q => by unfold PXc at q ⊢; omega), h8.tr (g8.mono fun a i q => by
    unfold PXr at q ⊢
    rcases q with q | q
    · exact Or.inl q
    · exact Or.inr (by omega))⟩
  by_cases c : j < cs.length
  · have g : (cs ++ ds).getD j 0 = cs.getD j 0 := by
      rw [List.getD_eq_getElem?_getD, List.getD_eq_getElem?_getD, List.getElem?_append_left c]
    rw [g, g7.i (fun q => by unfold PXc at q; omega), g8.i (fun q => by unfold PXr PN at q; omega)]
    exact h5 j c
  · have g : (cs ++ ds).getD j 0 = ds.getD (j - cs.length) 0 := by
      rw [List.getD_eq_getElem?_getD, List.getD_eq_getElem?_getD, List.getElem?_append_right (by omega)]
    have := g5 (j - cs.length) (by omega)
    rw [g, show l0 + j = l0 + cs.length + (j - cs.length) by omega, show 1342 + l0 + j = 1342 + (l0 + cs.length) + (j - cs.length) by omega]
    exact this
