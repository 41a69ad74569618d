/-! THE READER: expressions -/
def XC (μ : Mu) (B : Nat → Nat) (N M l i len : Nat) : Prop := CK μ B N M i ∧ rI μ 13 5 = nI l ∧ rI μ 21 1 = nI len
def XR (μ : Mu) (B : Nat → Nat) (N l i len : Nat) : Prop := RK μ B N i ∧ rI μ 139 15 = nI l ∧ rI μ 143 1341 = nI len
def PXc (l len : Nat) : Nat → Nat → Prop := fun a i => (a = 13 ∧ i = 4) ∨ (a = 21 ∧ i = 1) ∨ (a = 22 ∧ len ≤ i) ∨ (a = 24 ∧ i = l)
def PXr (len : Nat) : Nat → Nat → Prop := fun a i => PN a i ∨ (a = 143 ∧ (i = 1341 ∨ 1342 + len ≤ i))
def PBc : Nat → Nat → Prop := fun a _ => 13 ≤ a ∧ a ≤ 27
def PBr : Nat → Nat → Prop := fun a i => PN a i ∨ (a = 139 ∧ (i = 11 ∨ i = 12 ∨ i = 15)) ∨ a = 143
def CC (μc μr : Mu) (l len : Nat) (cs : List Nat) : Prop := ∀ j, j < cs.length → rI μc 22 (len + j) = nI (ccO l (cs.getD j 0)) ∧ rI μr 143 (1342 + len + j) = nI (cs.getD j 0)
def GOOD (B : Nat → Nat) (N M l : Nat) (ty : Bool) (H i len : Nat) (μc μr μc' μr' : Mu) : Prop := ∃ i' cs, i < i' ∧ cs.length ≤ i' - i ∧ XC μc' B N M l i' (len + cs.length) ∧ XR μr' B N l i' (len + cs.length) ∧ CC μc' μr' l len cs ∧ rI μc' 24 l = nI (len + cs.length) ∧ Seg l ty H cs ∧ Fg (PXc l len) μc μc' ∧ Fg (PXr len) μr μr'
def BADf (μc μr μc' μr' : Mu) : Prop := rI μr' 139 11 ≠ 0 ∧ rI μc' 13 1 = rI μr' 139 11 ∧ rI μc' 13 2 = rI μr' 139 12 ∧ Fg PBc μc μc' ∧ Fg PBr μr μr'
def EXPR (B : Nat → Nat) (N M l : Nat) (ty : Bool) (H i len : Nat) (μc μr : Mu) (rc : Option (Int32 × Mu)) (rr : Option Mu) : Prop := ∃ u μc' μr', rc = some (u, μc') ∧ rr = some μr' ∧ ((u = 1 ∧ GOOD B N M l ty H i len μc μr μc' μr') ∨ (u = 0 ∧ BADf μc μr μc' μr'))
theorem PXc_B {l len a i : Nat} (h : PXc l len a i) : PBc a i := by unfold PXc at h; unfold PBc; omega
theorem PXr_B {len a i : Nat} (h : PXr len a i) : PBr a i := by
  unfold PXr at h; unfold PBr
  rcases h with h | h
  · exact Or.inl h
  · exact Or.inr (Or.inr h.1)
/-- a fault here, in both -/
theorem bad_here {N M i : Nat} {x : Int32} {B : Nat → Nat} {μc μr μc0 μr0 : Mu} (hx : x ≠ 0) (fc : Fg PBc μc0 μc) (fr : Fg PBr μr0 μr) : BADf μc0 μr0 (fbI μc B N i x) (frI μr B N i x) := by
  refine ⟨?_, ?_, ?_, ?_, ?_⟩
  · unfold frI; rw [rI_ii (by decide), rI_same]; exact hx
  · unfold frI fbI; rw [rI_ii (by decide), rI_same, rI_ii (by decide), rI_same]
  · unfold frI fbI; rw [rI_same, rI_same]
  · exact (fc.w (show PBc 13 1 by unfold PBc; omega) _).w (show PBc 13 2 by unfold PBc; omega) _
  · exact (fr.w (show PBr 139 11 from Or.inr (Or.inl ⟨rfl, by omega⟩)) _).w (show PBr 139 12 from Or.inr (Or.inl ⟨rfl, by omega⟩)) _
/-- one code more, in both -/
theorem c_code {n N M l i len c : Nat} {B : Nat → Nat} {μ : Mu} (h : XC μ B N M l i len) (hl : l < 3) (hlen : len < 900) : fX3_add n 21 (rI μ 13 5) (nI c) μ = some (wI (wI (wI μ 22 len (nI c)) 21 1 (nI (len + 1))) 24 l (nI (len + 1))) := by
  obtain ⟨h1, h2, h3⟩ := h
  unfold fX3_add
  rw [h3, h2, if_neg (fun e => by have : 900 ≤ len := (le_l (k := 900) (by decide) (by omega)).mp e; omega), ib_n hlen (by omega), gd_true, ib_n hl (by omega), gd_true, ix_n (by omega), ix_n (by omega), rI_ai (by decide), h3, show nI len + 1 = nI (len + 1) from nI_add len 1, rI_same]
theorem r_code {n N l i len c : Nat} {B : Nat → Nat} {μ : Mu} (h : XR μ B N l i len) (hlen : len < 900) : fX12_codes n (nI c) μ = some (wI (wI μ 143 (1342 + len) (nI c)) 143 1341 (nI (len + 1))) := by
  obtain ⟨h1, h2, h3⟩ := h
  unfold fX12_codes
  rw [h1.2.2, if_pos rfl, h3, show (1342 : Int32) + nI len = nI (1342 + len) from nI_add 1342 len, ib_n (by omega) (by omega), gd_true, ix_n (by omega), rI_ii (by omega), h3, show nI len + 1 = nI (len + 1) from nI_add len 1]
