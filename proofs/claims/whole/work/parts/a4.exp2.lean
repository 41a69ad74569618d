/-! THE READER: chains of expressions -/
def HF (B : Nat → Nat) (N M l : Nat) (ty : Bool) (H : Nat) (Fc : Mu → Option (Int32 × Mu)) (Fr : Mu → Option Mu) : Prop := ∀ i len μc μr, XC μc B N M l i len → XR μr B N l i len → len ≤ i → EXPR B N M l ty H i len μc μr (Fc μc) (Fr μr)
theorem Seg.bin' {l H op : Nat} {ty : Bool} {xs ys : List Nat} (hx : Seg l ty (H + 1) xs) (hy : Seg l ty H ys) (hop : 3000 ≤ op ∧ op ≤ 3008 ∧ op ≠ 3006) (ht : op = 3007 ∨ op = 3008 → ty = true) (hH : 1 ≤ H) : Seg l (decide (3003 ≤ op)) (H + 1) (xs ++ ys ++ [op]) := fun st => by
  obtain ⟨x1, x2⟩ := hx st
  obtain ⟨y1, y2⟩ := hy (ty :: st)
  have e : rnT st (xs ++ ys) = ty :: ty :: st := by rw [rnT_app, x2, y2]
  refine ⟨sgS_app st (xs ++ ys) [op] (sgS_app st xs ys x1 ?_) ?_, ?_⟩
  · rw [x2]; exact sgS_mono (by show st.length + 1 + H ≤ st.length + (H + 1); omega) _ _ y1
  · rw [e]
    refine ⟨by unfold alw; omega, fun _ => ?_, ⟨fun q => absurd q hop.2.2, fun q => ⟨st, by rw [ht q]⟩⟩, ?_, trivial⟩
    · rw [if_neg hop.2.2]; show 2 ≤ st.length + 1 + 1; omega
    · show st.length + 1 + 1 ≤ st.length + (H + 1); omega
  · rw [rnT_app, e]
    show ty1 op (ty :: ty :: st) = _
    unfold ty1
    rw [if_neg (by omega), if_neg hop.2.2]
theorem r_eats' {n N i K : Nat} {B : Nat → Nat} {μ m : Mu} (h : RK μ B N i) (hK : K < 2147483648) (hb : ∀ k, k < N → B k < 256) (e : kK B N i = K) (g : fX12_next n μ = some m) : fX12_eats n (nI K) μ = some (1, m) := by
  unfold fX12_eats
  rw [r_is h hK hb, if_pos e, bnd_some, if_neg (by decide), g, bnd_some]
theorem BADf.tr {μc0 μr0 μc μr μc' μr' : Mu} (h : BADf μc μr μc' μr') (fc : Fg PBc μc0 μc) (fr : Fg PBr μr0 μr) : BADf μc0 μr0 μc' μr' := ⟨h.1, h.2.1, h.2.2.1, fc.tr h.2.2.2.1, fr.tr h.2.2.2.2⟩
theorem ACC.bad {B : Nat → Nat} {N M l i0 l0 i : Nat} {cs : List Nat} {μc0 μr0 μc μr μc' μr' : Mu} (h : ACC B N M l i0 l0 i cs μc0 μr0 μc μr) (hb : BADf μc μr μc' μr') : BADf μc0 μr0 μc' μr' := hb.tr (h.2.2.2.2.2.2.1.mono fun _ _ => PXc_B) (h.2.2.2.2.2.2.2.mono fun _ _ => PXr_B)
/-- the next token, one expression behind it, and its code -/
theorem bin_step {B : Nat → Nat} {N M l i0 l0 i n op H : Nat} {ty : Bool} {cs : List Nat} {μc0 μr0 μc μr : Mu} {Fc : Mu → Option (Int32 × Mu)} {Fr : Mu → Option Mu} (hF : HF B N M l ty H Fc Fr) (h : ACC B N M l i0 l0 i cs μc0 μr0 μc μr) (hs : Seg l ty (H + 1) cs) (hi : i < M) (hn : 1000 < n) (hl : l < 3) (h0 : l0 ≤ i0) (hM : M ≤ 900) (hop : 3000 ≤ op ∧ op ≤ 3008 ∧ op ≠ 3006) (ht : op = 3007 ∨ op = 3008 → ty = true) (hH : 1 ≤ H) : ∃ μrn, fX12_next n μr = some μrn ∧ ∃ u μc1 μr1, Fc (wI μc 13 4 (rI μc 13 4 + 1)) = some (u, μc1) ∧ Fr μrn = some μr1 ∧ ((u = 1 ∧ ∃ i' cs' μc' μr', fX3_add n 21 (rI μc1 13 5) (nI (ccO l op)) μc1 = some μc' ∧ fX12_codes n (nI op) μr1 = some μr' ∧ i < i' ∧ 0 < cs'.length ∧ Seg l (decide (3003 ≤ op)) (H + 1) cs' ∧ ACC B N M l i0 l0 i' cs' μc0 μr0 μc' μr') ∨ (u = 0 ∧ BADf μc0 μr0 μc1 μr1)) := by
  obtain ⟨μrn, g1, g2⟩ := h.nx hi hn
  refine ⟨μrn, g1, ?_⟩
  have hle : l0 + cs.length ≤ i + 1 := by have := h.1; have := h.2.1; omega
  obtain ⟨u, μc1, μr1, e1, e2, e3⟩ := hF (i + 1) (l0 + cs.length) _ _ g2.2.2.1 g2.2.2.2.1 hle
  refine ⟨u, μc1, μr1, e1, e2, ?_⟩
  rcases e3 with ⟨eu, i', ds, d1, d2, d3, d4⟩ | ⟨eu, hb⟩
  · refine Or.inl ⟨eu, ?_⟩
    have a := g2.app d4 d2
    have ll : (cs ++ ds).length = cs.length + ds.length := by simp
    obtain ⟨μc', μr', f1, f2, f3⟩ := a.code (n := n) (c := op) (by have := h.1; have := h.2.1; have := d4.2.1; omega) hl h0 hM
    refine ⟨i', cs ++ ds ++ [op], μc', μr', f1, f2, by omega, ?_, Seg.bin' hs d3 hop ht hH, f3⟩
    rw [List.length_append]; exact Nat.succ_pos _
  · exact Or.inr ⟨eu, g2.bad hb⟩
/-- a loop of such steps -/
theorem chain_lp {B : Nat → Nat} {N M l i0 l0 H : Nat} {ty : Bool} {μc0 μr0 : Mu} {sc : Int32 × Mu → Option ((Int32 × Mu) ⊕ (Mu ⊕ Mu))} {sr : Mu → Option (Mu ⊕ Mu)} (hw : ∀ μ, rI μ 139 11 ≠ 0 → sr μ = some (.inr μ)) (hs : ∀ c i cs μc μr, c < i → i0 < i → 0 < cs.length → Seg l ty H cs → ACC B N M l i0 l0 i cs μc0 μr0 μc μr → (sc (nI c, μc) = some (.inr (.inr μc)) ∧ sr μr = some (.inr μr)) ∨ (∃ i' cs' μc' μr', sc (nI c, μc) = some (.inl (nI (c + 1), μc')) ∧ sr μr = some (.inl μr') ∧ i < i' ∧ 0 < cs'.length ∧ Seg l ty H cs' ∧ ACC B N M l i0 l0 i' cs' μc0 μr0 μc' μr') ∨ (∃ μc' μr', sc (nI c, μc) = some (.inr (.inl μc')) ∧ sr μr = some (.inl μr') ∧ BADf μc0 μr0 μc' μr')) : ∀ k c i cs μc μr mc mr, M - i ≤ k → k + 2 ≤ mc → k + 2 ≤ mr → c < i → i0 < i → 0 < cs.length → Seg l ty H cs → ACC B N M l i0 l0 i cs μc0 μr0 μc μr → ∃ o μr', lp mc sc (nI c, μc) = some o ∧ lp mr sr μr = some μr' ∧ ((∃ μc', o = .inr μc' ∧ GOOD B N M l ty H i0 l0 μc0 μr0 μc' μr') ∨ (∃ μc', o = .inl μc' ∧ BADf μc0 μr0 μc' μr')) := by
  intro k
  induction k with
  | zero =>
    intro c i cs μc μr mc mr hk hmc hmr hc hi hcs hsg ha
    obtain ⟨mc, rfl⟩ : ∃ e, mc = e + 1 := ⟨mc - 1, by omega⟩
    obtain ⟨mr, rfl⟩ : ∃ e, mr = e + 1 := ⟨mr - 1, by omega⟩
    rcases hs c i cs μc μr hc hi hcs hsg ha with ⟨e1, e2⟩ | ⟨i', cs', μc', μr', e1, e2, e3, e4, e5, e6⟩ | ⟨μc', μr', e1, e2, e3⟩
    · exact ⟨_, _, by unfold lp; rw [e1], by unfold lp; rw [e2], Or.inl ⟨_, rfl, i, cs, hi, hcs, hsg, ha⟩⟩
    · have := e6.2.2.1.1.2.1; omega
    · exact ⟨_, _, by unfold lp; rw [e1], by unfold lp; rw [e2]; exact lp_out (hw _ e3.1) (by omega), Or.inr ⟨_, rfl, e3⟩⟩
  | succ k ih =>
    intro c i cs μc μr mc mr hk hmc hmr hc hi hcs hsg ha
    obtain ⟨mc, rfl⟩ : ∃ e, mc = e + 1 := ⟨mc - 1, by omega⟩
    obtain ⟨mr, rfl⟩ : ∃ e, mr = e + 1 := ⟨mr - 1, by omega⟩
    rcases hs c i cs μc μr hc hi hcs hsg ha with ⟨e1, e2⟩ | ⟨i', cs', μc', μr', e1, e2, e3, e4, e5, e6⟩ | ⟨μc', μr', e1, e2, e3⟩
    · exact ⟨_, _, by unfold lp; rw [e1], by unfold lp; rw [e2], Or.inl ⟨_, rfl, i, cs, hi, hcs, hsg, ha⟩⟩
    · obtain ⟨o, μr2, f1, f2, f3⟩ := ih (c + 1) i' cs' μc' μr' mc mr (by omega) (by omega) (by omega) (by omega) (by omega) e4 e5 e6
      exact ⟨o, μr2, by unfold lp; rw [e1]; exact f1, by unfold lp; rw [e2]; exact f2, f3⟩
    · exact ⟨_, _, by unfold lp; rw [e1], by unfold lp; rw [e2]; exact lp_out (hw _ e3.1) (by omega), Or.inr ⟨_, rfl, e3⟩⟩
/-- an expression, then such a loop -/
theorem chain_all {B : Nat → Nat} {N M l n H i len : Nat} {ty : Bool} {μc μr : Mu} {Fc : Mu → Option (Int32 × Mu)} {Fr : Mu → Option Mu} {sc : Int32 × Mu → Option ((Int32 × Mu) ⊕ (Mu ⊕ Mu))} {sr : Mu → Option (Mu ⊕ Mu)} (hF : HF B N M l ty H Fc Fr) (hX : XC μc B N M l i len) (hR : XR μr B N l i len) (hle : len ≤ i) (hM : M ≤ 900) (hn : 1000 < n) (hw : ∀ μ, rI μ 139 11 ≠ 0 → sr μ = some (.inr μ)) (hs : ∀ c i' cs μc' μr', c < i' → i < i' → 0 < cs.length → Seg l ty (H + 1) cs → ACC B N M l i len i' cs μc μr μc' μr' → (sc (nI c, μc') = some (.inr (.inr μc')) ∧ sr μr' = some (.inr μr')) ∨ (∃ i2 cs' μc2 μr2, sc (nI c, μc') = some (.inl (nI (c + 1), μc2)) ∧ sr μr' = some (.inl μr2) ∧ i' < i2 ∧ 0 < cs'.length ∧ Seg l ty (H + 1) cs' ∧ ACC B N M l i len i2 cs' μc μr μc2 μr2) ∨ (∃ μc2 μr2, sc (nI c, μc') = some (.inr (.inl μc2)) ∧ sr μr' = some (.inl μr2) ∧ BADf μc μr μc2 μr2)) : EXPR B N M l ty (H + 1) i len μc μr (bnd2 (Fc μc) fun u3 m2 => if u3 = 0 then (some (0, m2)) else (bnd (lp n sc (0, m2)) fun q => match q with | .inl m15 => (some (0, m15)) | .inr m16 => (some (1, m16)))) (bnd (Fr μr) fun m2 => bnd (lp n sr m2) fun q => match q with | m11 => some m11) := by
  obtain ⟨u, μc1, μr1, e1, e2, e3⟩ := hF i len μc μr hX hR hle
  rcases e3 with ⟨eu, i', cs, d1, d2, d3, d4⟩ | ⟨eu, hb⟩
  · obtain ⟨o, μr2, f1, f2, f3⟩ := chain_lp hw hs 900 0 i' cs μc1 μr1 n n (by omega) (by omega) (by omega) (by omega) d1 d2 (d3.mono (by omega)) d4
    rcases f3 with ⟨μc2, eo, g⟩ | ⟨μc2, eo, g⟩
    · refine ⟨1, μc2, μr2, ?_, ?_, Or.inl ⟨rfl, g⟩⟩
      · rw [e1, bnd2_some, eu, if_neg (by decide), show (0 : Int32) = nI 0 from rfl, f1, bnd_some, eo]
      · rw [e2, bnd_some, f2, bnd_some]
    · refine ⟨0, μc2, μr2, ?_, ?_, Or.inr ⟨rfl, g⟩⟩
      · rw [e1, bnd2_some, eu, if_neg (by decide), show lp n sc (0, μc1) = lp n sc (nI 0, μc1) from rfl, f1, bnd_some, eo]
      · rw [e2, bnd_some, f2, bnd_some]
  · refine ⟨0, μc1, μr1, ?_, ?_, Or.inr ⟨rfl, hb⟩⟩
    · rw [e1, bnd2_some, if_pos eu]
    · rw [e2, bnd_some, lp_out (hw _ hb.1) (by omega), bnd_some]
