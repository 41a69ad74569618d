/-! THE READER: a person's line -/
def perS (s : SD) (h d : Nat) : SD := upS (upS (upS s 4 (sP s) h) 5 (sP s) d) 0 2 (sP s + 1)
theorem perS_01 {s : SD} {h d : Nat} : perS s h d 0 2 = sP s + 1 := upS_eq _ _ _ _
theorem perS_0 {s : SD} {h d j : Nat} (hj : j ≠ 2) : perS s h d 0 j = s 0 j := by unfold perS; rw [upS_ni hj, upS_na (by decide), upS_na (by decide)]
theorem perS_4 {s : SD} {h d p : Nat} : perS s h d 4 p = if p = sP s then h else s 4 p := by
  unfold perS; rw [upS_na (by decide), upS_na (by decide)]
  unfold upS; simp
theorem perS_5 {s : SD} {h d p : Nat} : perS s h d 5 p = if p = sP s then d else s 5 p := by
  unfold perS; rw [upS_na (by decide)]
  unfold upS; simp
theorem perS_a {s : SD} {h d a c : Nat} (h0 : 1 ≤ a) (h4 : a ≠ 4) (h5 : a ≠ 5) : perS s h d a c = s a c := by
  unfold perS; rw [upS_na (by omega), upS_na (by omega), upS_na (by omega)]
def Pcp (P : Nat) : Nat → Nat → Prop := fun a i => (a = 13 ∧ i = 4) ∨ (a = 18 ∧ i = P) ∨ (a = 14 ∧ i = 7) ∨ (a = 14 ∧ i = 2)
def Prp (P : Nat) : Nat → Nat → Prop := fun a i => PN a i ∨ (a = 143 ∧ (i = 44 + P ∨ i = 50 + P ∨ i = 3))
theorem per_sea {μc μr μc' μr' : Mu} {s : SD} {len h d : Nat} (hS : SEA μc μr s len) (hp6 : sP s < 6) (hh : h < sB s ∨ h = 6) (hd : d ≤ 1) (fc : Fg (Pcp (sP s)) μc μc') (fr : Fg (Prp (sP s)) μr μr') (c1 : rI μc' 18 (sP s) = e6 h) (c2 : bs (rI μc' 14 7) (sP s + 1) (fun p => decide ((if p = sP s then d else s 5 p) = 1))) (c3 : rI μc' 14 2 = nI (sP s + 1)) (r1 : rI μr' 143 (44 + sP s) = e6 h) (r2 : rI μr' 143 (50 + sP s) = nI d) (r3 : rI μr' 143 3 = nI (sP s + 1)) : SEA μc' μr' (perS s h d) len := by
  obtain ⟨hv, ⟨⟨a0, a1, a2, a3, a4, a5, a6, a7⟩, aC, aP, aK, aL1, aL2⟩, ⟨b0, b1, b2, b3, b4, b5, b6, b7, b8, b9⟩, bC, bP, bK, bL1, bL2⟩ := hS
  obtain ⟨v1, v2, v3, v4, v5, v6, v7, v8, v9, v10, v11⟩ := hv
  have e0 : ∀ j, j ≠ 2 → perS s h d 0 j = s 0 j := fun j hj => perS_0 hj
  have eB : sB (perS s h d) = sB s := e0 0 (by decide)
  have eC : sC (perS s h d) = sC s := e0 1 (by decide)
  have eS : sS (perS s h d) = sS s := e0 3 (by decide)
  have eP : sP (perS s h d) = sP s + 1 := perS_01
  have eL : ∀ l, sLn (perS s h d) l = sLn s l := fun l => e0 (5 + l) (by omega)
  have eA : ∀ a c, 1 ≤ a → a ≠ 4 → a ≠ 5 → perS s h d a c = s a c := fun a c h0 h4 h5 => perS_a h0 h4 h5
  refine ⟨⟨by rw [eB]; exact v1, by rw [eC]; exact v2, by rw [eP]; omega, by rw [eS]; exact v4, fun c hcc => ?_, fun p hp => ?_, fun k hk => ?_, fun l hl => ?_, by rw [e0 4 (by decide)]; exact v9, by rw [e0 8 (by decide)]; exact v10, by rw [e0 9 (by decide)]; exact v11⟩, ⟨⟨?_, ?_, ?_, ?_, ?_, ?_, ?_, ?_⟩, fun c hcc => ?_, fun p hp => ?_, fun k hk => ?_, ?_, fun l hl => ?_⟩, ⟨?_, ?_, ?_, ?_, ?_, ?_, ?_, ?_, ?_, ?_⟩, fun c hcc => ?_, ⟨fun p hp => ?_, fun p hp hp6 => ?_⟩, fun k hk => ?_, ?_, fun l hl => ?_⟩
  · rw [eC] at hcc
    rw [eB, eA 1 c (by decide) (by decide) (by decide), eA 2 c (by decide) (by decide) (by decide), eA 3 c (by decide) (by decide) (by decide)]
    exact v5 c hcc
  · rw [eP] at hp
    rw [perS_4, perS_5, eB]
    by_cases e : p = sP s
    · rw [if_pos e, if_pos e]; exact ⟨hh, hd⟩
    · rw [if_neg e, if_neg e]; exact v6 p (by omega)
  · rw [eS] at hk
    rw [eA 6 k (by decide) (by decide) (by decide), eA 10 k (by decide) (by decide) (by decide), eB, eP]
    obtain ⟨w1, w2⟩ := v7 k hk
    exact ⟨w1, by omega⟩
  · rw [eL l]
    obtain ⟨w1, w2⟩ := v8 l hl
    refine ⟨w1, fun q => ?_⟩
    rw [show perS s h d (7 + l) = s (7 + l) from funext fun i => eA (7 + l) i (by omega) (by omega) (by omega)]
    exact w2 q
  · rw [eB, fc.i (by unfold Pcp; omega)]; exact a0
  · rw [eC, fc.i (by unfold Pcp; omega)]; exact a1
  · rw [eP]; exact c3
  · rw [eS, fc.i (by unfold Pcp; omega)]; exact a3
  · rw [e0 4 (by decide), fc.i (by unfold Pcp; omega)]; exact a4
  · rw [e0 8 (by decide), fc.i (by unfold Pcp; omega)]; exact a5
  · rw [e0 9 (by decide), fc.i (by unfold Pcp; omega)]; exact a6
  · rw [eP]
    refine bs_congr c2 fun i _ => ?_
    rw [perS_5]
  · rw [eC] at hcc
    rw [eA 1 c (by decide) (by decide) (by decide), eA 2 c (by decide) (by decide) (by decide), eA 3 c (by decide) (by decide) (by decide), fc.i (by unfold Pcp; omega), fc.i (by unfold Pcp; omega), fc.i (by unfold Pcp; omega)]; exact aC c hcc
  · rw [eP] at hp
    rw [perS_4]
    by_cases e : p = sP s
    · rw [if_pos e, e]; exact c1
    · rw [if_neg e, fc.i (by unfold Pcp; omega)]; exact aP p (by omega)
  · rw [eS] at hk
    rw [eA 6 k (by decide) (by decide) (by decide), eA 10 k (by decide) (by decide) (by decide), fc.i (by unfold Pcp; omega), fc.i (by unfold Pcp; omega)]; exact aK k hk
  · rw [fc.i (by unfold Pcp; omega)]; exact aL1
  · obtain ⟨f, f1, f2, f3, f4⟩ := aL2 l hl
    rw [eL l]
    refine ⟨f, by rw [fc.i (by unfold Pcp; omega)]; exact f1, by rw [fc.i (by unfold Pcp; omega)]; exact f2, f3, fun i hi => ?_⟩
    rw [fc.i (by unfold Pcp; omega), eA (7 + l) i (by omega) (by omega) (by omega)]; exact f4 i hi
  · rw [e0 4 (by decide), fr.i (by unfold Prp PN; omega)]; exact b0
  · rw [eB, fr.i (by unfold Prp PN; omega)]; exact b1
  · rw [eC, fr.i (by unfold Prp PN; omega)]; exact b2
  · rw [eP]; exact r3
  · rw [eS, fr.i (by unfold Prp PN; omega)]; exact b4
  · rw [e0 8 (by decide), fr.i (by unfold Prp PN; omega)]; exact b5
  · rw [e0 9 (by decide), fr.i (by unfold Prp PN; omega)]; exact b6
  · rw [fr.i (by unfold Prp PN; omega)]; exact b7
  · rw [fr.i (by unfold Prp PN; omega)]; exact b8
  · rw [fr.i (by unfold Prp PN; omega)]; exact b9
  · rw [eC] at hcc
    rw [eA 1 c (by decide) (by decide) (by decide), eA 2 c (by decide) (by decide) (by decide), eA 3 c (by decide) (by decide) (by decide), fr.i (by unfold Prp PN; omega), fr.i (by unfold Prp PN; omega), fr.i (by unfold Prp PN; omega)]; exact bC c hcc
  · rw [eP] at hp
    rw [perS_4, perS_5]
    by_cases e : p = sP s
    · rw [if_pos e, if_pos e, e]; exact ⟨r1, r2⟩
    · rw [if_neg e, if_neg e, fr.i (by unfold Prp PN; omega), fr.i (by unfold Prp PN; omega)]; exact bP.1 p (by omega)
  · rw [eP] at hp
    rw [fr.i (by unfold Prp PN; omega)]; exact bP.2 p (by omega) hp6
  · rw [eS] at hk
    rw [eA 6 k (by decide) (by decide) (by decide), eA 10 k (by decide) (by decide) (by decide), fr.i (by unfold Prp PN; omega), fr.i (by unfold Prp PN; omega)]; exact bK k hk
  · rw [fr.i (by unfold Prp PN; omega)]; exact bL1
  · obtain ⟨f1, f2⟩ := bL2 l hl
    rw [eL l]
    refine ⟨by rw [fr.i (by unfold Prp PN; omega)]; exact f1, fun q => ?_⟩
    obtain ⟨f, g1, g2, g3, g4⟩ := f2 q
    refine ⟨f, by rw [fr.i (by unfold Prp PN; omega)]; exact g1, g2, by rw [fr.i (by unfold Prp PN; omega)]; exact g3, fun i hi => ?_⟩
    rw [fr.i (by unfold Prp PN; omega), eA (7 + l) i (by omega) (by omega) (by omega)]; exact g4 i hi
theorem Pcp_B {c a i : Nat} (h : Pcp c a i) : PBc a i := by unfold Pcp at h; unfold PBc; omega
theorem Pcp_G {c a i : Nat} (h : Pcp c a i) : PGc a i := by unfold Pcp at h; unfold PGc; omega
theorem Prp_B {c a i : Nat} (h : Prp c a i) : PBr a i := by
  unfold Prp at h; unfold PBr
  rcases h with h | h
  · exact Or.inl h
  · exact Or.inr (Or.inr h.1)
/-- two loops side by side -/
theorem lpB {M : Nat} {μc0 μr0 : Mu} {sc : Int32 × Mu → Option ((Int32 × Mu) ⊕ (Mu ⊕ Mu))} {sr : Mu → Option (Mu ⊕ Mu)} (I : Nat → Mu → Mu → Prop) (hI : ∀ i μc μr, I i μc μr → i ≤ M) (hw : ∀ μ, rI μ 139 11 ≠ 0 → sr μ = some (.inr μ)) (hs : ∀ c i μc μr, c < i → I i μc μr → (sc (nI c, μc) = some (.inr (.inr μc)) ∧ sr μr = some (.inr μr)) ∨ (∃ i' μc' μr', sc (nI c, μc) = some (.inl (nI (c + 1), μc')) ∧ sr μr = some (.inl μr') ∧ i < i' ∧ I i' μc' μr') ∨ (∃ μc' μr', sc (nI c, μc) = some (.inr (.inl μc')) ∧ sr μr = some (.inl μr') ∧ BADf μc0 μr0 μc' μr')) : ∀ k c i μc μr mc mr, M - i ≤ k → k + 2 ≤ mc → k + 2 ≤ mr → c < i → I i μc μr → ∃ o μr', lp mc sc (nI c, μc) = some o ∧ lp mr sr μr = some μr' ∧ ((∃ μc' i', o = .inr μc' ∧ i ≤ i' ∧ I i' μc' μr') ∨ (∃ μc', o = .inl μc' ∧ BADf μc0 μr0 μc' μr')) := by
  intro k
  induction k with
  | zero =>
    intro c i μc μr mc mr hk hmc hmr hc ha
    obtain ⟨mc, rfl⟩ : ∃ e, mc = e + 1 := ⟨mc - 1, by omega⟩
    obtain ⟨mr, rfl⟩ : ∃ e, mr = e + 1 := ⟨mr - 1, by omega⟩
    rcases hs c i μc μr hc ha with ⟨e1, e2⟩ | ⟨i', μc', μr', e1, e2, e3, e4⟩ | ⟨μc', μr', e1, e2, e3⟩
    · exact ⟨_, _, by unfold lp; rw [e1], by unfold lp; rw [e2], Or.inl ⟨_, i, rfl, Nat.le_refl _, ha⟩⟩
    · have := hI _ _ _ e4; omega
    · exact ⟨_, _, by unfold lp; rw [e1], by unfold lp; rw [e2]; exact lp_out (hw _ e3.1) (by omega), Or.inr ⟨_, rfl, e3⟩⟩
  | succ k ih =>
    intro c i μc μr mc mr hk hmc hmr hc ha
    obtain ⟨mc, rfl⟩ : ∃ e, mc = e + 1 := ⟨mc - 1, by omega⟩
    obtain ⟨mr, rfl⟩ : ∃ e, mr = e + 1 := ⟨mr - 1, by omega⟩
    rcases hs c i μc μr hc ha with ⟨e1, e2⟩ | ⟨i', μc', μr', e1, e2, e3, e4⟩ | ⟨μc', μr', e1, e2, e3⟩
    · exact ⟨_, _, by unfold lp; rw [e1], by unfold lp; rw [e2], Or.inl ⟨_, i, rfl, Nat.le_refl _, ha⟩⟩
    · obtain ⟨o, μr2, f1, f2, f3⟩ := ih (c + 1) i' μc' μr' mc mr (by omega) (by omega) (by omega) (by omega) e4
      refine ⟨o, μr2, by unfold lp; rw [e1]; exact f1, by unfold lp; rw [e2]; exact f2, ?_⟩
      rcases f3 with ⟨μc2, i2, g1, g2, g3⟩ | g
      · exact Or.inl ⟨μc2, i2, g1, by omega, g3⟩
      · exact Or.inr g
    · exact ⟨_, _, by unfold lp; rw [e1], by unfold lp; rw [e2]; exact lp_out (hw _ e3.1) (by omega), Or.inr ⟨_, rfl, e3⟩⟩
