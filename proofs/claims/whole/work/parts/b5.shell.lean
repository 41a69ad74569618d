/-! THE READER: a shell's line, numbers -/
def sheS (s : SD) (x h : Nat) : SD := upS (upS (upS s 6 (sS s) x) 10 (sS s) h) 0 3 (sS s + 1)
theorem sheS_01 {s : SD} {x h : Nat} : sheS s x h 0 3 = sS s + 1 := upS_eq _ _ _ _
theorem sheS_0 {s : SD} {x h j : Nat} (hj : j ≠ 3) : sheS s x h 0 j = s 0 j := by unfold sheS; rw [upS_ni hj, upS_na (by decide), upS_na (by decide)]
theorem sheS_6 {s : SD} {x h p : Nat} : sheS s x h 6 p = if p = sS s then x else s 6 p := by
  unfold sheS; rw [upS_na (by decide), upS_na (by decide)]
  unfold upS; simp
theorem sheS_10 {s : SD} {x h p : Nat} : sheS s x h 10 p = if p = sS s then h else s 10 p := by
  unfold sheS; rw [upS_na (by decide)]
  unfold upS; simp
theorem sheS_a {s : SD} {x h a c : Nat} (h0 : 1 ≤ a) (h4 : a ≠ 6) (h5 : a ≠ 10) : sheS s x h a c = s a c := by
  unfold sheS; rw [upS_na (by omega), upS_na (by omega), upS_na (by omega)]
def Pck (P : Nat) : Nat → Nat → Prop := fun a i => (a = 13 ∧ i = 4) ∨ (a = 19 ∧ i = P) ∨ (a = 20 ∧ i = P) ∨ (a = 14 ∧ i = 3)
def Prk (P : Nat) : Nat → Nat → Prop := fun a i => PN a i ∨ (a = 143 ∧ (i = 56 + P ∨ i = 68 + P ∨ i = 4))
theorem she_sea {μc μr μc' μr' : Mu} {s : SD} {len x h : Nat} (hS : SEA μc μr s len) (h8 : sS s < 8) (hx : x < sB s) (hh : h < sP s ∨ h = 6) (fc : Fg (Pck (sS s)) μc μc') (fr : Fg (Prk (sS s)) μr μr') (c1 : rI μc' 19 (sS s) = nI x) (c2 : rI μc' 20 (sS s) = e6 h) (c3 : rI μc' 14 3 = nI (sS s + 1)) (r1 : rI μr' 143 (56 + sS s) = nI x) (r2 : rI μr' 143 (68 + sS s) = e6 h) (r3 : rI μr' 143 4 = nI (sS s + 1)) : SEA μc' μr' (sheS s x h) len := by
  obtain ⟨hv, ⟨⟨a0, a1, a2, a3, a4, a5, a6, a7⟩, aC, aP, aK, aL1, aL2⟩, ⟨b0, b1, b2, b3, b4, b5, b6, b7, b8, b9⟩, bC, bP, bK, bL1, bL2⟩ := hS
  obtain ⟨v1, v2, v3, v4, v5, v6, v7, v8, v9, v10, v11⟩ := hv
  have e0 : ∀ j, j ≠ 3 → sheS s x h 0 j = s 0 j := fun j hj => sheS_0 hj
  have eB : sB (sheS s x h) = sB s := e0 0 (by decide)
  have eC : sC (sheS s x h) = sC s := e0 1 (by decide)
  have eP : sP (sheS s x h) = sP s := e0 2 (by decide)
  have eS : sS (sheS s x h) = sS s + 1 := sheS_01
  have eL : ∀ l, sLn (sheS s x h) l = sLn s l := fun l => e0 (5 + l) (by omega)
  have eA : ∀ a c, 1 ≤ a → a ≠ 6 → a ≠ 10 → sheS s x h a c = s a c := fun a c h0 h4 h5 => sheS_a h0 h4 h5
  refine ⟨⟨by rw [eB]; exact v1, by rw [eC]; exact v2, by rw [eP]; exact v3, by rw [eS]; omega, fun c hcc => ?_, fun p hp => ?_, fun k hk => ?_, fun l hl => ?_, by rw [e0 4 (by decide)]; exact v9, by rw [e0 8 (by decide)]; exact v10, by rw [e0 9 (by decide)]; exact v11⟩, ⟨⟨?_, ?_, ?_, ?_, ?_, ?_, ?_, ?_⟩, fun c hcc => ?_, fun p hp => ?_, fun k hk => ?_, ?_, fun l hl => ?_⟩, ⟨?_, ?_, ?_, ?_, ?_, ?_, ?_, ?_, ?_, ?_⟩, fun c hcc => ?_, ⟨fun p hp => ?_, fun p hp hp6 => ?_⟩, fun k hk => ?_, ?_, fun l hl => ?_⟩
  · rw [eC] at hcc
    rw [eB, eA 1 c (by decide) (by decide) (by decide), eA 2 c (by decide) (by decide) (by decide), eA 3 c (by decide) (by decide) (by decide)]
    exact v5 c hcc
  · rw [eP] at hp
    rw [eA 4 p (by decide) (by decide) (by decide), eA 5 p (by decide) (by decide) (by decide), eB]
    exact v6 p hp
  · rw [eS] at hk
    rw [sheS_6, sheS_10, eB, eP]
    by_cases e : k = sS s
    · rw [if_pos e, if_pos e]; exact ⟨hx, hh⟩
    · rw [if_neg e, if_neg e]; exact v7 k (by omega)
  · rw [eL l]
    obtain ⟨w1, w2⟩ := v8 l hl
    refine ⟨w1, fun q => ?_⟩
    rw [show sheS s x h (7 + l) = s (7 + l) from funext fun i => eA (7 + l) i (by omega) (by omega) (by omega)]
    exact w2 q
  · rw [eB, fc.i (by unfold Pck; omega)]; exact a0
  · rw [eC, fc.i (by unfold Pck; omega)]; exact a1
  · rw [eP, fc.i (by unfold Pck; omega)]; exact a2
  · rw [eS]; exact c3
  · rw [e0 4 (by decide), fc.i (by unfold Pck; omega)]; exact a4
  · rw [e0 8 (by decide), fc.i (by unfold Pck; omega)]; exact a5
  · rw [e0 9 (by decide), fc.i (by unfold Pck; omega)]; exact a6
  · rw [eP, fc.i (by unfold Pck; omega)]
    refine bs_congr a7 fun i _ => ?_
    rw [eA 5 i (by decide) (by decide) (by decide)]
  · rw [eC] at hcc
    rw [eA 1 c (by decide) (by decide) (by decide), eA 2 c (by decide) (by decide) (by decide), eA 3 c (by decide) (by decide) (by decide), fc.i (by unfold Pck; omega), fc.i (by unfold Pck; omega), fc.i (by unfold Pck; omega)]; exact aC c hcc
  · rw [eP] at hp
    rw [eA 4 p (by decide) (by decide) (by decide), fc.i (by unfold Pck; omega)]; exact aP p hp
  · rw [eS] at hk
    rw [sheS_6, sheS_10]
    by_cases e : k = sS s
    · rw [if_pos e, if_pos e, e]; exact ⟨c1, c2⟩
    · rw [if_neg e, if_neg e, fc.i (by unfold Pck; omega), fc.i (by unfold Pck; omega)]; exact aK k (by omega)
  · rw [fc.i (by unfold Pck; omega)]; exact aL1
  · obtain ⟨f, f1, f2, f3, f4⟩ := aL2 l hl
    rw [eL l]
    refine ⟨f, by rw [fc.i (by unfold Pck; omega)]; exact f1, by rw [fc.i (by unfold Pck; omega)]; exact f2, f3, fun i hi => ?_⟩
    rw [fc.i (by unfold Pck; omega), eA (7 + l) i (by omega) (by omega) (by omega)]; exact f4 i hi
  · rw [e0 4 (by decide), fr.i (by unfold Prk PN; omega)]; exact b0
  · rw [eB, fr.i (by unfold Prk PN; omega)]; exact b1
  · rw [eC, fr.i (by unfold Prk PN; omega)]; exact b2
  · rw [eP, fr.i (by unfold Prk PN; omega)]; exact b3
  · rw [eS]; exact r3
  · rw [e0 8 (by decide), fr.i (by unfold Prk PN; omega)]; exact b5
  · rw [e0 9 (by decide), fr.i (by unfold Prk PN; omega)]; exact b6
  · rw [fr.i (by unfold Prk PN; omega)]; exact b7
  · rw [fr.i (by unfold Prk PN; omega)]; exact b8
  · rw [fr.i (by unfold Prk PN; omega)]; exact b9
  · rw [eC] at hcc
    rw [eA 1 c (by decide) (by decide) (by decide), eA 2 c (by decide) (by decide) (by decide), eA 3 c (by decide) (by decide) (by decide), fr.i (by unfold Prk PN; omega), fr.i (by unfold Prk PN; omega), fr.i (by unfold Prk PN; omega)]; exact bC c hcc
  · rw [eP] at hp
    rw [eA 4 p (by decide) (by decide) (by decide), eA 5 p (by decide) (by decide) (by decide), fr.i (by unfold Prk PN; omega), fr.i (by unfold Prk PN; omega)]; exact bP.1 p hp
  · rw [eP] at hp
    rw [fr.i (by unfold Prk PN; omega)]; exact bP.2 p hp hp6
  · rw [eS] at hk
    rw [sheS_6, sheS_10]
    by_cases e : k = sS s
    · rw [if_pos e, if_pos e, e]; exact ⟨r1, r2⟩
    · rw [if_neg e, if_neg e, fr.i (by unfold Prk PN; omega), fr.i (by unfold Prk PN; omega)]; exact bK k (by omega)
  · rw [fr.i (by unfold Prk PN; omega)]; exact bL1
  · obtain ⟨f1, f2⟩ := bL2 l hl
    rw [eL l]
    refine ⟨by rw [fr.i (by unfold Prk PN; omega)]; exact f1, fun q => ?_⟩
    obtain ⟨f, g1, g2, g3, g4⟩ := f2 q
    refine ⟨f, by rw [fr.i (by unfold Prk PN; omega)]; exact g1, g2, by rw [fr.i (by unfold Prk PN; omega)]; exact g3, fun i hi => ?_⟩
    rw [fr.i (by unfold Prk PN; omega), eA (7 + l) i (by omega) (by omega) (by omega)]; exact g4 i hi
theorem Pck_B {c a i : Nat} (h : Pck c a i) : PBc a i := by unfold Pck at h; unfold PBc; omega
theorem Pck_G {c a i : Nat} (h : Pck c a i) : PGc a i := by unfold Pck at h; unfold PGc; omega
theorem Prk_B {c a i : Nat} (h : Prk c a i) : PBr a i := by
  unfold Prk at h; unfold PBr
  rcases h with h | h
  · exact Or.inl h
  · exact Or.inr (Or.inr h.1)
def Pcn : Nat → Nat → Prop := fun a i => (a = 13 ∧ i = 4) ∨ (a = 14 ∧ (i = 4 ∨ i = 5 ∨ i = 6))
def Prn : Nat → Nat → Prop := fun a i => PN a i ∨ (a = 143 ∧ (i = 0 ∨ i = 64 ∨ i = 65))
theorem num_sea {μc μr μc' μr' : Mu} {s s' : SD} {len : Nat} (hS : SEA μc μr s len) (hA : ∀ a i, ¬ (a = 0 ∧ (i = 4 ∨ i = 8 ∨ i = 9)) → s' a i = s a i) (fc : Fg Pcn μc μc') (fr : Fg Prn μr μr') (c4 : rI μc' 14 4 = nI (s' 0 4)) (c5 : rI μc' 14 5 = nI (s' 0 8)) (c6 : rI μc' 14 6 = nI (s' 0 9)) (r0 : rI μr' 143 0 = nI (s' 0 4)) (r64 : rI μr' 143 64 = nI (s' 0 8)) (r65 : rI μr' 143 65 = nI (s' 0 9)) (w9 : s' 0 4 ≤ 1000) (w10 : s' 0 8 ≤ 999) (w11 : s' 0 9 ≤ 99) : SEA μc' μr' s' len := by
  obtain ⟨hv, ⟨⟨a0, a1, a2, a3, a4, a5, a6, a7⟩, aC, aP, aK, aL1, aL2⟩, ⟨b0, b1, b2, b3, b4, b5, b6, b7, b8, b9⟩, bC, bP, bK, bL1, bL2⟩ := hS
  obtain ⟨v1, v2, v3, v4, v5, v6, v7, v8, v9, v10, v11⟩ := hv
  have eB : sB s' = sB s := hA 0 0 (by omega)
  have eC : sC s' = sC s := hA 0 1 (by omega)
  have eP : sP s' = sP s := hA 0 2 (by omega)
  have eS : sS s' = sS s := hA 0 3 (by omega)
  have eL : ∀ l, l < 3 → sLn s' l = sLn s l := fun l hl => hA 0 (5 + l) (by omega)
  have eA : ∀ a c, 1 ≤ a → s' a c = s a c := fun a c h0 => hA a c (by omega)
  refine ⟨⟨by rw [eB]; exact v1, by rw [eC]; exact v2, by rw [eP]; exact v3, by rw [eS]; exact v4, fun c hcc => ?_, fun p hp => ?_, fun k hk => ?_, fun l hl => ?_, w9, w10, w11⟩, ⟨⟨?_, ?_, ?_, ?_, c4, c5, c6, ?_⟩, fun c hcc => ?_, fun p hp => ?_, fun k hk => ?_, ?_, fun l hl => ?_⟩, ⟨r0, ?_, ?_, ?_, ?_, r64, r65, ?_, ?_, ?_⟩, fun c hcc => ?_, ⟨fun p hp => ?_, fun p hp hp6 => ?_⟩, fun k hk => ?_, ?_, fun l hl => ?_⟩
  · rw [eC] at hcc
    rw [eB, eA 1 c (by decide), eA 2 c (by decide), eA 3 c (by decide)]
    exact v5 c hcc
  · rw [eP] at hp
    rw [eA 4 p (by decide), eA 5 p (by decide), eB]
    exact v6 p hp
  · rw [eS] at hk
    rw [eA 6 k (by decide), eA 10 k (by decide), eB, eP]; exact v7 k hk
  · rw [eL l hl]
    obtain ⟨w1, w2⟩ := v8 l hl
    refine ⟨w1, fun q => ?_⟩
    rw [show s' (7 + l) = s (7 + l) from funext fun i => eA (7 + l) i (by omega)]
    exact w2 q
  · rw [eB, fc.i (by unfold Pcn; omega)]; exact a0
  · rw [eC, fc.i (by unfold Pcn; omega)]; exact a1
  · rw [eP, fc.i (by unfold Pcn; omega)]; exact a2
  · rw [eS, fc.i (by unfold Pcn; omega)]; exact a3
  · rw [eP, fc.i (by unfold Pcn; omega)]
    refine bs_congr a7 fun i _ => ?_
    rw [eA 5 i (by decide)]
  · rw [eC] at hcc
    rw [eA 1 c (by decide), eA 2 c (by decide), eA 3 c (by decide), fc.i (by unfold Pcn; omega), fc.i (by unfold Pcn; omega), fc.i (by unfold Pcn; omega)]; exact aC c hcc
  · rw [eP] at hp
    rw [eA 4 p (by decide), fc.i (by unfold Pcn; omega)]; exact aP p hp
  · rw [eS] at hk
    rw [eA 6 k (by decide), eA 10 k (by decide), fc.i (by unfold Pcn; omega), fc.i (by unfold Pcn; omega)]; exact aK k hk
  · rw [fc.i (by unfold Pcn; omega)]; exact aL1
  · obtain ⟨f, f1, f2, f3, f4⟩ := aL2 l hl
    rw [eL l hl]
    refine ⟨f, by rw [fc.i (by unfold Pcn; omega)]; exact f1, by rw [fc.i (by unfold Pcn; omega)]; exact f2, f3, fun i hi => ?_⟩
    rw [fc.i (by unfold Pcn; omega), eA (7 + l) i (by omega)]; exact f4 i hi
  · rw [eB, fr.i (by unfold Prn PN; omega)]; exact b1
  · rw [eC, fr.i (by unfold Prn PN; omega)]; exact b2
  · rw [eP, fr.i (by unfold Prn PN; omega)]; exact b3
  · rw [eS, fr.i (by unfold Prn PN; omega)]; exact b4
  · rw [fr.i (by unfold Prn PN; omega)]; exact b7
  · rw [fr.i (by unfold Prn PN; omega)]; exact b8
  · rw [fr.i (by unfold Prn PN; omega)]; exact b9
  · rw [eC] at hcc
    rw [eA 1 c (by decide), eA 2 c (by decide), eA 3 c (by decide), fr.i (by unfold Prn PN; omega), fr.i (by unfold Prn PN; omega), fr.i (by unfold Prn PN; omega)]; exact bC c hcc
  · rw [eP] at hp
    rw [eA 4 p (by decide), eA 5 p (by decide), fr.i (by unfold Prn PN; omega), fr.i (by unfold Prn PN; omega)]; exact bP.1 p hp
  · rw [eP] at hp
    rw [fr.i (by unfold Prn PN; omega)]; exact bP.2 p hp hp6
  · rw [eS] at hk
    rw [eA 6 k (by decide), eA 10 k (by decide), fr.i (by unfold Prn PN; omega), fr.i (by unfold Prn PN; omega)]; exact bK k hk
  · rw [fr.i (by unfold Prn PN; omega)]; exact bL1
  · obtain ⟨f1, f2⟩ := bL2 l hl
    rw [eL l hl]
    refine ⟨by rw [fr.i (by unfold Prn PN; omega)]; exact f1, fun q => ?_⟩
    obtain ⟨f, g1, g2, g3, g4⟩ := f2 q
    refine ⟨f, by rw [fr.i (by unfold Prn PN; omega)]; exact g1, g2, by rw [fr.i (by unfold Prn PN; omega)]; exact g3, fun i hi => ?_⟩
    rw [fr.i (by unfold Prn PN; omega), eA (7 + l) i (by omega)]; exact g4 i hi
theorem Pcn_B {a i : Nat} (h : Pcn a i) : PBc a i := by unfold Pcn at h; unfold PBc; omega
theorem Pcn_G {a i : Nat} (h : Pcn a i) : PGc a i := by unfold Pcn at h; unfold PGc; omega
theorem Prn_B {a i : Nat} (h : Prn a i) : PBr a i := by
  unfold Prn at h; unfold PBr
  rcases h with h | h
  · exact Or.inl h
  · exact Or.inr (Or.inr h.1)
