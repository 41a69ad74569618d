/-! THE READER: a current's line -/
def curS (s : SD) (x y z : Nat) : SD := upS (upS (upS (upS s 1 (sC s) x) 2 (sC s) y) 3 (sC s) z) 0 1 (sC s + 1)
theorem curS_01 {s : SD} {x y z : Nat} : curS s x y z 0 1 = sC s + 1 := upS_eq _ _ _ _
theorem curS_0 {s : SD} {x y z j : Nat} (h : j ≠ 1) : curS s x y z 0 j = s 0 j := by unfold curS; rw [upS_ni h, upS_na (by decide), upS_na (by decide), upS_na (by decide)]
theorem curS_1 {s : SD} {x y z c : Nat} : curS s x y z 1 c = if c = sC s then x else s 1 c := by
  unfold curS; rw [upS_na (by decide), upS_na (by decide), upS_na (by decide)]
  unfold upS; simp
theorem curS_2 {s : SD} {x y z c : Nat} : curS s x y z 2 c = if c = sC s then y else s 2 c := by
  unfold curS; rw [upS_na (by decide), upS_na (by decide)]
  unfold upS; simp
theorem curS_3 {s : SD} {x y z c : Nat} : curS s x y z 3 c = if c = sC s then z else s 3 c := by
  unfold curS; rw [upS_na (by decide)]
  unfold upS; simp
theorem curS_a {s : SD} {x y z a c : Nat} (h : 4 ≤ a) : curS s x y z a c = s a c := by
  unfold curS; rw [upS_na (by omega), upS_na (by omega), upS_na (by omega), upS_na (by omega)]
def Pcc (c : Nat) : Nat → Nat → Prop := fun a i => (a = 13 ∧ i = 4) ∨ (a = 15 ∧ i = c) ∨ (a = 16 ∧ i = c) ∨ (a = 17 ∧ i = c) ∨ (a = 14 ∧ i = 1)
def Prc (c : Nat) : Nat → Nat → Prop := fun a i => PN a i ∨ (a = 143 ∧ (i = 14 + c ∨ i = 24 + c ∨ i = 34 + c ∨ i = 2))
theorem cur_sea {μc μr μc' μr' : Mu} {s : SD} {len x y z : Nat} (h : SEA μc μr s len) (hc : sC s < 10) (hx : x < sB s) (hy : y < sB s) (hz : 1 ≤ z ∧ z ≤ 9) (fc : Fg (Pcc (sC s)) μc μc') (fr : Fg (Prc (sC s)) μr μr') (c1 : rI μc' 15 (sC s) = nI x) (c2 : rI μc' 16 (sC s) = nI y) (c3 : rI μc' 17 (sC s) = nI z) (c4 : rI μc' 14 1 = nI (sC s + 1)) (r1 : rI μr' 143 (14 + sC s) = nI x) (r2 : rI μr' 143 (24 + sC s) = nI y) (r3 : rI μr' 143 (34 + sC s) = nI z) (r4 : rI μr' 143 2 = nI (sC s + 1)) : SEA μc' μr' (curS s x y z) len := by
  obtain ⟨hv, ⟨⟨a0, a1, a2, a3, a4, a5, a6, a7⟩, aC, aP, aK, aL1, aL2⟩, ⟨b0, b1, b2, b3, b4, b5, b6, b7, b8, b9⟩, bC, bP, bK, bL1, bL2⟩ := h
  obtain ⟨v1, v2, v3, v4, v5, v6, v7, v8, v9, v10, v11⟩ := hv
  have e0 : ∀ j, j ≠ 1 → curS s x y z 0 j = s 0 j := fun j hj => curS_0 hj
  have eB : sB (curS s x y z) = sB s := e0 0 (by decide)
  have eP : sP (curS s x y z) = sP s := e0 2 (by decide)
  have eS : sS (curS s x y z) = sS s := e0 3 (by decide)
  have eC : sC (curS s x y z) = sC s + 1 := curS_01
  have eL : ∀ l, sLn (curS s x y z) l = sLn s l := fun l => e0 (5 + l) (by omega)
  have eA : ∀ a c, 4 ≤ a → curS s x y z a c = s a c := fun a c ha => curS_a ha
  have q : ∀ a i, 14 ≤ a → ¬ Pcc (sC s) a i → rI μc' a i = rI μc a i := fun a i _ hh => fc.i hh
  refine ⟨⟨by rw [eB]; exact v1, by rw [eC]; omega, by rw [eP]; exact v3, by rw [eS]; exact v4, fun c hcc => ?_, fun p hp => ?_, fun k hk => ?_, fun l hl => ?_, by rw [e0 4 (by decide)]; exact v9, by rw [e0 8 (by decide)]; exact v10, by rw [e0 9 (by decide)]; exact v11⟩, ⟨⟨?_, ?_, ?_, ?_, ?_, ?_, ?_, ?_⟩, fun c hcc => ?_, fun p hp => ?_, fun k hk => ?_, ?_, fun l hl => ?_⟩, ⟨?_, ?_, ?_, ?_, ?_, ?_, ?_, ?_, ?_, ?_⟩, fun c hcc => ?_, ⟨fun p hp => ?_, fun p hp hp6 => ?_⟩, fun k hk => ?_, ?_, fun l hl => ?_⟩
  · rw [eC] at hcc
    rw [eB, curS_1, curS_2, curS_3]
    by_cases e : c = sC s
    · rw [if_pos e, if_pos e, if_pos e]; exact ⟨hx, hy, hz⟩
    · rw [if_neg e, if_neg e, if_neg e]; exact v5 c (by omega)
  · rw [eP] at hp
    rw [eA 4 p (by omega), eA 5 p (by omega), eB]; exact v6 p hp
  · rw [eS] at hk
    rw [eA 6 k (by omega), eA 10 k (by omega), eB, eP]; exact v7 k hk
  · rw [eL l]
    obtain ⟨w1, w2⟩ := v8 l hl
    refine ⟨w1, fun q => ?_⟩
    rw [show curS s x y z (7 + l) = s (7 + l) from funext fun i => eA (7 + l) i (by omega)]
    exact w2 q
  · rw [eB, fc.i (by unfold Pcc; omega)]; exact a0
  · rw [eC]; exact c4
  · rw [eP, fc.i (by unfold Pcc; omega)]; exact a2
  · rw [eS, fc.i (by unfold Pcc; omega)]; exact a3
  · rw [e0 4 (by decide), fc.i (by unfold Pcc; omega)]; exact a4
  · rw [e0 8 (by decide), fc.i (by unfold Pcc; omega)]; exact a5
  · rw [e0 9 (by decide), fc.i (by unfold Pcc; omega)]; exact a6
  · rw [eP, fc.i (by unfold Pcc; omega)]
    refine bs_congr a7 fun i _ => ?_
    rw [eA 5 i (by omega)]
  · rw [eC] at hcc
    rw [curS_1, curS_2, curS_3]
    by_cases e : c = sC s
    · rw [if_pos e, if_pos e, if_pos e, e]; exact ⟨c1, c2, c3⟩
    · rw [if_neg e, if_neg e, if_neg e, fc.i (by unfold Pcc; omega), fc.i (by unfold Pcc; omega), fc.i (by unfold Pcc; omega)]; exact aC c (by omega)
  · rw [eP] at hp
    rw [eA 4 p (by omega), fc.i (by unfold Pcc; omega)]; exact aP p hp
  · rw [eS] at hk
    rw [eA 6 k (by omega), eA 10 k (by omega), fc.i (by unfold Pcc; omega), fc.i (by unfold Pcc; omega)]; exact aK k hk
  · rw [fc.i (by unfold Pcc; omega)]; exact aL1
  · obtain ⟨f, f1, f2, f3, f4⟩ := aL2 l hl
    rw [eL l]
    refine ⟨f, by rw [fc.i (by unfold Pcc; omega)]; exact f1, by rw [fc.i (by unfold Pcc; omega)]; exact f2, f3, fun i hi => ?_⟩
    rw [fc.i (by unfold Pcc; omega), eA (7 + l) i (by omega)]; exact f4 i hi
  · rw [e0 4 (by decide), fr.i (by unfold Prc PN; omega)]; exact b0
  · rw [eB, fr.i (by unfold Prc PN; omega)]; exact b1
  · rw [eC]; exact r4
  · rw [eP, fr.i (by unfold Prc PN; omega)]; exact b3
  · rw [eS, fr.i (by unfold Prc PN; omega)]; exact b4
  · rw [e0 8 (by decide), fr.i (by unfold Prc PN; omega)]; exact b5
  · rw [e0 9 (by decide), fr.i (by unfold Prc PN; omega)]; exact b6
  · rw [fr.i (by unfold Prc PN; omega)]; exact b7
  · rw [fr.i (by unfold Prc PN; omega)]; exact b8
  · rw [fr.i (by unfold Prc PN; omega)]; exact b9
  · rw [eC] at hcc
    rw [curS_1, curS_2, curS_3]
    by_cases e : c = sC s
    · rw [if_pos e, if_pos e, if_pos e, e]; exact ⟨r1, r2, r3⟩
    · rw [if_neg e, if_neg e, if_neg e, fr.i (by unfold Prc PN; omega), fr.i (by unfold Prc PN; omega), fr.i (by unfold Prc PN; omega)]; exact bC c (by omega)
  · rw [eP] at hp
    rw [eA 4 p (by omega), eA 5 p (by omega), fr.i (by unfold Prc PN; omega), fr.i (by unfold Prc PN; omega)]; exact bP.1 p hp
  · rw [eP] at hp
    rw [fr.i (by unfold Prc PN; omega)]; exact bP.2 p hp hp6
  · rw [eS] at hk
    rw [eA 6 k (by omega), eA 10 k (by omega), fr.i (by unfold Prc PN; omega), fr.i (by unfold Prc PN; omega)]; exact bK k hk
  · rw [fr.i (by unfold Prc PN; omega)]; exact bL1
  · obtain ⟨f1, f2⟩ := bL2 l hl
    rw [eL l]
    refine ⟨by rw [fr.i (by unfold Prc PN; omega)]; exact f1, fun q => ?_⟩
    obtain ⟨f, g1, g2, g3, g4⟩ := f2 q
    refine ⟨f, by rw [fr.i (by unfold Prc PN; omega)]; exact g1, g2, by rw [fr.i (by unfold Prc PN; omega)]; exact g3, fun i hi => ?_⟩
    rw [fr.i (by unfold Prc PN; omega), eA (7 + l) i (by omega)]; exact g4 i hi
