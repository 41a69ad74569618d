/-! THE READER: the first line -/
def s1 (v : Nat) : SD := fun a i => if a = 0 ∧ i = 0 then v else if a = 0 ∧ i = 4 then 1 else 0
theorem first_sea {μc μr : Mu} {v : Nat} (h1 : 1 ≤ v) (h2 : v ≤ 6) (c0 : rI μc 14 0 = nI v) (c : ∀ j, 1 ≤ j → j ≤ 7 → j ≠ 4 → rI μc 14 j = 0) (c4 : rI μc 14 4 = 1) (c21 : rI μc 21 1 = 0) (cL : ∀ l, l < 3 → rI μc 23 l = 0 ∧ rI μc 24 l = 0) (r0 : rI μr 143 0 = 1) (r1 : rI μr 143 1 = nI v) (r : ∀ i, 2 ≤ i → i < 2242 → ¬ (68 ≤ i ∧ i < 76) → rI μr 143 i = 0) : SEA μc μr (s1 v) 0 := by
  have e0 : ∀ j, j ≠ 0 → j ≠ 4 → s1 v 0 j = 0 := fun j a b => by unfold s1; rw [if_neg (by omega), if_neg (by omega)]
  have eB : sB (s1 v) = v := if_pos ⟨rfl, rfl⟩
  have eC : sC (s1 v) = 0 := e0 1 (by omega) (by omega)
  have eP : sP (s1 v) = 0 := e0 2 (by omega) (by omega)
  have eS : sS (s1 v) = 0 := e0 3 (by omega) (by omega)
  have eL : ∀ l, sLn (s1 v) l = 0 := fun l => e0 (5 + l) (by omega) (by omega)
  have e4 : s1 v 0 4 = 1 := rfl
  refine ⟨⟨by rw [eB]; exact ⟨h1, h2⟩, by rw [eC]; omega, by rw [eP]; omega, by rw [eS]; omega, fun c hcc => ?_, fun p hp => ?_, fun k hk => ?_, fun l hl => ?_, by rw [e4]; omega, by rw [e0 8 (by omega) (by omega)]; omega, by rw [e0 9 (by omega) (by omega)]; omega⟩, ⟨⟨?_, ?_, ?_, ?_, ?_, ?_, ?_, ?_⟩, fun c hcc => ?_, fun p hp => ?_, fun k hk => ?_, c21, fun l hl => ?_⟩, ⟨?_, ?_, ?_, ?_, ?_, ?_, ?_, ?_, ?_, ?_⟩, fun c hcc => ?_, ⟨fun p hp => ?_, fun p hp hp6 => ?_⟩, fun k hk => ?_, ?_, fun l hl => ?_⟩
  · rw [eC] at hcc; omega
  · rw [eP] at hp; omega
  · rw [eS] at hk; omega
  · rw [eL l]; exact ⟨by omega, fun q => by omega⟩
  · rw [eB]; exact c0
  · rw [eC]; exact c 1 (by omega) (by omega) (by omega)
  · rw [eP]; exact c 2 (by omega) (by omega) (by omega)
  · rw [eS]; exact c 3 (by omega) (by omega) (by omega)
  · rw [e4]; exact c4
  · rw [e0 8 (by omega) (by omega)]; exact c 5 (by omega) (by omega) (by omega)
  · rw [e0 9 (by omega) (by omega)]; exact c 6 (by omega) (by omega) (by omega)
  · rw [eP, c 7 (by omega) (by omega) (by omega)]; exact bs_z _
  · rw [eC] at hcc; omega
  · rw [eP] at hp; omega
  · rw [eS] at hk; omega
  · rw [eL l]; exact ⟨0, (cL l hl).1, (cL l hl).2, by omega, fun i hi => by omega⟩
  · rw [e4]; exact r0
  · rw [eB]; exact r1
  · rw [eC]; exact r 2 (by omega) (by omega) (by omega)
  · rw [eP]; exact r 3 (by omega) (by omega) (by omega)
  · rw [eS]; exact r 4 (by omega) (by omega) (by omega)
  · rw [e0 8 (by omega) (by omega)]; exact r 64 (by omega) (by omega) (by omega)
  · rw [e0 9 (by omega) (by omega)]; exact r 65 (by omega) (by omega) (by omega)
  · exact r 66 (by omega) (by omega) (by omega)
  · exact r 67 (by omega) (by omega) (by omega)
  · exact r 180 (by omega) (by omega) (by omega)
  · rw [eC] at hcc; omega
  · rw [eP] at hp; omega
  · exact r (50 + p) (by omega) (by omega) (by omega)
  · rw [eS] at hk; omega
  · exact r 1341 (by omega) (by omega) (by omega)
  · rw [eL l, if_pos rfl]; exact ⟨r (5 + l) (by omega) (by omega) (by omega), fun q => by omega⟩
def seaT (n : Nat) (μ : Mu) : Option (Int32 × Mu) := bnd2 (fX12_eats n 0 μ) fun u9 m10 => if u9 = 0 then (bnd (fX12_fails n 2 m10) fun m33 => jX12_sea_66 n m33) else (jX12_sea_66 n m10)
theorem sea66_W {n : Nat} (hn : 0 < n) {μ : Mu} (h : rI μ 139 11 ≠ 0) : jX12_sea_66 n μ = jX12_sea_110 n (wI (wI μ 143 1 (rI μ 139 10)) 143 0 (rI (wI μ 143 1 (rI μ 139 10)) 143 0 + 1)) := by
  have w : rI (wI μ 143 1 (rI μ 139 10)) 139 11 ≠ 0 := by rw [rI_ai (by decide)]; exact h
  have w2 : rI (wI (wI μ 143 1 (rI μ 139 10)) 143 0 (rI (wI μ 143 1 (rI μ 139 10)) 143 0 + 1)) 139 11 ≠ 0 := by rw [rI_ai (by decide)]; exact w
  unfold jX12_sea_66
  rw [r_takesW h, bnd2_some, ends_W w, bnd_some, lp_out (step := sX12_sea_83 n) (r := _) (by
    show (if rI _ 139 11 = 0 then _ else _) = _
    rw [if_neg w2]) hn, bnd_some]
theorem first_read {B : Nat → Nat} {N M n : Nat} {μc μr : Mu} (hD : KD B N M) (hn : 1000 < n) (hP : PRx B N M 0 μc μr) (c : ∀ j, 1 ≤ j → j ≤ 7 → rI μc 14 j = 0) (c21 : rI μc 21 1 = 0) (cL : ∀ l, l < 3 → rI μc 23 l = 0 ∧ rI μc 24 l = 0) (r0 : rI μr 143 0 = 0) (r : ∀ i, 2 ≤ i → i < 2242 → ¬ (68 ≤ i ∧ i < 76) → rI μr 143 i = 0) : ∃ u μc' μr', (bnd2 (fX5_firstLine n μc) fun u6 m7 => bnd (lp n (sX5_read_39 n) (u6, 0, m7)) fun q => match q with | (u21, m22) => gd (isb u21) (some (u21, m22))) = some (u, μc') ∧ seaT n μr = jX12_sea_110 n μr' ∧ ((u = 1 ∧ (∃ s len, SEA μc' μr' s len ∧ len ≤ 900) ∧ rI μr' 139 11 = 0 ∧ Fg PGc μc μc' ∧ Fg PBr μr μr') ∨ (u = 0 ∧ BADf μc μr μc' μr')) := by
  have hb := hD.2.2.1
  have hM := hD.2.1
  have c0 : ∀ x μ, lp n (sX5_read_39 n) (0, x, μ) = some (0, μ) := fun x μ => lp_out (by
    show (if (900 : Int32) ≤ x then _ else _) = _
    by_cases e : (900 : Int32) ≤ x
    · rw [if_pos e]
    · rw [if_neg e, if_pos rfl]) (by omega)
  have bad : ∀ (μc' μr' : Mu), fX5_firstLine n μc = some (0, μc') → seaT n μr = jX12_sea_110 n μr' → BADf μc μr μc' μr' → ∃ u μc' μr', (bnd2 (fX5_firstLine n μc) fun u6 m7 => bnd (lp n (sX5_read_39 n) (u6, 0, m7)) fun q => match q with | (u21, m22) => gd (isb u21) (some (u21, m22))) = some (u, μc') ∧ seaT n μr = jX12_sea_110 n μr' ∧ ((u = 1 ∧ (∃ s len, SEA μc' μr' s len ∧ len ≤ 900) ∧ rI μr' 139 11 = 0 ∧ Fg PGc μc μc' ∧ Fg PBr μr μr') ∨ (u = 0 ∧ BADf μc μr μc' μr')) := fun μc' μr' e1 e2 e3 => by
    refine ⟨0, μc', μr', ?_, e2, Or.inr ⟨rfl, e3⟩⟩
    rw [e1, bnd2_some, c0, bnd_some]; rfl
  rcases eat (n := n) (K := 0) (code := 200) hD hP (ck_word (K := 0) (tkP_le (B := B) (N := N) 0) hb (by omega)) (by omega) (by omega) (by omega) hn with ⟨m1, d1, d2, d3, p1, f1⟩ | ⟨μc', μr', d1, d2, d3, d4⟩
  · have d3 : fX12_eats n 0 μr = some (1, m1) := d3
    rcases amt (n := n) (lo := 1) (hi := 6) hD p1 (by omega) hn with ⟨v, m2, g1, g2, g3, g4, g5, g6, g7, p2, f2⟩ | ⟨μc', w, μr', g1, g2, g3⟩
    · have g6 : fX5_amount n 1 6 (wI μc 13 4 (rI μc 13 4 + 1)) = some (nI v, _) := g6
      have g7 : fX12_takes n 1 6 m1 = some (nI v, m2) := g7
      have hv : v ≤ 6 := (nI_leI (a := v) (b := 6) (by omega) (by omega)).mp g4
      have p3 : PRx B N M 2 (wI (wI μc 13 4 (rI μc 13 4 + 1)) 13 4 (rI (wI μc 13 4 (rI μc 13 4 + 1)) 13 4 + 1)) (wI m2 143 1 (nI v)) := p2.wr
      have fc2 : Fg PGc μc (wI (wI μc 13 4 (rI μc 13 4 + 1)) 13 4 (rI (wI μc 13 4 (rI μc 13 4 + 1)) 13 4 + 1)) := ((Fg.rfl' _ _).w (Or.inl ⟨rfl, Or.inl rfl⟩) _).w (Or.inl ⟨rfl, Or.inl rfl⟩) _
      have fr2 : Fg PBr μr (wI m2 143 1 (nI v)) := ((f1.mono fun _ _ q => PN_B q).tr (f2.mono fun _ _ q => PN_B q)).w (Or.inr (Or.inr rfl)) _
      have y1 : ∀ i, i ≠ 1 → rI (wI m2 143 1 (nI v)) 143 i = rI μr 143 i := fun i hi => by rw [rI_ii hi, f2.i (by unfold PN; omega), f1.i (by unfold PN; omega)]
      have z1 : ∀ a i, a ≠ 13 → rI (wI (wI μc 13 4 (rI μc 13 4 + 1)) 13 4 (rI (wI μc 13 4 (rI μc 13 4 + 1)) 13 4 + 1)) a i = rI μc a i := fun a i ha => by rw [rI_ai ha, rI_ai ha]
      generalize hX : wI (wI μc 13 4 (rI μc 13 4 + 1)) 13 4 (rI (wI μc 13 4 (rI μc 13 4 + 1)) 13 4 + 1) = X at g6 p3 fc2 z1
      rcases eat (n := n) (K := 30) (code := 59) hD p3 (ck_sign (k := 0) (tkP_le (B := B) (N := N) 2) hb (by omega)) (by omega) (by omega) (by omega) hn with ⟨m4, b1, b2, b3, p4, f4⟩ | ⟨μc', μr', b1, b2, b3, b4⟩
      · have b3 : fX12_eats n 30 (wI m2 143 1 (nI v)) = some (1, m4) := b3
        have eF : fX5_firstLine n μc = some (1, wI (wI (wI X 13 4 (rI X 13 4 + 1)) 14 0 (nI v)) 14 4 1) := by
          unfold fX5_firstLine
          rw [d2, bnd2_some, if_neg (by decide), g6, bnd2_some, if_neg (nI_m1 (by omega)), b2, bnd2_some, if_neg (by decide)]
        have t2 : rI m4 143 0 = 0 := by rw [f4.i (by unfold PN; omega), y1 0 (by decide)]; exact r0
        have eE : fX12_ends n (wI m2 143 1 (nI v)) = some (wI m4 143 0 1) := by
          unfold fX12_ends jX12_ends_14
          rw [b3, bnd2_some, if_neg (by decide), t2]; rfl
        have st : LSx B N M 3 (s1 v) 0 (wI (wI (wI X 13 4 (rI X 13 4 + 1)) 14 0 (nI v)) 14 4 1) (wI m4 143 0 1) := by
          refine ⟨((p4.wc (by omega) (by omega)).wc (by omega) (by omega)).wr, first_sea g3 hv ?_ (fun j h1 h2 h3 => ?_) ?_ ?_ (fun l hl => ?_) ?_ ?_ (fun i h1 h2 h3 => ?_), by omega, by show 1 ≤ 3; omega⟩
          · rw [rI_ii (by decide), rI_same]
          · rw [rI_ii h3, rI_ii (by omega), rI_ai (by decide), z1 _ _ (by decide)]; exact c j h1 h2
          · rw [rI_same]
          · rw [rI_ai (by decide), rI_ai (by decide), rI_ai (by decide), z1 _ _ (by decide)]; exact c21
          · rw [rI_ai (by decide), rI_ai (by decide), rI_ai (by decide), z1 _ _ (by decide), rI_ai (by decide), rI_ai (by decide), rI_ai (by decide), z1 _ _ (by decide)]; exact cL l hl
          · rw [rI_same]
          · rw [rI_ii (by decide), f4.i (by unfold PN; omega), rI_same]
          · rw [rI_ii (by omega), f4.i (by unfold PN; omega), y1 i (by omega)]; exact r i h1 h2 h3
        have fcE : Fg PGc μc (wI (wI (wI X 13 4 (rI X 13 4 + 1)) 14 0 (nI v)) 14 4 1) := ((fc2.w (Or.inl ⟨rfl, Or.inl rfl⟩) _).w (Or.inr (by omega)) _).w (Or.inr (by omega)) _
        have frE : Fg PBr μr (wI m4 143 0 1) := (fr2.tr (f4.mono fun _ _ q => PN_B q)).w (Or.inr (Or.inr rfl)) _
        obtain ⟨u, μc', μr', e1, e2, e3⟩ := read_lp hD hn 900 0 3 (s1 v) 0 _ _ n n (by omega) (by omega) (by omega) (by omega) st
        have e1 : lp n (sX5_read_39 n) (1, 0, wI (wI (wI X 13 4 (rI X 13 4 + 1)) 14 0 (nI v)) 14 4 1) = some (u, μc') := e1
        refine ⟨u, μc', μr', ?_, ?_, ?_⟩
        · rw [eF, bnd2_some, e1, bnd_some]
          rcases e3 with ⟨eu, _⟩ | ⟨eu, _⟩ <;> (rw [eu]; rfl)
        · unfold seaT jX12_sea_66
          rw [d3, bnd2_some, if_neg (by decide), g7, bnd2_some, eE, bnd_some, e2, bnd_some]
        · rcases e3 with ⟨eu, ⟨i', s', len', q1, q2⟩, q3, q4⟩ | ⟨eu, q1⟩
          · exact Or.inl ⟨eu, ⟨s', len', q1.2.1, by have := q1.2.2.1; have := q1.1.1.2.1; omega⟩, q1.1.2.2.2, fcE.tr q3, frE.tr q4⟩
          · exact Or.inr ⟨eu, q1.tr (fcE.mono fun _ _ => PGc_B) frE⟩
      · have b2 : fX12_eats n 30 (wI m2 143 1 (nI v)) = some (0, wI m2 143 1 (nI v)) := b2
        have bb := (b4.tr (fc2.mono fun _ _ => PGc_B) fr2).wr (k := 0) (v := rI μr' 143 0 + 1)
        refine bad μc' _ ?_ ?_ bb
        · unfold fX5_firstLine
          rw [d2, bnd2_some, if_neg (by decide), g6, bnd2_some, if_neg (nI_m1 (by omega)), b1, bnd2_some, if_pos rfl]
        · unfold seaT jX12_sea_66 fX12_ends jX12_ends_14
          rw [d3, bnd2_some, if_neg (by decide), g7, bnd2_some, b2, bnd2_some, if_pos rfl, b3, bnd_some, bnd_some, lp_out (step := sX12_sea_83 n) (r := _) (by
            show (if rI _ 139 11 = 0 then _ else _) = _
            rw [if_neg bb.1]) (by omega), bnd_some]
    · have g1 : fX5_amount n 1 6 (wI μc 13 4 (rI μc 13 4 + 1)) = _ := g1
      have g2 : fX12_takes n 1 6 m1 = some (w, μr') := g2
      have fc0 : Fg PBc μc (wI μc 13 4 (rI μc 13 4 + 1)) := (Fg.rfl' _ _).w (show PBc 13 4 by unfold PBc; omega) _
      have bb := (g3.tr fc0 (f1.mono fun _ _ q => PN_B q)).wr (k := 1) (v := w)
      have bb2 := bb.wr (k := 0) (v := rI (wI μr' 143 1 w) 143 0 + 1)
      refine bad μc' _ ?_ ?_ bb2
      · unfold fX5_firstLine
        rw [d2, bnd2_some, if_neg (by decide), g1, bnd2_some, if_pos rfl]
      · unfold seaT jX12_sea_66
        rw [d3, bnd2_some, if_neg (by decide), g2, bnd2_some, ends_W bb.1, bnd_some, lp_out (step := sX12_sea_83 n) (r := _) (by
            show (if rI _ 139 11 = 0 then _ else _) = _
            rw [if_neg bb2.1]) (by omega), bnd_some]
  · have d2 : fX12_eats n 0 μr = some (0, μr) := d2
    refine bad μc' _ ?_ ?_ ((d4.wr (k := 1) (v := rI μr' 139 10)).wr (k := 0) (v := rI (wI μr' 143 1 (rI μr' 139 10)) 143 0 + 1))
    · unfold fX5_firstLine
      rw [d1, bnd2_some, if_pos rfl]
    · unfold seaT
      rw [d2, bnd2_some, if_pos rfl, d3, bnd_some, sea66_W (by omega) d4.1]
