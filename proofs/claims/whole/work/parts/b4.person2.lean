/-! THE READER: a person's line, read -/
def PSx (B : Nat → Nat) (N M : Nat) (s : SD) (μc0 μr0 : Mu) (i : Nat) (μc μr : Mu) : Prop := ∃ h d, (h < sB s ∨ h = 6) ∧ d ≤ 1 ∧ PRx B N M i μc μr ∧ Fg (Pcp (sP s)) μc0 μc ∧ Fg (Prp (sP s)) μr0 μr ∧ rI μc 14 2 = nI (sP s) ∧ rI μr 143 3 = nI (sP s) ∧ rI μc 18 (sP s) = e6 h ∧ bs (rI μc 14 7) (sP s + 1) (fun p => decide ((if p = sP s then d else s 5 p) = 1)) ∧ rI μr 143 (44 + sP s) = e6 h ∧ rI μr 143 (50 + sP s) = nI d
theorem rp117_W {n : Nat} {μ : Mu} (h : rI μ 139 11 ≠ 0) : jX12_readPerson_117 n μ = some μ := by
  unfold jX12_readPerson_117
  rw [if_neg h]
theorem rp18_W {n : Nat} {x1 : Int32} {μ : Mu} (h : rI μ 139 11 ≠ 0) : jX12_readPerson_18 n x1 μ = some μ := by
  unfold jX12_readPerson_18
  rw [if_neg h]
theorem per_step {B : Nat → Nat} {N M i n c len : Nat} {s : SD} {μc0 μr0 μc μr : Mu} (hD : KD B N M) (hS : SEA μc0 μr0 s len) (hp6 : sP s < 6) (hn : 1000 < n) (hc : c < i) (h : PSx B N M s μc0 μr0 i μc μr) : (sX5_personLine_42 n (nI (sP s)) (nI c, μc) = some (.inr (.inr μc)) ∧ sX12_readPerson_40 n (nI (sP s)) μr = some (.inr μr)) ∨ (∃ i' μc' μr', sX5_personLine_42 n (nI (sP s)) (nI c, μc) = some (.inl (nI (c + 1), μc')) ∧ sX12_readPerson_40 n (nI (sP s)) μr = some (.inl μr') ∧ i < i' ∧ PSx B N M s μc0 μr0 i' μc' μr') ∨ (∃ μc' μr', sX5_personLine_42 n (nI (sP s)) (nI c, μc) = some (.inr (.inl μc')) ∧ sX12_readPerson_40 n (nI (sP s)) μr = some (.inl μr') ∧ BADf μc0 μr0 μc' μr') := by
  obtain ⟨h, d, h1, h2, hP, fc, fr, e2, e3, c1, c2, r1, r2⟩ := h
  have hb := hD.2.2.1
  have hM := hD.2.1
  have hi := hP.1.2.1
  have tl := tkP_le (B := B) (N := N) i
  have hB := hS.1.1
  have o4 : ckI B N (tkP B N i) = 204 ↔ kK B N i = 4 := ck_word (K := 4) tl hb (by omega)
  have o5 : ckI B N (tkP B N i) = 205 ↔ kK B N i = 5 := ck_word (K := 5) tl hb (by omega)
  have i4 : fX12_is n 4 μr = some (if kK B N i = 4 then 1 else 0) := r_is (x := 4) hP.2 (by omega) hb
  have i5 : fX12_is n 5 μr = some (if kK B N i = 5 then 1 else 0) := r_is (x := 5) hP.2 (by omega) hb
  have kk := c_kind (n := n) hD hP.1
  have c9 : ¬ (900 : Int32) ≤ nI c := fun e => by have : 900 ≤ c := (le_l (k := 900) (by decide) (by omega)).mp e; omega
  have eP : ∀ (A : Option ((Int32 × Mu) ⊕ (Mu ⊕ Mu))), sX5_personLine_42 n (nI (sP s)) (nI c, μc) = A ↔ (bnd (fX5_kind n μc) fun u5 => if u5 = 204 then (jX5_personLine_69 n (nI (sP s)) (nI c) μc) else (bnd (fX5_kind n μc) fun u18 => if u18 = 205 then (jX5_personLine_69 n (nI (sP s)) (nI c) μc) else (some (.inr (.inr μc))))) = A := fun A => by
    show (if (900 : Int32) ≤ nI c then _ else _) = A ↔ _
    rw [if_neg c9]
  have eR : ∀ (A : Option (Mu ⊕ Mu)), sX12_readPerson_40 n (nI (sP s)) μr = A ↔ (bnd (fX12_is n 4 μr) fun u8 => if u8 = 0 then (bnd (fX12_is n 5 μr) fun u24 => if u24 = 0 then (some (.inr μr)) else (jX12_readPerson_63 n (nI (sP s)) μr)) else (jX12_readPerson_63 n (nI (sP s)) μr)) = A := fun A => by
    show (if rI μr 139 11 = 0 then _ else _) = A ↔ _
    rw [if_pos hP.2.2.2]
  simp only [eP, eR]
  have z0 : rI μc 14 0 = nI (sB s) := by rw [fc.i (by unfold Pcp; omega)]; exact hS.2.1.1.1
  have z1 : rI μr 143 1 = nI (sB s) := by rw [fr.i (by unfold Prp PN; omega)]; exact hS.2.2.1.2.1
  by_cases k4 : kK B N i = 4
  · obtain ⟨m1, n1, p1, f1⟩ := hP.nx (n := n) (hD.lt hi (by omega) (by omega)) hn
    have ee : fX12_eats n 4 μr = some (1, m1) := r_eats' (K := 4) hP.2 (by omega) hb k4 n1
    have z0' : rI (wI μc 13 4 (rI μc 13 4 + 1)) 14 0 = nI (sB s) := by rw [rI_ai (by decide)]; exact z0
    have z1' : rI m1 143 1 = nI (sB s) := by rw [f1.i (by unfold PN; omega)]; exact z1
    have s44 : (44 : Int32) + nI (sP s) = nI (44 + sP s) := nI_add 44 _
    have fc1 : Fg (Pcp (sP s)) μc0 (wI μc 13 4 (rI μc 13 4 + 1)) := fc.w (Or.inl ⟨rfl, rfl⟩) _
    have fr1 : Fg (Prp (sP s)) μr0 m1 := fr.tr (f1.mono fun _ _ q => Or.inl q)
    rcases amt (n := n) (lo := 0) (hi := nI (sB s) - 1) hD p1 (by omega) hn with ⟨x, m2, a1, a2, a3, a4, a5, a6, a7, p2, f2⟩ | ⟨μc', w, μr', a1, a2, a3⟩
    · have a6 : fX5_amount n 0 (nI (sB s) - 1) (wI μc 13 4 (rI μc 13 4 + 1)) = _ := a6
      have a7 : fX12_takes n 0 (nI (sB s) - 1) m1 = some (nI x, m2) := a7
      have hx : x < sB s := (le_sub1 (by omega) a5).mp a4
      refine Or.inr (Or.inl ⟨i + 2, _, _, ?_, ?_, by omega, x, d, Or.inl hx, h2, (p2.wc (a := 18) (k := sP s) (v := nI x) (by omega) (by omega)).wr (k := 44 + sP s) (v := nI x), (fc1.w (Or.inl ⟨rfl, rfl⟩) _).w (Or.inr (Or.inl ⟨rfl, rfl⟩)) _, (fr1.tr (f2.mono fun _ _ q => Or.inl q)).w (Or.inr ⟨rfl, Or.inl rfl⟩) _, ?_, ?_, ?_, ?_, ?_, ?_⟩)
      · unfold jX5_personLine_69
        rw [kk, bnd_some, if_pos (o4.mpr k4), bnd_some, if_pos (o4.mpr k4), if_neg (by decide), z0', a6, bnd2_some, ib_n hp6 (by omega), gd_true, gd_true, ix_n (by omega), rI_same, if_neg (nI_m1 (by omega)), show nI c + 1 = nI (c + 1) from nI_add c 1]
      · unfold jX12_readPerson_63
        rw [i4, if_pos k4, bnd_some, if_neg (by decide), ee, bnd2_some, if_neg (by decide), z1', a7, bnd2_some, s44, ib_n (by omega) (by omega), gd_true, ix_n (by omega)]
      · rw [rI_ai (by decide), rI_ai (by decide), rI_ai (by decide)]; exact e2
      · rw [rI_ii (by omega), f2.i (by unfold PN; omega), f1.i (by unfold PN; omega)]; exact e3
      · rw [rI_same]; unfold e6; rw [if_neg (by omega)]
      · rw [rI_ai (by decide), rI_ai (by decide), rI_ai (by decide)]; exact c2
      · rw [rI_same]; unfold e6; rw [if_neg (by omega)]
      · rw [rI_ii (by omega), f2.i (by unfold PN; omega), f1.i (by unfold PN; omega)]; exact r2
    · have a1 : fX5_amount n 0 (nI (sB s) - 1) (wI μc 13 4 (rI μc 13 4 + 1)) = _ := a1
      have a2 : fX12_takes n 0 (nI (sB s) - 1) m1 = some (w, μr') := a2
      have bb := a3.tr (fc1.mono fun _ _ => Pcp_B) (fr1.mono fun _ _ => Prp_B)
      refine Or.inr (Or.inr ⟨_, _, ?_, ?_, ⟨?_, ?_, ?_, bb.2.2.2.1.w (x := 18) (j := sP s) (show PBc 18 _ by unfold PBc; omega) (-1), bb.2.2.2.2.w (x := 143) (j := 44 + sP s) (Or.inr (Or.inr rfl)) w⟩⟩)
      · unfold jX5_personLine_69
        rw [kk, bnd_some, if_pos (o4.mpr k4), bnd_some, if_pos (o4.mpr k4), if_neg (by decide), z0', a1, bnd2_some, ib_n hp6 (by omega), gd_true, gd_true, ix_n (by omega), rI_same, if_pos rfl]
      · unfold jX12_readPerson_63
        rw [i4, if_pos k4, bnd_some, if_neg (by decide), ee, bnd2_some, if_neg (by decide), z1', a2, bnd2_some, s44, ib_n (by omega) (by omega), gd_true, ix_n (by omega)]
      · rw [rI_ai (by decide)]; exact bb.1
      · rw [rI_ai (by decide), rI_ai (by decide)]; exact bb.2.1
      · rw [rI_ai (by decide), rI_ai (by decide)]; exact bb.2.2.1
  · by_cases k5 : kK B N i = 5
    · obtain ⟨m1, n1, p1, f1⟩ := hP.nx (n := n) (hD.lt hi (by omega) (by omega)) hn
      have ee : fX12_eats n 5 μr = some (1, m1) := r_eats' (K := 5) hP.2 (by omega) hb k5 n1
      have en : fX12_eats n 4 μr = some (0, μr) := r_eatsN (K := 4) hP.2 (by omega) hb k4
      have s50 : (50 : Int32) + nI (sP s) = nI (50 + sP s) := nI_add 50 _
      have fc1 : Fg (Pcp (sP s)) μc0 (wI μc 13 4 (rI μc 13 4 + 1)) := fc.w (Or.inl ⟨rfl, rfl⟩) _
      have fr1 : Fg (Prp (sP s)) μr0 m1 := fr.tr (f1.mono fun _ _ q => Or.inl q)
      refine Or.inr (Or.inl ⟨i + 1, _, _, ?_, ?_, by omega, h, 1, h1, by omega, (p1.wc (a := 14) (k := 7) (v := rI (wI μc 13 4 (rI μc 13 4 + 1)) 14 7 ||| shl 1 (nI (sP s))) (by omega) (by omega)).wr (k := 50 + sP s) (v := 1), fc1.w (Or.inr (Or.inr (Or.inl ⟨rfl, rfl⟩))) _, fr1.w (Or.inr ⟨rfl, Or.inr (Or.inl rfl)⟩) _, ?_, ?_, ?_, ?_, ?_, ?_⟩)
      · unfold jX5_personLine_69
        rw [kk, bnd_some, if_neg (fun q => k4 (o4.mp q)), bnd_some, if_pos (o5.mpr k5), bnd_some, if_neg (fun q => k4 (o4.mp q)), if_pos rfl, show nI c + 1 = nI (c + 1) from nI_add c 1]
      · unfold jX12_readPerson_63
        rw [i4, if_neg k4, bnd_some, if_pos rfl, i5, if_pos k5, bnd_some, if_neg (by decide), en, bnd2_some, if_pos rfl, ee, bnd2_some, if_neg (by decide), s50, ib_n (by omega) (by omega), gd_true, ix_n (by omega)]
      · rw [rI_ii (by decide), rI_ai (by decide)]; exact e2
      · rw [rI_ii (by omega), f1.i (by unfold PN; omega)]; exact e3
      · rw [rI_ai (by decide), rI_ai (by decide)]; exact c1
      · rw [rI_same, rI_ai (by decide)]
        refine bs_congr (bs_set c2 (show sP s < sP s + 1 by omega) (by omega)) fun p hp => ?_
        by_cases e : p = sP s
        · simp [e]
        · simp [e]
      · rw [rI_ii (by omega), f1.i (by unfold PN; omega)]; exact r1
      · rw [rI_same]; rfl
    · refine Or.inl ⟨?_, ?_⟩
      · rw [kk, bnd_some, if_neg (fun q => k4 (o4.mp q)), bnd_some, if_neg (fun q => k5 (o5.mp q))]
      · rw [i4, if_neg k4, bnd_some, if_pos rfl, i5, if_neg k5, bnd_some, if_pos rfl]
theorem l_person {B : Nat → Nat} {N M i n len : Nat} {s : SD} {μc μr : Mu} (hD : KD B N M) (h : LSx B N M i s len μc μr) (hk : kK B N i = 3) (hn : 1000 < n) : LNR B N M i s μc μr (fX5_personLine n μc) (fX12_readPerson n μr) := by
  obtain ⟨hP, hS, hl, h4⟩ := h
  have hb := hD.2.2.1
  have hM := hD.2.1
  have k2 : rI μc 14 2 = nI (sP s) := hS.2.1.1.2.2.1
  have k7 := hS.2.1.1.2.2.2.2.2.2.2
  have q3 : rI μr 143 3 = nI (sP s) := hS.2.2.1.2.2.2.1
  have hp := hS.1.2.2.1
  by_cases c6 : sP s < 6
  · have hi : i < M := hD.lt hP.1.2.1 (by omega) (by omega)
    obtain ⟨μr1, n1, p1, f1⟩ := hP.nx (n := n) hi hn
    have s44 : (44 : Int32) + nI (sP s) = nI (44 + sP s) := nI_add 44 _
    have fcA : Fg (Pcp (sP s)) μc (wI (wI μc 13 4 (rI μc 13 4 + 1)) 18 (sP s) (-1)) := ((Fg.rfl' _ _).w (Or.inl ⟨rfl, rfl⟩) _).w (Or.inr (Or.inl ⟨rfl, rfl⟩)) _
    have frA : Fg (Prp (sP s)) μr (wI μr1 143 (44 + sP s) (-1)) := (f1.mono fun _ _ q => Or.inl q).w (Or.inr ⟨rfl, Or.inl rfl⟩) _
    have st : PSx B N M s μc μr (i + 1) (wI (wI μc 13 4 (rI μc 13 4 + 1)) 18 (sP s) (-1)) (wI μr1 143 (44 + sP s) (-1)) := by
      refine ⟨6, 0, Or.inr rfl, by omega, (p1.wc (by omega) (by omega)).wr, fcA, frA, ?_, ?_, ?_, ?_, ?_, ?_⟩
      · rw [rI_ai (by decide), rI_ai (by decide)]; exact k2
      · rw [rI_ii (by omega), f1.i (by unfold PN; omega)]; exact q3
      · rw [rI_same]; rfl
      · rw [rI_ai (by decide), rI_ai (by decide)]
        intro j hj
        rw [k7 j hj]
        by_cases e : j = sP s
        · simp [e]
        · by_cases e2 : j < sP s
          · simp [e, e2, show j < sP s + 1 by omega]
          · simp [e2, show ¬ j < sP s + 1 by omega]
      · rw [rI_same]; rfl
      · rw [rI_ii (by omega), f1.i (by unfold PN; omega)]; exact hS.2.2.2.2.1.2 (sP s) (Nat.le_refl _) c6
    obtain ⟨o, μr2, g1, g2, g3⟩ := lpB (M := M) (μc0 := μc) (μr0 := μr) (sc := sX5_personLine_42 n (nI (sP s))) (sr := sX12_readPerson_40 n (nI (sP s))) (PSx B N M s μc μr) (fun j a b q => by obtain ⟨_, _, _, _, q, _⟩ := q; exact q.1.2.1) (fun μ w => by
      show (if rI μ 139 11 = 0 then _ else _) = _
      rw [if_neg w]) (fun c j a b hc q => per_step hD hS c6 hn hc q) 900 0 (i + 1) _ _ n n (by omega) (by omega) (by omega) (by omega) st
    have eC : fX5_personLine n μc = (match (generalizing := false) o with | .inl m20 => (some (0, m20)) | .inr m21 => (jX5_personLine_158 n m21)) := by
      unfold fX5_personLine
      rw [k2, if_pos (show nI (sP s) < 6 from (nI_ltI (a := sP s) (b := 6) (by omega) (by omega)).mpr c6), ib_n c6 (by omega), gd_true, ix_n (by omega), show lp n (sX5_personLine_42 n (nI (sP s))) (0, wI (wI μc 13 4 (rI μc 13 4 + 1)) 18 (sP s) (-1)) = some o from g1, bnd_some]
      clear g3 g1
      cases o <;> rfl
    have eR : fX12_readPerson n μr = jX12_readPerson_117 n μr2 := by
      unfold fX12_readPerson jX12_readPerson_18
      rw [q3, if_neg (show ¬ nI (sP s) = 6 from fun q => by have : sP s = 6 := (nI_eq (a := sP s) (b := 6) (by omega) (by omega)).mp q; omega), hP.2.2.2, if_pos rfl, n1, bnd_some, s44, ib_n (by omega) (by omega), gd_true, ix_n (by omega), g2, bnd_some]
    rw [eC, eR]
    rcases g3 with ⟨μc2, i', eo, g4, h', d, v1, v2, v3, v4, v5, v6, v7, v8, v9, v10, v11⟩ | ⟨μc2, eo, g4⟩
    · subst eo
      unfold jX12_readPerson_117
      rw [v3.2.2.2, if_pos rfl, v7, show nI (sP s) + 1 = nI (sP s + 1) from nI_add _ 1]
      have fcE : Fg (Pcp (sP s)) μc (wI μc2 14 2 (nI (sP s + 1))) := v4.w (Or.inr (Or.inr (Or.inr ⟨rfl, rfl⟩))) _
      have frE : Fg (Prp (sP s)) μr (wI μr2 143 3 (nI (sP s + 1))) := v5.w (Or.inr ⟨rfl, Or.inr (Or.inr rfl)⟩) _
      refine ⟨1, wI μc2 14 2 (nI (sP s + 1)), _, ?_, rfl, Or.inl ⟨rfl, ⟨i', perS s h' d, len, by omega, ⟨(v3.wc (by omega) (by omega)).wr, per_sea hS c6 v1 v2 fcE frE ?_ ?_ ?_ ?_ ?_ ?_, by omega, ?_⟩, perS_0 (by decide)⟩, fcE.mono fun _ _ => Pcp_G, frE.mono fun _ _ => Prp_B⟩⟩
      · show some (1, wI μc2 14 2 (rI μc2 14 2 + 1)) = _
        rw [v6, show nI (sP s) + 1 = nI (sP s + 1) from nI_add _ 1]
      · rw [rI_ai (by decide)]; exact v8
      · rw [rI_ii (by decide)]; exact v9
      · rw [rI_same]
      · rw [rI_ii (by omega)]; exact v10
      · rw [rI_ii (by omega)]; exact v11
      · rw [rI_same]
      · rw [perS_0 (by decide)]; omega
    · subst eo
      rw [rp117_W g4.1]
      exact ⟨0, _, _, rfl, rfl, Or.inr ⟨rfl, g4⟩⟩
  · have e6 : sP s = 6 := by omega
    have fl := r_fails (n := n) (x := 4) hP.2 hb
    rw [if_neg (show ¬ kK B N i = 25 by omega)] at fl
    have fl : fX12_fails n 4 μr = some (frI μr B N i 4) := fl
    have wr : rI (frI μr B N i 4) 139 11 ≠ 0 := by unfold frI; rw [rI_ii (by decide), rI_same]; decide
    unfold fX5_personLine fX12_readPerson
    rw [k2, q3, e6, if_neg (by decide), if_pos (show nI 6 = 6 from rfl), c_blame hD hP.1, bnd2_some, fl, bnd_some, rp18_W wr]
    exact ⟨0, fbI μc B N i 4, _, rfl, rfl, Or.inr ⟨rfl, BADf.here (by decide)⟩⟩
