/-! THE READER: a current's line, read -/
theorem cur_eq {n c : Nat} {μ : Mu} (k1 : rI μ 14 1 = nI c) (hc : c < 10) : fX5_currentLine n μ = bnd2 (fX5_amount n 0 (rI μ 14 0 - 1) (wI μ 13 4 (rI μ 13 4 + 1))) fun u3 m4 => if u3 = (-1) then (some (0, wI m4 15 c u3)) else (bnd (fX5_kind n (wI m4 15 c u3)) fun u9 => if u9 = (1000 + u3) then (bnd2 (fX5_blame n 3 (wI m4 15 c u3)) fun u29 m30 => gd (isb u29) (some (u29, m30))) else (bnd2 (fX5_amount n 0 (rI m4 14 0 - 1) (wI m4 15 c u3)) fun u13 m14 => if u13 = (-1) then (some (0, wI m14 16 c u13)) else (bnd2 (fX5_accept n 202 (wI m14 16 c u13)) fun u19 m20 => if u19 = 0 then (some (0, m20)) else (bnd2 (fX5_amount n 1 9 m20) fun u23 m24 => if u23 = (-1) then (some (0, wI (wI m24 17 c u23) 14 1 (rI m24 14 1 + 1))) else (some (1, wI (wI m24 17 c u23) 14 1 (rI m24 14 1 + 1))))))) := by
  unfold fX5_currentLine
  rw [k1, if_pos (show nI c < 10 from (nI_ltI (a := c) (b := 10) (by omega) (by omega)).mpr hc)]
  simp only [ib_n hc (show (10 : Nat) < 2147483648 by omega), gd_true, ix_n (show c < 2147483648 by omega), rI_same, rI_ai (show (14 : Nat) ≠ 13 by decide), rI_ai (show (14 : Nat) ≠ 15 by decide), rI_ai (show (14 : Nat) ≠ 17 by decide), rI_ai (show (17 : Nat) ≠ 14 by decide)]
theorem rc93_W {n : Nat} {x1 x2 x3 : Int32} {μ : Mu} (h : rI μ 139 11 ≠ 0) : jX12_readCurrent_93 n x1 x2 x3 μ = some μ := by
  unfold jX12_readCurrent_93
  rw [r_takesW h, bnd2_some, if_neg h]
theorem rc66_W {n : Nat} {x1 x2 : Int32} {μ : Mu} (h : rI μ 139 11 ≠ 0) : jX12_readCurrent_66 n x1 x2 μ = some μ := by
  unfold jX12_readCurrent_66
  rw [r_takesW h, bnd2_some, r_eatsW h, bnd2_some, if_pos rfl, r_failsW h, bnd_some, rc93_W h]
theorem rc18_W {n : Nat} {x1 : Int32} {μ : Mu} (h : rI μ 139 11 ≠ 0) : jX12_readCurrent_18 n x1 μ = some μ := by
  unfold jX12_readCurrent_18
  rw [if_neg h]
theorem i_add {a b : Nat} : nI a + nI b = nI (a + b) := nI_add a b
theorem Pcc_B {c a i : Nat} (h : Pcc c a i) : PBc a i := by unfold Pcc at h; unfold PBc; omega
theorem Pcc_G {c a i : Nat} (h : Pcc c a i) : PGc a i := by unfold Pcc at h; unfold PGc; omega
theorem Prc_B {c a i : Nat} (h : Prc c a i) : PBr a i := by
  unfold Prc at h; unfold PBr
  rcases h with h | h
  · exact Or.inl h
  · exact Or.inr (Or.inr h.1)
theorem l_current {B : Nat → Nat} {N M i n len : Nat} {s : SD} {μc μr : Mu} (hD : KD B N M) (h : LSx B N M i s len μc μr) (hk : kK B N i = 1) (hn : 1000 < n) : LNR B N M i s μc μr (fX5_currentLine n μc) (fX12_readCurrent n μr) := by
  obtain ⟨hP, hS, hl, h4⟩ := h
  have hb := hD.2.2.1
  have hM := hD.2.1
  have k0 : rI μc 14 0 = nI (sB s) := hS.2.1.1.1
  have k1 : rI μc 14 1 = nI (sC s) := hS.2.1.1.2.1
  have q1 : rI μr 143 1 = nI (sB s) := hS.2.2.1.2.1
  have q2 : rI μr 143 2 = nI (sC s) := hS.2.2.1.2.2.1
  have hB := hS.1.1
  have hC := hS.1.2.1
  by_cases c10 : sC s < 10
  · have hi : i < M := hD.lt hP.1.2.1 (by omega) (by omega)
    obtain ⟨μr1, n1, p1, f1⟩ := hP.nx (n := n) hi hn
    have z1 : rI μr1 143 1 = nI (sB s) := by rw [f1.i (by unfold PN; omega)]; exact q1
    have eR : fX12_readCurrent n μr = bnd2 (fX12_takes n 0 (nI (sB s) - 1) μr1) fun u6 m7 => bnd (fX12_is n 23 m7) fun u9 => if u9 = 0 then (jX12_readCurrent_66 n (nI (sC s)) u6 m7) else (if (rI m7 139 10) = u6 then (bnd (fX12_fails n 3 m7) fun m29 => jX12_readCurrent_66 n (nI (sC s)) u6 m29) else (jX12_readCurrent_66 n (nI (sC s)) u6 m7)) := by
      unfold fX12_readCurrent jX12_readCurrent_18
      rw [q2, if_neg (show ¬ nI (sC s) = 10 from fun q => by have : sC s = 10 := (nI_eq (a := sC s) (b := 10) (by omega) (by omega)).mp q; omega), hP.2.2.2, if_pos rfl, n1, bnd_some, z1]
    rw [cur_eq k1 c10, k0, eR]
    have fc0 : Fg (Pcc (sC s)) μc (wI μc 13 4 (rI μc 13 4 + 1)) := (Fg.rfl' _ _).w (Or.inl ⟨rfl, rfl⟩) _
    have fr0 : Fg (Prc (sC s)) μr μr1 := f1.mono fun _ _ q => Or.inl q
    generalize hX0 : wI μc 13 4 (rI μc 13 4 + 1) = X0 at p1 fc0
    rcases amt (n := n) (lo := 0) (hi := nI (sB s) - 1) hD p1 (by omega) hn with ⟨x, μr2, a1, a2, a3, a4, a5, a6, a7, p2, f2⟩ | ⟨μc', w, μr', a1, a2, a3⟩
    · have a6 : fX5_amount n 0 (nI (sB s) - 1) X0 = some (nI x, wI X0 13 4 (rI X0 13 4 + 1)) := a6
      have a7 : fX12_takes n 0 (nI (sB s) - 1) μr1 = some (nI x, μr2) := a7
      have hx : x < sB s := (le_sub1 (by omega) a5).mp a4
      rw [a6, bnd2_some, a7, bnd2_some, if_neg (nI_m1 (by omega))]
      have w1 : rI (wI X0 13 4 (rI X0 13 4 + 1)) 14 0 = nI (sB s) := by rw [rI_ai (by decide), ← hX0, rI_ai (by decide)]; exact k0
      rw [w1]
      have fc1 : Fg (Pcc (sC s)) μc (wI (wI X0 13 4 (rI X0 13 4 + 1)) 15 (sC s) (nI x)) := (fc0.w (Or.inl ⟨rfl, rfl⟩) _).w (Or.inr (Or.inl ⟨rfl, rfl⟩)) _
      have fr1 : Fg (Prc (sC s)) μr μr2 := fr0.tr (f2.mono fun _ _ q => Or.inl q)
      have p2 : PRx B N M (i + 2) (wI (wI X0 13 4 (rI X0 13 4 + 1)) 15 (sC s) (nI x)) μr2 := p2.wc (by omega) (by omega)
      have v15 : rI (wI (wI X0 13 4 (rI X0 13 4 + 1)) 15 (sC s) (nI x)) 15 (sC s) = nI x := rI_same _ _ _ _
      generalize hX1 : wI (wI X0 13 4 (rI X0 13 4 + 1)) 15 (sC s) (nI x) = X1 at p2 fc1 v15
      have r23 : fX12_is n 23 μr2 = some (if kK B N (i + 2) = 23 then 1 else 0) := r_is (x := 23) p2.2 (by omega) hb
      have z2 : rI μr2 143 1 = nI (sB s) := by rw [f2.i (by unfold PN; omega)]; exact z1
      have tl := tkP_le (B := B) (N := N) (i + 2)
      have kl := kK_le (i := i + 2) hb
      have oE : ckI B N (tkP B N (i + 2)) = 1000 + nI x ↔ (kK B N (i + 2) = 23 ∧ kV B N (i + 2) = x) := by
        rw [show (1000 : Int32) + nI x = nI (1000 + x) from nI_add 1000 x]
        by_cases e : kK B N (i + 2) = 23
        · obtain ⟨d1, d2⟩ := (ck_num tl hb).2 e
          rcases ck_cases tl hb with ⟨h1, h2⟩ | ⟨h1, h2⟩ | ⟨h1, h0, h2⟩ | ⟨h1, h2⟩ | ⟨h1, h2⟩ | ⟨h1, h0, h2⟩
          · have h1 : kK B N (i + 2) ≤ 21 := h1
            omega
          · have h1 : kK B N (i + 2) = 22 := h1
            omega
          · rw [h2, nI_eq (by omega) (by omega)]
            constructor
            · intro q; exact ⟨e, by show tkV B N (tkP B N (i + 2)) = x; omega⟩
            · intro q
              have q2 : tkV B N (tkP B N (i + 2)) = x := q.2
              omega
          · have h1 : kK B N (i + 2) = 24 := h1
            omega
          · have h1 : kK B N (i + 2) = 25 := h1
            omega
          · have h1 : 30 ≤ kK B N (i + 2) := h1
            omega
        · rw [ck_N tl hb e]
          have cb : ∀ K, K < 42 → ckN K < 1000 := by decide +kernel
          have := cb (kK B N (i + 2)) (by omega)
          constructor
          · intro q
            have := (nI_eq (a := ckN (kK B N (i + 2))) (b := 1000 + x) (by omega) (by omega)).mp q
            omega
          · intro q; exact absurd q.1 e
      rw [c_kind hD p2.1, bnd_some, r23, bnd_some]
      have eC : ∀ (A : Option Mu), (if (if kK B N (i + 2) = 23 then (1 : Int32) else 0) = 0 then jX12_readCurrent_66 n (nI (sC s)) (nI x) μr2 else (if rI μr2 139 10 = nI x then A else jX12_readCurrent_66 n (nI (sC s)) (nI x) μr2)) = if (kK B N (i + 2) = 23 ∧ kV B N (i + 2) = x) then A else jX12_readCurrent_66 n (nI (sC s)) (nI x) μr2 := fun A => by
        by_cases e : kK B N (i + 2) = 23
        · have v : rI μr2 139 10 = nI (kV B N (i + 2)) := p2.2.2.1.2.2.2 e
          have vb : kV B N (i + 2) < 1000 := ((ck_num tl hb).2 e).2
          rw [if_pos e, if_neg (by decide), v]
          by_cases e2 : kV B N (i + 2) = x
          · rw [if_pos (show nI (kV B N (i + 2)) = nI x by rw [e2]), if_pos (show kK B N (i + 2) = 23 ∧ kV B N (i + 2) = x from ⟨e, e2⟩)]
          · rw [if_neg (show ¬ nI (kV B N (i + 2)) = nI x from fun q => e2 ((nI_eq (by omega) (by omega)).mp q)), if_neg (show ¬ (kK B N (i + 2) = 23 ∧ kV B N (i + 2) = x) from fun q => e2 q.2)]
        · rw [if_neg e, if_pos rfl, if_neg (fun q => e q.1)]
      rw [eC]
      by_cases eE : kK B N (i + 2) = 23 ∧ kV B N (i + 2) = x
      · -- from and to the same
        have fl := r_fails (n := n) (x := 3) p2.2 hb
        rw [if_neg (show ¬ kK B N (i + 2) = 25 by omega)] at fl
        have wr : rI (frI μr2 B N (i + 2) 3) 139 11 ≠ 0 := by unfold frI; rw [rI_ii (by decide), rI_same]; decide
        have fl : fX12_fails n 3 μr2 = some (frI μr2 B N (i + 2) 3) := fl
        rw [if_pos (oE.mpr eE), if_pos eE, c_blame hD p2.1, bnd2_some, fl, bnd_some, rc66_W wr]
        exact ⟨0, fbI X1 B N (i + 2) 3, _, rfl, rfl, Or.inr ⟨rfl, (BADf.here (by decide)).tr (fc1.mono fun _ _ => Pcc_B) (fr1.mono fun _ _ => Prc_B)⟩⟩
      · rw [if_neg (fun q => eE (oE.mp q)), if_neg eE]
        unfold jX12_readCurrent_66
        rw [z2]
        rcases amt (n := n) (lo := 0) (hi := nI (sB s) - 1) hD p2 (by omega) hn with ⟨y, μr3, b1, b2, b3, b4, b5, b6, b7, p3, f3⟩ | ⟨μc', w, μr', b1, b2, b3⟩
        · have b6 : fX5_amount n 0 (nI (sB s) - 1) X1 = some (nI y, wI X1 13 4 (rI X1 13 4 + 1)) := b6
          have b7 : fX12_takes n 0 (nI (sB s) - 1) μr2 = some (nI y, μr3) := b7
          have hy : y < sB s := (le_sub1 (by omega) b5).mp b4
          rw [b6, bnd2_some, b7, bnd2_some, if_neg (nI_m1 (by omega))]
          have fc2 : Fg (Pcc (sC s)) μc (wI (wI X1 13 4 (rI X1 13 4 + 1)) 16 (sC s) (nI y)) := (fc1.w (Or.inl ⟨rfl, rfl⟩) _).w (Or.inr (Or.inr (Or.inl ⟨rfl, rfl⟩))) _
          have fr2 : Fg (Prc (sC s)) μr μr3 := fr1.tr (f3.mono fun _ _ q => Or.inl q)
          have p3 : PRx B N M (i + 3) (wI (wI X1 13 4 (rI X1 13 4 + 1)) 16 (sC s) (nI y)) μr3 := p3.wc (by omega) (by omega)
          have v16 : rI (wI (wI X1 13 4 (rI X1 13 4 + 1)) 16 (sC s) (nI y)) 16 (sC s) = nI y := rI_same _ _ _ _
          have v15 : rI (wI (wI X1 13 4 (rI X1 13 4 + 1)) 16 (sC s) (nI y)) 15 (sC s) = nI x := by rw [rI_ai (by decide), rI_ai (by decide)]; exact v15
          generalize hX2 : wI (wI X1 13 4 (rI X1 13 4 + 1)) 16 (sC s) (nI y) = X2 at p3 fc2 v15 v16
          rcases eat (n := n) (K := 2) (code := 202) hD p3 (ck_word (K := 2) (tkP_le (B := B) (N := N) (i + 3)) hb (by omega)) (by omega) (by omega) (by omega) hn with ⟨μr4, d1, d2, d3, p4, f4⟩ | ⟨μc', μr', d1, d2, d3, d4⟩
          · have d3 : fX12_eats n 2 μr3 = some (1, μr4) := d3
            rw [d2, bnd2_some, if_neg (by decide), d3, bnd2_some, if_neg (by decide)]
            unfold jX12_readCurrent_93
            have fc3 : Fg (Pcc (sC s)) μc (wI X2 13 4 (rI X2 13 4 + 1)) := fc2.w (Or.inl ⟨rfl, rfl⟩) _
            have fr3 : Fg (Prc (sC s)) μr μr4 := fr2.tr (f4.mono fun _ _ q => Or.inl q)
            have v16 : rI (wI X2 13 4 (rI X2 13 4 + 1)) 16 (sC s) = nI y := by rw [rI_ai (by decide)]; exact v16
            have v15 : rI (wI X2 13 4 (rI X2 13 4 + 1)) 15 (sC s) = nI x := by rw [rI_ai (by decide)]; exact v15
            generalize hX3 : wI X2 13 4 (rI X2 13 4 + 1) = X3 at p4 fc3 v15 v16
            rcases amt (n := n) (lo := 1) (hi := 9) hD p4 (by omega) hn with ⟨z, μr5, g1, g2, g3, g4, g5, g6, g7, p5, f5⟩ | ⟨μc', w, μr', g1, g2, g3⟩
            · have g6 : fX5_amount n 1 9 X3 = some (nI z, wI X3 13 4 (rI X3 13 4 + 1)) := g6
              have g7 : fX12_takes n 1 9 μr4 = some (nI z, μr5) := g7
              have hz : z ≤ 9 := (nI_leI (a := z) (b := 9) (by omega) (by omega)).mp g4
              have fr4 : Fg (Prc (sC s)) μr μr5 := fr3.tr (f5.mono fun _ _ q => Or.inl q)
              rw [g6, bnd2_some, g7, bnd2_some, if_neg (nI_m1 (by omega)), p5.2.2.2, if_pos rfl, show (14 : Int32) + nI (sC s) = nI (14 + sC s) from nI_add 14 _, show (24 : Int32) + nI (sC s) = nI (24 + sC s) from nI_add 24 _, show (34 : Int32) + nI (sC s) = nI (34 + sC s) from nI_add 34 _, ib_n (by omega) (by omega), gd_true, ib_n (by omega) (by omega), gd_true, ib_n (by omega) (by omega), gd_true, ix_n (by omega), ix_n (by omega), ix_n (by omega)]
              have t1 : rI (wI X3 13 4 (rI X3 13 4 + 1)) 14 1 = nI (sC s) := by
                rw [rI_ai (by decide), ← hX3, rI_ai (by decide), ← hX2, rI_ai (by decide), rI_ai (by decide), ← hX1, rI_ai (by decide), rI_ai (by decide), ← hX0, rI_ai (by decide)]; exact k1
              have t2 : rI μr5 143 2 = nI (sC s) := by
                rw [f5.i (by unfold PN; omega), f4.i (by unfold PN; omega), f3.i (by unfold PN; omega), f2.i (by unfold PN; omega), f1.i (by unfold PN; omega)]; exact q2
              rw [t1, rI_ii (by omega), rI_ii (by omega), rI_ii (by omega), t2, show nI (sC s) + 1 = nI (sC s + 1) from nI_add _ 1]
              have fcE : Fg (Pcc (sC s)) μc (wI (wI (wI X3 13 4 (rI X3 13 4 + 1)) 17 (sC s) (nI z)) 14 1 (nI (sC s + 1))) := ((fc3.w (Or.inl ⟨rfl, rfl⟩) _).w (Or.inr (Or.inr (Or.inr (Or.inl ⟨rfl, rfl⟩)))) _).w (Or.inr (Or.inr (Or.inr (Or.inr ⟨rfl, rfl⟩)))) _
              have frE : Fg (Prc (sC s)) μr (wI (wI (wI (wI μr5 143 (14 + sC s) (nI x)) 143 (24 + sC s) (nI y)) 143 (34 + sC s) (nI z)) 143 2 (nI (sC s + 1))) := (((fr4.w (Or.inr ⟨rfl, Or.inl rfl⟩) _).w (Or.inr ⟨rfl, Or.inr (Or.inl rfl)⟩) _).w (Or.inr ⟨rfl, Or.inr (Or.inr (Or.inl rfl))⟩) _).w (Or.inr ⟨rfl, Or.inr (Or.inr (Or.inr rfl))⟩) _
              refine ⟨1, _, _, rfl, rfl, Or.inl ⟨rfl, ⟨i + 5, curS s x y z, len, by omega, ⟨((((p5.wc (by omega) (by omega)).wc (by omega) (by omega)).wr).wr).wr.wr, cur_sea hS c10 hx hy ⟨g3, hz⟩ fcE frE ?_ ?_ ?_ ?_ ?_ ?_ ?_ ?_, by omega, ?_⟩, curS_0 (by decide)⟩, fcE.mono fun _ _ => Pcc_G, frE.mono fun _ _ => Prc_B⟩⟩
              · rw [rI_ai (by decide), rI_ai (by decide), rI_ai (by decide)]; exact v15
              · rw [rI_ai (by decide), rI_ai (by decide), rI_ai (by decide)]; exact v16
              · rw [rI_ai (by decide), rI_same]
              · rw [rI_same]
              · rw [rI_ii (by omega), rI_ii (by omega), rI_ii (by omega), rI_same]
              · rw [rI_ii (by omega), rI_ii (by omega), rI_same]
              · rw [rI_ii (by omega), rI_same]
              · rw [rI_same]
              · rw [curS_0 (by decide)]; omega
            · have g1 : fX5_amount n 1 9 X3 = some (-1, μc') := g1
              have g2 : fX12_takes n 1 9 μr4 = some (w, μr') := g2
              rw [g1, bnd2_some, if_pos rfl, g2, bnd2_some, if_neg g3.1]
              have bb := g3.tr (fc3.mono fun _ _ => Pcc_B) (fr3.mono fun _ _ => Prc_B)
              exact ⟨0, _, _, rfl, rfl, Or.inr ⟨rfl, bb.1, by rw [rI_ai (by decide), rI_ai (by decide)]; exact bb.2.1, by rw [rI_ai (by decide), rI_ai (by decide)]; exact bb.2.2.1, (bb.2.2.2.1.w (show PBc 17 (sC s) by unfold PBc; omega) _).w (show PBc 14 1 by unfold PBc; omega) _, bb.2.2.2.2⟩⟩
          · have d2 : fX12_eats n 2 μr3 = some (0, μr3) := d2
            have bb := d4.tr (fc2.mono fun _ _ => Pcc_B) (fr2.mono fun _ _ => Prc_B)
            rw [d1, bnd2_some, if_pos rfl, d2, bnd2_some, if_pos rfl, d3, bnd_some, rc93_W bb.1]
            exact ⟨0, _, _, rfl, rfl, Or.inr ⟨rfl, bb⟩⟩
        · have b1 : fX5_amount n 0 (nI (sB s) - 1) X1 = some (-1, μc') := b1
          have b2 : fX12_takes n 0 (nI (sB s) - 1) μr2 = some (w, μr') := b2
          have bb := b3.tr (fc1.mono fun _ _ => Pcc_B) (fr1.mono fun _ _ => Prc_B)
          rw [b1, bnd2_some, if_pos rfl, b2, bnd2_some, r_eatsW bb.1, bnd2_some, if_pos rfl, r_failsW bb.1, bnd_some, rc93_W bb.1]
          exact ⟨0, _, _, rfl, rfl, Or.inr ⟨rfl, bb.1, by rw [rI_ai (by decide)]; exact bb.2.1, by rw [rI_ai (by decide)]; exact bb.2.2.1, bb.2.2.2.1.w (show PBc 16 (sC s) by unfold PBc; omega) _, bb.2.2.2.2⟩⟩
    · have a1 : fX5_amount n 0 (nI (sB s) - 1) X0 = some (-1, μc') := a1
      have a2 : fX12_takes n 0 (nI (sB s) - 1) μr1 = some (w, μr') := a2
      have bb := a3.tr (fc0.mono fun _ _ => Pcc_B) (fr0.mono fun _ _ => Prc_B)
      rw [a1, bnd2_some, if_pos rfl, a2, bnd2_some, r_isW bb.1, bnd_some, if_pos rfl, rc66_W bb.1]
      exact ⟨0, _, _, rfl, rfl, Or.inr ⟨rfl, bb.1, by rw [rI_ai (by decide)]; exact bb.2.1, by rw [rI_ai (by decide)]; exact bb.2.2.1, bb.2.2.2.1.w (show PBc 15 (sC s) by unfold PBc; omega) _, bb.2.2.2.2⟩⟩
  · have e10 : sC s = 10 := by omega
    have fl := r_fails (n := n) (x := 4) hP.2 hb
    rw [if_neg (show ¬ kK B N i = 25 by omega)] at fl
    have fl : fX12_fails n 4 μr = some (frI μr B N i 4) := fl
    have wr : rI (frI μr B N i 4) 139 11 ≠ 0 := by unfold frI; rw [rI_ii (by decide), rI_same]; decide
    unfold fX5_currentLine fX12_readCurrent
    rw [k1, q2, e10, if_neg (by decide), if_pos (show nI 10 = 10 from rfl), c_blame hD hP.1, bnd2_some, fl, bnd_some, rc18_W wr]
    exact ⟨0, fbI μc B N i 4, _, rfl, rfl, Or.inr ⟨rfl, BADf.here (by decide)⟩⟩
