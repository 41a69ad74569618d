/-! THE READER: a shell's line, a gale's, an hour's, read -/
theorem she_eq {n c : Nat} {μ : Mu} (k1 : rI μ 14 3 = nI c) (hc : c < 8) : fX5_shellLine n μ = bnd2 (fX5_amount n 0 (rI μ 14 0 - 1) (wI (wI μ 13 4 (rI μ 13 4 + 1)) 20 c (-1))) fun u4 m5 => if u4 = (-1) then (some (0, wI m5 19 c u4)) else (bnd (fX5_kind n (wI m5 19 c u4)) fun u10 => if u10 = 207 then (bnd2 (fX5_amount n 0 (rI m5 14 2 - 1) (wI (wI m5 19 c u4) 13 4 (rI (wI m5 19 c u4) 13 4 + 1))) fun u13 m14 => if u13 = (-1) then (some (0, wI m14 20 c u13)) else (jX5_shellLine_136 n (wI m14 20 c u13))) else (jX5_shellLine_136 n (wI m5 19 c u4))) := by
  unfold fX5_shellLine
  rw [k1, if_pos (show nI c < 8 from (nI_ltI (a := c) (b := 8) (by omega) (by omega)).mpr hc)]
  simp only [ib_n hc (show (8 : Nat) < 2147483648 by omega), gd_true, ix_n (show c < 2147483648 by omega), rI_same, rI_ai (show (14 : Nat) ≠ 13 by decide), rI_ai (show (14 : Nat) ≠ 20 by decide), rI_ai (show (14 : Nat) ≠ 19 by decide)]
theorem rk70_W {n : Nat} {x1 x2 x3 : Int32} {μ : Mu} (h : rI μ 139 11 ≠ 0) : jX12_readShell_70 n x1 x2 x3 μ = some μ := by
  unfold jX12_readShell_70
  rw [if_neg h]
theorem rk18_W {n : Nat} {x1 : Int32} {μ : Mu} (h : rI μ 139 11 ≠ 0) : jX12_readShell_18 n x1 μ = some μ := by
  unfold jX12_readShell_18
  rw [if_neg h]
theorem BADf.wc {μc μr μc' μr' : Mu} {a k : Nat} {v : Int32} (h : BADf μc μr μc' μr') (h1 : 14 ≤ a) (h2 : a ≤ 27) : BADf μc μr (wI μc' a k v) μr' := ⟨h.1, by rw [rI_ai (by omega)]; exact h.2.1, by rw [rI_ai (by omega)]; exact h.2.2.1, h.2.2.2.1.w (show PBc a k by unfold PBc; omega) _, h.2.2.2.2⟩
theorem BADf.wr {μc μr μc' μr' : Mu} {k : Nat} {v : Int32} (h : BADf μc μr μc' μr') : BADf μc μr μc' (wI μr' 143 k v) := ⟨by rw [rI_ai (by decide)]; exact h.1, by rw [rI_ai (by decide)]; exact h.2.1, by rw [rI_ai (by decide)]; exact h.2.2.1, h.2.2.2.1, h.2.2.2.2.w (Or.inr (Or.inr rfl)) _⟩
theorem l_shell {B : Nat → Nat} {N M i n len : Nat} {s : SD} {μc μr : Mu} (hD : KD B N M) (h : LSx B N M i s len μc μr) (hk : kK B N i = 6) (hn : 1000 < n) : LNR B N M i s μc μr (fX5_shellLine n μc) (fX12_readShell n μr) := by
  obtain ⟨hP, hS, hl, h4⟩ := h
  have hb := hD.2.2.1
  have hM := hD.2.1
  have k0 : rI μc 14 0 = nI (sB s) := hS.2.1.1.1
  have k2 : rI μc 14 2 = nI (sP s) := hS.2.1.1.2.2.1
  have k3 : rI μc 14 3 = nI (sS s) := hS.2.1.1.2.2.2.1
  have q1 : rI μr 143 1 = nI (sB s) := hS.2.2.1.2.1
  have q3 : rI μr 143 3 = nI (sP s) := hS.2.2.1.2.2.2.1
  have q4 : rI μr 143 4 = nI (sS s) := hS.2.2.1.2.2.2.2.1
  have hB := hS.1.1
  have hp := hS.1.2.2.1
  have hs8 := hS.1.2.2.2.1
  by_cases c8 : sS s < 8
  · have hi : i < M := hD.lt hP.1.2.1 (by omega) (by omega)
    obtain ⟨μr1, n1, p1, f1⟩ := hP.nx (n := n) hi hn
    have z1 : rI μr1 143 1 = nI (sB s) := by rw [f1.i (by unfold PN; omega)]; exact q1
    have eR : fX12_readShell n μr = bnd2 (fX12_takes n 0 (nI (sB s) - 1) μr1) fun u6 m7 => bnd2 (fX12_eats n 7 m7) fun u9 m10 => if u9 = 0 then (jX12_readShell_70 n (nI (sS s)) u6 (-1) m10) else (bnd2 (fX12_takes n 0 ((rI m10 143 3) - 1) m10) fun u16 m17 => jX12_readShell_70 n (nI (sS s)) u6 u16 m17) := by
      unfold fX12_readShell jX12_readShell_18
      rw [q4, if_neg (show ¬ nI (sS s) = 8 from fun q => by have : sS s = 8 := (nI_eq (a := sS s) (b := 8) (by omega) (by omega)).mp q; omega), hP.2.2.2, if_pos rfl, n1, bnd_some, z1]
    rw [she_eq k3 c8, k0, eR]
    have fc0 : Fg (Pck (sS s)) μc (wI (wI μc 13 4 (rI μc 13 4 + 1)) 20 (sS s) (-1)) := ((Fg.rfl' _ _).w (Or.inl ⟨rfl, rfl⟩) _).w (Or.inr (Or.inr (Or.inl ⟨rfl, rfl⟩))) _
    have fr0 : Fg (Prk (sS s)) μr μr1 := f1.mono fun _ _ q => Or.inl q
    have p1 : PRx B N M (i + 1) (wI (wI μc 13 4 (rI μc 13 4 + 1)) 20 (sS s) (-1)) μr1 := p1.wc (by omega) (by omega)
    have v20 : rI (wI (wI μc 13 4 (rI μc 13 4 + 1)) 20 (sS s) (-1)) 20 (sS s) = -1 := rI_same _ _ _ _
    have v14 : ∀ j, rI (wI (wI μc 13 4 (rI μc 13 4 + 1)) 20 (sS s) (-1)) 14 j = rI μc 14 j := fun j => by rw [rI_ai (by decide), rI_ai (by decide)]
    generalize hX0 : wI (wI μc 13 4 (rI μc 13 4 + 1)) 20 (sS s) (-1) = X0 at p1 fc0 v20 v14
    rcases amt (n := n) (lo := 0) (hi := nI (sB s) - 1) hD p1 (by omega) hn with ⟨x, μr2, a1, a2, a3, a4, a5, a6, a7, p2, f2⟩ | ⟨μc', w, μr', a1, a2, a3⟩
    · have a6 : fX5_amount n 0 (nI (sB s) - 1) X0 = some (nI x, wI X0 13 4 (rI X0 13 4 + 1)) := a6
      have a7 : fX12_takes n 0 (nI (sB s) - 1) μr1 = some (nI x, μr2) := a7
      have hx : x < sB s := (le_sub1 (by omega) a5).mp a4
      rw [a6, bnd2_some, a7, bnd2_some, if_neg (nI_m1 (by omega)), show rI (wI X0 13 4 (rI X0 13 4 + 1)) 14 2 = nI (sP s) by rw [rI_ai (by decide), v14]; exact k2]
      have fc1 : Fg (Pck (sS s)) μc (wI (wI X0 13 4 (rI X0 13 4 + 1)) 19 (sS s) (nI x)) := (fc0.w (Or.inl ⟨rfl, rfl⟩) _).w (Or.inr (Or.inl ⟨rfl, rfl⟩)) _
      have fr1 : Fg (Prk (sS s)) μr μr2 := fr0.tr (f2.mono fun _ _ q => Or.inl q)
      have p2 : PRx B N M (i + 2) (wI (wI X0 13 4 (rI X0 13 4 + 1)) 19 (sS s) (nI x)) μr2 := p2.wc (by omega) (by omega)
      have w19 : rI (wI (wI X0 13 4 (rI X0 13 4 + 1)) 19 (sS s) (nI x)) 19 (sS s) = nI x := rI_same _ _ _ _
      have w20 : rI (wI (wI X0 13 4 (rI X0 13 4 + 1)) 19 (sS s) (nI x)) 20 (sS s) = -1 := by rw [rI_ai (by decide), rI_ai (by decide)]; exact v20
      have w14 : ∀ j, rI (wI (wI X0 13 4 (rI X0 13 4 + 1)) 19 (sS s) (nI x)) 14 j = rI μc 14 j := fun j => by rw [rI_ai (by decide), rI_ai (by decide)]; exact v14 j
      generalize hX1 : wI (wI X0 13 4 (rI X0 13 4 + 1)) 19 (sS s) (nI x) = X1 at p2 fc1 w19 w20 w14
      have o7 : ckI B N (tkP B N (i + 2)) = 207 ↔ kK B N (i + 2) = 7 := ck_word (K := 7) (tkP_le (B := B) (N := N) (i + 2)) hb (by omega)
      have y3 : rI μr2 143 3 = nI (sP s) := by rw [f2.i (by unfold PN; omega), f1.i (by unfold PN; omega)]; exact q3
      have y4 : rI μr2 143 4 = nI (sS s) := by rw [f2.i (by unfold PN; omega), f1.i (by unfold PN; omega)]; exact q4
      have s56 : (56 : Int32) + nI (sS s) = nI (56 + sS s) := nI_add 56 _
      have s68 : (68 : Int32) + nI (sS s) = nI (68 + sS s) := nI_add 68 _
      have fin : ∀ (X : Mu) (m : Mu) (j hh : Nat), i + 2 ≤ j → (hh < sP s ∨ hh = 6) → PRx B N M j X m → Fg (Pck (sS s)) μc X → Fg (Prk (sS s)) μr m → rI X 19 (sS s) = nI x → rI X 20 (sS s) = e6 hh → rI X 14 3 = nI (sS s) → rI m 143 4 = nI (sS s) → LNR B N M i s μc μr (jX5_shellLine_136 n X) (jX12_readShell_70 n (nI (sS s)) (nI x) (e6 hh) m) := fun X m j hh hj h6 pX fX fm t1 t2 t3 t4 => by
        unfold jX5_shellLine_136 jX12_readShell_70
        rw [pX.2.2.2, if_pos rfl, s56, s68, ib_n (by omega) (by omega), gd_true, ib_n (by omega) (by omega), gd_true, ix_n (by omega), ix_n (by omega), t3, rI_ii (by omega), rI_ii (by omega), t4, show nI (sS s) + 1 = nI (sS s + 1) from nI_add _ 1]
        have fcE : Fg (Pck (sS s)) μc (wI X 14 3 (nI (sS s + 1))) := fX.w (Or.inr (Or.inr (Or.inr ⟨rfl, rfl⟩))) _
        have frE : Fg (Prk (sS s)) μr (wI (wI (wI m 143 (56 + sS s) (nI x)) 143 (68 + sS s) (e6 hh)) 143 4 (nI (sS s + 1))) := ((fm.w (Or.inr ⟨rfl, Or.inl rfl⟩) _).w (Or.inr ⟨rfl, Or.inr (Or.inl rfl)⟩) _).w (Or.inr ⟨rfl, Or.inr (Or.inr rfl)⟩) _
        refine ⟨1, _, _, rfl, rfl, Or.inl ⟨rfl, ⟨j, sheS s x hh, len, by omega, ⟨(pX.wc (by omega) (by omega)).wr.wr.wr, she_sea hS c8 hx h6 fcE frE ?_ ?_ ?_ ?_ ?_ ?_, by omega, ?_⟩, sheS_0 (by decide)⟩, fcE.mono fun _ _ => Pck_G, frE.mono fun _ _ => Prk_B⟩⟩
        · rw [rI_ai (by decide)]; exact t1
        · rw [rI_ai (by decide)]; exact t2
        · rw [rI_same]
        · rw [rI_ii (by omega), rI_ii (by omega), rI_same]
        · rw [rI_ii (by omega), rI_same]
        · rw [rI_same]
        · rw [sheS_0 (by decide)]; omega
      rw [c_kind hD p2.1, bnd_some]
      by_cases k7 : kK B N (i + 2) = 7
      · obtain ⟨m3, n3, p3, f3⟩ := p2.nx (n := n) (hD.lt p2.1.2.1 (by omega) (by omega)) hn
        have ee : fX12_eats n 7 μr2 = some (1, m3) := r_eats' (K := 7) p2.2 (by omega) hb k7 n3
        have y3' : rI m3 143 3 = nI (sP s) := by rw [f3.i (by unfold PN; omega)]; exact y3
        rw [if_pos (o7.mpr k7), ee, bnd2_some, if_neg (by decide), y3']
        have fc2 : Fg (Pck (sS s)) μc (wI X1 13 4 (rI X1 13 4 + 1)) := fc1.w (Or.inl ⟨rfl, rfl⟩) _
        have fr2 : Fg (Prk (sS s)) μr m3 := fr1.tr (f3.mono fun _ _ q => Or.inl q)
        rcases amt (n := n) (lo := 0) (hi := nI (sP s) - 1) hD p3 (by omega) hn with ⟨y, m4, b1, b2, b3, b4, b5, b6, b7, p4, f4⟩ | ⟨μc', w, μr', b1, b2, b3⟩
        · have b6 : fX5_amount n 0 (nI (sP s) - 1) (wI X1 13 4 (rI X1 13 4 + 1)) = _ := b6
          have b7 : fX12_takes n 0 (nI (sP s) - 1) m3 = some (nI y, m4) := b7
          have hy : y < sP s := (le_sub1 (by omega) b5).mp b4
          rw [b6, bnd2_some, b7, bnd2_some, if_neg (nI_m1 (by omega)), show nI y = e6 y by unfold e6; rw [if_neg (by omega)]]
          refine fin _ m4 (i + 4) y (by omega) (Or.inl hy) (p4.wc (by omega) (by omega)) ((fc2.w (Or.inl ⟨rfl, rfl⟩) _).w (Or.inr (Or.inr (Or.inl ⟨rfl, rfl⟩))) _) (fr2.tr (f4.mono fun _ _ q => Or.inl q)) ?_ ?_ ?_ ?_
          · rw [rI_ai (by decide), rI_ai (by decide), rI_ai (by decide)]; exact w19
          · rw [rI_same]
          · rw [rI_ai (by decide), rI_ai (by decide), rI_ai (by decide), w14]; exact k3
          · rw [f4.i (by unfold PN; omega), f3.i (by unfold PN; omega)]; exact y4
        · have b1 : fX5_amount n 0 (nI (sP s) - 1) (wI X1 13 4 (rI X1 13 4 + 1)) = _ := b1
          have b2 : fX12_takes n 0 (nI (sP s) - 1) m3 = some (w, μr') := b2
          have bb := b3.tr (fc2.mono fun _ _ => Pck_B) (fr2.mono fun _ _ => Prk_B)
          rw [b1, bnd2_some, if_pos rfl, b2, bnd2_some, rk70_W bb.1]
          exact ⟨0, _, _, rfl, rfl, Or.inr ⟨rfl, bb.wc (by omega) (by omega)⟩⟩
      · have en : fX12_eats n 7 μr2 = some (0, μr2) := r_eatsN (K := 7) p2.2 (by omega) hb k7
        rw [if_neg (fun q => k7 (o7.mp q)), en, bnd2_some, if_pos rfl]
        exact fin X1 μr2 (i + 2) 6 (by omega) (Or.inr rfl) p2 fc1 fr1 w19 w20 (by rw [w14]; exact k3) y4
    · have a1 : fX5_amount n 0 (nI (sB s) - 1) X0 = some (-1, μc') := a1
      have a2 : fX12_takes n 0 (nI (sB s) - 1) μr1 = some (w, μr') := a2
      have bb := a3.tr (fc0.mono fun _ _ => Pck_B) (fr0.mono fun _ _ => Prk_B)
      rw [a1, bnd2_some, if_pos rfl, a2, bnd2_some, r_eatsW bb.1, bnd2_some, if_pos rfl, rk70_W bb.1]
      exact ⟨0, _, _, rfl, rfl, Or.inr ⟨rfl, bb.wc (by omega) (by omega)⟩⟩
  · have e8 : sS s = 8 := by omega
    have fl := r_fails (n := n) (x := 4) hP.2 hb
    rw [if_neg (show ¬ kK B N i = 25 by omega)] at fl
    have fl : fX12_fails n 4 μr = some (frI μr B N i 4) := fl
    have wr : rI (frI μr B N i 4) 139 11 ≠ 0 := by unfold frI; rw [rI_ii (by decide), rI_same]; decide
    unfold fX5_shellLine fX12_readShell
    rw [k3, q4, e8, if_neg (by decide), if_pos (show nI 8 = 8 from rfl), c_blame hD hP.1, bnd2_some, fl, bnd_some, rk18_W wr]
    exact ⟨0, fbI μc B N i 4, _, rfl, rfl, Or.inr ⟨rfl, BADf.here (by decide)⟩⟩
theorem l_gale {B : Nat → Nat} {N M i n len : Nat} {s : SD} {μc μr μr1 : Mu} (hD : KD B N M) (h : LSx B N M i s len μc μr) (hi : i < M) (n1 : fX12_next n μr = some μr1) (hn : 1000 < n) : LNR B N M i s μc μr (bnd2 (fX5_amount n 0 99 (wI μc 13 4 ((rI μc 13 4) + 1))) fun u47 m48 => if (rI (wI m48 14 6 u47) 14 6) = (-1) then (some (0, wI m48 14 6 u47)) else (some (1, wI m48 14 6 u47))) (bnd2 (fX12_takes n 0 99 μr1) fun u28 m29 => some (wI m29 143 65 u28)) := by
  obtain ⟨hP, hS, hl, h4⟩ := h
  have hM := hD.2.1
  obtain ⟨m1, n1', p1, f1⟩ := hP.nx (n := n) hi hn
  have em : μr1 = m1 := Option.some.inj (n1.symm.trans n1')
  subst em
  have fc0 : Fg Pcn μc (wI μc 13 4 (rI μc 13 4 + 1)) := (Fg.rfl' _ _).w (Or.inl ⟨rfl, rfl⟩) _
  have fr0 : Fg Prn μr μr1 := f1.mono fun _ _ q => Or.inl q
  rcases amt (n := n) (lo := 0) (hi := 99) hD p1 (by omega) hn with ⟨x, μr2, a1, a2, a3, a4, a5, a6, a7, p2, f2⟩ | ⟨μc', w, μr', a1, a2, a3⟩
  · have a6 : fX5_amount n 0 99 (wI μc 13 4 (rI μc 13 4 + 1)) = _ := a6
    have a7 : fX12_takes n 0 99 μr1 = some (nI x, μr2) := a7
    have hx : x ≤ 99 := (nI_leI (a := x) (b := 99) (by omega) (by omega)).mp a4
    rw [a6, bnd2_some, a7, bnd2_some, rI_same, if_neg (nI_m1 (by omega))]
    have fcE := (fc0.w (x := 13) (j := 4) (Or.inl ⟨rfl, rfl⟩) (rI (wI μc 13 4 (rI μc 13 4 + 1)) 13 4 + 1)).w (x := 14) (j := 6) (Or.inr ⟨rfl, Or.inr (Or.inr rfl)⟩) (nI x)
    have frE := (fr0.tr (f2.mono fun _ _ q => Or.inl q)).w (x := 143) (j := 65) (Or.inr ⟨rfl, Or.inr (Or.inr rfl)⟩) (nI x)
    obtain ⟨⟨a0, b1, b2, b3, b4, b5, b6, b7⟩, -⟩ := hS.2.1
    obtain ⟨⟨d0, d1, d2, d3, d4, d5, d6, d7, d8, d9⟩, -⟩ := hS.2.2
    obtain ⟨v1, v2, v3, v4, v5, v6, v7, v8, v9, v10, v11⟩ := hS.1
    refine ⟨1, _, _, rfl, rfl, Or.inl ⟨rfl, ⟨i + 2, upS s 0 9 x, len, by omega, ⟨(p2.wc (by omega) (by omega)).wr, num_sea hS (fun a j q => ?_) fcE frE ?_ ?_ ?_ ?_ ?_ ?_ ?_ ?_ ?_, by omega, ?_⟩, upS_ni (by decide)⟩, fcE.mono fun _ _ => Pcn_G, frE.mono fun _ _ => Prn_B⟩⟩
    · unfold upS; rw [if_neg (by omega)]
    · rw [upS_ni (by decide), rI_ii (by decide), rI_ai (by decide), rI_ai (by decide)]; exact b4
    · rw [upS_ni (by decide), rI_ii (by decide), rI_ai (by decide), rI_ai (by decide)]; exact b5
    · rw [upS_eq, rI_same]
    · rw [upS_ni (by decide), rI_ii (by decide), f2.i (by unfold PN; omega), f1.i (by unfold PN; omega)]; exact d0
    · rw [upS_ni (by decide), rI_ii (by decide), f2.i (by unfold PN; omega), f1.i (by unfold PN; omega)]; exact d5
    · rw [upS_eq, rI_same]
    · rw [upS_ni (by decide)]; exact v9
    · rw [upS_ni (by decide)]; exact v10
    · rw [upS_eq]; exact hx
    · rw [upS_ni (by decide)]; omega
  · have a1 : fX5_amount n 0 99 (wI μc 13 4 (rI μc 13 4 + 1)) = _ := a1
    have a2 : fX12_takes n 0 99 μr1 = some (w, μr') := a2
    have bb := a3.tr (fc0.mono fun _ _ => Pcn_B) (fr0.mono fun _ _ => Prn_B)
    rw [a1, bnd2_some, rI_same, if_pos rfl, a2, bnd2_some]
    exact ⟨0, _, _, rfl, rfl, Or.inr ⟨rfl, (bb.wc (by omega) (by omega)).wr⟩⟩
theorem l_hour {B : Nat → Nat} {N M i n len : Nat} {s : SD} {μc μr μr1 : Mu} (hD : KD B N M) (h : LSx B N M i s len μc μr) (hi : i < M) (n1 : fX12_next n μr = some μr1) (hn : 1000 < n) : LNR B N M i s μc μr (bnd2 (fX5_amount n 0 999 (wI μc 13 4 ((rI μc 13 4) + 1))) fun u52 m53 => if (rI (wI m53 14 5 u52) 14 5) = (-1) then (some (0, wI m53 14 5 u52)) else (some (1, wI m53 14 5 u52))) (bnd2 (fX12_takes n 0 999 μr1) fun u25 m26 => some (wI m26 143 64 u25)) := by
  obtain ⟨hP, hS, hl, h4⟩ := h
  have hM := hD.2.1
  obtain ⟨m1, n1', p1, f1⟩ := hP.nx (n := n) hi hn
  have em : μr1 = m1 := Option.some.inj (n1.symm.trans n1')
  subst em
  have fc0 : Fg Pcn μc (wI μc 13 4 (rI μc 13 4 + 1)) := (Fg.rfl' _ _).w (Or.inl ⟨rfl, rfl⟩) _
  have fr0 : Fg Prn μr μr1 := f1.mono fun _ _ q => Or.inl q
  rcases amt (n := n) (lo := 0) (hi := 999) hD p1 (by omega) hn with ⟨x, μr2, a1, a2, a3, a4, a5, a6, a7, p2, f2⟩ | ⟨μc', w, μr', a1, a2, a3⟩
  · have a6 : fX5_amount n 0 999 (wI μc 13 4 (rI μc 13 4 + 1)) = _ := a6
    have a7 : fX12_takes n 0 999 μr1 = some (nI x, μr2) := a7
    rw [a6, bnd2_some, a7, bnd2_some, rI_same, if_neg (nI_m1 (by omega))]
    have fcE := (fc0.w (x := 13) (j := 4) (Or.inl ⟨rfl, rfl⟩) (rI (wI μc 13 4 (rI μc 13 4 + 1)) 13 4 + 1)).w (x := 14) (j := 5) (Or.inr ⟨rfl, Or.inr (Or.inl rfl)⟩) (nI x)
    have frE := (fr0.tr (f2.mono fun _ _ q => Or.inl q)).w (x := 143) (j := 64) (Or.inr ⟨rfl, Or.inr (Or.inl rfl)⟩) (nI x)
    obtain ⟨⟨a0, b1, b2, b3, b4, b5, b6, b7⟩, -⟩ := hS.2.1
    obtain ⟨⟨d0, d1, d2, d3, d4, d5, d6, d7, d8, d9⟩, -⟩ := hS.2.2
    obtain ⟨v1, v2, v3, v4, v5, v6, v7, v8, v9, v10, v11⟩ := hS.1
    refine ⟨1, _, _, rfl, rfl, Or.inl ⟨rfl, ⟨i + 2, upS s 0 8 x, len, by omega, ⟨(p2.wc (by omega) (by omega)).wr, num_sea hS (fun a j q => ?_) fcE frE ?_ ?_ ?_ ?_ ?_ ?_ ?_ ?_ ?_, by omega, ?_⟩, upS_ni (by decide)⟩, fcE.mono fun _ _ => Pcn_G, frE.mono fun _ _ => Prn_B⟩⟩
    · unfold upS; rw [if_neg (by omega)]
    · rw [upS_ni (by decide), rI_ii (by decide), rI_ai (by decide), rI_ai (by decide)]; exact b4
    · rw [upS_eq, rI_same]
    · rw [upS_ni (by decide), rI_ii (by decide), rI_ai (by decide), rI_ai (by decide)]; exact b6
    · rw [upS_ni (by decide), rI_ii (by decide), f2.i (by unfold PN; omega), f1.i (by unfold PN; omega)]; exact d0
    · rw [upS_eq, rI_same]
    · rw [upS_ni (by decide), rI_ii (by decide), f2.i (by unfold PN; omega), f1.i (by unfold PN; omega)]; exact d6
    · rw [upS_ni (by decide)]; exact v9
    · rw [upS_eq]; omega
    · rw [upS_ni (by decide)]; exact v11
    · rw [upS_ni (by decide)]; omega
  · have a1 : fX5_amount n 0 999 (wI μc 13 4 (rI μc 13 4 + 1)) = _ := a1
    have a2 : fX12_takes n 0 999 μr1 = some (w, μr') := a2
    have bb := a3.tr (fc0.mono fun _ _ => Pcn_B) (fr0.mono fun _ _ => Prn_B)
    rw [a1, bnd2_some, rI_same, if_pos rfl, a2, bnd2_some]
    exact ⟨0, _, _, rfl, rfl, Or.inr ⟨rfl, (bb.wc (by omega) (by omega)).wr⟩⟩
