/-! THE READER: atoms, units, all of an expression -/
theorem lv_atom {n N M l H x : Nat} {B : Nat → Nat} {Fc : Nat → Int32 → Mu → Option (Int32 × Mu)} {Fr : Nat → Int32 → Mu → Option Mu} (hD : KD B N M) (hl : l < 3) (hn : 1000 < n) (hx : x ≤ 6) (hF : x < 6 → HF B N M l false H (Fc 3 (nI (x + 1))) (Fr 3 (nI (x + 1)))) : HF B N M l false H (bX5_atom n Fc (nI x)) (bX12_readAtom n Fr (nI x)) := by
  intro i len μc μr hX hR hle
  have hM := hD.2.1
  have hb := hD.2.2.1
  have kl := kK_le (i := i) hb
  have hk := c_kind (n := n) hD hX.1
  have tl := tkP_le (B := B) (N := N) i
  have oP : ckI B N (tkP B N i) = 40 ↔ kK B N i = 35 := ck_sign (k := 5) tl hb (by omega)
  have i23 : fX12_is n 23 μr = some (if kK B N i = 23 then 1 else 0) := r_is (x := 23) hR.1 (by omega) hb
  have i35 : fX12_is n 35 μr = some (if kK B N i = 35 then 1 else 0) := r_is (x := 35) hR.1 (by omega) hb
  have r9 : rI μr 139 9 = nI (kK B N i) := hR.1.2.1.2.2.1
  have rw0 := r_wordOf (n := n) (K := kK B N i) hR.2.1 hl (by omega)
  unfold bX5_atom bX12_readAtom
  by_cases e3 : kK B N i = 23
  · -- a number
    have v : rI μr 139 10 = nI (kV B N i) := hR.1.2.1.2.2.2 e3
    obtain ⟨ck1, ck2⟩ := (ck_num tl hb).2 e3
    have ck2 : kV B N i < 1000 := ck2
    have cc : ccO l (kV B N i) = kV B N i := by unfold ccO; rw [if_pos (by omega)]
    obtain ⟨μc', μr1, μr', g1, g2, g3, g4⟩ := atom_good (n := n) (c := kV B N i) hX hR hle (hD.lt hX.1.2.1 (by omega) (by omega)) hM hl hn
    rw [cc] at g1
    refine ⟨1, μc', μr', ?_, ?_, Or.inl ⟨rfl, i + 1, [kV B N i], by omega, Nat.zero_lt_one, Seg.atom (Or.inl ck2) (by omega), g4⟩⟩
    · have lt : ¬ ckI B N (tkP B N i) < 1000 := by
        rcases ck_cases tl hb with ⟨h1, h2⟩ | ⟨h1, h2⟩ | ⟨h1, h0, h2⟩ | ⟨h1, h2⟩ | ⟨h1, h2⟩ | ⟨h1, h0, h2⟩
        · have h1 : kK B N i ≤ 21 := h1
          omega
        · have h1 : kK B N i = 22 := h1
          omega
        · rw [h2]
          intro q
          have := (nI_ltI (a := 1000 + tkV B N (tkP B N i)) (b := 1000) (by omega) (by omega)).mp q
          omega
        · have h1 : kK B N i = 24 := h1
          omega
        · have h1 : kK B N i = 25 := h1
          omega
        · have h1 : 30 ≤ kK B N i := h1
          omega
      have ck1 : ckI B N (tkP B N i) - 1000 = nI (kV B N i) := ck1
      unfold jX5_atom_71
      rw [hk, bnd_some, if_neg (fun q => by have := oP.mp q; omega), bnd_some, if_neg lt, bnd_some, ck1, if_neg (nI_m1 (by omega)), g1, bnd_some]
    · rw [i23, if_pos e3, bnd_some, if_neg (by decide), v, g2, bnd_some, g3, bnd_some]
  · have ckn : ckI B N (tkP B N i) = nI (ckN (kK B N i)) := ck_N tl hb e3
    have lt : ckI B N (tkP B N i) < 1000 := by
      rcases ck_cases tl hb with ⟨h1, h2⟩ | ⟨h1, h2⟩ | ⟨h1, h0, h2⟩ | ⟨h1, h2⟩ | ⟨h1, h2⟩ | ⟨h1, h0, h2⟩
      · have := cls_le _ h1
        rw [h2]; exact (nI_ltI (b := 1000) (by omega) (by omega)).mpr (by omega)
      · rw [h2]; decide
      · exact absurd h1 e3
      · rw [h2]; decide
      · rw [h2]; decide
      · have := sgL_bd (tkK B N (tkP B N i) - 30) (by omega)
        rw [h2]; exact (nI_ltI (b := 1000) (by omega) (by omega)).mpr (by omega)
    have cg := c_givenBy (n := n) (K := kK B N i) hX.2.1 hl (by omega) e3
    by_cases e5 : kK B N i = 35
    · -- a bracket
      have g0 : gW l (kK B N i) = 0 := by
        rcases gW_a l hl (kK B N i) (by omega) with z | z
        · exact z
        · omega
      rcases deeper (n := n) hD hX hR hx (by omega) (by omega) hn with ⟨x6, μrn, d1, d2, d3⟩ | ⟨μc', μr', d1, d2, d3⟩
      · obtain ⟨u, μc1, μr1, f1, f2, f3⟩ := hF x6 (i + 1) len _ _ d3.2.2.1 d3.2.2.2.1 (by omega)
        have x1e : nI x + 1 = nI (x + 1) := nI_add x 1
        rcases f3 with ⟨fu, i', ds, p1, p2, p3, p4⟩ | ⟨fu, hbd⟩
        · have a : ACC B N M l i len i' ds μc μr μc1 μr1 := d3.app p4 p2
          have oC : ckI B N (tkP B N i') = 41 ↔ kK B N i' = 36 := ck_sign (k := 6) (tkP_le (B := B) (N := N) i') hb (by omega)
          rcases closes (n := n) hD a oC (by omega) (by omega) (by omega) hn with ⟨μr2, k1, k2, k3⟩ | ⟨μc2, μr2, k1, k2, k3, k4⟩
          · have k2 : fX12_eats n 36 μr1 = some (1, μr2) := k2
            refine ⟨1, _, μr2, ?_, ?_, Or.inl ⟨rfl, i' + 1, ds, by omega, p2, p3, k3⟩⟩
            · rw [hk, bnd_some, if_pos (oP.mpr e5), d1, bnd2_some, if_neg (by decide), x1e, f1, bnd2_some, fu, if_neg (by decide), k1, bnd2_some, if_neg (by decide)]
            · unfold jX12_readAtom_66
              rw [i23, if_neg e3, bnd_some, if_pos rfl, hR.1.2.2, if_pos rfl, r9, rw0, if_pos g0, bnd_some, if_pos rfl, i35, if_pos e5, bnd_some, if_neg (by decide), d2, bnd2_some, if_neg (by decide), x1e, f2, bnd_some, k2, bnd2_some, if_neg (by decide)]
          · have k2 : fX12_eats n 36 μr1 = some (0, μr1) := k2
            refine ⟨0, μc2, μr2, ?_, ?_, Or.inr ⟨rfl, k4⟩⟩
            · rw [hk, bnd_some, if_pos (oP.mpr e5), d1, bnd2_some, if_neg (by decide), x1e, f1, bnd2_some, fu, if_neg (by decide), k1, bnd2_some, if_pos rfl]
            · unfold jX12_readAtom_66
              rw [i23, if_neg e3, bnd_some, if_pos rfl, hR.1.2.2, if_pos rfl, r9, rw0, if_pos g0, bnd_some, if_pos rfl, i35, if_pos e5, bnd_some, if_neg (by decide), d2, bnd2_some, if_neg (by decide), x1e, f2, bnd_some, k2, bnd2_some, if_pos rfl, k3, bnd_some]
        · refine ⟨0, μc1, μr1, ?_, ?_, Or.inr ⟨rfl, d3.bad hbd⟩⟩
          · rw [hk, bnd_some, if_pos (oP.mpr e5), d1, bnd2_some, if_neg (by decide), x1e, f1, bnd2_some, if_pos fu]
          · unfold jX12_readAtom_66
            rw [i23, if_neg e3, bnd_some, if_pos rfl, hR.1.2.2, if_pos rfl, r9, rw0, if_pos g0, bnd_some, if_pos rfl, i35, if_pos e5, bnd_some, if_neg (by decide), d2, bnd2_some, if_neg (by decide), x1e, f2, bnd_some, r_eatsW hbd.1, bnd2_some, if_pos rfl, r_failsW hbd.1, bnd_some]
      · refine ⟨0, μc', μr', ?_, ?_, Or.inr ⟨rfl, d3⟩⟩
        · rw [hk, bnd_some, if_pos (oP.mpr e5), d1, bnd2_some, if_pos rfl]
        · unfold jX12_readAtom_66
          rw [i23, if_neg e3, bnd_some, if_pos rfl, hR.1.2.2, if_pos rfl, r9, rw0, if_pos g0, bnd_some, if_pos rfl, i35, if_pos e5, bnd_some, if_neg (by decide), d2, bnd2_some, if_pos rfl]
    · by_cases g0 : gW l (kK B N i) = 0
      · -- no atom
        refine ⟨0, fbI μc B N i (if kK B N i = 25 then 1 else 2), frI μr B N i (if kK B N i = 25 then 1 else 2), ?_, ?_, Or.inr ⟨rfl, bad_here (M := M) (by split <;> decide) (Fg.rfl' _ _) (Fg.rfl' _ _)⟩⟩
        · unfold jX5_atom_71
          rw [hk, bnd_some, if_neg (fun q => e5 (oP.mp q)), bnd_some, if_pos lt, bnd_some, ckn, cg, if_pos g0, bnd_some, if_pos rfl, c_refuse hD hX.1, bnd2_some]; rfl
        · unfold jX12_readAtom_66
          rw [i23, if_neg e3, bnd_some, if_pos rfl, hR.1.2.2, if_pos rfl, r9, rw0, if_pos g0, bnd_some, if_pos rfl, i35, if_neg e5, bnd_some, if_pos rfl, r_fails hR.1 hb, bnd_some]; rfl
      · obtain ⟨aw, a3⟩ := gW_alw hl (show kK B N i < 42 by omega) g0
        have gl := gW_c l hl (kK B N i) (by omega)
        have ga : 1000 ≤ gW l (kK B N i) := by
          rcases gW_a l hl (kK B N i) (by omega) with z | z
          · exact absurd z g0
          · exact z.1
        have k21 : kK B N i ≤ 21 := by
          rcases gW_a l hl (kK B N i) (by omega) with z | z
          · exact absurd z g0
          · exact z.2.2
        obtain ⟨μc', μr1, μr', g1, g2, g3, g4⟩ := atom_good (n := n) (c := gW l (kK B N i)) hX hR hle (hD.lt hX.1.2.1 (by omega) (by omega)) hM hl hn
        refine ⟨1, μc', μr', ?_, ?_, Or.inl ⟨rfl, i + 1, [gW l (kK B N i)], by omega, Nat.zero_lt_one, Seg.atom aw a3, g4⟩⟩
        · unfold jX5_atom_71
          rw [hk, bnd_some, if_neg (fun q => e5 (oP.mp q)), bnd_some, if_pos lt, bnd_some, ckn, cg, if_neg g0, bnd_some, if_neg (nI_m1 (by omega)), g1, bnd_some]
        · rw [i23, if_neg e3, bnd_some, if_pos rfl, hR.1.2.2, if_pos rfl, r9, rw0, if_neg g0, bnd_some, if_neg (nI_m1 (by omega)), bnd_some, show (1000 : Int32) + nI (gW l (kK B N i) - 1000) = nI (gW l (kK B N i)) from (nI_add 1000 _).trans (congrArg nI (by omega)), g2, bnd_some, g3, bnd_some]
