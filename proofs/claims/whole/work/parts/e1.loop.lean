/-! THE LAW: its loop -/
theorem wv (x : Int32) : ∃ m, m < 64 ∧ x &&& 63 = nI m := by
  have hv : (x.toBitVec &&& 63#32).toNat < 64 := by
    rw [BitVec.toNat_and]
    exact Nat.lt_of_le_of_lt Nat.and_le_right (by decide)
  refine ⟨(x.toBitVec &&& 63#32).toNat, hv, ?_⟩
  refine Int32.toBitVec_inj.mp ?_
  rw [Int32.toBitVec_and]
  show _ = BitVec.ofNat 32 _
  rw [BitVec.ofNat_toNat]
  rfl
theorem law_end {L j : Nat} (hL : L ≤ 3072) (h : ¬ (nI L - 6 < nI (6 * j))) (hj : j ≤ 600) : 6 * j + 6 ≤ L := by
  refine Classical.byContradiction fun q => h ?_
  by_cases c : 6 ≤ L
  · have e : nI L - 6 = nI (L - 6) := pk_sub (show 6 ≤ L by omega)
    rw [e]
    exact (nI_ltI (by omega) (by omega)).mpr (by omega)
  · have z : ∀ L, L < 6 → nI L - 6 < 0 := by decide
    exact Int32.lt_of_lt_of_le (z L (by omega)) (nI_pos' (by omega))
set_option maxRecDepth 100000 in
set_option maxHeartbeats 8000000 in
theorem law_sw {Z : ZC} {b L j c s : Nat} {xs : Nat → Int32} {sh : List Sh} {R : Rf} {μ : Mu} (hW : LW Z b L xs) (hI : INV j sh R μ) (hY : LY sh R) (hq : 6 * j + 6 ≤ L) (hc : c + 19 ≤ 600000) (hs : s + 1107 ≤ 7302250) (kk : LN Z b j c s) (m : Nat) (hm : m < 64) : Wm Z (c, s, sh, R) μ 33 (LV Z b (6 * j)) [.int (nI m)] := by
  have C := hW.1
  match m, hm with
  | 0, _ => exact r_tabIn (x := nI 0) (off := 207) 240 C dL_law_33 (by decide) (by decide) rfl (by decide) (lc0 hW hI hY hq hc hs kk)
  | 1, _ => exact r_tabIn (x := nI 1) (off := 270) 303 C dL_law_33 (by decide) (by decide) rfl (by decide) (lc1 hW hI hY hq hc hs kk)
  | 2, _ => exact r_tabIn (x := nI 2) (off := 293) 326 C dL_law_33 (by decide) (by decide) rfl (by decide) (lc2 hW hI hY hq hc hs kk)
  | 3, _ => exact r_tabIn (x := nI 3) (off := 316) 349 C dL_law_33 (by decide) (by decide) rfl (by decide) (lc3 hW hI hY hq hc hs kk)
  | 4, _ => exact r_tabIn (x := nI 4) (off := 349) 382 C dL_law_33 (by decide) (by decide) rfl (by decide) (lc4 hW hI hY hq hc hs kk)
  | 5, _ => exact r_tabIn (x := nI 5) (off := 382) 415 C dL_law_33 (by decide) (by decide) rfl (by decide) (lc5 hW hI hY hq hc hs kk)
  | 6, _ => exact r_tabIn (x := nI 6) (off := 415) 448 C dL_law_33 (by decide) (by decide) rfl (by decide) (lc6 hW hI hY hq hc hs kk)
  | 7, _ => exact r_tabIn (x := nI 7) (off := 448) 481 C dL_law_33 (by decide) (by decide) rfl (by decide) (lc7 hW hI hY hq hc hs kk)
  | 8, _ => exact r_tabIn (x := nI 8) (off := 481) 514 C dL_law_33 (by decide) (by decide) rfl (by decide) (lc8 hW hI hY hq hc hs kk)
  | 9, _ => exact r_tabIn (x := nI 9) (off := 504) 537 C dL_law_33 (by decide) (by decide) rfl (by decide) (lc9 hW hI hY hq hc hs kk)
  | 10, _ => exact r_tabIn (x := nI 10) (off := 527) 560 C dL_law_33 (by decide) (by decide) rfl (by decide) (lc10 hW hI hY hq hc hs kk)
  | 11, _ => exact r_tabIn (x := nI 11) (off := 560) 593 C dL_law_33 (by decide) (by decide) rfl (by decide) (lc11 hW hI hY hq hc hs kk)
  | 12, _ => exact r_tabIn (x := nI 12) (off := 583) 616 C dL_law_33 (by decide) (by decide) rfl (by decide) (lc12 hW hI hY hq hc hs kk)
  | 13, _ => exact r_tabIn (x := nI 13) (off := 606) 639 C dL_law_33 (by decide) (by decide) rfl (by decide) (lc13 hW hI hY hq hc hs kk)
  | 14, _ => exact r_tabIn (x := nI 14) (off := 629) 662 C dL_law_33 (by decide) (by decide) rfl (by decide) (lc14 hW hI hY hq hc hs kk)
  | 15, _ => exact r_tabIn (x := nI 15) (off := 652) 685 C dL_law_33 (by decide) (by decide) rfl (by decide) (lc15 hW hI hY hq hc hs kk)
  | 16, _ => exact r_tabIn (x := nI 16) (off := 685) 718 C dL_law_33 (by decide) (by decide) rfl (by decide) (lc16 hW hI hY hq hc hs kk)
  | 17, _ => exact r_tabIn (x := nI 17) (off := 708) 741 C dL_law_33 (by decide) (by decide) rfl (by decide) (lc17 hW hI hY hq hc hs kk)
  | 18, _ => exact r_tabIn (x := nI 18) (off := 741) 774 C dL_law_33 (by decide) (by decide) rfl (by decide) (lc18 hW hI hY hq hc hs kk)
  | 19, _ => exact r_tabIn (x := nI 19) (off := 774) 807 C dL_law_33 (by decide) (by decide) rfl (by decide) (lc19 hW hI hY hq hc hs kk)
  | 20, _ => exact r_tabIn (x := nI 20) (off := 807) 840 C dL_law_33 (by decide) (by decide) rfl (by decide) (lc20 hW hI hY hq hc hs kk)
  | 21, _ => exact r_tabIn (x := nI 21) (off := 840) 873 C dL_law_33 (by decide) (by decide) rfl (by decide) (lc21 hW hI hY hq hc hs kk)
  | 22, _ => exact r_tabIn (x := nI 22) (off := 863) 896 C dL_law_33 (by decide) (by decide) rfl (by decide) (lc22 hW hI hY hq hc hs kk)
  | 23, _ => exact r_tabIn (x := nI 23) (off := 906) 939 C dL_law_33 (by decide) (by decide) rfl (by decide) (lc23 hW hI hY hq hc hs kk)
  | 24, _ => exact r_tabIn (x := nI 24) (off := 939) 972 C dL_law_33 (by decide) (by decide) rfl (by decide) (lc24 hW hI hY hq hc hs kk)
  | 25, _ => exact r_tabIn (x := nI 25) (off := 972) 1005 C dL_law_33 (by decide) (by decide) rfl (by decide) (lc25 hW hI hY hq hc hs kk)
  | 26, _ => exact r_tabIn (x := nI 26) (off := 1015) 1048 C dL_law_33 (by decide) (by decide) rfl (by decide) (lc26 hW hI hY hq hc hs kk)
  | 27, _ => exact r_tabIn (x := nI 27) (off := 1038) 1071 C dL_law_33 (by decide) (by decide) rfl (by decide) (lc27 hW hI hY hq hc hs kk)
  | 28, _ => exact r_tabIn (x := nI 28) (off := 1091) 1124 C dL_law_33 (by decide) (by decide) rfl (by decide) (lc28 hW hI hY hq hc hs kk)
  | 29, _ => exact r_tabIn (x := nI 29) (off := 1144) 1177 C dL_law_33 (by decide) (by decide) rfl (by decide) (lc29 hW hI hY hq hc hs kk)
  | 30, _ => exact r_tabIn (x := nI 30) (off := 1177) 1210 C dL_law_33 (by decide) (by decide) rfl (by decide) (lc30 hW hI hY hq hc hs kk)
  | 31, _ => exact r_tabIn (x := nI 31) (off := 1220) 1253 C dL_law_33 (by decide) (by decide) rfl (by decide) (lc31 hW hI hY hq hc hs kk)
  | 32, _ => exact r_tabIn (x := nI 32) (off := 1243) 1276 C dL_law_33 (by decide) (by decide) rfl (by decide) (lc32 hW hI hY hq hc hs kk)
  | 33, _ => exact r_tabIn (x := nI 33) (off := 1266) 1299 C dL_law_33 (by decide) (by decide) rfl (by decide) (lc33 hW hI hY hq hc hs kk)
  | 34, _ => exact r_tabIn (x := nI 34) (off := 1279) 1312 C dL_law_33 (by decide) (by decide) rfl (by decide) (lc34 hW hI hY hq hc hs kk)
  | 35, _ => exact r_tabIn (x := nI 35) (off := 1312) 1345 C dL_law_33 (by decide) (by decide) rfl (by decide) (lc35 hW hI hY hq hc hs kk)
  | 36, _ => exact r_tabIn (x := nI 36) (off := 1325) 1358 C dL_law_33 (by decide) (by decide) rfl (by decide) (lc36 hW hI hY hq hc hs kk)
  | 37, _ => exact r_tabIn (x := nI 37) (off := 1348) 1381 C dL_law_33 (by decide) (by decide) rfl (by decide) (lc37 hW hI hY hq hc hs kk)
  | 38, _ => exact r_tabIn (x := nI 38) (off := 1381) 1414 C dL_law_33 (by decide) (by decide) rfl (by decide) (lc38 hW hI hY hq hc hs kk)
  | 39, _ => exact r_tabIn (x := nI 39) (off := 1404) 1437 C dL_law_33 (by decide) (by decide) rfl (by decide) (lc39 hW hI hY hq hc hs kk)
  | 40, _ => exact r_tabIn (x := nI 40) (off := 1427) 1460 C dL_law_33 (by decide) (by decide) rfl (by decide) (lc40 hW hI hY hq hc hs kk)
  | 41, _ => exact r_tabIn (x := nI 41) (off := 1460) 1493 C dL_law_33 (by decide) (by decide) rfl (by decide) (lc41 hW hI hY hq hc hs kk)
  | 42, _ => exact r_tabIn (x := nI 42) (off := 1483) 1516 C dL_law_33 (by decide) (by decide) rfl (by decide) (lc42 hW hI hY hq hc hs kk)
  | 43, _ => exact r_tabIn (x := nI 43) (off := 1526) 1559 C dL_law_33 (by decide) (by decide) rfl (by decide) (lc43 hW hI hY hq hc hs kk)
  | 44, _ => exact r_tabIn (x := nI 44) (off := 1600) 1633 C dL_law_33 (by decide) (by decide) rfl (by decide) (lc44 hW hI hY hq hc hs kk)
  | 45, _ => exact r_tabIn (x := nI 45) (off := 1633) 1666 C dL_law_33 (by decide) (by decide) rfl (by decide) (lc45 hW hI hY hq hc hs kk)
  | 46, _ => exact r_tabIn (x := nI 46) (off := 1656) 1689 C dL_law_33 (by decide) (by decide) rfl (by decide) (lc46 hW hI hY hq hc hs kk)
  | 47, _ => exact r_tabIn (x := nI 47) (off := 1679) 1712 C dL_law_33 (by decide) (by decide) rfl (by decide) (lc47 hW hI hY hq hc hs kk)
  | 48, _ => exact r_tabOut (x := nI 48) 1735 C dL_law_33 (Or.inr (by decide)) (by decide) (kk c s sh R μ (by omega) (by omega) hI.mono hY)
  | 49, _ => exact r_tabOut (x := nI 49) 1735 C dL_law_33 (Or.inr (by decide)) (by decide) (kk c s sh R μ (by omega) (by omega) hI.mono hY)
  | 50, _ => exact r_tabOut (x := nI 50) 1735 C dL_law_33 (Or.inr (by decide)) (by decide) (kk c s sh R μ (by omega) (by omega) hI.mono hY)
  | 51, _ => exact r_tabOut (x := nI 51) 1735 C dL_law_33 (Or.inr (by decide)) (by decide) (kk c s sh R μ (by omega) (by omega) hI.mono hY)
  | 52, _ => exact r_tabOut (x := nI 52) 1735 C dL_law_33 (Or.inr (by decide)) (by decide) (kk c s sh R μ (by omega) (by omega) hI.mono hY)
  | 53, _ => exact r_tabOut (x := nI 53) 1735 C dL_law_33 (Or.inr (by decide)) (by decide) (kk c s sh R μ (by omega) (by omega) hI.mono hY)
  | 54, _ => exact r_tabOut (x := nI 54) 1735 C dL_law_33 (Or.inr (by decide)) (by decide) (kk c s sh R μ (by omega) (by omega) hI.mono hY)
  | 55, _ => exact r_tabOut (x := nI 55) 1735 C dL_law_33 (Or.inr (by decide)) (by decide) (kk c s sh R μ (by omega) (by omega) hI.mono hY)
  | 56, _ => exact r_tabOut (x := nI 56) 1735 C dL_law_33 (Or.inr (by decide)) (by decide) (kk c s sh R μ (by omega) (by omega) hI.mono hY)
  | 57, _ => exact r_tabOut (x := nI 57) 1735 C dL_law_33 (Or.inr (by decide)) (by decide) (kk c s sh R μ (by omega) (by omega) hI.mono hY)
  | 58, _ => exact r_tabOut (x := nI 58) 1735 C dL_law_33 (Or.inr (by decide)) (by decide) (kk c s sh R μ (by omega) (by omega) hI.mono hY)
  | 59, _ => exact r_tabOut (x := nI 59) 1735 C dL_law_33 (Or.inr (by decide)) (by decide) (kk c s sh R μ (by omega) (by omega) hI.mono hY)
  | 60, _ => exact r_tabOut (x := nI 60) 1735 C dL_law_33 (Or.inr (by decide)) (by decide) (kk c s sh R μ (by omega) (by omega) hI.mono hY)
  | 61, _ => exact r_tabOut (x := nI 61) 1735 C dL_law_33 (Or.inr (by decide)) (by decide) (kk c s sh R μ (by omega) (by omega) hI.mono hY)
  | 62, _ => exact r_tabOut (x := nI 62) 1735 C dL_law_33 (Or.inr (by decide)) (by decide) (kk c s sh R μ (by omega) (by omega) hI.mono hY)
  | 63, _ => exact r_tabOut (x := nI 63) 1735 C dL_law_33 (Or.inr (by decide)) (by decide) (kk c s sh R μ (by omega) (by omega) hI.mono hY)
  | m + 64, h => exact absurd h (by omega)
set_option maxRecDepth 100000 in
set_option maxHeartbeats 4000000 in
theorem law_loop {Z : ZC} {b L : Nat} {xs : Nat → Int32} (hW : LW Z b L xs) (hfin : ∀ (c s : Nat) (sh : List Sh) (R : Rf) (μ : Mu) (lv : List (Nat × Value)), c ≤ 600000 → s ≤ 7302250 → Wm Z (c, s, sh, R) μ 1741 lv []) : ∀ f j c s sh R μ, L ≤ 6 * j + 6 * f → INV j sh R μ → LY sh R → j ≤ 513 → c ≤ 155 + 19 * j → s ≤ 19694 + 1107 * j → Wm Z (c, s, sh, R) μ 18 (LV Z b (6 * j)) [] := by
  obtain ⟨C, hRm, hX, hbl, hbA, hL⟩ := id hW
  intro f
  induction f with
  | zero =>
    intro j c s sh R μ hf hI hY hj hc hs
    refine r_iload_n C dL_law_18 0 rfl ?_
    refine r_aload_n C dL_law_19 3 rfl ?_
    refine r_xlen hX hbl hbA C dL_law_20 ?_
    refine r_bipush (v := 6) C dL_law_21 (by decide) ?_
    refine r_isub C dL_law_23 ?_
    refine r_icmp_gt 1741 C dL_law_24 (by decide) (fun _ => ?_) (fun h => ?_)
    · exact hfin c s sh R μ _ (by omega) (by omega)
    · have := law_end hL h (by omega); omega
  | succ f ih =>
    intro j c s sh R μ hf hI hY hj hc hs
    refine r_iload_n C dL_law_18 0 rfl ?_
    refine r_aload_n C dL_law_19 3 rfl ?_
    refine r_xlen hX hbl hbA C dL_law_20 ?_
    refine r_bipush (v := 6) C dL_law_21 (by decide) ?_
    refine r_isub C dL_law_23 ?_
    refine r_icmp_gt 1741 C dL_law_24 (by decide) (fun _ => ?_) (fun h => ?_)
    · exact hfin c s sh R μ _ (by omega) (by omega)
    · have hq := law_end hL h (by omega)
      refine r_aload_n C dL_law_27 3 rfl ?_
      refine r_iload_n C dL_law_28 0 rfl ?_
      refine r_xld (q := 6 * j) hX hbl hbA C dL_law_29 rfl (by omega) hL ?_
      refine r_bipush (v := 63) C dL_law_30 (by decide) ?_
      refine r_iand C dL_law_32 ?_
      obtain ⟨m, hm, e⟩ := wv (xs (6 * j))
      rw [e]
      refine law_sw hW hI hY hq (by omega) (by omega) (fun c' s' sh' R' μ' h1 h2 h3 h4 => ?_) m hm
      refine r_iinc (v := nI (6 * (j + 1))) (LV Z b (6 * (j + 1))) C dL_law_1735 0 rfl ((in_6 _).trans (nI_add (6 * j) 6)) (by decide) rfl ?_
      refine r_goto 18 C dL_law_1738 (by decide) ?_
      exact ih (j + 1) c' s' sh' R' μ' (by omega) h3 h4 (by omega) (by omega) (by omega)
set_option maxRecDepth 100000 in
set_option maxHeartbeats 4000000 in
/-- from the entry -/
theorem law_walk {Z : ZC} {b L : Nat} {xs : Nat → Int32} (hW : LW Z b L xs) (hfin : ∀ (c s : Nat) (sh : List Sh) (R : Rf) (μ : Mu) (lv : List (Nat × Value)), c ≤ 600000 → s ≤ 7302250 → Wm Z (c, s, sh, R) μ 1741 lv []) : Wm Z (0, 0, TE.1, TE.2.1) TE.2.2 0 [(0, .ref b)] [] := by
  obtain ⟨C, hRm, hX, hbl, hbA, hL⟩ := id hW
  refine q_new (T := TE) (k := 0) rfl C kc11 tyX11_ok df11 clL_7 in11 ii11 dL_law_0 (by rw [hRm]; exact ⟨nle rfl, nle rfl⟩) ?_
  refine r_dup C dL_law_3 rfl ?_
  refine r_callI (a := 0) (As := []) (rest := [.ref (wb (zw Z) + 0)]) C mlL_9 wmX11_init wiX11_init wcX11_init wdX11_init rfl dL_law_4 mX11_init rfl rfl (by rw [hRm]; exact ⟨nle rfl, nle rfl⟩) (by rw [hRm]; exact ⟨nle rfl, nle rfl⟩) (nle rfl) ?_
  show Wm Z (139, 8507, TS91.1, TS91.2.1) TS91.2.2 7 [(0, .ref b)] [.ref (wb (zw Z) + 0)]
  refine r_astore_n [(1, .ref (wb (zw Z) + 0)), (0, .ref b)] C dL_law_7 rfl (by decide) rfl ?_
  refine q_new (T := TS91) (k := 139) (by decide +kernel) C kc12 tyX12_ok df12 clL_10 in12 ii12 dL_law_8 (by rw [hRm]; exact ⟨nle rfl, nle rfl⟩) ?_
  refine r_dup C dL_law_11 rfl ?_
  obtain ⟨μ, g1, g2⟩ := start_INV (n := 5001) (by decide)
  refine r_callI (a := 139) (As := []) (rest := [.ref (wb (zw Z) + 139)]) C mlL_12 wmX12_init wiX12_init wcX12_init wdX12_init rfl dL_law_12 (mX12_init g1) rfl rfl (by rw [hRm]; exact ⟨nle rfl, nle rfl⟩) (by rw [hRm]; exact ⟨nle rfl, nle rfl⟩) (nle rfl) ?_
  show Wm Z (155, 19694, TS127.1, TS127.2.1) μ 15 [(1, .ref (wb (zw Z) + 0)), (0, .ref b)] [.ref (wb (zw Z) + 139)]
  refine r_astore_n [(2, .ref (wb (zw Z) + 139)), (1, .ref (wb (zw Z) + 0)), (0, .ref b)] C dL_law_15 rfl (by decide) rfl ?_
  refine r_iconst C dL_law_16 ic_0 ?_
  refine r_istore_n (LV Z b (6 * 0)) C dL_law_17 rfl (by decide) rfl ?_
  exact law_loop hW hfin 512 0 155 19694 _ _ μ (by omega) g2 LYx (by omega) (by omega) (by omega)

