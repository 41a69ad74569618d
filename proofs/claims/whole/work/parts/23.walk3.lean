def fX11_sea (n : Nat) (x1 : Int32) (μ : Mu) : Option (Int32 × Mu) := if x1 < 0 then (some ((-3), μ)) else (if x1 ≤ (rI μ 0 1) then (bnd2 (fX5_read n x1 (wI μ 0 1 0)) fun u4 m5 => if u4 = 0 then (some ((-30) - (rI (wI (wI m5 0 2 (rI m5 13 1)) 0 3 (rI (wI m5 0 2 (rI m5 13 1)) 13 2)) 0 2), wI (wI m5 0 2 (rI m5 13 1)) 0 3 (rI (wI m5 0 2 (rI m5 13 1)) 13 2))) else (bnd (fX7_copyFrom n 2 14 (wI (wI m5 0 2 (rI m5 13 1)) 0 3 (rI (wI m5 0 2 (rI m5 13 1)) 13 2))) fun m8 => bnd (fX6_forget n m8) fun m10 => bnd (fX8_begin n 34 2 m10) fun m12 => bnd (fX1_forget n m12) fun m14 => some (rI m14 2 4, m14))) else (some ((-3), μ)))
set_option maxRecDepth 100000 in
set_option maxHeartbeats 4000000 in
theorem tX11_sea {l : Launch} {w : WP} {sh : List Sh} {R : Rf} {μ : Mu} {r : Int32} {μ' : Mu} (hY : LY sh R) (n : Nat) (x1 : Int32)  (h : fX11_sea n x1 μ = some (r, μ')) : CM l w yX11_sea cX11_sea 3 (some .int) 66 0 0 sh R [.ref (wb w + 0), .int x1] μ (some (.int r)) sh R μ' := by
  refine CM.of (plainFor_of_name pf_X11) (Nat.le_of_ble_eq_true rfl) fun Z C hr _ hR hw hl hE => ?_
  subst hw; subst hl
  have C : CX Z cX11_sea 3 RX11 := C
  show Wm Z (0, 0, sh, R) μ 0 [(0, .ref (wb (zw Z) + 0)), (1, .int x1)] []
  unfold fX11_sea at h
  refine r_iload_n C dX11_sea_0 1 rfl ?_
  refine r_if_lt 12 C dX11_sea_1 (by decide) (fun c1 => ?_) (fun c1 => ?_)
  · have h := (ite_inv h).1 c1
    refine r_bipush C dX11_sea_12 bp_m3 ?_
    obtain ⟨h1, h2⟩ := Prod.mk.inj (Option.some.inj h)
    subst h1; subst h2
    exact r_iret C dX11_sea_14 hr hE
  · have h := (ite_inv h).2 c1
    refine r_iload_n C dX11_sea_4 1 rfl ?_
    refine r_aload_n C dX11_sea_5 0 rfl ?_
    refine r_getI C flX11_13 dX11_sea_6 (ly0 hY) rfl ?_
    refine r_icmp_le 15 C dX11_sea_9 (by decide) (fun c2 => ?_) (fun c2 => ?_)
    · have h := (ite_inv h).1 c2
      refine r_aload_n C dX11_sea_15 0 rfl ?_
      refine r_iconst C dX11_sea_16 ic_0 ?_
      refine r_putI C fiX11_13 dX11_sea_17 (ly0 hY) ?_
      refine r_aload_n C dX11_sea_20 0 rfl ?_
      refine r_getR C flX11_33 dX11_sea_21 (ly0 hY) rfl (lr0_5 hY) ?_
      refine r_aload_n C dX11_sea_24 0 rfl ?_
      refine r_getR C flX11_9 dX11_sea_25 (ly0 hY) rfl (lr0_0 hY) ?_
      refine r_iload_n C dX11_sea_28 1 rfl ?_
      obtain ⟨u4, m5, e3, h⟩ := bnd2_inv h
      refine r_cVi (As := [.ref (wb (zw Z) + 1), .int x1]) (rest := []) C hR mlX11_100 dX11_sea_29 (tX5_read hY n x1  e3) rfl rfl (ly13 hY) rfl (nle rfl) (nle rfl) (nle rfl) ?_
      refine r_istore_n [(2, .int u4), (0, .ref (wb (zw Z) + 0)), (1, .int x1)] C dX11_sea_32 rfl (by decide) rfl ?_
      refine r_aload_n C dX11_sea_33 1 rfl ?_
      refine r_aload_n C dX11_sea_34 1 rfl ?_
      refine r_getR C flX11_33 dX11_sea_35 (ly0 hY) rfl (lr0_5 hY) ?_
      refine r_getI C flX11_104 dX11_sea_38 (ly13 hY) rfl ?_
      refine r_putI C fiX11_17 dX11_sea_41 (ly0 hY) ?_
      refine r_aload_n C dX11_sea_44 1 rfl ?_
      refine r_aload_n C dX11_sea_45 1 rfl ?_
      refine r_getR C flX11_33 dX11_sea_46 (ly0 hY) rfl (lr0_5 hY) ?_
      refine r_getI C flX11_107 dX11_sea_49 (ly13 hY) rfl ?_
      refine r_putI C fiX11_20 dX11_sea_52 (ly0 hY) ?_
      refine r_iload_n C dX11_sea_55 0 rfl ?_
      refine r_if_ne 67 C dX11_sea_56 (by decide) (fun c6 => ?_) (fun c6 => ?_)
      · have h := (ite_inv h).2 c6
        refine r_aload_n C dX11_sea_67 1 rfl ?_
        refine r_getR C flX11_26 dX11_sea_68 (ly0 hY) rfl (lr0_4 hY) ?_
        refine r_aload_n C dX11_sea_71 1 rfl ?_
        refine r_getR C flX11_33 dX11_sea_72 (ly0 hY) rfl (lr0_5 hY) ?_
        refine r_getR C flX11_110 dX11_sea_75 (ly13 hY) rfl (lr13_0 hY) ?_
        obtain ⟨m8, e7, h⟩ := bnd_inv h
        refine r_cVv (As := [.ref (wb (zw Z) + 14)]) (rest := []) C hR mlX11_111 dX11_sea_78 (tX7_copyFrom hY n 2 14 (lySea hY) (lyRSea hY) e7) rfl rfl (isSea_0 (lySea hY)) rfl (nle rfl) (nle rfl) (nle rfl) ?_
        refine r_aload_n C dX11_sea_81 1 rfl ?_
        refine r_getR C flX11_42 dX11_sea_82 (ly0 hY) rfl (lr0_6 hY) ?_
        obtain ⟨m10, e9, h⟩ := bnd_inv h
        refine r_cVv (As := []) (rest := []) C hR mlX11_114 dX11_sea_85 (tX6_forget hY n  e9) rfl rfl (ly28 hY) rfl (nle rfl) (nle rfl) (nle rfl) ?_
        refine r_aload_n C dX11_sea_88 1 rfl ?_
        refine r_getR C flX11_49 dX11_sea_89 (ly0 hY) rfl (lr0_7 hY) ?_
        refine r_aload_n C dX11_sea_92 1 rfl ?_
        refine r_getR C flX11_26 dX11_sea_93 (ly0 hY) rfl (lr0_4 hY) ?_
        obtain ⟨m12, e11, h⟩ := bnd_inv h
        refine r_cVv (As := [.ref (wb (zw Z) + 2)]) (rest := []) C hR mlX11_117 dX11_sea_96 (tX8_begin hY n 34 2 (lyNow hY) (lySea hY) e11) rfl rfl (isSt_0 (lyNow hY)) rfl (nle rfl) (nle rfl) (nle rfl) ?_
        refine r_aload_n C dX11_sea_99 1 rfl ?_
        refine r_getR C flX11_59 dX11_sea_100 (ly0 hY) rfl (lr0_9 hY) ?_
        obtain ⟨m14, e13, h⟩ := bnd_inv h
        refine r_cVv (As := []) (rest := []) C hR mlX11_120 dX11_sea_103 (tX1_forget hY n  e13) rfl rfl (ly48 hY) rfl (nle rfl) (nle rfl) (nle rfl) ?_
        refine r_aload_n C dX11_sea_106 1 rfl ?_
        refine r_getR C flX11_26 dX11_sea_107 (ly0 hY) rfl (lr0_4 hY) ?_
        refine r_getI C flX11_121 dX11_sea_110 (isSea_0 (lySea hY)) rfl ?_
        obtain ⟨h1, h2⟩ := Prod.mk.inj (Option.some.inj h)
        subst h1; subst h2
        exact r_iret C dX11_sea_113 hr hE
      · have h := (ite_inv h).1 c6
        refine r_bipush C dX11_sea_59 bp_m30 ?_
        refine r_aload_n C dX11_sea_61 1 rfl ?_
        refine r_getI C flX11_17 dX11_sea_62 (ly0 hY) rfl ?_
        refine r_isub C dX11_sea_65 ?_
        obtain ⟨h1, h2⟩ := Prod.mk.inj (Option.some.inj h)
        subst h1; subst h2
        exact r_iret C dX11_sea_66 hr hE
    · have h := (ite_inv h).2 c2
      refine r_bipush C dX11_sea_12 bp_m3 ?_
      obtain ⟨h1, h2⟩ := Prod.mk.inj (Option.some.inj h)
      subst h1; subst h2
      exact r_iret C dX11_sea_14 hr hE
def fX11_fault (n : Nat) (x1 : Int32) (μ : Mu) : Option (Int32) := if x1 = 0 then (some (rI μ 0 2)) else (if x1 = 1 then (some (rI μ 0 3)) else (some (-1)))
set_option maxRecDepth 100000 in
set_option maxHeartbeats 4000000 in
theorem tX11_fault {l : Launch} {w : WP} {sh : List Sh} {R : Rf} {μ : Mu} {r : Int32} (hY : LY sh R) (n : Nat) (x1 : Int32)  (h : fX11_fault n x1 μ = some r) : CM l w yX11_fault cX11_fault 2 (some .int) 0 0 0 sh R [.ref (wb w + 0), .int x1] μ (some (.int r)) sh R μ := by
  refine CM.of (plainFor_of_name pf_X11) (Nat.le_of_ble_eq_true rfl) fun Z C hr _ hR hw hl hE => ?_
  subst hw; subst hl
  have C : CX Z cX11_fault 2 RX11 := C
  show Wm Z (0, 0, sh, R) μ 0 [(0, .ref (wb (zw Z) + 0)), (1, .int x1)] []
  unfold fX11_fault at h
  refine r_iload_n C dX11_fault_0 1 rfl ?_
  refine r_if_ne 9 C dX11_fault_1 (by decide) (fun c1 => ?_) (fun c1 => ?_)
  · have h := (ite_inv h).2 c1
    refine r_iload_n C dX11_fault_9 1 rfl ?_
    refine r_iconst C dX11_fault_10 ic_1 ?_
    refine r_icmp_ne 21 C dX11_fault_11 (by decide) (fun c2 => ?_) (fun c2 => ?_)
    · have h := (ite_inv h).2 c2
      refine r_iconst C dX11_fault_21 ic_m1 ?_
      have h := Option.some.inj h
      subst h
      exact r_iret C dX11_fault_22 hr hE
    · have h := (ite_inv h).1 c2
      refine r_aload_n C dX11_fault_14 0 rfl ?_
      refine r_getI C flX11_20 dX11_fault_15 (ly0 hY) rfl ?_
      refine r_goto 22 C dX11_fault_18 (by decide) ?_
      have h := Option.some.inj h
      subst h
      exact r_iret C dX11_fault_22 hr hE
  · have h := (ite_inv h).1 c1
    refine r_aload_n C dX11_fault_4 0 rfl ?_
    refine r_getI C flX11_17 dX11_fault_5 (ly0 hY) rfl ?_
    have h := Option.some.inj h
    subst h
    exact r_iret C dX11_fault_8 hr hE
def fX11_current (n : Nat) (x1 : Int32) (x2 : Int32) (μ : Mu) : Option (Int32 × Mu) := if x1 < 0 then (some ((-2), μ)) else (if x1 < (rI μ 2 1) then (if x2 = 0 then (gd (ib x1 10) (some (rI μ 3 (ix x1), μ))) else (if x2 = 1 then (gd (ib x1 10) (some (rI μ 4 (ix x1), μ))) else (if x2 = 2 then (gd (ib x1 10) (some (rI μ 5 (ix x1), μ))) else (if x2 = 3 then (bnd2 (fX6_openCurrents n (rI μ 34 0) (if (rI μ 34 1) ≤ 0 then 0 else 1 : Int32) μ) fun u12 m13 => some ((shr u12 x1) &&& 1, m13)) else (some ((-2), μ)))))) else (some ((-2), μ)))
set_option maxRecDepth 100000 in
set_option maxHeartbeats 4000000 in
theorem tX11_current {l : Launch} {w : WP} {sh : List Sh} {R : Rf} {μ : Mu} {r : Int32} {μ' : Mu} (hY : LY sh R) (n : Nat) (x1 : Int32) (x2 : Int32)  (h : fX11_current n x1 x2 μ = some (r, μ')) : CM l w yX11_current cX11_current 3 (some .int) 4 0 0 sh R [.ref (wb w + 0), .int x1, .int x2] μ (some (.int r)) sh R μ' := by
  refine CM.of (plainFor_of_name pf_X11) (Nat.le_of_ble_eq_true rfl) fun Z C hr _ hR hw hl hE => ?_
  subst hw; subst hl
  have C : CX Z cX11_current 3 RX11 := C
  show Wm Z (0, 0, sh, R) μ 0 [(0, .ref (wb (zw Z) + 0)), (1, .int x1), (2, .int x2)] []
  unfold fX11_current at h
  refine r_iload_n C dX11_current_0 1 rfl ?_
  refine r_if_lt 15 C dX11_current_1 (by decide) (fun c1 => ?_) (fun c1 => ?_)
  · have h := (ite_inv h).1 c1
    refine r_bipush C dX11_current_15 bp_m2 ?_
    obtain ⟨h1, h2⟩ := Prod.mk.inj (Option.some.inj h)
    subst h1; subst h2
    exact r_iret C dX11_current_17 hr hE
  · have h := (ite_inv h).2 c1
    refine r_iload_n C dX11_current_4 1 rfl ?_
    refine r_aload_n C dX11_current_5 0 rfl ?_
    refine r_getR C flX11_26 dX11_current_6 (ly0 hY) rfl (lr0_4 hY) ?_
    refine r_getI C flX11_124 dX11_current_9 (isSea_0 (lySea hY)) rfl ?_
    refine r_icmp_lt 18 C dX11_current_12 (by decide) (fun c2 => ?_) (fun c2 => ?_)
    · have h := (ite_inv h).1 c2
      refine r_iload_n C dX11_current_18 2 rfl ?_
      by_cases c3 : x2 = 0
      · have h := (ite_inv h).1 c3
        refine r_tabIn 48 C dX11_current_19 (by rw [c3, ti_0]; decide) (by rw [c3, ti_0]; decide) (by rw [c3, ti_0]; rfl) (by decide) ?_
        refine r_aload_n C dX11_current_48 0 rfl ?_
        refine r_getR C flX11_26 dX11_current_49 (ly0 hY) rfl (lr0_4 hY) ?_
        refine r_getR C flX11_127 dX11_current_52 (isSea_0 (lySea hY)) rfl (isSea_r8 (lySea hY)) ?_
        refine r_iload_n C dX11_current_55 1 rfl ?_
        obtain ⟨b4, h⟩ := gd_inv h
        refine r_iald C dX11_current_56 (isSea_1 (lySea hY)) b4 ?_
        obtain ⟨h1, h2⟩ := Prod.mk.inj (Option.some.inj h)
        subst h1; subst h2
        exact r_iret C dX11_current_57 hr hE
      have h := (ite_inv h).2 c3
      by_cases c5 : x2 = 1
      · have h := (ite_inv h).1 c5
        refine r_tabIn 58 C dX11_current_19 (by rw [c5, ti_1]; decide) (by rw [c5, ti_1]; decide) (by rw [c5, ti_1]; rfl) (by decide) ?_
        refine r_aload_n C dX11_current_58 0 rfl ?_
        refine r_getR C flX11_26 dX11_current_59 (ly0 hY) rfl (lr0_4 hY) ?_
        refine r_getR C flX11_130 dX11_current_62 (isSea_0 (lySea hY)) rfl (isSea_r9 (lySea hY)) ?_
        refine r_iload_n C dX11_current_65 1 rfl ?_
        obtain ⟨b6, h⟩ := gd_inv h
        refine r_iald C dX11_current_66 (isSea_2 (lySea hY)) b6 ?_
        obtain ⟨h1, h2⟩ := Prod.mk.inj (Option.some.inj h)
        subst h1; subst h2
        exact r_iret C dX11_current_67 hr hE
      have h := (ite_inv h).2 c5
      by_cases c7 : x2 = 2
      · have h := (ite_inv h).1 c7
        refine r_tabIn 68 C dX11_current_19 (by rw [c7, ti_2]; decide) (by rw [c7, ti_2]; decide) (by rw [c7, ti_2]; rfl) (by decide) ?_
        refine r_aload_n C dX11_current_68 0 rfl ?_
        refine r_getR C flX11_26 dX11_current_69 (ly0 hY) rfl (lr0_4 hY) ?_
        refine r_getR C flX11_133 dX11_current_72 (isSea_0 (lySea hY)) rfl (isSea_r10 (lySea hY)) ?_
        refine r_iload_n C dX11_current_75 1 rfl ?_
        obtain ⟨b8, h⟩ := gd_inv h
        refine r_iald C dX11_current_76 (isSea_3 (lySea hY)) b8 ?_
        obtain ⟨h1, h2⟩ := Prod.mk.inj (Option.some.inj h)
        subst h1; subst h2
        exact r_iret C dX11_current_77 hr hE
      have h := (ite_inv h).2 c7
      by_cases c9 : x2 = 3
      · have h := (ite_inv h).1 c9
        refine r_tabIn 78 C dX11_current_19 (by rw [c9, ti_3]; decide) (by rw [c9, ti_3]; decide) (by rw [c9, ti_3]; rfl) (by decide) ?_
        refine r_aload_n C dX11_current_78 0 rfl ?_
        refine r_getR C flX11_42 dX11_current_79 (ly0 hY) rfl (lr0_6 hY) ?_
        refine r_aload_n C dX11_current_82 0 rfl ?_
        refine r_getR C flX11_49 dX11_current_83 (ly0 hY) rfl (lr0_7 hY) ?_
        refine r_getI C flX11_136 dX11_current_86 (isSt_0 (lyNow hY)) rfl ?_
        refine r_aload_n C dX11_current_89 0 rfl ?_
        refine r_getR C flX11_49 dX11_current_90 (ly0 hY) rfl (lr0_7 hY) ?_
        refine r_getI C flX11_139 dX11_current_93 (isSt_0 (lyNow hY)) rfl ?_
        suffices hj : Wm Z (0, 0, sh, R) μ 104 [(0, .ref (wb (zw Z) + 0)), (1, .int x1), (2, .int x2)] [.int (if (rI μ 34 1) ≤ 0 then 0 else 1 : Int32), .int (rI μ 34 0), .ref (wb (zw Z) + 28)] by
          refine r_if_le 103 C dX11_current_96 (by decide) (fun c10 => ?_) (fun c10 => ?_)
          · refine r_iconst C dX11_current_103 ic_0 ?_
            exact sel_t c10 hj
          · refine r_iconst C dX11_current_99 ic_1 ?_
            refine r_goto 104 C dX11_current_100 (by decide) ?_
            exact sel_f c10 hj
        obtain ⟨u12, m13, e11, h⟩ := bnd2_inv h
        refine r_cVi (As := [.int (rI μ 34 0), .int (if (rI μ 34 1) ≤ 0 then 0 else 1 : Int32)]) (rest := []) C hR mlX11_142 dX11_current_104 (tX6_openCurrents hY n (rI μ 34 0) (if (rI μ 34 1) ≤ 0 then 0 else 1 : Int32)  e11) rfl rfl (ly28 hY) rfl (nle rfl) (nle rfl) (nle rfl) ?_
        refine r_iload_n C dX11_current_107 1 rfl ?_
        refine r_ishr C dX11_current_108 ?_
        refine r_iconst C dX11_current_109 ic_1 ?_
        refine r_iand C dX11_current_110 ?_
        obtain ⟨h1, h2⟩ := Prod.mk.inj (Option.some.inj h)
        subst h1; subst h2
        exact r_iret C dX11_current_111 hr hE
      have h := (ite_inv h).2 c9
      suffices hj : Wm Z (0, 0, sh, R) μ 112 [(0, .ref (wb (zw Z) + 0)), (1, .int x1), (2, .int x2)] [] by
        have q0 := tne c3 ti_0
        have q1 := tne c5 ti_1
        have q2 := tne c7 ti_2
        have q3 := tne c9 ti_3
        exact r_tabOut 112 C dX11_current_19 (by omega) (by decide) hj
      refine r_bipush C dX11_current_112 bp_m2 ?_
      obtain ⟨h1, h2⟩ := Prod.mk.inj (Option.some.inj h)
      subst h1; subst h2
      exact r_iret C dX11_current_114 hr hE
    · have h := (ite_inv h).2 c2
      refine r_bipush C dX11_current_15 bp_m2 ?_
      obtain ⟨h1, h2⟩ := Prod.mk.inj (Option.some.inj h)
      subst h1; subst h2
      exact r_iret C dX11_current_17 hr hE
def fX11_isPerson (n : Nat) (x1 : Int32) (μ : Mu) : Option (Int32) := if x1 < 0 then (some 0) else (if (rI μ 2 2) ≤ x1 then (some 0) else (some 1))
set_option maxRecDepth 100000 in
set_option maxHeartbeats 4000000 in
theorem tX11_isPerson {l : Launch} {w : WP} {sh : List Sh} {R : Rf} {μ : Mu} {r : Int32} (hY : LY sh R) (n : Nat) (x1 : Int32)  (h : fX11_isPerson n x1 μ = some r) : CM l w yX11_isPerson cX11_isPerson 2 (some .boolean) 0 0 0 sh R [.ref (wb w + 0), .int x1] μ (some (.int r)) sh R μ := by
  refine CM.of (plainFor_of_name pf_X11) (Nat.le_of_ble_eq_true rfl) fun Z C hr _ hR hw hl hE => ?_
  subst hw; subst hl
  have C : CX Z cX11_isPerson 2 RX11 := C
  show Wm Z (0, 0, sh, R) μ 0 [(0, .ref (wb (zw Z) + 0)), (1, .int x1)] []
  unfold fX11_isPerson at h
  refine r_iload_n C dX11_isPerson_0 1 rfl ?_
  refine r_if_lt 19 C dX11_isPerson_1 (by decide) (fun c1 => ?_) (fun c1 => ?_)
  · have h := (ite_inv h).1 c1
    refine r_iconst C dX11_isPerson_19 ic_0 ?_
    have h := Option.some.inj h
    subst h
    exact r_zret C dX11_isPerson_20 hr rfl hE
  · have h := (ite_inv h).2 c1
    refine r_iload_n C dX11_isPerson_4 1 rfl ?_
    refine r_aload_n C dX11_isPerson_5 0 rfl ?_
    refine r_getR C flX11_26 dX11_isPerson_6 (ly0 hY) rfl (lr0_4 hY) ?_
    refine r_getI C flX11_278 dX11_isPerson_9 (isSea_0 (lySea hY)) rfl ?_
    refine r_icmp_ge 19 C dX11_isPerson_12 (by decide) (fun c2 => ?_) (fun c2 => ?_)
    · have h := (ite_inv h).1 c2
      refine r_iconst C dX11_isPerson_19 ic_0 ?_
      have h := Option.some.inj h
      subst h
      exact r_zret C dX11_isPerson_20 hr rfl hE
    · have h := (ite_inv h).2 c2
      refine r_iconst C dX11_isPerson_15 ic_1 ?_
      refine r_goto 20 C dX11_isPerson_16 (by decide) ?_
      have h := Option.some.inj h
      subst h
      exact r_zret C dX11_isPerson_20 hr rfl hE
def fX11_person (n : Nat) (x1 : Int32) (x2 : Int32) (μ : Mu) : Option (Int32 × Mu) := bnd (fX11_isPerson n x1 μ) fun u2 => if u2 = 0 then (some ((-2), μ)) else (if x2 = 0 then (gd (ib x1 6) (some (rI μ 6 (ix x1), μ))) else (if x2 = 1 then (some ((shr (rI μ 2 7) x1) &&& 1, μ)) else (if x2 = 2 then (gd (ib x1 6) (some (rI μ 40 (ix x1), μ))) else (if x2 = 3 then (bnd (fX8_shellsOf n 34 2 x1 μ) fun u11 => some (u11, μ)) else (if x2 = 4 then (gd (ib x1 6) (bnd2 (fX6_listeners n (rI μ 34 0) (if (rI μ 34 1) ≤ 0 then 0 else 1 : Int32) (bitc (rI μ 40 (ix x1))) μ) fun u16 m17 => some ((shr u16 x1) &&& 1, m17))) else (some ((-2), μ)))))))
set_option maxRecDepth 100000 in
set_option maxHeartbeats 4000000 in
theorem tX11_person {l : Launch} {w : WP} {sh : List Sh} {R : Rf} {μ : Mu} {r : Int32} {μ' : Mu} (hY : LY sh R) (n : Nat) (x1 : Int32) (x2 : Int32)  (h : fX11_person n x1 x2 μ = some (r, μ')) : CM l w yX11_person cX11_person 3 (some .int) 4 0 0 sh R [.ref (wb w + 0), .int x1, .int x2] μ (some (.int r)) sh R μ' := by
  refine CM.of (plainFor_of_name pf_X11) (Nat.le_of_ble_eq_true rfl) fun Z C hr _ hR hw hl hE => ?_
  subst hw; subst hl
  have C : CX Z cX11_person 3 RX11 := C
  show Wm Z (0, 0, sh, R) μ 0 [(0, .ref (wb (zw Z) + 0)), (1, .int x1), (2, .int x2)] []
  unfold fX11_person at h
  refine r_aload_n C dX11_person_0 0 rfl ?_
  refine r_iload_n C dX11_person_1 1 rfl ?_
  obtain ⟨u2, e1, h⟩ := bnd_inv h
  refine r_cVi (As := [.int x1]) (rest := []) C hR mlX11_146 dX11_person_2 (tX11_isPerson hY n x1  e1) rfl rfl (ly0 hY) rfl (nle rfl) (nle rfl) (nle rfl) ?_
  refine r_if_ne 11 C dX11_person_5 (by decide) (fun c3 => ?_) (fun c3 => ?_)
  · have h := (ite_inv h).2 c3
    refine r_iload_n C dX11_person_11 2 rfl ?_
    by_cases c4 : x2 = 0
    · have h := (ite_inv h).1 c4
      refine r_tabIn 48 C dX11_person_12 (by rw [c4, ti_0]; decide) (by rw [c4, ti_0]; decide) (by rw [c4, ti_0]; rfl) (by decide) ?_
      refine r_aload_n C dX11_person_48 0 rfl ?_
      refine r_getR C flX11_26 dX11_person_49 (ly0 hY) rfl (lr0_4 hY) ?_
      refine r_getR C flX11_150 dX11_person_52 (isSea_0 (lySea hY)) rfl (isSea_r11 (lySea hY)) ?_
      refine r_iload_n C dX11_person_55 1 rfl ?_
      obtain ⟨b5, h⟩ := gd_inv h
      refine r_iald C dX11_person_56 (isSea_4 (lySea hY)) b5 ?_
      obtain ⟨h1, h2⟩ := Prod.mk.inj (Option.some.inj h)
      subst h1; subst h2
      exact r_iret C dX11_person_57 hr hE
    have h := (ite_inv h).2 c4
    by_cases c6 : x2 = 1
    · have h := (ite_inv h).1 c6
      refine r_tabIn 58 C dX11_person_12 (by rw [c6, ti_1]; decide) (by rw [c6, ti_1]; decide) (by rw [c6, ti_1]; rfl) (by decide) ?_
      refine r_aload_n C dX11_person_58 0 rfl ?_
      refine r_getR C flX11_26 dX11_person_59 (ly0 hY) rfl (lr0_4 hY) ?_
      refine r_getI C flX11_153 dX11_person_62 (isSea_0 (lySea hY)) rfl ?_
      refine r_iload_n C dX11_person_65 1 rfl ?_
      refine r_ishr C dX11_person_66 ?_
      refine r_iconst C dX11_person_67 ic_1 ?_
      refine r_iand C dX11_person_68 ?_
      obtain ⟨h1, h2⟩ := Prod.mk.inj (Option.some.inj h)
      subst h1; subst h2
      exact r_iret C dX11_person_69 hr hE
    have h := (ite_inv h).2 c6
    by_cases c7 : x2 = 2
    · have h := (ite_inv h).1 c7
      refine r_tabIn 70 C dX11_person_12 (by rw [c7, ti_2]; decide) (by rw [c7, ti_2]; decide) (by rw [c7, ti_2]; rfl) (by decide) ?_
      refine r_aload_n C dX11_person_70 0 rfl ?_
      refine r_getR C flX11_49 dX11_person_71 (ly0 hY) rfl (lr0_7 hY) ?_
      refine r_getR C flX11_156 dX11_person_74 (isSt_0 (lyNow hY)) rfl (isSt_r9 (lyNow hY)) ?_
      refine r_iload_n C dX11_person_77 1 rfl ?_
      obtain ⟨b8, h⟩ := gd_inv h
      refine r_iald C dX11_person_78 (isSt_6 (lyNow hY)) b8 ?_
      obtain ⟨h1, h2⟩ := Prod.mk.inj (Option.some.inj h)
      subst h1; subst h2
      exact r_iret C dX11_person_79 hr hE
    have h := (ite_inv h).2 c7
    by_cases c9 : x2 = 3
    · have h := (ite_inv h).1 c9
      refine r_tabIn 80 C dX11_person_12 (by rw [c9, ti_3]; decide) (by rw [c9, ti_3]; decide) (by rw [c9, ti_3]; rfl) (by decide) ?_
      refine r_aload_n C dX11_person_80 0 rfl ?_
      refine r_getR C flX11_49 dX11_person_81 (ly0 hY) rfl (lr0_7 hY) ?_
      refine r_aload_n C dX11_person_84 0 rfl ?_
      refine r_getR C flX11_26 dX11_person_85 (ly0 hY) rfl (lr0_4 hY) ?_
      refine r_iload_n C dX11_person_88 1 rfl ?_
      obtain ⟨u11, e10, h⟩ := bnd_inv h
      refine r_cVi (As := [.ref (wb (zw Z) + 2), .int x1]) (rest := []) C hR mlX11_159 dX11_person_89 (tX8_shellsOf hY n 34 2 x1 (lyNow hY) (lySea hY) e10) rfl rfl (isSt_0 (lyNow hY)) rfl (nle rfl) (nle rfl) (nle rfl) ?_
      obtain ⟨h1, h2⟩ := Prod.mk.inj (Option.some.inj h)
      subst h1; subst h2
      exact r_iret C dX11_person_92 hr hE
    have h := (ite_inv h).2 c9
    by_cases c12 : x2 = 4
    · have h := (ite_inv h).1 c12
      refine r_tabIn 93 C dX11_person_12 (by rw [c12, ti_4]; decide) (by rw [c12, ti_4]; decide) (by rw [c12, ti_4]; rfl) (by decide) ?_
      refine r_aload_n C dX11_person_93 0 rfl ?_
      refine r_getR C flX11_42 dX11_person_94 (ly0 hY) rfl (lr0_6 hY) ?_
      refine r_aload_n C dX11_person_97 0 rfl ?_
      refine r_getR C flX11_49 dX11_person_98 (ly0 hY) rfl (lr0_7 hY) ?_
      refine r_getI C flX11_136 dX11_person_101 (isSt_0 (lyNow hY)) rfl ?_
      refine r_aload_n C dX11_person_104 0 rfl ?_
      refine r_getR C flX11_49 dX11_person_105 (ly0 hY) rfl (lr0_7 hY) ?_
      refine r_getI C flX11_139 dX11_person_108 (isSt_0 (lyNow hY)) rfl ?_
      suffices hj : Wm Z (0, 0, sh, R) μ 119 [(0, .ref (wb (zw Z) + 0)), (1, .int x1), (2, .int x2)] [.int (if (rI μ 34 1) ≤ 0 then 0 else 1 : Int32), .int (rI μ 34 0), .ref (wb (zw Z) + 28)] by
        refine r_if_le 118 C dX11_person_111 (by decide) (fun c13 => ?_) (fun c13 => ?_)
        · refine r_iconst C dX11_person_118 ic_0 ?_
          exact sel_t c13 hj
        · refine r_iconst C dX11_person_114 ic_1 ?_
          refine r_goto 119 C dX11_person_115 (by decide) ?_
          exact sel_f c13 hj
      refine r_aload_n C dX11_person_119 0 rfl ?_
      refine r_getR C flX11_49 dX11_person_120 (ly0 hY) rfl (lr0_7 hY) ?_
      refine r_getR C flX11_156 dX11_person_123 (isSt_0 (lyNow hY)) rfl (isSt_r9 (lyNow hY)) ?_
      refine r_iload_n C dX11_person_126 1 rfl ?_
      obtain ⟨b14, h⟩ := gd_inv h
      refine r_iald C dX11_person_127 (isSt_6 (lyNow hY)) b14 ?_
      refine r_cSi (As := [.int (rI μ 40 (ix x1))]) (rest := [.int (if (rI μ 34 1) ≤ 0 then 0 else 1 : Int32), .int (rI μ 34 0), .ref (wb (zw Z) + 28)]) C hR mlX11_163 dX11_person_128 (t_bitc hY) rfl rfl (nle rfl) (nle rfl) (nle rfl) ?_
      obtain ⟨u16, m17, e15, h⟩ := bnd2_inv h
      refine r_cVi (As := [.int (rI μ 34 0), .int (if (rI μ 34 1) ≤ 0 then 0 else 1 : Int32), .int (bitc (rI μ 40 (ix x1)))]) (rest := []) C hR mlX11_169 dX11_person_131 (tX6_listeners hY n (rI μ 34 0) (if (rI μ 34 1) ≤ 0 then 0 else 1 : Int32) (bitc (rI μ 40 (ix x1)))  e15) rfl rfl (ly28 hY) rfl (nle rfl) (nle rfl) (nle rfl) ?_
      refine r_iload_n C dX11_person_134 1 rfl ?_
      refine r_ishr C dX11_person_135 ?_
      refine r_iconst C dX11_person_136 ic_1 ?_
      refine r_iand C dX11_person_137 ?_
      obtain ⟨h1, h2⟩ := Prod.mk.inj (Option.some.inj h)
      subst h1; subst h2
      exact r_iret C dX11_person_138 hr hE
    have h := (ite_inv h).2 c12
    suffices hj : Wm Z (0, 0, sh, R) μ 139 [(0, .ref (wb (zw Z) + 0)), (1, .int x1), (2, .int x2)] [] by
      have q0 := tne c4 ti_0
      have q1 := tne c6 ti_1
      have q2 := tne c7 ti_2
      have q3 := tne c9 ti_3
      have q4 := tne c12 ti_4
      exact r_tabOut 139 C dX11_person_12 (by omega) (by decide) hj
    refine r_bipush C dX11_person_139 bp_m2 ?_
    obtain ⟨h1, h2⟩ := Prod.mk.inj (Option.some.inj h)
    subst h1; subst h2
    exact r_iret C dX11_person_141 hr hE
  · have h := (ite_inv h).1 c3
    refine r_bipush C dX11_person_8 bp_m2 ?_
    obtain ⟨h1, h2⟩ := Prod.mk.inj (Option.some.inj h)
    subst h1; subst h2
    exact r_iret C dX11_person_10 hr hE
def fX11_isShell (n : Nat) (x1 : Int32) (μ : Mu) : Option (Int32) := if x1 < 0 then (some 0) else (if (rI μ 2 3) ≤ x1 then (some 0) else (some 1))
set_option maxRecDepth 100000 in
set_option maxHeartbeats 4000000 in
theorem tX11_isShell {l : Launch} {w : WP} {sh : List Sh} {R : Rf} {μ : Mu} {r : Int32} (hY : LY sh R) (n : Nat) (x1 : Int32)  (h : fX11_isShell n x1 μ = some r) : CM l w yX11_isShell cX11_isShell 2 (some .boolean) 0 0 0 sh R [.ref (wb w + 0), .int x1] μ (some (.int r)) sh R μ := by
  refine CM.of (plainFor_of_name pf_X11) (Nat.le_of_ble_eq_true rfl) fun Z C hr _ hR hw hl hE => ?_
  subst hw; subst hl
  have C : CX Z cX11_isShell 2 RX11 := C
  show Wm Z (0, 0, sh, R) μ 0 [(0, .ref (wb (zw Z) + 0)), (1, .int x1)] []
  unfold fX11_isShell at h
  refine r_iload_n C dX11_isShell_0 1 rfl ?_
  refine r_if_lt 19 C dX11_isShell_1 (by decide) (fun c1 => ?_) (fun c1 => ?_)
  · have h := (ite_inv h).1 c1
    refine r_iconst C dX11_isShell_19 ic_0 ?_
    have h := Option.some.inj h
    subst h
    exact r_zret C dX11_isShell_20 hr rfl hE
  · have h := (ite_inv h).2 c1
    refine r_iload_n C dX11_isShell_4 1 rfl ?_
    refine r_aload_n C dX11_isShell_5 0 rfl ?_
    refine r_getR C flX11_26 dX11_isShell_6 (ly0 hY) rfl (lr0_4 hY) ?_
    refine r_getI C flX11_309 dX11_isShell_9 (isSea_0 (lySea hY)) rfl ?_
    refine r_icmp_ge 19 C dX11_isShell_12 (by decide) (fun c2 => ?_) (fun c2 => ?_)
    · have h := (ite_inv h).1 c2
      refine r_iconst C dX11_isShell_19 ic_0 ?_
      have h := Option.some.inj h
      subst h
      exact r_zret C dX11_isShell_20 hr rfl hE
    · have h := (ite_inv h).2 c2
      refine r_iconst C dX11_isShell_15 ic_1 ?_
      refine r_goto 20 C dX11_isShell_16 (by decide) ?_
      have h := Option.some.inj h
      subst h
      exact r_zret C dX11_isShell_20 hr rfl hE
def fX11_shell (n : Nat) (x1 : Int32) (x2 : Int32) (μ : Mu) : Option (Int32) := bnd (fX11_isShell n x1 μ) fun u2 => if u2 = 0 then (some (-2)) else (if x2 = 0 then (gd (ib x1 8) (some (rI μ 7 (ix x1)))) else (if x2 = 1 then (gd (ib x1 8) (some (rI μ 35 (ix x1)))) else (some (-2))))
set_option maxRecDepth 100000 in
set_option maxHeartbeats 4000000 in
theorem tX11_shell {l : Launch} {w : WP} {sh : List Sh} {R : Rf} {μ : Mu} {r : Int32} (hY : LY sh R) (n : Nat) (x1 : Int32) (x2 : Int32)  (h : fX11_shell n x1 x2 μ = some r) : CM l w yX11_shell cX11_shell 3 (some .int) 1 0 0 sh R [.ref (wb w + 0), .int x1, .int x2] μ (some (.int r)) sh R μ := by
  refine CM.of (plainFor_of_name pf_X11) (Nat.le_of_ble_eq_true rfl) fun Z C hr _ hR hw hl hE => ?_
  subst hw; subst hl
  have C : CX Z cX11_shell 3 RX11 := C
  show Wm Z (0, 0, sh, R) μ 0 [(0, .ref (wb (zw Z) + 0)), (1, .int x1), (2, .int x2)] []
  unfold fX11_shell at h
  refine r_aload_n C dX11_shell_0 0 rfl ?_
  refine r_iload_n C dX11_shell_1 1 rfl ?_
  obtain ⟨u2, e1, h⟩ := bnd_inv h
  refine r_cVi (As := [.int x1]) (rest := []) C hR mlX11_173 dX11_shell_2 (tX11_isShell hY n x1  e1) rfl rfl (ly0 hY) rfl (nle rfl) (nle rfl) (nle rfl) ?_
  refine r_if_ne 11 C dX11_shell_5 (by decide) (fun c3 => ?_) (fun c3 => ?_)
  · have h := (ite_inv h).2 c3
    refine r_iload_n C dX11_shell_11 2 rfl ?_
    refine r_if_ne 25 C dX11_shell_12 (by decide) (fun c4 => ?_) (fun c4 => ?_)
    · have h := (ite_inv h).2 c4
      refine r_iload_n C dX11_shell_25 2 rfl ?_
      refine r_iconst C dX11_shell_26 ic_1 ?_
      refine r_icmp_ne 42 C dX11_shell_27 (by decide) (fun c5 => ?_) (fun c5 => ?_)
      · have h := (ite_inv h).2 c5
        refine r_bipush C dX11_shell_42 bp_m2 ?_
        have h := Option.some.inj h
        subst h
        exact r_iret C dX11_shell_44 hr hE
      · have h := (ite_inv h).1 c5
        refine r_aload_n C dX11_shell_30 0 rfl ?_
        refine r_getR C flX11_49 dX11_shell_31 (ly0 hY) rfl (lr0_7 hY) ?_
        refine r_getR C flX11_179 dX11_shell_34 (isSt_0 (lyNow hY)) rfl (isSt_r4 (lyNow hY)) ?_
        refine r_iload_n C dX11_shell_37 1 rfl ?_
        obtain ⟨b6, h⟩ := gd_inv h
        refine r_iald C dX11_shell_38 (isSt_1 (lyNow hY)) b6 ?_
        refine r_goto 44 C dX11_shell_39 (by decide) ?_
        have h := Option.some.inj h
        subst h
        exact r_iret C dX11_shell_44 hr hE
    · have h := (ite_inv h).1 c4
      refine r_aload_n C dX11_shell_15 0 rfl ?_
      refine r_getR C flX11_26 dX11_shell_16 (ly0 hY) rfl (lr0_4 hY) ?_
      refine r_getR C flX11_176 dX11_shell_19 (isSea_0 (lySea hY)) rfl (isSea_r12 (lySea hY)) ?_
      refine r_iload_n C dX11_shell_22 1 rfl ?_
      obtain ⟨b7, h⟩ := gd_inv h
      refine r_iald C dX11_shell_23 (isSea_5 (lySea hY)) b7 ?_
      have h := Option.some.inj h
      subst h
      exact r_iret C dX11_shell_24 hr hE
  · have h := (ite_inv h).1 c3
    refine r_bipush C dX11_shell_8 bp_m2 ?_
    have h := Option.some.inj h
    subst h
    exact r_iret C dX11_shell_10 hr hE
def fX11_isWord (n : Nat) (x1 : Int32) (μ : Mu) : Option (Int32) := if x1 < 0 then (some 0) else (if (rI μ 34 3) ≤ x1 then (some 0) else (some 1))
set_option maxRecDepth 100000 in
set_option maxHeartbeats 4000000 in
theorem tX11_isWord {l : Launch} {w : WP} {sh : List Sh} {R : Rf} {μ : Mu} {r : Int32} (hY : LY sh R) (n : Nat) (x1 : Int32)  (h : fX11_isWord n x1 μ = some r) : CM l w yX11_isWord cX11_isWord 2 (some .boolean) 0 0 0 sh R [.ref (wb w + 0), .int x1] μ (some (.int r)) sh R μ := by
  refine CM.of (plainFor_of_name pf_X11) (Nat.le_of_ble_eq_true rfl) fun Z C hr _ hR hw hl hE => ?_
  subst hw; subst hl
  have C : CX Z cX11_isWord 2 RX11 := C
  show Wm Z (0, 0, sh, R) μ 0 [(0, .ref (wb (zw Z) + 0)), (1, .int x1)] []
  unfold fX11_isWord at h
  refine r_iload_n C dX11_isWord_0 1 rfl ?_
  refine r_if_lt 19 C dX11_isWord_1 (by decide) (fun c1 => ?_) (fun c1 => ?_)
  · have h := (ite_inv h).1 c1
    refine r_iconst C dX11_isWord_19 ic_0 ?_
    have h := Option.some.inj h
    subst h
    exact r_zret C dX11_isWord_20 hr rfl hE
  · have h := (ite_inv h).2 c1
    refine r_iload_n C dX11_isWord_4 1 rfl ?_
    refine r_aload_n C dX11_isWord_5 0 rfl ?_
    refine r_getR C flX11_49 dX11_isWord_6 (ly0 hY) rfl (lr0_7 hY) ?_
    refine r_getI C flX11_215 dX11_isWord_9 (isSt_0 (lyNow hY)) rfl ?_
    refine r_icmp_ge 19 C dX11_isWord_12 (by decide) (fun c2 => ?_) (fun c2 => ?_)
    · have h := (ite_inv h).1 c2
      refine r_iconst C dX11_isWord_19 ic_0 ?_
      have h := Option.some.inj h
      subst h
      exact r_zret C dX11_isWord_20 hr rfl hE
    · have h := (ite_inv h).2 c2
      refine r_iconst C dX11_isWord_15 ic_1 ?_
      refine r_goto 20 C dX11_isWord_16 (by decide) ?_
      have h := Option.some.inj h
      subst h
      exact r_zret C dX11_isWord_20 hr rfl hE
def fX11_word (n : Nat) (x1 : Int32) (x2 : Int32) (μ : Mu) : Option (Int32) := bnd (fX11_isWord n x1 μ) fun u2 => if u2 = 0 then (some (-2)) else (if x2 = 0 then (gd (ib x1 8) (some (rI μ 36 (ix x1)))) else (if x2 = 1 then (gd (ib x1 8) (some (bitc (rI μ 38 (ix x1))))) else (if x2 = 2 then (bnd (fX8_hearersOf n 34 x1 μ) fun u10 => some u10) else (some (-2)))))
set_option maxRecDepth 100000 in
set_option maxHeartbeats 4000000 in
theorem tX11_word {l : Launch} {w : WP} {sh : List Sh} {R : Rf} {μ : Mu} {r : Int32} (hY : LY sh R) (n : Nat) (x1 : Int32) (x2 : Int32)  (h : fX11_word n x1 x2 μ = some r) : CM l w yX11_word cX11_word 3 (some .int) 1 0 0 sh R [.ref (wb w + 0), .int x1, .int x2] μ (some (.int r)) sh R μ := by
  refine CM.of (plainFor_of_name pf_X11) (Nat.le_of_ble_eq_true rfl) fun Z C hr _ hR hw hl hE => ?_
  subst hw; subst hl
  have C : CX Z cX11_word 3 RX11 := C
  show Wm Z (0, 0, sh, R) μ 0 [(0, .ref (wb (zw Z) + 0)), (1, .int x1), (2, .int x2)] []
  unfold fX11_word at h
  refine r_aload_n C dX11_word_0 0 rfl ?_
  refine r_iload_n C dX11_word_1 1 rfl ?_
  obtain ⟨u2, e1, h⟩ := bnd_inv h
  refine r_cVi (As := [.int x1]) (rest := []) C hR mlX11_182 dX11_word_2 (tX11_isWord hY n x1  e1) rfl rfl (ly0 hY) rfl (nle rfl) (nle rfl) (nle rfl) ?_
  refine r_if_ne 11 C dX11_word_5 (by decide) (fun c3 => ?_) (fun c3 => ?_)
  · have h := (ite_inv h).2 c3
    refine r_iload_n C dX11_word_11 2 rfl ?_
    by_cases c4 : x2 = 0
    · have h := (ite_inv h).1 c4
      refine r_tabIn 40 C dX11_word_12 (by rw [c4, ti_0]; decide) (by rw [c4, ti_0]; decide) (by rw [c4, ti_0]; rfl) (by decide) ?_
      refine r_aload_n C dX11_word_40 0 rfl ?_
      refine r_getR C flX11_49 dX11_word_41 (ly0 hY) rfl (lr0_7 hY) ?_
      refine r_getR C flX11_185 dX11_word_44 (isSt_0 (lyNow hY)) rfl (isSt_r5 (lyNow hY)) ?_
      refine r_iload_n C dX11_word_47 1 rfl ?_
      obtain ⟨b5, h⟩ := gd_inv h
      refine r_iald C dX11_word_48 (isSt_2 (lyNow hY)) b5 ?_
      have h := Option.some.inj h
      subst h
      exact r_iret C dX11_word_49 hr hE
    have h := (ite_inv h).2 c4
    by_cases c6 : x2 = 1
    · have h := (ite_inv h).1 c6
      refine r_tabIn 50 C dX11_word_12 (by rw [c6, ti_1]; decide) (by rw [c6, ti_1]; decide) (by rw [c6, ti_1]; rfl) (by decide) ?_
      refine r_aload_n C dX11_word_50 0 rfl ?_
      refine r_getR C flX11_49 dX11_word_51 (ly0 hY) rfl (lr0_7 hY) ?_
      refine r_getR C flX11_188 dX11_word_54 (isSt_0 (lyNow hY)) rfl (isSt_r7 (lyNow hY)) ?_
      refine r_iload_n C dX11_word_57 1 rfl ?_
      obtain ⟨b7, h⟩ := gd_inv h
      refine r_iald C dX11_word_58 (isSt_4 (lyNow hY)) b7 ?_
      refine r_cSi (As := [.int (rI μ 38 (ix x1))]) (rest := []) C hR mlX11_163 dX11_word_59 (t_bitc hY) rfl rfl (nle rfl) (nle rfl) (nle rfl) ?_
      have h := Option.some.inj h
      subst h
      exact r_iret C dX11_word_62 hr hE
    have h := (ite_inv h).2 c6
    by_cases c8 : x2 = 2
    · have h := (ite_inv h).1 c8
      refine r_tabIn 63 C dX11_word_12 (by rw [c8, ti_2]; decide) (by rw [c8, ti_2]; decide) (by rw [c8, ti_2]; rfl) (by decide) ?_
      refine r_aload_n C dX11_word_63 0 rfl ?_
      refine r_getR C flX11_49 dX11_word_64 (ly0 hY) rfl (lr0_7 hY) ?_
      refine r_iload_n C dX11_word_67 1 rfl ?_
      obtain ⟨u10, e9, h⟩ := bnd_inv h
      refine r_cVi (As := [.int x1]) (rest := []) C hR mlX11_191 dX11_word_68 (tX8_hearersOf hY n 34 x1 (lyNow hY) e9) rfl rfl (isSt_0 (lyNow hY)) rfl (nle rfl) (nle rfl) (nle rfl) ?_
      have h := Option.some.inj h
      subst h
      exact r_iret C dX11_word_71 hr hE
    have h := (ite_inv h).2 c8
    suffices hj : Wm Z (0, 0, sh, R) μ 72 [(0, .ref (wb (zw Z) + 0)), (1, .int x1), (2, .int x2)] [] by
      have q0 := tne c4 ti_0
      have q1 := tne c6 ti_1
      have q2 := tne c8 ti_2
      exact r_tabOut 72 C dX11_word_12 (by omega) (by decide) hj
    refine r_bipush C dX11_word_72 bp_m2 ?_
    have h := Option.some.inj h
    subst h
    exact r_iret C dX11_word_74 hr hE
  · have h := (ite_inv h).1 c3
    refine r_bipush C dX11_word_8 bp_m2 ?_
    have h := Option.some.inj h
    subst h
    exact r_iret C dX11_word_10 hr hE
def fX11_isBeach (n : Nat) (x1 : Int32) (μ : Mu) : Option (Int32) := if x1 < 0 then (some 0) else (if (rI μ 2 0) ≤ x1 then (some 0) else (some 1))
set_option maxRecDepth 100000 in
set_option maxHeartbeats 4000000 in
theorem tX11_isBeach {l : Launch} {w : WP} {sh : List Sh} {R : Rf} {μ : Mu} {r : Int32} (hY : LY sh R) (n : Nat) (x1 : Int32)  (h : fX11_isBeach n x1 μ = some r) : CM l w yX11_isBeach cX11_isBeach 2 (some .boolean) 0 0 0 sh R [.ref (wb w + 0), .int x1] μ (some (.int r)) sh R μ := by
  refine CM.of (plainFor_of_name pf_X11) (Nat.le_of_ble_eq_true rfl) fun Z C hr _ hR hw hl hE => ?_
  subst hw; subst hl
  have C : CX Z cX11_isBeach 2 RX11 := C
  show Wm Z (0, 0, sh, R) μ 0 [(0, .ref (wb (zw Z) + 0)), (1, .int x1)] []
  unfold fX11_isBeach at h
  refine r_iload_n C dX11_isBeach_0 1 rfl ?_
  refine r_if_lt 19 C dX11_isBeach_1 (by decide) (fun c1 => ?_) (fun c1 => ?_)
  · have h := (ite_inv h).1 c1
    refine r_iconst C dX11_isBeach_19 ic_0 ?_
    have h := Option.some.inj h
    subst h
    exact r_zret C dX11_isBeach_20 hr rfl hE
  · have h := (ite_inv h).2 c1
    refine r_iload_n C dX11_isBeach_4 1 rfl ?_
    refine r_aload_n C dX11_isBeach_5 0 rfl ?_
    refine r_getR C flX11_26 dX11_isBeach_6 (ly0 hY) rfl (lr0_4 hY) ?_
    refine r_getI C flX11_281 dX11_isBeach_9 (isSea_0 (lySea hY)) rfl ?_
    refine r_icmp_ge 19 C dX11_isBeach_12 (by decide) (fun c2 => ?_) (fun c2 => ?_)
    · have h := (ite_inv h).1 c2
      refine r_iconst C dX11_isBeach_19 ic_0 ?_
      have h := Option.some.inj h
      subst h
      exact r_zret C dX11_isBeach_20 hr rfl hE
    · have h := (ite_inv h).2 c2
      refine r_iconst C dX11_isBeach_15 ic_1 ?_
      refine r_goto 20 C dX11_isBeach_16 (by decide) ?_
      have h := Option.some.inj h
      subst h
      exact r_zret C dX11_isBeach_20 hr rfl hE
def fX11_within (n : Nat) (x0 : Int32) (x1 : Int32) (x2 : Int32) (μ : Mu) : Option (Int32) := if x0 < x1 then (some 0) else (if x2 < x0 then (some 0) else (some 1))
set_option maxRecDepth 100000 in
set_option maxHeartbeats 4000000 in
theorem tX11_within {l : Launch} {w : WP} {sh : List Sh} {R : Rf} {μ : Mu} {r : Int32} (hY : LY sh R) (n : Nat) (x0 : Int32) (x1 : Int32) (x2 : Int32)  (h : fX11_within n x0 x1 x2 μ = some r) : CM l w yX11_within cX11_within 3 (some .boolean) 0 0 0 sh R [.int x0, .int x1, .int x2] μ (some (.int r)) sh R μ := by
  refine CM.of (plainFor_of_name pf_X11) (Nat.le_of_ble_eq_true rfl) fun Z C hr _ hR hw hl hE => ?_
  subst hw; subst hl
  have C : CX Z cX11_within 3 RX11 := C
  show Wm Z (0, 0, sh, R) μ 0 [(0, .int x0), (1, .int x1), (2, .int x2)] []
  unfold fX11_within at h
  refine r_iload_n C dX11_within_0 0 rfl ?_
  refine r_iload_n C dX11_within_1 1 rfl ?_
  refine r_icmp_lt 14 C dX11_within_2 (by decide) (fun c1 => ?_) (fun c1 => ?_)
  · have h := (ite_inv h).1 c1
    refine r_iconst C dX11_within_14 ic_0 ?_
    have h := Option.some.inj h
    subst h
    exact r_zret C dX11_within_15 hr rfl hE
  · have h := (ite_inv h).2 c1
    refine r_iload_n C dX11_within_5 0 rfl ?_
    refine r_iload_n C dX11_within_6 2 rfl ?_
    refine r_icmp_gt 14 C dX11_within_7 (by decide) (fun c2 => ?_) (fun c2 => ?_)
    · have h := (ite_inv h).1 c2
      refine r_iconst C dX11_within_14 ic_0 ?_
      have h := Option.some.inj h
      subst h
      exact r_zret C dX11_within_15 hr rfl hE
    · have h := (ite_inv h).2 c2
      refine r_iconst C dX11_within_10 ic_1 ?_
      refine r_goto 15 C dX11_within_11 (by decide) ?_
      have h := Option.some.inj h
      subst h
      exact r_zret C dX11_within_15 hr rfl hE
def fX11_soundIn (n : Nat) (x1 : Int32) (x2 : Int32) (μ : Mu) : Option (Int32 × Mu) := bnd2 (fX6_soundOf n x1 ((rI μ 34 0) + x2) (if (rI μ 34 1) ≤ x2 then 0 else 1 : Int32) μ) fun u3 m4 => some (u3, m4)
set_option maxRecDepth 100000 in
set_option maxHeartbeats 4000000 in
theorem tX11_soundIn {l : Launch} {w : WP} {sh : List Sh} {R : Rf} {μ : Mu} {r : Int32} {μ' : Mu} (hY : LY sh R) (n : Nat) (x1 : Int32) (x2 : Int32)  (h : fX11_soundIn n x1 x2 μ = some (r, μ')) : CM l w yX11_soundIn cX11_soundIn 3 (some .int) 4 0 0 sh R [.ref (wb w + 0), .int x1, .int x2] μ (some (.int r)) sh R μ' := by
  refine CM.of (plainFor_of_name pf_X11) (Nat.le_of_ble_eq_true rfl) fun Z C hr _ hR hw hl hE => ?_
  subst hw; subst hl
  have C : CX Z cX11_soundIn 3 RX11 := C
  show Wm Z (0, 0, sh, R) μ 0 [(0, .ref (wb (zw Z) + 0)), (1, .int x1), (2, .int x2)] []
  unfold fX11_soundIn at h
  refine r_aload_n C dX11_soundIn_0 0 rfl ?_
  refine r_getR C flX11_42 dX11_soundIn_1 (ly0 hY) rfl (lr0_6 hY) ?_
  refine r_iload_n C dX11_soundIn_4 1 rfl ?_
  refine r_aload_n C dX11_soundIn_5 0 rfl ?_
  refine r_getR C flX11_49 dX11_soundIn_6 (ly0 hY) rfl (lr0_7 hY) ?_
  refine r_getI C flX11_136 dX11_soundIn_9 (isSt_0 (lyNow hY)) rfl ?_
  refine r_iload_n C dX11_soundIn_12 2 rfl ?_
  refine r_iadd C dX11_soundIn_13 ?_
  refine r_aload_n C dX11_soundIn_14 0 rfl ?_
  refine r_getR C flX11_49 dX11_soundIn_15 (ly0 hY) rfl (lr0_7 hY) ?_
  refine r_getI C flX11_139 dX11_soundIn_18 (isSt_0 (lyNow hY)) rfl ?_
  refine r_iload_n C dX11_soundIn_21 2 rfl ?_
  suffices hj : Wm Z (0, 0, sh, R) μ 30 [(0, .ref (wb (zw Z) + 0)), (1, .int x1), (2, .int x2)] [.int (if (rI μ 34 1) ≤ x2 then 0 else 1 : Int32), .int ((rI μ 34 0) + x2), .int x1, .ref (wb (zw Z) + 28)] by
    refine r_icmp_le 29 C dX11_soundIn_22 (by decide) (fun c1 => ?_) (fun c1 => ?_)
    · refine r_iconst C dX11_soundIn_29 ic_0 ?_
      exact sel_t c1 hj
    · refine r_iconst C dX11_soundIn_25 ic_1 ?_
      refine r_goto 30 C dX11_soundIn_26 (by decide) ?_
      exact sel_f c1 hj
  obtain ⟨u3, m4, e2, h⟩ := bnd2_inv h
  refine r_cVi (As := [.int x1, .int ((rI μ 34 0) + x2), .int (if (rI μ 34 1) ≤ x2 then 0 else 1 : Int32)]) (rest := []) C hR mlX11_359 dX11_soundIn_30 (tX6_soundOf hY n x1 ((rI μ 34 0) + x2) (if (rI μ 34 1) ≤ x2 then 0 else 1 : Int32)  e2) rfl rfl (ly28 hY) rfl (nle rfl) (nle rfl) (nle rfl) ?_
  obtain ⟨h1, h2⟩ := Prod.mk.inj (Option.some.inj h)
  subst h1; subst h2
  exact r_iret C dX11_soundIn_33 hr hE
def fX11_sound (n : Nat) (x1 : Int32) (x2 : Int32) (μ : Mu) : Option (Int32 × Mu) := bnd (fX11_isBeach n x1 μ) fun u2 => if u2 = 0 then (some ((-2), μ)) else (bnd (fX11_within n x2 0 999 μ) fun u5 => if u5 = 0 then (some ((-3), μ)) else (bnd2 (fX11_soundIn n x1 x2 μ) fun u8 m9 => some (u8, m9)))
set_option maxRecDepth 100000 in
set_option maxHeartbeats 4000000 in
theorem tX11_sound {l : Launch} {w : WP} {sh : List Sh} {R : Rf} {μ : Mu} {r : Int32} {μ' : Mu} (hY : LY sh R) (n : Nat) (x1 : Int32) (x2 : Int32)  (h : fX11_sound n x1 x2 μ = some (r, μ')) : CM l w yX11_sound cX11_sound 3 (some .int) 5 0 0 sh R [.ref (wb w + 0), .int x1, .int x2] μ (some (.int r)) sh R μ' := by
  refine CM.of (plainFor_of_name pf_X11) (Nat.le_of_ble_eq_true rfl) fun Z C hr _ hR hw hl hE => ?_
  subst hw; subst hl
  have C : CX Z cX11_sound 3 RX11 := C
  show Wm Z (0, 0, sh, R) μ 0 [(0, .ref (wb (zw Z) + 0)), (1, .int x1), (2, .int x2)] []
  unfold fX11_sound at h
  refine r_aload_n C dX11_sound_0 0 rfl ?_
  refine r_iload_n C dX11_sound_1 1 rfl ?_
  obtain ⟨u2, e1, h⟩ := bnd_inv h
  refine r_cVi (As := [.int x1]) (rest := []) C hR mlX11_194 dX11_sound_2 (tX11_isBeach hY n x1  e1) rfl rfl (ly0 hY) rfl (nle rfl) (nle rfl) (nle rfl) ?_
  refine r_if_ne 11 C dX11_sound_5 (by decide) (fun c3 => ?_) (fun c3 => ?_)
  · have h := (ite_inv h).2 c3
    refine r_iload_n C dX11_sound_11 2 rfl ?_
    refine r_iconst C dX11_sound_12 ic_0 ?_
    refine r_sipush C dX11_sound_13 sp_999 ?_
    obtain ⟨u5, e4, h⟩ := bnd_inv h
    refine r_cSi (As := [.int x2, .int 0, .int 999]) (rest := []) C hR mlX11_197 dX11_sound_16 (tX11_within hY n x2 0 999  e4) rfl rfl (nle rfl) (nle rfl) (nle rfl) ?_
    refine r_if_ne 25 C dX11_sound_19 (by decide) (fun c6 => ?_) (fun c6 => ?_)
    · have h := (ite_inv h).2 c6
      refine r_aload_n C dX11_sound_25 0 rfl ?_
      refine r_iload_n C dX11_sound_26 1 rfl ?_
      refine r_iload_n C dX11_sound_27 2 rfl ?_
      obtain ⟨u8, m9, e7, h⟩ := bnd2_inv h
      refine r_cVi (As := [.int x1, .int x2]) (rest := []) C hR mlX11_201 dX11_sound_28 (tX11_soundIn hY n x1 x2  e7) rfl rfl (ly0 hY) rfl (nle rfl) (nle rfl) (nle rfl) ?_
      obtain ⟨h1, h2⟩ := Prod.mk.inj (Option.some.inj h)
      subst h1; subst h2
      exact r_iret C dX11_sound_31 hr hE
    · have h := (ite_inv h).1 c6
      refine r_bipush C dX11_sound_22 bp_m3 ?_
      obtain ⟨h1, h2⟩ := Prod.mk.inj (Option.some.inj h)
      subst h1; subst h2
      exact r_iret C dX11_sound_24 hr hE
  · have h := (ite_inv h).1 c3
    refine r_bipush C dX11_sound_8 bp_m2 ?_
    obtain ⟨h1, h2⟩ := Prod.mk.inj (Option.some.inj h)
    subst h1; subst h2
    exact r_iret C dX11_sound_10 hr hE
def fX11_seed (n : Nat) (x1 : Int32) (μ : Mu) : Option (Int32 × Mu) := bnd (fX1_keep n 34 μ) fun m2 => some (rI μ 34 2, wI m2 34 2 x1)
set_option maxRecDepth 100000 in
set_option maxHeartbeats 4000000 in
theorem tX11_seed {l : Launch} {w : WP} {sh : List Sh} {R : Rf} {μ : Mu} {r : Int32} {μ' : Mu} (hY : LY sh R) (n : Nat) (x1 : Int32)  (h : fX11_seed n x1 μ = some (r, μ')) : CM l w yX11_seed cX11_seed 3 (some .int) 3 0 0 sh R [.ref (wb w + 0), .int x1] μ (some (.int r)) sh R μ' := by
  refine CM.of (plainFor_of_name pf_X11) (Nat.le_of_ble_eq_true rfl) fun Z C hr _ hR hw hl hE => ?_
  subst hw; subst hl
  have C : CX Z cX11_seed 3 RX11 := C
  show Wm Z (0, 0, sh, R) μ 0 [(0, .ref (wb (zw Z) + 0)), (1, .int x1)] []
  unfold fX11_seed at h
  refine r_aload_n C dX11_seed_0 0 rfl ?_
  refine r_getR C flX11_49 dX11_seed_1 (ly0 hY) rfl (lr0_7 hY) ?_
  refine r_getI C flX11_205 dX11_seed_4 (isSt_0 (lyNow hY)) rfl ?_
  refine r_istore_n [(2, .int (rI μ 34 2)), (0, .ref (wb (zw Z) + 0)), (1, .int x1)] C dX11_seed_7 rfl (by decide) rfl ?_
  refine r_aload_n C dX11_seed_8 1 rfl ?_
  refine r_getR C flX11_59 dX11_seed_9 (ly0 hY) rfl (lr0_9 hY) ?_
  refine r_aload_n C dX11_seed_12 1 rfl ?_
  refine r_getR C flX11_49 dX11_seed_13 (ly0 hY) rfl (lr0_7 hY) ?_
  obtain ⟨m2, e1, h⟩ := bnd_inv h
  refine r_cVv (As := [.ref (wb (zw Z) + 34)]) (rest := []) C hR mlX11_208 dX11_seed_16 (tX1_keep hY n 34 (lyNow hY) e1) rfl rfl (ly48 hY) rfl (nle rfl) (nle rfl) (nle rfl) ?_
  refine r_aload_n C dX11_seed_19 1 rfl ?_
  refine r_getR C flX11_49 dX11_seed_20 (ly0 hY) rfl (lr0_7 hY) ?_
  refine r_iload_n C dX11_seed_23 2 rfl ?_
  refine r_putI C fiX11_205 dX11_seed_24 (isSt_0 (lyNow hY)) ?_
  refine r_iload_n C dX11_seed_27 0 rfl ?_
  obtain ⟨h1, h2⟩ := Prod.mk.inj (Option.some.inj h)
  subst h1; subst h2
  exact r_iret C dX11_seed_28 hr hE
def fX11_deed (n : Nat) (x1 : Int32) (μ : Mu) : Option (Int32 × Mu) := bnd (fX8_copyFrom n 41 34 μ) fun m2 => bnd2 (fX8_attempt n 34 (x1.toInt64) 2 m2) fun u4 m5 => if u4 = 0 then (bnd (fX1_keep n 41 m5) fun m8 => some (u4, m8)) else (some (u4, m5))
set_option maxRecDepth 100000 in
set_option maxHeartbeats 4000000 in
theorem tX11_deed {l : Launch} {w : WP} {sh : List Sh} {R : Rf} {μ : Mu} {r : Int32} {μ' : Mu} (hY : LY sh R) (n : Nat) (x1 : Int32)  (h : fX11_deed n x1 μ = some (r, μ')) : CM l w yX11_deed cX11_deed 3 (some .int) 6 0 0 sh R [.ref (wb w + 0), .int x1] μ (some (.int r)) sh R μ' := by
  refine CM.of (plainFor_of_name pf_X11) (Nat.le_of_ble_eq_true rfl) fun Z C hr _ hR hw hl hE => ?_
  subst hw; subst hl
  have C : CX Z cX11_deed 3 RX11 := C
  show Wm Z (0, 0, sh, R) μ 0 [(0, .ref (wb (zw Z) + 0)), (1, .int x1)] []
  unfold fX11_deed at h
  refine r_aload_n C dX11_deed_0 0 rfl ?_
  refine r_getR C flX11_53 dX11_deed_1 (ly0 hY) rfl (lr0_8 hY) ?_
  refine r_aload_n C dX11_deed_4 0 rfl ?_
  refine r_getR C flX11_49 dX11_deed_5 (ly0 hY) rfl (lr0_7 hY) ?_
  obtain ⟨m2, e1, h⟩ := bnd_inv h
  refine r_cVv (As := [.ref (wb (zw Z) + 34)]) (rest := []) C hR mlX11_236 dX11_deed_8 (tX8_copyFrom hY n 41 34 (lyProbe hY) (lyNow hY) e1) rfl rfl (isSt_0 (lyProbe hY)) rfl (nle rfl) (nle rfl) (nle rfl) ?_
  refine r_aload_n C dX11_deed_11 0 rfl ?_
  refine r_getR C flX11_49 dX11_deed_12 (ly0 hY) rfl (lr0_7 hY) ?_
  refine r_iload_n C dX11_deed_15 1 rfl ?_
  refine r_i2l C dX11_deed_16 ?_
  refine r_aload_n C dX11_deed_17 0 rfl ?_
  refine r_getR C flX11_26 dX11_deed_18 (ly0 hY) rfl (lr0_4 hY) ?_
  refine r_aload_n C dX11_deed_21 0 rfl ?_
  refine r_getR C flX11_42 dX11_deed_22 (ly0 hY) rfl (lr0_6 hY) ?_
  obtain ⟨u4, m5, e3, h⟩ := bnd2_inv h
  refine r_cVi (As := [.long (x1.toInt64), .ref (wb (zw Z) + 2), .ref (wb (zw Z) + 28)]) (rest := []) C hR mlX11_247 dX11_deed_25 (tX8_attempt hY n 34 (x1.toInt64) 2 (lyNow hY) (lySea hY) e3) rfl rfl (isSt_0 (lyNow hY)) rfl (nle rfl) (nle rfl) (nle rfl) ?_
  refine r_istore_n [(2, .int u4), (0, .ref (wb (zw Z) + 0)), (1, .int x1)] C dX11_deed_28 rfl (by decide) rfl ?_
  refine r_iload_n C dX11_deed_29 0 rfl ?_
  refine r_if_ne 44 C dX11_deed_30 (by decide) (fun c6 => ?_) (fun c6 => ?_)
  · have h := (ite_inv h).2 c6
    refine r_iload_n C dX11_deed_44 0 rfl ?_
    obtain ⟨h1, h2⟩ := Prod.mk.inj (Option.some.inj h)
    subst h1; subst h2
    exact r_iret C dX11_deed_45 hr hE
  · have h := (ite_inv h).1 c6
    refine r_aload_n C dX11_deed_33 1 rfl ?_
    refine r_getR C flX11_59 dX11_deed_34 (ly0 hY) rfl (lr0_9 hY) ?_
    refine r_aload_n C dX11_deed_37 1 rfl ?_
    refine r_getR C flX11_53 dX11_deed_38 (ly0 hY) rfl (lr0_8 hY) ?_
    obtain ⟨m8, e7, h⟩ := bnd_inv h
    refine r_cVv (As := [.ref (wb (zw Z) + 41)]) (rest := []) C hR mlX11_208 dX11_deed_41 (tX1_keep hY n 41 (lyProbe hY) e7) rfl rfl (ly48 hY) rfl (nle rfl) (nle rfl) (nle rfl) ?_
    refine r_iload_n C dX11_deed_44 0 rfl ?_
    obtain ⟨h1, h2⟩ := Prod.mk.inj (Option.some.inj h)
    subst h1; subst h2
    exact r_iret C dX11_deed_45 hr hE
def fX11_whisper (n : Nat) (x1 : Int32) (μ : Mu) : Option (Int32 × Mu) := bnd (fX11_isBeach n x1 μ) fun u2 => bnd2 (fX11_deed n (if u2 = 0 then 900 else x1) μ) fun u5 m6 => if u5 = 0 then (some ((rI m6 34 3) - 1, m6)) else (some ((-10) - u5, m6))
set_option maxRecDepth 100000 in
set_option maxHeartbeats 4000000 in
theorem tX11_whisper {l : Launch} {w : WP} {sh : List Sh} {R : Rf} {μ : Mu} {r : Int32} {μ' : Mu} (hY : LY sh R) (n : Nat) (x1 : Int32)  (h : fX11_whisper n x1 μ = some (r, μ')) : CM l w yX11_whisper cX11_whisper 3 (some .int) 7 0 0 sh R [.ref (wb w + 0), .int x1] μ (some (.int r)) sh R μ' := by
  refine CM.of (plainFor_of_name pf_X11) (Nat.le_of_ble_eq_true rfl) fun Z C hr _ hR hw hl hE => ?_
  subst hw; subst hl
  have C : CX Z cX11_whisper 3 RX11 := C
  show Wm Z (0, 0, sh, R) μ 0 [(0, .ref (wb (zw Z) + 0)), (1, .int x1)] []
  unfold fX11_whisper at h
  refine r_aload_n C dX11_whisper_0 0 rfl ?_
  refine r_aload_n C dX11_whisper_1 0 rfl ?_
  refine r_iload_n C dX11_whisper_2 1 rfl ?_
  obtain ⟨u2, e1, h⟩ := bnd_inv h
  refine r_cVi (As := [.int x1]) (rest := [.ref (wb (zw Z) + 0)]) C hR mlX11_194 dX11_whisper_3 (tX11_isBeach hY n x1  e1) rfl rfl (ly0 hY) rfl (nle rfl) (nle rfl) (nle rfl) ?_
  suffices hj : Wm Z (0, 0, sh, R) μ 16 [(0, .ref (wb (zw Z) + 0)), (1, .int x1)] [.int (if u2 = 0 then 900 else x1), .ref (wb (zw Z) + 0)] by
    refine r_if_eq 13 C dX11_whisper_6 (by decide) (fun c3 => ?_) (fun c3 => ?_)
    · refine r_sipush C dX11_whisper_13 sp_900 ?_
      exact sel_t c3 hj
    · refine r_iload_n C dX11_whisper_9 1 rfl ?_
      refine r_goto 16 C dX11_whisper_10 (by decide) ?_
      exact sel_f c3 hj
  obtain ⟨u5, m6, e4, h⟩ := bnd2_inv h
  refine r_cVi (As := [.int (if u2 = 0 then 900 else x1)]) (rest := []) C hR mlX11_212 dX11_whisper_16 (tX11_deed hY n (if u2 = 0 then 900 else x1)  e4) rfl rfl (ly0 hY) rfl (nle rfl) (nle rfl) (nle rfl) ?_
  refine r_istore_n [(2, .int u5), (0, .ref (wb (zw Z) + 0)), (1, .int x1)] C dX11_whisper_19 rfl (by decide) rfl ?_
  refine r_iload_n C dX11_whisper_20 0 rfl ?_
  refine r_if_ne 36 C dX11_whisper_21 (by decide) (fun c7 => ?_) (fun c7 => ?_)
  · have h := (ite_inv h).2 c7
    refine r_bipush C dX11_whisper_36 bp_m10 ?_
    refine r_iload_n C dX11_whisper_38 0 rfl ?_
    refine r_isub C dX11_whisper_39 ?_
    obtain ⟨h1, h2⟩ := Prod.mk.inj (Option.some.inj h)
    subst h1; subst h2
    exact r_iret C dX11_whisper_40 hr hE
  · have h := (ite_inv h).1 c7
    refine r_aload_n C dX11_whisper_24 1 rfl ?_
    refine r_getR C flX11_49 dX11_whisper_25 (ly0 hY) rfl (lr0_7 hY) ?_
    refine r_getI C flX11_215 dX11_whisper_28 (isSt_0 (lyNow hY)) rfl ?_
    refine r_iconst C dX11_whisper_31 ic_1 ?_
    refine r_isub C dX11_whisper_32 ?_
    refine r_goto 40 C dX11_whisper_33 (by decide) ?_
    obtain ⟨h1, h2⟩ := Prod.mk.inj (Option.some.inj h)
    subst h1; subst h2
    exact r_iret C dX11_whisper_40 hr hE
def fX11_give (n : Nat) (x1 : Int32) (x2 : Int32) (μ : Mu) : Option (Int32 × Mu) := bnd (fX11_isShell n x1 μ) fun u2 => if u2 = 0 then (some ((-11), μ)) else (bnd (fX11_isPerson n x2 μ) fun u5 => if u5 = 0 then (some ((-11), μ)) else (gd (ib x1 8) (bnd2 (fX11_deed n ((100 + (x1 * 100)) + x2) μ) fun u9 m10 => some (rI μ 35 (ix x1), m10))))
set_option maxRecDepth 100000 in
set_option maxHeartbeats 4000000 in
theorem tX11_give {l : Launch} {w : WP} {sh : List Sh} {R : Rf} {μ : Mu} {r : Int32} {μ' : Mu} (hY : LY sh R) (n : Nat) (x1 : Int32) (x2 : Int32)  (h : fX11_give n x1 x2 μ = some (r, μ')) : CM l w yX11_give cX11_give 4 (some .int) 7 0 0 sh R [.ref (wb w + 0), .int x1, .int x2] μ (some (.int r)) sh R μ' := by
  refine CM.of (plainFor_of_name pf_X11) (Nat.le_of_ble_eq_true rfl) fun Z C hr _ hR hw hl hE => ?_
  subst hw; subst hl
  have C : CX Z cX11_give 4 RX11 := C
  show Wm Z (0, 0, sh, R) μ 0 [(0, .ref (wb (zw Z) + 0)), (1, .int x1), (2, .int x2)] []
  unfold fX11_give at h
  refine r_aload_n C dX11_give_0 0 rfl ?_
  refine r_iload_n C dX11_give_1 1 rfl ?_
  obtain ⟨u2, e1, h⟩ := bnd_inv h
  refine r_cVi (As := [.int x1]) (rest := []) C hR mlX11_173 dX11_give_2 (tX11_isShell hY n x1  e1) rfl rfl (ly0 hY) rfl (nle rfl) (nle rfl) (nle rfl) ?_
  refine r_if_eq 16 C dX11_give_5 (by decide) (fun c3 => ?_) (fun c3 => ?_)
  · have h := (ite_inv h).1 c3
    refine r_bipush C dX11_give_16 bp_m11 ?_
    obtain ⟨h1, h2⟩ := Prod.mk.inj (Option.some.inj h)
    subst h1; subst h2
    exact r_iret C dX11_give_18 hr hE
  · have h := (ite_inv h).2 c3
    refine r_aload_n C dX11_give_8 0 rfl ?_
    refine r_iload_n C dX11_give_9 2 rfl ?_
    obtain ⟨u5, e4, h⟩ := bnd_inv h
    refine r_cVi (As := [.int x2]) (rest := []) C hR mlX11_146 dX11_give_10 (tX11_isPerson hY n x2  e4) rfl rfl (ly0 hY) rfl (nle rfl) (nle rfl) (nle rfl) ?_
    refine r_if_ne 19 C dX11_give_13 (by decide) (fun c6 => ?_) (fun c6 => ?_)
    · have h := (ite_inv h).2 c6
      refine r_aload_n C dX11_give_19 0 rfl ?_
      refine r_getR C flX11_49 dX11_give_20 (ly0 hY) rfl (lr0_7 hY) ?_
      refine r_getR C flX11_179 dX11_give_23 (isSt_0 (lyNow hY)) rfl (isSt_r4 (lyNow hY)) ?_
      refine r_iload_n C dX11_give_26 1 rfl ?_
      obtain ⟨b7, h⟩ := gd_inv h
      refine r_iald C dX11_give_27 (isSt_1 (lyNow hY)) b7 ?_
      refine r_istore_n [(3, .int (rI μ 35 (ix x1))), (0, .ref (wb (zw Z) + 0)), (1, .int x1), (2, .int x2)] C dX11_give_28 rfl (by decide) rfl ?_
      refine r_aload_n C dX11_give_29 1 rfl ?_
      refine r_bipush C dX11_give_30 bp_100 ?_
      refine r_iload_n C dX11_give_32 2 rfl ?_
      refine r_bipush C dX11_give_33 bp_100 ?_
      refine r_imul C dX11_give_35 ?_
      refine r_iadd C dX11_give_36 ?_
      refine r_iload_n C dX11_give_37 3 rfl ?_
      refine r_iadd C dX11_give_38 ?_
      obtain ⟨u9, m10, e8, h⟩ := bnd2_inv h
      refine r_cVi (As := [.int ((100 + (x1 * 100)) + x2)]) (rest := []) C hR mlX11_212 dX11_give_39 (tX11_deed hY n ((100 + (x1 * 100)) + x2)  e8) rfl rfl (ly0 hY) rfl (nle rfl) (nle rfl) (nle rfl) ?_
      refine r_pop C dX11_give_42 rfl ?_
      refine r_iload_n C dX11_give_43 0 rfl ?_
      obtain ⟨h1, h2⟩ := Prod.mk.inj (Option.some.inj h)
      subst h1; subst h2
      exact r_iret C dX11_give_44 hr hE
    · have h := (ite_inv h).1 c6
      refine r_bipush C dX11_give_16 bp_m11 ?_
      obtain ⟨h1, h2⟩ := Prod.mk.inj (Option.some.inj h)
      subst h1; subst h2
      exact r_iret C dX11_give_18 hr hE
def jX11_lay_21 (n : Nat) (x1 : Int32) (s0 : Int32) (μ : Mu) : Option (Int32 × Mu) := bnd (fX11_isShell n x1 μ) fun u5 => bnd2 (fX11_deed n (if u5 = 0 then 900 else (1000 + x1)) μ) fun u8 m9 => if u8 = 0 then (some (s0, m9)) else (some ((-10) - u8, m9))
set_option maxRecDepth 100000 in
set_option maxHeartbeats 4000000 in
theorem kX11_lay_21 {Z : ZC} {sh : List Sh} {R : Rf} {r : Int32} {μ' : Mu} (C : CX Z cX11_lay 4 RX11) (hR : zR Z = rm 7 0 0) (hY : LY sh R) (n : Nat) (x1 : Int32) (s0 : Int32) (μ : Mu) (h : jX11_lay_21 n x1 s0 μ = some (r, μ')) (hr : (zme Z).sig.returnType = (some .int)) (hE : zEnd Z (0, 0, sh, R) μ' (some (.int r))) : Wm Z (0, 0, sh, R) μ 21 [(0, .ref (wb (zw Z) + 0)), (1, .int x1)] [.int s0] := by
  unfold jX11_lay_21 at h
  refine r_istore_n [(2, .int s0), (0, .ref (wb (zw Z) + 0)), (1, .int x1)] C dX11_lay_21 rfl (by decide) rfl ?_
  refine r_aload_n C dX11_lay_22 1 rfl ?_
  refine r_aload_n C dX11_lay_23 1 rfl ?_
  refine r_iload_n C dX11_lay_24 2 rfl ?_
  obtain ⟨u5, e4, h⟩ := bnd_inv h
  refine r_cVi (As := [.int x1]) (rest := [.ref (wb (zw Z) + 0)]) C hR mlX11_173 dX11_lay_25 (tX11_isShell hY n x1  e4) rfl rfl (ly0 hY) rfl (nle rfl) (nle rfl) (nle rfl) ?_
  suffices hj : Wm Z (0, 0, sh, R) μ 42 [(2, .int s0), (0, .ref (wb (zw Z) + 0)), (1, .int x1)] [.int (if u5 = 0 then 900 else (1000 + x1)), .ref (wb (zw Z) + 0)] by
    refine r_if_eq 39 C dX11_lay_28 (by decide) (fun c6 => ?_) (fun c6 => ?_)
    · refine r_sipush C dX11_lay_39 sp_900 ?_
      exact sel_t c6 hj
    · refine r_sipush C dX11_lay_31 sp_1000 ?_
      refine r_iload_n C dX11_lay_34 2 rfl ?_
      refine r_iadd C dX11_lay_35 ?_
      refine r_goto 42 C dX11_lay_36 (by decide) ?_
      exact sel_f c6 hj
  obtain ⟨u8, m9, e7, h⟩ := bnd2_inv h
  refine r_cVi (As := [.int (if u5 = 0 then 900 else (1000 + x1))]) (rest := []) C hR mlX11_212 dX11_lay_42 (tX11_deed hY n (if u5 = 0 then 900 else (1000 + x1))  e7) rfl rfl (ly0 hY) rfl (nle rfl) (nle rfl) (nle rfl) ?_
  refine r_istore_n [(3, .int u8), (2, .int s0), (0, .ref (wb (zw Z) + 0)), (1, .int x1)] C dX11_lay_45 rfl (by decide) rfl ?_
  refine r_iload_n C dX11_lay_46 0 rfl ?_
  refine r_if_ne 54 C dX11_lay_47 (by decide) (fun c10 => ?_) (fun c10 => ?_)
  · have h := (ite_inv h).2 c10
    refine r_bipush C dX11_lay_54 bp_m10 ?_
    refine r_iload_n C dX11_lay_56 0 rfl ?_
    refine r_isub C dX11_lay_57 ?_
    obtain ⟨h1, h2⟩ := Prod.mk.inj (Option.some.inj h)
    subst h1; subst h2
    exact r_iret C dX11_lay_58 hr hE
  · have h := (ite_inv h).1 c10
    refine r_iload_n C dX11_lay_50 1 rfl ?_
    refine r_goto 58 C dX11_lay_51 (by decide) ?_
    obtain ⟨h1, h2⟩ := Prod.mk.inj (Option.some.inj h)
    subst h1; subst h2
    exact r_iret C dX11_lay_58 hr hE
def fX11_lay (n : Nat) (x1 : Int32) (μ : Mu) : Option (Int32 × Mu) := bnd (fX11_isShell n x1 μ) fun u2 => if u2 = 0 then (jX11_lay_21 n x1 (-1) μ) else (gd (ib x1 8) (jX11_lay_21 n x1 (rI μ 35 (ix x1)) μ))
set_option maxRecDepth 100000 in
set_option maxHeartbeats 4000000 in
theorem tX11_lay {l : Launch} {w : WP} {sh : List Sh} {R : Rf} {μ : Mu} {r : Int32} {μ' : Mu} (hY : LY sh R) (n : Nat) (x1 : Int32)  (h : fX11_lay n x1 μ = some (r, μ')) : CM l w yX11_lay cX11_lay 4 (some .int) 7 0 0 sh R [.ref (wb w + 0), .int x1] μ (some (.int r)) sh R μ' := by
  refine CM.of (plainFor_of_name pf_X11) (Nat.le_of_ble_eq_true rfl) fun Z C hr _ hR hw hl hE => ?_
  subst hw; subst hl
  have C : CX Z cX11_lay 4 RX11 := C
  show Wm Z (0, 0, sh, R) μ 0 [(0, .ref (wb (zw Z) + 0)), (1, .int x1)] []
  unfold fX11_lay at h
  refine r_aload_n C dX11_lay_0 0 rfl ?_
  refine r_iload_n C dX11_lay_1 1 rfl ?_
  obtain ⟨u2, e1, h⟩ := bnd_inv h
  refine r_cVi (As := [.int x1]) (rest := []) C hR mlX11_173 dX11_lay_2 (tX11_isShell hY n x1  e1) rfl rfl (ly0 hY) rfl (nle rfl) (nle rfl) (nle rfl) ?_
  refine r_if_eq 20 C dX11_lay_5 (by decide) (fun c3 => ?_) (fun c3 => ?_)
  · have h := (ite_inv h).1 c3
    refine r_iconst C dX11_lay_20 ic_m1 ?_
    exact kX11_lay_21 C hR hY n   x1 (-1) μ h hr hE
  · have h := (ite_inv h).2 c3
    refine r_aload_n C dX11_lay_8 0 rfl ?_
    refine r_getR C flX11_49 dX11_lay_9 (ly0 hY) rfl (lr0_7 hY) ?_
    refine r_getR C flX11_179 dX11_lay_12 (isSt_0 (lyNow hY)) rfl (isSt_r4 (lyNow hY)) ?_
    refine r_iload_n C dX11_lay_15 1 rfl ?_
    obtain ⟨b11, h⟩ := gd_inv h
    refine r_iald C dX11_lay_16 (isSt_1 (lyNow hY)) b11 ?_
    refine r_goto 21 C dX11_lay_17 (by decide) ?_
    exact kX11_lay_21 C hR hY n   x1 (rI μ 35 (ix x1)) μ h hr hE
def fX11_gale (n : Nat) (x1 : Int32) (μ : Mu) : Option (Int32 × Mu) := bnd (fX11_within n x1 0 99 μ) fun u2 => if u2 = 0 then (some ((-3), μ)) else (bnd2 (fX11_deed n (2000 + x1) μ) fun u5 m6 => some (rI μ 34 1, m6))
set_option maxRecDepth 100000 in
set_option maxHeartbeats 4000000 in
theorem tX11_gale {l : Launch} {w : WP} {sh : List Sh} {R : Rf} {μ : Mu} {r : Int32} {μ' : Mu} (hY : LY sh R) (n : Nat) (x1 : Int32)  (h : fX11_gale n x1 μ = some (r, μ')) : CM l w yX11_gale cX11_gale 3 (some .int) 7 0 0 sh R [.ref (wb w + 0), .int x1] μ (some (.int r)) sh R μ' := by
  refine CM.of (plainFor_of_name pf_X11) (Nat.le_of_ble_eq_true rfl) fun Z C hr _ hR hw hl hE => ?_
  subst hw; subst hl
  have C : CX Z cX11_gale 3 RX11 := C
  show Wm Z (0, 0, sh, R) μ 0 [(0, .ref (wb (zw Z) + 0)), (1, .int x1)] []
  unfold fX11_gale at h
  refine r_iload_n C dX11_gale_0 1 rfl ?_
  refine r_iconst C dX11_gale_1 ic_0 ?_
  refine r_bipush C dX11_gale_2 bp_99 ?_
  obtain ⟨u2, e1, h⟩ := bnd_inv h
  refine r_cSi (As := [.int x1, .int 0, .int 99]) (rest := []) C hR mlX11_197 dX11_gale_4 (tX11_within hY n x1 0 99  e1) rfl rfl (nle rfl) (nle rfl) (nle rfl) ?_
  refine r_if_ne 13 C dX11_gale_7 (by decide) (fun c3 => ?_) (fun c3 => ?_)
  · have h := (ite_inv h).2 c3
    refine r_aload_n C dX11_gale_13 0 rfl ?_
    refine r_getR C flX11_49 dX11_gale_14 (ly0 hY) rfl (lr0_7 hY) ?_
    refine r_getI C flX11_139 dX11_gale_17 (isSt_0 (lyNow hY)) rfl ?_
    refine r_istore_n [(2, .int (rI μ 34 1)), (0, .ref (wb (zw Z) + 0)), (1, .int x1)] C dX11_gale_20 rfl (by decide) rfl ?_
    refine r_aload_n C dX11_gale_21 1 rfl ?_
    refine r_sipush C dX11_gale_22 sp_2000 ?_
    refine r_iload_n C dX11_gale_25 2 rfl ?_
    refine r_iadd C dX11_gale_26 ?_
    obtain ⟨u5, m6, e4, h⟩ := bnd2_inv h
    refine r_cVi (As := [.int (2000 + x1)]) (rest := []) C hR mlX11_212 dX11_gale_27 (tX11_deed hY n (2000 + x1)  e4) rfl rfl (ly0 hY) rfl (nle rfl) (nle rfl) (nle rfl) ?_
    refine r_pop C dX11_gale_30 rfl ?_
    refine r_iload_n C dX11_gale_31 0 rfl ?_
    obtain ⟨h1, h2⟩ := Prod.mk.inj (Option.some.inj h)
    subst h1; subst h2
    exact r_iret C dX11_gale_32 hr hE
  · have h := (ite_inv h).1 c3
    refine r_bipush C dX11_gale_10 bp_m3 ?_
    obtain ⟨h1, h2⟩ := Prod.mk.inj (Option.some.inj h)
    subst h1; subst h2
    exact r_iret C dX11_gale_12 hr hE
def sX11_hours_28 (n : Nat) (x1 : Int32) : Int32 × Int32 × Mu → Option ((Int32 × Int32 × Mu) ⊕ (Int32 × Mu)) := fun q => match q with | (x2, x3, μ) => if x1 ≤ x3 then (some (.inr (x2, μ))) else (bnd2 (fX8_passHour n 34 2 μ) fun u8 m9 => some (.inl (x2 + u8, x3 + 1, m9)))
set_option maxRecDepth 100000 in
set_option maxHeartbeats 4000000 in
theorem lX11_hours_28 {Z : ZC} {sh : List Sh} {R : Rf} {o : (Int32 × Int32 × Mu) ⊕ (Int32 × Mu)} (C : CX Z cX11_hours 4 RX11) (hR : zR Z = rm 5 0 0) (hY : LY sh R) (n : Nat) (x1 : Int32) (x2 : Int32) (x3 : Int32) (μ : Mu) (h : sX11_hours_28 n x1 (x2, x3, μ) = some o) (kin : ∀ (x2 : Int32) (x3 : Int32) (μ : Mu), o = .inl (x2, x3, μ) → Wm Z (0, 0, sh, R) μ 28 [(0, .ref (wb (zw Z) + 0)), (1, .int x1), (2, .int x2), (3, .int x3)] []) (kex0 : ∀ (x2 : Int32) (μ : Mu), o = .inr (x2, μ) → Wm Z (0, 0, sh, R) μ 57 [(2, .int x2)] []) : Wm Z (0, 0, sh, R) μ 28 [(0, .ref (wb (zw Z) + 0)), (1, .int x1), (2, .int x2), (3, .int x3)] [] := by
  unfold sX11_hours_28 at h
  refine r_iload_n C dX11_hours_28 3 rfl ?_
  refine r_iload_n C dX11_hours_29 1 rfl ?_
  refine r_icmp_ge 57 C dX11_hours_30 (by decide) (fun c6 => ?_) (fun c6 => ?_)
  · have h := (ite_inv h).1 c6
    refine r_sub [(2, .int x2)] [2] rfl ?_
    exact kex0 x2 μ (Option.some.inj h).symm
  · have h := (ite_inv h).2 c6
    refine r_iload_n C dX11_hours_33 2 rfl ?_
    refine r_aload_n C dX11_hours_34 0 rfl ?_
    refine r_getR C flX11_49 dX11_hours_35 (ly0 hY) rfl (lr0_7 hY) ?_
    refine r_aload_n C dX11_hours_38 0 rfl ?_
    refine r_getR C flX11_26 dX11_hours_39 (ly0 hY) rfl (lr0_4 hY) ?_
    refine r_aload_n C dX11_hours_42 0 rfl ?_
    refine r_getR C flX11_42 dX11_hours_43 (ly0 hY) rfl (lr0_6 hY) ?_
    obtain ⟨u8, m9, e7, h⟩ := bnd2_inv h
    refine r_cVi (As := [.ref (wb (zw Z) + 2), .ref (wb (zw Z) + 28)]) (rest := [.int x2]) C hR mlX11_218 dX11_hours_46 (tX8_passHour hY n 34 2 (lyNow hY) (lySea hY) e7) rfl rfl (isSt_0 (lyNow hY)) rfl (nle rfl) (nle rfl) (nle rfl) ?_
    refine r_iadd C dX11_hours_49 ?_
    refine r_istore_n [(2, .int (x2 + u8)), (0, .ref (wb (zw Z) + 0)), (1, .int x1), (3, .int x3)] C dX11_hours_50 rfl (by decide) rfl ?_
    refine r_iinc [(3, .int (x3 + 1)), (2, .int (x2 + u8)), (0, .ref (wb (zw Z) + 0)), (1, .int x1)] C dX11_hours_51 3 rfl (in_1 _) (by decide) rfl ?_
    refine r_goto 28 C dX11_hours_54 (by decide) ?_
    refine r_sub [(0, .ref (wb (zw Z) + 0)), (1, .int x1), (2, .int (x2 + u8)), (3, .int (x3 + 1))] [2, 3, 1, 0] rfl ?_
    exact kin (x2 + u8) (x3 + 1) m9 (Option.some.inj h).symm
def fX11_hours (n : Nat) (x1 : Int32) (μ : Mu) : Option (Int32 × Mu) := bnd (fX11_within n x1 1 48 μ) fun u2 => if u2 = 0 then (some ((-3), μ)) else (bnd (fX1_keep n 34 μ) fun m5 => bnd (lp n (sX11_hours_28 n x1) (0, 0, m5)) fun q => match q with | (u10, m11) => some (u10, m11))
set_option maxRecDepth 100000 in
set_option maxHeartbeats 4000000 in
theorem tX11_hours {l : Launch} {w : WP} {sh : List Sh} {R : Rf} {μ : Mu} {r : Int32} {μ' : Mu} (hY : LY sh R) (n : Nat) (x1 : Int32)  (h : fX11_hours n x1 μ = some (r, μ')) : CM l w yX11_hours cX11_hours 4 (some .int) 5 0 0 sh R [.ref (wb w + 0), .int x1] μ (some (.int r)) sh R μ' := by
  refine CM.of (plainFor_of_name pf_X11) (Nat.le_of_ble_eq_true rfl) fun Z C hr _ hR hw hl hE => ?_
  subst hw; subst hl
  have C : CX Z cX11_hours 4 RX11 := C
  show Wm Z (0, 0, sh, R) μ 0 [(0, .ref (wb (zw Z) + 0)), (1, .int x1)] []
  unfold fX11_hours at h
  refine r_iload_n C dX11_hours_0 1 rfl ?_
  refine r_iconst C dX11_hours_1 ic_1 ?_
  refine r_bipush C dX11_hours_2 bp_48 ?_
  obtain ⟨u2, e1, h⟩ := bnd_inv h
  refine r_cSi (As := [.int x1, .int 1, .int 48]) (rest := []) C hR mlX11_197 dX11_hours_4 (tX11_within hY n x1 1 48  e1) rfl rfl (nle rfl) (nle rfl) (nle rfl) ?_
  refine r_if_ne 13 C dX11_hours_7 (by decide) (fun c3 => ?_) (fun c3 => ?_)
  · have h := (ite_inv h).2 c3
    refine r_aload_n C dX11_hours_13 0 rfl ?_
    refine r_getR C flX11_59 dX11_hours_14 (ly0 hY) rfl (lr0_9 hY) ?_
    refine r_aload_n C dX11_hours_17 0 rfl ?_
    refine r_getR C flX11_49 dX11_hours_18 (ly0 hY) rfl (lr0_7 hY) ?_
    obtain ⟨m5, e4, h⟩ := bnd_inv h
    refine r_cVv (As := [.ref (wb (zw Z) + 34)]) (rest := []) C hR mlX11_208 dX11_hours_21 (tX1_keep hY n 34 (lyNow hY) e4) rfl rfl (ly48 hY) rfl (nle rfl) (nle rfl) (nle rfl) ?_
    refine r_iconst C dX11_hours_24 ic_0 ?_
    refine r_istore_n [(2, .int 0), (0, .ref (wb (zw Z) + 0)), (1, .int x1)] C dX11_hours_25 rfl (by decide) rfl ?_
    refine r_iconst C dX11_hours_26 ic_0 ?_
    refine r_istore_n [(3, .int 0), (2, .int 0), (0, .ref (wb (zw Z) + 0)), (1, .int x1)] C dX11_hours_27 rfl (by decide) rfl ?_
    refine r_sub [(0, .ref (wb (zw Z) + 0)), (1, .int x1), (2, .int 0), (3, .int 0)] [2, 3, 1, 0] rfl ?_
    obtain ⟨⟨u10, m11⟩, e12, h⟩ := bnd_inv h
    refine lp_all (sX11_hours_28 n x1) (fun q => match q with | (z2, z3, ν) => Wm Z (0, 0, sh, R) (ν) 28 [(0, .ref (wb (zw Z) + 0)), (1, .int x1), (2, .int z2), (3, .int z3)] []) (fun q => match q with | (z2, ν) => Wm Z (0, 0, sh, R) (ν) 57 [(2, .int z2)] []) (fun q o h kin kex => ?_) n (0, 0, m5) (u10, m11) e12 ?_
    · obtain ⟨z2, z3, ν⟩ := q; exact lX11_hours_28 C hR hY n   x1 z2 z3 ν h (fun z2 z3 ν e => kin (z2, z3, ν) e) (fun z2 ν e => kex (z2, ν) e)
    show Wm Z (0, 0, sh, R) m11 57 [(2, .int u10)] []
    refine r_iload_n C dX11_hours_57 0 rfl ?_
    obtain ⟨h1, h2⟩ := Prod.mk.inj (Option.some.inj h)
    subst h1; subst h2
    exact r_iret C dX11_hours_58 hr hE
  · have h := (ite_inv h).1 c3
    refine r_bipush C dX11_hours_10 bp_m3 ?_
    obtain ⟨h1, h2⟩ := Prod.mk.inj (Option.some.inj h)
    subst h1; subst h2
    exact r_iret C dX11_hours_12 hr hE
def fX11_undo (n : Nat) (x1 : Int32) (μ : Mu) : Option (Int32 × Mu) := bnd (fX11_within n x1 1 (rI μ 48 2) μ) fun u2 => if u2 = 0 then (some ((-3), μ)) else (bnd (fX1_takeBack n 34 x1 μ) fun m5 => some (rI m5 48 2, m5))
set_option maxRecDepth 100000 in
set_option maxHeartbeats 4000000 in
theorem tX11_undo {l : Launch} {w : WP} {sh : List Sh} {R : Rf} {μ : Mu} {r : Int32} {μ' : Mu} (hY : LY sh R) (n : Nat) (x1 : Int32)  (h : fX11_undo n x1 μ = some (r, μ')) : CM l w yX11_undo cX11_undo 2 (some .int) 3 0 0 sh R [.ref (wb w + 0), .int x1] μ (some (.int r)) sh R μ' := by
  refine CM.of (plainFor_of_name pf_X11) (Nat.le_of_ble_eq_true rfl) fun Z C hr _ hR hw hl hE => ?_
  subst hw; subst hl
  have C : CX Z cX11_undo 2 RX11 := C
  show Wm Z (0, 0, sh, R) μ 0 [(0, .ref (wb (zw Z) + 0)), (1, .int x1)] []
  unfold fX11_undo at h
  refine r_iload_n C dX11_undo_0 1 rfl ?_
  refine r_iconst C dX11_undo_1 ic_1 ?_
  refine r_aload_n C dX11_undo_2 0 rfl ?_
  refine r_getR C flX11_59 dX11_undo_3 (ly0 hY) rfl (lr0_9 hY) ?_
  refine r_getI C flX11_222 dX11_undo_6 (ly48 hY) rfl ?_
  obtain ⟨u2, e1, h⟩ := bnd_inv h
  refine r_cSi (As := [.int x1, .int 1, .int (rI μ 48 2)]) (rest := []) C hR mlX11_197 dX11_undo_9 (tX11_within hY n x1 1 (rI μ 48 2)  e1) rfl rfl (nle rfl) (nle rfl) (nle rfl) ?_
  refine r_if_ne 18 C dX11_undo_12 (by decide) (fun c3 => ?_) (fun c3 => ?_)
  · have h := (ite_inv h).2 c3
    refine r_aload_n C dX11_undo_18 0 rfl ?_
    refine r_getR C flX11_59 dX11_undo_19 (ly0 hY) rfl (lr0_9 hY) ?_
    refine r_aload_n C dX11_undo_22 0 rfl ?_
    refine r_getR C flX11_49 dX11_undo_23 (ly0 hY) rfl (lr0_7 hY) ?_
    refine r_iload_n C dX11_undo_26 1 rfl ?_
    obtain ⟨m5, e4, h⟩ := bnd_inv h
    refine r_cVv (As := [.ref (wb (zw Z) + 34), .int x1]) (rest := []) C hR mlX11_225 dX11_undo_27 (tX1_takeBack hY n 34 x1 (lyNow hY) e4) rfl rfl (ly48 hY) rfl (nle rfl) (nle rfl) (nle rfl) ?_
    refine r_aload_n C dX11_undo_30 0 rfl ?_
    refine r_getR C flX11_59 dX11_undo_31 (ly0 hY) rfl (lr0_9 hY) ?_
    refine r_getI C flX11_222 dX11_undo_34 (ly48 hY) rfl ?_
    obtain ⟨h1, h2⟩ := Prod.mk.inj (Option.some.inj h)
    subst h1; subst h2
    exact r_iret C dX11_undo_37 hr hE
  · have h := (ite_inv h).1 c3
    refine r_bipush C dX11_undo_15 bp_m3 ?_
    obtain ⟨h1, h2⟩ := Prod.mk.inj (Option.some.inj h)
    subst h1; subst h2
    exact r_iret C dX11_undo_17 hr hE
def fX11_isTray (n : Nat) (x1 : Int32) (μ : Mu) : Option (Int32) := if x1 < 0 then (some 0) else (if 4 ≤ x1 then (some 0) else (some 1))
set_option maxRecDepth 100000 in
set_option maxHeartbeats 4000000 in
theorem tX11_isTray {l : Launch} {w : WP} {sh : List Sh} {R : Rf} {μ : Mu} {r : Int32} (hY : LY sh R) (n : Nat) (x1 : Int32)  (h : fX11_isTray n x1 μ = some r) : CM l w yX11_isTray cX11_isTray 2 (some .boolean) 0 0 0 sh R [.ref (wb w + 0), .int x1] μ (some (.int r)) sh R μ := by
  refine CM.of (plainFor_of_name pf_X11) (Nat.le_of_ble_eq_true rfl) fun Z C hr _ hR hw hl hE => ?_
  subst hw; subst hl
  have C : CX Z cX11_isTray 2 RX11 := C
  show Wm Z (0, 0, sh, R) μ 0 [(0, .ref (wb (zw Z) + 0)), (1, .int x1)] []
  unfold fX11_isTray at h
  refine r_iload_n C dX11_isTray_0 1 rfl ?_
  refine r_if_lt 13 C dX11_isTray_1 (by decide) (fun c1 => ?_) (fun c1 => ?_)
  · have h := (ite_inv h).1 c1
    refine r_iconst C dX11_isTray_13 ic_0 ?_
    have h := Option.some.inj h
    subst h
    exact r_zret C dX11_isTray_14 hr rfl hE
  · have h := (ite_inv h).2 c1
    refine r_iload_n C dX11_isTray_4 1 rfl ?_
    refine r_iconst C dX11_isTray_5 ic_4 ?_
    refine r_icmp_ge 13 C dX11_isTray_6 (by decide) (fun c2 => ?_) (fun c2 => ?_)
    · have h := (ite_inv h).1 c2
      refine r_iconst C dX11_isTray_13 ic_0 ?_
      have h := Option.some.inj h
      subst h
      exact r_zret C dX11_isTray_14 hr rfl hE
    · have h := (ite_inv h).2 c2
      refine r_iconst C dX11_isTray_9 ic_1 ?_
      refine r_goto 14 C dX11_isTray_10 (by decide) ?_
      have h := Option.some.inj h
      subst h
      exact r_zret C dX11_isTray_14 hr rfl hE
def fX11_judge (n : Nat) (x1 : Int32) (x2 : Int32) (μ : Mu) : Option (Int32 × Mu) := bnd (fX11_isTray n x1 μ) fun u2 => if u2 = 0 then (some ((-2), μ)) else (bnd (fX11_within n x2 0 3 μ) fun u5 => if u5 = 0 then (some ((-2), μ)) else (gd (ib x1 4) (bnd (fX10_isMissing n (129 + 2 * ix x1) μ) fun u9 => if u9 = 0 then (bnd (fX8_copyFrom n 41 34 μ) fun m12 => bnd2 (fX8_attemptAll n 41 (129 + 2 * ix x1) 2 m12) fun u14 m15 => if x2 = 0 then (if (if u14 = (rI m15 (129 + 2 * ix x1) 1) then 1 else 0 : Int32) = 0 then (some (u14, m15)) else (some ((-1), m15))) else (if x2 = 1 then (if (if u14 = (rI m15 (129 + 2 * ix x1) 1) then 1 else 0 : Int32) = 0 then (gd (ib u14 40) (bnd2 (fX8_attempt n 41 (rL m15 ((129 + 2 * ix x1) + 1) (ix u14)) 2 m15) fun u23 m24 => some (u23, m24))) else (some (0, m15))) else (if x2 = 2 then (some (rI m15 41 0, m15)) else (bnd (fX8_heardAll n 41 2 m15) fun u27 => some (u27, m15))))) else (some ((-6), μ)))))
set_option maxRecDepth 100000 in
set_option maxHeartbeats 4000000 in
theorem tX11_judge {l : Launch} {w : WP} {sh : List Sh} {R : Rf} {μ : Mu} {r : Int32} {μ' : Mu} (hY : LY sh R) (n : Nat) (x1 : Int32) (x2 : Int32)  (h : fX11_judge n x1 x2 μ = some (r, μ')) : CM l w yX11_judge cX11_judge 6 (some .int) 7 0 0 sh R [.ref (wb w + 0), .int x1, .int x2] μ (some (.int r)) sh R μ' := by
  refine CM.of (plainFor_of_name pf_X11) (Nat.le_of_ble_eq_true rfl) fun Z C hr _ hR hw hl hE => ?_
  subst hw; subst hl
  have C : CX Z cX11_judge 6 RX11 := C
  show Wm Z (0, 0, sh, R) μ 0 [(0, .ref (wb (zw Z) + 0)), (1, .int x1), (2, .int x2)] []
  unfold fX11_judge at h
  refine r_aload_n C dX11_judge_0 0 rfl ?_
  refine r_iload_n C dX11_judge_1 1 rfl ?_
  obtain ⟨u2, e1, h⟩ := bnd_inv h
  refine r_cVi (As := [.int x1]) (rest := []) C hR mlX11_229 dX11_judge_2 (tX11_isTray hY n x1  e1) rfl rfl (ly0 hY) rfl (nle rfl) (nle rfl) (nle rfl) ?_
  refine r_if_eq 17 C dX11_judge_5 (by decide) (fun c3 => ?_) (fun c3 => ?_)
  · have h := (ite_inv h).1 c3
    refine r_bipush C dX11_judge_17 bp_m2 ?_
    obtain ⟨h1, h2⟩ := Prod.mk.inj (Option.some.inj h)
    subst h1; subst h2
    exact r_iret C dX11_judge_19 hr hE
  · have h := (ite_inv h).2 c3
    refine r_iload_n C dX11_judge_8 2 rfl ?_
    refine r_iconst C dX11_judge_9 ic_0 ?_
    refine r_iconst C dX11_judge_10 ic_3 ?_
    obtain ⟨u5, e4, h⟩ := bnd_inv h
    refine r_cSi (As := [.int x2, .int 0, .int 3]) (rest := []) C hR mlX11_197 dX11_judge_11 (tX11_within hY n x2 0 3  e4) rfl rfl (nle rfl) (nle rfl) (nle rfl) ?_
    refine r_if_ne 20 C dX11_judge_14 (by decide) (fun c6 => ?_) (fun c6 => ?_)
    · have h := (ite_inv h).2 c6
      refine r_aload_n C dX11_judge_20 0 rfl ?_
      refine r_getR C flX11_81 dX11_judge_21 (ly0 hY) rfl (lr0_12 hY) ?_
      refine r_iload_n C dX11_judge_24 1 rfl ?_
      obtain ⟨b7, h⟩ := gd_inv h
      refine r_aald C dX11_judge_25 (ly128 hY) (by decide) rfl rfl b7 (lyTray hY b7).2 ?_
      refine r_astore_n [(3, .ref (wb (zw Z) + (129 + 2 * ix x1))), (0, .ref (wb (zw Z) + 0)), (1, .int x1), (2, .int x2)] C dX11_judge_26 rfl (by decide) rfl ?_
      refine r_aload_n C dX11_judge_27 0 rfl ?_
      obtain ⟨u9, e8, h⟩ := bnd_inv h
      refine r_cVi (As := []) (rest := []) C hR mlX11_232 dX11_judge_28 (tX10_isMissing hY n (129 + 2 * ix x1) (lyTray hY b7).1 e8) rfl rfl (isTr_0 (lyTray hY b7).1) rfl (nle rfl) (nle rfl) (nle rfl) ?_
      refine r_if_eq 37 C dX11_judge_31 (by decide) (fun c10 => ?_) (fun c10 => ?_)
      · have h := (ite_inv h).1 c10
        refine r_aload_n C dX11_judge_37 1 rfl ?_
        refine r_getR C flX11_53 dX11_judge_38 (ly0 hY) rfl (lr0_8 hY) ?_
        refine r_aload_n C dX11_judge_41 1 rfl ?_
        refine r_getR C flX11_49 dX11_judge_42 (ly0 hY) rfl (lr0_7 hY) ?_
        obtain ⟨m12, e11, h⟩ := bnd_inv h
        refine r_cVv (As := [.ref (wb (zw Z) + 34)]) (rest := []) C hR mlX11_236 dX11_judge_45 (tX8_copyFrom hY n 41 34 (lyProbe hY) (lyNow hY) e11) rfl rfl (isSt_0 (lyProbe hY)) rfl (nle rfl) (nle rfl) (nle rfl) ?_
        refine r_aload_n C dX11_judge_48 1 rfl ?_
        refine r_getR C flX11_53 dX11_judge_49 (ly0 hY) rfl (lr0_8 hY) ?_
        refine r_aload_n C dX11_judge_52 0 rfl ?_
        refine r_aload_n C dX11_judge_53 1 rfl ?_
        refine r_getR C flX11_26 dX11_judge_54 (ly0 hY) rfl (lr0_4 hY) ?_
        refine r_aload_n C dX11_judge_57 1 rfl ?_
        refine r_getR C flX11_42 dX11_judge_58 (ly0 hY) rfl (lr0_6 hY) ?_
        obtain ⟨u14, m15, e13, h⟩ := bnd2_inv h
        refine r_cVi (As := [.ref (wb (zw Z) + (129 + 2 * ix x1)), .ref (wb (zw Z) + 2), .ref (wb (zw Z) + 28)]) (rest := []) C hR mlX11_238 dX11_judge_61 (tX8_attemptAll hY n 41 (129 + 2 * ix x1) 2 (lyProbe hY) (lyTray hY b7).1 (lySea hY) e13) rfl rfl (isSt_0 (lyProbe hY)) rfl (nle rfl) (nle rfl) (nle rfl) ?_
        refine r_istore [(4, .int u14), (3, .ref (wb (zw Z) + (129 + 2 * ix x1))), (0, .ref (wb (zw Z) + 0)), (1, .int x1), (2, .int x2)] C dX11_judge_64 (by decide) rfl ?_
        refine r_iload C dX11_judge_66 0 rfl ?_
        refine r_aload_n C dX11_judge_68 1 rfl ?_
        refine r_getI C flX11_242 dX11_judge_69 (isTr_0 (lyTray hY b7).1) rfl ?_
        suffices hj : Wm Z (0, 0, sh, R) m15 80 [(4, .int u14), (3, .ref (wb (zw Z) + (129 + 2 * ix x1))), (0, .ref (wb (zw Z) + 0)), (1, .int x1), (2, .int x2)] [.int (if u14 = (rI m15 (129 + 2 * ix x1) 1) then 1 else 0 : Int32)] by
          refine r_icmp_ne 79 C dX11_judge_72 (by decide) (fun c16 => ?_) (fun c16 => ?_)
          · refine r_iconst C dX11_judge_79 ic_0 ?_
            exact sel_f c16 hj
          · refine r_iconst C dX11_judge_75 ic_1 ?_
            refine r_goto 80 C dX11_judge_76 (by decide) ?_
            exact sel_t c16 hj
        refine r_istore [(5, .int (if u14 = (rI m15 (129 + 2 * ix x1) 1) then 1 else 0 : Int32)), (4, .int u14), (3, .ref (wb (zw Z) + (129 + 2 * ix x1))), (0, .ref (wb (zw Z) + 0)), (1, .int x1), (2, .int x2)] C dX11_judge_80 (by decide) rfl ?_
        refine r_iload_n C dX11_judge_82 5 rfl ?_
        by_cases c17 : x2 = 0
        · have h := (ite_inv h).1 c17
          refine r_tabIn 108 C dX11_judge_83 (by rw [c17, ti_0]; decide) (by rw [c17, ti_0]; decide) (by rw [c17, ti_0]; rfl) (by decide) ?_
          refine r_iload C dX11_judge_108 0 rfl ?_
          refine r_if_eq 117 C dX11_judge_110 (by decide) (fun c18 => ?_) (fun c18 => ?_)
          · have h := (ite_inv h).1 c18
            refine r_iload C dX11_judge_117 1 rfl ?_
            obtain ⟨h1, h2⟩ := Prod.mk.inj (Option.some.inj h)
            subst h1; subst h2
            exact r_iret C dX11_judge_119 hr hE
          · have h := (ite_inv h).2 c18
            refine r_iconst C dX11_judge_113 ic_m1 ?_
            refine r_goto 119 C dX11_judge_114 (by decide) ?_
            obtain ⟨h1, h2⟩ := Prod.mk.inj (Option.some.inj h)
            subst h1; subst h2
            exact r_iret C dX11_judge_119 hr hE
        have h := (ite_inv h).2 c17
        by_cases c19 : x2 = 1
        · have h := (ite_inv h).1 c19
          refine r_tabIn 120 C dX11_judge_83 (by rw [c19, ti_1]; decide) (by rw [c19, ti_1]; decide) (by rw [c19, ti_1]; rfl) (by decide) ?_
          refine r_iload C dX11_judge_120 0 rfl ?_
          refine r_if_eq 129 C dX11_judge_122 (by decide) (fun c20 => ?_) (fun c20 => ?_)
          · have h := (ite_inv h).1 c20
            refine r_aload_n C dX11_judge_129 3 rfl ?_
            refine r_getR C flX11_53 dX11_judge_130 (ly0 hY) rfl (lr0_8 hY) ?_
            refine r_aload_n C dX11_judge_133 2 rfl ?_
            refine r_getR C flX11_243 dX11_judge_134 (isTr_0 (lyTray hY b7).1) rfl (isTr_r0 (lyTray hY b7).1) ?_
            refine r_iload C dX11_judge_137 1 rfl ?_
            obtain ⟨b21, h⟩ := gd_inv h
            refine r_lald C dX11_judge_139 (isTr_1 (lyTray hY b7).1) b21 ?_
            refine r_aload_n C dX11_judge_140 3 rfl ?_
            refine r_getR C flX11_26 dX11_judge_141 (ly0 hY) rfl (lr0_4 hY) ?_
            refine r_aload_n C dX11_judge_144 3 rfl ?_
            refine r_getR C flX11_42 dX11_judge_145 (ly0 hY) rfl (lr0_6 hY) ?_
            obtain ⟨u23, m24, e22, h⟩ := bnd2_inv h
            refine r_cVi (As := [.long (rL m15 ((129 + 2 * ix x1) + 1) (ix u14)), .ref (wb (zw Z) + 2), .ref (wb (zw Z) + 28)]) (rest := []) C hR mlX11_247 dX11_judge_148 (tX8_attempt hY n 41 (rL m15 ((129 + 2 * ix x1) + 1) (ix u14)) 2 (lyProbe hY) (lySea hY) e22) rfl rfl (isSt_0 (lyProbe hY)) rfl (nle rfl) (nle rfl) (nle rfl) ?_
            obtain ⟨h1, h2⟩ := Prod.mk.inj (Option.some.inj h)
            subst h1; subst h2
            exact r_iret C dX11_judge_151 hr hE
          · have h := (ite_inv h).2 c20
            refine r_iconst C dX11_judge_125 ic_0 ?_
            refine r_goto 151 C dX11_judge_126 (by decide) ?_
            obtain ⟨h1, h2⟩ := Prod.mk.inj (Option.some.inj h)
            subst h1; subst h2
            exact r_iret C dX11_judge_151 hr hE
        have h := (ite_inv h).2 c19
        by_cases c25 : x2 = 2
        · have h := (ite_inv h).1 c25
          refine r_tabIn 152 C dX11_judge_83 (by rw [c25, ti_2]; decide) (by rw [c25, ti_2]; decide) (by rw [c25, ti_2]; rfl) (by decide) ?_
          refine r_aload_n C dX11_judge_152 3 rfl ?_
          refine r_getR C flX11_53 dX11_judge_153 (ly0 hY) rfl (lr0_8 hY) ?_
          refine r_getI C flX11_136 dX11_judge_156 (isSt_0 (lyProbe hY)) rfl ?_
          obtain ⟨h1, h2⟩ := Prod.mk.inj (Option.some.inj h)
          subst h1; subst h2
          exact r_iret C dX11_judge_159 hr hE
        have h := (ite_inv h).2 c25
        suffices hj : Wm Z (0, 0, sh, R) m15 160 [(5, .int (if u14 = (rI m15 (129 + 2 * ix x1) 1) then 1 else 0 : Int32)), (4, .int u14), (3, .ref (wb (zw Z) + (129 + 2 * ix x1))), (0, .ref (wb (zw Z) + 0)), (1, .int x1), (2, .int x2)] [] by
          have q0 := tne c17 ti_0
          have q1 := tne c19 ti_1
          have q2 := tne c25 ti_2
          exact r_tabOut 160 C dX11_judge_83 (by omega) (by decide) hj
        refine r_aload_n C dX11_judge_160 3 rfl ?_
        refine r_getR C flX11_53 dX11_judge_161 (ly0 hY) rfl (lr0_8 hY) ?_
        refine r_aload_n C dX11_judge_164 3 rfl ?_
        refine r_getR C flX11_26 dX11_judge_165 (ly0 hY) rfl (lr0_4 hY) ?_
        obtain ⟨u27, e26, h⟩ := bnd_inv h
        refine r_cVi (As := [.ref (wb (zw Z) + 2)]) (rest := []) C hR mlX11_251 dX11_judge_168 (tX8_heardAll hY n 41 2 (lyProbe hY) (lySea hY) e26) rfl rfl (isSt_0 (lyProbe hY)) rfl (nle rfl) (nle rfl) (nle rfl) ?_
        obtain ⟨h1, h2⟩ := Prod.mk.inj (Option.some.inj h)
        subst h1; subst h2
        exact r_iret C dX11_judge_171 hr hE
      · have h := (ite_inv h).2 c10
        refine r_bipush C dX11_judge_34 bp_m6 ?_
        obtain ⟨h1, h2⟩ := Prod.mk.inj (Option.some.inj h)
        subst h1; subst h2
        exact r_iret C dX11_judge_36 hr hE
    · have h := (ite_inv h).1 c6
      refine r_bipush C dX11_judge_17 bp_m2 ?_
      obtain ⟨h1, h2⟩ := Prod.mk.inj (Option.some.inj h)
      subst h1; subst h2
      exact r_iret C dX11_judge_19 hr hE
def fX11_perform (n : Nat) (x1 : Int32) (μ : Mu) : Option (Int32 × Mu) := bnd (fX11_isTray n x1 μ) fun u2 => if u2 = 0 then (some ((-2), μ)) else (gd (ib x1 4) (bnd (fX10_isMissing n (129 + 2 * ix x1) μ) fun u6 => if u6 = 0 then (bnd (fX8_copyFrom n 41 34 μ) fun m9 => gd (ib x1 4) (bnd2 (fX8_attemptAll n 41 (129 + 2 * ix x1) 2 m9) fun u12 m13 => if u12 ≤ 0 then (some (u12, m13)) else (bnd (fX1_keep n 34 m13) fun m16 => bnd (fX8_copyFrom n 34 41 m16) fun m18 => some (u12, m18)))) else (some ((-6), μ))))
set_option maxRecDepth 100000 in
set_option maxHeartbeats 4000000 in
theorem tX11_perform {l : Launch} {w : WP} {sh : List Sh} {R : Rf} {μ : Mu} {r : Int32} {μ' : Mu} (hY : LY sh R) (n : Nat) (x1 : Int32)  (h : fX11_perform n x1 μ = some (r, μ')) : CM l w yX11_perform cX11_perform 3 (some .int) 7 0 0 sh R [.ref (wb w + 0), .int x1] μ (some (.int r)) sh R μ' := by
  refine CM.of (plainFor_of_name pf_X11) (Nat.le_of_ble_eq_true rfl) fun Z C hr _ hR hw hl hE => ?_
  subst hw; subst hl
  have C : CX Z cX11_perform 3 RX11 := C
  show Wm Z (0, 0, sh, R) μ 0 [(0, .ref (wb (zw Z) + 0)), (1, .int x1)] []
  unfold fX11_perform at h
  refine r_aload_n C dX11_perform_0 0 rfl ?_
  refine r_iload_n C dX11_perform_1 1 rfl ?_
  obtain ⟨u2, e1, h⟩ := bnd_inv h
  refine r_cVi (As := [.int x1]) (rest := []) C hR mlX11_229 dX11_perform_2 (tX11_isTray hY n x1  e1) rfl rfl (ly0 hY) rfl (nle rfl) (nle rfl) (nle rfl) ?_
  refine r_if_ne 11 C dX11_perform_5 (by decide) (fun c3 => ?_) (fun c3 => ?_)
  · have h := (ite_inv h).2 c3
    refine r_aload_n C dX11_perform_11 0 rfl ?_
    refine r_getR C flX11_81 dX11_perform_12 (ly0 hY) rfl (lr0_12 hY) ?_
    refine r_iload_n C dX11_perform_15 1 rfl ?_
    obtain ⟨b4, h⟩ := gd_inv h
    refine r_aald C dX11_perform_16 (ly128 hY) (by decide) rfl rfl b4 (lyTray hY b4).2 ?_
    obtain ⟨u6, e5, h⟩ := bnd_inv h
    refine r_cVi (As := []) (rest := []) C hR mlX11_232 dX11_perform_17 (tX10_isMissing hY n (129 + 2 * ix x1) (lyTray hY b4).1 e5) rfl rfl (isTr_0 (lyTray hY b4).1) rfl (nle rfl) (nle rfl) (nle rfl) ?_
    refine r_if_eq 26 C dX11_perform_20 (by decide) (fun c7 => ?_) (fun c7 => ?_)
    · have h := (ite_inv h).1 c7
      refine r_aload_n C dX11_perform_26 0 rfl ?_
      refine r_getR C flX11_53 dX11_perform_27 (ly0 hY) rfl (lr0_8 hY) ?_
      refine r_aload_n C dX11_perform_30 0 rfl ?_
      refine r_getR C flX11_49 dX11_perform_31 (ly0 hY) rfl (lr0_7 hY) ?_
      obtain ⟨m9, e8, h⟩ := bnd_inv h
      refine r_cVv (As := [.ref (wb (zw Z) + 34)]) (rest := []) C hR mlX11_236 dX11_perform_34 (tX8_copyFrom hY n 41 34 (lyProbe hY) (lyNow hY) e8) rfl rfl (isSt_0 (lyProbe hY)) rfl (nle rfl) (nle rfl) (nle rfl) ?_
      refine r_aload_n C dX11_perform_37 0 rfl ?_
      refine r_getR C flX11_53 dX11_perform_38 (ly0 hY) rfl (lr0_8 hY) ?_
      refine r_aload_n C dX11_perform_41 0 rfl ?_
      refine r_getR C flX11_81 dX11_perform_42 (ly0 hY) rfl (lr0_12 hY) ?_
      refine r_iload_n C dX11_perform_45 1 rfl ?_
      obtain ⟨b10, h⟩ := gd_inv h
      refine r_aald C dX11_perform_46 (ly128 hY) (by decide) rfl rfl b10 (lyTray hY b10).2 ?_
      refine r_aload_n C dX11_perform_47 0 rfl ?_
      refine r_getR C flX11_26 dX11_perform_48 (ly0 hY) rfl (lr0_4 hY) ?_
      refine r_aload_n C dX11_perform_51 0 rfl ?_
      refine r_getR C flX11_42 dX11_perform_52 (ly0 hY) rfl (lr0_6 hY) ?_
      obtain ⟨u12, m13, e11, h⟩ := bnd2_inv h
      refine r_cVi (As := [.ref (wb (zw Z) + (129 + 2 * ix x1)), .ref (wb (zw Z) + 2), .ref (wb (zw Z) + 28)]) (rest := []) C hR mlX11_238 dX11_perform_55 (tX8_attemptAll hY n 41 (129 + 2 * ix x1) 2 (lyProbe hY) (lyTray hY b10).1 (lySea hY) e11) rfl rfl (isSt_0 (lyProbe hY)) rfl (nle rfl) (nle rfl) (nle rfl) ?_
      refine r_istore_n [(2, .int u12), (0, .ref (wb (zw Z) + 0)), (1, .int x1)] C dX11_perform_58 rfl (by decide) rfl ?_
      refine r_iload_n C dX11_perform_59 0 rfl ?_
      refine r_if_le 85 C dX11_perform_60 (by decide) (fun c14 => ?_) (fun c14 => ?_)
      · have h := (ite_inv h).1 c14
        refine r_iload_n C dX11_perform_85 0 rfl ?_
        obtain ⟨h1, h2⟩ := Prod.mk.inj (Option.some.inj h)
        subst h1; subst h2
        exact r_iret C dX11_perform_86 hr hE
      · have h := (ite_inv h).2 c14
        refine r_aload_n C dX11_perform_63 1 rfl ?_
        refine r_getR C flX11_59 dX11_perform_64 (ly0 hY) rfl (lr0_9 hY) ?_
        refine r_aload_n C dX11_perform_67 1 rfl ?_
        refine r_getR C flX11_49 dX11_perform_68 (ly0 hY) rfl (lr0_7 hY) ?_
        obtain ⟨m16, e15, h⟩ := bnd_inv h
        refine r_cVv (As := [.ref (wb (zw Z) + 34)]) (rest := []) C hR mlX11_208 dX11_perform_71 (tX1_keep hY n 34 (lyNow hY) e15) rfl rfl (ly48 hY) rfl (nle rfl) (nle rfl) (nle rfl) ?_
        refine r_aload_n C dX11_perform_74 1 rfl ?_
        refine r_getR C flX11_49 dX11_perform_75 (ly0 hY) rfl (lr0_7 hY) ?_
        refine r_aload_n C dX11_perform_78 1 rfl ?_
        refine r_getR C flX11_53 dX11_perform_79 (ly0 hY) rfl (lr0_8 hY) ?_
        obtain ⟨m18, e17, h⟩ := bnd_inv h
        refine r_cVv (As := [.ref (wb (zw Z) + 41)]) (rest := []) C hR mlX11_236 dX11_perform_82 (tX8_copyFrom hY n 34 41 (lyNow hY) (lyProbe hY) e17) rfl rfl (isSt_0 (lyNow hY)) rfl (nle rfl) (nle rfl) (nle rfl) ?_
        refine r_iload_n C dX11_perform_85 0 rfl ?_
        obtain ⟨h1, h2⟩ := Prod.mk.inj (Option.some.inj h)
        subst h1; subst h2
        exact r_iret C dX11_perform_86 hr hE
    · have h := (ite_inv h).2 c7
      refine r_bipush C dX11_perform_23 bp_m6 ?_
      obtain ⟨h1, h2⟩ := Prod.mk.inj (Option.some.inj h)
      subst h1; subst h2
      exact r_iret C dX11_perform_25 hr hE
  · have h := (ite_inv h).1 c3
    refine r_bipush C dX11_perform_8 bp_m2 ?_
    obtain ⟨h1, h2⟩ := Prod.mk.inj (Option.some.inj h)
    subst h1; subst h2
    exact r_iret C dX11_perform_10 hr hE
def sX11_days_37 (n : Nat) (x2 : Int32) : Int32 × Int32 × Mu → Option ((Int32 × Int32 × Mu) ⊕ (Int32 × Mu)) := fun q => match q with | (x3, x4, μ) => if x2 ≤ x4 then (some (.inr (x3, μ))) else (bnd2 (fX8_drawDeed n 41 2 μ) fun u8 m9 => if u8 = 0 then (some (.inl (x3, x4 + 1, m9))) else (some (.inl (x3 + 1, x4 + 1, m9))))
set_option maxRecDepth 100000 in
set_option maxHeartbeats 4000000 in
theorem lX11_days_37 {Z : ZC} {sh : List Sh} {R : Rf} {o : (Int32 × Int32 × Mu) ⊕ (Int32 × Mu)} (C : CX Z cX11_days 5 RX11) (hR : zR Z = rm 7 0 0) (hY : LY sh R) (n : Nat) (x2 : Int32) (x3 : Int32) (x4 : Int32) (μ : Mu) (h : sX11_days_37 n x2 (x3, x4, μ) = some o) (kin : ∀ (x3 : Int32) (x4 : Int32) (μ : Mu), o = .inl (x3, x4, μ) → Wm Z (0, 0, sh, R) μ 37 [(0, .ref (wb (zw Z) + 0)), (2, .int x2), (3, .int x3), (4, .int x4)] []) (kex0 : ∀ (x3 : Int32) (μ : Mu), o = .inr (x3, μ) → Wm Z (0, 0, sh, R) μ 70 [(0, .ref (wb (zw Z) + 0)), (3, .int x3)] []) : Wm Z (0, 0, sh, R) μ 37 [(0, .ref (wb (zw Z) + 0)), (2, .int x2), (3, .int x3), (4, .int x4)] [] := by
  unfold sX11_days_37 at h
  refine r_iload C dX11_days_37 3 rfl ?_
  refine r_iload_n C dX11_days_39 1 rfl ?_
  refine r_icmp_ge 70 C dX11_days_40 (by decide) (fun c6 => ?_) (fun c6 => ?_)
  · have h := (ite_inv h).1 c6
    refine r_sub [(0, .ref (wb (zw Z) + 0)), (3, .int x3)] [0, 2] rfl ?_
    exact kex0 x3 μ (Option.some.inj h).symm
  · have h := (ite_inv h).2 c6
    refine r_aload_n C dX11_days_43 0 rfl ?_
    refine r_getR C flX11_53 dX11_days_44 (ly0 hY) rfl (lr0_8 hY) ?_
    refine r_aload_n C dX11_days_47 0 rfl ?_
    refine r_getR C flX11_26 dX11_days_48 (ly0 hY) rfl (lr0_4 hY) ?_
    refine r_aload_n C dX11_days_51 0 rfl ?_
    refine r_getR C flX11_42 dX11_days_52 (ly0 hY) rfl (lr0_6 hY) ?_
    obtain ⟨u8, m9, e7, h⟩ := bnd2_inv h
    refine r_cVi (As := [.ref (wb (zw Z) + 2), .ref (wb (zw Z) + 28)]) (rest := []) C hR mlX11_255 dX11_days_55 (tX8_drawDeed hY n 41 2 (lyProbe hY) (lySea hY) e7) rfl rfl (isSt_0 (lyProbe hY)) rfl (nle rfl) (nle rfl) (nle rfl) ?_
    refine r_if_eq 64 C dX11_days_58 (by decide) (fun c10 => ?_) (fun c10 => ?_)
    · have h := (ite_inv h).1 c10
      refine r_iinc [(4, .int (x4 + 1)), (0, .ref (wb (zw Z) + 0)), (2, .int x2), (3, .int x3)] C dX11_days_64 3 rfl (in_1 _) (by decide) rfl ?_
      refine r_goto 37 C dX11_days_67 (by decide) ?_
      refine r_sub [(0, .ref (wb (zw Z) + 0)), (2, .int x2), (3, .int x3), (4, .int (x4 + 1))] [1, 2, 3, 0] rfl ?_
      exact kin x3 (x4 + 1) m9 (Option.some.inj h).symm
    · have h := (ite_inv h).2 c10
      refine r_iinc [(3, .int (x3 + 1)), (0, .ref (wb (zw Z) + 0)), (2, .int x2), (4, .int x4)] C dX11_days_61 2 rfl (in_1 _) (by decide) rfl ?_
      refine r_iinc [(4, .int (x4 + 1)), (3, .int (x3 + 1)), (0, .ref (wb (zw Z) + 0)), (2, .int x2)] C dX11_days_64 3 rfl (in_1 _) (by decide) rfl ?_
      refine r_goto 37 C dX11_days_67 (by decide) ?_
      refine r_sub [(0, .ref (wb (zw Z) + 0)), (2, .int x2), (3, .int (x3 + 1)), (4, .int (x4 + 1))] [2, 3, 1, 0] rfl ?_
      exact kin (x3 + 1) (x4 + 1) m9 (Option.some.inj h).symm
def fX11_days (n : Nat) (x1 : Int32) (x2 : Int32) (μ : Mu) : Option (Int32 × Mu) := bnd (fX11_within n x2 1 30 μ) fun u2 => if u2 = 0 then (some ((-3), μ)) else (bnd (fX8_copyFrom n 41 34 μ) fun m5 => bnd (lp n (sX11_days_37 n x2) (0, 0, wI m5 41 2 x1)) fun q => match q with | (u11, m12) => if u11 ≤ 0 then (some (u11, m12)) else (bnd (fX1_keep n 34 m12) fun m16 => bnd (fX8_copyFrom n 34 41 m16) fun m18 => some (u11, m18)))
set_option maxRecDepth 100000 in
set_option maxHeartbeats 4000000 in
theorem tX11_days {l : Launch} {w : WP} {sh : List Sh} {R : Rf} {μ : Mu} {r : Int32} {μ' : Mu} (hY : LY sh R) (n : Nat) (x1 : Int32) (x2 : Int32)  (h : fX11_days n x1 x2 μ = some (r, μ')) : CM l w yX11_days cX11_days 5 (some .int) 7 0 0 sh R [.ref (wb w + 0), .int x1, .int x2] μ (some (.int r)) sh R μ' := by
  refine CM.of (plainFor_of_name pf_X11) (Nat.le_of_ble_eq_true rfl) fun Z C hr _ hR hw hl hE => ?_
  subst hw; subst hl
  have C : CX Z cX11_days 5 RX11 := C
  show Wm Z (0, 0, sh, R) μ 0 [(0, .ref (wb (zw Z) + 0)), (1, .int x1), (2, .int x2)] []
  unfold fX11_days at h
  refine r_iload_n C dX11_days_0 2 rfl ?_
  refine r_iconst C dX11_days_1 ic_1 ?_
  refine r_bipush C dX11_days_2 bp_30 ?_
  obtain ⟨u2, e1, h⟩ := bnd_inv h
  refine r_cSi (As := [.int x2, .int 1, .int 30]) (rest := []) C hR mlX11_197 dX11_days_4 (tX11_within hY n x2 1 30  e1) rfl rfl (nle rfl) (nle rfl) (nle rfl) ?_
  refine r_if_ne 13 C dX11_days_7 (by decide) (fun c3 => ?_) (fun c3 => ?_)
  · have h := (ite_inv h).2 c3
    refine r_aload_n C dX11_days_13 0 rfl ?_
    refine r_getR C flX11_53 dX11_days_14 (ly0 hY) rfl (lr0_8 hY) ?_
    refine r_aload_n C dX11_days_17 0 rfl ?_
    refine r_getR C flX11_49 dX11_days_18 (ly0 hY) rfl (lr0_7 hY) ?_
    obtain ⟨m5, e4, h⟩ := bnd_inv h
    refine r_cVv (As := [.ref (wb (zw Z) + 34)]) (rest := []) C hR mlX11_236 dX11_days_21 (tX8_copyFrom hY n 41 34 (lyProbe hY) (lyNow hY) e4) rfl rfl (isSt_0 (lyProbe hY)) rfl (nle rfl) (nle rfl) (nle rfl) ?_
    refine r_aload_n C dX11_days_24 0 rfl ?_
    refine r_getR C flX11_53 dX11_days_25 (ly0 hY) rfl (lr0_8 hY) ?_
    refine r_iload_n C dX11_days_28 1 rfl ?_
    refine r_putI C fiX11_205 dX11_days_29 (isSt_0 (lyProbe hY)) ?_
    refine r_iconst C dX11_days_32 ic_0 ?_
    refine r_istore_n [(3, .int 0), (0, .ref (wb (zw Z) + 0)), (1, .int x1), (2, .int x2)] C dX11_days_33 rfl (by decide) rfl ?_
    refine r_iconst C dX11_days_34 ic_0 ?_
    refine r_istore [(4, .int 0), (3, .int 0), (0, .ref (wb (zw Z) + 0)), (1, .int x1), (2, .int x2)] C dX11_days_35 (by decide) rfl ?_
    refine r_sub [(0, .ref (wb (zw Z) + 0)), (2, .int x2), (3, .int 0), (4, .int 0)] [2, 4, 1, 0] rfl ?_
    obtain ⟨⟨u11, m12⟩, e13, h⟩ := bnd_inv h
    refine lp_all (sX11_days_37 n x2) (fun q => match q with | (z3, z4, ν) => Wm Z (0, 0, sh, R) (ν) 37 [(0, .ref (wb (zw Z) + 0)), (2, .int x2), (3, .int z3), (4, .int z4)] []) (fun q => match q with | (z3, ν) => Wm Z (0, 0, sh, R) (ν) 70 [(0, .ref (wb (zw Z) + 0)), (3, .int z3)] []) (fun q o h kin kex => ?_) n (0, 0, wI m5 41 2 x1) (u11, m12) e13 ?_
    · obtain ⟨z3, z4, ν⟩ := q; exact lX11_days_37 C hR hY n   x2 z3 z4 ν h (fun z3 z4 ν e => kin (z3, z4, ν) e) (fun z3 ν e => kex (z3, ν) e)
    show Wm Z (0, 0, sh, R) m12 70 [(0, .ref (wb (zw Z) + 0)), (3, .int u11)] []
    refine r_iload_n C dX11_days_70 1 rfl ?_
    refine r_if_le 96 C dX11_days_71 (by decide) (fun c14 => ?_) (fun c14 => ?_)
    · have h := (ite_inv h).1 c14
      refine r_iload_n C dX11_days_96 1 rfl ?_
      obtain ⟨h1, h2⟩ := Prod.mk.inj (Option.some.inj h)
      subst h1; subst h2
      exact r_iret C dX11_days_97 hr hE
    · have h := (ite_inv h).2 c14
      refine r_aload_n C dX11_days_74 0 rfl ?_
      refine r_getR C flX11_59 dX11_days_75 (ly0 hY) rfl (lr0_9 hY) ?_
      refine r_aload_n C dX11_days_78 0 rfl ?_
      refine r_getR C flX11_49 dX11_days_79 (ly0 hY) rfl (lr0_7 hY) ?_
      obtain ⟨m16, e15, h⟩ := bnd_inv h
      refine r_cVv (As := [.ref (wb (zw Z) + 34)]) (rest := []) C hR mlX11_208 dX11_days_82 (tX1_keep hY n 34 (lyNow hY) e15) rfl rfl (ly48 hY) rfl (nle rfl) (nle rfl) (nle rfl) ?_
      refine r_aload_n C dX11_days_85 0 rfl ?_
      refine r_getR C flX11_49 dX11_days_86 (ly0 hY) rfl (lr0_7 hY) ?_
      refine r_aload_n C dX11_days_89 0 rfl ?_
      refine r_getR C flX11_53 dX11_days_90 (ly0 hY) rfl (lr0_8 hY) ?_
      obtain ⟨m18, e17, h⟩ := bnd_inv h
      refine r_cVv (As := [.ref (wb (zw Z) + 41)]) (rest := []) C hR mlX11_236 dX11_days_93 (tX8_copyFrom hY n 34 41 (lyNow hY) (lyProbe hY) e17) rfl rfl (isSt_0 (lyNow hY)) rfl (nle rfl) (nle rfl) (nle rfl) ?_
      refine r_iload_n C dX11_days_96 1 rfl ?_
      obtain ⟨h1, h2⟩ := Prod.mk.inj (Option.some.inj h)
      subst h1; subst h2
      exact r_iret C dX11_days_97 hr hE
  · have h := (ite_inv h).1 c3
    refine r_bipush C dX11_days_10 bp_m3 ?_
    obtain ⟨h1, h2⟩ := Prod.mk.inj (Option.some.inj h)
    subst h1; subst h2
    exact r_iret C dX11_days_12 hr hE
def sX11_comesIn_32 (n : Nat) (x1 : Int32) (x2 : Int32) : Int32 × Mu → Option ((Int32 × Mu) ⊕ ((Int32 × Mu) ⊕ (Mu))) := fun q => match q with | (x3, μ) => if 99 < x3 then (some (.inr (.inr μ))) else (gd (ib x1 8) (if ((shr (rI μ 43 (ix x1)) x2) &&& 1) = 1 then (some (.inr (.inl (x3, μ)))) else (bnd2 (fX8_passHour n 41 2 μ) fun u13 m14 => some (.inl (x3 + 1, m14)))))
set_option maxRecDepth 100000 in
set_option maxHeartbeats 4000000 in
theorem lX11_comesIn_32 {Z : ZC} {sh : List Sh} {R : Rf} {o : (Int32 × Mu) ⊕ ((Int32 × Mu) ⊕ (Mu))} (C : CX Z cX11_comesIn 4 RX11) (hR : zR Z = rm 5 0 0) (hY : LY sh R) (n : Nat) (x1 : Int32) (x2 : Int32) (x3 : Int32) (μ : Mu) (h : sX11_comesIn_32 n x1 x2 (x3, μ) = some o) (kin : ∀ (x3 : Int32) (μ : Mu), o = .inl (x3, μ) → Wm Z (0, 0, sh, R) μ 32 [(0, .ref (wb (zw Z) + 0)), (1, .int x1), (2, .int x2), (3, .int x3)] []) (kex0 : ∀ (x3 : Int32) (μ : Mu), o = .inr (.inl (x3, μ)) → Wm Z (0, 0, sh, R) μ 55 [(3, .int x3)] []) (kex1 : ∀ (μ : Mu), o = .inr (.inr μ) → Wm Z (0, 0, sh, R) μ 79 [] []) : Wm Z (0, 0, sh, R) μ 32 [(0, .ref (wb (zw Z) + 0)), (1, .int x1), (2, .int x2), (3, .int x3)] [] := by
  unfold sX11_comesIn_32 at h
  refine r_iload_n C dX11_comesIn_32 3 rfl ?_
  refine r_bipush C dX11_comesIn_33 bp_99 ?_
  refine r_icmp_gt 79 C dX11_comesIn_35 (by decide) (fun c9 => ?_) (fun c9 => ?_)
  · have h := (ite_inv h).1 c9
    refine r_sub [] [] rfl ?_
    exact kex1 μ (Option.some.inj h).symm
  · have h := (ite_inv h).2 c9
    refine r_aload_n C dX11_comesIn_38 0 rfl ?_
    refine r_getR C flX11_53 dX11_comesIn_39 (ly0 hY) rfl (lr0_8 hY) ?_
    refine r_getR C flX11_185 dX11_comesIn_42 (isSt_0 (lyProbe hY)) rfl (isSt_r5 (lyProbe hY)) ?_
    refine r_iload_n C dX11_comesIn_45 1 rfl ?_
    obtain ⟨b10, h⟩ := gd_inv h
    refine r_iald C dX11_comesIn_46 (isSt_2 (lyProbe hY)) b10 ?_
    refine r_iload_n C dX11_comesIn_47 2 rfl ?_
    refine r_ishr C dX11_comesIn_48 ?_
    refine r_iconst C dX11_comesIn_49 ic_1 ?_
    refine r_iand C dX11_comesIn_50 ?_
    refine r_iconst C dX11_comesIn_51 ic_1 ?_
    refine r_icmp_ne 57 C dX11_comesIn_52 (by decide) (fun c11 => ?_) (fun c11 => ?_)
    · have h := (ite_inv h).2 c11
      refine r_aload_n C dX11_comesIn_57 0 rfl ?_
      refine r_getR C flX11_53 dX11_comesIn_58 (ly0 hY) rfl (lr0_8 hY) ?_
      refine r_aload_n C dX11_comesIn_61 0 rfl ?_
      refine r_getR C flX11_26 dX11_comesIn_62 (ly0 hY) rfl (lr0_4 hY) ?_
      refine r_aload_n C dX11_comesIn_65 0 rfl ?_
      refine r_getR C flX11_42 dX11_comesIn_66 (ly0 hY) rfl (lr0_6 hY) ?_
      obtain ⟨u13, m14, e12, h⟩ := bnd2_inv h
      refine r_cVi (As := [.ref (wb (zw Z) + 2), .ref (wb (zw Z) + 28)]) (rest := []) C hR mlX11_218 dX11_comesIn_69 (tX8_passHour hY n 41 2 (lyProbe hY) (lySea hY) e12) rfl rfl (isSt_0 (lyProbe hY)) rfl (nle rfl) (nle rfl) (nle rfl) ?_
      refine r_pop C dX11_comesIn_72 rfl ?_
      refine r_iinc [(3, .int (x3 + 1)), (0, .ref (wb (zw Z) + 0)), (1, .int x1), (2, .int x2)] C dX11_comesIn_73 3 rfl (in_1 _) (by decide) rfl ?_
      refine r_goto 32 C dX11_comesIn_76 (by decide) ?_
      refine r_sub [(0, .ref (wb (zw Z) + 0)), (1, .int x1), (2, .int x2), (3, .int (x3 + 1))] [1, 2, 3, 0] rfl ?_
      exact kin (x3 + 1) m14 (Option.some.inj h).symm
    · have h := (ite_inv h).1 c11
      refine r_sub [(3, .int x3)] [3] rfl ?_
      exact kex0 x3 μ (Option.some.inj h).symm
def fX11_comesIn (n : Nat) (x1 : Int32) (x2 : Int32) (μ : Mu) : Option (Int32 × Mu) := bnd (fX11_isWord n x1 μ) fun u2 => if u2 = 0 then (some ((-2), μ)) else (bnd (fX11_isBeach n x2 μ) fun u5 => if u5 = 0 then (some ((-2), μ)) else (bnd (fX8_copyFrom n 41 34 μ) fun m8 => bnd (lp n (sX11_comesIn_32 n x1 x2) (0, m8)) fun q => match q with | .inl (u15, m16) => (some (u15, m16)) | .inr m17 => (some ((-1), m17))))
set_option maxRecDepth 100000 in
set_option maxHeartbeats 4000000 in
theorem tX11_comesIn {l : Launch} {w : WP} {sh : List Sh} {R : Rf} {μ : Mu} {r : Int32} {μ' : Mu} (hY : LY sh R) (n : Nat) (x1 : Int32) (x2 : Int32)  (h : fX11_comesIn n x1 x2 μ = some (r, μ')) : CM l w yX11_comesIn cX11_comesIn 4 (some .int) 5 0 0 sh R [.ref (wb w + 0), .int x1, .int x2] μ (some (.int r)) sh R μ' := by
  refine CM.of (plainFor_of_name pf_X11) (Nat.le_of_ble_eq_true rfl) fun Z C hr _ hR hw hl hE => ?_
  subst hw; subst hl
  have C : CX Z cX11_comesIn 4 RX11 := C
  show Wm Z (0, 0, sh, R) μ 0 [(0, .ref (wb (zw Z) + 0)), (1, .int x1), (2, .int x2)] []
  unfold fX11_comesIn at h
  refine r_aload_n C dX11_comesIn_0 0 rfl ?_
  refine r_iload_n C dX11_comesIn_1 1 rfl ?_
  obtain ⟨u2, e1, h⟩ := bnd_inv h
  refine r_cVi (As := [.int x1]) (rest := []) C hR mlX11_182 dX11_comesIn_2 (tX11_isWord hY n x1  e1) rfl rfl (ly0 hY) rfl (nle rfl) (nle rfl) (nle rfl) ?_
  refine r_if_eq 16 C dX11_comesIn_5 (by decide) (fun c3 => ?_) (fun c3 => ?_)
  · have h := (ite_inv h).1 c3
    refine r_bipush C dX11_comesIn_16 bp_m2 ?_
    obtain ⟨h1, h2⟩ := Prod.mk.inj (Option.some.inj h)
    subst h1; subst h2
    exact r_iret C dX11_comesIn_18 hr hE
  · have h := (ite_inv h).2 c3
    refine r_aload_n C dX11_comesIn_8 0 rfl ?_
    refine r_iload_n C dX11_comesIn_9 2 rfl ?_
    obtain ⟨u5, e4, h⟩ := bnd_inv h
    refine r_cVi (As := [.int x2]) (rest := []) C hR mlX11_194 dX11_comesIn_10 (tX11_isBeach hY n x2  e4) rfl rfl (ly0 hY) rfl (nle rfl) (nle rfl) (nle rfl) ?_
    refine r_if_ne 19 C dX11_comesIn_13 (by decide) (fun c6 => ?_) (fun c6 => ?_)
    · have h := (ite_inv h).2 c6
      refine r_aload_n C dX11_comesIn_19 0 rfl ?_
      refine r_getR C flX11_53 dX11_comesIn_20 (ly0 hY) rfl (lr0_8 hY) ?_
      refine r_aload_n C dX11_comesIn_23 0 rfl ?_
      refine r_getR C flX11_49 dX11_comesIn_24 (ly0 hY) rfl (lr0_7 hY) ?_
      obtain ⟨m8, e7, h⟩ := bnd_inv h
      refine r_cVv (As := [.ref (wb (zw Z) + 34)]) (rest := []) C hR mlX11_236 dX11_comesIn_27 (tX8_copyFrom hY n 41 34 (lyProbe hY) (lyNow hY) e7) rfl rfl (isSt_0 (lyProbe hY)) rfl (nle rfl) (nle rfl) (nle rfl) ?_
      refine r_iconst C dX11_comesIn_30 ic_0 ?_
      refine r_istore_n [(3, .int 0), (0, .ref (wb (zw Z) + 0)), (1, .int x1), (2, .int x2)] C dX11_comesIn_31 rfl (by decide) rfl ?_
      refine r_sub [(0, .ref (wb (zw Z) + 0)), (1, .int x1), (2, .int x2), (3, .int 0)] [1, 2, 3, 0] rfl ?_
      obtain ⟨q19, e18, h⟩ := bnd_inv h
      refine lp_all (sX11_comesIn_32 n x1 x2) (fun q => match q with | (z3, ν) => Wm Z (0, 0, sh, R) (ν) 32 [(0, .ref (wb (zw Z) + 0)), (1, .int x1), (2, .int x2), (3, .int z3)] []) (fun q => match q with | .inl (z3, ν) => Wm Z (0, 0, sh, R) (ν) 55 [(3, .int z3)] [] | .inr (ν) => Wm Z (0, 0, sh, R) (ν) 79 [] []) (fun q o h kin kex => ?_) n (0, m8) q19 e18 ?_
      · obtain ⟨z3, ν⟩ := q; exact lX11_comesIn_32 C hR hY n   x1 x2 z3 ν h (fun z3 ν e => kin (z3, ν) e) (fun z3 ν e => kex (.inl (z3, ν)) e) (fun ν e => kex (.inr (ν)) e)
      rcases q19 with ⟨u15, m16⟩ | m17
      · show Wm Z (0, 0, sh, R) m16 55 [(3, .int u15)] []
        refine r_iload_n C dX11_comesIn_55 0 rfl ?_
        obtain ⟨h1, h2⟩ := Prod.mk.inj (Option.some.inj h)
        subst h1; subst h2
        exact r_iret C dX11_comesIn_56 hr hE
      · show Wm Z (0, 0, sh, R) m17 79 [] []
        refine r_iconst C dX11_comesIn_79 ic_m1 ?_
        obtain ⟨h1, h2⟩ := Prod.mk.inj (Option.some.inj h)
        subst h1; subst h2
        exact r_iret C dX11_comesIn_80 hr hE
    · have h := (ite_inv h).1 c6
      refine r_bipush C dX11_comesIn_16 bp_m2 ?_
      obtain ⟨h1, h2⟩ := Prod.mk.inj (Option.some.inj h)
      subst h1; subst h2
      exact r_iret C dX11_comesIn_18 hr hE
def sX11_hearsIn_32 (n : Nat) (x1 : Int32) (x2 : Int32) : Int32 × Mu → Option ((Int32 × Mu) ⊕ ((Int32 × Mu) ⊕ (Mu))) := fun q => match q with | (x3, μ) => if 99 < x3 then (some (.inr (.inr μ))) else (gd (ib x2 6) (if ((shr (rI μ 47 (ix x2)) x1) &&& 1) = 1 then (some (.inr (.inl (x3, μ)))) else (bnd2 (fX8_passHour n 41 2 μ) fun u13 m14 => some (.inl (x3 + 1, m14)))))
set_option maxRecDepth 100000 in
set_option maxHeartbeats 4000000 in
theorem lX11_hearsIn_32 {Z : ZC} {sh : List Sh} {R : Rf} {o : (Int32 × Mu) ⊕ ((Int32 × Mu) ⊕ (Mu))} (C : CX Z cX11_hearsIn 4 RX11) (hR : zR Z = rm 5 0 0) (hY : LY sh R) (n : Nat) (x1 : Int32) (x2 : Int32) (x3 : Int32) (μ : Mu) (h : sX11_hearsIn_32 n x1 x2 (x3, μ) = some o) (kin : ∀ (x3 : Int32) (μ : Mu), o = .inl (x3, μ) → Wm Z (0, 0, sh, R) μ 32 [(0, .ref (wb (zw Z) + 0)), (1, .int x1), (2, .int x2), (3, .int x3)] []) (kex0 : ∀ (x3 : Int32) (μ : Mu), o = .inr (.inl (x3, μ)) → Wm Z (0, 0, sh, R) μ 55 [(3, .int x3)] []) (kex1 : ∀ (μ : Mu), o = .inr (.inr μ) → Wm Z (0, 0, sh, R) μ 79 [] []) : Wm Z (0, 0, sh, R) μ 32 [(0, .ref (wb (zw Z) + 0)), (1, .int x1), (2, .int x2), (3, .int x3)] [] := by
  unfold sX11_hearsIn_32 at h
  refine r_iload_n C dX11_hearsIn_32 3 rfl ?_
  refine r_bipush C dX11_hearsIn_33 bp_99 ?_
  refine r_icmp_gt 79 C dX11_hearsIn_35 (by decide) (fun c9 => ?_) (fun c9 => ?_)
  · have h := (ite_inv h).1 c9
    refine r_sub [] [] rfl ?_
    exact kex1 μ (Option.some.inj h).symm
  · have h := (ite_inv h).2 c9
    refine r_aload_n C dX11_hearsIn_38 0 rfl ?_
    refine r_getR C flX11_53 dX11_hearsIn_39 (ly0 hY) rfl (lr0_8 hY) ?_
    refine r_getR C flX11_156 dX11_hearsIn_42 (isSt_0 (lyProbe hY)) rfl (isSt_r9 (lyProbe hY)) ?_
    refine r_iload_n C dX11_hearsIn_45 2 rfl ?_
    obtain ⟨b10, h⟩ := gd_inv h
    refine r_iald C dX11_hearsIn_46 (isSt_6 (lyProbe hY)) b10 ?_
    refine r_iload_n C dX11_hearsIn_47 1 rfl ?_
    refine r_ishr C dX11_hearsIn_48 ?_
    refine r_iconst C dX11_hearsIn_49 ic_1 ?_
    refine r_iand C dX11_hearsIn_50 ?_
    refine r_iconst C dX11_hearsIn_51 ic_1 ?_
    refine r_icmp_ne 57 C dX11_hearsIn_52 (by decide) (fun c11 => ?_) (fun c11 => ?_)
    · have h := (ite_inv h).2 c11
      refine r_aload_n C dX11_hearsIn_57 0 rfl ?_
      refine r_getR C flX11_53 dX11_hearsIn_58 (ly0 hY) rfl (lr0_8 hY) ?_
      refine r_aload_n C dX11_hearsIn_61 0 rfl ?_
      refine r_getR C flX11_26 dX11_hearsIn_62 (ly0 hY) rfl (lr0_4 hY) ?_
      refine r_aload_n C dX11_hearsIn_65 0 rfl ?_
      refine r_getR C flX11_42 dX11_hearsIn_66 (ly0 hY) rfl (lr0_6 hY) ?_
      obtain ⟨u13, m14, e12, h⟩ := bnd2_inv h
      refine r_cVi (As := [.ref (wb (zw Z) + 2), .ref (wb (zw Z) + 28)]) (rest := []) C hR mlX11_218 dX11_hearsIn_69 (tX8_passHour hY n 41 2 (lyProbe hY) (lySea hY) e12) rfl rfl (isSt_0 (lyProbe hY)) rfl (nle rfl) (nle rfl) (nle rfl) ?_
      refine r_pop C dX11_hearsIn_72 rfl ?_
      refine r_iinc [(3, .int (x3 + 1)), (0, .ref (wb (zw Z) + 0)), (1, .int x1), (2, .int x2)] C dX11_hearsIn_73 3 rfl (in_1 _) (by decide) rfl ?_
      refine r_goto 32 C dX11_hearsIn_76 (by decide) ?_
      refine r_sub [(0, .ref (wb (zw Z) + 0)), (1, .int x1), (2, .int x2), (3, .int (x3 + 1))] [1, 2, 3, 0] rfl ?_
      exact kin (x3 + 1) m14 (Option.some.inj h).symm
    · have h := (ite_inv h).1 c11
      refine r_sub [(3, .int x3)] [3] rfl ?_
      exact kex0 x3 μ (Option.some.inj h).symm
def fX11_hearsIn (n : Nat) (x1 : Int32) (x2 : Int32) (μ : Mu) : Option (Int32 × Mu) := bnd (fX11_isWord n x1 μ) fun u2 => if u2 = 0 then (some ((-2), μ)) else (bnd (fX11_isPerson n x2 μ) fun u5 => if u5 = 0 then (some ((-2), μ)) else (bnd (fX8_copyFrom n 41 34 μ) fun m8 => bnd (lp n (sX11_hearsIn_32 n x1 x2) (0, m8)) fun q => match q with | .inl (u15, m16) => (some (u15, m16)) | .inr m17 => (some ((-1), m17))))
set_option maxRecDepth 100000 in
set_option maxHeartbeats 4000000 in
theorem tX11_hearsIn {l : Launch} {w : WP} {sh : List Sh} {R : Rf} {μ : Mu} {r : Int32} {μ' : Mu} (hY : LY sh R) (n : Nat) (x1 : Int32) (x2 : Int32)  (h : fX11_hearsIn n x1 x2 μ = some (r, μ')) : CM l w yX11_hearsIn cX11_hearsIn 4 (some .int) 5 0 0 sh R [.ref (wb w + 0), .int x1, .int x2] μ (some (.int r)) sh R μ' := by
  refine CM.of (plainFor_of_name pf_X11) (Nat.le_of_ble_eq_true rfl) fun Z C hr _ hR hw hl hE => ?_
  subst hw; subst hl
  have C : CX Z cX11_hearsIn 4 RX11 := C
  show Wm Z (0, 0, sh, R) μ 0 [(0, .ref (wb (zw Z) + 0)), (1, .int x1), (2, .int x2)] []
  unfold fX11_hearsIn at h
  refine r_aload_n C dX11_hearsIn_0 0 rfl ?_
  refine r_iload_n C dX11_hearsIn_1 1 rfl ?_
  obtain ⟨u2, e1, h⟩ := bnd_inv h
  refine r_cVi (As := [.int x1]) (rest := []) C hR mlX11_182 dX11_hearsIn_2 (tX11_isWord hY n x1  e1) rfl rfl (ly0 hY) rfl (nle rfl) (nle rfl) (nle rfl) ?_
  refine r_if_eq 16 C dX11_hearsIn_5 (by decide) (fun c3 => ?_) (fun c3 => ?_)
  · have h := (ite_inv h).1 c3
    refine r_bipush C dX11_hearsIn_16 bp_m2 ?_
    obtain ⟨h1, h2⟩ := Prod.mk.inj (Option.some.inj h)
    subst h1; subst h2
    exact r_iret C dX11_hearsIn_18 hr hE
  · have h := (ite_inv h).2 c3
    refine r_aload_n C dX11_hearsIn_8 0 rfl ?_
    refine r_iload_n C dX11_hearsIn_9 2 rfl ?_
    obtain ⟨u5, e4, h⟩ := bnd_inv h
    refine r_cVi (As := [.int x2]) (rest := []) C hR mlX11_146 dX11_hearsIn_10 (tX11_isPerson hY n x2  e4) rfl rfl (ly0 hY) rfl (nle rfl) (nle rfl) (nle rfl) ?_
    refine r_if_ne 19 C dX11_hearsIn_13 (by decide) (fun c6 => ?_) (fun c6 => ?_)
    · have h := (ite_inv h).2 c6
      refine r_aload_n C dX11_hearsIn_19 0 rfl ?_
      refine r_getR C flX11_53 dX11_hearsIn_20 (ly0 hY) rfl (lr0_8 hY) ?_
      refine r_aload_n C dX11_hearsIn_23 0 rfl ?_
      refine r_getR C flX11_49 dX11_hearsIn_24 (ly0 hY) rfl (lr0_7 hY) ?_
      obtain ⟨m8, e7, h⟩ := bnd_inv h
      refine r_cVv (As := [.ref (wb (zw Z) + 34)]) (rest := []) C hR mlX11_236 dX11_hearsIn_27 (tX8_copyFrom hY n 41 34 (lyProbe hY) (lyNow hY) e7) rfl rfl (isSt_0 (lyProbe hY)) rfl (nle rfl) (nle rfl) (nle rfl) ?_
      refine r_iconst C dX11_hearsIn_30 ic_0 ?_
      refine r_istore_n [(3, .int 0), (0, .ref (wb (zw Z) + 0)), (1, .int x1), (2, .int x2)] C dX11_hearsIn_31 rfl (by decide) rfl ?_
      refine r_sub [(0, .ref (wb (zw Z) + 0)), (1, .int x1), (2, .int x2), (3, .int 0)] [1, 2, 3, 0] rfl ?_
      obtain ⟨q19, e18, h⟩ := bnd_inv h
      refine lp_all (sX11_hearsIn_32 n x1 x2) (fun q => match q with | (z3, ν) => Wm Z (0, 0, sh, R) (ν) 32 [(0, .ref (wb (zw Z) + 0)), (1, .int x1), (2, .int x2), (3, .int z3)] []) (fun q => match q with | .inl (z3, ν) => Wm Z (0, 0, sh, R) (ν) 55 [(3, .int z3)] [] | .inr (ν) => Wm Z (0, 0, sh, R) (ν) 79 [] []) (fun q o h kin kex => ?_) n (0, m8) q19 e18 ?_
      · obtain ⟨z3, ν⟩ := q; exact lX11_hearsIn_32 C hR hY n   x1 x2 z3 ν h (fun z3 ν e => kin (z3, ν) e) (fun z3 ν e => kex (.inl (z3, ν)) e) (fun ν e => kex (.inr (ν)) e)
      rcases q19 with ⟨u15, m16⟩ | m17
      · show Wm Z (0, 0, sh, R) m16 55 [(3, .int u15)] []
        refine r_iload_n C dX11_hearsIn_55 0 rfl ?_
        obtain ⟨h1, h2⟩ := Prod.mk.inj (Option.some.inj h)
        subst h1; subst h2
        exact r_iret C dX11_hearsIn_56 hr hE
      · show Wm Z (0, 0, sh, R) m17 79 [] []
        refine r_iconst C dX11_hearsIn_79 ic_m1 ?_
        obtain ⟨h1, h2⟩ := Prod.mk.inj (Option.some.inj h)
        subst h1; subst h2
        exact r_iret C dX11_hearsIn_80 hr hE
    · have h := (ite_inv h).1 c6
      refine r_bipush C dX11_hearsIn_16 bp_m2 ?_
      obtain ⟨h1, h2⟩ := Prod.mk.inj (Option.some.inj h)
      subst h1; subst h2
      exact r_iret C dX11_hearsIn_18 hr hE
def sX11_probeHours_13 (n : Nat) (x1 : Int32) : Int32 × Mu → Option ((Int32 × Mu) ⊕ (Mu)) := fun q => match q with | (x2, μ) => if x1 ≤ x2 then (some (.inr μ)) else (bnd2 (fX8_passHour n 41 2 μ) fun u5 m6 => some (.inl (x2 + 1, m6)))
set_option maxRecDepth 100000 in
set_option maxHeartbeats 4000000 in
theorem lX11_probeHours_13 {Z : ZC} {sh : List Sh} {R : Rf} {o : (Int32 × Mu) ⊕ (Mu)} (C : CX Z cX11_probeHours 3 RX11) (hR : zR Z = rm 5 0 0) (hY : LY sh R) (n : Nat) (x1 : Int32) (x2 : Int32) (μ : Mu) (h : sX11_probeHours_13 n x1 (x2, μ) = some o) (kin : ∀ (x2 : Int32) (μ : Mu), o = .inl (x2, μ) → Wm Z (0, 0, sh, R) μ 13 [(0, .ref (wb (zw Z) + 0)), (1, .int x1), (2, .int x2)] []) (kex0 : ∀ (μ : Mu), o = .inr μ → Wm Z (0, 0, sh, R) μ 40 [] []) : Wm Z (0, 0, sh, R) μ 13 [(0, .ref (wb (zw Z) + 0)), (1, .int x1), (2, .int x2)] [] := by
  unfold sX11_probeHours_13 at h
  refine r_iload_n C dX11_probeHours_13 2 rfl ?_
  refine r_iload_n C dX11_probeHours_14 1 rfl ?_
  refine r_icmp_ge 40 C dX11_probeHours_15 (by decide) (fun c3 => ?_) (fun c3 => ?_)
  · have h := (ite_inv h).1 c3
    refine r_sub [] [] rfl ?_
    exact kex0 μ (Option.some.inj h).symm
  · have h := (ite_inv h).2 c3
    refine r_aload_n C dX11_probeHours_18 0 rfl ?_
    refine r_getR C flX11_53 dX11_probeHours_19 (ly0 hY) rfl (lr0_8 hY) ?_
    refine r_aload_n C dX11_probeHours_22 0 rfl ?_
    refine r_getR C flX11_26 dX11_probeHours_23 (ly0 hY) rfl (lr0_4 hY) ?_
    refine r_aload_n C dX11_probeHours_26 0 rfl ?_
    refine r_getR C flX11_42 dX11_probeHours_27 (ly0 hY) rfl (lr0_6 hY) ?_
    obtain ⟨u5, m6, e4, h⟩ := bnd2_inv h
    refine r_cVi (As := [.ref (wb (zw Z) + 2), .ref (wb (zw Z) + 28)]) (rest := []) C hR mlX11_218 dX11_probeHours_30 (tX8_passHour hY n 41 2 (lyProbe hY) (lySea hY) e4) rfl rfl (isSt_0 (lyProbe hY)) rfl (nle rfl) (nle rfl) (nle rfl) ?_
    refine r_pop C dX11_probeHours_33 rfl ?_
    refine r_iinc [(2, .int (x2 + 1)), (0, .ref (wb (zw Z) + 0)), (1, .int x1)] C dX11_probeHours_34 2 rfl (in_1 _) (by decide) rfl ?_
    refine r_goto 13 C dX11_probeHours_37 (by decide) ?_
    refine r_sub [(0, .ref (wb (zw Z) + 0)), (1, .int x1), (2, .int (x2 + 1))] [1, 2, 0] rfl ?_
    exact kin (x2 + 1) m6 (Option.some.inj h).symm
def fX11_probeHours (n : Nat) (x1 : Int32) (μ : Mu) : Option (Mu) := bnd (fX8_copyFrom n 41 34 μ) fun m2 => bnd (lp n (sX11_probeHours_13 n x1) (0, m2)) fun q => match q with | m7 => some m7
set_option maxRecDepth 100000 in
set_option maxHeartbeats 4000000 in
theorem tX11_probeHours {l : Launch} {w : WP} {sh : List Sh} {R : Rf} {μ : Mu} {μ' : Mu} (hY : LY sh R) (n : Nat) (x1 : Int32)  (h : fX11_probeHours n x1 μ = some μ') : CM l w yX11_probeHours cX11_probeHours 3 none 5 0 0 sh R [.ref (wb w + 0), .int x1] μ none sh R μ' := by
  refine CM.of (plainFor_of_name pf_X11) (Nat.le_of_ble_eq_true rfl) fun Z C hr _ hR hw hl hE => ?_
  subst hw; subst hl
  have C : CX Z cX11_probeHours 3 RX11 := C
  show Wm Z (0, 0, sh, R) μ 0 [(0, .ref (wb (zw Z) + 0)), (1, .int x1)] []
  unfold fX11_probeHours at h
  refine r_aload_n C dX11_probeHours_0 0 rfl ?_
  refine r_getR C flX11_53 dX11_probeHours_1 (ly0 hY) rfl (lr0_8 hY) ?_
  refine r_aload_n C dX11_probeHours_4 0 rfl ?_
  refine r_getR C flX11_49 dX11_probeHours_5 (ly0 hY) rfl (lr0_7 hY) ?_
  obtain ⟨m2, e1, h⟩ := bnd_inv h
  refine r_cVv (As := [.ref (wb (zw Z) + 34)]) (rest := []) C hR mlX11_236 dX11_probeHours_8 (tX8_copyFrom hY n 41 34 (lyProbe hY) (lyNow hY) e1) rfl rfl (isSt_0 (lyProbe hY)) rfl (nle rfl) (nle rfl) (nle rfl) ?_
  refine r_iconst C dX11_probeHours_11 ic_0 ?_
  refine r_istore_n [(2, .int 0), (0, .ref (wb (zw Z) + 0)), (1, .int x1)] C dX11_probeHours_12 rfl (by decide) rfl ?_
  refine r_sub [(0, .ref (wb (zw Z) + 0)), (1, .int x1), (2, .int 0)] [1, 2, 0] rfl ?_
  obtain ⟨m7, e8, h⟩ := bnd_inv h
  refine lp_all (sX11_probeHours_13 n x1) (fun q => match q with | (z2, ν) => Wm Z (0, 0, sh, R) (ν) 13 [(0, .ref (wb (zw Z) + 0)), (1, .int x1), (2, .int z2)] []) (fun q => match q with | ν => Wm Z (0, 0, sh, R) (ν) 40 [] []) (fun q o h kin kex => ?_) n (0, m2) m7 e8 ?_
  · obtain ⟨z2, ν⟩ := q; exact lX11_probeHours_13 C hR hY n   x1 z2 ν h (fun z2 ν e => kin (z2, ν) e) (fun ν e => kex (ν) e)
  show Wm Z (0, 0, sh, R) m7 40 [] []
  have h := Option.some.inj h
  subst h
  exact r_vret C dX11_probeHours_40 hr hE
def fX11_heard (n : Nat) (x1 : Int32) (x2 : Int32) (μ : Mu) : Option (Int32 × Mu) := bnd (fX11_isWord n x1 μ) fun u2 => if u2 = 0 then (some ((-2), μ)) else (bnd (fX11_within n x2 0 99 μ) fun u5 => if u5 = 0 then (some ((-3), μ)) else (bnd (fX11_probeHours n x2 μ) fun m8 => bnd (fX8_hearersOf n 41 x1 m8) fun u10 => some (u10, m8)))
set_option maxRecDepth 100000 in
set_option maxHeartbeats 4000000 in
theorem tX11_heard {l : Launch} {w : WP} {sh : List Sh} {R : Rf} {μ : Mu} {r : Int32} {μ' : Mu} (hY : LY sh R) (n : Nat) (x1 : Int32) (x2 : Int32)  (h : fX11_heard n x1 x2 μ = some (r, μ')) : CM l w yX11_heard cX11_heard 3 (some .int) 6 0 0 sh R [.ref (wb w + 0), .int x1, .int x2] μ (some (.int r)) sh R μ' := by
  refine CM.of (plainFor_of_name pf_X11) (Nat.le_of_ble_eq_true rfl) fun Z C hr _ hR hw hl hE => ?_
  subst hw; subst hl
  have C : CX Z cX11_heard 3 RX11 := C
  show Wm Z (0, 0, sh, R) μ 0 [(0, .ref (wb (zw Z) + 0)), (1, .int x1), (2, .int x2)] []
  unfold fX11_heard at h
  refine r_aload_n C dX11_heard_0 0 rfl ?_
  refine r_iload_n C dX11_heard_1 1 rfl ?_
  obtain ⟨u2, e1, h⟩ := bnd_inv h
  refine r_cVi (As := [.int x1]) (rest := []) C hR mlX11_182 dX11_heard_2 (tX11_isWord hY n x1  e1) rfl rfl (ly0 hY) rfl (nle rfl) (nle rfl) (nle rfl) ?_
  refine r_if_ne 11 C dX11_heard_5 (by decide) (fun c3 => ?_) (fun c3 => ?_)
  · have h := (ite_inv h).2 c3
    refine r_iload_n C dX11_heard_11 2 rfl ?_
    refine r_iconst C dX11_heard_12 ic_0 ?_
    refine r_bipush C dX11_heard_13 bp_99 ?_
    obtain ⟨u5, e4, h⟩ := bnd_inv h
    refine r_cSi (As := [.int x2, .int 0, .int 99]) (rest := []) C hR mlX11_197 dX11_heard_15 (tX11_within hY n x2 0 99  e4) rfl rfl (nle rfl) (nle rfl) (nle rfl) ?_
    refine r_if_ne 24 C dX11_heard_18 (by decide) (fun c6 => ?_) (fun c6 => ?_)
    · have h := (ite_inv h).2 c6
      refine r_aload_n C dX11_heard_24 0 rfl ?_
      refine r_iload_n C dX11_heard_25 2 rfl ?_
      obtain ⟨m8, e7, h⟩ := bnd_inv h
      refine r_cVv (As := [.int x2]) (rest := []) C hR mlX11_259 dX11_heard_26 (tX11_probeHours hY n x2  e7) rfl rfl (ly0 hY) rfl (nle rfl) (nle rfl) (nle rfl) ?_
      refine r_aload_n C dX11_heard_29 0 rfl ?_
      refine r_getR C flX11_53 dX11_heard_30 (ly0 hY) rfl (lr0_8 hY) ?_
      refine r_iload_n C dX11_heard_33 1 rfl ?_
      obtain ⟨u10, e9, h⟩ := bnd_inv h
      refine r_cVi (As := [.int x1]) (rest := []) C hR mlX11_191 dX11_heard_34 (tX8_hearersOf hY n 41 x1 (lyProbe hY) e9) rfl rfl (isSt_0 (lyProbe hY)) rfl (nle rfl) (nle rfl) (nle rfl) ?_
      obtain ⟨h1, h2⟩ := Prod.mk.inj (Option.some.inj h)
      subst h1; subst h2
      exact r_iret C dX11_heard_37 hr hE
    · have h := (ite_inv h).1 c6
      refine r_bipush C dX11_heard_21 bp_m3 ?_
      obtain ⟨h1, h2⟩ := Prod.mk.inj (Option.some.inj h)
      subst h1; subst h2
      exact r_iret C dX11_heard_23 hr hE
  · have h := (ite_inv h).1 c3
    refine r_bipush C dX11_heard_8 bp_m2 ?_
    obtain ⟨h1, h2⟩ := Prod.mk.inj (Option.some.inj h)
    subst h1; subst h2
    exact r_iret C dX11_heard_10 hr hE
def sX11_loudest_25 (n : Nat) (μ : Mu) : Int32 × Int32 × Int32 → Option ((Int32 × Int32 × Int32) ⊕ (Int32)) := fun q => match q with | (x2, x3, x4) => if (rI μ 41 3) ≤ x4 then (some (.inr x2)) else (bnd (fX8_hearersOf n 41 x4 μ) fun u8 => if (bitc u8) ≤ x3 then (some (.inl (x2, x3, x4 + 1))) else (some (.inl (x4, bitc u8, x4 + 1))))
set_option maxRecDepth 100000 in
set_option maxHeartbeats 4000000 in
theorem lX11_loudest_25 {Z : ZC} {sh : List Sh} {R : Rf} {o : (Int32 × Int32 × Int32) ⊕ (Int32)} (C : CX Z cX11_loudest 6 RX11) (hR : zR Z = rm 6 0 0) (hY : LY sh R) (n : Nat) (μ : Mu) (x2 : Int32) (x3 : Int32) (x4 : Int32) (h : sX11_loudest_25 n μ (x2, x3, x4) = some o) (kin : ∀ (x2 : Int32) (x3 : Int32) (x4 : Int32), o = .inl (x2, x3, x4) → Wm Z (0, 0, sh, R) μ 25 [(0, .ref (wb (zw Z) + 0)), (2, .int x2), (3, .int x3), (4, .int x4)] []) (kex0 : ∀ (x2 : Int32), o = .inr x2 → Wm Z (0, 0, sh, R) μ 69 [(2, .int x2)] []) : Wm Z (0, 0, sh, R) μ 25 [(0, .ref (wb (zw Z) + 0)), (2, .int x2), (3, .int x3), (4, .int x4)] [] := by
  unfold sX11_loudest_25 at h
  refine r_iload C dX11_loudest_25 3 rfl ?_
  refine r_aload_n C dX11_loudest_27 0 rfl ?_
  refine r_getR C flX11_53 dX11_loudest_28 (ly0 hY) rfl (lr0_8 hY) ?_
  refine r_getI C flX11_215 dX11_loudest_31 (isSt_0 (lyProbe hY)) rfl ?_
  refine r_icmp_ge 69 C dX11_loudest_34 (by decide) (fun c6 => ?_) (fun c6 => ?_)
  · have h := (ite_inv h).1 c6
    refine r_sub [(2, .int x2)] [1] rfl ?_
    exact kex0 x2 (Option.some.inj h).symm
  · have h := (ite_inv h).2 c6
    refine r_aload_n C dX11_loudest_37 0 rfl ?_
    refine r_getR C flX11_53 dX11_loudest_38 (ly0 hY) rfl (lr0_8 hY) ?_
    refine r_iload C dX11_loudest_41 3 rfl ?_
    obtain ⟨u8, e7, h⟩ := bnd_inv h
    refine r_cVi (As := [.int x4]) (rest := []) C hR mlX11_191 dX11_loudest_43 (tX8_hearersOf hY n 41 x4 (lyProbe hY) e7) rfl rfl (isSt_0 (lyProbe hY)) rfl (nle rfl) (nle rfl) (nle rfl) ?_
    refine r_cSi (As := [.int u8]) (rest := []) C hR mlX11_163 dX11_loudest_46 (t_bitc hY) rfl rfl (nle rfl) (nle rfl) (nle rfl) ?_
    refine r_istore [(5, .int (bitc u8)), (0, .ref (wb (zw Z) + 0)), (2, .int x2), (3, .int x3), (4, .int x4)] C dX11_loudest_49 (by decide) rfl ?_
    refine r_iload C dX11_loudest_51 0 rfl ?_
    refine r_iload_n C dX11_loudest_53 3 rfl ?_
    refine r_icmp_le 63 C dX11_loudest_54 (by decide) (fun c9 => ?_) (fun c9 => ?_)
    · have h := (ite_inv h).1 c9
      refine r_iinc [(4, .int (x4 + 1)), (5, .int (bitc u8)), (0, .ref (wb (zw Z) + 0)), (2, .int x2), (3, .int x3)] C dX11_loudest_63 4 rfl (in_1 _) (by decide) rfl ?_
      refine r_goto 25 C dX11_loudest_66 (by decide) ?_
      refine r_sub [(0, .ref (wb (zw Z) + 0)), (2, .int x2), (3, .int x3), (4, .int (x4 + 1))] [2, 3, 4, 0] rfl ?_
      exact kin x2 x3 (x4 + 1) (Option.some.inj h).symm
    · have h := (ite_inv h).2 c9
      refine r_iload C dX11_loudest_57 0 rfl ?_
      refine r_istore_n [(3, .int (bitc u8)), (5, .int (bitc u8)), (0, .ref (wb (zw Z) + 0)), (2, .int x2), (4, .int x4)] C dX11_loudest_59 rfl (by decide) rfl ?_
      refine r_iload C dX11_loudest_60 4 rfl ?_
      refine r_istore_n [(2, .int x4), (3, .int (bitc u8)), (5, .int (bitc u8)), (0, .ref (wb (zw Z) + 0)), (4, .int x4)] C dX11_loudest_62 rfl (by decide) rfl ?_
      refine r_iinc [(4, .int (x4 + 1)), (2, .int x4), (3, .int (bitc u8)), (5, .int (bitc u8)), (0, .ref (wb (zw Z) + 0))] C dX11_loudest_63 4 rfl (in_1 _) (by decide) rfl ?_
      refine r_goto 25 C dX11_loudest_66 (by decide) ?_
      refine r_sub [(0, .ref (wb (zw Z) + 0)), (2, .int x4), (3, .int (bitc u8)), (4, .int (x4 + 1))] [4, 1, 2, 0] rfl ?_
      exact kin x4 (bitc u8) (x4 + 1) (Option.some.inj h).symm
def fX11_loudest (n : Nat) (x1 : Int32) (μ : Mu) : Option (Int32 × Mu) := bnd (fX11_within n x1 0 99 μ) fun u2 => if u2 = 0 then (some ((-3), μ)) else (bnd (fX11_probeHours n x1 μ) fun m5 => bnd (lp n (sX11_loudest_25 n m5) ((-1), (-1), 0)) fun q => match q with | u10 => some (u10, m5))
set_option maxRecDepth 100000 in
set_option maxHeartbeats 4000000 in
theorem tX11_loudest {l : Launch} {w : WP} {sh : List Sh} {R : Rf} {μ : Mu} {r : Int32} {μ' : Mu} (hY : LY sh R) (n : Nat) (x1 : Int32)  (h : fX11_loudest n x1 μ = some (r, μ')) : CM l w yX11_loudest cX11_loudest 6 (some .int) 6 0 0 sh R [.ref (wb w + 0), .int x1] μ (some (.int r)) sh R μ' := by
  refine CM.of (plainFor_of_name pf_X11) (Nat.le_of_ble_eq_true rfl) fun Z C hr _ hR hw hl hE => ?_
  subst hw; subst hl
  have C : CX Z cX11_loudest 6 RX11 := C
  show Wm Z (0, 0, sh, R) μ 0 [(0, .ref (wb (zw Z) + 0)), (1, .int x1)] []
  unfold fX11_loudest at h
  refine r_iload_n C dX11_loudest_0 1 rfl ?_
  refine r_iconst C dX11_loudest_1 ic_0 ?_
  refine r_bipush C dX11_loudest_2 bp_99 ?_
  obtain ⟨u2, e1, h⟩ := bnd_inv h
  refine r_cSi (As := [.int x1, .int 0, .int 99]) (rest := []) C hR mlX11_197 dX11_loudest_4 (tX11_within hY n x1 0 99  e1) rfl rfl (nle rfl) (nle rfl) (nle rfl) ?_
  refine r_if_ne 13 C dX11_loudest_7 (by decide) (fun c3 => ?_) (fun c3 => ?_)
  · have h := (ite_inv h).2 c3
    refine r_aload_n C dX11_loudest_13 0 rfl ?_
    refine r_iload_n C dX11_loudest_14 1 rfl ?_
    obtain ⟨m5, e4, h⟩ := bnd_inv h
    refine r_cVv (As := [.int x1]) (rest := []) C hR mlX11_259 dX11_loudest_15 (tX11_probeHours hY n x1  e4) rfl rfl (ly0 hY) rfl (nle rfl) (nle rfl) (nle rfl) ?_
    refine r_iconst C dX11_loudest_18 ic_m1 ?_
    refine r_istore_n [(2, .int (-1)), (0, .ref (wb (zw Z) + 0)), (1, .int x1)] C dX11_loudest_19 rfl (by decide) rfl ?_
    refine r_iconst C dX11_loudest_20 ic_m1 ?_
    refine r_istore_n [(3, .int (-1)), (2, .int (-1)), (0, .ref (wb (zw Z) + 0)), (1, .int x1)] C dX11_loudest_21 rfl (by decide) rfl ?_
    refine r_iconst C dX11_loudest_22 ic_0 ?_
    refine r_istore [(4, .int 0), (3, .int (-1)), (2, .int (-1)), (0, .ref (wb (zw Z) + 0)), (1, .int x1)] C dX11_loudest_23 (by decide) rfl ?_
    refine r_sub [(0, .ref (wb (zw Z) + 0)), (2, .int (-1)), (3, .int (-1)), (4, .int 0)] [3, 2, 1, 0] rfl ?_
    obtain ⟨u10, e11, h⟩ := bnd_inv h
    refine lp_all (sX11_loudest_25 n m5) (fun q => match q with | (z2, z3, z4) => Wm Z (0, 0, sh, R) m5 25 [(0, .ref (wb (zw Z) + 0)), (2, .int z2), (3, .int z3), (4, .int z4)] []) (fun q => match q with | z2 => Wm Z (0, 0, sh, R) m5 69 [(2, .int z2)] []) (fun q o h kin kex => ?_) n ((-1), (-1), 0) u10 e11 ?_
    · obtain ⟨z2, z3, z4⟩ := q; exact lX11_loudest_25 C hR hY n   m5 z2 z3 z4 h (fun z2 z3 z4 e => kin (z2, z3, z4) e) (fun z2 e => kex z2 e)
    show Wm Z (0, 0, sh, R) m5 69 [(2, .int u10)] []
    refine r_iload_n C dX11_loudest_69 0 rfl ?_
    obtain ⟨h1, h2⟩ := Prod.mk.inj (Option.some.inj h)
    subst h1; subst h2
    exact r_iret C dX11_loudest_70 hr hE
  · have h := (ite_inv h).1 c3
    refine r_bipush C dX11_loudest_10 bp_m3 ?_
    obtain ⟨h1, h2⟩ := Prod.mk.inj (Option.some.inj h)
    subst h1; subst h2
    exact r_iret C dX11_loudest_12 hr hE
def fX11_hearers (n : Nat) (x1 : Int32) (x2 : Int32) (x3 : Int32) (μ : Mu) : Option (Int32 × Mu) := bnd (fX11_isBeach n x1 μ) fun u2 => if u2 = 0 then (some ((-2), μ)) else (bnd (fX11_within n x2 0 23 μ) fun u5 => if u5 = 0 then (some ((-3), μ)) else (bnd (fX11_within n x3 0 48 μ) fun u8 => if u8 = 0 then (some ((-3), μ)) else (bnd (fX0_lookAhead n (x2 + x3) μ) fun m11 => bnd (fX0_send n x1 x2 0 m11) fun m13 => bnd (fX0_hearersBy n (x2 + x3) m13) fun u15 => some (u15, m13))))
set_option maxRecDepth 100000 in
set_option maxHeartbeats 4000000 in
theorem tX11_hearers {l : Launch} {w : WP} {sh : List Sh} {R : Rf} {μ : Mu} {r : Int32} {μ' : Mu} (hY : LY sh R) (n : Nat) (x1 : Int32) (x2 : Int32) (x3 : Int32)  (h : fX11_hearers n x1 x2 x3 μ = some (r, μ')) : CM l w yX11_hearers cX11_hearers 4 (some .int) 5 0 0 sh R [.ref (wb w + 0), .int x1, .int x2, .int x3] μ (some (.int r)) sh R μ' := by
  refine CM.of (plainFor_of_name pf_X11) (Nat.le_of_ble_eq_true rfl) fun Z C hr _ hR hw hl hE => ?_
  subst hw; subst hl
  have C : CX Z cX11_hearers 4 RX11 := C
  show Wm Z (0, 0, sh, R) μ 0 [(0, .ref (wb (zw Z) + 0)), (1, .int x1), (2, .int x2), (3, .int x3)] []
  unfold fX11_hearers at h
  refine r_aload_n C dX11_hearers_0 0 rfl ?_
  refine r_iload_n C dX11_hearers_1 1 rfl ?_
  obtain ⟨u2, e1, h⟩ := bnd_inv h
  refine r_cVi (As := [.int x1]) (rest := []) C hR mlX11_194 dX11_hearers_2 (tX11_isBeach hY n x1  e1) rfl rfl (ly0 hY) rfl (nle rfl) (nle rfl) (nle rfl) ?_
  refine r_if_ne 11 C dX11_hearers_5 (by decide) (fun c3 => ?_) (fun c3 => ?_)
  · have h := (ite_inv h).2 c3
    refine r_iload_n C dX11_hearers_11 2 rfl ?_
    refine r_iconst C dX11_hearers_12 ic_0 ?_
    refine r_bipush C dX11_hearers_13 bp_23 ?_
    obtain ⟨u5, e4, h⟩ := bnd_inv h
    refine r_cSi (As := [.int x2, .int 0, .int 23]) (rest := []) C hR mlX11_197 dX11_hearers_15 (tX11_within hY n x2 0 23  e4) rfl rfl (nle rfl) (nle rfl) (nle rfl) ?_
    refine r_if_eq 31 C dX11_hearers_18 (by decide) (fun c6 => ?_) (fun c6 => ?_)
    · have h := (ite_inv h).1 c6
      refine r_bipush C dX11_hearers_31 bp_m3 ?_
      obtain ⟨h1, h2⟩ := Prod.mk.inj (Option.some.inj h)
      subst h1; subst h2
      exact r_iret C dX11_hearers_33 hr hE
    · have h := (ite_inv h).2 c6
      refine r_iload_n C dX11_hearers_21 3 rfl ?_
      refine r_iconst C dX11_hearers_22 ic_0 ?_
      refine r_bipush C dX11_hearers_23 bp_48 ?_
      obtain ⟨u8, e7, h⟩ := bnd_inv h
      refine r_cSi (As := [.int x3, .int 0, .int 48]) (rest := []) C hR mlX11_197 dX11_hearers_25 (tX11_within hY n x3 0 48  e7) rfl rfl (nle rfl) (nle rfl) (nle rfl) ?_
      refine r_if_ne 34 C dX11_hearers_28 (by decide) (fun c9 => ?_) (fun c9 => ?_)
      · have h := (ite_inv h).2 c9
        refine r_aload_n C dX11_hearers_34 0 rfl ?_
        refine r_getR C flX11_68 dX11_hearers_35 (ly0 hY) rfl (lr0_10 hY) ?_
        refine r_iload_n C dX11_hearers_38 2 rfl ?_
        refine r_iload_n C dX11_hearers_39 3 rfl ?_
        refine r_iadd C dX11_hearers_40 ?_
        obtain ⟨m11, e10, h⟩ := bnd_inv h
        refine r_cVv (As := [.int (x2 + x3)]) (rest := []) C hR mlX11_262 dX11_hearers_41 (tX0_lookAhead hY n (x2 + x3)  e10) rfl rfl (ly120 hY) rfl (nle rfl) (nle rfl) (nle rfl) ?_
        refine r_aload_n C dX11_hearers_44 0 rfl ?_
        refine r_getR C flX11_68 dX11_hearers_45 (ly0 hY) rfl (lr0_10 hY) ?_
        refine r_iload_n C dX11_hearers_48 1 rfl ?_
        refine r_iload_n C dX11_hearers_49 2 rfl ?_
        refine r_iconst C dX11_hearers_50 ic_0 ?_
        obtain ⟨m13, e12, h⟩ := bnd_inv h
        refine r_cVv (As := [.int x1, .int x2, .int 0]) (rest := []) C hR mlX11_265 dX11_hearers_51 (tX0_send hY n x1 x2 0  e12) rfl rfl (ly120 hY) rfl (nle rfl) (nle rfl) (nle rfl) ?_
        refine r_aload_n C dX11_hearers_54 0 rfl ?_
        refine r_getR C flX11_68 dX11_hearers_55 (ly0 hY) rfl (lr0_10 hY) ?_
        refine r_iload_n C dX11_hearers_58 2 rfl ?_
        refine r_iload_n C dX11_hearers_59 3 rfl ?_
        refine r_iadd C dX11_hearers_60 ?_
        obtain ⟨u15, e14, h⟩ := bnd_inv h
        refine r_cVi (As := [.int (x2 + x3)]) (rest := []) C hR mlX11_269 dX11_hearers_61 (tX0_hearersBy hY n (x2 + x3)  e14) rfl rfl (ly120 hY) rfl (nle rfl) (nle rfl) (nle rfl) ?_
        obtain ⟨h1, h2⟩ := Prod.mk.inj (Option.some.inj h)
        subst h1; subst h2
        exact r_iret C dX11_hearers_64 hr hE
      · have h := (ite_inv h).1 c9
        refine r_bipush C dX11_hearers_31 bp_m3 ?_
        obtain ⟨h1, h2⟩ := Prod.mk.inj (Option.some.inj h)
        subst h1; subst h2
        exact r_iret C dX11_hearers_33 hr hE
  · have h := (ite_inv h).1 c3
    refine r_bipush C dX11_hearers_8 bp_m2 ?_
    obtain ⟨h1, h2⟩ := Prod.mk.inj (Option.some.inj h)
    subst h1; subst h2
    exact r_iret C dX11_hearers_10 hr hE
def fX11_far (n : Nat) (x1 : Int32) (x2 : Int32) (μ : Mu) : Option (Int32 × Mu) := bnd (fX11_isBeach n x1 μ) fun u2 => if u2 = 0 then (some ((-2), μ)) else (bnd (fX11_isBeach n x2 μ) fun u5 => if u5 = 0 then (some ((-2), μ)) else (bnd (fX0_lookAhead n 48 μ) fun m8 => bnd (fX0_send n x1 0 0 m8) fun m10 => gd (ib x2 6) (if 48 < (rI m10 123 (ix x2)) then (some ((-1), m10)) else (some (rI m10 123 (ix x2), m10)))))
set_option maxRecDepth 100000 in
set_option maxHeartbeats 4000000 in
theorem tX11_far {l : Launch} {w : WP} {sh : List Sh} {R : Rf} {μ : Mu} {r : Int32} {μ' : Mu} (hY : LY sh R) (n : Nat) (x1 : Int32) (x2 : Int32)  (h : fX11_far n x1 x2 μ = some (r, μ')) : CM l w yX11_far cX11_far 4 (some .int) 5 0 0 sh R [.ref (wb w + 0), .int x1, .int x2] μ (some (.int r)) sh R μ' := by
  refine CM.of (plainFor_of_name pf_X11) (Nat.le_of_ble_eq_true rfl) fun Z C hr _ hR hw hl hE => ?_
  subst hw; subst hl
  have C : CX Z cX11_far 4 RX11 := C
  show Wm Z (0, 0, sh, R) μ 0 [(0, .ref (wb (zw Z) + 0)), (1, .int x1), (2, .int x2)] []
  unfold fX11_far at h
  refine r_aload_n C dX11_far_0 0 rfl ?_
  refine r_iload_n C dX11_far_1 1 rfl ?_
  obtain ⟨u2, e1, h⟩ := bnd_inv h
  refine r_cVi (As := [.int x1]) (rest := []) C hR mlX11_194 dX11_far_2 (tX11_isBeach hY n x1  e1) rfl rfl (ly0 hY) rfl (nle rfl) (nle rfl) (nle rfl) ?_
  refine r_if_eq 16 C dX11_far_5 (by decide) (fun c3 => ?_) (fun c3 => ?_)
  · have h := (ite_inv h).1 c3
    refine r_bipush C dX11_far_16 bp_m2 ?_
    obtain ⟨h1, h2⟩ := Prod.mk.inj (Option.some.inj h)
    subst h1; subst h2
    exact r_iret C dX11_far_18 hr hE
  · have h := (ite_inv h).2 c3
    refine r_aload_n C dX11_far_8 0 rfl ?_
    refine r_iload_n C dX11_far_9 2 rfl ?_
    obtain ⟨u5, e4, h⟩ := bnd_inv h
    refine r_cVi (As := [.int x2]) (rest := []) C hR mlX11_194 dX11_far_10 (tX11_isBeach hY n x2  e4) rfl rfl (ly0 hY) rfl (nle rfl) (nle rfl) (nle rfl) ?_
    refine r_if_ne 19 C dX11_far_13 (by decide) (fun c6 => ?_) (fun c6 => ?_)
    · have h := (ite_inv h).2 c6
      refine r_aload_n C dX11_far_19 0 rfl ?_
      refine r_getR C flX11_68 dX11_far_20 (ly0 hY) rfl (lr0_10 hY) ?_
      refine r_bipush C dX11_far_23 bp_48 ?_
      obtain ⟨m8, e7, h⟩ := bnd_inv h
      refine r_cVv (As := [.int 48]) (rest := []) C hR mlX11_262 dX11_far_25 (tX0_lookAhead hY n 48  e7) rfl rfl (ly120 hY) rfl (nle rfl) (nle rfl) (nle rfl) ?_
      refine r_aload_n C dX11_far_28 0 rfl ?_
      refine r_getR C flX11_68 dX11_far_29 (ly0 hY) rfl (lr0_10 hY) ?_
      refine r_iload_n C dX11_far_32 1 rfl ?_
      refine r_iconst C dX11_far_33 ic_0 ?_
      refine r_iconst C dX11_far_34 ic_0 ?_
      obtain ⟨m10, e9, h⟩ := bnd_inv h
      refine r_cVv (As := [.int x1, .int 0, .int 0]) (rest := []) C hR mlX11_265 dX11_far_35 (tX0_send hY n x1 0 0  e9) rfl rfl (ly120 hY) rfl (nle rfl) (nle rfl) (nle rfl) ?_
      refine r_aload_n C dX11_far_38 0 rfl ?_
      refine r_getR C flX11_68 dX11_far_39 (ly0 hY) rfl (lr0_10 hY) ?_
      refine r_getR C flX11_272 dX11_far_42 (ly120 hY) rfl (lr120_5 hY) ?_
      refine r_iload_n C dX11_far_45 2 rfl ?_
      obtain ⟨b11, h⟩ := gd_inv h
      refine r_iald C dX11_far_46 (ly123 hY) b11 ?_
      refine r_istore_n [(3, .int (rI m10 123 (ix x2))), (0, .ref (wb (zw Z) + 0)), (1, .int x1), (2, .int x2)] C dX11_far_47 rfl (by decide) rfl ?_
      refine r_iload_n C dX11_far_48 0 rfl ?_
      refine r_bipush C dX11_far_49 bp_48 ?_
      refine r_icmp_gt 58 C dX11_far_51 (by decide) (fun c12 => ?_) (fun c12 => ?_)
      · have h := (ite_inv h).1 c12
        refine r_iconst C dX11_far_58 ic_m1 ?_
        obtain ⟨h1, h2⟩ := Prod.mk.inj (Option.some.inj h)
        subst h1; subst h2
        exact r_iret C dX11_far_59 hr hE
      · have h := (ite_inv h).2 c12
        refine r_iload_n C dX11_far_54 0 rfl ?_
        refine r_goto 59 C dX11_far_55 (by decide) ?_
        obtain ⟨h1, h2⟩ := Prod.mk.inj (Option.some.inj h)
        subst h1; subst h2
        exact r_iret C dX11_far_59 hr hE
    · have h := (ite_inv h).1 c6
      refine r_bipush C dX11_far_16 bp_m2 ?_
      obtain ⟨h1, h2⟩ := Prod.mk.inj (Option.some.inj h)
      subst h1; subst h2
      exact r_iret C dX11_far_18 hr hE
def fX11_reaches (n : Nat) (x1 : Int32) (x2 : Int32) (μ : Mu) : Option (Int32 × Mu) := bnd (fX11_isBeach n x1 μ) fun u2 => if u2 = 0 then (some ((-2), μ)) else (bnd (fX11_isPerson n x2 μ) fun u5 => if u5 = 0 then (some ((-2), μ)) else (bnd (fX0_lookAhead n 48 μ) fun m8 => bnd (fX0_send n x1 0 0 m8) fun m10 => bnd (fX0_hourHeard n x2 m10) fun u12 => if 48 < u12 then (some ((-1), m10)) else (some (u12, m10))))
set_option maxRecDepth 100000 in
set_option maxHeartbeats 4000000 in
theorem tX11_reaches {l : Launch} {w : WP} {sh : List Sh} {R : Rf} {μ : Mu} {r : Int32} {μ' : Mu} (hY : LY sh R) (n : Nat) (x1 : Int32) (x2 : Int32)  (h : fX11_reaches n x1 x2 μ = some (r, μ')) : CM l w yX11_reaches cX11_reaches 4 (some .int) 5 0 0 sh R [.ref (wb w + 0), .int x1, .int x2] μ (some (.int r)) sh R μ' := by
  refine CM.of (plainFor_of_name pf_X11) (Nat.le_of_ble_eq_true rfl) fun Z C hr _ hR hw hl hE => ?_
  subst hw; subst hl
  have C : CX Z cX11_reaches 4 RX11 := C
  show Wm Z (0, 0, sh, R) μ 0 [(0, .ref (wb (zw Z) + 0)), (1, .int x1), (2, .int x2)] []
  unfold fX11_reaches at h
  refine r_aload_n C dX11_reaches_0 0 rfl ?_
  refine r_iload_n C dX11_reaches_1 1 rfl ?_
  obtain ⟨u2, e1, h⟩ := bnd_inv h
  refine r_cVi (As := [.int x1]) (rest := []) C hR mlX11_194 dX11_reaches_2 (tX11_isBeach hY n x1  e1) rfl rfl (ly0 hY) rfl (nle rfl) (nle rfl) (nle rfl) ?_
  refine r_if_eq 16 C dX11_reaches_5 (by decide) (fun c3 => ?_) (fun c3 => ?_)
  · have h := (ite_inv h).1 c3
    refine r_bipush C dX11_reaches_16 bp_m2 ?_
    obtain ⟨h1, h2⟩ := Prod.mk.inj (Option.some.inj h)
    subst h1; subst h2
    exact r_iret C dX11_reaches_18 hr hE
  · have h := (ite_inv h).2 c3
    refine r_aload_n C dX11_reaches_8 0 rfl ?_
    refine r_iload_n C dX11_reaches_9 2 rfl ?_
    obtain ⟨u5, e4, h⟩ := bnd_inv h
    refine r_cVi (As := [.int x2]) (rest := []) C hR mlX11_146 dX11_reaches_10 (tX11_isPerson hY n x2  e4) rfl rfl (ly0 hY) rfl (nle rfl) (nle rfl) (nle rfl) ?_
    refine r_if_ne 19 C dX11_reaches_13 (by decide) (fun c6 => ?_) (fun c6 => ?_)
    · have h := (ite_inv h).2 c6
      refine r_aload_n C dX11_reaches_19 0 rfl ?_
      refine r_getR C flX11_68 dX11_reaches_20 (ly0 hY) rfl (lr0_10 hY) ?_
      refine r_bipush C dX11_reaches_23 bp_48 ?_
      obtain ⟨m8, e7, h⟩ := bnd_inv h
      refine r_cVv (As := [.int 48]) (rest := []) C hR mlX11_262 dX11_reaches_25 (tX0_lookAhead hY n 48  e7) rfl rfl (ly120 hY) rfl (nle rfl) (nle rfl) (nle rfl) ?_
      refine r_aload_n C dX11_reaches_28 0 rfl ?_
      refine r_getR C flX11_68 dX11_reaches_29 (ly0 hY) rfl (lr0_10 hY) ?_
      refine r_iload_n C dX11_reaches_32 1 rfl ?_
      refine r_iconst C dX11_reaches_33 ic_0 ?_
      refine r_iconst C dX11_reaches_34 ic_0 ?_
      obtain ⟨m10, e9, h⟩ := bnd_inv h
      refine r_cVv (As := [.int x1, .int 0, .int 0]) (rest := []) C hR mlX11_265 dX11_reaches_35 (tX0_send hY n x1 0 0  e9) rfl rfl (ly120 hY) rfl (nle rfl) (nle rfl) (nle rfl) ?_
      refine r_aload_n C dX11_reaches_38 0 rfl ?_
      refine r_getR C flX11_68 dX11_reaches_39 (ly0 hY) rfl (lr0_10 hY) ?_
      refine r_iload_n C dX11_reaches_42 2 rfl ?_
      obtain ⟨u12, e11, h⟩ := bnd_inv h
      refine r_cVi (As := [.int x2]) (rest := []) C hR mlX11_275 dX11_reaches_43 (tX0_hourHeard hY n x2  e11) rfl rfl (ly120 hY) rfl (nle rfl) (nle rfl) (nle rfl) ?_
      refine r_istore_n [(3, .int u12), (0, .ref (wb (zw Z) + 0)), (1, .int x1), (2, .int x2)] C dX11_reaches_46 rfl (by decide) rfl ?_
      refine r_iload_n C dX11_reaches_47 0 rfl ?_
      refine r_bipush C dX11_reaches_48 bp_48 ?_
      refine r_icmp_gt 57 C dX11_reaches_50 (by decide) (fun c13 => ?_) (fun c13 => ?_)
      · have h := (ite_inv h).1 c13
        refine r_iconst C dX11_reaches_57 ic_m1 ?_
        obtain ⟨h1, h2⟩ := Prod.mk.inj (Option.some.inj h)
        subst h1; subst h2
        exact r_iret C dX11_reaches_58 hr hE
      · have h := (ite_inv h).2 c13
        refine r_iload_n C dX11_reaches_53 0 rfl ?_
        refine r_goto 58 C dX11_reaches_54 (by decide) ?_
        obtain ⟨h1, h2⟩ := Prod.mk.inj (Option.some.inj h)
        subst h1; subst h2
        exact r_iret C dX11_reaches_58 hr hE
    · have h := (ite_inv h).1 c6
      refine r_bipush C dX11_reaches_16 bp_m2 ?_
      obtain ⟨h1, h2⟩ := Prod.mk.inj (Option.some.inj h)
      subst h1; subst h2
      exact r_iret C dX11_reaches_18 hr hE
def sX11_secret_66 (n : Nat) (x1 : Int32) (x2 : Int32) (x3 : Int32) (x4 : Int32) : Int32 × Mu → Option ((Int32 × Mu) ⊕ ((Int32 × Mu) ⊕ (Mu))) := fun q => match q with | (x5, μ) => if (rI μ 2 0) ≤ x5 then (some (.inr (.inr μ))) else (bnd (fX0_send n x5 x4 0 μ) fun m14 => bnd (fX0_hearersBy n (x4 + x2) m14) fun u16 => if u16 = x1 then (some (.inr (.inl (x5, m14)))) else (some (.inl (x5 + 1, m14))))
set_option maxRecDepth 100000 in
set_option maxHeartbeats 4000000 in
theorem lX11_secret_66 {Z : ZC} {sh : List Sh} {R : Rf} {o : (Int32 × Mu) ⊕ ((Int32 × Mu) ⊕ (Mu))} (C : CX Z cX11_secret 6 RX11) (hR : zR Z = rm 5 0 0) (hY : LY sh R) (n : Nat) (x1 : Int32) (x2 : Int32) (x3 : Int32) (x4 : Int32) (x5 : Int32) (μ : Mu) (h : sX11_secret_66 n x1 x2 x3 x4 (x5, μ) = some o) (kin : ∀ (x5 : Int32) (μ : Mu), o = .inl (x5, μ) → Wm Z (0, 0, sh, R) μ 66 [(0, .ref (wb (zw Z) + 0)), (1, .int x1), (2, .int x2), (3, .int x3), (4, .int x4), (5, .int x5)] []) (kex0 : ∀ (x5 : Int32) (μ : Mu), o = .inr (.inl (x5, μ)) → Wm Z (0, 0, sh, R) μ 105 [(3, .int x3), (4, .int x4), (5, .int x5)] []) (kex1 : ∀ (μ : Mu), o = .inr (.inr μ) → Wm Z (0, 0, sh, R) μ 123 [(0, .ref (wb (zw Z) + 0)), (1, .int x1), (2, .int x2), (3, .int x3), (4, .int x4)] []) : Wm Z (0, 0, sh, R) μ 66 [(0, .ref (wb (zw Z) + 0)), (1, .int x1), (2, .int x2), (3, .int x3), (4, .int x4), (5, .int x5)] [] := by
  unfold sX11_secret_66 at h
  refine r_iload C dX11_secret_66 5 rfl ?_
  refine r_aload_n C dX11_secret_68 0 rfl ?_
  refine r_getR C flX11_26 dX11_secret_69 (ly0 hY) rfl (lr0_4 hY) ?_
  refine r_getI C flX11_281 dX11_secret_72 (isSea_0 (lySea hY)) rfl ?_
  refine r_icmp_ge 123 C dX11_secret_75 (by decide) (fun c12 => ?_) (fun c12 => ?_)
  · have h := (ite_inv h).1 c12
    refine r_sub [(0, .ref (wb (zw Z) + 0)), (1, .int x1), (2, .int x2), (3, .int x3), (4, .int x4)] [0, 1, 2, 3, 4] rfl ?_
    exact kex1 μ (Option.some.inj h).symm
  · have h := (ite_inv h).2 c12
    refine r_aload_n C dX11_secret_78 0 rfl ?_
    refine r_getR C flX11_68 dX11_secret_79 (ly0 hY) rfl (lr0_10 hY) ?_
    refine r_iload C dX11_secret_82 5 rfl ?_
    refine r_iload C dX11_secret_84 4 rfl ?_
    refine r_iconst C dX11_secret_86 ic_0 ?_
    obtain ⟨m14, e13, h⟩ := bnd_inv h
    refine r_cVv (As := [.int x5, .int x4, .int 0]) (rest := []) C hR mlX11_265 dX11_secret_87 (tX0_send hY n x5 x4 0  e13) rfl rfl (ly120 hY) rfl (nle rfl) (nle rfl) (nle rfl) ?_
    refine r_aload_n C dX11_secret_90 0 rfl ?_
    refine r_getR C flX11_68 dX11_secret_91 (ly0 hY) rfl (lr0_10 hY) ?_
    refine r_iload C dX11_secret_94 4 rfl ?_
    refine r_iload_n C dX11_secret_96 2 rfl ?_
    refine r_iadd C dX11_secret_97 ?_
    obtain ⟨u16, e15, h⟩ := bnd_inv h
    refine r_cVi (As := [.int (x4 + x2)]) (rest := []) C hR mlX11_269 dX11_secret_98 (tX0_hearersBy hY n (x4 + x2)  e15) rfl rfl (ly120 hY) rfl (nle rfl) (nle rfl) (nle rfl) ?_
    refine r_iload_n C dX11_secret_101 1 rfl ?_
    refine r_icmp_ne 117 C dX11_secret_102 (by decide) (fun c17 => ?_) (fun c17 => ?_)
    · have h := (ite_inv h).2 c17
      refine r_iinc [(5, .int (x5 + 1)), (0, .ref (wb (zw Z) + 0)), (1, .int x1), (2, .int x2), (3, .int x3), (4, .int x4)] C dX11_secret_117 5 rfl (in_1 _) (by decide) rfl ?_
      refine r_goto 66 C dX11_secret_120 (by decide) ?_
      refine r_sub [(0, .ref (wb (zw Z) + 0)), (1, .int x1), (2, .int x2), (3, .int x3), (4, .int x4), (5, .int (x5 + 1))] [1, 2, 3, 4, 5, 0] rfl ?_
      exact kin (x5 + 1) m14 (Option.some.inj h).symm
    · have h := (ite_inv h).1 c17
      refine r_sub [(3, .int x3), (4, .int x4), (5, .int x5)] [3, 4, 5] rfl ?_
      exact kex0 x5 m14 (Option.some.inj h).symm
def sX11_secret_56 (n : Nat) (x1 : Int32) (x2 : Int32) (x3 : Int32) : Int32 × Mu → Option ((Int32 × Mu) ⊕ ((Int32 × Int32 × Mu) ⊕ (Mu))) := fun q => match q with | (x4, μ) => if 23 < x4 then (some (.inr (.inr μ))) else (bnd (lp n (sX11_secret_66 n x1 x2 x3 x4) (0, μ)) fun q => match q with | .inl (u18, m19) => (some (.inr (.inl (x4, u18, m19)))) | .inr m20 => (some (.inl (x4 + 1, m20))))
set_option maxRecDepth 100000 in
set_option maxHeartbeats 4000000 in
theorem lX11_secret_56 {Z : ZC} {sh : List Sh} {R : Rf} {o : (Int32 × Mu) ⊕ ((Int32 × Int32 × Mu) ⊕ (Mu))} (C : CX Z cX11_secret 6 RX11) (hR : zR Z = rm 5 0 0) (hY : LY sh R) (n : Nat) (x1 : Int32) (x2 : Int32) (x3 : Int32) (x4 : Int32) (μ : Mu) (h : sX11_secret_56 n x1 x2 x3 (x4, μ) = some o) (kin : ∀ (x4 : Int32) (μ : Mu), o = .inl (x4, μ) → Wm Z (0, 0, sh, R) μ 56 [(0, .ref (wb (zw Z) + 0)), (1, .int x1), (2, .int x2), (3, .int x3), (4, .int x4)] []) (kex0 : ∀ (x4 : Int32) (x5 : Int32) (μ : Mu), o = .inr (.inl (x4, x5, μ)) → Wm Z (0, 0, sh, R) μ 105 [(3, .int x3), (4, .int x4), (5, .int x5)] []) (kex1 : ∀ (μ : Mu), o = .inr (.inr μ) → Wm Z (0, 0, sh, R) μ 129 [] []) : Wm Z (0, 0, sh, R) μ 56 [(0, .ref (wb (zw Z) + 0)), (1, .int x1), (2, .int x2), (3, .int x3), (4, .int x4)] [] := by
  unfold sX11_secret_56 at h
  refine r_iload C dX11_secret_56 4 rfl ?_
  refine r_bipush C dX11_secret_58 bp_23 ?_
  refine r_icmp_gt 129 C dX11_secret_60 (by decide) (fun c11 => ?_) (fun c11 => ?_)
  · have h := (ite_inv h).1 c11
    refine r_sub [] [] rfl ?_
    exact kex1 μ (Option.some.inj h).symm
  · have h := (ite_inv h).2 c11
    refine r_iconst C dX11_secret_63 ic_0 ?_
    refine r_istore [(5, .int 0), (0, .ref (wb (zw Z) + 0)), (1, .int x1), (2, .int x2), (3, .int x3), (4, .int x4)] C dX11_secret_64 (by decide) rfl ?_
    refine r_sub [(0, .ref (wb (zw Z) + 0)), (1, .int x1), (2, .int x2), (3, .int x3), (4, .int x4), (5, .int 0)] [1, 2, 3, 4, 5, 0] rfl ?_
    obtain ⟨q22, e21, h⟩ := bnd_inv h
    refine lp_all (sX11_secret_66 n x1 x2 x3 x4) (fun q => match q with | (z5, ν) => Wm Z (0, 0, sh, R) (ν) 66 [(0, .ref (wb (zw Z) + 0)), (1, .int x1), (2, .int x2), (3, .int x3), (4, .int x4), (5, .int z5)] []) (fun q => match q with | .inl (z5, ν) => Wm Z (0, 0, sh, R) (ν) 105 [(3, .int x3), (4, .int x4), (5, .int z5)] [] | .inr (ν) => Wm Z (0, 0, sh, R) (ν) 123 [(0, .ref (wb (zw Z) + 0)), (1, .int x1), (2, .int x2), (3, .int x3), (4, .int x4)] []) (fun q o h kin kex => ?_) n (0, μ) q22 e21 ?_
    · obtain ⟨z5, ν⟩ := q; exact lX11_secret_66 C hR hY n   x1 x2 x3 x4 z5 ν h (fun z5 ν e => kin (z5, ν) e) (fun z5 ν e => kex (.inl (z5, ν)) e) (fun ν e => kex (.inr (ν)) e)
    rcases q22 with ⟨u18, m19⟩ | m20
    · show Wm Z (0, 0, sh, R) m19 105 [(3, .int x3), (4, .int x4), (5, .int u18)] []
      exact kex0 x4 u18 m19 (Option.some.inj h).symm
    · show Wm Z (0, 0, sh, R) m20 123 [(0, .ref (wb (zw Z) + 0)), (1, .int x1), (2, .int x2), (3, .int x3), (4, .int x4)] []
      refine r_iinc [(4, .int (x4 + 1)), (0, .ref (wb (zw Z) + 0)), (1, .int x1), (2, .int x2), (3, .int x3)] C dX11_secret_123 4 rfl (in_1 _) (by decide) rfl ?_
      refine r_goto 56 C dX11_secret_126 (by decide) ?_
      refine r_sub [(0, .ref (wb (zw Z) + 0)), (1, .int x1), (2, .int x2), (3, .int x3), (4, .int (x4 + 1))] [1, 2, 3, 4, 0] rfl ?_
      exact kin (x4 + 1) m20 (Option.some.inj h).symm
def fX11_secret (n : Nat) (x1 : Int32) (x2 : Int32) (x3 : Int32) (μ : Mu) : Option (Int32 × Mu) := bnd (fX11_within n x3 0 1 μ) fun u2 => if u2 = 0 then (some ((-2), μ)) else (if x1 < 0 then (some ((-3), μ)) else (if (shl 1 (rI μ 2 2)) ≤ x1 then (some ((-3), μ)) else (bnd (fX11_within n x2 0 48 μ) fun u7 => if u7 = 0 then (some ((-3), μ)) else (bnd (fX0_lookAhead n (23 + x2) μ) fun m10 => bnd (lp n (sX11_secret_56 n x1 x2 x3) (0, m10)) fun q => match q with | .inl (u23, u24, m25) => (if x3 = 0 then (some (u23, m25)) else (some (u24, m25))) | .inr m26 => (some ((-1), m26))))))
set_option maxRecDepth 100000 in
set_option maxHeartbeats 4000000 in
theorem tX11_secret {l : Launch} {w : WP} {sh : List Sh} {R : Rf} {μ : Mu} {r : Int32} {μ' : Mu} (hY : LY sh R) (n : Nat) (x1 : Int32) (x2 : Int32) (x3 : Int32)  (h : fX11_secret n x1 x2 x3 μ = some (r, μ')) : CM l w yX11_secret cX11_secret 6 (some .int) 5 0 0 sh R [.ref (wb w + 0), .int x1, .int x2, .int x3] μ (some (.int r)) sh R μ' := by
  refine CM.of (plainFor_of_name pf_X11) (Nat.le_of_ble_eq_true rfl) fun Z C hr _ hR hw hl hE => ?_
  subst hw; subst hl
  have C : CX Z cX11_secret 6 RX11 := C
  show Wm Z (0, 0, sh, R) μ 0 [(0, .ref (wb (zw Z) + 0)), (1, .int x1), (2, .int x2), (3, .int x3)] []
  unfold fX11_secret at h
  refine r_iload_n C dX11_secret_0 3 rfl ?_
  refine r_iconst C dX11_secret_1 ic_0 ?_
  refine r_iconst C dX11_secret_2 ic_1 ?_
  obtain ⟨u2, e1, h⟩ := bnd_inv h
  refine r_cSi (As := [.int x3, .int 0, .int 1]) (rest := []) C hR mlX11_197 dX11_secret_3 (tX11_within hY n x3 0 1  e1) rfl rfl (nle rfl) (nle rfl) (nle rfl) ?_
  refine r_if_ne 12 C dX11_secret_6 (by decide) (fun c3 => ?_) (fun c3 => ?_)
  · have h := (ite_inv h).2 c3
    refine r_iload_n C dX11_secret_12 1 rfl ?_
    refine r_if_lt 39 C dX11_secret_13 (by decide) (fun c4 => ?_) (fun c4 => ?_)
    · have h := (ite_inv h).1 c4
      refine r_bipush C dX11_secret_39 bp_m3 ?_
      obtain ⟨h1, h2⟩ := Prod.mk.inj (Option.some.inj h)
      subst h1; subst h2
      exact r_iret C dX11_secret_41 hr hE
    · have h := (ite_inv h).2 c4
      refine r_iload_n C dX11_secret_16 1 rfl ?_
      refine r_iconst C dX11_secret_17 ic_1 ?_
      refine r_aload_n C dX11_secret_18 0 rfl ?_
      refine r_getR C flX11_26 dX11_secret_19 (ly0 hY) rfl (lr0_4 hY) ?_
      refine r_getI C flX11_278 dX11_secret_22 (isSea_0 (lySea hY)) rfl ?_
      refine r_ishl C dX11_secret_25 ?_
      refine r_icmp_ge 39 C dX11_secret_26 (by decide) (fun c5 => ?_) (fun c5 => ?_)
      · have h := (ite_inv h).1 c5
        refine r_bipush C dX11_secret_39 bp_m3 ?_
        obtain ⟨h1, h2⟩ := Prod.mk.inj (Option.some.inj h)
        subst h1; subst h2
        exact r_iret C dX11_secret_41 hr hE
      · have h := (ite_inv h).2 c5
        refine r_iload_n C dX11_secret_29 2 rfl ?_
        refine r_iconst C dX11_secret_30 ic_0 ?_
        refine r_bipush C dX11_secret_31 bp_48 ?_
        obtain ⟨u7, e6, h⟩ := bnd_inv h
        refine r_cSi (As := [.int x2, .int 0, .int 48]) (rest := []) C hR mlX11_197 dX11_secret_33 (tX11_within hY n x2 0 48  e6) rfl rfl (nle rfl) (nle rfl) (nle rfl) ?_
        refine r_if_ne 42 C dX11_secret_36 (by decide) (fun c8 => ?_) (fun c8 => ?_)
        · have h := (ite_inv h).2 c8
          refine r_aload_n C dX11_secret_42 0 rfl ?_
          refine r_getR C flX11_68 dX11_secret_43 (ly0 hY) rfl (lr0_10 hY) ?_
          refine r_bipush C dX11_secret_46 bp_23 ?_
          refine r_iload_n C dX11_secret_48 2 rfl ?_
          refine r_iadd C dX11_secret_49 ?_
          obtain ⟨m10, e9, h⟩ := bnd_inv h
          refine r_cVv (As := [.int (23 + x2)]) (rest := []) C hR mlX11_262 dX11_secret_50 (tX0_lookAhead hY n (23 + x2)  e9) rfl rfl (ly120 hY) rfl (nle rfl) (nle rfl) (nle rfl) ?_
          refine r_iconst C dX11_secret_53 ic_0 ?_
          refine r_istore [(4, .int 0), (0, .ref (wb (zw Z) + 0)), (1, .int x1), (2, .int x2), (3, .int x3)] C dX11_secret_54 (by decide) rfl ?_
          refine r_sub [(0, .ref (wb (zw Z) + 0)), (1, .int x1), (2, .int x2), (3, .int x3), (4, .int 0)] [1, 2, 3, 4, 0] rfl ?_
          obtain ⟨q28, e27, h⟩ := bnd_inv h
          refine lp_all (sX11_secret_56 n x1 x2 x3) (fun q => match q with | (z4, ν) => Wm Z (0, 0, sh, R) (ν) 56 [(0, .ref (wb (zw Z) + 0)), (1, .int x1), (2, .int x2), (3, .int x3), (4, .int z4)] []) (fun q => match q with | .inl (z4, z5, ν) => Wm Z (0, 0, sh, R) (ν) 105 [(3, .int x3), (4, .int z4), (5, .int z5)] [] | .inr (ν) => Wm Z (0, 0, sh, R) (ν) 129 [] []) (fun q o h kin kex => ?_) n (0, m10) q28 e27 ?_
          · obtain ⟨z4, ν⟩ := q; exact lX11_secret_56 C hR hY n   x1 x2 x3 z4 ν h (fun z4 ν e => kin (z4, ν) e) (fun z4 z5 ν e => kex (.inl (z4, z5, ν)) e) (fun ν e => kex (.inr (ν)) e)
          rcases q28 with ⟨u23, u24, m25⟩ | m26
          · show Wm Z (0, 0, sh, R) m25 105 [(3, .int x3), (4, .int u23), (5, .int u24)] []
            refine r_iload_n C dX11_secret_105 0 rfl ?_
            refine r_if_ne 114 C dX11_secret_106 (by decide) (fun c29 => ?_) (fun c29 => ?_)
            · have h := (ite_inv h).2 c29
              refine r_iload C dX11_secret_114 2 rfl ?_
              obtain ⟨h1, h2⟩ := Prod.mk.inj (Option.some.inj h)
              subst h1; subst h2
              exact r_iret C dX11_secret_116 hr hE
            · have h := (ite_inv h).1 c29
              refine r_iload C dX11_secret_109 1 rfl ?_
              refine r_goto 116 C dX11_secret_111 (by decide) ?_
              obtain ⟨h1, h2⟩ := Prod.mk.inj (Option.some.inj h)
              subst h1; subst h2
              exact r_iret C dX11_secret_116 hr hE
          · show Wm Z (0, 0, sh, R) m26 129 [] []
            refine r_iconst C dX11_secret_129 ic_m1 ?_
            obtain ⟨h1, h2⟩ := Prod.mk.inj (Option.some.inj h)
            subst h1; subst h2
            exact r_iret C dX11_secret_130 hr hE
        · have h := (ite_inv h).1 c8
          refine r_bipush C dX11_secret_39 bp_m3 ?_
          obtain ⟨h1, h2⟩ := Prod.mk.inj (Option.some.inj h)
          subst h1; subst h2
          exact r_iret C dX11_secret_41 hr hE
  · have h := (ite_inv h).1 c3
    refine r_bipush C dX11_secret_9 bp_m2 ?_
    obtain ⟨h1, h2⟩ := Prod.mk.inj (Option.some.inj h)
    subst h1; subst h2
    exact r_iret C dX11_secret_11 hr hE
def sX11_widest_28 (n : Nat) (x1 : Int32) : Int32 × Int32 × Int32 × Mu → Option ((Int32 × Int32 × Int32 × Mu) ⊕ (Int32 × Mu)) := fun q => match q with | (x2, x3, x4, μ) => if (rI μ 2 0) ≤ x4 then (some (.inr (x2, μ))) else (bnd (fX0_send n x4 0 0 μ) fun m8 => bnd (fX0_hearersBy n x1 m8) fun u10 => if (bitc u10) ≤ x3 then (some (.inl (x2, x3, x4 + 1, m8))) else (some (.inl (x4, bitc u10, x4 + 1, m8))))
set_option maxRecDepth 100000 in
set_option maxHeartbeats 4000000 in
theorem lX11_widest_28 {Z : ZC} {sh : List Sh} {R : Rf} {o : (Int32 × Int32 × Int32 × Mu) ⊕ (Int32 × Mu)} (C : CX Z cX11_widest 6 RX11) (hR : zR Z = rm 5 0 0) (hY : LY sh R) (n : Nat) (x1 : Int32) (x2 : Int32) (x3 : Int32) (x4 : Int32) (μ : Mu) (h : sX11_widest_28 n x1 (x2, x3, x4, μ) = some o) (kin : ∀ (x2 : Int32) (x3 : Int32) (x4 : Int32) (μ : Mu), o = .inl (x2, x3, x4, μ) → Wm Z (0, 0, sh, R) μ 28 [(0, .ref (wb (zw Z) + 0)), (1, .int x1), (2, .int x2), (3, .int x3), (4, .int x4)] []) (kex0 : ∀ (x2 : Int32) (μ : Mu), o = .inr (x2, μ) → Wm Z (0, 0, sh, R) μ 82 [(2, .int x2)] []) : Wm Z (0, 0, sh, R) μ 28 [(0, .ref (wb (zw Z) + 0)), (1, .int x1), (2, .int x2), (3, .int x3), (4, .int x4)] [] := by
  unfold sX11_widest_28 at h
  refine r_iload C dX11_widest_28 4 rfl ?_
  refine r_aload_n C dX11_widest_30 0 rfl ?_
  refine r_getR C flX11_26 dX11_widest_31 (ly0 hY) rfl (lr0_4 hY) ?_
  refine r_getI C flX11_281 dX11_widest_34 (isSea_0 (lySea hY)) rfl ?_
  refine r_icmp_ge 82 C dX11_widest_37 (by decide) (fun c6 => ?_) (fun c6 => ?_)
  · have h := (ite_inv h).1 c6
    refine r_sub [(2, .int x2)] [2] rfl ?_
    exact kex0 x2 μ (Option.some.inj h).symm
  · have h := (ite_inv h).2 c6
    refine r_aload_n C dX11_widest_40 0 rfl ?_
    refine r_getR C flX11_68 dX11_widest_41 (ly0 hY) rfl (lr0_10 hY) ?_
    refine r_iload C dX11_widest_44 4 rfl ?_
    refine r_iconst C dX11_widest_46 ic_0 ?_
    refine r_iconst C dX11_widest_47 ic_0 ?_
    obtain ⟨m8, e7, h⟩ := bnd_inv h
    refine r_cVv (As := [.int x4, .int 0, .int 0]) (rest := []) C hR mlX11_265 dX11_widest_48 (tX0_send hY n x4 0 0  e7) rfl rfl (ly120 hY) rfl (nle rfl) (nle rfl) (nle rfl) ?_
    refine r_aload_n C dX11_widest_51 0 rfl ?_
    refine r_getR C flX11_68 dX11_widest_52 (ly0 hY) rfl (lr0_10 hY) ?_
    refine r_iload_n C dX11_widest_55 1 rfl ?_
    obtain ⟨u10, e9, h⟩ := bnd_inv h
    refine r_cVi (As := [.int x1]) (rest := []) C hR mlX11_269 dX11_widest_56 (tX0_hearersBy hY n x1  e9) rfl rfl (ly120 hY) rfl (nle rfl) (nle rfl) (nle rfl) ?_
    refine r_cSi (As := [.int u10]) (rest := []) C hR mlX11_163 dX11_widest_59 (t_bitc hY) rfl rfl (nle rfl) (nle rfl) (nle rfl) ?_
    refine r_istore [(5, .int (bitc u10)), (0, .ref (wb (zw Z) + 0)), (1, .int x1), (2, .int x2), (3, .int x3), (4, .int x4)] C dX11_widest_62 (by decide) rfl ?_
    refine r_iload C dX11_widest_64 0 rfl ?_
    refine r_iload_n C dX11_widest_66 4 rfl ?_
    refine r_icmp_le 76 C dX11_widest_67 (by decide) (fun c11 => ?_) (fun c11 => ?_)
    · have h := (ite_inv h).1 c11
      refine r_iinc [(4, .int (x4 + 1)), (5, .int (bitc u10)), (0, .ref (wb (zw Z) + 0)), (1, .int x1), (2, .int x2), (3, .int x3)] C dX11_widest_76 5 rfl (in_1 _) (by decide) rfl ?_
      refine r_goto 28 C dX11_widest_79 (by decide) ?_
      refine r_sub [(0, .ref (wb (zw Z) + 0)), (1, .int x1), (2, .int x2), (3, .int x3), (4, .int (x4 + 1))] [2, 3, 4, 5, 0] rfl ?_
      exact kin x2 x3 (x4 + 1) m8 (Option.some.inj h).symm
    · have h := (ite_inv h).2 c11
      refine r_iload C dX11_widest_70 0 rfl ?_
      refine r_istore_n [(3, .int (bitc u10)), (5, .int (bitc u10)), (0, .ref (wb (zw Z) + 0)), (1, .int x1), (2, .int x2), (4, .int x4)] C dX11_widest_72 rfl (by decide) rfl ?_
      refine r_iload C dX11_widest_73 5 rfl ?_
      refine r_istore_n [(2, .int x4), (3, .int (bitc u10)), (5, .int (bitc u10)), (0, .ref (wb (zw Z) + 0)), (1, .int x1), (4, .int x4)] C dX11_widest_75 rfl (by decide) rfl ?_
      refine r_iinc [(4, .int (x4 + 1)), (2, .int x4), (3, .int (bitc u10)), (5, .int (bitc u10)), (0, .ref (wb (zw Z) + 0)), (1, .int x1)] C dX11_widest_76 5 rfl (in_1 _) (by decide) rfl ?_
      refine r_goto 28 C dX11_widest_79 (by decide) ?_
      refine r_sub [(0, .ref (wb (zw Z) + 0)), (1, .int x1), (2, .int x4), (3, .int (bitc u10)), (4, .int (x4 + 1))] [4, 5, 1, 2, 0] rfl ?_
      exact kin x4 (bitc u10) (x4 + 1) m8 (Option.some.inj h).symm
def fX11_widest (n : Nat) (x1 : Int32) (μ : Mu) : Option (Int32 × Mu) := bnd (fX11_within n x1 0 48 μ) fun u2 => if u2 = 0 then (some ((-3), μ)) else (bnd (fX0_lookAhead n x1 μ) fun m5 => bnd (lp n (sX11_widest_28 n x1) ((-1), (-1), 0, m5)) fun q => match q with | (u12, m13) => some (u12, m13))
set_option maxRecDepth 100000 in
set_option maxHeartbeats 4000000 in
theorem tX11_widest {l : Launch} {w : WP} {sh : List Sh} {R : Rf} {μ : Mu} {r : Int32} {μ' : Mu} (hY : LY sh R) (n : Nat) (x1 : Int32)  (h : fX11_widest n x1 μ = some (r, μ')) : CM l w yX11_widest cX11_widest 6 (some .int) 5 0 0 sh R [.ref (wb w + 0), .int x1] μ (some (.int r)) sh R μ' := by
  refine CM.of (plainFor_of_name pf_X11) (Nat.le_of_ble_eq_true rfl) fun Z C hr _ hR hw hl hE => ?_
  subst hw; subst hl
  have C : CX Z cX11_widest 6 RX11 := C
  show Wm Z (0, 0, sh, R) μ 0 [(0, .ref (wb (zw Z) + 0)), (1, .int x1)] []
  unfold fX11_widest at h
  refine r_iload_n C dX11_widest_0 1 rfl ?_
  refine r_iconst C dX11_widest_1 ic_0 ?_
  refine r_bipush C dX11_widest_2 bp_48 ?_
  obtain ⟨u2, e1, h⟩ := bnd_inv h
  refine r_cSi (As := [.int x1, .int 0, .int 48]) (rest := []) C hR mlX11_197 dX11_widest_4 (tX11_within hY n x1 0 48  e1) rfl rfl (nle rfl) (nle rfl) (nle rfl) ?_
  refine r_if_ne 13 C dX11_widest_7 (by decide) (fun c3 => ?_) (fun c3 => ?_)
  · have h := (ite_inv h).2 c3
    refine r_aload_n C dX11_widest_13 0 rfl ?_
    refine r_getR C flX11_68 dX11_widest_14 (ly0 hY) rfl (lr0_10 hY) ?_
    refine r_iload_n C dX11_widest_17 1 rfl ?_
    obtain ⟨m5, e4, h⟩ := bnd_inv h
    refine r_cVv (As := [.int x1]) (rest := []) C hR mlX11_262 dX11_widest_18 (tX0_lookAhead hY n x1  e4) rfl rfl (ly120 hY) rfl (nle rfl) (nle rfl) (nle rfl) ?_
    refine r_iconst C dX11_widest_21 ic_m1 ?_
    refine r_istore_n [(2, .int (-1)), (0, .ref (wb (zw Z) + 0)), (1, .int x1)] C dX11_widest_22 rfl (by decide) rfl ?_
    refine r_iconst C dX11_widest_23 ic_m1 ?_
    refine r_istore_n [(3, .int (-1)), (2, .int (-1)), (0, .ref (wb (zw Z) + 0)), (1, .int x1)] C dX11_widest_24 rfl (by decide) rfl ?_
    refine r_iconst C dX11_widest_25 ic_0 ?_
    refine r_istore [(4, .int 0), (3, .int (-1)), (2, .int (-1)), (0, .ref (wb (zw Z) + 0)), (1, .int x1)] C dX11_widest_26 (by decide) rfl ?_
    refine r_sub [(0, .ref (wb (zw Z) + 0)), (1, .int x1), (2, .int (-1)), (3, .int (-1)), (4, .int 0)] [3, 4, 2, 1, 0] rfl ?_
    obtain ⟨⟨u12, m13⟩, e14, h⟩ := bnd_inv h
    refine lp_all (sX11_widest_28 n x1) (fun q => match q with | (z2, z3, z4, ν) => Wm Z (0, 0, sh, R) (ν) 28 [(0, .ref (wb (zw Z) + 0)), (1, .int x1), (2, .int z2), (3, .int z3), (4, .int z4)] []) (fun q => match q with | (z2, ν) => Wm Z (0, 0, sh, R) (ν) 82 [(2, .int z2)] []) (fun q o h kin kex => ?_) n ((-1), (-1), 0, m5) (u12, m13) e14 ?_
    · obtain ⟨z2, z3, z4, ν⟩ := q; exact lX11_widest_28 C hR hY n   x1 z2 z3 z4 ν h (fun z2 z3 z4 ν e => kin (z2, z3, z4, ν) e) (fun z2 ν e => kex (z2, ν) e)
    show Wm Z (0, 0, sh, R) m13 82 [(2, .int u12)] []
    refine r_iload_n C dX11_widest_82 0 rfl ?_
    obtain ⟨h1, h2⟩ := Prod.mk.inj (Option.some.inj h)
    subst h1; subst h2
    exact r_iret C dX11_widest_83 hr hE
  · have h := (ite_inv h).1 c3
    refine r_bipush C dX11_widest_10 bp_m3 ?_
    obtain ⟨h1, h2⟩ := Prod.mk.inj (Option.some.inj h)
    subst h1; subst h2
    exact r_iret C dX11_widest_12 hr hE
