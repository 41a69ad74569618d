def fX6_slotOf (n : Nat) (x0 : Int32) (x1 : Int32) (μ : Mu) : Option (Int32) := some (((fmod x0 24) * 2) + (if x1 = 0 then 0 else 1 : Int32))
set_option maxRecDepth 100000 in
set_option maxHeartbeats 4000000 in
theorem tX6_slotOf {l : Launch} {w : WP} {sh : List Sh} {R : Rf} {μ : Mu} {r : Int32} (hY : LY sh R) (n : Nat) (x0 : Int32) (x1 : Int32)  (h : fX6_slotOf n x0 x1 μ = some r) : CM l w yX6_slotOf cX6_slotOf 2 (some .int) 1 0 0 sh R [.int x0, .int x1] μ (some (.int r)) sh R μ := by
  refine CM.of (plainFor_of_name pf_X6) (Nat.le_of_ble_eq_true rfl) fun Z C hr _ hR hw hl hE => ?_
  subst hw; subst hl
  have C : CX Z cX6_slotOf 2 RX6 := C
  show Wm Z (0, 0, sh, R) μ 0 [(0, .int x0), (1, .int x1)] []
  unfold fX6_slotOf at h
  refine r_iload_n C dX6_slotOf_0 0 rfl ?_
  refine r_bipush C dX6_slotOf_1 bp_24 ?_
  refine r_cSi (As := [.int x0, .int 24]) (rest := []) C hR mlX6_92 dX6_slotOf_3 (t_fmod hY (by decide)) rfl rfl (nle rfl) (nle rfl) (nle rfl) ?_
  refine r_iconst C dX6_slotOf_6 ic_2 ?_
  refine r_imul C dX6_slotOf_7 ?_
  refine r_iload_n C dX6_slotOf_8 1 rfl ?_
  suffices hj : Wm Z (0, 0, sh, R) μ 17 [(0, .int x0), (1, .int x1)] [.int (if x1 = 0 then 0 else 1 : Int32), .int ((fmod x0 24) * 2)] by
    refine r_if_eq 16 C dX6_slotOf_9 (by decide) (fun c1 => ?_) (fun c1 => ?_)
    · refine r_iconst C dX6_slotOf_16 ic_0 ?_
      exact sel_t c1 hj
    · refine r_iconst C dX6_slotOf_12 ic_1 ?_
      refine r_goto 17 C dX6_slotOf_13 (by decide) ?_
      exact sel_f c1 hj
  refine r_iadd C dX6_slotOf_17 ?_
  have h := Option.some.inj h
  subst h
  exact r_iret C dX6_slotOf_18 hr hE
def fX3_isTold (n : Nat) (a0 : Nat) (x1 : Int32) (μ : Mu) : Option (Int32) := gd (ib x1 3) (gd (ib x1 3) (if (rI μ (a0 + 3) (ix x1)) ≤ (rI μ (a0 + 2) (ix x1)) then (some 0) else (some 1)))
set_option maxRecDepth 100000 in
set_option maxHeartbeats 4000000 in
theorem tX3_isTold {l : Launch} {w : WP} {sh : List Sh} {R : Rf} {μ : Mu} {r : Int32} (hY : LY sh R) (n : Nat) (a0 : Nat) (x1 : Int32) (ha0 : isLaw sh R a0) (h : fX3_isTold n a0 x1 μ = some r) : CM l w yX3_isTold cX3_isTold 2 (some .boolean) 0 0 0 sh R [.ref (wb w + a0), .int x1] μ (some (.int r)) sh R μ := by
  refine CM.of (plainFor_of_name pf_X3) (Nat.le_of_ble_eq_true rfl) fun Z C hr _ hR hw hl hE => ?_
  subst hw; subst hl
  have C : CX Z cX3_isTold 2 RX3 := C
  show Wm Z (0, 0, sh, R) μ 0 [(0, .ref (wb (zw Z) + a0)), (1, .int x1)] []
  unfold fX3_isTold at h
  refine r_aload_n C dX3_isTold_0 0 rfl ?_
  refine r_getR C flX3_18 dX3_isTold_1 (isLaw_0 ha0) rfl (isLaw_r3 ha0) ?_
  refine r_iload_n C dX3_isTold_4 1 rfl ?_
  obtain ⟨b1, h⟩ := gd_inv h
  refine r_iald C dX3_isTold_5 (isLaw_3 ha0) b1 ?_
  refine r_aload_n C dX3_isTold_6 0 rfl ?_
  refine r_getR C flX3_15 dX3_isTold_7 (isLaw_0 ha0) rfl (isLaw_r2 ha0) ?_
  refine r_iload_n C dX3_isTold_10 1 rfl ?_
  obtain ⟨b2, h⟩ := gd_inv h
  refine r_iald C dX3_isTold_11 (isLaw_2 ha0) b2 ?_
  refine r_icmp_le 19 C dX3_isTold_12 (by decide) (fun c3 => ?_) (fun c3 => ?_)
  · have h := (ite_inv h).1 c3
    refine r_iconst C dX3_isTold_19 ic_0 ?_
    have h := Option.some.inj h
    subst h
    exact r_zret C dX3_isTold_20 hr rfl hE
  · have h := (ite_inv h).2 c3
    refine r_iconst C dX3_isTold_15 ic_1 ?_
    refine r_goto 20 C dX3_isTold_16 (by decide) ?_
    have h := Option.some.inj h
    subst h
    exact r_zret C dX3_isTold_20 hr rfl hE
def fX6_giveTime (n : Nat) (x1 : Int32) (x2 : Int32) (μ : Mu) : Option (Mu) := some (wI (wI μ 32 0 (fmod x1 24)) 32 1 (if x2 = 0 then 0 else 1 : Int32))
set_option maxRecDepth 100000 in
set_option maxHeartbeats 4000000 in
theorem tX6_giveTime {l : Launch} {w : WP} {sh : List Sh} {R : Rf} {μ : Mu} {μ' : Mu} (hY : LY sh R) (n : Nat) (x1 : Int32) (x2 : Int32)  (h : fX6_giveTime n x1 x2 μ = some μ') : CM l w yX6_giveTime cX6_giveTime 3 none 1 0 0 sh R [.ref (wb w + 28), .int x1, .int x2] μ none sh R μ' := by
  refine CM.of (plainFor_of_name pf_X6) (Nat.le_of_ble_eq_true rfl) fun Z C hr _ hR hw hl hE => ?_
  subst hw; subst hl
  have C : CX Z cX6_giveTime 3 RX6 := C
  show Wm Z (0, 0, sh, R) μ 0 [(0, .ref (wb (zw Z) + 28)), (1, .int x1), (2, .int x2)] []
  unfold fX6_giveTime at h
  refine r_aload_n C dX6_giveTime_0 0 rfl ?_
  refine r_getR C flX6_21 dX6_giveTime_1 (ly28 hY) rfl (lr28_4 hY) ?_
  refine r_iconst C dX6_giveTime_4 ic_0 ?_
  refine r_iload_n C dX6_giveTime_5 1 rfl ?_
  refine r_bipush C dX6_giveTime_6 bp_24 ?_
  refine r_cSi (As := [.int x1, .int 24]) (rest := [.int 0, .ref (wb (zw Z) + 32)]) C hR mlX6_92 dX6_giveTime_8 (t_fmod hY (by decide)) rfl rfl (nle rfl) (nle rfl) (nle rfl) ?_
  refine r_iast C dX6_giveTime_11 (ly32 hY) (by decide) ?_
  refine r_aload_n C dX6_giveTime_12 0 rfl ?_
  refine r_getR C flX6_21 dX6_giveTime_13 (ly28 hY) rfl (lr28_4 hY) ?_
  refine r_iconst C dX6_giveTime_16 ic_1 ?_
  refine r_iload_n C dX6_giveTime_17 2 rfl ?_
  suffices hj : Wm Z (0, 0, sh, R) (wI μ 32 0 (fmod x1 24)) 26 [(0, .ref (wb (zw Z) + 28)), (1, .int x1), (2, .int x2)] [.int (if x2 = 0 then 0 else 1 : Int32), .int 1, .ref (wb (zw Z) + 32)] by
    refine r_if_eq 25 C dX6_giveTime_18 (by decide) (fun c1 => ?_) (fun c1 => ?_)
    · refine r_iconst C dX6_giveTime_25 ic_0 ?_
      exact sel_t c1 hj
    · refine r_iconst C dX6_giveTime_21 ic_1 ?_
      refine r_goto 26 C dX6_giveTime_22 (by decide) ?_
      exact sel_f c1 hj
  refine r_iast C dX6_giveTime_26 (ly32 hY) (by decide) ?_
  have h := Option.some.inj h
  subst h
  exact r_vret C dX6_giveTime_27 hr hE
def fX3_joined (n : Nat) (x0 : Int32) (y1 : Int64) (y3 : Int64) (μ : Mu) : Option (Int32) := if x0 = 1011 then (some ((lmax (-1000000) (lmin 1000000 (y1 + y3))).toInt32)) else (if x0 = 1012 then (some ((lmax (-1000000) (lmin 1000000 (y1 - y3))).toInt32)) else (if x0 = 1013 then (some ((lmax (-1000000) (lmin 1000000 (y1 * y3))).toInt32)) else (if x0 = 1014 then (if (lg_cmp y1 y3) = 0 then (some 1) else (some 0)) else (if x0 = 1015 then (if 0 ≤ (lg_cmp y1 y3) then (some 0) else (some 1)) else (if x0 = 1016 then (if (lg_cmp y1 y3) ≤ 0 then (some 0) else (some 1)) else (if x0 = 1017 then (if (lg_cmp (y1 * y3) 0) = 0 then (some 0) else (some 1)) else (if (lg_cmp (y1 + y3) 0) = 0 then (some 0) else (some 1))))))))
set_option maxRecDepth 100000 in
set_option maxHeartbeats 4000000 in
theorem tX3_joined {l : Launch} {w : WP} {sh : List Sh} {R : Rf} {μ : Mu} {r : Int32} (hY : LY sh R) (n : Nat) (x0 : Int32) (y1 : Int64) (y3 : Int64)  (h : fX3_joined n x0 y1 y3 μ = some r) : CM l w yX3_joined cX3_joined 5 (some .int) 1 0 0 sh R [.int x0, .long y1, .long y3] μ (some (.int r)) sh R μ := by
  refine CM.of (plainFor_of_name pf_X3) (Nat.le_of_ble_eq_true rfl) fun Z C hr _ hR hw hl hE => ?_
  subst hw; subst hl
  have C : CX Z cX3_joined 5 RX3 := C
  show Wm Z (0, 0, sh, R) μ 0 [(0, .int x0), (1, .long y1), (3, .long y3)] []
  unfold fX3_joined at h
  refine r_iload_n C dX3_joined_0 0 rfl ?_
  by_cases c1 : x0 = 1011
  · have h := (ite_inv h).1 c1
    refine r_tabIn 44 C dX3_joined_1 (by rw [c1, ti_1011]; decide) (by rw [c1, ti_1011]; decide) (by rw [c1, ti_1011]; rfl) (by decide) ?_
    refine r_ldc2 C dX3_joined_44 klX3_47 ?_
    refine r_ldc2 C dX3_joined_47 klX3_49 ?_
    refine r_lload_n C dX3_joined_50 1 rfl ?_
    refine r_lload_n C dX3_joined_51 2 rfl ?_
    refine r_ladd C dX3_joined_52 ?_
    refine r_cSl (As := [.long 1000000, .long (y1 + y3)]) (rest := [.long (-1000000)]) C hR mlX3_51 dX3_joined_53 (t_lmin hY) rfl rfl (nle rfl) (nle rfl) (nle rfl) ?_
    refine r_cSl (As := [.long (-1000000), .long (lmin 1000000 (y1 + y3))]) (rest := []) C hR mlX3_54 dX3_joined_56 (t_lmax hY) rfl rfl (nle rfl) (nle rfl) (nle rfl) ?_
    refine r_l2i C dX3_joined_59 ?_
    have h := Option.some.inj h
    subst h
    exact r_iret C dX3_joined_60 hr hE
  have h := (ite_inv h).2 c1
  by_cases c2 : x0 = 1012
  · have h := (ite_inv h).1 c2
    refine r_tabIn 61 C dX3_joined_1 (by rw [c2, ti_1012]; decide) (by rw [c2, ti_1012]; decide) (by rw [c2, ti_1012]; rfl) (by decide) ?_
    refine r_ldc2 C dX3_joined_61 klX3_47 ?_
    refine r_ldc2 C dX3_joined_64 klX3_49 ?_
    refine r_lload_n C dX3_joined_67 1 rfl ?_
    refine r_lload_n C dX3_joined_68 2 rfl ?_
    refine r_lsub C dX3_joined_69 ?_
    refine r_cSl (As := [.long 1000000, .long (y1 - y3)]) (rest := [.long (-1000000)]) C hR mlX3_51 dX3_joined_70 (t_lmin hY) rfl rfl (nle rfl) (nle rfl) (nle rfl) ?_
    refine r_cSl (As := [.long (-1000000), .long (lmin 1000000 (y1 - y3))]) (rest := []) C hR mlX3_54 dX3_joined_73 (t_lmax hY) rfl rfl (nle rfl) (nle rfl) (nle rfl) ?_
    refine r_l2i C dX3_joined_76 ?_
    have h := Option.some.inj h
    subst h
    exact r_iret C dX3_joined_77 hr hE
  have h := (ite_inv h).2 c2
  by_cases c3 : x0 = 1013
  · have h := (ite_inv h).1 c3
    refine r_tabIn 78 C dX3_joined_1 (by rw [c3, ti_1013]; decide) (by rw [c3, ti_1013]; decide) (by rw [c3, ti_1013]; rfl) (by decide) ?_
    refine r_ldc2 C dX3_joined_78 klX3_47 ?_
    refine r_ldc2 C dX3_joined_81 klX3_49 ?_
    refine r_lload_n C dX3_joined_84 1 rfl ?_
    refine r_lload_n C dX3_joined_85 2 rfl ?_
    refine r_lmul C dX3_joined_86 ?_
    refine r_cSl (As := [.long 1000000, .long (y1 * y3)]) (rest := [.long (-1000000)]) C hR mlX3_51 dX3_joined_87 (t_lmin hY) rfl rfl (nle rfl) (nle rfl) (nle rfl) ?_
    refine r_cSl (As := [.long (-1000000), .long (lmin 1000000 (y1 * y3))]) (rest := []) C hR mlX3_54 dX3_joined_90 (t_lmax hY) rfl rfl (nle rfl) (nle rfl) (nle rfl) ?_
    refine r_l2i C dX3_joined_93 ?_
    have h := Option.some.inj h
    subst h
    exact r_iret C dX3_joined_94 hr hE
  have h := (ite_inv h).2 c3
  by_cases c4 : x0 = 1014
  · have h := (ite_inv h).1 c4
    refine r_tabIn 95 C dX3_joined_1 (by rw [c4, ti_1014]; decide) (by rw [c4, ti_1014]; decide) (by rw [c4, ti_1014]; rfl) (by decide) ?_
    refine r_lload_n C dX3_joined_95 1 rfl ?_
    refine r_lload_n C dX3_joined_96 2 rfl ?_
    refine r_lcmp C dX3_joined_97 ?_
    refine r_if_ne 105 C dX3_joined_98 (by decide) (fun c5 => ?_) (fun c5 => ?_)
    · have h := (ite_inv h).2 c5
      refine r_iconst C dX3_joined_105 ic_0 ?_
      have h := Option.some.inj h
      subst h
      exact r_iret C dX3_joined_106 hr hE
    · have h := (ite_inv h).1 c5
      refine r_iconst C dX3_joined_101 ic_1 ?_
      refine r_goto 106 C dX3_joined_102 (by decide) ?_
      have h := Option.some.inj h
      subst h
      exact r_iret C dX3_joined_106 hr hE
  have h := (ite_inv h).2 c4
  by_cases c6 : x0 = 1015
  · have h := (ite_inv h).1 c6
    refine r_tabIn 107 C dX3_joined_1 (by rw [c6, ti_1015]; decide) (by rw [c6, ti_1015]; decide) (by rw [c6, ti_1015]; rfl) (by decide) ?_
    refine r_lload_n C dX3_joined_107 1 rfl ?_
    refine r_lload_n C dX3_joined_108 2 rfl ?_
    refine r_lcmp C dX3_joined_109 ?_
    refine r_if_ge 117 C dX3_joined_110 (by decide) (fun c7 => ?_) (fun c7 => ?_)
    · have h := (ite_inv h).1 c7
      refine r_iconst C dX3_joined_117 ic_0 ?_
      have h := Option.some.inj h
      subst h
      exact r_iret C dX3_joined_118 hr hE
    · have h := (ite_inv h).2 c7
      refine r_iconst C dX3_joined_113 ic_1 ?_
      refine r_goto 118 C dX3_joined_114 (by decide) ?_
      have h := Option.some.inj h
      subst h
      exact r_iret C dX3_joined_118 hr hE
  have h := (ite_inv h).2 c6
  by_cases c8 : x0 = 1016
  · have h := (ite_inv h).1 c8
    refine r_tabIn 119 C dX3_joined_1 (by rw [c8, ti_1016]; decide) (by rw [c8, ti_1016]; decide) (by rw [c8, ti_1016]; rfl) (by decide) ?_
    refine r_lload_n C dX3_joined_119 1 rfl ?_
    refine r_lload_n C dX3_joined_120 2 rfl ?_
    refine r_lcmp C dX3_joined_121 ?_
    refine r_if_le 129 C dX3_joined_122 (by decide) (fun c9 => ?_) (fun c9 => ?_)
    · have h := (ite_inv h).1 c9
      refine r_iconst C dX3_joined_129 ic_0 ?_
      have h := Option.some.inj h
      subst h
      exact r_iret C dX3_joined_130 hr hE
    · have h := (ite_inv h).2 c9
      refine r_iconst C dX3_joined_125 ic_1 ?_
      refine r_goto 130 C dX3_joined_126 (by decide) ?_
      have h := Option.some.inj h
      subst h
      exact r_iret C dX3_joined_130 hr hE
  have h := (ite_inv h).2 c8
  by_cases c10 : x0 = 1017
  · have h := (ite_inv h).1 c10
    refine r_tabIn 131 C dX3_joined_1 (by rw [c10, ti_1017]; decide) (by rw [c10, ti_1017]; decide) (by rw [c10, ti_1017]; rfl) (by decide) ?_
    refine r_lload_n C dX3_joined_131 1 rfl ?_
    refine r_lload_n C dX3_joined_132 2 rfl ?_
    refine r_lmul C dX3_joined_133 ?_
    refine r_lconst C dX3_joined_134 lc_0 ?_
    refine r_lcmp C dX3_joined_135 ?_
    refine r_if_ne 143 C dX3_joined_136 (by decide) (fun c11 => ?_) (fun c11 => ?_)
    · have h := (ite_inv h).2 c11
      refine r_iconst C dX3_joined_143 ic_1 ?_
      have h := Option.some.inj h
      subst h
      exact r_iret C dX3_joined_144 hr hE
    · have h := (ite_inv h).1 c11
      refine r_iconst C dX3_joined_139 ic_0 ?_
      refine r_goto 144 C dX3_joined_140 (by decide) ?_
      have h := Option.some.inj h
      subst h
      exact r_iret C dX3_joined_144 hr hE
  have h := (ite_inv h).2 c10
  suffices hj : Wm Z (0, 0, sh, R) μ 145 [(0, .int x0), (1, .long y1), (3, .long y3)] [] by
    have q0 := tne c1 ti_1011
    have q1 := tne c2 ti_1012
    have q2 := tne c3 ti_1013
    have q3 := tne c4 ti_1014
    have q4 := tne c6 ti_1015
    have q5 := tne c8 ti_1016
    have q6 := tne c10 ti_1017
    exact r_tabOut 145 C dX3_joined_1 (by omega) (by decide) hj
  refine r_lload_n C dX3_joined_145 1 rfl ?_
  refine r_lload_n C dX3_joined_146 2 rfl ?_
  refine r_ladd C dX3_joined_147 ?_
  refine r_lconst C dX3_joined_148 lc_0 ?_
  refine r_lcmp C dX3_joined_149 ?_
  refine r_if_ne 157 C dX3_joined_150 (by decide) (fun c12 => ?_) (fun c12 => ?_)
  · have h := (ite_inv h).2 c12
    refine r_iconst C dX3_joined_157 ic_1 ?_
    have h := Option.some.inj h
    subst h
    exact r_iret C dX3_joined_158 hr hE
  · have h := (ite_inv h).1 c12
    refine r_iconst C dX3_joined_153 ic_0 ?_
    refine r_goto 158 C dX3_joined_154 (by decide) ?_
    have h := Option.some.inj h
    subst h
    exact r_iret C dX3_joined_158 hr hE
def jX3_valueOf_113 (n : Nat) (a0 : Nat) (x1 : Int32) (x4 : Int32) (x5 : Int32) (x6 : Int32) (μ : Mu) : Option ((Int32 × Int32 × Mu) ⊕ ((Mu) ⊕ (Mu))) := if x4 < 1 then (some (.inl (x4, x5 + 1, μ))) else (gd (ib (x4 + (-1)) 64) (gd (ib ((x4 + (-1)) + 1) 64) (bnd (fX3_joined n x6 ((rI μ 33 (ix (x4 + (-1)))).toInt64) ((rI μ 33 (ix ((x4 + (-1)) + 1))).toInt64) μ) fun u11 => gd (ib (x4 + (-1)) 64) (some (.inl (x4 + (-1), x5 + 1, wI μ 33 (ix (x4 + (-1))) u11))))))
set_option maxRecDepth 100000 in
set_option maxHeartbeats 4000000 in
theorem kX3_valueOf_113 {Z : ZC} {sh : List Sh} {R : Rf} {o : (Int32 × Int32 × Mu) ⊕ ((Mu) ⊕ (Mu))} (C : CX Z cX3_valueOf 7 RX3) (hR : zR Z = rm 2 0 0) (hY : LY sh R) (n : Nat) (a0 : Nat) (ha0 : isLaw sh R a0) (x1 : Int32) (x4 : Int32) (x5 : Int32) (x6 : Int32) (μ : Mu) (h : jX3_valueOf_113 n a0 x1 x4 x5 x6 μ = some o) (kin : ∀ (x4 : Int32) (x5 : Int32) (μ : Mu), o = .inl (x4, x5, μ) → Wm Z (0, 0, sh, R) μ 15 [(0, .ref (wb (zw Z) + a0)), (1, .int x1), (2, .ref (wb (zw Z) + 32)), (3, .ref (wb (zw Z) + 33)), (4, .int x4), (5, .int x5)] []) (kex0 : ∀ (μ : Mu), o = .inr (.inl μ) → Wm Z (0, 0, sh, R) μ 53 [] []) (kex1 : ∀ (μ : Mu), o = .inr (.inr μ) → Wm Z (0, 0, sh, R) μ 149 [(3, .ref (wb (zw Z) + 33))] []) : Wm Z (0, 0, sh, R) μ 113 [(0, .ref (wb (zw Z) + a0)), (1, .int x1), (2, .ref (wb (zw Z) + 32)), (3, .ref (wb (zw Z) + 33)), (4, .int x4), (5, .int x5), (6, .int x6)] [] := by
  unfold jX3_valueOf_113 at h
  refine r_iload C dX3_valueOf_113 4 rfl ?_
  refine r_iconst C dX3_valueOf_115 ic_1 ?_
  refine r_icmp_lt 143 C dX3_valueOf_116 (by decide) (fun c7 => ?_) (fun c7 => ?_)
  · have h := (ite_inv h).1 c7
    refine r_iinc [(5, .int (x5 + 1)), (0, .ref (wb (zw Z) + a0)), (1, .int x1), (2, .ref (wb (zw Z) + 32)), (3, .ref (wb (zw Z) + 33)), (4, .int x4), (6, .int x6)] C dX3_valueOf_143 5 rfl (in_1 _) (by decide) rfl ?_
    refine r_goto 15 C dX3_valueOf_146 (by decide) ?_
    refine r_sub [(0, .ref (wb (zw Z) + a0)), (1, .int x1), (2, .ref (wb (zw Z) + 32)), (3, .ref (wb (zw Z) + 33)), (4, .int x4), (5, .int (x5 + 1))] [1, 2, 3, 4, 5, 0] rfl ?_
    exact kin x4 (x5 + 1) μ (Option.some.inj h).symm
  · have h := (ite_inv h).2 c7
    refine r_iinc [(4, .int (x4 + (-1))), (0, .ref (wb (zw Z) + a0)), (1, .int x1), (2, .ref (wb (zw Z) + 32)), (3, .ref (wb (zw Z) + 33)), (5, .int x5), (6, .int x6)] C dX3_valueOf_119 4 rfl (in_m1 _) (by decide) rfl ?_
    refine r_aload_n C dX3_valueOf_122 4 rfl ?_
    refine r_iload C dX3_valueOf_123 0 rfl ?_
    refine r_iload C dX3_valueOf_125 6 rfl ?_
    refine r_aload_n C dX3_valueOf_127 4 rfl ?_
    refine r_iload C dX3_valueOf_128 0 rfl ?_
    obtain ⟨b8, h⟩ := gd_inv h
    refine r_iald C dX3_valueOf_130 (ly33 hY) b8 ?_
    refine r_i2l C dX3_valueOf_131 ?_
    refine r_aload_n C dX3_valueOf_132 4 rfl ?_
    refine r_iload C dX3_valueOf_133 0 rfl ?_
    refine r_iconst C dX3_valueOf_135 ic_1 ?_
    refine r_iadd C dX3_valueOf_136 ?_
    obtain ⟨b9, h⟩ := gd_inv h
    refine r_iald C dX3_valueOf_137 (ly33 hY) b9 ?_
    refine r_i2l C dX3_valueOf_138 ?_
    obtain ⟨u11, e10, h⟩ := bnd_inv h
    refine r_cSi (As := [.int x6, .long ((rI μ 33 (ix (x4 + (-1)))).toInt64), .long ((rI μ 33 (ix ((x4 + (-1)) + 1))).toInt64)]) (rest := [.int (x4 + (-1)), .ref (wb (zw Z) + 33)]) C hR mlX3_43 dX3_valueOf_139 (tX3_joined hY n x6 ((rI μ 33 (ix (x4 + (-1)))).toInt64) ((rI μ 33 (ix ((x4 + (-1)) + 1))).toInt64)  e10) rfl rfl (nle rfl) (nle rfl) (nle rfl) ?_
    obtain ⟨b12, h⟩ := gd_inv h
    refine r_iast C dX3_valueOf_142 (ly33 hY) b12 ?_
    refine r_iinc [(5, .int (x5 + 1)), (4, .int (x4 + (-1))), (0, .ref (wb (zw Z) + a0)), (1, .int x1), (2, .ref (wb (zw Z) + 32)), (3, .ref (wb (zw Z) + 33)), (6, .int x6)] C dX3_valueOf_143 5 rfl (in_1 _) (by decide) rfl ?_
    refine r_goto 15 C dX3_valueOf_146 (by decide) ?_
    refine r_sub [(0, .ref (wb (zw Z) + a0)), (1, .int x1), (2, .ref (wb (zw Z) + 32)), (3, .ref (wb (zw Z) + 33)), (4, .int (x4 + (-1))), (5, .int (x5 + 1))] [2, 3, 4, 5, 1, 0] rfl ?_
    exact kin (x4 + (-1)) (x5 + 1) (wI μ 33 (ix (x4 + (-1))) u11) (Option.some.inj h).symm
def jX3_valueOf_83 (n : Nat) (a0 : Nat) (x1 : Int32) (x4 : Int32) (x5 : Int32) (s0 : Int32) (s1 : Int32) (μ : Mu) : Option ((Int32 × Int32 × Mu) ⊕ ((Mu) ⊕ (Mu))) := gd (ib s1 64) (some (.inl (x4, x5 + 1, wI μ 33 (ix s1) s0)))
set_option maxRecDepth 100000 in
set_option maxHeartbeats 4000000 in
theorem kX3_valueOf_83 {Z : ZC} {sh : List Sh} {R : Rf} {o : (Int32 × Int32 × Mu) ⊕ ((Mu) ⊕ (Mu))} (C : CX Z cX3_valueOf 7 RX3) (hR : zR Z = rm 2 0 0) (hY : LY sh R) (n : Nat) (a0 : Nat) (ha0 : isLaw sh R a0) (x1 : Int32) (x4 : Int32) (x5 : Int32) (s0 : Int32) (s1 : Int32) (μ : Mu) (h : jX3_valueOf_83 n a0 x1 x4 x5 s0 s1 μ = some o) (kin : ∀ (x4 : Int32) (x5 : Int32) (μ : Mu), o = .inl (x4, x5, μ) → Wm Z (0, 0, sh, R) μ 15 [(0, .ref (wb (zw Z) + a0)), (1, .int x1), (2, .ref (wb (zw Z) + 32)), (3, .ref (wb (zw Z) + 33)), (4, .int x4), (5, .int x5)] []) (kex0 : ∀ (μ : Mu), o = .inr (.inl μ) → Wm Z (0, 0, sh, R) μ 53 [] []) (kex1 : ∀ (μ : Mu), o = .inr (.inr μ) → Wm Z (0, 0, sh, R) μ 149 [(3, .ref (wb (zw Z) + 33))] []) : Wm Z (0, 0, sh, R) μ 83 [(0, .ref (wb (zw Z) + a0)), (1, .int x1), (2, .ref (wb (zw Z) + 32)), (3, .ref (wb (zw Z) + 33)), (4, .int x4), (5, .int x5)] [.int s0, .int s1, .ref (wb (zw Z) + 33)] := by
  unfold jX3_valueOf_83 at h
  obtain ⟨b19, h⟩ := gd_inv h
  refine r_iast C dX3_valueOf_83 (ly33 hY) b19 ?_
  refine r_goto 143 C dX3_valueOf_84 (by decide) ?_
  refine r_iinc [(5, .int (x5 + 1)), (0, .ref (wb (zw Z) + a0)), (1, .int x1), (2, .ref (wb (zw Z) + 32)), (3, .ref (wb (zw Z) + 33)), (4, .int x4)] C dX3_valueOf_143 5 rfl (in_1 _) (by decide) rfl ?_
  refine r_goto 15 C dX3_valueOf_146 (by decide) ?_
  refine r_sub [(0, .ref (wb (zw Z) + a0)), (1, .int x1), (2, .ref (wb (zw Z) + 32)), (3, .ref (wb (zw Z) + 33)), (4, .int x4), (5, .int (x5 + 1))] [1, 2, 3, 4, 5, 0] rfl ?_
  exact kin x4 (x5 + 1) (wI μ 33 (ix s1) s0) (Option.some.inj h).symm
def sX3_valueOf_15 (n : Nat) (a0 : Nat) (x1 : Int32) : Int32 × Int32 × Mu → Option ((Int32 × Int32 × Mu) ⊕ ((Mu) ⊕ (Mu))) := fun q => match q with | (x4, x5, μ) => gd (ib x1 3) (if (rI μ (a0 + 3) (ix x1)) ≤ x5 then (some (.inr (.inr μ))) else (gd (ib x5 900) (if 1010 ≤ (rI μ (a0 + 1) (ix x5)) then (if (rI μ (a0 + 1) (ix x5)) = 1010 then (if x4 < 0 then (jX3_valueOf_113 n a0 x1 x4 x5 (rI μ (a0 + 1) (ix x5)) μ) else (gd (ib x4 64) (gd (ib x4 64) (some (.inl (x4, x5 + 1, wI μ 33 (ix x4) (1 - (rI μ 33 (ix x4))))))))) else (jX3_valueOf_113 n a0 x1 x4 x5 (rI μ (a0 + 1) (ix x5)) μ)) else (if (x4 + 1) < 64 then (if 1000 ≤ (rI μ (a0 + 1) (ix x5)) then (gd (ib (jmin ((rI μ (a0 + 1) (ix x5)) - 1000) 4) 5) (jX3_valueOf_83 n a0 x1 (x4 + 1) x5 (rI μ 32 (ix (jmin ((rI μ (a0 + 1) (ix x5)) - 1000) 4))) (x4 + 1) μ)) else (jX3_valueOf_83 n a0 x1 (x4 + 1) x5 (rI μ (a0 + 1) (ix x5)) (x4 + 1) μ)) else (some (.inr (.inl μ)))))))
set_option maxRecDepth 100000 in
set_option maxHeartbeats 4000000 in
theorem lX3_valueOf_15 {Z : ZC} {sh : List Sh} {R : Rf} {o : (Int32 × Int32 × Mu) ⊕ ((Mu) ⊕ (Mu))} (C : CX Z cX3_valueOf 7 RX3) (hR : zR Z = rm 2 0 0) (hY : LY sh R) (n : Nat) (a0 : Nat) (ha0 : isLaw sh R a0) (x1 : Int32) (x4 : Int32) (x5 : Int32) (μ : Mu) (h : sX3_valueOf_15 n a0 x1 (x4, x5, μ) = some o) (kin : ∀ (x4 : Int32) (x5 : Int32) (μ : Mu), o = .inl (x4, x5, μ) → Wm Z (0, 0, sh, R) μ 15 [(0, .ref (wb (zw Z) + a0)), (1, .int x1), (2, .ref (wb (zw Z) + 32)), (3, .ref (wb (zw Z) + 33)), (4, .int x4), (5, .int x5)] []) (kex0 : ∀ (μ : Mu), o = .inr (.inl μ) → Wm Z (0, 0, sh, R) μ 53 [] []) (kex1 : ∀ (μ : Mu), o = .inr (.inr μ) → Wm Z (0, 0, sh, R) μ 149 [(3, .ref (wb (zw Z) + 33))] []) : Wm Z (0, 0, sh, R) μ 15 [(0, .ref (wb (zw Z) + a0)), (1, .int x1), (2, .ref (wb (zw Z) + 32)), (3, .ref (wb (zw Z) + 33)), (4, .int x4), (5, .int x5)] [] := by
  unfold sX3_valueOf_15 at h
  refine r_iload C dX3_valueOf_15 5 rfl ?_
  refine r_aload_n C dX3_valueOf_17 0 rfl ?_
  refine r_getR C flX3_18 dX3_valueOf_18 (isLaw_0 ha0) rfl (isLaw_r3 ha0) ?_
  refine r_iload_n C dX3_valueOf_21 1 rfl ?_
  obtain ⟨b2, h⟩ := gd_inv h
  refine r_iald C dX3_valueOf_22 (isLaw_3 ha0) b2 ?_
  refine r_icmp_ge 149 C dX3_valueOf_23 (by decide) (fun c3 => ?_) (fun c3 => ?_)
  · have h := (ite_inv h).1 c3
    refine r_sub [(3, .ref (wb (zw Z) + 33))] [3] rfl ?_
    exact kex1 μ (Option.some.inj h).symm
  · have h := (ite_inv h).2 c3
    refine r_aload_n C dX3_valueOf_26 0 rfl ?_
    refine r_getR C flX3_9 dX3_valueOf_27 (isLaw_0 ha0) rfl (isLaw_r0 ha0) ?_
    refine r_iload C dX3_valueOf_30 5 rfl ?_
    obtain ⟨b4, h⟩ := gd_inv h
    refine r_iald C dX3_valueOf_32 (isLaw_1 ha0) b4 ?_
    refine r_istore [(6, .int (rI μ (a0 + 1) (ix x5))), (0, .ref (wb (zw Z) + a0)), (1, .int x1), (2, .ref (wb (zw Z) + 32)), (3, .ref (wb (zw Z) + 33)), (4, .int x4), (5, .int x5)] C dX3_valueOf_33 (by decide) rfl ?_
    refine r_iload C dX3_valueOf_35 0 rfl ?_
    refine r_sipush C dX3_valueOf_37 sp_1010 ?_
    refine r_icmp_ge 87 C dX3_valueOf_40 (by decide) (fun c5 => ?_) (fun c5 => ?_)
    · have h := (ite_inv h).1 c5
      refine r_iload C dX3_valueOf_87 0 rfl ?_
      refine r_sipush C dX3_valueOf_89 sp_1010 ?_
      refine r_icmp_ne 113 C dX3_valueOf_92 (by decide) (fun c6 => ?_) (fun c6 => ?_)
      · have h := (ite_inv h).2 c6
        refine r_sub [(0, .ref (wb (zw Z) + a0)), (1, .int x1), (2, .ref (wb (zw Z) + 32)), (3, .ref (wb (zw Z) + 33)), (4, .int x4), (5, .int x5), (6, .int (rI μ (a0 + 1) (ix x5)))] [1, 2, 3, 4, 5, 6, 0] rfl ?_
        exact kX3_valueOf_113 C hR hY n a0 ha0 x1 x4 x5 (rI μ (a0 + 1) (ix x5)) μ h kin kex0 kex1
      · have h := (ite_inv h).1 c6
        refine r_iload C dX3_valueOf_95 5 rfl ?_
        refine r_if_lt 113 C dX3_valueOf_97 (by decide) (fun c13 => ?_) (fun c13 => ?_)
        · have h := (ite_inv h).1 c13
          refine r_sub [(0, .ref (wb (zw Z) + a0)), (1, .int x1), (2, .ref (wb (zw Z) + 32)), (3, .ref (wb (zw Z) + 33)), (4, .int x4), (5, .int x5), (6, .int (rI μ (a0 + 1) (ix x5)))] [1, 2, 3, 4, 5, 6, 0] rfl ?_
          exact kX3_valueOf_113 C hR hY n a0 ha0 x1 x4 x5 (rI μ (a0 + 1) (ix x5)) μ h kin kex0 kex1
        · have h := (ite_inv h).2 c13
          refine r_aload_n C dX3_valueOf_100 4 rfl ?_
          refine r_iload C dX3_valueOf_101 5 rfl ?_
          refine r_iconst C dX3_valueOf_103 ic_1 ?_
          refine r_aload_n C dX3_valueOf_104 4 rfl ?_
          refine r_iload C dX3_valueOf_105 5 rfl ?_
          obtain ⟨b14, h⟩ := gd_inv h
          refine r_iald C dX3_valueOf_107 (ly33 hY) b14 ?_
          refine r_isub C dX3_valueOf_108 ?_
          obtain ⟨b15, h⟩ := gd_inv h
          refine r_iast C dX3_valueOf_109 (ly33 hY) b15 ?_
          refine r_goto 143 C dX3_valueOf_110 (by decide) ?_
          refine r_iinc [(5, .int (x5 + 1)), (6, .int (rI μ (a0 + 1) (ix x5))), (0, .ref (wb (zw Z) + a0)), (1, .int x1), (2, .ref (wb (zw Z) + 32)), (3, .ref (wb (zw Z) + 33)), (4, .int x4)] C dX3_valueOf_143 6 rfl (in_1 _) (by decide) rfl ?_
          refine r_goto 15 C dX3_valueOf_146 (by decide) ?_
          refine r_sub [(0, .ref (wb (zw Z) + a0)), (1, .int x1), (2, .ref (wb (zw Z) + 32)), (3, .ref (wb (zw Z) + 33)), (4, .int x4), (5, .int (x5 + 1))] [2, 3, 4, 5, 6, 0] rfl ?_
          exact kin x4 (x5 + 1) (wI μ 33 (ix x4) (1 - (rI μ 33 (ix x4)))) (Option.some.inj h).symm
    · have h := (ite_inv h).2 c5
      refine r_iinc [(4, .int (x4 + 1)), (6, .int (rI μ (a0 + 1) (ix x5))), (0, .ref (wb (zw Z) + a0)), (1, .int x1), (2, .ref (wb (zw Z) + 32)), (3, .ref (wb (zw Z) + 33)), (5, .int x5)] C dX3_valueOf_43 5 rfl (in_1 _) (by decide) rfl ?_
      refine r_iload C dX3_valueOf_46 0 rfl ?_
      refine r_aload_n C dX3_valueOf_48 5 rfl ?_
      refine r_alen (v := 64) C dX3_valueOf_49 (ly33 hY) rfl (by decide) ?_
      refine r_icmp_lt 55 C dX3_valueOf_50 (by decide) (fun c16 => ?_) (fun c16 => ?_)
      · have h := (ite_inv h).1 c16
        refine r_aload_n C dX3_valueOf_55 5 rfl ?_
        refine r_iload C dX3_valueOf_56 0 rfl ?_
        refine r_iload C dX3_valueOf_58 1 rfl ?_
        refine r_sipush C dX3_valueOf_60 sp_1000 ?_
        refine r_icmp_ge 71 C dX3_valueOf_63 (by decide) (fun c17 => ?_) (fun c17 => ?_)
        · have h := (ite_inv h).1 c17
          refine r_aload_n C dX3_valueOf_71 4 rfl ?_
          refine r_iload C dX3_valueOf_72 1 rfl ?_
          refine r_sipush C dX3_valueOf_74 sp_1000 ?_
          refine r_isub C dX3_valueOf_77 ?_
          refine r_iconst C dX3_valueOf_78 ic_4 ?_
          refine r_cSi (As := [.int ((rI μ (a0 + 1) (ix x5)) - 1000), .int 4]) (rest := [.ref (wb (zw Z) + 32), .int (x4 + 1), .ref (wb (zw Z) + 33)]) C hR mlX3_37 dX3_valueOf_79 (t_jmin hY) rfl rfl (nle rfl) (nle rfl) (nle rfl) ?_
          obtain ⟨b18, h⟩ := gd_inv h
          refine r_iald C dX3_valueOf_82 (ly32 hY) b18 ?_
          refine r_sub [(0, .ref (wb (zw Z) + a0)), (1, .int x1), (2, .ref (wb (zw Z) + 32)), (3, .ref (wb (zw Z) + 33)), (4, .int (x4 + 1)), (5, .int x5)] [2, 3, 4, 5, 0, 6] rfl ?_
          exact kX3_valueOf_83 C hR hY n a0 ha0 x1 (x4 + 1) x5 (rI μ 32 (ix (jmin ((rI μ (a0 + 1) (ix x5)) - 1000) 4))) (x4 + 1) μ h kin kex0 kex1
        · have h := (ite_inv h).2 c17
          refine r_iload C dX3_valueOf_66 1 rfl ?_
          refine r_goto 83 C dX3_valueOf_68 (by decide) ?_
          refine r_sub [(0, .ref (wb (zw Z) + a0)), (1, .int x1), (2, .ref (wb (zw Z) + 32)), (3, .ref (wb (zw Z) + 33)), (4, .int (x4 + 1)), (5, .int x5)] [2, 3, 4, 5, 0, 6] rfl ?_
          exact kX3_valueOf_83 C hR hY n a0 ha0 x1 (x4 + 1) x5 (rI μ (a0 + 1) (ix x5)) (x4 + 1) μ h kin kex0 kex1
      · have h := (ite_inv h).2 c16
        refine r_sub [] [] rfl ?_
        exact kex0 μ (Option.some.inj h).symm
def fX3_valueOf (n : Nat) (a0 : Nat) (x1 : Int32) (μ : Mu) : Option (Int32 × Mu) := gd (ib x1 3) (bnd (lp n (sX3_valueOf_15 n a0 x1) ((-1), rI (wI μ 33 0 0) (a0 + 2) (ix x1), wI μ 33 0 0)) fun q => match q with | .inl m20 => (some (0, m20)) | .inr m21 => (some (rI m21 33 0, m21)))
set_option maxRecDepth 100000 in
set_option maxHeartbeats 4000000 in
theorem tX3_valueOf {l : Launch} {w : WP} {sh : List Sh} {R : Rf} {μ : Mu} {r : Int32} {μ' : Mu} (hY : LY sh R) (n : Nat) (a0 : Nat) (x1 : Int32) (ha0 : isLaw sh R a0) (h : fX3_valueOf n a0 x1 μ = some (r, μ')) : CM l w yX3_valueOf cX3_valueOf 7 (some .int) 2 0 0 sh R [.ref (wb w + a0), .int x1, .ref (wb w + 32), .ref (wb w + 33)] μ (some (.int r)) sh R μ' := by
  refine CM.of (plainFor_of_name pf_X3) (Nat.le_of_ble_eq_true rfl) fun Z C hr _ hR hw hl hE => ?_
  subst hw; subst hl
  have C : CX Z cX3_valueOf 7 RX3 := C
  show Wm Z (0, 0, sh, R) μ 0 [(0, .ref (wb (zw Z) + a0)), (1, .int x1), (2, .ref (wb (zw Z) + 32)), (3, .ref (wb (zw Z) + 33))] []
  unfold fX3_valueOf at h
  refine r_iconst C dX3_valueOf_0 ic_m1 ?_
  refine r_istore [(4, .int (-1)), (0, .ref (wb (zw Z) + a0)), (1, .int x1), (2, .ref (wb (zw Z) + 32)), (3, .ref (wb (zw Z) + 33))] C dX3_valueOf_1 (by decide) rfl ?_
  refine r_aload_n C dX3_valueOf_3 4 rfl ?_
  refine r_iconst C dX3_valueOf_4 ic_0 ?_
  refine r_iconst C dX3_valueOf_5 ic_0 ?_
  refine r_iast C dX3_valueOf_6 (ly33 hY) (by decide) ?_
  refine r_aload_n C dX3_valueOf_7 1 rfl ?_
  refine r_getR C flX3_15 dX3_valueOf_8 (isLaw_0 ha0) rfl (isLaw_r2 ha0) ?_
  refine r_iload_n C dX3_valueOf_11 2 rfl ?_
  obtain ⟨b1, h⟩ := gd_inv h
  refine r_iald C dX3_valueOf_12 (isLaw_2 ha0) b1 ?_
  refine r_istore [(5, .int (rI (wI μ 33 0 0) (a0 + 2) (ix x1))), (4, .int (-1)), (0, .ref (wb (zw Z) + a0)), (1, .int x1), (2, .ref (wb (zw Z) + 32)), (3, .ref (wb (zw Z) + 33))] C dX3_valueOf_13 (by decide) rfl ?_
  refine r_sub [(0, .ref (wb (zw Z) + a0)), (1, .int x1), (2, .ref (wb (zw Z) + 32)), (3, .ref (wb (zw Z) + 33)), (4, .int (-1)), (5, .int (rI (wI μ 33 0 0) (a0 + 2) (ix x1)))] [2, 3, 4, 5, 1, 0] rfl ?_
  obtain ⟨q23, e22, h⟩ := bnd_inv h
  refine lp_all (sX3_valueOf_15 n a0 x1) (fun q => match q with | (z4, z5, ν) => Wm Z (0, 0, sh, R) (ν) 15 [(0, .ref (wb (zw Z) + a0)), (1, .int x1), (2, .ref (wb (zw Z) + 32)), (3, .ref (wb (zw Z) + 33)), (4, .int z4), (5, .int z5)] []) (fun q => match q with | .inl (ν) => Wm Z (0, 0, sh, R) (ν) 53 [] [] | .inr (ν) => Wm Z (0, 0, sh, R) (ν) 149 [(3, .ref (wb (zw Z) + 33))] []) (fun q o h kin kex => ?_) n ((-1), rI (wI μ 33 0 0) (a0 + 2) (ix x1), wI μ 33 0 0) q23 e22 ?_
  · obtain ⟨z4, z5, ν⟩ := q; exact lX3_valueOf_15 C hR hY n a0 ha0 x1 z4 z5 ν h (fun z4 z5 ν e => kin (z4, z5, ν) e) (fun ν e => kex (.inl (ν)) e) (fun ν e => kex (.inr (ν)) e)
  rcases q23 with m20 | m21
  · show Wm Z (0, 0, sh, R) m20 53 [] []
    refine r_iconst C dX3_valueOf_53 ic_0 ?_
    obtain ⟨h1, h2⟩ := Prod.mk.inj (Option.some.inj h)
    subst h1; subst h2
    exact r_iret C dX3_valueOf_54 hr hE
  · show Wm Z (0, 0, sh, R) m21 149 [(3, .ref (wb (zw Z) + 33))] []
    refine r_aload_n C dX3_valueOf_149 0 rfl ?_
    refine r_iconst C dX3_valueOf_150 ic_0 ?_
    refine r_iald C dX3_valueOf_151 (ly33 hY) (by decide) ?_
    obtain ⟨h1, h2⟩ := Prod.mk.inj (Option.some.inj h)
    subst h1; subst h2
    exact r_iret C dX3_valueOf_152 hr hE
def jX6_openCurrents_168 (n : Nat) (x3 : Int32) (μ : Mu) : Option (Int32 × Mu) := gd (ib x3 48) (some (rI μ 30 (ix x3), μ))
set_option maxRecDepth 100000 in
set_option maxHeartbeats 4000000 in
theorem kX6_openCurrents_168 {Z : ZC} {sh : List Sh} {R : Rf} {r : Int32} {μ' : Mu} (C : CX Z cX6_openCurrents 7 RX6) (hR : zR Z = rm 3 0 0) (hY : LY sh R) (n : Nat) (x3 : Int32) (μ : Mu) (h : jX6_openCurrents_168 n x3 μ = some (r, μ')) (hr : (zme Z).sig.returnType = (some .int)) (hE : zEnd Z (0, 0, sh, R) μ' (some (.int r))) : Wm Z (0, 0, sh, R) μ 168 [(0, .ref (wb (zw Z) + 28)), (3, .int x3)] [] := by
  unfold jX6_openCurrents_168 at h
  refine r_aload_n C dX6_openCurrents_168 0 rfl ?_
  refine r_getR C flX6_15 dX6_openCurrents_169 (ly28 hY) rfl (lr28_2 hY) ?_
  refine r_iload_n C dX6_openCurrents_172 1 rfl ?_
  obtain ⟨b5, h⟩ := gd_inv h
  refine r_iald C dX6_openCurrents_173 (ly30 hY) b5 ?_
  obtain ⟨h1, h2⟩ := Prod.mk.inj (Option.some.inj h)
  subst h1; subst h2
  exact r_iret C dX6_openCurrents_174 hr hE
def jX6_openCurrents_160 (n : Nat) (x3 : Int32) (x5 : Int32) (μ : Mu) : Option (Int32 × Mu) := gd (ib x3 48) (jX6_openCurrents_168 n x3 (wI μ 30 (ix x3) x5))
set_option maxRecDepth 100000 in
set_option maxHeartbeats 4000000 in
theorem kX6_openCurrents_160 {Z : ZC} {sh : List Sh} {R : Rf} {r : Int32} {μ' : Mu} (C : CX Z cX6_openCurrents 7 RX6) (hR : zR Z = rm 3 0 0) (hY : LY sh R) (n : Nat) (x3 : Int32) (x5 : Int32) (μ : Mu) (h : jX6_openCurrents_160 n x3 x5 μ = some (r, μ')) (hr : (zme Z).sig.returnType = (some .int)) (hE : zEnd Z (0, 0, sh, R) μ' (some (.int r))) : Wm Z (0, 0, sh, R) μ 160 [(0, .ref (wb (zw Z) + 28)), (3, .int x3), (5, .int x5)] [] := by
  unfold jX6_openCurrents_160 at h
  refine r_aload_n C dX6_openCurrents_160 0 rfl ?_
  refine r_getR C flX6_15 dX6_openCurrents_161 (ly28 hY) rfl (lr28_2 hY) ?_
  refine r_iload_n C dX6_openCurrents_164 1 rfl ?_
  refine r_iload C dX6_openCurrents_165 2 rfl ?_
  obtain ⟨b10, h⟩ := gd_inv h
  refine r_iast C dX6_openCurrents_167 (ly30 hY) b10 ?_
  refine r_sub [(0, .ref (wb (zw Z) + 28)), (3, .int x3)] [0, 1] rfl ?_
  exact kX6_openCurrents_168 C hR hY n   x3 (wI μ 30 (ix x3) x5) h hr hE
def sX6_openCurrents_67 (n : Nat) (x3 : Int32) : Int32 × Int32 × Mu → Option ((Int32 × Int32 × Mu) ⊕ (Int32 × Mu)) := fun q => match q with | (x5, x6, μ) => if (rI μ 2 1) ≤ x6 then (some (.inr (x5, μ))) else (gd (ib x6 10) (gd (ib x6 10) (gd (ib x6 10) (bnd2 (fX3_valueOf n 9 1 (wI (wI (wI μ 32 2 (rI μ 3 (ix x6))) 32 3 (rI (wI μ 32 2 (rI μ 3 (ix x6))) 4 (ix x6))) 32 4 (rI (wI (wI μ 32 2 (rI μ 3 (ix x6))) 32 3 (rI (wI μ 32 2 (rI μ 3 (ix x6))) 4 (ix x6))) 5 (ix x6)))) fun u18 m19 => some (.inl (x5 ||| (shl u18 x6), x6 + 1, m19))))))
set_option maxRecDepth 100000 in
set_option maxHeartbeats 4000000 in
theorem lX6_openCurrents_67 {Z : ZC} {sh : List Sh} {R : Rf} {o : (Int32 × Int32 × Mu) ⊕ (Int32 × Mu)} (C : CX Z cX6_openCurrents 7 RX6) (hR : zR Z = rm 3 0 0) (hY : LY sh R) (n : Nat) (x3 : Int32) (x5 : Int32) (x6 : Int32) (μ : Mu) (h : sX6_openCurrents_67 n x3 (x5, x6, μ) = some o) (kin : ∀ (x5 : Int32) (x6 : Int32) (μ : Mu), o = .inl (x5, x6, μ) → Wm Z (0, 0, sh, R) μ 67 [(0, .ref (wb (zw Z) + 28)), (3, .int x3), (5, .int x5), (6, .int x6)] []) (kex0 : ∀ (x5 : Int32) (μ : Mu), o = .inr (x5, μ) → Wm Z (0, 0, sh, R) μ 160 [(0, .ref (wb (zw Z) + 28)), (3, .int x3), (5, .int x5)] []) : Wm Z (0, 0, sh, R) μ 67 [(0, .ref (wb (zw Z) + 28)), (3, .int x3), (5, .int x5), (6, .int x6)] [] := by
  unfold sX6_openCurrents_67 at h
  refine r_iload C dX6_openCurrents_67 3 rfl ?_
  refine r_aload_n C dX6_openCurrents_69 0 rfl ?_
  refine r_getR C flX6_27 dX6_openCurrents_70 (ly28 hY) rfl (lr28_0 hY) ?_
  refine r_getI C flX6_70 dX6_openCurrents_73 (isSea_0 (lySea hY)) rfl ?_
  refine r_icmp_ge 160 C dX6_openCurrents_76 (by decide) (fun c13 => ?_) (fun c13 => ?_)
  · have h := (ite_inv h).1 c13
    refine r_sub [(0, .ref (wb (zw Z) + 28)), (3, .int x3), (5, .int x5)] [0, 1, 2] rfl ?_
    exact kex0 x5 μ (Option.some.inj h).symm
  · have h := (ite_inv h).2 c13
    refine r_aload_n C dX6_openCurrents_79 0 rfl ?_
    refine r_getR C flX6_21 dX6_openCurrents_80 (ly28 hY) rfl (lr28_4 hY) ?_
    refine r_iconst C dX6_openCurrents_83 ic_2 ?_
    refine r_aload_n C dX6_openCurrents_84 0 rfl ?_
    refine r_getR C flX6_27 dX6_openCurrents_85 (ly28 hY) rfl (lr28_0 hY) ?_
    refine r_getR C flX6_74 dX6_openCurrents_88 (isSea_0 (lySea hY)) rfl (isSea_r8 (lySea hY)) ?_
    refine r_iload C dX6_openCurrents_91 3 rfl ?_
    obtain ⟨b14, h⟩ := gd_inv h
    refine r_iald C dX6_openCurrents_93 (isSea_1 (lySea hY)) b14 ?_
    refine r_iast C dX6_openCurrents_94 (ly32 hY) (by decide) ?_
    refine r_aload_n C dX6_openCurrents_95 0 rfl ?_
    refine r_getR C flX6_21 dX6_openCurrents_96 (ly28 hY) rfl (lr28_4 hY) ?_
    refine r_iconst C dX6_openCurrents_99 ic_3 ?_
    refine r_aload_n C dX6_openCurrents_100 0 rfl ?_
    refine r_getR C flX6_27 dX6_openCurrents_101 (ly28 hY) rfl (lr28_0 hY) ?_
    refine r_getR C flX6_77 dX6_openCurrents_104 (isSea_0 (lySea hY)) rfl (isSea_r9 (lySea hY)) ?_
    refine r_iload C dX6_openCurrents_107 3 rfl ?_
    obtain ⟨b15, h⟩ := gd_inv h
    refine r_iald C dX6_openCurrents_109 (isSea_2 (lySea hY)) b15 ?_
    refine r_iast C dX6_openCurrents_110 (ly32 hY) (by decide) ?_
    refine r_aload_n C dX6_openCurrents_111 0 rfl ?_
    refine r_getR C flX6_21 dX6_openCurrents_112 (ly28 hY) rfl (lr28_4 hY) ?_
    refine r_iconst C dX6_openCurrents_115 ic_4 ?_
    refine r_aload_n C dX6_openCurrents_116 0 rfl ?_
    refine r_getR C flX6_27 dX6_openCurrents_117 (ly28 hY) rfl (lr28_0 hY) ?_
    refine r_getR C flX6_80 dX6_openCurrents_120 (isSea_0 (lySea hY)) rfl (isSea_r10 (lySea hY)) ?_
    refine r_iload C dX6_openCurrents_123 3 rfl ?_
    obtain ⟨b16, h⟩ := gd_inv h
    refine r_iald C dX6_openCurrents_125 (isSea_3 (lySea hY)) b16 ?_
    refine r_iast C dX6_openCurrents_126 (ly32 hY) (by decide) ?_
    refine r_iload C dX6_openCurrents_127 2 rfl ?_
    refine r_aload_n C dX6_openCurrents_129 0 rfl ?_
    refine r_getR C flX6_27 dX6_openCurrents_130 (ly28 hY) rfl (lr28_0 hY) ?_
    refine r_getR C flX6_41 dX6_openCurrents_133 (isSea_0 (lySea hY)) rfl (isSea_r14 (lySea hY)) ?_
    refine r_iconst C dX6_openCurrents_136 ic_1 ?_
    refine r_aload_n C dX6_openCurrents_137 0 rfl ?_
    refine r_getR C flX6_21 dX6_openCurrents_138 (ly28 hY) rfl (lr28_4 hY) ?_
    refine r_aload_n C dX6_openCurrents_141 0 rfl ?_
    refine r_getR C flX6_24 dX6_openCurrents_142 (ly28 hY) rfl (lr28_5 hY) ?_
    obtain ⟨u18, m19, e17, h⟩ := bnd2_inv h
    refine r_cVi (As := [.int 1, .ref (wb (zw Z) + 32), .ref (wb (zw Z) + 33)]) (rest := [.int x5]) C hR mlX6_57 dX6_openCurrents_145 (tX3_valueOf hY n 9 1 (isSea_law (lySea hY)) e17) rfl rfl (isLaw_0 (isSea_law (lySea hY))) rfl (nle rfl) (nle rfl) (nle rfl) ?_
    refine r_iload C dX6_openCurrents_148 3 rfl ?_
    refine r_ishl C dX6_openCurrents_150 ?_
    refine r_ior C dX6_openCurrents_151 ?_
    refine r_istore [(5, .int (x5 ||| (shl u18 x6))), (0, .ref (wb (zw Z) + 28)), (3, .int x3), (6, .int x6)] C dX6_openCurrents_152 (by decide) rfl ?_
    refine r_iinc [(6, .int (x6 + 1)), (5, .int (x5 ||| (shl u18 x6))), (0, .ref (wb (zw Z) + 28)), (3, .int x3)] C dX6_openCurrents_154 3 rfl (in_1 _) (by decide) rfl ?_
    refine r_goto 67 C dX6_openCurrents_157 (by decide) ?_
    refine r_sub [(0, .ref (wb (zw Z) + 28)), (3, .int x3), (5, .int (x5 ||| (shl u18 x6))), (6, .int (x6 + 1))] [2, 3, 1, 0] rfl ?_
    exact kin (x5 ||| (shl u18 x6)) (x6 + 1) m19 (Option.some.inj h).symm
def fX6_openCurrents (n : Nat) (x1 : Int32) (x2 : Int32) (μ : Mu) : Option (Int32 × Mu) := bnd (fX6_slotOf n x1 x2 μ) fun u2 => gd (ib u2 48) (if (rI μ 30 (ix u2)) = (-1) then (bnd (fX3_isTold n 9 1 μ) fun u8 => if u8 = 0 then (jX6_openCurrents_160 n u2 (if x2 = 0 then ((shl 1 (rI μ 2 1)) - 1) else 0) μ) else (bnd (fX6_giveTime n x1 x2 μ) fun m12 => bnd (lp n (sX6_openCurrents_67 n u2) (0, 0, m12)) fun q => match q with | (u20, m21) => jX6_openCurrents_160 n u2 u20 m21)) else (jX6_openCurrents_168 n u2 μ))
set_option maxRecDepth 100000 in
set_option maxHeartbeats 4000000 in
theorem tX6_openCurrents {l : Launch} {w : WP} {sh : List Sh} {R : Rf} {μ : Mu} {r : Int32} {μ' : Mu} (hY : LY sh R) (n : Nat) (x1 : Int32) (x2 : Int32)  (h : fX6_openCurrents n x1 x2 μ = some (r, μ')) : CM l w yX6_openCurrents cX6_openCurrents 7 (some .int) 3 0 0 sh R [.ref (wb w + 28), .int x1, .int x2] μ (some (.int r)) sh R μ' := by
  refine CM.of (plainFor_of_name pf_X6) (Nat.le_of_ble_eq_true rfl) fun Z C hr _ hR hw hl hE => ?_
  subst hw; subst hl
  have C : CX Z cX6_openCurrents 7 RX6 := C
  show Wm Z (0, 0, sh, R) μ 0 [(0, .ref (wb (zw Z) + 28)), (1, .int x1), (2, .int x2)] []
  unfold fX6_openCurrents at h
  refine r_iload_n C dX6_openCurrents_0 1 rfl ?_
  refine r_iload_n C dX6_openCurrents_1 2 rfl ?_
  obtain ⟨u2, e1, h⟩ := bnd_inv h
  refine r_cSi (As := [.int x1, .int x2]) (rest := []) C hR mlX6_37 dX6_openCurrents_2 (tX6_slotOf hY n x1 x2  e1) rfl rfl (nle rfl) (nle rfl) (nle rfl) ?_
  refine r_istore_n [(3, .int u2), (0, .ref (wb (zw Z) + 28)), (1, .int x1), (2, .int x2)] C dX6_openCurrents_5 rfl (by decide) rfl ?_
  refine r_aload_n C dX6_openCurrents_6 1 rfl ?_
  refine r_getR C flX6_15 dX6_openCurrents_7 (ly28 hY) rfl (lr28_2 hY) ?_
  refine r_iload_n C dX6_openCurrents_10 0 rfl ?_
  obtain ⟨b3, h⟩ := gd_inv h
  refine r_iald C dX6_openCurrents_11 (ly30 hY) b3 ?_
  refine r_iconst C dX6_openCurrents_12 ic_m1 ?_
  refine r_icmp_ne 168 C dX6_openCurrents_13 (by decide) (fun c4 => ?_) (fun c4 => ?_)
  · have h := (ite_inv h).2 c4
    refine r_sub [(0, .ref (wb (zw Z) + 28)), (3, .int u2)] [1, 0] rfl ?_
    exact kX6_openCurrents_168 C hR hY n   u2 μ h hr hE
  · have h := (ite_inv h).1 c4
    refine r_iconst C dX6_openCurrents_16 ic_1 ?_
    refine r_aload_n C dX6_openCurrents_17 1 rfl ?_
    refine r_getR C flX6_27 dX6_openCurrents_18 (ly28 hY) rfl (lr28_0 hY) ?_
    refine r_getI C flX6_70 dX6_openCurrents_21 (isSea_0 (lySea hY)) rfl ?_
    refine r_ishl C dX6_openCurrents_24 ?_
    refine r_iconst C dX6_openCurrents_25 ic_1 ?_
    refine r_isub C dX6_openCurrents_26 ?_
    refine r_istore [(4, .int ((shl 1 (rI μ 2 1)) - 1)), (3, .int u2), (0, .ref (wb (zw Z) + 28)), (1, .int x1), (2, .int x2)] C dX6_openCurrents_27 (by decide) rfl ?_
    refine r_iload_n C dX6_openCurrents_29 4 rfl ?_
    suffices hj : Wm Z (0, 0, sh, R) μ 39 [(4, .int ((shl 1 (rI μ 2 1)) - 1)), (3, .int u2), (0, .ref (wb (zw Z) + 28)), (1, .int x1), (2, .int x2)] [.int (if x2 = 0 then ((shl 1 (rI μ 2 1)) - 1) else 0)] by
      refine r_if_eq 37 C dX6_openCurrents_30 (by decide) (fun c6 => ?_) (fun c6 => ?_)
      · refine r_iload C dX6_openCurrents_37 0 rfl ?_
        exact sel_t c6 hj
      · refine r_iconst C dX6_openCurrents_33 ic_0 ?_
        refine r_goto 39 C dX6_openCurrents_34 (by decide) ?_
        exact sel_f c6 hj
    refine r_istore [(5, .int (if x2 = 0 then ((shl 1 (rI μ 2 1)) - 1) else 0)), (4, .int ((shl 1 (rI μ 2 1)) - 1)), (3, .int u2), (0, .ref (wb (zw Z) + 28)), (1, .int x1), (2, .int x2)] C dX6_openCurrents_39 (by decide) rfl ?_
    refine r_aload_n C dX6_openCurrents_41 3 rfl ?_
    refine r_getR C flX6_27 dX6_openCurrents_42 (ly28 hY) rfl (lr28_0 hY) ?_
    refine r_getR C flX6_41 dX6_openCurrents_45 (isSea_0 (lySea hY)) rfl (isSea_r14 (lySea hY)) ?_
    refine r_iconst C dX6_openCurrents_48 ic_1 ?_
    obtain ⟨u8, e7, h⟩ := bnd_inv h
    refine r_cVi (As := [.int 1]) (rest := []) C hR mlX6_47 dX6_openCurrents_49 (tX3_isTold hY n 9 1 (isSea_law (lySea hY)) e7) rfl rfl (isLaw_0 (isSea_law (lySea hY))) rfl (nle rfl) (nle rfl) (nle rfl) ?_
    refine r_if_eq 160 C dX6_openCurrents_52 (by decide) (fun c9 => ?_) (fun c9 => ?_)
    · have h := (ite_inv h).1 c9
      refine r_sub [(0, .ref (wb (zw Z) + 28)), (3, .int u2), (5, .int (if x2 = 0 then ((shl 1 (rI μ 2 1)) - 1) else 0))] [3, 2, 0] rfl ?_
      exact kX6_openCurrents_160 C hR hY n   u2 (if x2 = 0 then ((shl 1 (rI μ 2 1)) - 1) else 0) μ h hr hE
    · have h := (ite_inv h).2 c9
      refine r_aload_n C dX6_openCurrents_55 3 rfl ?_
      refine r_iload_n C dX6_openCurrents_56 4 rfl ?_
      refine r_iload_n C dX6_openCurrents_57 5 rfl ?_
      obtain ⟨m12, e11, h⟩ := bnd_inv h
      refine r_cVv (As := [.int x1, .int x2]) (rest := []) C hR mlX6_53 dX6_openCurrents_58 (tX6_giveTime hY n x1 x2  e11) rfl rfl (ly28 hY) rfl (nle rfl) (nle rfl) (nle rfl) ?_
      refine r_iconst C dX6_openCurrents_61 ic_0 ?_
      refine r_istore [(5, .int 0), (4, .int ((shl 1 (rI μ 2 1)) - 1)), (3, .int u2), (0, .ref (wb (zw Z) + 28)), (1, .int x1), (2, .int x2)] C dX6_openCurrents_62 (by decide) rfl ?_
      refine r_iconst C dX6_openCurrents_64 ic_0 ?_
      refine r_istore [(6, .int 0), (5, .int 0), (4, .int ((shl 1 (rI μ 2 1)) - 1)), (3, .int u2), (0, .ref (wb (zw Z) + 28)), (1, .int x1), (2, .int x2)] C dX6_openCurrents_65 (by decide) rfl ?_
      refine r_sub [(0, .ref (wb (zw Z) + 28)), (3, .int u2), (5, .int 0), (6, .int 0)] [4, 3, 1, 0] rfl ?_
      obtain ⟨⟨u20, m21⟩, e22, h⟩ := bnd_inv h
      refine lp_all (sX6_openCurrents_67 n u2) (fun q => match q with | (z5, z6, ν) => Wm Z (0, 0, sh, R) (ν) 67 [(0, .ref (wb (zw Z) + 28)), (3, .int u2), (5, .int z5), (6, .int z6)] []) (fun q => match q with | (z5, ν) => Wm Z (0, 0, sh, R) (ν) 160 [(0, .ref (wb (zw Z) + 28)), (3, .int u2), (5, .int z5)] []) (fun q o h kin kex => ?_) n (0, 0, m12) (u20, m21) e22 ?_
      · obtain ⟨z5, z6, ν⟩ := q; exact lX6_openCurrents_67 C hR hY n   u2 z5 z6 ν h (fun z5 z6 ν e => kin (z5, z6, ν) e) (fun z5 ν e => kex (z5, ν) e)
      show Wm Z (0, 0, sh, R) m21 160 [(0, .ref (wb (zw Z) + 28)), (3, .int u2), (5, .int u20)] []
      exact kX6_openCurrents_160 C hR hY n   u2 u20 m21 h hr hE
def jX6_listeners_176 (n : Nat) (x4 : Int32) (μ : Mu) : Option (Int32 × Mu) := gd (ib x4 432) (some (rI μ 31 (ix x4), μ))
set_option maxRecDepth 100000 in
set_option maxHeartbeats 4000000 in
theorem kX6_listeners_176 {Z : ZC} {sh : List Sh} {R : Rf} {r : Int32} {μ' : Mu} (C : CX Z cX6_listeners 7 RX6) (hR : zR Z = rm 3 0 0) (hY : LY sh R) (n : Nat) (x4 : Int32) (μ : Mu) (h : jX6_listeners_176 n x4 μ = some (r, μ')) (hr : (zme Z).sig.returnType = (some .int)) (hE : zEnd Z (0, 0, sh, R) μ' (some (.int r))) : Wm Z (0, 0, sh, R) μ 176 [(0, .ref (wb (zw Z) + 28)), (4, .int x4)] [] := by
  unfold jX6_listeners_176 at h
  refine r_aload_n C dX6_listeners_176 0 rfl ?_
  refine r_getR C flX6_18 dX6_listeners_177 (ly28 hY) rfl (lr28_3 hY) ?_
  refine r_iload C dX6_listeners_180 1 rfl ?_
  obtain ⟨b5, h⟩ := gd_inv h
  refine r_iald C dX6_listeners_182 (ly31 hY) b5 ?_
  obtain ⟨h1, h2⟩ := Prod.mk.inj (Option.some.inj h)
  subst h1; subst h2
  exact r_iret C dX6_listeners_183 hr hE
def jX6_listeners_157 (n : Nat) (x4 : Int32) (x5 : Int32) (μ : Mu) : Option (Int32 × Mu) := gd (ib x4 432) (jX6_listeners_176 n x4 (wI μ 31 (ix x4) (x5 &&& ((rI μ 2 7) ^^^ (-1)))))
set_option maxRecDepth 100000 in
set_option maxHeartbeats 4000000 in
theorem kX6_listeners_157 {Z : ZC} {sh : List Sh} {R : Rf} {r : Int32} {μ' : Mu} (C : CX Z cX6_listeners 7 RX6) (hR : zR Z = rm 3 0 0) (hY : LY sh R) (n : Nat) (x4 : Int32) (x5 : Int32) (μ : Mu) (h : jX6_listeners_157 n x4 x5 μ = some (r, μ')) (hr : (zme Z).sig.returnType = (some .int)) (hE : zEnd Z (0, 0, sh, R) μ' (some (.int r))) : Wm Z (0, 0, sh, R) μ 157 [(0, .ref (wb (zw Z) + 28)), (4, .int x4), (5, .int x5)] [] := by
  unfold jX6_listeners_157 at h
  refine r_aload_n C dX6_listeners_157 0 rfl ?_
  refine r_getR C flX6_18 dX6_listeners_158 (ly28 hY) rfl (lr28_3 hY) ?_
  refine r_iload C dX6_listeners_161 1 rfl ?_
  refine r_iload C dX6_listeners_163 2 rfl ?_
  refine r_aload_n C dX6_listeners_165 0 rfl ?_
  refine r_getR C flX6_27 dX6_listeners_166 (ly28 hY) rfl (lr28_0 hY) ?_
  refine r_getI C flX6_89 dX6_listeners_169 (isSea_0 (lySea hY)) rfl ?_
  refine r_iconst C dX6_listeners_172 ic_m1 ?_
  refine r_ixor C dX6_listeners_173 ?_
  refine r_iand C dX6_listeners_174 ?_
  obtain ⟨b9, h⟩ := gd_inv h
  refine r_iast C dX6_listeners_175 (ly31 hY) b9 ?_
  refine r_sub [(0, .ref (wb (zw Z) + 28)), (4, .int x4)] [0, 1] rfl ?_
  exact kX6_listeners_176 C hR hY n   x4 (wI μ 31 (ix x4) (x5 &&& ((rI μ 2 7) ^^^ (-1)))) h hr hE
def jX6_listeners_123 (n : Nat) (x4 : Int32) (x5 : Int32) (x6 : Int32) (s0 : Int32) (s1 : Int32) (μ : Mu) : Option ((Int32 × Int32 × Mu) ⊕ (Int32 × Mu)) := gd (ib s1 5) (bnd2 (fX3_valueOf n 9 2 (wI μ 32 (ix s1) s0)) fun u18 m19 => some (.inl (x5 ||| (shl u18 x6), x6 + 1, m19)))
set_option maxRecDepth 100000 in
set_option maxHeartbeats 4000000 in
theorem kX6_listeners_123 {Z : ZC} {sh : List Sh} {R : Rf} {o : (Int32 × Int32 × Mu) ⊕ (Int32 × Mu)} (C : CX Z cX6_listeners 7 RX6) (hR : zR Z = rm 3 0 0) (hY : LY sh R) (n : Nat) (x4 : Int32) (x5 : Int32) (x6 : Int32) (s0 : Int32) (s1 : Int32) (μ : Mu) (h : jX6_listeners_123 n x4 x5 x6 s0 s1 μ = some o) (kin : ∀ (x5 : Int32) (x6 : Int32) (μ : Mu), o = .inl (x5, x6, μ) → Wm Z (0, 0, sh, R) μ 69 [(0, .ref (wb (zw Z) + 28)), (4, .int x4), (5, .int x5), (6, .int x6)] []) (kex0 : ∀ (x5 : Int32) (μ : Mu), o = .inr (x5, μ) → Wm Z (0, 0, sh, R) μ 157 [(0, .ref (wb (zw Z) + 28)), (4, .int x4), (5, .int x5)] []) : Wm Z (0, 0, sh, R) μ 123 [(0, .ref (wb (zw Z) + 28)), (4, .int x4), (5, .int x5), (6, .int x6)] [.int s0, .int s1, .ref (wb (zw Z) + 32)] := by
  unfold jX6_listeners_123 at h
  obtain ⟨b16, h⟩ := gd_inv h
  refine r_iast C dX6_listeners_123 (ly32 hY) b16 ?_
  refine r_iload C dX6_listeners_124 2 rfl ?_
  refine r_aload_n C dX6_listeners_126 0 rfl ?_
  refine r_getR C flX6_27 dX6_listeners_127 (ly28 hY) rfl (lr28_0 hY) ?_
  refine r_getR C flX6_41 dX6_listeners_130 (isSea_0 (lySea hY)) rfl (isSea_r14 (lySea hY)) ?_
  refine r_iconst C dX6_listeners_133 ic_2 ?_
  refine r_aload_n C dX6_listeners_134 0 rfl ?_
  refine r_getR C flX6_21 dX6_listeners_135 (ly28 hY) rfl (lr28_4 hY) ?_
  refine r_aload_n C dX6_listeners_138 0 rfl ?_
  refine r_getR C flX6_24 dX6_listeners_139 (ly28 hY) rfl (lr28_5 hY) ?_
  obtain ⟨u18, m19, e17, h⟩ := bnd2_inv h
  refine r_cVi (As := [.int 2, .ref (wb (zw Z) + 32), .ref (wb (zw Z) + 33)]) (rest := [.int x5]) C hR mlX6_57 dX6_listeners_142 (tX3_valueOf hY n 9 2 (isSea_law (lySea hY)) e17) rfl rfl (isLaw_0 (isSea_law (lySea hY))) rfl (nle rfl) (nle rfl) (nle rfl) ?_
  refine r_iload C dX6_listeners_145 3 rfl ?_
  refine r_ishl C dX6_listeners_147 ?_
  refine r_ior C dX6_listeners_148 ?_
  refine r_istore [(5, .int (x5 ||| (shl u18 x6))), (0, .ref (wb (zw Z) + 28)), (4, .int x4), (6, .int x6)] C dX6_listeners_149 (by decide) rfl ?_
  refine r_iinc [(6, .int (x6 + 1)), (5, .int (x5 ||| (shl u18 x6))), (0, .ref (wb (zw Z) + 28)), (4, .int x4)] C dX6_listeners_151 3 rfl (in_1 _) (by decide) rfl ?_
  refine r_goto 69 C dX6_listeners_154 (by decide) ?_
  refine r_sub [(0, .ref (wb (zw Z) + 28)), (4, .int x4), (5, .int (x5 ||| (shl u18 x6))), (6, .int (x6 + 1))] [2, 3, 1, 0] rfl ?_
  exact kin (x5 ||| (shl u18 x6)) (x6 + 1) m19 (Option.some.inj h).symm
def sX6_listeners_69 (n : Nat) (x4 : Int32) : Int32 × Int32 × Mu → Option ((Int32 × Int32 × Mu) ⊕ (Int32 × Mu)) := fun q => match q with | (x5, x6, μ) => if (rI μ 2 2) ≤ x6 then (some (.inr (x5, μ))) else (gd (ib x6 6) (if (rI (wI μ 32 2 x6) 6 (ix x6)) = (-1) then (jX6_listeners_123 n x4 x5 x6 6 3 (wI μ 32 2 x6)) else (gd (ib x6 6) (jX6_listeners_123 n x4 x5 x6 (rI (wI μ 32 2 x6) 6 (ix x6)) 3 (wI μ 32 2 x6)))))
set_option maxRecDepth 100000 in
set_option maxHeartbeats 4000000 in
theorem lX6_listeners_69 {Z : ZC} {sh : List Sh} {R : Rf} {o : (Int32 × Int32 × Mu) ⊕ (Int32 × Mu)} (C : CX Z cX6_listeners 7 RX6) (hR : zR Z = rm 3 0 0) (hY : LY sh R) (n : Nat) (x4 : Int32) (x5 : Int32) (x6 : Int32) (μ : Mu) (h : sX6_listeners_69 n x4 (x5, x6, μ) = some o) (kin : ∀ (x5 : Int32) (x6 : Int32) (μ : Mu), o = .inl (x5, x6, μ) → Wm Z (0, 0, sh, R) μ 69 [(0, .ref (wb (zw Z) + 28)), (4, .int x4), (5, .int x5), (6, .int x6)] []) (kex0 : ∀ (x5 : Int32) (μ : Mu), o = .inr (x5, μ) → Wm Z (0, 0, sh, R) μ 157 [(0, .ref (wb (zw Z) + 28)), (4, .int x4), (5, .int x5)] []) : Wm Z (0, 0, sh, R) μ 69 [(0, .ref (wb (zw Z) + 28)), (4, .int x4), (5, .int x5), (6, .int x6)] [] := by
  unfold sX6_listeners_69 at h
  refine r_iload C dX6_listeners_69 3 rfl ?_
  refine r_aload_n C dX6_listeners_71 0 rfl ?_
  refine r_getR C flX6_27 dX6_listeners_72 (ly28 hY) rfl (lr28_0 hY) ?_
  refine r_getI C flX6_83 dX6_listeners_75 (isSea_0 (lySea hY)) rfl ?_
  refine r_icmp_ge 157 C dX6_listeners_78 (by decide) (fun c12 => ?_) (fun c12 => ?_)
  · have h := (ite_inv h).1 c12
    refine r_sub [(0, .ref (wb (zw Z) + 28)), (4, .int x4), (5, .int x5)] [0, 1, 2] rfl ?_
    exact kex0 x5 μ (Option.some.inj h).symm
  · have h := (ite_inv h).2 c12
    refine r_aload_n C dX6_listeners_81 0 rfl ?_
    refine r_getR C flX6_21 dX6_listeners_82 (ly28 hY) rfl (lr28_4 hY) ?_
    refine r_iconst C dX6_listeners_85 ic_2 ?_
    refine r_iload C dX6_listeners_86 3 rfl ?_
    refine r_iast C dX6_listeners_88 (ly32 hY) (by decide) ?_
    refine r_aload_n C dX6_listeners_89 0 rfl ?_
    refine r_getR C flX6_21 dX6_listeners_90 (ly28 hY) rfl (lr28_4 hY) ?_
    refine r_iconst C dX6_listeners_93 ic_3 ?_
    refine r_aload_n C dX6_listeners_94 0 rfl ?_
    refine r_getR C flX6_27 dX6_listeners_95 (ly28 hY) rfl (lr28_0 hY) ?_
    refine r_getR C flX6_86 dX6_listeners_98 (isSea_0 (lySea hY)) rfl (isSea_r11 (lySea hY)) ?_
    refine r_iload C dX6_listeners_101 3 rfl ?_
    obtain ⟨b13, h⟩ := gd_inv h
    refine r_iald C dX6_listeners_103 (isSea_4 (lySea hY)) b13 ?_
    refine r_iconst C dX6_listeners_104 ic_m1 ?_
    refine r_icmp_ne 113 C dX6_listeners_105 (by decide) (fun c14 => ?_) (fun c14 => ?_)
    · have h := (ite_inv h).2 c14
      refine r_aload_n C dX6_listeners_113 0 rfl ?_
      refine r_getR C flX6_27 dX6_listeners_114 (ly28 hY) rfl (lr28_0 hY) ?_
      refine r_getR C flX6_86 dX6_listeners_117 (isSea_0 (lySea hY)) rfl (isSea_r11 (lySea hY)) ?_
      refine r_iload C dX6_listeners_120 3 rfl ?_
      obtain ⟨b15, h⟩ := gd_inv h
      refine r_iald C dX6_listeners_122 (isSea_4 (lySea hY)) b15 ?_
      exact kX6_listeners_123 C hR hY n   x4 x5 x6 (rI (wI μ 32 2 x6) 6 (ix x6)) 3 (wI μ 32 2 x6) h kin kex0
    · have h := (ite_inv h).1 c14
      refine r_bipush C dX6_listeners_108 bp_6 ?_
      refine r_goto 123 C dX6_listeners_110 (by decide) ?_
      exact kX6_listeners_123 C hR hY n   x4 x5 x6 6 3 (wI μ 32 2 x6) h kin kex0
def fX6_listeners (n : Nat) (x1 : Int32) (x2 : Int32) (x3 : Int32) (μ : Mu) : Option (Int32 × Mu) := bnd (fX6_slotOf n x1 x2 μ) fun u2 => gd (ib ((u2 * 9) + x3) 432) (if (rI μ 31 (ix ((u2 * 9) + x3))) = (-1) then (bnd (fX3_isTold n 9 2 μ) fun u7 => if u7 = 0 then (jX6_listeners_157 n ((u2 * 9) + x3) ((shl 1 (rI μ 2 2)) - 1) μ) else (bnd (fX6_giveTime n x1 x2 μ) fun m11 => bnd (lp n (sX6_listeners_69 n ((u2 * 9) + x3)) (0, 0, wI m11 32 4 x3)) fun q => match q with | (u20, m21) => jX6_listeners_157 n ((u2 * 9) + x3) u20 m21)) else (jX6_listeners_176 n ((u2 * 9) + x3) μ))
set_option maxRecDepth 100000 in
set_option maxHeartbeats 4000000 in
theorem tX6_listeners {l : Launch} {w : WP} {sh : List Sh} {R : Rf} {μ : Mu} {r : Int32} {μ' : Mu} (hY : LY sh R) (n : Nat) (x1 : Int32) (x2 : Int32) (x3 : Int32)  (h : fX6_listeners n x1 x2 x3 μ = some (r, μ')) : CM l w yX6_listeners cX6_listeners 7 (some .int) 3 0 0 sh R [.ref (wb w + 28), .int x1, .int x2, .int x3] μ (some (.int r)) sh R μ' := by
  refine CM.of (plainFor_of_name pf_X6) (Nat.le_of_ble_eq_true rfl) fun Z C hr _ hR hw hl hE => ?_
  subst hw; subst hl
  have C : CX Z cX6_listeners 7 RX6 := C
  show Wm Z (0, 0, sh, R) μ 0 [(0, .ref (wb (zw Z) + 28)), (1, .int x1), (2, .int x2), (3, .int x3)] []
  unfold fX6_listeners at h
  refine r_iload_n C dX6_listeners_0 1 rfl ?_
  refine r_iload_n C dX6_listeners_1 2 rfl ?_
  obtain ⟨u2, e1, h⟩ := bnd_inv h
  refine r_cSi (As := [.int x1, .int x2]) (rest := []) C hR mlX6_37 dX6_listeners_2 (tX6_slotOf hY n x1 x2  e1) rfl rfl (nle rfl) (nle rfl) (nle rfl) ?_
  refine r_bipush C dX6_listeners_5 bp_9 ?_
  refine r_imul C dX6_listeners_7 ?_
  refine r_iload_n C dX6_listeners_8 3 rfl ?_
  refine r_iadd C dX6_listeners_9 ?_
  refine r_istore [(4, .int ((u2 * 9) + x3)), (0, .ref (wb (zw Z) + 28)), (1, .int x1), (2, .int x2), (3, .int x3)] C dX6_listeners_10 (by decide) rfl ?_
  refine r_aload_n C dX6_listeners_12 1 rfl ?_
  refine r_getR C flX6_18 dX6_listeners_13 (ly28 hY) rfl (lr28_3 hY) ?_
  refine r_iload C dX6_listeners_16 0 rfl ?_
  obtain ⟨b3, h⟩ := gd_inv h
  refine r_iald C dX6_listeners_18 (ly31 hY) b3 ?_
  refine r_iconst C dX6_listeners_19 ic_m1 ?_
  refine r_icmp_ne 176 C dX6_listeners_20 (by decide) (fun c4 => ?_) (fun c4 => ?_)
  · have h := (ite_inv h).2 c4
    refine r_sub [(0, .ref (wb (zw Z) + 28)), (4, .int ((u2 * 9) + x3))] [1, 0] rfl ?_
    exact kX6_listeners_176 C hR hY n   ((u2 * 9) + x3) μ h hr hE
  · have h := (ite_inv h).1 c4
    refine r_iconst C dX6_listeners_23 ic_1 ?_
    refine r_aload_n C dX6_listeners_24 1 rfl ?_
    refine r_getR C flX6_27 dX6_listeners_25 (ly28 hY) rfl (lr28_0 hY) ?_
    refine r_getI C flX6_83 dX6_listeners_28 (isSea_0 (lySea hY)) rfl ?_
    refine r_ishl C dX6_listeners_31 ?_
    refine r_iconst C dX6_listeners_32 ic_1 ?_
    refine r_isub C dX6_listeners_33 ?_
    refine r_istore [(5, .int ((shl 1 (rI μ 2 2)) - 1)), (4, .int ((u2 * 9) + x3)), (0, .ref (wb (zw Z) + 28)), (1, .int x1), (2, .int x2), (3, .int x3)] C dX6_listeners_34 (by decide) rfl ?_
    refine r_aload_n C dX6_listeners_36 2 rfl ?_
    refine r_getR C flX6_27 dX6_listeners_37 (ly28 hY) rfl (lr28_0 hY) ?_
    refine r_getR C flX6_41 dX6_listeners_40 (isSea_0 (lySea hY)) rfl (isSea_r14 (lySea hY)) ?_
    refine r_iconst C dX6_listeners_43 ic_2 ?_
    obtain ⟨u7, e6, h⟩ := bnd_inv h
    refine r_cVi (As := [.int 2]) (rest := []) C hR mlX6_47 dX6_listeners_44 (tX3_isTold hY n 9 2 (isSea_law (lySea hY)) e6) rfl rfl (isLaw_0 (isSea_law (lySea hY))) rfl (nle rfl) (nle rfl) (nle rfl) ?_
    refine r_if_eq 157 C dX6_listeners_47 (by decide) (fun c8 => ?_) (fun c8 => ?_)
    · have h := (ite_inv h).1 c8
      refine r_sub [(0, .ref (wb (zw Z) + 28)), (4, .int ((u2 * 9) + x3)), (5, .int ((shl 1 (rI μ 2 2)) - 1))] [2, 1, 0] rfl ?_
      exact kX6_listeners_157 C hR hY n   ((u2 * 9) + x3) ((shl 1 (rI μ 2 2)) - 1) μ h hr hE
    · have h := (ite_inv h).2 c8
      refine r_aload_n C dX6_listeners_50 2 rfl ?_
      refine r_iload_n C dX6_listeners_51 3 rfl ?_
      refine r_iload_n C dX6_listeners_52 4 rfl ?_
      obtain ⟨m11, e10, h⟩ := bnd_inv h
      refine r_cVv (As := [.int x1, .int x2]) (rest := []) C hR mlX6_53 dX6_listeners_53 (tX6_giveTime hY n x1 x2  e10) rfl rfl (ly28 hY) rfl (nle rfl) (nle rfl) (nle rfl) ?_
      refine r_aload_n C dX6_listeners_56 2 rfl ?_
      refine r_getR C flX6_21 dX6_listeners_57 (ly28 hY) rfl (lr28_4 hY) ?_
      refine r_iconst C dX6_listeners_60 ic_4 ?_
      refine r_iload_n C dX6_listeners_61 5 rfl ?_
      refine r_iast C dX6_listeners_62 (ly32 hY) (by decide) ?_
      refine r_iconst C dX6_listeners_63 ic_0 ?_
      refine r_istore [(5, .int 0), (4, .int ((u2 * 9) + x3)), (0, .ref (wb (zw Z) + 28)), (1, .int x1), (2, .int x2), (3, .int x3)] C dX6_listeners_64 (by decide) rfl ?_
      refine r_iconst C dX6_listeners_66 ic_0 ?_
      refine r_istore [(6, .int 0), (5, .int 0), (4, .int ((u2 * 9) + x3)), (0, .ref (wb (zw Z) + 28)), (1, .int x1), (2, .int x2), (3, .int x3)] C dX6_listeners_67 (by decide) rfl ?_
      refine r_sub [(0, .ref (wb (zw Z) + 28)), (4, .int ((u2 * 9) + x3)), (5, .int 0), (6, .int 0)] [3, 2, 1, 0] rfl ?_
      obtain ⟨⟨u20, m21⟩, e22, h⟩ := bnd_inv h
      refine lp_all (sX6_listeners_69 n ((u2 * 9) + x3)) (fun q => match q with | (z5, z6, ν) => Wm Z (0, 0, sh, R) (ν) 69 [(0, .ref (wb (zw Z) + 28)), (4, .int ((u2 * 9) + x3)), (5, .int z5), (6, .int z6)] []) (fun q => match q with | (z5, ν) => Wm Z (0, 0, sh, R) (ν) 157 [(0, .ref (wb (zw Z) + 28)), (4, .int ((u2 * 9) + x3)), (5, .int z5)] []) (fun q o h kin kex => ?_) n (0, 0, wI m11 32 4 x3) (u20, m21) e22 ?_
      · obtain ⟨z5, z6, ν⟩ := q; exact lX6_listeners_69 C hR hY n   ((u2 * 9) + x3) z5 z6 ν h (fun z5 z6 ν e => kin (z5, z6, ν) e) (fun z5 ν e => kex (z5, ν) e)
      show Wm Z (0, 0, sh, R) m21 157 [(0, .ref (wb (zw Z) + 28)), (4, .int ((u2 * 9) + x3)), (5, .int u20)] []
      exact kX6_listeners_157 C hR hY n   ((u2 * 9) + x3) u20 m21 h hr hE
def jX0_fillIn_38 (n : Nat) (a1 : Nat) (n1 : Nat) (s0 : Int32) (s1 : Int32) (μ : Mu) : Option (Mu) := gd (ib s1 n1) (some (wI μ a1 (ix s1) s0))
set_option maxRecDepth 100000 in
set_option maxHeartbeats 4000000 in
theorem kX0_fillIn_38 {Z : ZC} {sh : List Sh} {R : Rf} {μ' : Mu} (C : CX Z cX0_fillIn 5 RX0) (hR : zR Z = rm 0 0 0) (hY : LY sh R) (n : Nat) (a1 : Nat) (n1 : Nat) (ha1 : sh[a1]? = some (.inr (0, n1))) (s0 : Int32) (s1 : Int32) (μ : Mu) (h : jX0_fillIn_38 n a1 n1 s0 s1 μ = some μ') (hr : (zme Z).sig.returnType = none) (hE : zEnd Z (0, 0, sh, R) μ' none) : Wm Z (0, 0, sh, R) μ 38 [] [.int s0, .int s1, .ref (wb (zw Z) + a1)] := by
  unfold jX0_fillIn_38 at h
  obtain ⟨b3, h⟩ := gd_inv h
  refine r_iast C dX0_fillIn_38 ha1 b3 ?_
  have h := Option.some.inj h
  subst h
  exact r_vret C dX0_fillIn_39 hr hE
def fX0_fillIn (n : Nat) (a1 : Nat) (n1 : Nat) (x2 : Int32) (x3 : Int32) (x4 : Int32) (μ : Mu) : Option (Mu) := if x4 = 0 then (if (rI μ 120 6) ≤ x3 then (jX0_fillIn_38 n a1 n1 100000 (x2 + x3) μ) else (gd (ib ((x2 + x3) + 1) n1) (jX0_fillIn_38 n a1 n1 (rI μ a1 (ix ((x2 + x3) + 1))) (x2 + x3) μ))) else (gd (ib (x2 + x3) n1) (some (wI μ a1 (ix (x2 + x3)) x3)))
set_option maxRecDepth 100000 in
set_option maxHeartbeats 4000000 in
theorem tX0_fillIn {l : Launch} {w : WP} {sh : List Sh} {R : Rf} {μ : Mu} {μ' : Mu} (hY : LY sh R) (n : Nat) (a1 : Nat) (n1 : Nat) (x2 : Int32) (x3 : Int32) (x4 : Int32) (ha1 : sh[a1]? = some (.inr (0, n1))) (h : fX0_fillIn n a1 n1 x2 x3 x4 μ = some μ') : CM l w yX0_fillIn cX0_fillIn 5 none 0 0 0 sh R [.ref (wb w + 120), .ref (wb w + a1), .int x2, .int x3, .int x4] μ none sh R μ' := by
  refine CM.of (plainFor_of_name pf_X0) (Nat.le_of_ble_eq_true rfl) fun Z C hr _ hR hw hl hE => ?_
  subst hw; subst hl
  have C : CX Z cX0_fillIn 5 RX0 := C
  show Wm Z (0, 0, sh, R) μ 0 [(0, .ref (wb (zw Z) + 120)), (1, .ref (wb (zw Z) + a1)), (2, .int x2), (3, .int x3), (4, .int x4)] []
  unfold fX0_fillIn at h
  refine r_iload C dX0_fillIn_0 4 rfl ?_
  refine r_if_eq 14 C dX0_fillIn_2 (by decide) (fun c1 => ?_) (fun c1 => ?_)
  · have h := (ite_inv h).1 c1
    refine r_aload_n C dX0_fillIn_14 1 rfl ?_
    refine r_iload_n C dX0_fillIn_15 2 rfl ?_
    refine r_iload_n C dX0_fillIn_16 3 rfl ?_
    refine r_iadd C dX0_fillIn_17 ?_
    refine r_iload_n C dX0_fillIn_18 3 rfl ?_
    refine r_aload_n C dX0_fillIn_19 0 rfl ?_
    refine r_getI C flX0_42 dX0_fillIn_20 (ly120 hY) rfl ?_
    refine r_icmp_ge 36 C dX0_fillIn_23 (by decide) (fun c2 => ?_) (fun c2 => ?_)
    · have h := (ite_inv h).1 c2
      refine r_ldc C dX0_fillIn_36 kkX0_76 ?_
      refine r_sub [] [] rfl ?_
      exact kX0_fillIn_38 C hR hY n a1 n1 ha1 100000 (x2 + x3) μ h hr hE
    · have h := (ite_inv h).2 c2
      refine r_aload_n C dX0_fillIn_26 1 rfl ?_
      refine r_iload_n C dX0_fillIn_27 2 rfl ?_
      refine r_iload_n C dX0_fillIn_28 3 rfl ?_
      refine r_iadd C dX0_fillIn_29 ?_
      refine r_iconst C dX0_fillIn_30 ic_1 ?_
      refine r_iadd C dX0_fillIn_31 ?_
      obtain ⟨b4, h⟩ := gd_inv h
      refine r_iald C dX0_fillIn_32 ha1 b4 ?_
      refine r_goto 38 C dX0_fillIn_33 (by decide) ?_
      refine r_sub [] [] rfl ?_
      exact kX0_fillIn_38 C hR hY n a1 n1 ha1 (rI μ a1 (ix ((x2 + x3) + 1))) (x2 + x3) μ h hr hE
  · have h := (ite_inv h).2 c1
    refine r_aload_n C dX0_fillIn_5 1 rfl ?_
    refine r_iload_n C dX0_fillIn_6 2 rfl ?_
    refine r_iload_n C dX0_fillIn_7 3 rfl ?_
    refine r_iadd C dX0_fillIn_8 ?_
    refine r_iload_n C dX0_fillIn_9 3 rfl ?_
    obtain ⟨b5, h⟩ := gd_inv h
    refine r_iast C dX0_fillIn_10 ha1 b5 ?_
    refine r_goto 39 C dX0_fillIn_11 (by decide) ?_
    have h := Option.some.inj h
    subst h
    exact r_vret C dX0_fillIn_39 hr hE
def sX0_lookAhead_94 (n : Nat) (x2 : Int32) (x3 : Int32) (x4 : Int32) : Int32 × Mu → Option ((Int32 × Mu) ⊕ (Mu)) := fun q => match q with | (x5, μ) => if (rI μ 2 1) ≤ x5 then (some (.inr μ)) else (bnd (fX0_fillIn n 121 720 (x5 * 72) x2 (if ((shr x3 x5) &&& 1) = 1 then 1 else 0 : Int32) μ) fun m13 => some (.inl (x5 + 1, m13)))
set_option maxRecDepth 100000 in
set_option maxHeartbeats 4000000 in
theorem lX0_lookAhead_94 {Z : ZC} {sh : List Sh} {R : Rf} {o : (Int32 × Mu) ⊕ (Mu)} (C : CX Z cX0_lookAhead 6 RX0) (hR : zR Z = rm 4 0 0) (hY : LY sh R) (n : Nat) (x2 : Int32) (x3 : Int32) (x4 : Int32) (x5 : Int32) (μ : Mu) (h : sX0_lookAhead_94 n x2 x3 x4 (x5, μ) = some o) (kin : ∀ (x5 : Int32) (μ : Mu), o = .inl (x5, μ) → Wm Z (0, 0, sh, R) μ 94 [(0, .ref (wb (zw Z) + 120)), (2, .int x2), (3, .int x3), (4, .int x4), (5, .int x5)] []) (kex0 : ∀ (μ : Mu), o = .inr μ → Wm Z (0, 0, sh, R) μ 141 [(0, .ref (wb (zw Z) + 120)), (2, .int x2), (4, .int x4)] []) : Wm Z (0, 0, sh, R) μ 94 [(0, .ref (wb (zw Z) + 120)), (2, .int x2), (3, .int x3), (4, .int x4), (5, .int x5)] [] := by
  unfold sX0_lookAhead_94 at h
  refine r_iload C dX0_lookAhead_94 4 rfl ?_
  refine r_aload_n C dX0_lookAhead_96 0 rfl ?_
  refine r_getR C flX0_21 dX0_lookAhead_97 (ly120 hY) rfl (lr120_0 hY) ?_
  refine r_getI C flX0_64 dX0_lookAhead_100 (isSea_0 (lySea hY)) rfl ?_
  refine r_icmp_ge 141 C dX0_lookAhead_103 (by decide) (fun c10 => ?_) (fun c10 => ?_)
  · have h := (ite_inv h).1 c10
    refine r_sub [(0, .ref (wb (zw Z) + 120)), (2, .int x2), (4, .int x4)] [0, 1, 3] rfl ?_
    exact kex0 μ (Option.some.inj h).symm
  · have h := (ite_inv h).2 c10
    refine r_aload_n C dX0_lookAhead_106 0 rfl ?_
    refine r_aload_n C dX0_lookAhead_107 0 rfl ?_
    refine r_getR C flX0_9 dX0_lookAhead_108 (ly120 hY) rfl (lr120_3 hY) ?_
    refine r_iload C dX0_lookAhead_111 4 rfl ?_
    refine r_bipush C dX0_lookAhead_113 bp_72 ?_
    refine r_imul C dX0_lookAhead_115 ?_
    refine r_iload_n C dX0_lookAhead_116 1 rfl ?_
    refine r_iload_n C dX0_lookAhead_117 2 rfl ?_
    refine r_iload C dX0_lookAhead_118 4 rfl ?_
    refine r_ishr C dX0_lookAhead_120 ?_
    refine r_iconst C dX0_lookAhead_121 ic_1 ?_
    refine r_iand C dX0_lookAhead_122 ?_
    refine r_iconst C dX0_lookAhead_123 ic_1 ?_
    suffices hj : Wm Z (0, 0, sh, R) μ 132 [(0, .ref (wb (zw Z) + 120)), (2, .int x2), (3, .int x3), (4, .int x4), (5, .int x5)] [.int (if ((shr x3 x5) &&& 1) = 1 then 1 else 0 : Int32), .int x2, .int (x5 * 72), .ref (wb (zw Z) + 121), .ref (wb (zw Z) + 120)] by
      refine r_icmp_ne 131 C dX0_lookAhead_124 (by decide) (fun c11 => ?_) (fun c11 => ?_)
      · refine r_iconst C dX0_lookAhead_131 ic_0 ?_
        exact sel_f c11 hj
      · refine r_iconst C dX0_lookAhead_127 ic_1 ?_
        refine r_goto 132 C dX0_lookAhead_128 (by decide) ?_
        exact sel_t c11 hj
    obtain ⟨m13, e12, h⟩ := bnd_inv h
    refine r_cVv (As := [.ref (wb (zw Z) + 121), .int (x5 * 72), .int x2, .int (if ((shr x3 x5) &&& 1) = 1 then 1 else 0 : Int32)]) (rest := []) C hR mlX0_69 dX0_lookAhead_132 (tX0_fillIn hY n 121 720 (x5 * 72) x2 (if ((shr x3 x5) &&& 1) = 1 then 1 else 0 : Int32) (ly121 hY) e12) rfl rfl (ly120 hY) rfl (nle rfl) (nle rfl) (nle rfl) ?_
    refine r_iinc [(5, .int (x5 + 1)), (0, .ref (wb (zw Z) + 120)), (2, .int x2), (3, .int x3), (4, .int x4)] C dX0_lookAhead_135 4 rfl (in_1 _) (by decide) rfl ?_
    refine r_goto 94 C dX0_lookAhead_138 (by decide) ?_
    refine r_sub [(0, .ref (wb (zw Z) + 120)), (2, .int x2), (3, .int x3), (4, .int x4), (5, .int (x5 + 1))] [1, 2, 3, 4, 0] rfl ?_
    exact kin (x5 + 1) m13 (Option.some.inj h).symm
def sX0_lookAhead_144 (n : Nat) (x2 : Int32) (x4 : Int32) : Int32 × Mu → Option ((Int32 × Mu) ⊕ (Mu)) := fun q => match q with | (x5, μ) => if (rI μ 2 2) ≤ x5 then (some (.inr μ)) else (bnd (fX0_fillIn n 122 432 (x5 * 72) x2 (if ((shr x4 x5) &&& 1) = 1 then 1 else 0 : Int32) μ) fun m19 => some (.inl (x5 + 1, m19)))
set_option maxRecDepth 100000 in
set_option maxHeartbeats 4000000 in
theorem lX0_lookAhead_144 {Z : ZC} {sh : List Sh} {R : Rf} {o : (Int32 × Mu) ⊕ (Mu)} (C : CX Z cX0_lookAhead 6 RX0) (hR : zR Z = rm 4 0 0) (hY : LY sh R) (n : Nat) (x2 : Int32) (x4 : Int32) (x5 : Int32) (μ : Mu) (h : sX0_lookAhead_144 n x2 x4 (x5, μ) = some o) (kin : ∀ (x5 : Int32) (μ : Mu), o = .inl (x5, μ) → Wm Z (0, 0, sh, R) μ 144 [(0, .ref (wb (zw Z) + 120)), (2, .int x2), (4, .int x4), (5, .int x5)] []) (kex0 : ∀ (μ : Mu), o = .inr μ → Wm Z (0, 0, sh, R) μ 192 [(0, .ref (wb (zw Z) + 120)), (2, .int x2)] []) : Wm Z (0, 0, sh, R) μ 144 [(0, .ref (wb (zw Z) + 120)), (2, .int x2), (4, .int x4), (5, .int x5)] [] := by
  unfold sX0_lookAhead_144 at h
  refine r_iload C dX0_lookAhead_144 3 rfl ?_
  refine r_aload_n C dX0_lookAhead_146 0 rfl ?_
  refine r_getR C flX0_21 dX0_lookAhead_147 (ly120 hY) rfl (lr120_0 hY) ?_
  refine r_getI C flX0_73 dX0_lookAhead_150 (isSea_0 (lySea hY)) rfl ?_
  refine r_icmp_ge 192 C dX0_lookAhead_153 (by decide) (fun c16 => ?_) (fun c16 => ?_)
  · have h := (ite_inv h).1 c16
    refine r_sub [(0, .ref (wb (zw Z) + 120)), (2, .int x2)] [0, 1] rfl ?_
    exact kex0 μ (Option.some.inj h).symm
  · have h := (ite_inv h).2 c16
    refine r_aload_n C dX0_lookAhead_156 0 rfl ?_
    refine r_aload_n C dX0_lookAhead_157 0 rfl ?_
    refine r_getR C flX0_15 dX0_lookAhead_158 (ly120 hY) rfl (lr120_4 hY) ?_
    refine r_iload C dX0_lookAhead_161 3 rfl ?_
    refine r_bipush C dX0_lookAhead_163 bp_72 ?_
    refine r_imul C dX0_lookAhead_165 ?_
    refine r_iload_n C dX0_lookAhead_166 1 rfl ?_
    refine r_iload C dX0_lookAhead_167 2 rfl ?_
    refine r_iload C dX0_lookAhead_169 3 rfl ?_
    refine r_ishr C dX0_lookAhead_171 ?_
    refine r_iconst C dX0_lookAhead_172 ic_1 ?_
    refine r_iand C dX0_lookAhead_173 ?_
    refine r_iconst C dX0_lookAhead_174 ic_1 ?_
    suffices hj : Wm Z (0, 0, sh, R) μ 183 [(0, .ref (wb (zw Z) + 120)), (2, .int x2), (4, .int x4), (5, .int x5)] [.int (if ((shr x4 x5) &&& 1) = 1 then 1 else 0 : Int32), .int x2, .int (x5 * 72), .ref (wb (zw Z) + 122), .ref (wb (zw Z) + 120)] by
      refine r_icmp_ne 182 C dX0_lookAhead_175 (by decide) (fun c17 => ?_) (fun c17 => ?_)
      · refine r_iconst C dX0_lookAhead_182 ic_0 ?_
        exact sel_f c17 hj
      · refine r_iconst C dX0_lookAhead_178 ic_1 ?_
        refine r_goto 183 C dX0_lookAhead_179 (by decide) ?_
        exact sel_t c17 hj
    obtain ⟨m19, e18, h⟩ := bnd_inv h
    refine r_cVv (As := [.ref (wb (zw Z) + 122), .int (x5 * 72), .int x2, .int (if ((shr x4 x5) &&& 1) = 1 then 1 else 0 : Int32)]) (rest := []) C hR mlX0_69 dX0_lookAhead_183 (tX0_fillIn hY n 122 432 (x5 * 72) x2 (if ((shr x4 x5) &&& 1) = 1 then 1 else 0 : Int32) (ly122 hY) e18) rfl rfl (ly120 hY) rfl (nle rfl) (nle rfl) (nle rfl) ?_
    refine r_iinc [(5, .int (x5 + 1)), (0, .ref (wb (zw Z) + 120)), (2, .int x2), (4, .int x4)] C dX0_lookAhead_186 3 rfl (in_1 _) (by decide) rfl ?_
    refine r_goto 144 C dX0_lookAhead_189 (by decide) ?_
    refine r_sub [(0, .ref (wb (zw Z) + 120)), (2, .int x2), (4, .int x4), (5, .int (x5 + 1))] [1, 2, 3, 0] rfl ?_
    exact kin (x5 + 1) m19 (Option.some.inj h).symm
def sX0_lookAhead_19 (n : Nat)  : Int32 × Mu → Option ((Int32 × Mu) ⊕ (Mu)) := fun q => match q with | (x2, μ) => if x2 < 0 then (some (.inr μ)) else (bnd2 (fX6_openCurrents n ((rI μ 34 0) + x2) (if (rI μ 34 1) ≤ x2 then 0 else 1 : Int32) μ) fun u4 m5 => bnd2 (fX6_listeners n ((rI m5 34 0) + x2) (if (rI m5 34 1) ≤ x2 then 0 else 1 : Int32) 0 m5) fun u8 m9 => bnd (lp n (sX0_lookAhead_94 n x2 u4 u8) (0, m9)) fun q => match q with | m14 => bnd (lp n (sX0_lookAhead_144 n x2 u8) (0, m14)) fun q => match q with | m20 => some (.inl (x2 + (-1), m20)))
set_option maxRecDepth 100000 in
set_option maxHeartbeats 4000000 in
theorem lX0_lookAhead_19 {Z : ZC} {sh : List Sh} {R : Rf} {o : (Int32 × Mu) ⊕ (Mu)} (C : CX Z cX0_lookAhead 6 RX0) (hR : zR Z = rm 4 0 0) (hY : LY sh R) (n : Nat)  (x2 : Int32) (μ : Mu) (h : sX0_lookAhead_19 n (x2, μ) = some o) (kin : ∀ (x2 : Int32) (μ : Mu), o = .inl (x2, μ) → Wm Z (0, 0, sh, R) μ 19 [(0, .ref (wb (zw Z) + 120)), (2, .int x2)] []) (kex0 : ∀ (μ : Mu), o = .inr μ → Wm Z (0, 0, sh, R) μ 198 [] []) : Wm Z (0, 0, sh, R) μ 19 [(0, .ref (wb (zw Z) + 120)), (2, .int x2)] [] := by
  unfold sX0_lookAhead_19 at h
  refine r_iload_n C dX0_lookAhead_19 1 rfl ?_
  refine r_if_lt 198 C dX0_lookAhead_20 (by decide) (fun c1 => ?_) (fun c1 => ?_)
  · have h := (ite_inv h).1 c1
    refine r_sub [] [] rfl ?_
    exact kex0 μ (Option.some.inj h).symm
  · have h := (ite_inv h).2 c1
    refine r_aload_n C dX0_lookAhead_23 0 rfl ?_
    refine r_getR C flX0_25 dX0_lookAhead_24 (ly120 hY) rfl (lr120_1 hY) ?_
    refine r_aload_n C dX0_lookAhead_27 0 rfl ?_
    refine r_getR C flX0_29 dX0_lookAhead_28 (ly120 hY) rfl (lr120_2 hY) ?_
    refine r_getI C flX0_46 dX0_lookAhead_31 (isSt_0 (lyNow hY)) rfl ?_
    refine r_iload_n C dX0_lookAhead_34 1 rfl ?_
    refine r_iadd C dX0_lookAhead_35 ?_
    refine r_aload_n C dX0_lookAhead_36 0 rfl ?_
    refine r_getR C flX0_29 dX0_lookAhead_37 (ly120 hY) rfl (lr120_2 hY) ?_
    refine r_getI C flX0_51 dX0_lookAhead_40 (isSt_0 (lyNow hY)) rfl ?_
    refine r_iload_n C dX0_lookAhead_43 1 rfl ?_
    suffices hj : Wm Z (0, 0, sh, R) μ 52 [(0, .ref (wb (zw Z) + 120)), (2, .int x2)] [.int (if (rI μ 34 1) ≤ x2 then 0 else 1 : Int32), .int ((rI μ 34 0) + x2), .ref (wb (zw Z) + 28)] by
      refine r_icmp_le 51 C dX0_lookAhead_44 (by decide) (fun c2 => ?_) (fun c2 => ?_)
      · refine r_iconst C dX0_lookAhead_51 ic_0 ?_
        exact sel_t c2 hj
      · refine r_iconst C dX0_lookAhead_47 ic_1 ?_
        refine r_goto 52 C dX0_lookAhead_48 (by decide) ?_
        exact sel_f c2 hj
    obtain ⟨u4, m5, e3, h⟩ := bnd2_inv h
    refine r_cVi (As := [.int ((rI μ 34 0) + x2), .int (if (rI μ 34 1) ≤ x2 then 0 else 1 : Int32)]) (rest := []) C hR mlX0_54 dX0_lookAhead_52 (tX6_openCurrents hY n ((rI μ 34 0) + x2) (if (rI μ 34 1) ≤ x2 then 0 else 1 : Int32)  e3) rfl rfl (ly28 hY) rfl (nle rfl) (nle rfl) (nle rfl) ?_
    refine r_istore_n [(3, .int u4), (0, .ref (wb (zw Z) + 120)), (2, .int x2)] C dX0_lookAhead_55 rfl (by decide) rfl ?_
    refine r_aload_n C dX0_lookAhead_56 1 rfl ?_
    refine r_getR C flX0_25 dX0_lookAhead_57 (ly120 hY) rfl (lr120_1 hY) ?_
    refine r_aload_n C dX0_lookAhead_60 1 rfl ?_
    refine r_getR C flX0_29 dX0_lookAhead_61 (ly120 hY) rfl (lr120_2 hY) ?_
    refine r_getI C flX0_46 dX0_lookAhead_64 (isSt_0 (lyNow hY)) rfl ?_
    refine r_iload_n C dX0_lookAhead_67 2 rfl ?_
    refine r_iadd C dX0_lookAhead_68 ?_
    refine r_aload_n C dX0_lookAhead_69 1 rfl ?_
    refine r_getR C flX0_29 dX0_lookAhead_70 (ly120 hY) rfl (lr120_2 hY) ?_
    refine r_getI C flX0_51 dX0_lookAhead_73 (isSt_0 (lyNow hY)) rfl ?_
    refine r_iload_n C dX0_lookAhead_76 2 rfl ?_
    suffices hj : Wm Z (0, 0, sh, R) m5 85 [(3, .int u4), (0, .ref (wb (zw Z) + 120)), (2, .int x2)] [.int (if (rI m5 34 1) ≤ x2 then 0 else 1 : Int32), .int ((rI m5 34 0) + x2), .ref (wb (zw Z) + 28)] by
      refine r_icmp_le 84 C dX0_lookAhead_77 (by decide) (fun c6 => ?_) (fun c6 => ?_)
      · refine r_iconst C dX0_lookAhead_84 ic_0 ?_
        exact sel_t c6 hj
      · refine r_iconst C dX0_lookAhead_80 ic_1 ?_
        refine r_goto 85 C dX0_lookAhead_81 (by decide) ?_
        exact sel_f c6 hj
    refine r_iconst C dX0_lookAhead_85 ic_0 ?_
    obtain ⟨u8, m9, e7, h⟩ := bnd2_inv h
    refine r_cVi (As := [.int ((rI m5 34 0) + x2), .int (if (rI m5 34 1) ≤ x2 then 0 else 1 : Int32), .int 0]) (rest := []) C hR mlX0_60 dX0_lookAhead_86 (tX6_listeners hY n ((rI m5 34 0) + x2) (if (rI m5 34 1) ≤ x2 then 0 else 1 : Int32) 0  e7) rfl rfl (ly28 hY) rfl (nle rfl) (nle rfl) (nle rfl) ?_
    refine r_istore [(4, .int u8), (3, .int u4), (0, .ref (wb (zw Z) + 120)), (2, .int x2)] C dX0_lookAhead_89 (by decide) rfl ?_
    refine r_iconst C dX0_lookAhead_91 ic_0 ?_
    refine r_istore [(5, .int 0), (4, .int u8), (3, .int u4), (0, .ref (wb (zw Z) + 120)), (2, .int x2)] C dX0_lookAhead_92 (by decide) rfl ?_
    refine r_sub [(0, .ref (wb (zw Z) + 120)), (2, .int x2), (3, .int u4), (4, .int u8), (5, .int 0)] [3, 4, 2, 1, 0] rfl ?_
    obtain ⟨m14, e15, h⟩ := bnd_inv h
    refine lp_all (sX0_lookAhead_94 n x2 u4 u8) (fun q => match q with | (z5, ν) => Wm Z (0, 0, sh, R) (ν) 94 [(0, .ref (wb (zw Z) + 120)), (2, .int x2), (3, .int u4), (4, .int u8), (5, .int z5)] []) (fun q => match q with | ν => Wm Z (0, 0, sh, R) (ν) 141 [(0, .ref (wb (zw Z) + 120)), (2, .int x2), (4, .int u8)] []) (fun q o h kin kex => ?_) n (0, m9) m14 e15 ?_
    · obtain ⟨z5, ν⟩ := q; exact lX0_lookAhead_94 C hR hY n   x2 u4 u8 z5 ν h (fun z5 ν e => kin (z5, ν) e) (fun ν e => kex (ν) e)
    show Wm Z (0, 0, sh, R) m14 141 [(0, .ref (wb (zw Z) + 120)), (2, .int x2), (4, .int u8)] []
    refine r_iconst C dX0_lookAhead_141 ic_0 ?_
    refine r_istore [(5, .int 0), (0, .ref (wb (zw Z) + 120)), (2, .int x2), (4, .int u8)] C dX0_lookAhead_142 (by decide) rfl ?_
    refine r_sub [(0, .ref (wb (zw Z) + 120)), (2, .int x2), (4, .int u8), (5, .int 0)] [1, 2, 3, 0] rfl ?_
    obtain ⟨m20, e21, h⟩ := bnd_inv h
    refine lp_all (sX0_lookAhead_144 n x2 u8) (fun q => match q with | (z5, ν) => Wm Z (0, 0, sh, R) (ν) 144 [(0, .ref (wb (zw Z) + 120)), (2, .int x2), (4, .int u8), (5, .int z5)] []) (fun q => match q with | ν => Wm Z (0, 0, sh, R) (ν) 192 [(0, .ref (wb (zw Z) + 120)), (2, .int x2)] []) (fun q o h kin kex => ?_) n (0, m14) m20 e21 ?_
    · obtain ⟨z5, ν⟩ := q; exact lX0_lookAhead_144 C hR hY n   x2 u8 z5 ν h (fun z5 ν e => kin (z5, ν) e) (fun ν e => kex (ν) e)
    show Wm Z (0, 0, sh, R) m20 192 [(0, .ref (wb (zw Z) + 120)), (2, .int x2)] []
    refine r_iinc [(2, .int (x2 + (-1))), (0, .ref (wb (zw Z) + 120))] C dX0_lookAhead_192 1 rfl (in_m1 _) (by decide) rfl ?_
    refine r_goto 19 C dX0_lookAhead_195 (by decide) ?_
    refine r_sub [(0, .ref (wb (zw Z) + 120)), (2, .int (x2 + (-1)))] [1, 0] rfl ?_
    exact kin (x2 + (-1)) m20 (Option.some.inj h).symm
def fX0_lookAhead (n : Nat) (x1 : Int32) (μ : Mu) : Option (Mu) := bnd (lp n (sX0_lookAhead_19 n) (rI (wI μ 120 6 (jmax 0 (jmin 71 x1))) 120 6, wI μ 120 6 (jmax 0 (jmin 71 x1)))) fun q => match q with | m22 => some m22
set_option maxRecDepth 100000 in
set_option maxHeartbeats 4000000 in
theorem tX0_lookAhead {l : Launch} {w : WP} {sh : List Sh} {R : Rf} {μ : Mu} {μ' : Mu} (hY : LY sh R) (n : Nat) (x1 : Int32)  (h : fX0_lookAhead n x1 μ = some μ') : CM l w yX0_lookAhead cX0_lookAhead 6 none 4 0 0 sh R [.ref (wb w + 120), .int x1] μ none sh R μ' := by
  refine CM.of (plainFor_of_name pf_X0) (Nat.le_of_ble_eq_true rfl) fun Z C hr _ hR hw hl hE => ?_
  subst hw; subst hl
  have C : CX Z cX0_lookAhead 6 RX0 := C
  show Wm Z (0, 0, sh, R) μ 0 [(0, .ref (wb (zw Z) + 120)), (1, .int x1)] []
  unfold fX0_lookAhead at h
  refine r_aload_n C dX0_lookAhead_0 0 rfl ?_
  refine r_iconst C dX0_lookAhead_1 ic_0 ?_
  refine r_bipush C dX0_lookAhead_2 bp_71 ?_
  refine r_iload_n C dX0_lookAhead_4 1 rfl ?_
  refine r_cSi (As := [.int 71, .int x1]) (rest := [.int 0, .ref (wb (zw Z) + 120)]) C hR mlX0_33 dX0_lookAhead_5 (t_jmin hY) rfl rfl (nle rfl) (nle rfl) (nle rfl) ?_
  refine r_cSi (As := [.int 0, .int (jmin 71 x1)]) (rest := [.ref (wb (zw Z) + 120)]) C hR mlX0_39 dX0_lookAhead_8 (t_jmax hY) rfl rfl (nle rfl) (nle rfl) (nle rfl) ?_
  refine r_putI C fiX0_42 dX0_lookAhead_11 (ly120 hY) ?_
  refine r_aload_n C dX0_lookAhead_14 0 rfl ?_
  refine r_getI C flX0_42 dX0_lookAhead_15 (ly120 hY) rfl ?_
  refine r_istore_n [(2, .int (rI (wI μ 120 6 (jmax 0 (jmin 71 x1))) 120 6)), (0, .ref (wb (zw Z) + 120)), (1, .int x1)] C dX0_lookAhead_18 rfl (by decide) rfl ?_
  refine r_sub [(0, .ref (wb (zw Z) + 120)), (2, .int (rI (wI μ 120 6 (jmax 0 (jmin 71 x1))) 120 6))] [1, 0] rfl ?_
  obtain ⟨m22, e23, h⟩ := bnd_inv h
  refine lp_all (sX0_lookAhead_19 n) (fun q => match q with | (z2, ν) => Wm Z (0, 0, sh, R) (ν) 19 [(0, .ref (wb (zw Z) + 120)), (2, .int z2)] []) (fun q => match q with | ν => Wm Z (0, 0, sh, R) (ν) 198 [] []) (fun q o h kin kex => ?_) n (rI (wI μ 120 6 (jmax 0 (jmin 71 x1))) 120 6, wI μ 120 6 (jmax 0 (jmin 71 x1))) m22 e23 ?_
  · obtain ⟨z2, ν⟩ := q; exact lX0_lookAhead_19 C hR hY n    z2 ν h (fun z2 ν e => kin (z2, ν) e) (fun ν e => kex (ν) e)
  show Wm Z (0, 0, sh, R) m22 198 [] []
  have h := Option.some.inj h
  subst h
  exact r_vret C dX0_lookAhead_198 hr hE
def fX0_arrivalBy (n : Nat) (x1 : Int32) (μ : Mu) : Option (Int32) := gd (ib x1 10) (gd (ib (rI μ 3 (ix x1)) 6) (if (rI μ 123 (ix (rI μ 3 (ix x1)))) ≤ (rI μ 120 6) then (gd (ib ((x1 * 72) + (rI μ 123 (ix (rI μ 3 (ix x1))))) 720) (gd (ib x1 10) (some ((rI μ 121 (ix ((x1 * 72) + (rI μ 123 (ix (rI μ 3 (ix x1))))))) + (rI μ 5 (ix x1)))))) else (some 100000)))
set_option maxRecDepth 100000 in
set_option maxHeartbeats 4000000 in
theorem tX0_arrivalBy {l : Launch} {w : WP} {sh : List Sh} {R : Rf} {μ : Mu} {r : Int32} (hY : LY sh R) (n : Nat) (x1 : Int32)  (h : fX0_arrivalBy n x1 μ = some r) : CM l w yX0_arrivalBy cX0_arrivalBy 3 (some .int) 0 0 0 sh R [.ref (wb w + 120), .int x1] μ (some (.int r)) sh R μ := by
  refine CM.of (plainFor_of_name pf_X0) (Nat.le_of_ble_eq_true rfl) fun Z C hr _ hR hw hl hE => ?_
  subst hw; subst hl
  have C : CX Z cX0_arrivalBy 3 RX0 := C
  show Wm Z (0, 0, sh, R) μ 0 [(0, .ref (wb (zw Z) + 120)), (1, .int x1)] []
  unfold fX0_arrivalBy at h
  refine r_aload_n C dX0_arrivalBy_0 0 rfl ?_
  refine r_getR C flX0_18 dX0_arrivalBy_1 (ly120 hY) rfl (lr120_5 hY) ?_
  refine r_aload_n C dX0_arrivalBy_4 0 rfl ?_
  refine r_getR C flX0_21 dX0_arrivalBy_5 (ly120 hY) rfl (lr120_0 hY) ?_
  refine r_getR C flX0_93 dX0_arrivalBy_8 (isSea_0 (lySea hY)) rfl (isSea_r8 (lySea hY)) ?_
  refine r_iload_n C dX0_arrivalBy_11 1 rfl ?_
  obtain ⟨b1, h⟩ := gd_inv h
  refine r_iald C dX0_arrivalBy_12 (isSea_1 (lySea hY)) b1 ?_
  obtain ⟨b2, h⟩ := gd_inv h
  refine r_iald C dX0_arrivalBy_13 (ly123 hY) b2 ?_
  refine r_istore_n [(2, .int (rI μ 123 (ix (rI μ 3 (ix x1))))), (0, .ref (wb (zw Z) + 120)), (1, .int x1)] C dX0_arrivalBy_14 rfl (by decide) rfl ?_
  refine r_iload_n C dX0_arrivalBy_15 0 rfl ?_
  refine r_aload_n C dX0_arrivalBy_16 1 rfl ?_
  refine r_getI C flX0_42 dX0_arrivalBy_17 (ly120 hY) rfl ?_
  refine r_icmp_le 28 C dX0_arrivalBy_20 (by decide) (fun c3 => ?_) (fun c3 => ?_)
  · have h := (ite_inv h).1 c3
    refine r_aload_n C dX0_arrivalBy_28 1 rfl ?_
    refine r_getR C flX0_9 dX0_arrivalBy_29 (ly120 hY) rfl (lr120_3 hY) ?_
    refine r_iload_n C dX0_arrivalBy_32 2 rfl ?_
    refine r_bipush C dX0_arrivalBy_33 bp_72 ?_
    refine r_imul C dX0_arrivalBy_35 ?_
    refine r_iload_n C dX0_arrivalBy_36 0 rfl ?_
    refine r_iadd C dX0_arrivalBy_37 ?_
    obtain ⟨b4, h⟩ := gd_inv h
    refine r_iald C dX0_arrivalBy_38 (ly121 hY) b4 ?_
    refine r_aload_n C dX0_arrivalBy_39 1 rfl ?_
    refine r_getR C flX0_21 dX0_arrivalBy_40 (ly120 hY) rfl (lr120_0 hY) ?_
    refine r_getR C flX0_96 dX0_arrivalBy_43 (isSea_0 (lySea hY)) rfl (isSea_r10 (lySea hY)) ?_
    refine r_iload_n C dX0_arrivalBy_46 2 rfl ?_
    obtain ⟨b5, h⟩ := gd_inv h
    refine r_iald C dX0_arrivalBy_47 (isSea_3 (lySea hY)) b5 ?_
    refine r_iadd C dX0_arrivalBy_48 ?_
    have h := Option.some.inj h
    subst h
    exact r_iret C dX0_arrivalBy_49 hr hE
  · have h := (ite_inv h).2 c3
    refine r_ldc C dX0_arrivalBy_23 kkX0_76 ?_
    refine r_goto 49 C dX0_arrivalBy_25 (by decide) ?_
    have h := Option.some.inj h
    subst h
    exact r_iret C dX0_arrivalBy_49 hr hE
def jX0_send_78 (n : Nat) (x3 : Int32) (x4 : Int32) (x5 : Int32) (x6 : Int32) (s0 : Int32) (μ : Mu) : Option ((Int32 × Int32 × Mu) ⊕ (Int32 × Mu)) := gd (ib x6 10) (gd (ib (rI μ 4 (ix x6)) 6) (if (rI μ 123 (ix (rI μ 4 (ix x6)))) ≤ s0 then (some (.inl (x4, x6 + 1, μ))) else (gd (ib x6 10) (gd (ib (rI μ 4 (ix x6)) 6) (some (.inl (1, x6 + 1, wI μ 123 (ix (rI μ 4 (ix x6))) s0)))))))
set_option maxRecDepth 100000 in
set_option maxHeartbeats 4000000 in
theorem kX0_send_78 {Z : ZC} {sh : List Sh} {R : Rf} {o : (Int32 × Int32 × Mu) ⊕ (Int32 × Mu)} (C : CX Z cX0_send 8 RX0) (hR : zR Z = rm 1 0 0) (hY : LY sh R) (n : Nat) (x3 : Int32) (x4 : Int32) (x5 : Int32) (x6 : Int32) (s0 : Int32) (μ : Mu) (h : jX0_send_78 n x3 x4 x5 x6 s0 μ = some o) (kin : ∀ (x4 : Int32) (x6 : Int32) (μ : Mu), o = .inl (x4, x6, μ) → Wm Z (0, 0, sh, R) μ 45 [(0, .ref (wb (zw Z) + 120)), (3, .int x3), (4, .int x4), (5, .int x5), (6, .int x6)] []) (kex0 : ∀ (x4 : Int32) (μ : Mu), o = .inr (x4, μ) → Wm Z (0, 0, sh, R) μ 126 [(0, .ref (wb (zw Z) + 120)), (3, .int x3), (4, .int x4), (5, .int x5)] []) : Wm Z (0, 0, sh, R) μ 78 [(0, .ref (wb (zw Z) + 120)), (3, .int x3), (4, .int x4), (5, .int x5), (6, .int x6)] [.int s0] := by
  unfold jX0_send_78 at h
  refine r_istore [(7, .int s0), (0, .ref (wb (zw Z) + 120)), (3, .int x3), (4, .int x4), (5, .int x5), (6, .int x6)] C dX0_send_78 (by decide) rfl ?_
  refine r_iload C dX0_send_80 0 rfl ?_
  refine r_aload_n C dX0_send_82 1 rfl ?_
  refine r_getR C flX0_18 dX0_send_83 (ly120 hY) rfl (lr120_5 hY) ?_
  refine r_aload_n C dX0_send_86 1 rfl ?_
  refine r_getR C flX0_21 dX0_send_87 (ly120 hY) rfl (lr120_0 hY) ?_
  refine r_getR C flX0_90 dX0_send_90 (isSea_0 (lySea hY)) rfl (isSea_r9 (lySea hY)) ?_
  refine r_iload C dX0_send_93 5 rfl ?_
  obtain ⟨b10, h⟩ := gd_inv h
  refine r_iald C dX0_send_95 (isSea_2 (lySea hY)) b10 ?_
  obtain ⟨b11, h⟩ := gd_inv h
  refine r_iald C dX0_send_96 (ly123 hY) b11 ?_
  refine r_icmp_ge 120 C dX0_send_97 (by decide) (fun c12 => ?_) (fun c12 => ?_)
  · have h := (ite_inv h).1 c12
    refine r_iinc [(6, .int (x6 + 1)), (7, .int s0), (0, .ref (wb (zw Z) + 120)), (3, .int x3), (4, .int x4), (5, .int x5)] C dX0_send_120 5 rfl (in_1 _) (by decide) rfl ?_
    refine r_goto 45 C dX0_send_123 (by decide) ?_
    refine r_sub [(0, .ref (wb (zw Z) + 120)), (3, .int x3), (4, .int x4), (5, .int x5), (6, .int (x6 + 1))] [2, 3, 4, 5, 0] rfl ?_
    exact kin x4 (x6 + 1) μ (Option.some.inj h).symm
  · have h := (ite_inv h).2 c12
    refine r_aload_n C dX0_send_100 1 rfl ?_
    refine r_getR C flX0_18 dX0_send_101 (ly120 hY) rfl (lr120_5 hY) ?_
    refine r_aload_n C dX0_send_104 1 rfl ?_
    refine r_getR C flX0_21 dX0_send_105 (ly120 hY) rfl (lr120_0 hY) ?_
    refine r_getR C flX0_90 dX0_send_108 (isSea_0 (lySea hY)) rfl (isSea_r9 (lySea hY)) ?_
    refine r_iload C dX0_send_111 5 rfl ?_
    obtain ⟨b13, h⟩ := gd_inv h
    refine r_iald C dX0_send_113 (isSea_2 (lySea hY)) b13 ?_
    refine r_iload C dX0_send_114 0 rfl ?_
    obtain ⟨b14, h⟩ := gd_inv h
    refine r_iast C dX0_send_116 (ly123 hY) b14 ?_
    refine r_iconst C dX0_send_117 ic_1 ?_
    refine r_istore [(4, .int 1), (7, .int s0), (0, .ref (wb (zw Z) + 120)), (3, .int x3), (5, .int x5), (6, .int x6)] C dX0_send_118 (by decide) rfl ?_
    refine r_iinc [(6, .int (x6 + 1)), (4, .int 1), (7, .int s0), (0, .ref (wb (zw Z) + 120)), (3, .int x3), (5, .int x5)] C dX0_send_120 5 rfl (in_1 _) (by decide) rfl ?_
    refine r_goto 45 C dX0_send_123 (by decide) ?_
    refine r_sub [(0, .ref (wb (zw Z) + 120)), (3, .int x3), (4, .int 1), (5, .int x5), (6, .int (x6 + 1))] [3, 4, 1, 5, 0] rfl ?_
    exact kin 1 (x6 + 1) (wI μ 123 (ix (rI μ 4 (ix x6))) s0) (Option.some.inj h).symm
def sX0_send_45 (n : Nat) (x3 : Int32) (x5 : Int32) : Int32 × Int32 × Mu → Option ((Int32 × Int32 × Mu) ⊕ (Int32 × Mu)) := fun q => match q with | (x4, x6, μ) => if (rI μ 2 1) ≤ x6 then (some (.inr (x4, μ))) else (if ((shr x3 x6) &&& 1) = 1 then (jX0_send_78 n x3 x4 x5 x6 100000 μ) else (bnd (fX0_arrivalBy n x6 μ) fun u9 => jX0_send_78 n x3 x4 x5 x6 u9 μ))
set_option maxRecDepth 100000 in
set_option maxHeartbeats 4000000 in
theorem lX0_send_45 {Z : ZC} {sh : List Sh} {R : Rf} {o : (Int32 × Int32 × Mu) ⊕ (Int32 × Mu)} (C : CX Z cX0_send 8 RX0) (hR : zR Z = rm 1 0 0) (hY : LY sh R) (n : Nat) (x3 : Int32) (x5 : Int32) (x4 : Int32) (x6 : Int32) (μ : Mu) (h : sX0_send_45 n x3 x5 (x4, x6, μ) = some o) (kin : ∀ (x4 : Int32) (x6 : Int32) (μ : Mu), o = .inl (x4, x6, μ) → Wm Z (0, 0, sh, R) μ 45 [(0, .ref (wb (zw Z) + 120)), (3, .int x3), (4, .int x4), (5, .int x5), (6, .int x6)] []) (kex0 : ∀ (x4 : Int32) (μ : Mu), o = .inr (x4, μ) → Wm Z (0, 0, sh, R) μ 126 [(0, .ref (wb (zw Z) + 120)), (3, .int x3), (4, .int x4), (5, .int x5)] []) : Wm Z (0, 0, sh, R) μ 45 [(0, .ref (wb (zw Z) + 120)), (3, .int x3), (4, .int x4), (5, .int x5), (6, .int x6)] [] := by
  unfold sX0_send_45 at h
  refine r_iload C dX0_send_45 4 rfl ?_
  refine r_aload_n C dX0_send_47 0 rfl ?_
  refine r_getR C flX0_21 dX0_send_48 (ly120 hY) rfl (lr120_0 hY) ?_
  refine r_getI C flX0_64 dX0_send_51 (isSea_0 (lySea hY)) rfl ?_
  refine r_icmp_ge 126 C dX0_send_54 (by decide) (fun c6 => ?_) (fun c6 => ?_)
  · have h := (ite_inv h).1 c6
    refine r_sub [(0, .ref (wb (zw Z) + 120)), (3, .int x3), (4, .int x4), (5, .int x5)] [0, 1, 2, 3] rfl ?_
    exact kex0 x4 μ (Option.some.inj h).symm
  · have h := (ite_inv h).2 c6
    refine r_iload_n C dX0_send_57 1 rfl ?_
    refine r_iload C dX0_send_58 4 rfl ?_
    refine r_ishr C dX0_send_60 ?_
    refine r_iconst C dX0_send_61 ic_1 ?_
    refine r_iand C dX0_send_62 ?_
    refine r_iconst C dX0_send_63 ic_1 ?_
    refine r_icmp_ne 72 C dX0_send_64 (by decide) (fun c7 => ?_) (fun c7 => ?_)
    · have h := (ite_inv h).2 c7
      refine r_aload_n C dX0_send_72 0 rfl ?_
      refine r_iload C dX0_send_73 4 rfl ?_
      obtain ⟨u9, e8, h⟩ := bnd_inv h
      refine r_cVi (As := [.int x6]) (rest := []) C hR mlX0_86 dX0_send_75 (tX0_arrivalBy hY n x6  e8) rfl rfl (ly120 hY) rfl (nle rfl) (nle rfl) (nle rfl) ?_
      exact kX0_send_78 C hR hY n   x3 x4 x5 x6 u9 μ h kin kex0
    · have h := (ite_inv h).1 c7
      refine r_ldc C dX0_send_67 kkX0_76 ?_
      refine r_goto 78 C dX0_send_69 (by decide) ?_
      exact kX0_send_78 C hR hY n   x3 x4 x5 x6 100000 μ h kin kex0
def sX0_send_27 (n : Nat) (x3 : Int32) : Int32 × Int32 × Mu → Option ((Int32 × Int32 × Mu) ⊕ (Mu)) := fun q => match q with | (x4, x5, μ) => if 6 ≤ x5 then (some (.inr μ)) else (if x4 = 0 then (some (.inr μ)) else (bnd (lp n (sX0_send_45 n x3 x5) (0, 0, μ)) fun q => match q with | (u15, m16) => some (.inl (u15, x5 + 1, m16))))
set_option maxRecDepth 100000 in
set_option maxHeartbeats 4000000 in
theorem lX0_send_27 {Z : ZC} {sh : List Sh} {R : Rf} {o : (Int32 × Int32 × Mu) ⊕ (Mu)} (C : CX Z cX0_send 8 RX0) (hR : zR Z = rm 1 0 0) (hY : LY sh R) (n : Nat) (x3 : Int32) (x4 : Int32) (x5 : Int32) (μ : Mu) (h : sX0_send_27 n x3 (x4, x5, μ) = some o) (kin : ∀ (x4 : Int32) (x5 : Int32) (μ : Mu), o = .inl (x4, x5, μ) → Wm Z (0, 0, sh, R) μ 27 [(0, .ref (wb (zw Z) + 120)), (3, .int x3), (4, .int x4), (5, .int x5)] []) (kex0 : ∀ (μ : Mu), o = .inr μ → Wm Z (0, 0, sh, R) μ 132 [] []) : Wm Z (0, 0, sh, R) μ 27 [(0, .ref (wb (zw Z) + 120)), (3, .int x3), (4, .int x4), (5, .int x5)] [] := by
  unfold sX0_send_27 at h
  refine r_iload C dX0_send_27 3 rfl ?_
  refine r_bipush C dX0_send_29 bp_6 ?_
  refine r_icmp_ge 132 C dX0_send_31 (by decide) (fun c4 => ?_) (fun c4 => ?_)
  · have h := (ite_inv h).1 c4
    refine r_sub [] [] rfl ?_
    exact kex0 μ (Option.some.inj h).symm
  · have h := (ite_inv h).2 c4
    refine r_iload C dX0_send_34 2 rfl ?_
    refine r_if_eq 132 C dX0_send_36 (by decide) (fun c5 => ?_) (fun c5 => ?_)
    · have h := (ite_inv h).1 c5
      refine r_sub [] [] rfl ?_
      exact kex0 μ (Option.some.inj h).symm
    · have h := (ite_inv h).2 c5
      refine r_iconst C dX0_send_39 ic_0 ?_
      refine r_istore [(4, .int 0), (0, .ref (wb (zw Z) + 120)), (3, .int x3), (5, .int x5)] C dX0_send_40 (by decide) rfl ?_
      refine r_iconst C dX0_send_42 ic_0 ?_
      refine r_istore [(6, .int 0), (4, .int 0), (0, .ref (wb (zw Z) + 120)), (3, .int x3), (5, .int x5)] C dX0_send_43 (by decide) rfl ?_
      refine r_sub [(0, .ref (wb (zw Z) + 120)), (3, .int x3), (4, .int 0), (5, .int x5), (6, .int 0)] [2, 3, 1, 4, 0] rfl ?_
      obtain ⟨⟨u15, m16⟩, e17, h⟩ := bnd_inv h
      refine lp_all (sX0_send_45 n x3 x5) (fun q => match q with | (z4, z6, ν) => Wm Z (0, 0, sh, R) (ν) 45 [(0, .ref (wb (zw Z) + 120)), (3, .int x3), (4, .int z4), (5, .int x5), (6, .int z6)] []) (fun q => match q with | (z4, ν) => Wm Z (0, 0, sh, R) (ν) 126 [(0, .ref (wb (zw Z) + 120)), (3, .int x3), (4, .int z4), (5, .int x5)] []) (fun q o h kin kex => ?_) n (0, 0, μ) (u15, m16) e17 ?_
      · obtain ⟨z4, z6, ν⟩ := q; exact lX0_send_45 C hR hY n   x3 x5 z4 z6 ν h (fun z4 z6 ν e => kin (z4, z6, ν) e) (fun z4 ν e => kex (z4, ν) e)
      show Wm Z (0, 0, sh, R) m16 126 [(0, .ref (wb (zw Z) + 120)), (3, .int x3), (4, .int u15), (5, .int x5)] []
      refine r_iinc [(5, .int (x5 + 1)), (0, .ref (wb (zw Z) + 120)), (3, .int x3), (4, .int u15)] C dX0_send_126 3 rfl (in_1 _) (by decide) rfl ?_
      refine r_goto 27 C dX0_send_129 (by decide) ?_
      refine r_sub [(0, .ref (wb (zw Z) + 120)), (3, .int x3), (4, .int u15), (5, .int (x5 + 1))] [1, 2, 3, 0] rfl ?_
      exact kin u15 (x5 + 1) m16 (Option.some.inj h).symm
def fX0_send (n : Nat) (x1 : Int32) (x2 : Int32) (x3 : Int32) (μ : Mu) : Option (Mu) := bnd (fJ7_fill_53178 n 123 6 100000 (wI μ 120 7 x2)) fun m2 => gd (ib x1 6) (bnd (lp n (sX0_send_27 n x3) (1, 0, wI m2 123 (ix x1) x2)) fun q => match q with | m18 => some m18)
set_option maxRecDepth 100000 in
set_option maxHeartbeats 4000000 in
theorem tX0_send {l : Launch} {w : WP} {sh : List Sh} {R : Rf} {μ : Mu} {μ' : Mu} (hY : LY sh R) (n : Nat) (x1 : Int32) (x2 : Int32) (x3 : Int32)  (h : fX0_send n x1 x2 x3 μ = some μ') : CM l w yX0_send cX0_send 8 none 1 0 0 sh R [.ref (wb w + 120), .int x1, .int x2, .int x3] μ none sh R μ' := by
  refine CM.of (plainFor_of_name pf_X0) (Nat.le_of_ble_eq_true rfl) fun Z C hr _ hR hw hl hE => ?_
  subst hw; subst hl
  have C : CX Z cX0_send 8 RX0 := C
  show Wm Z (0, 0, sh, R) μ 0 [(0, .ref (wb (zw Z) + 120)), (1, .int x1), (2, .int x2), (3, .int x3)] []
  unfold fX0_send at h
  refine r_aload_n C dX0_send_0 0 rfl ?_
  refine r_iload_n C dX0_send_1 2 rfl ?_
  refine r_putI C fiX0_77 dX0_send_2 (ly120 hY) ?_
  refine r_aload_n C dX0_send_5 0 rfl ?_
  refine r_getR C flX0_18 dX0_send_6 (ly120 hY) rfl (lr120_5 hY) ?_
  refine r_ldc C dX0_send_9 kkX0_76 ?_
  obtain ⟨m2, e1, h⟩ := bnd_inv h
  refine r_cSv (As := [.ref (wb (zw Z) + 123), .int 100000]) (rest := []) C hR mlX0_80 dX0_send_11 (tJ7_fill_53178 hY n 123 6 100000 (ly123 hY) e1) rfl rfl (nle rfl) (nle rfl) (nle rfl) ?_
  refine r_aload_n C dX0_send_14 0 rfl ?_
  refine r_getR C flX0_18 dX0_send_15 (ly120 hY) rfl (lr120_5 hY) ?_
  refine r_iload_n C dX0_send_18 1 rfl ?_
  refine r_iload_n C dX0_send_19 2 rfl ?_
  obtain ⟨b3, h⟩ := gd_inv h
  refine r_iast C dX0_send_20 (ly123 hY) b3 ?_
  refine r_iconst C dX0_send_21 ic_1 ?_
  refine r_istore [(4, .int 1), (0, .ref (wb (zw Z) + 120)), (1, .int x1), (2, .int x2), (3, .int x3)] C dX0_send_22 (by decide) rfl ?_
  refine r_iconst C dX0_send_24 ic_0 ?_
  refine r_istore [(5, .int 0), (4, .int 1), (0, .ref (wb (zw Z) + 120)), (1, .int x1), (2, .int x2), (3, .int x3)] C dX0_send_25 (by decide) rfl ?_
  refine r_sub [(0, .ref (wb (zw Z) + 120)), (3, .int x3), (4, .int 1), (5, .int 0)] [2, 5, 1, 0] rfl ?_
  obtain ⟨m18, e19, h⟩ := bnd_inv h
  refine lp_all (sX0_send_27 n x3) (fun q => match q with | (z4, z5, ν) => Wm Z (0, 0, sh, R) (ν) 27 [(0, .ref (wb (zw Z) + 120)), (3, .int x3), (4, .int z4), (5, .int z5)] []) (fun q => match q with | ν => Wm Z (0, 0, sh, R) (ν) 132 [] []) (fun q o h kin kex => ?_) n (1, 0, wI m2 123 (ix x1) x2) m18 e19 ?_
  · obtain ⟨z4, z5, ν⟩ := q; exact lX0_send_27 C hR hY n   x3 z4 z5 ν h (fun z4 z5 ν e => kin (z4, z5, ν) e) (fun ν e => kex (ν) e)
  show Wm Z (0, 0, sh, R) m18 132 [] []
  have h := Option.some.inj h
  subst h
  exact r_vret C dX0_send_132 hr hE
def sX0_beachesBy_4 (n : Nat) (x1 : Int32) (μ : Mu) : Int32 × Int32 → Option ((Int32 × Int32) ⊕ (Int32)) := fun q => match q with | (x2, x3) => if (rI μ 2 0) ≤ x3 then (some (.inr x2)) else (gd (ib x3 6) (if x1 < (rI μ 123 (ix x3)) then (some (.inl (x2, x3 + 1))) else (some (.inl (x2 ||| (shl 1 x3), x3 + 1)))))
set_option maxRecDepth 100000 in
set_option maxHeartbeats 4000000 in
theorem lX0_beachesBy_4 {Z : ZC} {sh : List Sh} {R : Rf} {o : (Int32 × Int32) ⊕ (Int32)} (C : CX Z cX0_beachesBy 4 RX0) (hR : zR Z = rm 0 0 0) (hY : LY sh R) (n : Nat) (x1 : Int32) (μ : Mu) (x2 : Int32) (x3 : Int32) (h : sX0_beachesBy_4 n x1 μ (x2, x3) = some o) (kin : ∀ (x2 : Int32) (x3 : Int32), o = .inl (x2, x3) → Wm Z (0, 0, sh, R) μ 4 [(0, .ref (wb (zw Z) + 120)), (1, .int x1), (2, .int x2), (3, .int x3)] []) (kex0 : ∀ (x2 : Int32), o = .inr x2 → Wm Z (0, 0, sh, R) μ 37 [(2, .int x2)] []) : Wm Z (0, 0, sh, R) μ 4 [(0, .ref (wb (zw Z) + 120)), (1, .int x1), (2, .int x2), (3, .int x3)] [] := by
  unfold sX0_beachesBy_4 at h
  refine r_iload_n C dX0_beachesBy_4 3 rfl ?_
  refine r_aload_n C dX0_beachesBy_5 0 rfl ?_
  refine r_getR C flX0_21 dX0_beachesBy_6 (ly120 hY) rfl (lr120_0 hY) ?_
  refine r_getI C flX0_99 dX0_beachesBy_9 (isSea_0 (lySea hY)) rfl ?_
  refine r_icmp_ge 37 C dX0_beachesBy_12 (by decide) (fun c1 => ?_) (fun c1 => ?_)
  · have h := (ite_inv h).1 c1
    refine r_sub [(2, .int x2)] [2] rfl ?_
    exact kex0 x2 (Option.some.inj h).symm
  · have h := (ite_inv h).2 c1
    refine r_aload_n C dX0_beachesBy_15 0 rfl ?_
    refine r_getR C flX0_18 dX0_beachesBy_16 (ly120 hY) rfl (lr120_5 hY) ?_
    refine r_iload_n C dX0_beachesBy_19 3 rfl ?_
    obtain ⟨b2, h⟩ := gd_inv h
    refine r_iald C dX0_beachesBy_20 (ly123 hY) b2 ?_
    refine r_iload_n C dX0_beachesBy_21 1 rfl ?_
    refine r_icmp_gt 31 C dX0_beachesBy_22 (by decide) (fun c3 => ?_) (fun c3 => ?_)
    · have h := (ite_inv h).1 c3
      refine r_iinc [(3, .int (x3 + 1)), (0, .ref (wb (zw Z) + 120)), (1, .int x1), (2, .int x2)] C dX0_beachesBy_31 3 rfl (in_1 _) (by decide) rfl ?_
      refine r_goto 4 C dX0_beachesBy_34 (by decide) ?_
      refine r_sub [(0, .ref (wb (zw Z) + 120)), (1, .int x1), (2, .int x2), (3, .int (x3 + 1))] [1, 2, 3, 0] rfl ?_
      exact kin x2 (x3 + 1) (Option.some.inj h).symm
    · have h := (ite_inv h).2 c3
      refine r_iload_n C dX0_beachesBy_25 2 rfl ?_
      refine r_iconst C dX0_beachesBy_26 ic_1 ?_
      refine r_iload_n C dX0_beachesBy_27 3 rfl ?_
      refine r_ishl C dX0_beachesBy_28 ?_
      refine r_ior C dX0_beachesBy_29 ?_
      refine r_istore_n [(2, .int (x2 ||| (shl 1 x3))), (0, .ref (wb (zw Z) + 120)), (1, .int x1), (3, .int x3)] C dX0_beachesBy_30 rfl (by decide) rfl ?_
      refine r_iinc [(3, .int (x3 + 1)), (2, .int (x2 ||| (shl 1 x3))), (0, .ref (wb (zw Z) + 120)), (1, .int x1)] C dX0_beachesBy_31 3 rfl (in_1 _) (by decide) rfl ?_
      refine r_goto 4 C dX0_beachesBy_34 (by decide) ?_
      refine r_sub [(0, .ref (wb (zw Z) + 120)), (1, .int x1), (2, .int (x2 ||| (shl 1 x3))), (3, .int (x3 + 1))] [2, 3, 1, 0] rfl ?_
      exact kin (x2 ||| (shl 1 x3)) (x3 + 1) (Option.some.inj h).symm
def fX0_beachesBy (n : Nat) (x1 : Int32) (μ : Mu) : Option (Int32) := bnd (lp n (sX0_beachesBy_4 n x1 μ) (0, 0)) fun q => match q with | u4 => some u4
set_option maxRecDepth 100000 in
set_option maxHeartbeats 4000000 in
theorem tX0_beachesBy {l : Launch} {w : WP} {sh : List Sh} {R : Rf} {μ : Mu} {r : Int32} (hY : LY sh R) (n : Nat) (x1 : Int32)  (h : fX0_beachesBy n x1 μ = some r) : CM l w yX0_beachesBy cX0_beachesBy 4 (some .int) 0 0 0 sh R [.ref (wb w + 120), .int x1] μ (some (.int r)) sh R μ := by
  refine CM.of (plainFor_of_name pf_X0) (Nat.le_of_ble_eq_true rfl) fun Z C hr _ hR hw hl hE => ?_
  subst hw; subst hl
  have C : CX Z cX0_beachesBy 4 RX0 := C
  show Wm Z (0, 0, sh, R) μ 0 [(0, .ref (wb (zw Z) + 120)), (1, .int x1)] []
  unfold fX0_beachesBy at h
  refine r_iconst C dX0_beachesBy_0 ic_0 ?_
  refine r_istore_n [(2, .int 0), (0, .ref (wb (zw Z) + 120)), (1, .int x1)] C dX0_beachesBy_1 rfl (by decide) rfl ?_
  refine r_iconst C dX0_beachesBy_2 ic_0 ?_
  refine r_istore_n [(3, .int 0), (2, .int 0), (0, .ref (wb (zw Z) + 120)), (1, .int x1)] C dX0_beachesBy_3 rfl (by decide) rfl ?_
  refine r_sub [(0, .ref (wb (zw Z) + 120)), (1, .int x1), (2, .int 0), (3, .int 0)] [2, 3, 1, 0] rfl ?_
  obtain ⟨u4, e5, h⟩ := bnd_inv h
  refine lp_all (sX0_beachesBy_4 n x1 μ) (fun q => match q with | (z2, z3) => Wm Z (0, 0, sh, R) μ 4 [(0, .ref (wb (zw Z) + 120)), (1, .int x1), (2, .int z2), (3, .int z3)] []) (fun q => match q with | z2 => Wm Z (0, 0, sh, R) μ 37 [(2, .int z2)] []) (fun q o h kin kex => ?_) n (0, 0) u4 e5 ?_
  · obtain ⟨z2, z3⟩ := q; exact lX0_beachesBy_4 C hR hY n   x1 μ z2 z3 h (fun z2 z3 e => kin (z2, z3) e) (fun z2 e => kex z2 e)
  show Wm Z (0, 0, sh, R) μ 37 [(2, .int u4)] []
  refine r_iload_n C dX0_beachesBy_37 0 rfl ?_
  have h := Option.some.inj h
  subst h
  exact r_iret C dX0_beachesBy_38 hr hE
def sX8_audible_26 (n : Nat) (a0 : Nat) (a1 : Nat) (x2 : Int32) (μ : Mu) : Int32 × Int32 → Option ((Int32 × Int32) ⊕ (Int32)) := fun q => match q with | (x3, x4) => if (rI μ a1 3) ≤ x4 then (some (.inr x3)) else (gd (ib x4 8) (if (rI μ (a0 + 1) (ix x4)) = x2 then (gd (ib x4 8) (some (.inl (x3 ||| (shl 1 (rI μ (a1 + 5) (ix x4))), x4 + 1)))) else (some (.inl (x3, x4 + 1)))))
set_option maxRecDepth 100000 in
set_option maxHeartbeats 4000000 in
theorem lX8_audible_26 {Z : ZC} {sh : List Sh} {R : Rf} {o : (Int32 × Int32) ⊕ (Int32)} (C : CX Z cX8_audible 5 RX8) (hR : zR Z = rm 0 0 0) (hY : LY sh R) (n : Nat) (a0 : Nat) (a1 : Nat) (ha0 : isSt sh R a0) (ha1 : isSea sh R a1) (x2 : Int32) (μ : Mu) (x3 : Int32) (x4 : Int32) (h : sX8_audible_26 n a0 a1 x2 μ (x3, x4) = some o) (kin : ∀ (x3 : Int32) (x4 : Int32), o = .inl (x3, x4) → Wm Z (0, 0, sh, R) μ 26 [(0, .ref (wb (zw Z) + a0)), (1, .ref (wb (zw Z) + a1)), (2, .int x2), (3, .int x3), (4, .int x4)] []) (kex0 : ∀ (x3 : Int32), o = .inr x3 → Wm Z (0, 0, sh, R) μ 64 [(3, .int x3)] []) : Wm Z (0, 0, sh, R) μ 26 [(0, .ref (wb (zw Z) + a0)), (1, .ref (wb (zw Z) + a1)), (2, .int x2), (3, .int x3), (4, .int x4)] [] := by
  unfold sX8_audible_26 at h
  refine r_iload C dX8_audible_26 4 rfl ?_
  refine r_aload_n C dX8_audible_28 1 rfl ?_
  refine r_getI C flX8_121 dX8_audible_29 (isSea_0 ha1) rfl ?_
  refine r_icmp_ge 64 C dX8_audible_32 (by decide) (fun c4 => ?_) (fun c4 => ?_)
  · have h := (ite_inv h).1 c4
    refine r_sub [(3, .int x3)] [3] rfl ?_
    exact kex0 x3 (Option.some.inj h).symm
  · have h := (ite_inv h).2 c4
    refine r_aload_n C dX8_audible_35 0 rfl ?_
    refine r_getR C flX8_9 dX8_audible_36 (isSt_0 ha0) rfl (isSt_r4 ha0) ?_
    refine r_iload C dX8_audible_39 4 rfl ?_
    obtain ⟨b5, h⟩ := gd_inv h
    refine r_iald C dX8_audible_41 (isSt_1 ha0) b5 ?_
    refine r_iload_n C dX8_audible_42 2 rfl ?_
    refine r_icmp_ne 58 C dX8_audible_43 (by decide) (fun c6 => ?_) (fun c6 => ?_)
    · have h := (ite_inv h).2 c6
      refine r_iinc [(4, .int (x4 + 1)), (0, .ref (wb (zw Z) + a0)), (1, .ref (wb (zw Z) + a1)), (2, .int x2), (3, .int x3)] C dX8_audible_58 4 rfl (in_1 _) (by decide) rfl ?_
      refine r_goto 26 C dX8_audible_61 (by decide) ?_
      refine r_sub [(0, .ref (wb (zw Z) + a0)), (1, .ref (wb (zw Z) + a1)), (2, .int x2), (3, .int x3), (4, .int (x4 + 1))] [1, 2, 3, 4, 0] rfl ?_
      exact kin x3 (x4 + 1) (Option.some.inj h).symm
    · have h := (ite_inv h).1 c6
      refine r_iload_n C dX8_audible_46 3 rfl ?_
      refine r_iconst C dX8_audible_47 ic_1 ?_
      refine r_aload_n C dX8_audible_48 1 rfl ?_
      refine r_getR C flX8_124 dX8_audible_49 (isSea_0 ha1) rfl (isSea_r12 ha1) ?_
      refine r_iload C dX8_audible_52 4 rfl ?_
      obtain ⟨b7, h⟩ := gd_inv h
      refine r_iald C dX8_audible_54 (isSea_5 ha1) b7 ?_
      refine r_ishl C dX8_audible_55 ?_
      refine r_ior C dX8_audible_56 ?_
      refine r_istore_n [(3, .int (x3 ||| (shl 1 (rI μ (a1 + 5) (ix x4))))), (0, .ref (wb (zw Z) + a0)), (1, .ref (wb (zw Z) + a1)), (2, .int x2), (4, .int x4)] C dX8_audible_57 rfl (by decide) rfl ?_
      refine r_iinc [(4, .int (x4 + 1)), (3, .int (x3 ||| (shl 1 (rI μ (a1 + 5) (ix x4))))), (0, .ref (wb (zw Z) + a0)), (1, .ref (wb (zw Z) + a1)), (2, .int x2)] C dX8_audible_58 4 rfl (in_1 _) (by decide) rfl ?_
      refine r_goto 26 C dX8_audible_61 (by decide) ?_
      refine r_sub [(0, .ref (wb (zw Z) + a0)), (1, .ref (wb (zw Z) + a1)), (2, .int x2), (3, .int (x3 ||| (shl 1 (rI μ (a1 + 5) (ix x4))))), (4, .int (x4 + 1))] [2, 3, 4, 1, 0] rfl ?_
      exact kin (x3 ||| (shl 1 (rI μ (a1 + 5) (ix x4)))) (x4 + 1) (Option.some.inj h).symm
def jX8_audible_22 (n : Nat) (a0 : Nat) (a1 : Nat) (x2 : Int32) (s0 : Int32) (μ : Mu) : Option (Int32) := bnd (lp n (sX8_audible_26 n a0 a1 x2 μ) (s0, 0)) fun q => match q with | u8 => some u8
set_option maxRecDepth 100000 in
set_option maxHeartbeats 4000000 in
theorem kX8_audible_22 {Z : ZC} {sh : List Sh} {R : Rf} {r : Int32} (C : CX Z cX8_audible 5 RX8) (hR : zR Z = rm 0 0 0) (hY : LY sh R) (n : Nat) (a0 : Nat) (a1 : Nat) (ha0 : isSt sh R a0) (ha1 : isSea sh R a1) (x2 : Int32) (s0 : Int32) (μ : Mu) (h : jX8_audible_22 n a0 a1 x2 s0 μ = some r) (hr : (zme Z).sig.returnType = (some .int)) (hE : zEnd Z (0, 0, sh, R) μ (some (.int r))) : Wm Z (0, 0, sh, R) μ 22 [(0, .ref (wb (zw Z) + a0)), (1, .ref (wb (zw Z) + a1)), (2, .int x2)] [.int s0] := by
  unfold jX8_audible_22 at h
  refine r_istore_n [(3, .int s0), (0, .ref (wb (zw Z) + a0)), (1, .ref (wb (zw Z) + a1)), (2, .int x2)] C dX8_audible_22 rfl (by decide) rfl ?_
  refine r_iconst C dX8_audible_23 ic_0 ?_
  refine r_istore [(4, .int 0), (3, .int s0), (0, .ref (wb (zw Z) + a0)), (1, .ref (wb (zw Z) + a1)), (2, .int x2)] C dX8_audible_24 (by decide) rfl ?_
  refine r_sub [(0, .ref (wb (zw Z) + a0)), (1, .ref (wb (zw Z) + a1)), (2, .int x2), (3, .int s0), (4, .int 0)] [2, 3, 4, 1, 0] rfl ?_
  obtain ⟨u8, e9, h⟩ := bnd_inv h
  refine lp_all (sX8_audible_26 n a0 a1 x2 μ) (fun q => match q with | (z3, z4) => Wm Z (0, 0, sh, R) μ 26 [(0, .ref (wb (zw Z) + a0)), (1, .ref (wb (zw Z) + a1)), (2, .int x2), (3, .int z3), (4, .int z4)] []) (fun q => match q with | z3 => Wm Z (0, 0, sh, R) μ 64 [(3, .int z3)] []) (fun q o h kin kex => ?_) n (s0, 0) u8 e9 ?_
  · obtain ⟨z3, z4⟩ := q; exact lX8_audible_26 C hR hY n a0 a1 ha0 ha1 x2 μ z3 z4 h (fun z3 z4 e => kin (z3, z4) e) (fun z3 e => kex z3 e)
  show Wm Z (0, 0, sh, R) μ 64 [(3, .int u8)] []
  refine r_iload_n C dX8_audible_64 0 rfl ?_
  have h := Option.some.inj h
  subst h
  exact r_iret C dX8_audible_65 hr hE
def fX8_audible (n : Nat) (a0 : Nat) (a1 : Nat) (x2 : Int32) (μ : Mu) : Option (Int32) := gd (ib x2 6) (if (rI μ (a1 + 4) (ix x2)) = (-1) then (jX8_audible_22 n a0 a1 x2 0 μ) else (gd (ib x2 6) (jX8_audible_22 n a0 a1 x2 (shl 1 (rI μ (a1 + 4) (ix x2))) μ)))
set_option maxRecDepth 100000 in
set_option maxHeartbeats 4000000 in
theorem tX8_audible {l : Launch} {w : WP} {sh : List Sh} {R : Rf} {μ : Mu} {r : Int32} (hY : LY sh R) (n : Nat) (a0 : Nat) (a1 : Nat) (x2 : Int32) (ha0 : isSt sh R a0) (ha1 : isSea sh R a1) (h : fX8_audible n a0 a1 x2 μ = some r) : CM l w yX8_audible cX8_audible 5 (some .int) 0 0 0 sh R [.ref (wb w + a0), .ref (wb w + a1), .int x2] μ (some (.int r)) sh R μ := by
  refine CM.of (plainFor_of_name pf_X8) (Nat.le_of_ble_eq_true rfl) fun Z C hr _ hR hw hl hE => ?_
  subst hw; subst hl
  have C : CX Z cX8_audible 5 RX8 := C
  show Wm Z (0, 0, sh, R) μ 0 [(0, .ref (wb (zw Z) + a0)), (1, .ref (wb (zw Z) + a1)), (2, .int x2)] []
  unfold fX8_audible at h
  refine r_aload_n C dX8_audible_0 1 rfl ?_
  refine r_getR C flX8_118 dX8_audible_1 (isSea_0 ha1) rfl (isSea_r11 ha1) ?_
  refine r_iload_n C dX8_audible_4 2 rfl ?_
  obtain ⟨b1, h⟩ := gd_inv h
  refine r_iald C dX8_audible_5 (isSea_4 ha1) b1 ?_
  refine r_iconst C dX8_audible_6 ic_m1 ?_
  refine r_icmp_ne 14 C dX8_audible_7 (by decide) (fun c2 => ?_) (fun c2 => ?_)
  · have h := (ite_inv h).2 c2
    refine r_iconst C dX8_audible_14 ic_1 ?_
    refine r_aload_n C dX8_audible_15 1 rfl ?_
    refine r_getR C flX8_118 dX8_audible_16 (isSea_0 ha1) rfl (isSea_r11 ha1) ?_
    refine r_iload_n C dX8_audible_19 2 rfl ?_
    obtain ⟨b3, h⟩ := gd_inv h
    refine r_iald C dX8_audible_20 (isSea_4 ha1) b3 ?_
    refine r_ishl C dX8_audible_21 ?_
    exact kX8_audible_22 C hR hY n a0 a1 ha0 ha1 x2 (shl 1 (rI μ (a1 + 4) (ix x2))) μ h hr hE
  · have h := (ite_inv h).1 c2
    refine r_iconst C dX8_audible_10 ic_0 ?_
    refine r_goto 22 C dX8_audible_11 (by decide) ?_
    exact kX8_audible_22 C hR hY n a0 a1 ha0 ha1 x2 0 μ h hr hE
def fX0_hourHeardFrom (n : Nat) (x1 : Int32) (x2 : Int32) (μ : Mu) : Option (Int32) := if (jmax x1 ((rI μ 120 7) + 1)) ≤ (rI μ 120 6) then (gd (ib ((x2 * 72) + (jmax x1 ((rI μ 120 7) + 1))) 432) (some (rI μ 122 (ix ((x2 * 72) + (jmax x1 ((rI μ 120 7) + 1))))))) else (some 100000)
set_option maxRecDepth 100000 in
set_option maxHeartbeats 4000000 in
theorem tX0_hourHeardFrom {l : Launch} {w : WP} {sh : List Sh} {R : Rf} {μ : Mu} {r : Int32} (hY : LY sh R) (n : Nat) (x1 : Int32) (x2 : Int32)  (h : fX0_hourHeardFrom n x1 x2 μ = some r) : CM l w yX0_hourHeardFrom cX0_hourHeardFrom 4 (some .int) 1 0 0 sh R [.ref (wb w + 120), .int x1, .int x2] μ (some (.int r)) sh R μ := by
  refine CM.of (plainFor_of_name pf_X0) (Nat.le_of_ble_eq_true rfl) fun Z C hr _ hR hw hl hE => ?_
  subst hw; subst hl
  have C : CX Z cX0_hourHeardFrom 4 RX0 := C
  show Wm Z (0, 0, sh, R) μ 0 [(0, .ref (wb (zw Z) + 120)), (1, .int x1), (2, .int x2)] []
  unfold fX0_hourHeardFrom at h
  refine r_iload_n C dX0_hourHeardFrom_0 1 rfl ?_
  refine r_aload_n C dX0_hourHeardFrom_1 0 rfl ?_
  refine r_getI C flX0_77 dX0_hourHeardFrom_2 (ly120 hY) rfl ?_
  refine r_iconst C dX0_hourHeardFrom_5 ic_1 ?_
  refine r_iadd C dX0_hourHeardFrom_6 ?_
  refine r_cSi (As := [.int x1, .int ((rI μ 120 7) + 1)]) (rest := []) C hR mlX0_39 dX0_hourHeardFrom_7 (t_jmax hY) rfl rfl (nle rfl) (nle rfl) (nle rfl) ?_
  refine r_istore_n [(3, .int (jmax x1 ((rI μ 120 7) + 1))), (0, .ref (wb (zw Z) + 120)), (1, .int x1), (2, .int x2)] C dX0_hourHeardFrom_10 rfl (by decide) rfl ?_
  refine r_iload_n C dX0_hourHeardFrom_11 0 rfl ?_
  refine r_aload_n C dX0_hourHeardFrom_12 1 rfl ?_
  refine r_getI C flX0_42 dX0_hourHeardFrom_13 (ly120 hY) rfl ?_
  refine r_icmp_le 24 C dX0_hourHeardFrom_16 (by decide) (fun c1 => ?_) (fun c1 => ?_)
  · have h := (ite_inv h).1 c1
    refine r_aload_n C dX0_hourHeardFrom_24 1 rfl ?_
    refine r_getR C flX0_15 dX0_hourHeardFrom_25 (ly120 hY) rfl (lr120_4 hY) ?_
    refine r_iload_n C dX0_hourHeardFrom_28 3 rfl ?_
    refine r_bipush C dX0_hourHeardFrom_29 bp_72 ?_
    refine r_imul C dX0_hourHeardFrom_31 ?_
    refine r_iload_n C dX0_hourHeardFrom_32 0 rfl ?_
    refine r_iadd C dX0_hourHeardFrom_33 ?_
    obtain ⟨b2, h⟩ := gd_inv h
    refine r_iald C dX0_hourHeardFrom_34 (ly122 hY) b2 ?_
    have h := Option.some.inj h
    subst h
    exact r_iret C dX0_hourHeardFrom_35 hr hE
  · have h := (ite_inv h).2 c1
    refine r_ldc C dX0_hourHeardFrom_19 kkX0_76 ?_
    refine r_goto 35 C dX0_hourHeardFrom_21 (by decide) ?_
    have h := Option.some.inj h
    subst h
    exact r_iret C dX0_hourHeardFrom_35 hr hE
def sX0_hourHeard_19 (n : Nat) (x1 : Int32) (x2 : Int32) (μ : Mu) : Int32 × Int32 → Option ((Int32 × Int32) ⊕ (Int32)) := fun q => match q with | (x3, x4) => if (rI μ 2 0) ≤ x4 then (some (.inr x3)) else (if ((shr x2 x4) &&& 1) = 1 then (gd (ib x4 6) (some (.inl (jmin x3 (rI μ 123 (ix x4)), x4 + 1)))) else (some (.inl (x3, x4 + 1))))
set_option maxRecDepth 100000 in
set_option maxHeartbeats 4000000 in
theorem lX0_hourHeard_19 {Z : ZC} {sh : List Sh} {R : Rf} {o : (Int32 × Int32) ⊕ (Int32)} (C : CX Z cX0_hourHeard 5 RX0) (hR : zR Z = rm 2 0 0) (hY : LY sh R) (n : Nat) (x1 : Int32) (x2 : Int32) (μ : Mu) (x3 : Int32) (x4 : Int32) (h : sX0_hourHeard_19 n x1 x2 μ (x3, x4) = some o) (kin : ∀ (x3 : Int32) (x4 : Int32), o = .inl (x3, x4) → Wm Z (0, 0, sh, R) μ 19 [(0, .ref (wb (zw Z) + 120)), (1, .int x1), (2, .int x2), (3, .int x3), (4, .int x4)] []) (kex0 : ∀ (x3 : Int32), o = .inr x3 → Wm Z (0, 0, sh, R) μ 59 [(0, .ref (wb (zw Z) + 120)), (1, .int x1), (3, .int x3)] []) : Wm Z (0, 0, sh, R) μ 19 [(0, .ref (wb (zw Z) + 120)), (1, .int x1), (2, .int x2), (3, .int x3), (4, .int x4)] [] := by
  unfold sX0_hourHeard_19 at h
  refine r_iload C dX0_hourHeard_19 4 rfl ?_
  refine r_aload_n C dX0_hourHeard_21 0 rfl ?_
  refine r_getR C flX0_21 dX0_hourHeard_22 (ly120 hY) rfl (lr120_0 hY) ?_
  refine r_getI C flX0_99 dX0_hourHeard_25 (isSea_0 (lySea hY)) rfl ?_
  refine r_icmp_ge 59 C dX0_hourHeard_28 (by decide) (fun c3 => ?_) (fun c3 => ?_)
  · have h := (ite_inv h).1 c3
    refine r_sub [(0, .ref (wb (zw Z) + 120)), (1, .int x1), (3, .int x3)] [0, 1, 3] rfl ?_
    exact kex0 x3 (Option.some.inj h).symm
  · have h := (ite_inv h).2 c3
    refine r_iload_n C dX0_hourHeard_31 2 rfl ?_
    refine r_iload C dX0_hourHeard_32 4 rfl ?_
    refine r_ishr C dX0_hourHeard_34 ?_
    refine r_iconst C dX0_hourHeard_35 ic_1 ?_
    refine r_iand C dX0_hourHeard_36 ?_
    refine r_iconst C dX0_hourHeard_37 ic_1 ?_
    refine r_icmp_ne 53 C dX0_hourHeard_38 (by decide) (fun c4 => ?_) (fun c4 => ?_)
    · have h := (ite_inv h).2 c4
      refine r_iinc [(4, .int (x4 + 1)), (0, .ref (wb (zw Z) + 120)), (1, .int x1), (2, .int x2), (3, .int x3)] C dX0_hourHeard_53 4 rfl (in_1 _) (by decide) rfl ?_
      refine r_goto 19 C dX0_hourHeard_56 (by decide) ?_
      refine r_sub [(0, .ref (wb (zw Z) + 120)), (1, .int x1), (2, .int x2), (3, .int x3), (4, .int (x4 + 1))] [1, 2, 3, 4, 0] rfl ?_
      exact kin x3 (x4 + 1) (Option.some.inj h).symm
    · have h := (ite_inv h).1 c4
      refine r_iload_n C dX0_hourHeard_41 3 rfl ?_
      refine r_aload_n C dX0_hourHeard_42 0 rfl ?_
      refine r_getR C flX0_18 dX0_hourHeard_43 (ly120 hY) rfl (lr120_5 hY) ?_
      refine r_iload C dX0_hourHeard_46 4 rfl ?_
      obtain ⟨b5, h⟩ := gd_inv h
      refine r_iald C dX0_hourHeard_48 (ly123 hY) b5 ?_
      refine r_cSi (As := [.int x3, .int (rI μ 123 (ix x4))]) (rest := []) C hR mlX0_33 dX0_hourHeard_49 (t_jmin hY) rfl rfl (nle rfl) (nle rfl) (nle rfl) ?_
      refine r_istore_n [(3, .int (jmin x3 (rI μ 123 (ix x4)))), (0, .ref (wb (zw Z) + 120)), (1, .int x1), (2, .int x2), (4, .int x4)] C dX0_hourHeard_52 rfl (by decide) rfl ?_
      refine r_iinc [(4, .int (x4 + 1)), (3, .int (jmin x3 (rI μ 123 (ix x4)))), (0, .ref (wb (zw Z) + 120)), (1, .int x1), (2, .int x2)] C dX0_hourHeard_53 4 rfl (in_1 _) (by decide) rfl ?_
      refine r_goto 19 C dX0_hourHeard_56 (by decide) ?_
      refine r_sub [(0, .ref (wb (zw Z) + 120)), (1, .int x1), (2, .int x2), (3, .int (jmin x3 (rI μ 123 (ix x4)))), (4, .int (x4 + 1))] [2, 3, 4, 1, 0] rfl ?_
      exact kin (jmin x3 (rI μ 123 (ix x4))) (x4 + 1) (Option.some.inj h).symm
def fX0_hourHeard (n : Nat) (x1 : Int32) (μ : Mu) : Option (Int32) := bnd (fX8_audible n 34 2 x1 μ) fun u2 => bnd (lp n (sX0_hourHeard_19 n x1 u2 μ) (100000, 0)) fun q => match q with | u6 => bnd (fX0_hourHeardFrom n u6 x1 μ) fun u9 => some u9
set_option maxRecDepth 100000 in
set_option maxHeartbeats 4000000 in
theorem tX0_hourHeard {l : Launch} {w : WP} {sh : List Sh} {R : Rf} {μ : Mu} {r : Int32} (hY : LY sh R) (n : Nat) (x1 : Int32)  (h : fX0_hourHeard n x1 μ = some r) : CM l w yX0_hourHeard cX0_hourHeard 5 (some .int) 2 0 0 sh R [.ref (wb w + 120), .int x1] μ (some (.int r)) sh R μ := by
  refine CM.of (plainFor_of_name pf_X0) (Nat.le_of_ble_eq_true rfl) fun Z C hr _ hR hw hl hE => ?_
  subst hw; subst hl
  have C : CX Z cX0_hourHeard 5 RX0 := C
  show Wm Z (0, 0, sh, R) μ 0 [(0, .ref (wb (zw Z) + 120)), (1, .int x1)] []
  unfold fX0_hourHeard at h
  refine r_aload_n C dX0_hourHeard_0 0 rfl ?_
  refine r_getR C flX0_29 dX0_hourHeard_1 (ly120 hY) rfl (lr120_2 hY) ?_
  refine r_aload_n C dX0_hourHeard_4 0 rfl ?_
  refine r_getR C flX0_21 dX0_hourHeard_5 (ly120 hY) rfl (lr120_0 hY) ?_
  refine r_iload_n C dX0_hourHeard_8 1 rfl ?_
  obtain ⟨u2, e1, h⟩ := bnd_inv h
  refine r_cVi (As := [.ref (wb (zw Z) + 2), .int x1]) (rest := []) C hR mlX0_102 dX0_hourHeard_9 (tX8_audible hY n 34 2 x1 (lyNow hY) (lySea hY) e1) rfl rfl (isSt_0 (lyNow hY)) rfl (nle rfl) (nle rfl) (nle rfl) ?_
  refine r_istore_n [(2, .int u2), (0, .ref (wb (zw Z) + 120)), (1, .int x1)] C dX0_hourHeard_12 rfl (by decide) rfl ?_
  refine r_ldc C dX0_hourHeard_13 kkX0_76 ?_
  refine r_istore_n [(3, .int 100000), (2, .int u2), (0, .ref (wb (zw Z) + 120)), (1, .int x1)] C dX0_hourHeard_15 rfl (by decide) rfl ?_
  refine r_iconst C dX0_hourHeard_16 ic_0 ?_
  refine r_istore [(4, .int 0), (3, .int 100000), (2, .int u2), (0, .ref (wb (zw Z) + 120)), (1, .int x1)] C dX0_hourHeard_17 (by decide) rfl ?_
  refine r_sub [(0, .ref (wb (zw Z) + 120)), (1, .int x1), (2, .int u2), (3, .int 100000), (4, .int 0)] [3, 4, 2, 1, 0] rfl ?_
  obtain ⟨u6, e7, h⟩ := bnd_inv h
  refine lp_all (sX0_hourHeard_19 n x1 u2 μ) (fun q => match q with | (z3, z4) => Wm Z (0, 0, sh, R) μ 19 [(0, .ref (wb (zw Z) + 120)), (1, .int x1), (2, .int u2), (3, .int z3), (4, .int z4)] []) (fun q => match q with | z3 => Wm Z (0, 0, sh, R) μ 59 [(0, .ref (wb (zw Z) + 120)), (1, .int x1), (3, .int z3)] []) (fun q o h kin kex => ?_) n (100000, 0) u6 e7 ?_
  · obtain ⟨z3, z4⟩ := q; exact lX0_hourHeard_19 C hR hY n   x1 u2 μ z3 z4 h (fun z3 z4 e => kin (z3, z4) e) (fun z3 e => kex z3 e)
  show Wm Z (0, 0, sh, R) μ 59 [(0, .ref (wb (zw Z) + 120)), (1, .int x1), (3, .int u6)] []
  refine r_aload_n C dX0_hourHeard_59 0 rfl ?_
  refine r_iload_n C dX0_hourHeard_60 2 rfl ?_
  refine r_iload_n C dX0_hourHeard_61 1 rfl ?_
  obtain ⟨u9, e8, h⟩ := bnd_inv h
  refine r_cVi (As := [.int u6, .int x1]) (rest := []) C hR mlX0_106 dX0_hourHeard_62 (tX0_hourHeardFrom hY n u6 x1  e8) rfl rfl (ly120 hY) rfl (nle rfl) (nle rfl) (nle rfl) ?_
  have h := Option.some.inj h
  subst h
  exact r_iret C dX0_hourHeard_65 hr hE
def sX0_hearersBy_4 (n : Nat) (x1 : Int32) (μ : Mu) : Int32 × Int32 → Option ((Int32 × Int32) ⊕ (Int32)) := fun q => match q with | (x2, x3) => if (rI μ 2 2) ≤ x3 then (some (.inr x2)) else (bnd (fX0_hourHeard n x3 μ) fun u3 => if x1 < u3 then (some (.inl (x2, x3 + 1))) else (some (.inl (x2 ||| (shl 1 x3), x3 + 1))))
set_option maxRecDepth 100000 in
set_option maxHeartbeats 4000000 in
theorem lX0_hearersBy_4 {Z : ZC} {sh : List Sh} {R : Rf} {o : (Int32 × Int32) ⊕ (Int32)} (C : CX Z cX0_hearersBy 4 RX0) (hR : zR Z = rm 3 0 0) (hY : LY sh R) (n : Nat) (x1 : Int32) (μ : Mu) (x2 : Int32) (x3 : Int32) (h : sX0_hearersBy_4 n x1 μ (x2, x3) = some o) (kin : ∀ (x2 : Int32) (x3 : Int32), o = .inl (x2, x3) → Wm Z (0, 0, sh, R) μ 4 [(0, .ref (wb (zw Z) + 120)), (1, .int x1), (2, .int x2), (3, .int x3)] []) (kex0 : ∀ (x2 : Int32), o = .inr x2 → Wm Z (0, 0, sh, R) μ 36 [(2, .int x2)] []) : Wm Z (0, 0, sh, R) μ 4 [(0, .ref (wb (zw Z) + 120)), (1, .int x1), (2, .int x2), (3, .int x3)] [] := by
  unfold sX0_hearersBy_4 at h
  refine r_iload_n C dX0_hearersBy_4 3 rfl ?_
  refine r_aload_n C dX0_hearersBy_5 0 rfl ?_
  refine r_getR C flX0_21 dX0_hearersBy_6 (ly120 hY) rfl (lr120_0 hY) ?_
  refine r_getI C flX0_73 dX0_hearersBy_9 (isSea_0 (lySea hY)) rfl ?_
  refine r_icmp_ge 36 C dX0_hearersBy_12 (by decide) (fun c1 => ?_) (fun c1 => ?_)
  · have h := (ite_inv h).1 c1
    refine r_sub [(2, .int x2)] [2] rfl ?_
    exact kex0 x2 (Option.some.inj h).symm
  · have h := (ite_inv h).2 c1
    refine r_aload_n C dX0_hearersBy_15 0 rfl ?_
    refine r_iload_n C dX0_hearersBy_16 3 rfl ?_
    obtain ⟨u3, e2, h⟩ := bnd_inv h
    refine r_cVi (As := [.int x3]) (rest := []) C hR mlX0_109 dX0_hearersBy_17 (tX0_hourHeard hY n x3  e2) rfl rfl (ly120 hY) rfl (nle rfl) (nle rfl) (nle rfl) ?_
    refine r_iload_n C dX0_hearersBy_20 1 rfl ?_
    refine r_icmp_gt 30 C dX0_hearersBy_21 (by decide) (fun c4 => ?_) (fun c4 => ?_)
    · have h := (ite_inv h).1 c4
      refine r_iinc [(3, .int (x3 + 1)), (0, .ref (wb (zw Z) + 120)), (1, .int x1), (2, .int x2)] C dX0_hearersBy_30 3 rfl (in_1 _) (by decide) rfl ?_
      refine r_goto 4 C dX0_hearersBy_33 (by decide) ?_
      refine r_sub [(0, .ref (wb (zw Z) + 120)), (1, .int x1), (2, .int x2), (3, .int (x3 + 1))] [1, 2, 3, 0] rfl ?_
      exact kin x2 (x3 + 1) (Option.some.inj h).symm
    · have h := (ite_inv h).2 c4
      refine r_iload_n C dX0_hearersBy_24 2 rfl ?_
      refine r_iconst C dX0_hearersBy_25 ic_1 ?_
      refine r_iload_n C dX0_hearersBy_26 3 rfl ?_
      refine r_ishl C dX0_hearersBy_27 ?_
      refine r_ior C dX0_hearersBy_28 ?_
      refine r_istore_n [(2, .int (x2 ||| (shl 1 x3))), (0, .ref (wb (zw Z) + 120)), (1, .int x1), (3, .int x3)] C dX0_hearersBy_29 rfl (by decide) rfl ?_
      refine r_iinc [(3, .int (x3 + 1)), (2, .int (x2 ||| (shl 1 x3))), (0, .ref (wb (zw Z) + 120)), (1, .int x1)] C dX0_hearersBy_30 3 rfl (in_1 _) (by decide) rfl ?_
      refine r_goto 4 C dX0_hearersBy_33 (by decide) ?_
      refine r_sub [(0, .ref (wb (zw Z) + 120)), (1, .int x1), (2, .int (x2 ||| (shl 1 x3))), (3, .int (x3 + 1))] [2, 3, 1, 0] rfl ?_
      exact kin (x2 ||| (shl 1 x3)) (x3 + 1) (Option.some.inj h).symm
def fX0_hearersBy (n : Nat) (x1 : Int32) (μ : Mu) : Option (Int32) := bnd (lp n (sX0_hearersBy_4 n x1 μ) (0, 0)) fun q => match q with | u5 => some u5
set_option maxRecDepth 100000 in
set_option maxHeartbeats 4000000 in
theorem tX0_hearersBy {l : Launch} {w : WP} {sh : List Sh} {R : Rf} {μ : Mu} {r : Int32} (hY : LY sh R) (n : Nat) (x1 : Int32)  (h : fX0_hearersBy n x1 μ = some r) : CM l w yX0_hearersBy cX0_hearersBy 4 (some .int) 3 0 0 sh R [.ref (wb w + 120), .int x1] μ (some (.int r)) sh R μ := by
  refine CM.of (plainFor_of_name pf_X0) (Nat.le_of_ble_eq_true rfl) fun Z C hr _ hR hw hl hE => ?_
  subst hw; subst hl
  have C : CX Z cX0_hearersBy 4 RX0 := C
  show Wm Z (0, 0, sh, R) μ 0 [(0, .ref (wb (zw Z) + 120)), (1, .int x1)] []
  unfold fX0_hearersBy at h
  refine r_iconst C dX0_hearersBy_0 ic_0 ?_
  refine r_istore_n [(2, .int 0), (0, .ref (wb (zw Z) + 120)), (1, .int x1)] C dX0_hearersBy_1 rfl (by decide) rfl ?_
  refine r_iconst C dX0_hearersBy_2 ic_0 ?_
  refine r_istore_n [(3, .int 0), (2, .int 0), (0, .ref (wb (zw Z) + 120)), (1, .int x1)] C dX0_hearersBy_3 rfl (by decide) rfl ?_
  refine r_sub [(0, .ref (wb (zw Z) + 120)), (1, .int x1), (2, .int 0), (3, .int 0)] [2, 3, 1, 0] rfl ?_
  obtain ⟨u5, e6, h⟩ := bnd_inv h
  refine lp_all (sX0_hearersBy_4 n x1 μ) (fun q => match q with | (z2, z3) => Wm Z (0, 0, sh, R) μ 4 [(0, .ref (wb (zw Z) + 120)), (1, .int x1), (2, .int z2), (3, .int z3)] []) (fun q => match q with | z2 => Wm Z (0, 0, sh, R) μ 36 [(2, .int z2)] []) (fun q o h kin kex => ?_) n (0, 0) u5 e6 ?_
  · obtain ⟨z2, z3⟩ := q; exact lX0_hearersBy_4 C hR hY n   x1 μ z2 z3 h (fun z2 z3 e => kin (z2, z3) e) (fun z2 e => kex z2 e)
  show Wm Z (0, 0, sh, R) μ 36 [(2, .int u5)] []
  refine r_iload_n C dX0_hearersBy_36 0 rfl ?_
  have h := Option.some.inj h
  subst h
  exact r_iret C dX0_hearersBy_37 hr hE
def sX0_fewestToShut_39 (n : Nat) (x1 : Int32) (x2 : Int32) (x3 : Int32) (x4 : Int32) : Int32 × Int32 × Mu → Option ((Int32 × Int32 × Mu) ⊕ (Int32 × Mu)) := fun q => match q with | (x5, x6, μ) => if x4 ≤ x6 then (some (.inr (x5, μ))) else (if (bitc x5) ≤ (bitc x6) then (some (.inl (x5, x6 + 1, μ))) else (bnd (fX0_send n x1 0 x6 μ) fun m9 => bnd (fX0_hourHeard n x2 m9) fun u11 => some (.inl ((if x3 < u11 then x6 else x5), x6 + 1, m9))))
set_option maxRecDepth 100000 in
set_option maxHeartbeats 4000000 in
theorem lX0_fewestToShut_39 {Z : ZC} {sh : List Sh} {R : Rf} {o : (Int32 × Int32 × Mu) ⊕ (Int32 × Mu)} (C : CX Z cX0_fewestToShut 7 RX0) (hR : zR Z = rm 3 0 0) (hY : LY sh R) (n : Nat) (x1 : Int32) (x2 : Int32) (x3 : Int32) (x4 : Int32) (x5 : Int32) (x6 : Int32) (μ : Mu) (h : sX0_fewestToShut_39 n x1 x2 x3 x4 (x5, x6, μ) = some o) (kin : ∀ (x5 : Int32) (x6 : Int32) (μ : Mu), o = .inl (x5, x6, μ) → Wm Z (0, 0, sh, R) μ 39 [(0, .ref (wb (zw Z) + 120)), (1, .int x1), (2, .int x2), (3, .int x3), (4, .int x4), (5, .int x5), (6, .int x6)] []) (kex0 : ∀ (x5 : Int32) (μ : Mu), o = .inr (x5, μ) → Wm Z (0, 0, sh, R) μ 91 [(5, .int x5)] []) : Wm Z (0, 0, sh, R) μ 39 [(0, .ref (wb (zw Z) + 120)), (1, .int x1), (2, .int x2), (3, .int x3), (4, .int x4), (5, .int x5), (6, .int x6)] [] := by
  unfold sX0_fewestToShut_39 at h
  refine r_iload C dX0_fewestToShut_39 6 rfl ?_
  refine r_iload C dX0_fewestToShut_41 4 rfl ?_
  refine r_icmp_ge 91 C dX0_fewestToShut_43 (by decide) (fun c6 => ?_) (fun c6 => ?_)
  · have h := (ite_inv h).1 c6
    refine r_sub [(5, .int x5)] [5] rfl ?_
    exact kex0 x5 μ (Option.some.inj h).symm
  · have h := (ite_inv h).2 c6
    refine r_iload C dX0_fewestToShut_46 6 rfl ?_
    refine r_cSi (As := [.int x6]) (rest := []) C hR mlX0_116 dX0_fewestToShut_48 (t_bitc hY) rfl rfl (nle rfl) (nle rfl) (nle rfl) ?_
    refine r_iload C dX0_fewestToShut_51 5 rfl ?_
    refine r_cSi (As := [.int x5]) (rest := [.int (bitc x6)]) C hR mlX0_116 dX0_fewestToShut_53 (t_bitc hY) rfl rfl (nle rfl) (nle rfl) (nle rfl) ?_
    refine r_icmp_ge 85 C dX0_fewestToShut_56 (by decide) (fun c7 => ?_) (fun c7 => ?_)
    · have h := (ite_inv h).1 c7
      refine r_iinc [(6, .int (x6 + 1)), (0, .ref (wb (zw Z) + 120)), (1, .int x1), (2, .int x2), (3, .int x3), (4, .int x4), (5, .int x5)] C dX0_fewestToShut_85 6 rfl (in_1 _) (by decide) rfl ?_
      refine r_goto 39 C dX0_fewestToShut_88 (by decide) ?_
      refine r_sub [(0, .ref (wb (zw Z) + 120)), (1, .int x1), (2, .int x2), (3, .int x3), (4, .int x4), (5, .int x5), (6, .int (x6 + 1))] [1, 2, 3, 4, 5, 6, 0] rfl ?_
      exact kin x5 (x6 + 1) μ (Option.some.inj h).symm
    · have h := (ite_inv h).2 c7
      refine r_aload_n C dX0_fewestToShut_59 0 rfl ?_
      refine r_iload_n C dX0_fewestToShut_60 1 rfl ?_
      refine r_iconst C dX0_fewestToShut_61 ic_0 ?_
      refine r_iload C dX0_fewestToShut_62 6 rfl ?_
      obtain ⟨m9, e8, h⟩ := bnd_inv h
      refine r_cVv (As := [.int x1, .int 0, .int x6]) (rest := []) C hR mlX0_112 dX0_fewestToShut_64 (tX0_send hY n x1 0 x6  e8) rfl rfl (ly120 hY) rfl (nle rfl) (nle rfl) (nle rfl) ?_
      refine r_aload_n C dX0_fewestToShut_67 0 rfl ?_
      refine r_iload_n C dX0_fewestToShut_68 2 rfl ?_
      obtain ⟨u11, e10, h⟩ := bnd_inv h
      refine r_cVi (As := [.int x2]) (rest := []) C hR mlX0_109 dX0_fewestToShut_69 (tX0_hourHeard hY n x2  e10) rfl rfl (ly120 hY) rfl (nle rfl) (nle rfl) (nle rfl) ?_
      refine r_iload_n C dX0_fewestToShut_72 3 rfl ?_
      suffices hj : Wm Z (0, 0, sh, R) m9 83 [(0, .ref (wb (zw Z) + 120)), (1, .int x1), (2, .int x2), (3, .int x3), (4, .int x4), (5, .int x5), (6, .int x6)] [.int (if x3 < u11 then x6 else x5)] by
        refine r_icmp_gt 81 C dX0_fewestToShut_73 (by decide) (fun c12 => ?_) (fun c12 => ?_)
        · refine r_iload C dX0_fewestToShut_81 6 rfl ?_
          exact sel_t c12 hj
        · refine r_iload C dX0_fewestToShut_76 5 rfl ?_
          refine r_goto 83 C dX0_fewestToShut_78 (by decide) ?_
          exact sel_f c12 hj
      refine r_istore [(5, .int (if x3 < u11 then x6 else x5)), (0, .ref (wb (zw Z) + 120)), (1, .int x1), (2, .int x2), (3, .int x3), (4, .int x4), (6, .int x6)] C dX0_fewestToShut_83 (by decide) rfl ?_
      refine r_iinc [(6, .int (x6 + 1)), (5, .int (if x3 < u11 then x6 else x5)), (0, .ref (wb (zw Z) + 120)), (1, .int x1), (2, .int x2), (3, .int x3), (4, .int x4)] C dX0_fewestToShut_85 6 rfl (in_1 _) (by decide) rfl ?_
      refine r_goto 39 C dX0_fewestToShut_88 (by decide) ?_
      refine r_sub [(0, .ref (wb (zw Z) + 120)), (1, .int x1), (2, .int x2), (3, .int x3), (4, .int x4), (5, .int (if x3 < u11 then x6 else x5)), (6, .int (x6 + 1))] [2, 3, 4, 5, 6, 1, 0] rfl ?_
      exact kin (if x3 < u11 then x6 else x5) (x6 + 1) m9 (Option.some.inj h).symm
def fX0_fewestToShut (n : Nat) (x1 : Int32) (x2 : Int32) (x3 : Int32) (μ : Mu) : Option (Int32 × Mu) := bnd (fX0_send n x1 0 ((shl 1 (rI μ 2 1)) - 1) μ) fun m2 => bnd (fX0_hourHeard n x2 m2) fun u4 => if x3 < u4 then (bnd (lp n (sX0_fewestToShut_39 n x1 x2 x3 ((shl 1 (rI μ 2 1)) - 1)) ((shl 1 (rI μ 2 1)) - 1, 0, m2)) fun q => match q with | (u13, m14) => some (u13, m14)) else (some ((-1), m2))
set_option maxRecDepth 100000 in
set_option maxHeartbeats 4000000 in
theorem tX0_fewestToShut {l : Launch} {w : WP} {sh : List Sh} {R : Rf} {μ : Mu} {r : Int32} {μ' : Mu} (hY : LY sh R) (n : Nat) (x1 : Int32) (x2 : Int32) (x3 : Int32)  (h : fX0_fewestToShut n x1 x2 x3 μ = some (r, μ')) : CM l w yX0_fewestToShut cX0_fewestToShut 7 (some .int) 3 0 0 sh R [.ref (wb w + 120), .int x1, .int x2, .int x3] μ (some (.int r)) sh R μ' := by
  refine CM.of (plainFor_of_name pf_X0) (Nat.le_of_ble_eq_true rfl) fun Z C hr _ hR hw hl hE => ?_
  subst hw; subst hl
  have C : CX Z cX0_fewestToShut 7 RX0 := C
  show Wm Z (0, 0, sh, R) μ 0 [(0, .ref (wb (zw Z) + 120)), (1, .int x1), (2, .int x2), (3, .int x3)] []
  unfold fX0_fewestToShut at h
  refine r_iconst C dX0_fewestToShut_0 ic_1 ?_
  refine r_aload_n C dX0_fewestToShut_1 0 rfl ?_
  refine r_getR C flX0_21 dX0_fewestToShut_2 (ly120 hY) rfl (lr120_0 hY) ?_
  refine r_getI C flX0_64 dX0_fewestToShut_5 (isSea_0 (lySea hY)) rfl ?_
  refine r_ishl C dX0_fewestToShut_8 ?_
  refine r_iconst C dX0_fewestToShut_9 ic_1 ?_
  refine r_isub C dX0_fewestToShut_10 ?_
  refine r_istore [(4, .int ((shl 1 (rI μ 2 1)) - 1)), (0, .ref (wb (zw Z) + 120)), (1, .int x1), (2, .int x2), (3, .int x3)] C dX0_fewestToShut_11 (by decide) rfl ?_
  refine r_aload_n C dX0_fewestToShut_13 1 rfl ?_
  refine r_iload_n C dX0_fewestToShut_14 2 rfl ?_
  refine r_iconst C dX0_fewestToShut_15 ic_0 ?_
  refine r_iload C dX0_fewestToShut_16 0 rfl ?_
  obtain ⟨m2, e1, h⟩ := bnd_inv h
  refine r_cVv (As := [.int x1, .int 0, .int ((shl 1 (rI μ 2 1)) - 1)]) (rest := []) C hR mlX0_112 dX0_fewestToShut_18 (tX0_send hY n x1 0 ((shl 1 (rI μ 2 1)) - 1)  e1) rfl rfl (ly120 hY) rfl (nle rfl) (nle rfl) (nle rfl) ?_
  refine r_aload_n C dX0_fewestToShut_21 1 rfl ?_
  refine r_iload_n C dX0_fewestToShut_22 3 rfl ?_
  obtain ⟨u4, e3, h⟩ := bnd_inv h
  refine r_cVi (As := [.int x2]) (rest := []) C hR mlX0_109 dX0_fewestToShut_23 (tX0_hourHeard hY n x2  e3) rfl rfl (ly120 hY) rfl (nle rfl) (nle rfl) (nle rfl) ?_
  refine r_iload_n C dX0_fewestToShut_26 4 rfl ?_
  refine r_icmp_gt 32 C dX0_fewestToShut_27 (by decide) (fun c5 => ?_) (fun c5 => ?_)
  · have h := (ite_inv h).1 c5
    refine r_iload C dX0_fewestToShut_32 0 rfl ?_
    refine r_istore [(5, .int ((shl 1 (rI μ 2 1)) - 1)), (4, .int ((shl 1 (rI μ 2 1)) - 1)), (0, .ref (wb (zw Z) + 120)), (1, .int x1), (2, .int x2), (3, .int x3)] C dX0_fewestToShut_34 (by decide) rfl ?_
    refine r_iconst C dX0_fewestToShut_36 ic_0 ?_
    refine r_istore [(6, .int 0), (5, .int ((shl 1 (rI μ 2 1)) - 1)), (4, .int ((shl 1 (rI μ 2 1)) - 1)), (0, .ref (wb (zw Z) + 120)), (1, .int x1), (2, .int x2), (3, .int x3)] C dX0_fewestToShut_37 (by decide) rfl ?_
    refine r_sub [(0, .ref (wb (zw Z) + 120)), (1, .int x1), (2, .int x2), (3, .int x3), (4, .int ((shl 1 (rI μ 2 1)) - 1)), (5, .int ((shl 1 (rI μ 2 1)) - 1)), (6, .int 0)] [3, 4, 5, 6, 2, 1, 0] rfl ?_
    obtain ⟨⟨u13, m14⟩, e15, h⟩ := bnd_inv h
    refine lp_all (sX0_fewestToShut_39 n x1 x2 x3 ((shl 1 (rI μ 2 1)) - 1)) (fun q => match q with | (z5, z6, ν) => Wm Z (0, 0, sh, R) (ν) 39 [(0, .ref (wb (zw Z) + 120)), (1, .int x1), (2, .int x2), (3, .int x3), (4, .int ((shl 1 (rI μ 2 1)) - 1)), (5, .int z5), (6, .int z6)] []) (fun q => match q with | (z5, ν) => Wm Z (0, 0, sh, R) (ν) 91 [(5, .int z5)] []) (fun q o h kin kex => ?_) n ((shl 1 (rI μ 2 1)) - 1, 0, m2) (u13, m14) e15 ?_
    · obtain ⟨z5, z6, ν⟩ := q; exact lX0_fewestToShut_39 C hR hY n   x1 x2 x3 ((shl 1 (rI μ 2 1)) - 1) z5 z6 ν h (fun z5 z6 ν e => kin (z5, z6, ν) e) (fun z5 ν e => kex (z5, ν) e)
    show Wm Z (0, 0, sh, R) m14 91 [(5, .int u13)] []
    refine r_iload C dX0_fewestToShut_91 0 rfl ?_
    obtain ⟨h1, h2⟩ := Prod.mk.inj (Option.some.inj h)
    subst h1; subst h2
    exact r_iret C dX0_fewestToShut_93 hr hE
  · have h := (ite_inv h).2 c5
    refine r_iconst C dX0_fewestToShut_30 ic_m1 ?_
    obtain ⟨h1, h2⟩ := Prod.mk.inj (Option.some.inj h)
    subst h1; subst h2
    exact r_iret C dX0_fewestToShut_31 hr hE
def sX0_shellsToTake_43 (n : Nat) (x1 : Int32) (x2 : Int32) (μ : Mu) : Int32 × Int32 → Option ((Int32 × Int32) ⊕ (Int32)) := fun q => match q with | (x3, x4) => if (rI μ 2 3) ≤ x4 then (some (.inr x3)) else (gd (ib x4 8) (if (rI μ 35 (ix x4)) = x1 then (gd (ib x4 8) (gd (ib (rI μ 7 (ix x4)) 6) (bnd (fX0_hourHeardFrom n (rI μ 123 (ix (rI μ 7 (ix x4)))) x1 μ) fun u9 => if x2 < u9 then (some (.inl (x3, x4 + 1))) else (some (.inl (x3 ||| (shl 1 x4), x4 + 1)))))) else (some (.inl (x3, x4 + 1)))))
set_option maxRecDepth 100000 in
set_option maxHeartbeats 4000000 in
theorem lX0_shellsToTake_43 {Z : ZC} {sh : List Sh} {R : Rf} {o : (Int32 × Int32) ⊕ (Int32)} (C : CX Z cX0_shellsToTake 5 RX0) (hR : zR Z = rm 2 0 0) (hY : LY sh R) (n : Nat) (x1 : Int32) (x2 : Int32) (μ : Mu) (x3 : Int32) (x4 : Int32) (h : sX0_shellsToTake_43 n x1 x2 μ (x3, x4) = some o) (kin : ∀ (x3 : Int32) (x4 : Int32), o = .inl (x3, x4) → Wm Z (0, 0, sh, R) μ 43 [(0, .ref (wb (zw Z) + 120)), (1, .int x1), (2, .int x2), (3, .int x3), (4, .int x4)] []) (kex0 : ∀ (x3 : Int32), o = .inr x3 → Wm Z (0, 0, sh, R) μ 106 [(3, .int x3)] []) : Wm Z (0, 0, sh, R) μ 43 [(0, .ref (wb (zw Z) + 120)), (1, .int x1), (2, .int x2), (3, .int x3), (4, .int x4)] [] := by
  unfold sX0_shellsToTake_43 at h
  refine r_iload C dX0_shellsToTake_43 4 rfl ?_
  refine r_aload_n C dX0_shellsToTake_45 0 rfl ?_
  refine r_getR C flX0_21 dX0_shellsToTake_46 (ly120 hY) rfl (lr120_0 hY) ?_
  refine r_getI C flX0_124 dX0_shellsToTake_49 (isSea_0 (lySea hY)) rfl ?_
  refine r_icmp_ge 106 C dX0_shellsToTake_52 (by decide) (fun c3 => ?_) (fun c3 => ?_)
  · have h := (ite_inv h).1 c3
    refine r_sub [(3, .int x3)] [3] rfl ?_
    exact kex0 x3 (Option.some.inj h).symm
  · have h := (ite_inv h).2 c3
    refine r_aload_n C dX0_shellsToTake_55 0 rfl ?_
    refine r_getR C flX0_29 dX0_shellsToTake_56 (ly120 hY) rfl (lr120_2 hY) ?_
    refine r_getR C flX0_127 dX0_shellsToTake_59 (isSt_0 (lyNow hY)) rfl (isSt_r4 (lyNow hY)) ?_
    refine r_iload C dX0_shellsToTake_62 4 rfl ?_
    obtain ⟨b4, h⟩ := gd_inv h
    refine r_iald C dX0_shellsToTake_64 (isSt_1 (lyNow hY)) b4 ?_
    refine r_iload_n C dX0_shellsToTake_65 1 rfl ?_
    refine r_icmp_ne 100 C dX0_shellsToTake_66 (by decide) (fun c5 => ?_) (fun c5 => ?_)
    · have h := (ite_inv h).2 c5
      refine r_iinc [(4, .int (x4 + 1)), (0, .ref (wb (zw Z) + 120)), (1, .int x1), (2, .int x2), (3, .int x3)] C dX0_shellsToTake_100 4 rfl (in_1 _) (by decide) rfl ?_
      refine r_goto 43 C dX0_shellsToTake_103 (by decide) ?_
      refine r_sub [(0, .ref (wb (zw Z) + 120)), (1, .int x1), (2, .int x2), (3, .int x3), (4, .int (x4 + 1))] [1, 2, 3, 4, 0] rfl ?_
      exact kin x3 (x4 + 1) (Option.some.inj h).symm
    · have h := (ite_inv h).1 c5
      refine r_aload_n C dX0_shellsToTake_69 0 rfl ?_
      refine r_aload_n C dX0_shellsToTake_70 0 rfl ?_
      refine r_getR C flX0_18 dX0_shellsToTake_71 (ly120 hY) rfl (lr120_5 hY) ?_
      refine r_aload_n C dX0_shellsToTake_74 0 rfl ?_
      refine r_getR C flX0_21 dX0_shellsToTake_75 (ly120 hY) rfl (lr120_0 hY) ?_
      refine r_getR C flX0_130 dX0_shellsToTake_78 (isSea_0 (lySea hY)) rfl (isSea_r12 (lySea hY)) ?_
      refine r_iload C dX0_shellsToTake_81 4 rfl ?_
      obtain ⟨b6, h⟩ := gd_inv h
      refine r_iald C dX0_shellsToTake_83 (isSea_5 (lySea hY)) b6 ?_
      obtain ⟨b7, h⟩ := gd_inv h
      refine r_iald C dX0_shellsToTake_84 (ly123 hY) b7 ?_
      refine r_iload_n C dX0_shellsToTake_85 1 rfl ?_
      obtain ⟨u9, e8, h⟩ := bnd_inv h
      refine r_cVi (As := [.int (rI μ 123 (ix (rI μ 7 (ix x4)))), .int x1]) (rest := []) C hR mlX0_106 dX0_shellsToTake_86 (tX0_hourHeardFrom hY n (rI μ 123 (ix (rI μ 7 (ix x4)))) x1  e8) rfl rfl (ly120 hY) rfl (nle rfl) (nle rfl) (nle rfl) ?_
      refine r_iload_n C dX0_shellsToTake_89 2 rfl ?_
      refine r_icmp_gt 100 C dX0_shellsToTake_90 (by decide) (fun c10 => ?_) (fun c10 => ?_)
      · have h := (ite_inv h).1 c10
        refine r_iinc [(4, .int (x4 + 1)), (0, .ref (wb (zw Z) + 120)), (1, .int x1), (2, .int x2), (3, .int x3)] C dX0_shellsToTake_100 4 rfl (in_1 _) (by decide) rfl ?_
        refine r_goto 43 C dX0_shellsToTake_103 (by decide) ?_
        refine r_sub [(0, .ref (wb (zw Z) + 120)), (1, .int x1), (2, .int x2), (3, .int x3), (4, .int (x4 + 1))] [1, 2, 3, 4, 0] rfl ?_
        exact kin x3 (x4 + 1) (Option.some.inj h).symm
      · have h := (ite_inv h).2 c10
        refine r_iload_n C dX0_shellsToTake_93 3 rfl ?_
        refine r_iconst C dX0_shellsToTake_94 ic_1 ?_
        refine r_iload C dX0_shellsToTake_95 4 rfl ?_
        refine r_ishl C dX0_shellsToTake_97 ?_
        refine r_ior C dX0_shellsToTake_98 ?_
        refine r_istore_n [(3, .int (x3 ||| (shl 1 x4))), (0, .ref (wb (zw Z) + 120)), (1, .int x1), (2, .int x2), (4, .int x4)] C dX0_shellsToTake_99 rfl (by decide) rfl ?_
        refine r_iinc [(4, .int (x4 + 1)), (3, .int (x3 ||| (shl 1 x4))), (0, .ref (wb (zw Z) + 120)), (1, .int x1), (2, .int x2)] C dX0_shellsToTake_100 4 rfl (in_1 _) (by decide) rfl ?_
        refine r_goto 43 C dX0_shellsToTake_103 (by decide) ?_
        refine r_sub [(0, .ref (wb (zw Z) + 120)), (1, .int x1), (2, .int x2), (3, .int (x3 ||| (shl 1 x4))), (4, .int (x4 + 1))] [2, 3, 4, 1, 0] rfl ?_
        exact kin (x3 ||| (shl 1 x4)) (x4 + 1) (Option.some.inj h).symm
def jX0_shellsToTake_38 (n : Nat) (x1 : Int32) (x2 : Int32) (μ : Mu) : Option (Int32) := bnd (lp n (sX0_shellsToTake_43 n x1 x2 μ) (0, 0)) fun q => match q with | u11 => some u11
set_option maxRecDepth 100000 in
set_option maxHeartbeats 4000000 in
theorem kX0_shellsToTake_38 {Z : ZC} {sh : List Sh} {R : Rf} {r : Int32} (C : CX Z cX0_shellsToTake 5 RX0) (hR : zR Z = rm 2 0 0) (hY : LY sh R) (n : Nat) (x1 : Int32) (x2 : Int32) (μ : Mu) (h : jX0_shellsToTake_38 n x1 x2 μ = some r) (hr : (zme Z).sig.returnType = (some .int)) (hE : zEnd Z (0, 0, sh, R) μ (some (.int r))) : Wm Z (0, 0, sh, R) μ 38 [(0, .ref (wb (zw Z) + 120)), (1, .int x1), (2, .int x2)] [] := by
  unfold jX0_shellsToTake_38 at h
  refine r_iconst C dX0_shellsToTake_38 ic_0 ?_
  refine r_istore_n [(3, .int 0), (0, .ref (wb (zw Z) + 120)), (1, .int x1), (2, .int x2)] C dX0_shellsToTake_39 rfl (by decide) rfl ?_
  refine r_iconst C dX0_shellsToTake_40 ic_0 ?_
  refine r_istore [(4, .int 0), (3, .int 0), (0, .ref (wb (zw Z) + 120)), (1, .int x1), (2, .int x2)] C dX0_shellsToTake_41 (by decide) rfl ?_
  refine r_sub [(0, .ref (wb (zw Z) + 120)), (1, .int x1), (2, .int x2), (3, .int 0), (4, .int 0)] [2, 3, 4, 1, 0] rfl ?_
  obtain ⟨u11, e12, h⟩ := bnd_inv h
  refine lp_all (sX0_shellsToTake_43 n x1 x2 μ) (fun q => match q with | (z3, z4) => Wm Z (0, 0, sh, R) μ 43 [(0, .ref (wb (zw Z) + 120)), (1, .int x1), (2, .int x2), (3, .int z3), (4, .int z4)] []) (fun q => match q with | z3 => Wm Z (0, 0, sh, R) μ 106 [(3, .int z3)] []) (fun q o h kin kex => ?_) n (0, 0) u11 e12 ?_
  · obtain ⟨z3, z4⟩ := q; exact lX0_shellsToTake_43 C hR hY n   x1 x2 μ z3 z4 h (fun z3 z4 e => kin (z3, z4) e) (fun z3 e => kex z3 e)
  show Wm Z (0, 0, sh, R) μ 106 [(3, .int u11)] []
  refine r_iload_n C dX0_shellsToTake_106 0 rfl ?_
  have h := Option.some.inj h
  subst h
  exact r_iret C dX0_shellsToTake_107 hr hE
def fX0_shellsToTake (n : Nat) (x1 : Int32) (x2 : Int32) (μ : Mu) : Option (Int32) := gd (ib x1 6) (if (rI μ 6 (ix x1)) = (-1) then (jX0_shellsToTake_38 n x1 x2 μ) else (gd (ib x1 6) (gd (ib (rI μ 6 (ix x1)) 6) (bnd (fX0_hourHeardFrom n (rI μ 123 (ix (rI μ 6 (ix x1)))) x1 μ) fun u16 => if x2 < u16 then (jX0_shellsToTake_38 n x1 x2 μ) else (some (-1))))))
set_option maxRecDepth 100000 in
set_option maxHeartbeats 4000000 in
theorem tX0_shellsToTake {l : Launch} {w : WP} {sh : List Sh} {R : Rf} {μ : Mu} {r : Int32} (hY : LY sh R) (n : Nat) (x1 : Int32) (x2 : Int32)  (h : fX0_shellsToTake n x1 x2 μ = some r) : CM l w yX0_shellsToTake cX0_shellsToTake 5 (some .int) 2 0 0 sh R [.ref (wb w + 120), .int x1, .int x2] μ (some (.int r)) sh R μ := by
  refine CM.of (plainFor_of_name pf_X0) (Nat.le_of_ble_eq_true rfl) fun Z C hr _ hR hw hl hE => ?_
  subst hw; subst hl
  have C : CX Z cX0_shellsToTake 5 RX0 := C
  show Wm Z (0, 0, sh, R) μ 0 [(0, .ref (wb (zw Z) + 120)), (1, .int x1), (2, .int x2)] []
  unfold fX0_shellsToTake at h
  refine r_aload_n C dX0_shellsToTake_0 0 rfl ?_
  refine r_getR C flX0_21 dX0_shellsToTake_1 (ly120 hY) rfl (lr120_0 hY) ?_
  refine r_getR C flX0_121 dX0_shellsToTake_4 (isSea_0 (lySea hY)) rfl (isSea_r11 (lySea hY)) ?_
  refine r_iload_n C dX0_shellsToTake_7 1 rfl ?_
  obtain ⟨b1, h⟩ := gd_inv h
  refine r_iald C dX0_shellsToTake_8 (isSea_4 (lySea hY)) b1 ?_
  refine r_iconst C dX0_shellsToTake_9 ic_m1 ?_
  refine r_icmp_eq 38 C dX0_shellsToTake_10 (by decide) (fun c2 => ?_) (fun c2 => ?_)
  · have h := (ite_inv h).1 c2
    exact kX0_shellsToTake_38 C hR hY n   x1 x2 μ h hr hE
  · have h := (ite_inv h).2 c2
    refine r_aload_n C dX0_shellsToTake_13 0 rfl ?_
    refine r_aload_n C dX0_shellsToTake_14 0 rfl ?_
    refine r_getR C flX0_18 dX0_shellsToTake_15 (ly120 hY) rfl (lr120_5 hY) ?_
    refine r_aload_n C dX0_shellsToTake_18 0 rfl ?_
    refine r_getR C flX0_21 dX0_shellsToTake_19 (ly120 hY) rfl (lr120_0 hY) ?_
    refine r_getR C flX0_121 dX0_shellsToTake_22 (isSea_0 (lySea hY)) rfl (isSea_r11 (lySea hY)) ?_
    refine r_iload_n C dX0_shellsToTake_25 1 rfl ?_
    obtain ⟨b13, h⟩ := gd_inv h
    refine r_iald C dX0_shellsToTake_26 (isSea_4 (lySea hY)) b13 ?_
    obtain ⟨b14, h⟩ := gd_inv h
    refine r_iald C dX0_shellsToTake_27 (ly123 hY) b14 ?_
    refine r_iload_n C dX0_shellsToTake_28 1 rfl ?_
    obtain ⟨u16, e15, h⟩ := bnd_inv h
    refine r_cVi (As := [.int (rI μ 123 (ix (rI μ 6 (ix x1)))), .int x1]) (rest := []) C hR mlX0_106 dX0_shellsToTake_29 (tX0_hourHeardFrom hY n (rI μ 123 (ix (rI μ 6 (ix x1)))) x1  e15) rfl rfl (ly120 hY) rfl (nle rfl) (nle rfl) (nle rfl) ?_
    refine r_iload_n C dX0_shellsToTake_32 2 rfl ?_
    refine r_icmp_gt 38 C dX0_shellsToTake_33 (by decide) (fun c17 => ?_) (fun c17 => ?_)
    · have h := (ite_inv h).1 c17
      exact kX0_shellsToTake_38 C hR hY n   x1 x2 μ h hr hE
    · have h := (ite_inv h).2 c17
      refine r_iconst C dX0_shellsToTake_36 ic_m1 ?_
      have h := Option.some.inj h
      subst h
      exact r_iret C dX0_shellsToTake_37 hr hE
def fX1_forget (n : Nat)  (μ : Mu) : Option (Mu) := some (wI μ 48 2 0)
set_option maxRecDepth 100000 in
set_option maxHeartbeats 4000000 in
theorem tX1_forget {l : Launch} {w : WP} {sh : List Sh} {R : Rf} {μ : Mu} {μ' : Mu} (hY : LY sh R) (n : Nat)   (h : fX1_forget n μ = some μ') : CM l w yX1_forget cX1_forget 1 none 0 0 0 sh R [.ref (wb w + 48)] μ none sh R μ' := by
  refine CM.of (plainFor_of_name pf_X1) (Nat.le_of_ble_eq_true rfl) fun Z C hr _ hR hw hl hE => ?_
  subst hw; subst hl
  have C : CX Z cX1_forget 1 RX1 := C
  show Wm Z (0, 0, sh, R) μ 0 [(0, .ref (wb (zw Z) + 48))] []
  unfold fX1_forget at h
  refine r_aload_n C dX1_forget_0 0 rfl ?_
  refine r_iconst C dX1_forget_1 ic_0 ?_
  refine r_putI C fiX1_18 dX1_forget_2 (ly48 hY) ?_
  have h := Option.some.inj h
  subst h
  exact r_vret C dX1_forget_5 hr hE
def fX8_copyFrom (n : Nat) (a0 : Nat) (a1 : Nat) (μ : Mu) : Option (Mu) := gd (acb 0 0 ((rI (cpI (cpI (cpI (cpI (wI (wI (wI (wI μ a0 0 (rI μ a1 0)) a0 1 (rI (wI μ a0 0 (rI μ a1 0)) a1 1)) a0 2 (rI (wI (wI μ a0 0 (rI μ a1 0)) a0 1 (rI (wI μ a0 0 (rI μ a1 0)) a1 1)) a1 2)) a0 3 (rI (wI (wI (wI μ a0 0 (rI μ a1 0)) a0 1 (rI (wI μ a0 0 (rI μ a1 0)) a1 1)) a0 2 (rI (wI (wI μ a0 0 (rI μ a1 0)) a0 1 (rI (wI μ a0 0 (rI μ a1 0)) a1 1)) a1 2)) a1 3)) (a1 + 1) 0 (a0 + 1) 0 8) (a1 + 2) 0 (a0 + 2) 0 8) (a1 + 3) 0 (a0 + 3) 0 8) (a1 + 4) 0 (a0 + 4) 0 8) a0 3) * 10) 80 80) (some (cpI (cpI (cpI (cpI (cpI (cpI (wI (wI (wI (wI μ a0 0 (rI μ a1 0)) a0 1 (rI (wI μ a0 0 (rI μ a1 0)) a1 1)) a0 2 (rI (wI (wI μ a0 0 (rI μ a1 0)) a0 1 (rI (wI μ a0 0 (rI μ a1 0)) a1 1)) a1 2)) a0 3 (rI (wI (wI (wI μ a0 0 (rI μ a1 0)) a0 1 (rI (wI μ a0 0 (rI μ a1 0)) a1 1)) a0 2 (rI (wI (wI μ a0 0 (rI μ a1 0)) a0 1 (rI (wI μ a0 0 (rI μ a1 0)) a1 1)) a1 2)) a1 3)) (a1 + 1) 0 (a0 + 1) 0 8) (a1 + 2) 0 (a0 + 2) 0 8) (a1 + 3) 0 (a0 + 3) 0 8) (a1 + 4) 0 (a0 + 4) 0 8) (a1 + 5) 0 (a0 + 5) 0 (ix ((rI (cpI (cpI (cpI (cpI (wI (wI (wI (wI μ a0 0 (rI μ a1 0)) a0 1 (rI (wI μ a0 0 (rI μ a1 0)) a1 1)) a0 2 (rI (wI (wI μ a0 0 (rI μ a1 0)) a0 1 (rI (wI μ a0 0 (rI μ a1 0)) a1 1)) a1 2)) a0 3 (rI (wI (wI (wI μ a0 0 (rI μ a1 0)) a0 1 (rI (wI μ a0 0 (rI μ a1 0)) a1 1)) a0 2 (rI (wI (wI μ a0 0 (rI μ a1 0)) a0 1 (rI (wI μ a0 0 (rI μ a1 0)) a1 1)) a1 2)) a1 3)) (a1 + 1) 0 (a0 + 1) 0 8) (a1 + 2) 0 (a0 + 2) 0 8) (a1 + 3) 0 (a0 + 3) 0 8) (a1 + 4) 0 (a0 + 4) 0 8) a0 3) * 10))) (a1 + 6) 0 (a0 + 6) 0 6))
set_option maxRecDepth 100000 in
set_option maxHeartbeats 4000000 in
theorem tX8_copyFrom {l : Launch} {w : WP} {sh : List Sh} {R : Rf} {μ : Mu} {μ' : Mu} (hY : LY sh R) (n : Nat) (a0 : Nat) (a1 : Nat) (ha0 : isSt sh R a0) (ha1 : isSt sh R a1) (h : fX8_copyFrom n a0 a1 μ = some μ') : CM l w yX8_copyFrom cX8_copyFrom 2 none 1 0 0 sh R [.ref (wb w + a0), .ref (wb w + a1)] μ none sh R μ' := by
  refine CM.of (plainFor_of_name pf_X8) (Nat.le_of_ble_eq_true rfl) fun Z C hr _ hR hw hl hE => ?_
  subst hw; subst hl
  have C : CX Z cX8_copyFrom 2 RX8 := C
  show Wm Z (0, 0, sh, R) μ 0 [(0, .ref (wb (zw Z) + a0)), (1, .ref (wb (zw Z) + a1))] []
  unfold fX8_copyFrom at h
  refine r_aload_n C dX8_copyFrom_0 0 rfl ?_
  refine r_aload_n C dX8_copyFrom_1 1 rfl ?_
  refine r_getI C flX8_36 dX8_copyFrom_2 (isSt_0 ha1) rfl ?_
  refine r_putI C fiX8_36 dX8_copyFrom_5 (isSt_0 ha0) ?_
  refine r_aload_n C dX8_copyFrom_8 0 rfl ?_
  refine r_aload_n C dX8_copyFrom_9 1 rfl ?_
  refine r_getI C flX8_42 dX8_copyFrom_10 (isSt_0 ha1) rfl ?_
  refine r_putI C fiX8_42 dX8_copyFrom_13 (isSt_0 ha0) ?_
  refine r_aload_n C dX8_copyFrom_16 0 rfl ?_
  refine r_aload_n C dX8_copyFrom_17 1 rfl ?_
  refine r_getI C flX8_45 dX8_copyFrom_18 (isSt_0 ha1) rfl ?_
  refine r_putI C fiX8_45 dX8_copyFrom_21 (isSt_0 ha0) ?_
  refine r_aload_n C dX8_copyFrom_24 0 rfl ?_
  refine r_aload_n C dX8_copyFrom_25 1 rfl ?_
  refine r_getI C flX8_48 dX8_copyFrom_26 (isSt_0 ha1) rfl ?_
  refine r_putI C fiX8_48 dX8_copyFrom_29 (isSt_0 ha0) ?_
  refine r_aload_n C dX8_copyFrom_32 1 rfl ?_
  refine r_getR C flX8_9 dX8_copyFrom_33 (isSt_0 ha1) rfl (isSt_r4 ha1) ?_
  refine r_iconst C dX8_copyFrom_36 ic_0 ?_
  refine r_aload_n C dX8_copyFrom_37 0 rfl ?_
  refine r_getR C flX8_9 dX8_copyFrom_38 (isSt_0 ha0) rfl (isSt_r4 ha0) ?_
  refine r_iconst C dX8_copyFrom_41 ic_0 ?_
  refine r_bipush C dX8_copyFrom_42 bp_8 ?_
  refine r_acopy C acX8_54 dX8_copyFrom_44 (isSt_1 ha1) (isSt_1 ha0) (by decide) (rmA hR (nle rfl)) (nle rfl) acw ?_
  refine r_aload_n C dX8_copyFrom_47 1 rfl ?_
  refine r_getR C flX8_15 dX8_copyFrom_48 (isSt_0 ha1) rfl (isSt_r5 ha1) ?_
  refine r_iconst C dX8_copyFrom_51 ic_0 ?_
  refine r_aload_n C dX8_copyFrom_52 0 rfl ?_
  refine r_getR C flX8_15 dX8_copyFrom_53 (isSt_0 ha0) rfl (isSt_r5 ha0) ?_
  refine r_iconst C dX8_copyFrom_56 ic_0 ?_
  refine r_bipush C dX8_copyFrom_57 bp_8 ?_
  refine r_acopy C acX8_54 dX8_copyFrom_59 (isSt_2 ha1) (isSt_2 ha0) (by decide) (rmA hR (nle rfl)) (nle rfl) acw ?_
  refine r_aload_n C dX8_copyFrom_62 1 rfl ?_
  refine r_getR C flX8_18 dX8_copyFrom_63 (isSt_0 ha1) rfl (isSt_r6 ha1) ?_
  refine r_iconst C dX8_copyFrom_66 ic_0 ?_
  refine r_aload_n C dX8_copyFrom_67 0 rfl ?_
  refine r_getR C flX8_18 dX8_copyFrom_68 (isSt_0 ha0) rfl (isSt_r6 ha0) ?_
  refine r_iconst C dX8_copyFrom_71 ic_0 ?_
  refine r_bipush C dX8_copyFrom_72 bp_8 ?_
  refine r_acopy C acX8_54 dX8_copyFrom_74 (isSt_3 ha1) (isSt_3 ha0) (by decide) (rmA hR (nle rfl)) (nle rfl) acw ?_
  refine r_aload_n C dX8_copyFrom_77 1 rfl ?_
  refine r_getR C flX8_21 dX8_copyFrom_78 (isSt_0 ha1) rfl (isSt_r7 ha1) ?_
  refine r_iconst C dX8_copyFrom_81 ic_0 ?_
  refine r_aload_n C dX8_copyFrom_82 0 rfl ?_
  refine r_getR C flX8_21 dX8_copyFrom_83 (isSt_0 ha0) rfl (isSt_r7 ha0) ?_
  refine r_iconst C dX8_copyFrom_86 ic_0 ?_
  refine r_bipush C dX8_copyFrom_87 bp_8 ?_
  refine r_acopy C acX8_54 dX8_copyFrom_89 (isSt_4 ha1) (isSt_4 ha0) (by decide) (rmA hR (nle rfl)) (nle rfl) acw ?_
  refine r_aload_n C dX8_copyFrom_92 1 rfl ?_
  refine r_getR C flX8_24 dX8_copyFrom_93 (isSt_0 ha1) rfl (isSt_r8 ha1) ?_
  refine r_iconst C dX8_copyFrom_96 ic_0 ?_
  refine r_aload_n C dX8_copyFrom_97 0 rfl ?_
  refine r_getR C flX8_24 dX8_copyFrom_98 (isSt_0 ha0) rfl (isSt_r8 ha0) ?_
  refine r_iconst C dX8_copyFrom_101 ic_0 ?_
  refine r_aload_n C dX8_copyFrom_102 0 rfl ?_
  refine r_getI C flX8_48 dX8_copyFrom_103 (isSt_0 ha0) rfl ?_
  refine r_bipush C dX8_copyFrom_106 bp_10 ?_
  refine r_imul C dX8_copyFrom_108 ?_
  obtain ⟨b1, h⟩ := gd_inv h
  refine r_acopy C acX8_54 dX8_copyFrom_109 (isSt_5 ha1) (isSt_5 ha0) b1 (rmA hR (nle rfl)) (nle rfl) acw ?_
  refine r_aload_n C dX8_copyFrom_112 1 rfl ?_
  refine r_getR C flX8_27 dX8_copyFrom_113 (isSt_0 ha1) rfl (isSt_r9 ha1) ?_
  refine r_iconst C dX8_copyFrom_116 ic_0 ?_
  refine r_aload_n C dX8_copyFrom_117 0 rfl ?_
  refine r_getR C flX8_27 dX8_copyFrom_118 (isSt_0 ha0) rfl (isSt_r9 ha0) ?_
  refine r_iconst C dX8_copyFrom_121 ic_0 ?_
  refine r_bipush C dX8_copyFrom_122 bp_6 ?_
  refine r_acopy C acX8_54 dX8_copyFrom_124 (isSt_6 ha1) (isSt_6 ha0) (by decide) (rmA hR (nle rfl)) (nle rfl) acw ?_
  have h := Option.some.inj h
  subst h
  exact r_vret C dX8_copyFrom_127 hr hE
def fX1_keep (n : Nat) (a1 : Nat) (μ : Mu) : Option (Mu) := gd (ib (rI μ 48 1) 10) (bnd (fX8_copyFrom n (50 + 7 * ix (rI μ 48 1)) a1 μ) fun m3 => some (wI (wI m3 48 1 (jrem ((rI m3 48 1) + 1) 10)) 48 2 (jmin 10 ((rI (wI m3 48 1 (jrem ((rI m3 48 1) + 1) 10)) 48 2) + 1))))
set_option maxRecDepth 100000 in
set_option maxHeartbeats 4000000 in
theorem tX1_keep {l : Launch} {w : WP} {sh : List Sh} {R : Rf} {μ : Mu} {μ' : Mu} (hY : LY sh R) (n : Nat) (a1 : Nat) (ha1 : isSt sh R a1) (h : fX1_keep n a1 μ = some μ') : CM l w yX1_keep cX1_keep 2 none 2 0 0 sh R [.ref (wb w + 48), .ref (wb w + a1)] μ none sh R μ' := by
  refine CM.of (plainFor_of_name pf_X1) (Nat.le_of_ble_eq_true rfl) fun Z C hr _ hR hw hl hE => ?_
  subst hw; subst hl
  have C : CX Z cX1_keep 2 RX1 := C
  show Wm Z (0, 0, sh, R) μ 0 [(0, .ref (wb (zw Z) + 48)), (1, .ref (wb (zw Z) + a1))] []
  unfold fX1_keep at h
  refine r_aload_n C dX1_keep_0 0 rfl ?_
  refine r_getR C flX1_11 dX1_keep_1 (ly48 hY) rfl (lr48_0 hY) ?_
  refine r_aload_n C dX1_keep_4 0 rfl ?_
  refine r_getI C flX1_22 dX1_keep_5 (ly48 hY) rfl ?_
  obtain ⟨b1, h⟩ := gd_inv h
  refine r_aald C dX1_keep_8 (ly49 hY) (by decide) rfl rfl b1 (lyKept hY b1).2 ?_
  refine r_aload_n C dX1_keep_9 1 rfl ?_
  obtain ⟨m3, e2, h⟩ := bnd_inv h
  refine r_cVv (As := [.ref (wb (zw Z) + a1)]) (rest := []) C hR mlX1_25 dX1_keep_10 (tX8_copyFrom hY n (50 + 7 * ix (rI μ 48 1)) a1 (lyKept hY b1).1 ha1 e2) rfl rfl (isSt_0 (lyKept hY b1).1) rfl (nle rfl) (nle rfl) (nle rfl) ?_
  refine r_aload_n C dX1_keep_13 0 rfl ?_
  refine r_aload_n C dX1_keep_14 0 rfl ?_
  refine r_getI C flX1_22 dX1_keep_15 (ly48 hY) rfl ?_
  refine r_iconst C dX1_keep_18 ic_1 ?_
  refine r_iadd C dX1_keep_19 ?_
  refine r_bipush C dX1_keep_20 bp_10 ?_
  refine r_irem C dX1_keep_22 (by decide) ?_
  refine r_putI C fiX1_22 dX1_keep_23 (ly48 hY) ?_
  refine r_aload_n C dX1_keep_26 0 rfl ?_
  refine r_bipush C dX1_keep_27 bp_10 ?_
  refine r_aload_n C dX1_keep_29 0 rfl ?_
  refine r_getI C flX1_18 dX1_keep_30 (ly48 hY) rfl ?_
  refine r_iconst C dX1_keep_33 ic_1 ?_
  refine r_iadd C dX1_keep_34 ?_
  refine r_cSi (As := [.int 10, .int ((rI (wI m3 48 1 (jrem ((rI m3 48 1) + 1) 10)) 48 2) + 1)]) (rest := [.ref (wb (zw Z) + 48)]) C hR mlX1_29 dX1_keep_35 (t_jmin hY) rfl rfl (nle rfl) (nle rfl) (nle rfl) ?_
  refine r_putI C fiX1_18 dX1_keep_38 (ly48 hY) ?_
  have h := Option.some.inj h
  subst h
  exact r_vret C dX1_keep_41 hr hE
def fX1_takeBack (n : Nat) (a1 : Nat) (x2 : Int32) (μ : Mu) : Option (Mu) := gd (ib (rI (wI μ 48 1 (fmod ((rI μ 48 1) - x2) 10)) 48 1) 10) (bnd (fX8_copyFrom n a1 (50 + 7 * ix (rI (wI μ 48 1 (fmod ((rI μ 48 1) - x2) 10)) 48 1)) (wI μ 48 1 (fmod ((rI μ 48 1) - x2) 10))) fun m3 => some (wI m3 48 2 ((rI m3 48 2) - x2)))
set_option maxRecDepth 100000 in
set_option maxHeartbeats 4000000 in
theorem tX1_takeBack {l : Launch} {w : WP} {sh : List Sh} {R : Rf} {μ : Mu} {μ' : Mu} (hY : LY sh R) (n : Nat) (a1 : Nat) (x2 : Int32) (ha1 : isSt sh R a1) (h : fX1_takeBack n a1 x2 μ = some μ') : CM l w yX1_takeBack cX1_takeBack 3 none 2 0 0 sh R [.ref (wb w + 48), .ref (wb w + a1), .int x2] μ none sh R μ' := by
  refine CM.of (plainFor_of_name pf_X1) (Nat.le_of_ble_eq_true rfl) fun Z C hr _ hR hw hl hE => ?_
  subst hw; subst hl
  have C : CX Z cX1_takeBack 3 RX1 := C
  show Wm Z (0, 0, sh, R) μ 0 [(0, .ref (wb (zw Z) + 48)), (1, .ref (wb (zw Z) + a1)), (2, .int x2)] []
  unfold fX1_takeBack at h
  refine r_aload_n C dX1_takeBack_0 0 rfl ?_
  refine r_aload_n C dX1_takeBack_1 0 rfl ?_
  refine r_getI C flX1_22 dX1_takeBack_2 (ly48 hY) rfl ?_
  refine r_iload_n C dX1_takeBack_5 2 rfl ?_
  refine r_isub C dX1_takeBack_6 ?_
  refine r_bipush C dX1_takeBack_7 bp_10 ?_
  refine r_cSi (As := [.int ((rI μ 48 1) - x2), .int 10]) (rest := [.ref (wb (zw Z) + 48)]) C hR mlX1_35 dX1_takeBack_9 (t_fmod hY (by decide)) rfl rfl (nle rfl) (nle rfl) (nle rfl) ?_
  refine r_putI C fiX1_22 dX1_takeBack_12 (ly48 hY) ?_
  refine r_aload_n C dX1_takeBack_15 1 rfl ?_
  refine r_aload_n C dX1_takeBack_16 0 rfl ?_
  refine r_getR C flX1_11 dX1_takeBack_17 (ly48 hY) rfl (lr48_0 hY) ?_
  refine r_aload_n C dX1_takeBack_20 0 rfl ?_
  refine r_getI C flX1_22 dX1_takeBack_21 (ly48 hY) rfl ?_
  obtain ⟨b1, h⟩ := gd_inv h
  refine r_aald C dX1_takeBack_24 (ly49 hY) (by decide) rfl rfl b1 (lyKept hY b1).2 ?_
  obtain ⟨m3, e2, h⟩ := bnd_inv h
  refine r_cVv (As := [.ref (wb (zw Z) + (50 + 7 * ix (rI (wI μ 48 1 (fmod ((rI μ 48 1) - x2) 10)) 48 1)))]) (rest := []) C hR mlX1_25 dX1_takeBack_25 (tX8_copyFrom hY n a1 (50 + 7 * ix (rI (wI μ 48 1 (fmod ((rI μ 48 1) - x2) 10)) 48 1)) ha1 (lyKept hY b1).1 e2) rfl rfl (isSt_0 ha1) rfl (nle rfl) (nle rfl) (nle rfl) ?_
  refine r_aload_n C dX1_takeBack_28 0 rfl ?_
  refine r_dup C dX1_takeBack_29 rfl ?_
  refine r_getI C flX1_18 dX1_takeBack_30 (ly48 hY) rfl ?_
  refine r_iload_n C dX1_takeBack_33 2 rfl ?_
  refine r_isub C dX1_takeBack_34 ?_
  refine r_putI C fiX1_18 dX1_takeBack_35 (ly48 hY) ?_
  have h := Option.some.inj h
  subst h
  exact r_vret C dX1_takeBack_38 hr hE
def fX3_clear (n : Nat) (a0 : Nat) (μ : Mu) : Option (Mu) := bnd (fJ7_fill_53178 n (a0 + 2) 3 0 (wI μ a0 1 0)) fun m2 => bnd (fJ7_fill_53178 n (a0 + 3) 3 0 m2) fun m4 => some m4
set_option maxRecDepth 100000 in
set_option maxHeartbeats 4000000 in
theorem tX3_clear {l : Launch} {w : WP} {sh : List Sh} {R : Rf} {μ : Mu} {μ' : Mu} (hY : LY sh R) (n : Nat) (a0 : Nat) (ha0 : isLaw sh R a0) (h : fX3_clear n a0 μ = some μ') : CM l w yX3_clear cX3_clear 1 none 1 0 0 sh R [.ref (wb w + a0)] μ none sh R μ' := by
  refine CM.of (plainFor_of_name pf_X3) (Nat.le_of_ble_eq_true rfl) fun Z C hr _ hR hw hl hE => ?_
  subst hw; subst hl
  have C : CX Z cX3_clear 1 RX3 := C
  show Wm Z (0, 0, sh, R) μ 0 [(0, .ref (wb (zw Z) + a0))] []
  unfold fX3_clear at h
  refine r_aload_n C dX3_clear_0 0 rfl ?_
  refine r_iconst C dX3_clear_1 ic_0 ?_
  refine r_putI C fiX3_21 dX3_clear_2 (isLaw_0 ha0) ?_
  refine r_aload_n C dX3_clear_5 0 rfl ?_
  refine r_getR C flX3_15 dX3_clear_6 (isLaw_0 ha0) rfl (isLaw_r2 ha0) ?_
  refine r_iconst C dX3_clear_9 ic_0 ?_
  obtain ⟨m2, e1, h⟩ := bnd_inv h
  refine r_cSv (As := [.ref (wb (zw Z) + (a0 + 2)), .int 0]) (rest := []) C hR mlX3_25 dX3_clear_10 (tJ7_fill_53178 hY n (a0 + 2) 3 0 (isLaw_2 ha0) e1) rfl rfl (nle rfl) (nle rfl) (nle rfl) ?_
  refine r_aload_n C dX3_clear_13 0 rfl ?_
  refine r_getR C flX3_18 dX3_clear_14 (isLaw_0 ha0) rfl (isLaw_r3 ha0) ?_
  refine r_iconst C dX3_clear_17 ic_0 ?_
  obtain ⟨m4, e3, h⟩ := bnd_inv h
  refine r_cSv (As := [.ref (wb (zw Z) + (a0 + 3)), .int 0]) (rest := []) C hR mlX3_25 dX3_clear_18 (tJ7_fill_53178 hY n (a0 + 3) 3 0 (isLaw_3 ha0) e3) rfl rfl (nle rfl) (nle rfl) (nle rfl) ?_
  have h := Option.some.inj h
  subst h
  exact r_vret C dX3_clear_21 hr hE
def fX3_copyFrom (n : Nat) (a0 : Nat) (a1 : Nat) (μ : Mu) : Option (Mu) := gd (acb 0 0 (rI (wI μ a0 1 (rI μ a1 1)) a0 1) 900 900) (some (cpI (cpI (cpI (wI μ a0 1 (rI μ a1 1)) (a1 + 1) 0 (a0 + 1) 0 (ix (rI (wI μ a0 1 (rI μ a1 1)) a0 1))) (a1 + 2) 0 (a0 + 2) 0 3) (a1 + 3) 0 (a0 + 3) 0 3))
set_option maxRecDepth 100000 in
set_option maxHeartbeats 4000000 in
theorem tX3_copyFrom {l : Launch} {w : WP} {sh : List Sh} {R : Rf} {μ : Mu} {μ' : Mu} (hY : LY sh R) (n : Nat) (a0 : Nat) (a1 : Nat) (ha0 : isLaw sh R a0) (ha1 : isLaw sh R a1) (h : fX3_copyFrom n a0 a1 μ = some μ') : CM l w yX3_copyFrom cX3_copyFrom 2 none 1 0 0 sh R [.ref (wb w + a0), .ref (wb w + a1)] μ none sh R μ' := by
  refine CM.of (plainFor_of_name pf_X3) (Nat.le_of_ble_eq_true rfl) fun Z C hr _ hR hw hl hE => ?_
  subst hw; subst hl
  have C : CX Z cX3_copyFrom 2 RX3 := C
  show Wm Z (0, 0, sh, R) μ 0 [(0, .ref (wb (zw Z) + a0)), (1, .ref (wb (zw Z) + a1))] []
  unfold fX3_copyFrom at h
  refine r_aload_n C dX3_copyFrom_0 0 rfl ?_
  refine r_aload_n C dX3_copyFrom_1 1 rfl ?_
  refine r_getI C flX3_21 dX3_copyFrom_2 (isLaw_0 ha1) rfl ?_
  refine r_putI C fiX3_21 dX3_copyFrom_5 (isLaw_0 ha0) ?_
  refine r_aload_n C dX3_copyFrom_8 1 rfl ?_
  refine r_getR C flX3_9 dX3_copyFrom_9 (isLaw_0 ha1) rfl (isLaw_r0 ha1) ?_
  refine r_iconst C dX3_copyFrom_12 ic_0 ?_
  refine r_aload_n C dX3_copyFrom_13 0 rfl ?_
  refine r_getR C flX3_9 dX3_copyFrom_14 (isLaw_0 ha0) rfl (isLaw_r0 ha0) ?_
  refine r_iconst C dX3_copyFrom_17 ic_0 ?_
  refine r_aload_n C dX3_copyFrom_18 0 rfl ?_
  refine r_getI C flX3_21 dX3_copyFrom_19 (isLaw_0 ha0) rfl ?_
  obtain ⟨b1, h⟩ := gd_inv h
  refine r_acopy C acX3_31 dX3_copyFrom_22 (isLaw_1 ha1) (isLaw_1 ha0) b1 (rmA hR (nle rfl)) (nle rfl) acw ?_
  refine r_aload_n C dX3_copyFrom_25 1 rfl ?_
  refine r_getR C flX3_15 dX3_copyFrom_26 (isLaw_0 ha1) rfl (isLaw_r2 ha1) ?_
  refine r_iconst C dX3_copyFrom_29 ic_0 ?_
  refine r_aload_n C dX3_copyFrom_30 0 rfl ?_
  refine r_getR C flX3_15 dX3_copyFrom_31 (isLaw_0 ha0) rfl (isLaw_r2 ha0) ?_
  refine r_iconst C dX3_copyFrom_34 ic_0 ?_
  refine r_iconst C dX3_copyFrom_35 ic_3 ?_
  refine r_acopy C acX3_31 dX3_copyFrom_36 (isLaw_2 ha1) (isLaw_2 ha0) (by decide) (rmA hR (nle rfl)) (nle rfl) acw ?_
  refine r_aload_n C dX3_copyFrom_39 1 rfl ?_
  refine r_getR C flX3_18 dX3_copyFrom_40 (isLaw_0 ha1) rfl (isLaw_r3 ha1) ?_
  refine r_iconst C dX3_copyFrom_43 ic_0 ?_
  refine r_aload_n C dX3_copyFrom_44 0 rfl ?_
  refine r_getR C flX3_18 dX3_copyFrom_45 (isLaw_0 ha0) rfl (isLaw_r3 ha0) ?_
  refine r_iconst C dX3_copyFrom_48 ic_0 ?_
  refine r_iconst C dX3_copyFrom_49 ic_3 ?_
  refine r_acopy C acX3_31 dX3_copyFrom_50 (isLaw_3 ha1) (isLaw_3 ha0) (by decide) (rmA hR (nle rfl)) (nle rfl) acw ?_
  have h := Option.some.inj h
  subst h
  exact r_vret C dX3_copyFrom_53 hr hE
def fX3_begin (n : Nat) (a0 : Nat) (x1 : Int32) (μ : Mu) : Option (Mu) := gd (ib x1 3) (gd (ib x1 3) (some (wI (wI μ (a0 + 2) (ix x1) (rI μ a0 1)) (a0 + 3) (ix x1) (rI (wI μ (a0 + 2) (ix x1) (rI μ a0 1)) a0 1))))
set_option maxRecDepth 100000 in
set_option maxHeartbeats 4000000 in
theorem tX3_begin {l : Launch} {w : WP} {sh : List Sh} {R : Rf} {μ : Mu} {μ' : Mu} (hY : LY sh R) (n : Nat) (a0 : Nat) (x1 : Int32) (ha0 : isLaw sh R a0) (h : fX3_begin n a0 x1 μ = some μ') : CM l w yX3_begin cX3_begin 2 none 0 0 0 sh R [.ref (wb w + a0), .int x1] μ none sh R μ' := by
  refine CM.of (plainFor_of_name pf_X3) (Nat.le_of_ble_eq_true rfl) fun Z C hr _ hR hw hl hE => ?_
  subst hw; subst hl
  have C : CX Z cX3_begin 2 RX3 := C
  show Wm Z (0, 0, sh, R) μ 0 [(0, .ref (wb (zw Z) + a0)), (1, .int x1)] []
  unfold fX3_begin at h
  refine r_aload_n C dX3_begin_0 0 rfl ?_
  refine r_getR C flX3_15 dX3_begin_1 (isLaw_0 ha0) rfl (isLaw_r2 ha0) ?_
  refine r_iload_n C dX3_begin_4 1 rfl ?_
  refine r_aload_n C dX3_begin_5 0 rfl ?_
  refine r_getI C flX3_21 dX3_begin_6 (isLaw_0 ha0) rfl ?_
  obtain ⟨b1, h⟩ := gd_inv h
  refine r_iast C dX3_begin_9 (isLaw_2 ha0) b1 ?_
  refine r_aload_n C dX3_begin_10 0 rfl ?_
  refine r_getR C flX3_18 dX3_begin_11 (isLaw_0 ha0) rfl (isLaw_r3 ha0) ?_
  refine r_iload_n C dX3_begin_14 1 rfl ?_
  refine r_aload_n C dX3_begin_15 0 rfl ?_
  refine r_getI C flX3_21 dX3_begin_16 (isLaw_0 ha0) rfl ?_
  obtain ⟨b2, h⟩ := gd_inv h
  refine r_iast C dX3_begin_19 (isLaw_3 ha0) b2 ?_
  have h := Option.some.inj h
  subst h
  exact r_vret C dX3_begin_20 hr hE
def fX3_add (n : Nat) (a0 : Nat) (x1 : Int32) (x2 : Int32) (μ : Mu) : Option (Mu) := if 900 ≤ (rI μ a0 1) then (some μ) else (gd (ib (rI μ a0 1) 900) (gd (ib x1 3) (some (wI (wI (wI μ (a0 + 1) (ix (rI μ a0 1)) x2) a0 1 ((rI (wI μ (a0 + 1) (ix (rI μ a0 1)) x2) a0 1) + 1)) (a0 + 3) (ix x1) (rI (wI (wI μ (a0 + 1) (ix (rI μ a0 1)) x2) a0 1 ((rI (wI μ (a0 + 1) (ix (rI μ a0 1)) x2) a0 1) + 1)) a0 1)))))
set_option maxRecDepth 100000 in
set_option maxHeartbeats 4000000 in
theorem tX3_add {l : Launch} {w : WP} {sh : List Sh} {R : Rf} {μ : Mu} {μ' : Mu} (hY : LY sh R) (n : Nat) (a0 : Nat) (x1 : Int32) (x2 : Int32) (ha0 : isLaw sh R a0) (h : fX3_add n a0 x1 x2 μ = some μ') : CM l w yX3_add cX3_add 3 none 0 0 0 sh R [.ref (wb w + a0), .int x1, .int x2] μ none sh R μ' := by
  refine CM.of (plainFor_of_name pf_X3) (Nat.le_of_ble_eq_true rfl) fun Z C hr _ hR hw hl hE => ?_
  subst hw; subst hl
  have C : CX Z cX3_add 3 RX3 := C
  show Wm Z (0, 0, sh, R) μ 0 [(0, .ref (wb (zw Z) + a0)), (1, .int x1), (2, .int x2)] []
  unfold fX3_add at h
  refine r_aload_n C dX3_add_0 0 rfl ?_
  refine r_getI C flX3_21 dX3_add_1 (isLaw_0 ha0) rfl ?_
  refine r_aload_n C dX3_add_4 0 rfl ?_
  refine r_getR C flX3_9 dX3_add_5 (isLaw_0 ha0) rfl (isLaw_r0 ha0) ?_
  refine r_alen (v := 900) C dX3_add_8 (isLaw_1 ha0) rfl (by decide) ?_
  refine r_icmp_ge 42 C dX3_add_9 (by decide) (fun c1 => ?_) (fun c1 => ?_)
  · have h := (ite_inv h).1 c1
    have h := Option.some.inj h
    subst h
    exact r_vret C dX3_add_42 hr hE
  · have h := (ite_inv h).2 c1
    refine r_aload_n C dX3_add_12 0 rfl ?_
    refine r_getR C flX3_9 dX3_add_13 (isLaw_0 ha0) rfl (isLaw_r0 ha0) ?_
    refine r_aload_n C dX3_add_16 0 rfl ?_
    refine r_getI C flX3_21 dX3_add_17 (isLaw_0 ha0) rfl ?_
    refine r_iload_n C dX3_add_20 2 rfl ?_
    obtain ⟨b2, h⟩ := gd_inv h
    refine r_iast C dX3_add_21 (isLaw_1 ha0) b2 ?_
    refine r_aload_n C dX3_add_22 0 rfl ?_
    refine r_dup C dX3_add_23 rfl ?_
    refine r_getI C flX3_21 dX3_add_24 (isLaw_0 ha0) rfl ?_
    refine r_iconst C dX3_add_27 ic_1 ?_
    refine r_iadd C dX3_add_28 ?_
    refine r_putI C fiX3_21 dX3_add_29 (isLaw_0 ha0) ?_
    refine r_aload_n C dX3_add_32 0 rfl ?_
    refine r_getR C flX3_18 dX3_add_33 (isLaw_0 ha0) rfl (isLaw_r3 ha0) ?_
    refine r_iload_n C dX3_add_36 1 rfl ?_
    refine r_aload_n C dX3_add_37 0 rfl ?_
    refine r_getI C flX3_21 dX3_add_38 (isLaw_0 ha0) rfl ?_
    obtain ⟨b3, h⟩ := gd_inv h
    refine r_iast C dX3_add_41 (isLaw_3 ha0) b3 ?_
    have h := Option.some.inj h
    subst h
    exact r_vret C dX3_add_42 hr hE
def fX4_setCost (n : Nat) (x1 : Int32) (x2 : Int32) (x3 : Int32) (μ : Mu) : Option (Mu) := gd (ib ((x1 * 8) + x2) 64) (some (wI μ 125 (ix ((x1 * 8) + x2)) x3))
set_option maxRecDepth 100000 in
set_option maxHeartbeats 4000000 in
theorem tX4_setCost {l : Launch} {w : WP} {sh : List Sh} {R : Rf} {μ : Mu} {μ' : Mu} (hY : LY sh R) (n : Nat) (x1 : Int32) (x2 : Int32) (x3 : Int32)  (h : fX4_setCost n x1 x2 x3 μ = some μ') : CM l w yX4_setCost cX4_setCost 4 none 0 0 0 sh R [.ref (wb w + 124), .int x1, .int x2, .int x3] μ none sh R μ' := by
  refine CM.of (plainFor_of_name pf_X4) (Nat.le_of_ble_eq_true rfl) fun Z C hr _ hR hw hl hE => ?_
  subst hw; subst hl
  have C : CX Z cX4_setCost 4 RX4 := C
  show Wm Z (0, 0, sh, R) μ 0 [(0, .ref (wb (zw Z) + 124)), (1, .int x1), (2, .int x2), (3, .int x3)] []
  unfold fX4_setCost at h
  refine r_aload_n C dX4_setCost_0 0 rfl ?_
  refine r_getR C flX4_9 dX4_setCost_1 (ly124 hY) rfl (lr124_0 hY) ?_
  refine r_iload_n C dX4_setCost_4 1 rfl ?_
  refine r_bipush C dX4_setCost_5 bp_8 ?_
  refine r_imul C dX4_setCost_7 ?_
  refine r_iload_n C dX4_setCost_8 2 rfl ?_
  refine r_iadd C dX4_setCost_9 ?_
  refine r_iload_n C dX4_setCost_10 3 rfl ?_
  obtain ⟨b1, h⟩ := gd_inv h
  refine r_iast C dX4_setCost_11 (ly125 hY) b1 ?_
  have h := Option.some.inj h
  subst h
  exact r_vret C dX4_setCost_12 hr hE
def sX4_pairFrom_63 (n : Nat) (F : Nat → Int32 → Int32 → Int32 → Int32 → Mu → Option (Mu)) (x1 : Int32) (x2 : Int32) (x3 : Int32) (x4 : Int32) : Int32 × Mu → Option ((Int32 × Mu) ⊕ (Mu)) := fun q => match q with | (x5, μ) => if (rI μ 124 4) ≤ x5 then (some (.inr μ)) else (if ((shr x2 x5) &&& 1) = 1 then (gd (ib x1 8) (gd (ib x5 8) (gd (ib ((x1 * 8) + x5) 64) (bnd (F 0 (x1 + 1) (x2 &&& ((shl 1 x5) ^^^ (-1))) (x3 + (rI (wI (wI μ 126 (ix x1) x5) 126 (ix x5) x1) 125 (ix ((x1 * 8) + x5)))) x4 (wI (wI μ 126 (ix x1) x5) 126 (ix x5) x1)) fun m10 => some (.inl (x5 + 1, m10)))))) else (some (.inl (x5 + 1, μ))))
set_option maxRecDepth 100000 in
set_option maxHeartbeats 4000000 in
theorem lX4_pairFrom_63 {Z : ZC} {sh : List Sh} {R : Rf} {D : Nat} {o : (Int32 × Mu) ⊕ (Mu)} (C : CX Z cX4_pairFrom 6 RX4) (hR : zR Z = rm (D + 1) 0 0) (hY : LY sh R) (n : Nat) (F : Nat → Int32 → Int32 → Int32 → Int32 → Mu → Option (Mu)) (hD : 1 ≤ D) (hF0 : ∀ (x1 : Int32) (x2 : Int32) (x3 : Int32) (x4 : Int32) (μ μ' : Mu), F 0 x1 x2 x3 x4 μ = some μ' → CM Z.1.2.1 (zw Z) yX4_pairFrom cX4_pairFrom 6 none D 0 0 sh R [.ref (wb (zw Z) + 124), .int x1, .int x2, .int x3, .int x4] μ none sh R μ') (x1 : Int32) (x2 : Int32) (x3 : Int32) (x4 : Int32) (x5 : Int32) (μ : Mu) (h : sX4_pairFrom_63 n F x1 x2 x3 x4 (x5, μ) = some o) (kin : ∀ (x5 : Int32) (μ : Mu), o = .inl (x5, μ) → Wm Z (0, 0, sh, R) μ 63 [(0, .ref (wb (zw Z) + 124)), (1, .int x1), (2, .int x2), (3, .int x3), (4, .int x4), (5, .int x5)] []) (kex0 : ∀ (μ : Mu), o = .inr μ → Wm Z (0, 0, sh, R) μ 135 [(0, .ref (wb (zw Z) + 124)), (1, .int x1), (2, .int x2), (3, .int x3), (4, .int x4)] []) : Wm Z (0, 0, sh, R) μ 63 [(0, .ref (wb (zw Z) + 124)), (1, .int x1), (2, .int x2), (3, .int x3), (4, .int x4), (5, .int x5)] [] := by
  unfold sX4_pairFrom_63 at h
  refine r_iload C dX4_pairFrom_63 5 rfl ?_
  refine r_aload_n C dX4_pairFrom_65 0 rfl ?_
  refine r_getI C flX4_21 dX4_pairFrom_66 (ly124 hY) rfl ?_
  refine r_icmp_ge 135 C dX4_pairFrom_69 (by decide) (fun c4 => ?_) (fun c4 => ?_)
  · have h := (ite_inv h).1 c4
    refine r_sub [(0, .ref (wb (zw Z) + 124)), (1, .int x1), (2, .int x2), (3, .int x3), (4, .int x4)] [0, 1, 2, 3, 4] rfl ?_
    exact kex0 μ (Option.some.inj h).symm
  · have h := (ite_inv h).2 c4
    refine r_iload_n C dX4_pairFrom_72 2 rfl ?_
    refine r_iload C dX4_pairFrom_73 5 rfl ?_
    refine r_ishr C dX4_pairFrom_75 ?_
    refine r_iconst C dX4_pairFrom_76 ic_1 ?_
    refine r_iand C dX4_pairFrom_77 ?_
    refine r_iconst C dX4_pairFrom_78 ic_1 ?_
    refine r_icmp_ne 129 C dX4_pairFrom_79 (by decide) (fun c5 => ?_) (fun c5 => ?_)
    · have h := (ite_inv h).2 c5
      refine r_iinc [(5, .int (x5 + 1)), (0, .ref (wb (zw Z) + 124)), (1, .int x1), (2, .int x2), (3, .int x3), (4, .int x4)] C dX4_pairFrom_129 5 rfl (in_1 _) (by decide) rfl ?_
      refine r_goto 63 C dX4_pairFrom_132 (by decide) ?_
      refine r_sub [(0, .ref (wb (zw Z) + 124)), (1, .int x1), (2, .int x2), (3, .int x3), (4, .int x4), (5, .int (x5 + 1))] [1, 2, 3, 4, 5, 0] rfl ?_
      exact kin (x5 + 1) μ (Option.some.inj h).symm
    · have h := (ite_inv h).1 c5
      refine r_aload_n C dX4_pairFrom_82 0 rfl ?_
      refine r_getR C flX4_15 dX4_pairFrom_83 (ly124 hY) rfl (lr124_1 hY) ?_
      refine r_iload_n C dX4_pairFrom_86 1 rfl ?_
      refine r_iload C dX4_pairFrom_87 5 rfl ?_
      obtain ⟨b6, h⟩ := gd_inv h
      refine r_iast C dX4_pairFrom_89 (ly126 hY) b6 ?_
      refine r_aload_n C dX4_pairFrom_90 0 rfl ?_
      refine r_getR C flX4_15 dX4_pairFrom_91 (ly124 hY) rfl (lr124_1 hY) ?_
      refine r_iload C dX4_pairFrom_94 5 rfl ?_
      refine r_iload_n C dX4_pairFrom_96 1 rfl ?_
      obtain ⟨b7, h⟩ := gd_inv h
      refine r_iast C dX4_pairFrom_97 (ly126 hY) b7 ?_
      refine r_aload_n C dX4_pairFrom_98 0 rfl ?_
      refine r_iload_n C dX4_pairFrom_99 1 rfl ?_
      refine r_iconst C dX4_pairFrom_100 ic_1 ?_
      refine r_iadd C dX4_pairFrom_101 ?_
      refine r_iload_n C dX4_pairFrom_102 2 rfl ?_
      refine r_iconst C dX4_pairFrom_103 ic_1 ?_
      refine r_iload C dX4_pairFrom_104 5 rfl ?_
      refine r_ishl C dX4_pairFrom_106 ?_
      refine r_iconst C dX4_pairFrom_107 ic_m1 ?_
      refine r_ixor C dX4_pairFrom_108 ?_
      refine r_iand C dX4_pairFrom_109 ?_
      refine r_iload_n C dX4_pairFrom_110 3 rfl ?_
      refine r_aload_n C dX4_pairFrom_111 0 rfl ?_
      refine r_getR C flX4_9 dX4_pairFrom_112 (ly124 hY) rfl (lr124_0 hY) ?_
      refine r_iload_n C dX4_pairFrom_115 1 rfl ?_
      refine r_bipush C dX4_pairFrom_116 bp_8 ?_
      refine r_imul C dX4_pairFrom_118 ?_
      refine r_iload C dX4_pairFrom_119 5 rfl ?_
      refine r_iadd C dX4_pairFrom_121 ?_
      obtain ⟨b8, h⟩ := gd_inv h
      refine r_iald C dX4_pairFrom_122 (ly125 hY) b8 ?_
      refine r_iadd C dX4_pairFrom_123 ?_
      refine r_iload C dX4_pairFrom_124 4 rfl ?_
      obtain ⟨m10, e9, h⟩ := bnd_inv h
      refine r_cVv (As := [.int (x1 + 1), .int (x2 &&& ((shl 1 x5) ^^^ (-1))), .int (x3 + (rI (wI (wI μ 126 (ix x1) x5) 126 (ix x5) x1) 125 (ix ((x1 * 8) + x5)))), .int x4]) (rest := []) C hR mlX4_29 dX4_pairFrom_126 (hF0 _ _ _ _ _ _ e9) rfl rfl (ly124 hY) rfl (by omega) (nle rfl) (nle rfl) ?_
      refine r_iinc [(5, .int (x5 + 1)), (0, .ref (wb (zw Z) + 124)), (1, .int x1), (2, .int x2), (3, .int x3), (4, .int x4)] C dX4_pairFrom_129 5 rfl (in_1 _) (by decide) rfl ?_
      refine r_goto 63 C dX4_pairFrom_132 (by decide) ?_
      refine r_sub [(0, .ref (wb (zw Z) + 124)), (1, .int x1), (2, .int x2), (3, .int x3), (4, .int x4), (5, .int (x5 + 1))] [1, 2, 3, 4, 5, 0] rfl ?_
      exact kin (x5 + 1) m10 (Option.some.inj h).symm
def bX4_pairFrom (n : Nat) (F : Nat → Int32 → Int32 → Int32 → Int32 → Mu → Option (Mu)) (x1 : Int32) (x2 : Int32) (x3 : Int32) (x4 : Int32) (μ : Mu) : Option (Mu) := if x3 < (rI μ 124 3) then (if x1 < (rI μ 124 4) then (if ((shr x2 x1) &&& 1) = 0 then (bnd (F 0 (x1 + 1) x2 x3 x4 μ) fun m18 => some m18) else (bnd (lp n (sX4_pairFrom_63 n F x1 x2 x3 x4) (x1 + 1, μ)) fun q => match q with | m11 => if x4 = 0 then (some m11) else (gd (ib x1 8) (bnd (F 0 (x1 + 1) x2 x3 0 (wI m11 126 (ix x1) (-1))) fun m16 => some m16)))) else (some (cpI (wI μ 124 3 x3) 126 0 127 0 8))) else (some μ)
set_option maxRecDepth 100000 in
set_option maxHeartbeats 4000000 in
theorem qX4_pairFrom {l : Launch} {w : WP} {sh : List Sh} {R : Rf} {μ : Mu} {μ' : Mu} (hY : LY sh R) (n : Nat) (F : Nat → Int32 → Int32 → Int32 → Int32 → Mu → Option (Mu)) (x1 : Int32) (x2 : Int32) (x3 : Int32) (x4 : Int32) (D : Nat) (hD : 1 ≤ D) (hF0 : ∀ (x1 : Int32) (x2 : Int32) (x3 : Int32) (x4 : Int32) (μ μ' : Mu), F 0 x1 x2 x3 x4 μ = some μ' → CM l w yX4_pairFrom cX4_pairFrom 6 none D 0 0 sh R [.ref (wb w + 124), .int x1, .int x2, .int x3, .int x4] μ none sh R μ') (h : bX4_pairFrom n F x1 x2 x3 x4 μ = some μ') : CM l w yX4_pairFrom cX4_pairFrom 6 none (D + 1) 0 0 sh R [.ref (wb w + 124), .int x1, .int x2, .int x3, .int x4] μ none sh R μ' := by
  refine CM.of (plainFor_of_name pf_X4) (Nat.le_of_ble_eq_true rfl) fun Z C hr _ hR hw hl hE => ?_
  subst hw; subst hl
  have C : CX Z cX4_pairFrom 6 RX4 := C
  show Wm Z (0, 0, sh, R) μ 0 [(0, .ref (wb (zw Z) + 124)), (1, .int x1), (2, .int x2), (3, .int x3), (4, .int x4)] []
  unfold bX4_pairFrom at h
  refine r_iload_n C dX4_pairFrom_0 3 rfl ?_
  refine r_aload_n C dX4_pairFrom_1 0 rfl ?_
  refine r_getI C flX4_26 dX4_pairFrom_2 (ly124 hY) rfl ?_
  refine r_icmp_lt 9 C dX4_pairFrom_5 (by decide) (fun c1 => ?_) (fun c1 => ?_)
  · have h := (ite_inv h).1 c1
    refine r_iload_n C dX4_pairFrom_9 1 rfl ?_
    refine r_aload_n C dX4_pairFrom_10 0 rfl ?_
    refine r_getI C flX4_21 dX4_pairFrom_11 (ly124 hY) rfl ?_
    refine r_icmp_lt 38 C dX4_pairFrom_14 (by decide) (fun c2 => ?_) (fun c2 => ?_)
    · have h := (ite_inv h).1 c2
      refine r_iload_n C dX4_pairFrom_38 2 rfl ?_
      refine r_iload_n C dX4_pairFrom_39 1 rfl ?_
      refine r_ishr C dX4_pairFrom_40 ?_
      refine r_iconst C dX4_pairFrom_41 ic_1 ?_
      refine r_iand C dX4_pairFrom_42 ?_
      refine r_if_ne 58 C dX4_pairFrom_43 (by decide) (fun c3 => ?_) (fun c3 => ?_)
      · have h := (ite_inv h).2 c3
        refine r_iload_n C dX4_pairFrom_58 1 rfl ?_
        refine r_iconst C dX4_pairFrom_59 ic_1 ?_
        refine r_iadd C dX4_pairFrom_60 ?_
        refine r_istore [(5, .int (x1 + 1)), (0, .ref (wb (zw Z) + 124)), (1, .int x1), (2, .int x2), (3, .int x3), (4, .int x4)] C dX4_pairFrom_61 (by decide) rfl ?_
        refine r_sub [(0, .ref (wb (zw Z) + 124)), (1, .int x1), (2, .int x2), (3, .int x3), (4, .int x4), (5, .int (x1 + 1))] [1, 2, 3, 4, 5, 0] rfl ?_
        obtain ⟨m11, e12, h⟩ := bnd_inv h
        refine lp_all (sX4_pairFrom_63 n F x1 x2 x3 x4) (fun q => match q with | (z5, ν) => Wm Z (0, 0, sh, R) (ν) 63 [(0, .ref (wb (zw Z) + 124)), (1, .int x1), (2, .int x2), (3, .int x3), (4, .int x4), (5, .int z5)] []) (fun q => match q with | ν => Wm Z (0, 0, sh, R) (ν) 135 [(0, .ref (wb (zw Z) + 124)), (1, .int x1), (2, .int x2), (3, .int x3), (4, .int x4)] []) (fun q o h kin kex => ?_) n (x1 + 1, μ) m11 e12 ?_
        · obtain ⟨z5, ν⟩ := q; exact lX4_pairFrom_63 C hR hY n F hD hF0 x1 x2 x3 x4 z5 ν h (fun z5 ν e => kin (z5, ν) e) (fun ν e => kex (ν) e)
        show Wm Z (0, 0, sh, R) m11 135 [(0, .ref (wb (zw Z) + 124)), (1, .int x1), (2, .int x2), (3, .int x3), (4, .int x4)] []
        refine r_iload C dX4_pairFrom_135 4 rfl ?_
        refine r_if_eq 157 C dX4_pairFrom_137 (by decide) (fun c13 => ?_) (fun c13 => ?_)
        · have h := (ite_inv h).1 c13
          have h := Option.some.inj h
          subst h
          exact r_vret C dX4_pairFrom_157 hr hE
        · have h := (ite_inv h).2 c13
          refine r_aload_n C dX4_pairFrom_140 0 rfl ?_
          refine r_getR C flX4_15 dX4_pairFrom_141 (ly124 hY) rfl (lr124_1 hY) ?_
          refine r_iload_n C dX4_pairFrom_144 1 rfl ?_
          refine r_iconst C dX4_pairFrom_145 ic_m1 ?_
          obtain ⟨b14, h⟩ := gd_inv h
          refine r_iast C dX4_pairFrom_146 (ly126 hY) b14 ?_
          refine r_aload_n C dX4_pairFrom_147 0 rfl ?_
          refine r_iload_n C dX4_pairFrom_148 1 rfl ?_
          refine r_iconst C dX4_pairFrom_149 ic_1 ?_
          refine r_iadd C dX4_pairFrom_150 ?_
          refine r_iload_n C dX4_pairFrom_151 2 rfl ?_
          refine r_iload_n C dX4_pairFrom_152 3 rfl ?_
          refine r_iconst C dX4_pairFrom_153 ic_0 ?_
          obtain ⟨m16, e15, h⟩ := bnd_inv h
          refine r_cVv (As := [.int (x1 + 1), .int x2, .int x3, .int 0]) (rest := []) C hR mlX4_29 dX4_pairFrom_154 (hF0 _ _ _ _ _ _ e15) rfl rfl (ly124 hY) rfl (by omega) (nle rfl) (nle rfl) ?_
          have h := Option.some.inj h
          subst h
          exact r_vret C dX4_pairFrom_157 hr hE
      · have h := (ite_inv h).1 c3
        refine r_aload_n C dX4_pairFrom_46 0 rfl ?_
        refine r_iload_n C dX4_pairFrom_47 1 rfl ?_
        refine r_iconst C dX4_pairFrom_48 ic_1 ?_
        refine r_iadd C dX4_pairFrom_49 ?_
        refine r_iload_n C dX4_pairFrom_50 2 rfl ?_
        refine r_iload_n C dX4_pairFrom_51 3 rfl ?_
        refine r_iload C dX4_pairFrom_52 4 rfl ?_
        obtain ⟨m18, e17, h⟩ := bnd_inv h
        refine r_cVv (As := [.int (x1 + 1), .int x2, .int x3, .int x4]) (rest := []) C hR mlX4_29 dX4_pairFrom_54 (hF0 _ _ _ _ _ _ e17) rfl rfl (ly124 hY) rfl (by omega) (nle rfl) (nle rfl) ?_
        have h := Option.some.inj h
        subst h
        exact r_vret C dX4_pairFrom_57 hr hE
    · have h := (ite_inv h).2 c2
      refine r_aload_n C dX4_pairFrom_17 0 rfl ?_
      refine r_iload_n C dX4_pairFrom_18 3 rfl ?_
      refine r_putI C fiX4_26 dX4_pairFrom_19 (ly124 hY) ?_
      refine r_aload_n C dX4_pairFrom_22 0 rfl ?_
      refine r_getR C flX4_15 dX4_pairFrom_23 (ly124 hY) rfl (lr124_1 hY) ?_
      refine r_iconst C dX4_pairFrom_26 ic_0 ?_
      refine r_aload_n C dX4_pairFrom_27 0 rfl ?_
      refine r_getR C flX4_18 dX4_pairFrom_28 (ly124 hY) rfl (lr124_2 hY) ?_
      refine r_iconst C dX4_pairFrom_31 ic_0 ?_
      refine r_bipush C dX4_pairFrom_32 bp_8 ?_
      refine r_acopy C acX4_33 dX4_pairFrom_34 (ly126 hY) (ly127 hY) (by decide) (rmA hR (by omega)) (nle rfl) acw ?_
      have h := Option.some.inj h
      subst h
      exact r_vret C dX4_pairFrom_37 hr hE
  · have h := (ite_inv h).2 c1
    have h := Option.some.inj h
    subst h
    exact r_vret C dX4_pairFrom_8 hr hE
def fX4_Q (n : Nat) : Nat → Nat → Int32 → Int32 → Int32 → Int32 → Mu → Option (Mu)
  | 0 => fun _ _ _ _ _ _ => none
  | d + 1 => fun k x1 x2 x3 x4 μ => match k with
    | _ => bX4_pairFrom n (fX4_Q n d) x1 x2 x3 x4 μ
theorem gX4_Q {l : Launch} {w : WP} {sh : List Sh} {R : Rf} (hY : LY sh R) (n : Nat) : ∀ d : Nat, (∀ (x1 : Int32) (x2 : Int32) (x3 : Int32) (x4 : Int32) (μ μ' : Mu), fX4_Q n d 0 x1 x2 x3 x4 μ = some μ' → CM l w yX4_pairFrom cX4_pairFrom 6 none (d + 1) 0 0 sh R [.ref (wb w + 124), .int x1, .int x2, .int x3, .int x4] μ none sh R μ') := by
  intro d
  induction d with
  | zero => exact fun _ _ _ _ _ _ h => by cases h
  | succ d ih =>
    have h0 := ih
    have e : d + 1 + 1 = d + 1 + 1 := by omega
    rw [e]
    exact fun v0 v1 v2 v3 _ _ h => qX4_pairFrom hY n (fX4_Q n d) v0 v1 v2 v3 (d + 1) (by omega) h0 h
def fX4_pairFrom (n : Nat) (x1 : Int32) (x2 : Int32) (x3 : Int32) (x4 : Int32) (μ : Mu) : Option (Mu) := fX4_Q n 12 0 x1 x2 x3 x4 μ
theorem tX4_pairFrom {l : Launch} {w : WP} {sh : List Sh} {R : Rf} {μ : Mu} {μ' : Mu} (hY : LY sh R) (n : Nat) (x1 : Int32) (x2 : Int32) (x3 : Int32) (x4 : Int32) (h : fX4_pairFrom n x1 x2 x3 x4 μ = some μ') : CM l w yX4_pairFrom cX4_pairFrom 6 none 13 0 0 sh R [.ref (wb w + 124), .int x1, .int x2, .int x3, .int x4] μ none sh R μ' := (gX4_Q hY n 12) _ _ _ _ _ _ h
def fX4_solve (n : Nat) (x1 : Int32) (μ : Mu) : Option (Mu) := bnd (fX4_pairFrom n 0 ((shl 1 x1) - 1) 0 (if (jrem x1 2) = 1 then 1 else 0 : Int32) (wI (wI μ 124 4 x1) 124 3 100000)) fun m3 => some m3
set_option maxRecDepth 100000 in
set_option maxHeartbeats 4000000 in
theorem tX4_solve {l : Launch} {w : WP} {sh : List Sh} {R : Rf} {μ : Mu} {μ' : Mu} (hY : LY sh R) (n : Nat) (x1 : Int32)  (h : fX4_solve n x1 μ = some μ') : CM l w yX4_solve cX4_solve 2 none 14 0 0 sh R [.ref (wb w + 124), .int x1] μ none sh R μ' := by
  refine CM.of (plainFor_of_name pf_X4) (Nat.le_of_ble_eq_true rfl) fun Z C hr _ hR hw hl hE => ?_
  subst hw; subst hl
  have C : CX Z cX4_solve 2 RX4 := C
  show Wm Z (0, 0, sh, R) μ 0 [(0, .ref (wb (zw Z) + 124)), (1, .int x1)] []
  unfold fX4_solve at h
  refine r_aload_n C dX4_solve_0 0 rfl ?_
  refine r_iload_n C dX4_solve_1 1 rfl ?_
  refine r_putI C fiX4_21 dX4_solve_2 (ly124 hY) ?_
  refine r_aload_n C dX4_solve_5 0 rfl ?_
  refine r_ldc C dX4_solve_6 kkX4_25 ?_
  refine r_putI C fiX4_26 dX4_solve_8 (ly124 hY) ?_
  refine r_aload_n C dX4_solve_11 0 rfl ?_
  refine r_iconst C dX4_solve_12 ic_0 ?_
  refine r_iconst C dX4_solve_13 ic_1 ?_
  refine r_iload_n C dX4_solve_14 1 rfl ?_
  refine r_ishl C dX4_solve_15 ?_
  refine r_iconst C dX4_solve_16 ic_1 ?_
  refine r_isub C dX4_solve_17 ?_
  refine r_iconst C dX4_solve_18 ic_0 ?_
  refine r_iload_n C dX4_solve_19 1 rfl ?_
  refine r_iconst C dX4_solve_20 ic_2 ?_
  refine r_irem C dX4_solve_21 (by decide) ?_
  refine r_iconst C dX4_solve_22 ic_1 ?_
  suffices hj : Wm Z (0, 0, sh, R) (wI (wI μ 124 4 x1) 124 3 100000) 31 [(0, .ref (wb (zw Z) + 124)), (1, .int x1)] [.int (if (jrem x1 2) = 1 then 1 else 0 : Int32), .int 0, .int ((shl 1 x1) - 1), .int 0, .ref (wb (zw Z) + 124)] by
    refine r_icmp_ne 30 C dX4_solve_23 (by decide) (fun c1 => ?_) (fun c1 => ?_)
    · refine r_iconst C dX4_solve_30 ic_0 ?_
      exact sel_f c1 hj
    · refine r_iconst C dX4_solve_26 ic_1 ?_
      refine r_goto 31 C dX4_solve_27 (by decide) ?_
      exact sel_t c1 hj
  obtain ⟨m3, e2, h⟩ := bnd_inv h
  refine r_cVv (As := [.int 0, .int ((shl 1 x1) - 1), .int 0, .int (if (jrem x1 2) = 1 then 1 else 0 : Int32)]) (rest := []) C hR mlX4_29 dX4_solve_31 (tX4_pairFrom hY n 0 ((shl 1 x1) - 1) 0 (if (jrem x1 2) = 1 then 1 else 0 : Int32)  e2) rfl rfl (ly124 hY) rfl (nle rfl) (nle rfl) (nle rfl) ?_
  have h := Option.some.inj h
  subst h
  exact r_vret C dX4_solve_34 hr hE
