/-! IMAGES: the class's two methods -/
theorem r_aald6 {Z : ZC} {G : GC} {μ : Mu} {pc : Nat} {lv : List (Nat × Value)} {r : List Value} {cc : ByteArray} {nL : Nat} {own : String} {b : Nat} {i : Int32} (C : CX Z cc nL own) (d : decode cc pc = .ok (.aaload, 1)) (hs : G.2.2.1[137]? = some (.inr (6, 2))) (hb : ib i 2 = true) (hr : G.2.2.2 137 (ix i) = some b) (k : Wm Z G μ (pc + 1) lv (.ref (wb (zw Z) + b) :: r)) : Wm Z G μ pc lv (.int i :: .ref (wb (zw Z) + 137) :: r) := r_aald (t := 6) (n := 2) C d hs (by decide) rfl rfl hb hr k
theorem r_aald6N {Z : ZC} {G : GC} {μ : Mu} {pc : Nat} {lv : List (Nat × Value)} {r : List Value} {cc : ByteArray} {nL : Nat} {own : String} {i : Int32} (C : CX Z cc nL own) (d : decode cc pc = .ok (.aaload, 1)) (hs : G.2.2.1[137]? = some (.inr (6, 2))) (hb : ib i 2 = true) (hr : G.2.2.2 137 (ix i) = none) (k : Wm Z G μ (pc + 1) lv (.null :: r)) : Wm Z G μ pc lv (.int i :: .ref (wb (zw Z) + 137) :: r) := r_aaldN (t := 6) (n := 2) C d hs (by decide) rfl rfl hb hr k
set_option maxRecDepth 100000 in
set_option maxHeartbeats 4000000 in
theorem tX11_restoreA {l : Launch} {w : WP} {sh : List Sh} {R : Rf} {μ : Mu} (hY : LY sh R) (n : Nat) (x1 : Int32) (h : fX11_within n x1 0 1 μ = some 0) : CM l w yX11_restore cX11_restore 2 (some .int) 3 0 0 sh R [.ref (wb w + 0), .int x1] μ (some (.int (-2))) sh R μ := by
  refine CM.of (plainFor_of_name pf_X11) (Nat.le_of_ble_eq_true rfl) fun Z C hr _ hR hw hl hE => ?_
  subst hw; subst hl
  have C : CX Z cX11_restore 2 RX11 := C
  show Wm Z (0, 0, sh, R) μ 0 [(0, .ref (wb (zw Z) + 0)), (1, .int x1)] []
  refine r_iload_n C dX11_restore_0 1 rfl ?_
  refine r_iconst C dX11_restore_1 ic_0 ?_
  refine r_iconst C dX11_restore_2 ic_1 ?_
  refine r_cSi (As := [.int x1, .int 0, .int 1]) (rest := []) C hR mlX11_197 dX11_restore_3 (tX11_within hY n x1 0 1 h) rfl rfl (nle rfl) (nle rfl) (nle rfl) ?_
  refine r_if_ne 12 C dX11_restore_6 (by decide) (fun c => absurd rfl c) (fun _ => ?_)
  refine r_bipush C dX11_restore_9 bp_m2 ?_
  exact r_iret C dX11_restore_11 hr hE
set_option maxRecDepth 100000 in
set_option maxHeartbeats 4000000 in
theorem tX11_restoreB {l : Launch} {w : WP} {sh : List Sh} {R : Rf} {μ : Mu} (hY : LY sh R) (n : Nat) (x1 : Int32) (h : fX11_within n x1 0 1 μ = some 1) (hb : ib x1 2 = true) (hN : R 137 (ix x1) = none) : CM l w yX11_restore cX11_restore 2 (some .int) 3 0 0 sh R [.ref (wb w + 0), .int x1] μ (some (.int (-5))) sh R μ := by
  refine CM.of (plainFor_of_name pf_X11) (Nat.le_of_ble_eq_true rfl) fun Z C hr _ hR hw hl hE => ?_
  subst hw; subst hl
  have C : CX Z cX11_restore 2 RX11 := C
  show Wm Z (0, 0, sh, R) μ 0 [(0, .ref (wb (zw Z) + 0)), (1, .int x1)] []
  refine r_iload_n C dX11_restore_0 1 rfl ?_
  refine r_iconst C dX11_restore_1 ic_0 ?_
  refine r_iconst C dX11_restore_2 ic_1 ?_
  refine r_cSi (As := [.int x1, .int 0, .int 1]) (rest := []) C hR mlX11_197 dX11_restore_3 (tX11_within hY n x1 0 1 h) rfl rfl (nle rfl) (nle rfl) (nle rfl) ?_
  refine r_if_ne 12 C dX11_restore_6 (by decide) (fun _ => ?_) (fun c => absurd c (by decide))
  refine r_aload_n C dX11_restore_12 0 rfl ?_
  refine r_getR C flX11_88 dX11_restore_13 (ly0 hY) rfl (lr0_13 hY) ?_
  refine r_iload_n C dX11_restore_16 1 rfl ?_
  refine r_aald6N C dX11_restore_17 (ly137 hY) hb hN ?_
  refine r_nnN C dX11_restore_18 ?_
  refine r_bipush C dX11_restore_21 bp_m5 ?_
  exact r_iret C dX11_restore_23 hr hE
set_option maxRecDepth 100000 in
set_option maxHeartbeats 4000000 in
theorem tX11_restoreC {l : Launch} {w : WP} {sh : List Sh} {R : Rf} {μ μ1 μ2 μ3 μ4 : Mu} (hY : LY sh R) (n : Nat) (x1 : Int32) (h : fX11_within n x1 0 1 μ = some 1) (hb : ib x1 2 = true) {a : Nat} (hN : R 137 (ix x1) = some a) (hI : isIm sh R a) (h1 : fX7_copyFrom n 2 (a + 1) μ = some μ1) (h2 : fX8_copyFrom n 34 (a + 12) μ1 = some μ2) (h3 : fX6_forget n μ2 = some μ3) (h4 : fX1_forget n μ3 = some μ4) : CM l w yX11_restore cX11_restore 2 (some .int) 3 0 0 sh R [.ref (wb w + 0), .int x1] μ (some (.int 0)) sh R μ4 := by
  refine CM.of (plainFor_of_name pf_X11) (Nat.le_of_ble_eq_true rfl) fun Z C hr _ hR hw hl hE => ?_
  subst hw; subst hl
  have C : CX Z cX11_restore 2 RX11 := C
  show Wm Z (0, 0, sh, R) μ 0 [(0, .ref (wb (zw Z) + 0)), (1, .int x1)] []
  refine r_iload_n C dX11_restore_0 1 rfl ?_
  refine r_iconst C dX11_restore_1 ic_0 ?_
  refine r_iconst C dX11_restore_2 ic_1 ?_
  refine r_cSi (As := [.int x1, .int 0, .int 1]) (rest := []) C hR mlX11_197 dX11_restore_3 (tX11_within hY n x1 0 1 h) rfl rfl (nle rfl) (nle rfl) (nle rfl) ?_
  refine r_if_ne 12 C dX11_restore_6 (by decide) (fun _ => ?_) (fun c => absurd c (by decide))
  refine r_aload_n C dX11_restore_12 0 rfl ?_
  refine r_getR C flX11_88 dX11_restore_13 (ly0 hY) rfl (lr0_13 hY) ?_
  refine r_iload_n C dX11_restore_16 1 rfl ?_
  refine r_aald6 C dX11_restore_17 (ly137 hY) hb hN ?_
  refine r_nn 24 C dX11_restore_18 (by decide) ?_
  refine r_aload_n C dX11_restore_24 0 rfl ?_
  refine r_getR C flX11_26 dX11_restore_25 (ly0 hY) rfl (lr0_4 hY) ?_
  refine r_aload_n C dX11_restore_28 0 rfl ?_
  refine r_getR C flX11_88 dX11_restore_29 (ly0 hY) rfl (lr0_13 hY) ?_
  refine r_iload_n C dX11_restore_32 1 rfl ?_
  refine r_aald6 C dX11_restore_33 (ly137 hY) hb hN ?_
  refine r_getR C flX11_355 dX11_restore_34 (isIm_0 hI) rfl (isIm_r0 hI) ?_
  refine r_cVv (As := [.ref (wb (zw Z) + (a + 1))]) (rest := []) C hR mlX11_111 dX11_restore_37 (tX7_copyFrom hY n 2 (a + 1) (lySea hY) (isIm_sea hI) h1) rfl rfl (ly2 hY) rfl (nle rfl) (nle rfl) (nle rfl) ?_
  refine r_aload_n C dX11_restore_40 0 rfl ?_
  refine r_getR C flX11_49 dX11_restore_41 (ly0 hY) rfl (lr0_7 hY) ?_
  refine r_aload_n C dX11_restore_44 0 rfl ?_
  refine r_getR C flX11_88 dX11_restore_45 (ly0 hY) rfl (lr0_13 hY) ?_
  refine r_iload_n C dX11_restore_48 1 rfl ?_
  refine r_aald6 C dX11_restore_49 (ly137 hY) hb hN ?_
  refine r_getR C flX11_356 dX11_restore_50 (isIm_0 hI) rfl (isIm_r1 hI) ?_
  refine r_cVv (As := [.ref (wb (zw Z) + (a + 12))]) (rest := []) C hR mlX11_236 dX11_restore_53 (tX8_copyFrom hY n 34 (a + 12) (lyNow hY) (isIm_st hI) h2) rfl rfl (ly34 hY) rfl (nle rfl) (nle rfl) (nle rfl) ?_
  refine r_aload_n C dX11_restore_56 0 rfl ?_
  refine r_getR C flX11_42 dX11_restore_57 (ly0 hY) rfl (lr0_6 hY) ?_
  refine r_cVv (As := []) (rest := []) C hR mlX11_114 dX11_restore_60 (tX6_forget hY n h3) rfl rfl (ly28 hY) rfl (nle rfl) (nle rfl) (nle rfl) ?_
  refine r_aload_n C dX11_restore_63 0 rfl ?_
  refine r_getR C flX11_59 dX11_restore_64 (ly0 hY) rfl (lr0_9 hY) ?_
  refine r_cVv (As := []) (rest := []) C hR mlX11_120 dX11_restore_67 (tX1_forget hY n h4) rfl rfl (ly48 hY) rfl (nle rfl) (nle rfl) (nle rfl) ?_
  refine r_iconst C dX11_restore_70 ic_0 ?_
  exact r_iret C dX11_restore_71 hr hE
set_option maxRecDepth 100000 in
set_option maxHeartbeats 4000000 in
theorem tX11_imageA {l : Launch} {w : WP} {sh : List Sh} {R : Rf} {μ : Mu} (hY : LY sh R) (n : Nat) (x1 : Int32) (h : fX11_within n x1 0 1 μ = some 0) : CM l w yX11_image cX11_image 2 (some .int) 4 19 1107 sh R [.ref (wb w + 0), .int x1] μ (some (.int (-2))) sh R μ := by
  refine CM.of (plainFor_of_name pf_X11) (Nat.le_of_ble_eq_true rfl) fun Z C hr _ hR hw hl hE => ?_
  subst hw; subst hl
  have C : CX Z cX11_image 2 RX11 := C
  show Wm Z (0, 0, sh, R) μ 0 [(0, .ref (wb (zw Z) + 0)), (1, .int x1)] []
  refine r_iload_n C dX11_image_0 1 rfl ?_
  refine r_iconst C dX11_image_1 ic_0 ?_
  refine r_iconst C dX11_image_2 ic_1 ?_
  refine r_callS (G := (0, 0, sh, R)) (As := [.int x1, .int 0, .int 1]) (rest := []) C mlX11_197 dX11_image_3 (tX11_within hY n x1 0 1 h) rfl rfl (by rw [hR]; exact ⟨nle rfl, nle rfl⟩) (by rw [hR]; exact ⟨nle rfl, nle rfl⟩) (nle rfl) ?_
  show Wm Z (0, 0, sh, R) μ 6 [(0, .ref (wb (zw Z) + 0)), (1, .int x1)] [.int 0]
  refine r_if_ne 12 C dX11_image_6 (by decide) (fun c => absurd rfl c) (fun _ => ?_)
  refine r_bipush C dX11_image_9 bp_m2 ?_
  refine r_wide (mc := 19) (ms := 1107) ⟨nle rfl, nle rfl⟩ ?_
  exact r_iret C dX11_image_11 hr hE
set_option maxRecDepth 100000 in
set_option maxHeartbeats 4000000 in
theorem imageTail {Z : ZC} {sh : List Sh} {R : Rf} {μ μ1 μ2 : Mu} {c s : Nat} (C : CX Z cX11_image 2 RX11) (hR : zR Z = rm 4 19 1107) (hr : (zme Z).sig.returnType = some .int) (hY : LY sh R) (n : Nat) (x1 : Int32) (hb : ib x1 2 = true) {a : Nat} (hN : R 137 (ix x1) = some a) (hI : isIm sh R a) (h1 : fX7_copyFrom n (a + 1) 2 μ = some μ1) (h2 : fX8_copyFrom n (a + 12) 34 μ1 = some μ2) (hc : c ≤ 19 ∧ s ≤ 1107) (hE : zEnd Z (19, 1107, sh, R) μ2 (some (.int 0))) : Wm Z (c, s, sh, R) μ 34 [(0, .ref (wb (zw Z) + 0)), (1, .int x1)] [] := by
  refine r_wide (mc := 19) (ms := 1107) hc ?_
  show Wm Z (19, 1107, sh, R) μ 34 [(0, .ref (wb (zw Z) + 0)), (1, .int x1)] []
  refine r_aload_n C dX11_image_34 0 rfl ?_
  refine r_getR C flX11_88 dX11_image_35 (ly0 hY) rfl (lr0_13 hY) ?_
  refine r_iload_n C dX11_image_38 1 rfl ?_
  refine r_aald6 C dX11_image_39 (ly137 hY) hb hN ?_
  refine r_getR C flX11_355 dX11_image_40 (isIm_0 hI) rfl (isIm_r0 hI) ?_
  refine r_aload_n C dX11_image_43 0 rfl ?_
  refine r_getR C flX11_26 dX11_image_44 (ly0 hY) rfl (lr0_4 hY) ?_
  refine r_callV (G := (19, 1107, sh, R)) (a := a + 1) (As := [.ref (wb (zw Z) + 2)]) (rest := []) C mlX11_111 dX11_image_47 (tX7_copyFrom hY n (a + 1) 2 (isIm_sea hI) (lySea hY) h1) rfl rfl (isIm_1 hI) rfl (by rw [hR]; exact ⟨nle rfl, nle rfl⟩) (by rw [hR]; exact ⟨nle rfl, nle rfl⟩) (nle rfl) ?_
  show Wm Z (19, 1107, sh, R) μ1 50 [(0, .ref (wb (zw Z) + 0)), (1, .int x1)] []
  refine r_aload_n C dX11_image_50 0 rfl ?_
  refine r_getR C flX11_88 dX11_image_51 (ly0 hY) rfl (lr0_13 hY) ?_
  refine r_iload_n C dX11_image_54 1 rfl ?_
  refine r_aald6 C dX11_image_55 (ly137 hY) hb hN ?_
  refine r_getR C flX11_356 dX11_image_56 (isIm_0 hI) rfl (isIm_r1 hI) ?_
  refine r_aload_n C dX11_image_59 0 rfl ?_
  refine r_getR C flX11_49 dX11_image_60 (ly0 hY) rfl (lr0_7 hY) ?_
  refine r_callV (G := (19, 1107, sh, R)) (a := a + 12) (As := [.ref (wb (zw Z) + 34)]) (rest := []) C mlX11_236 dX11_image_63 (tX8_copyFrom hY n (a + 12) 34 (isIm_st hI) (lyNow hY) h2) rfl rfl (isIm_12 hI) rfl (by rw [hR]; exact ⟨nle rfl, nle rfl⟩) (by rw [hR]; exact ⟨nle rfl, nle rfl⟩) (nle rfl) ?_
  show Wm Z (19, 1107, sh, R) μ2 66 [(0, .ref (wb (zw Z) + 0)), (1, .int x1)] []
  refine r_iconst C dX11_image_66 ic_0 ?_
  exact r_iret C dX11_image_67 hr hE
set_option maxRecDepth 100000 in
set_option maxHeartbeats 4000000 in
theorem tX11_imageB {l : Launch} {w : WP} {sh : List Sh} {R : Rf} {μ μ1 μ2 : Mu} (hY : LY sh R) (n : Nat) (x1 : Int32) (h : fX11_within n x1 0 1 μ = some 1) (hb : ib x1 2 = true) {a : Nat} (hN : R 137 (ix x1) = some a) (hI : isIm sh R a) (h1 : fX7_copyFrom n (a + 1) 2 μ = some μ1) (h2 : fX8_copyFrom n (a + 12) 34 μ1 = some μ2) : CM l w yX11_image cX11_image 2 (some .int) 4 19 1107 sh R [.ref (wb w + 0), .int x1] μ (some (.int 0)) sh R μ2 := by
  refine CM.of (plainFor_of_name pf_X11) (Nat.le_of_ble_eq_true rfl) fun Z C hr _ hR hw hl hE => ?_
  subst hw; subst hl
  have C : CX Z cX11_image 2 RX11 := C
  show Wm Z (0, 0, sh, R) μ 0 [(0, .ref (wb (zw Z) + 0)), (1, .int x1)] []
  refine r_iload_n C dX11_image_0 1 rfl ?_
  refine r_iconst C dX11_image_1 ic_0 ?_
  refine r_iconst C dX11_image_2 ic_1 ?_
  refine r_callS (G := (0, 0, sh, R)) (As := [.int x1, .int 0, .int 1]) (rest := []) C mlX11_197 dX11_image_3 (tX11_within hY n x1 0 1 h) rfl rfl (by rw [hR]; exact ⟨nle rfl, nle rfl⟩) (by rw [hR]; exact ⟨nle rfl, nle rfl⟩) (nle rfl) ?_
  show Wm Z (0, 0, sh, R) μ 6 [(0, .ref (wb (zw Z) + 0)), (1, .int x1)] [.int 1]
  refine r_if_ne 12 C dX11_image_6 (by decide) (fun _ => ?_) (fun c => absurd c (by decide))
  refine r_aload_n C dX11_image_12 0 rfl ?_
  refine r_getR C flX11_88 dX11_image_13 (ly0 hY) rfl (lr0_13 hY) ?_
  refine r_iload_n C dX11_image_16 1 rfl ?_
  refine r_aald6 C dX11_image_17 (ly137 hY) hb hN ?_
  refine r_nn 34 C dX11_image_18 (by decide) ?_
  exact imageTail C hR hr hY n x1 hb hN hI h1 h2 ⟨by decide, by decide⟩ hE
/-- an image made -/
def imT (i k : Nat) (T : TT) : TT := prT 137 i k (iX2 k (k + 1) (nwT k (.inl 2) T))
set_option maxRecDepth 100000 in
set_option maxHeartbeats 4000000 in
theorem tX11_imageC {l : Launch} {w : WP} {T : TT} {k : Nat} {μ1 μ2 : Mu} (hl : T.1.length = k) (hY : LY T.1 T.2.1) (n : Nat) (x1 : Int32) (h : fX11_within n x1 0 1 T.2.2 = some 1) (hb : ib x1 2 = true) (hN : T.2.1 137 (ix x1) = none) (hY' : LY (imT (ix x1) k T).1 (imT (ix x1) k T).2.1) (hN' : (imT (ix x1) k T).2.1 137 (ix x1) = some k) (hI : isIm (imT (ix x1) k T).1 (imT (ix x1) k T).2.1 k) (h1 : fX7_copyFrom n (k + 1) 2 (imT (ix x1) k T).2.2 = some μ1) (h2 : fX8_copyFrom n (k + 12) 34 μ1 = some μ2) : CM l w yX11_image cX11_image 2 (some .int) 4 19 1107 T.1 T.2.1 [.ref (wb w + 0), .int x1] T.2.2 (some (.int 0)) (imT (ix x1) k T).1 (imT (ix x1) k T).2.1 μ2 := by
  refine CM.of (plainFor_of_name pf_X11) (Nat.le_of_ble_eq_true rfl) fun Z C hr _ hR hw hl0 hE => ?_
  subst hw; subst hl0
  have C : CX Z cX11_image 2 RX11 := C
  show Wm Z (0, 0, T.1, T.2.1) T.2.2 0 [(0, .ref (wb (zw Z) + 0)), (1, .int x1)] []
  refine r_iload_n C dX11_image_0 1 rfl ?_
  refine r_iconst C dX11_image_1 ic_0 ?_
  refine r_iconst C dX11_image_2 ic_1 ?_
  refine r_callS (G := (0, 0, T.1, T.2.1)) (As := [.int x1, .int 0, .int 1]) (rest := []) C mlX11_197 dX11_image_3 (tX11_within hY n x1 0 1 h) rfl rfl (by rw [hR]; exact ⟨nle rfl, nle rfl⟩) (by rw [hR]; exact ⟨nle rfl, nle rfl⟩) (nle rfl) ?_
  show Wm Z (0, 0, T.1, T.2.1) T.2.2 6 [(0, .ref (wb (zw Z) + 0)), (1, .int x1)] [.int 1]
  refine r_if_ne 12 C dX11_image_6 (by decide) (fun _ => ?_) (fun c => absurd c (by decide))
  refine r_aload_n C dX11_image_12 0 rfl ?_
  refine r_getR C flX11_88 dX11_image_13 (ly0 hY) rfl (lr0_13 hY) ?_
  refine r_iload_n C dX11_image_16 1 rfl ?_
  refine r_aald6N C dX11_image_17 (ly137 hY) hb hN ?_
  refine r_nnN C dX11_image_18 ?_
  refine r_aload_n C dX11_image_21 0 rfl ?_
  refine r_getR C flX11_88 dX11_image_22 (ly0 hY) rfl (lr0_13 hY) ?_
  refine r_iload_n C dX11_image_25 1 rfl ?_
  refine q_new (T := T) (k := k) hl C kc2 tyX2_ok df2 clX11_86 in2 ii2 dX11_image_26 (by rw [hR]; exact ⟨nle rfl, nle rfl⟩) ?_
  refine r_dup C dX11_image_29 rfl ?_
  refine r_callIN (a := k) (As := []) (rest := [.ref (wb (zw Z) + k), .int x1, .ref (wb (zw Z) + 137)]) C (by decide) wmX2_init wiX2_init wcX2_init wdX2_init rfl dX11_image_30 (tX2_init (T := nwT k (.inl 2) T) (a := k) (k := k + 1) (nw_len hl) (nw_new hl)) rfl rfl (by rw [hR]; exact ⟨nle rfl, nle rfl⟩) (by rw [hR]; exact ⟨nle rfl, nle rfl⟩) (nle rfl) ?_
  show Wm Z (19, 1107, (iX2 k (k + 1) (nwT k (.inl 2) T)).1, (iX2 k (k + 1) (nwT k (.inl 2) T)).2.1) (iX2 k (k + 1) (nwT k (.inl 2) T)).2.2 33 [(0, .ref (wb (zw Z) + 0)), (1, .int x1)] [.ref (wb (zw Z) + k), .int x1, .ref (wb (zw Z) + 137)]
  have px : PX T (iX2 k (k + 1) (nwT k (.inl 2) T)) := ((PX.rfl' T).nw _ _).tr iX2_px
  refine q_aast (T := iX2 k (k + 1) (nwT k (.inl 2) T)) (a := 137) (b := k) (t := 6) (n := 2) C dX11_image_33 (px.get (ly137 hY)) (by decide) (fun _ => rfl) (iX2_px.get (nw_new hl)) kc2.1 hb ?_
  exact imageTail C hR hr hY' n x1 hb hN' hI h1 h2 ⟨by decide, by decide⟩ hE
