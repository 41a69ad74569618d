def fX12_whyWhisper (n : Nat) (y1 : Int64) (μ : Mu) : Option (Int32) := bnd (fX12_isBeach n y1 μ) fun u2 => if u2 = 0 then (some 1) else (if (rI μ 140 67) = 8 then (some 2) else (some 0))
set_option maxRecDepth 100000 in
set_option maxHeartbeats 4000000 in
theorem tX12_whyWhisper {l : Launch} {w : WP} {sh : List Sh} {R : Rf} {μ : Mu} {r : Int32} (hY : LY sh R) (n : Nat) (y1 : Int64)  (h : fX12_whyWhisper n y1 μ = some r) : CM l w yX12_whyWhisper cX12_whyWhisper 3 (some .int) 2 0 0 sh R [.ref (wb w + 139), .long y1] μ (some (.int r)) sh R μ := by
  refine CM.of (plainFor_of_name pf_X12) (Nat.le_of_ble_eq_true rfl) fun Z C hr _ hR hw hl hE => ?_
  subst hw; subst hl
  have C : CX Z cX12_whyWhisper 3 RX12 := C
  show Wm Z (0, 0, sh, R) μ 0 [(0, .ref (wb (zw Z) + 139)), (1, .long y1)] []
  unfold fX12_whyWhisper at h
  refine r_aload_n C dX12_whyWhisper_0 0 rfl ?_
  refine r_lload_n C dX12_whyWhisper_1 1 rfl ?_
  obtain ⟨u2, e1, h⟩ := bnd_inv h
  refine r_cVi (As := [.long y1]) (rest := []) C hR mlX12_244 dX12_whyWhisper_2 (tX12_isBeach hY n y1  e1) rfl rfl (ly139 hY) rfl (nle rfl) (nle rfl) (nle rfl) ?_
  refine r_if_ne 12 C dX12_whyWhisper_5 (by decide) (fun c3 => ?_) (fun c3 => ?_)
  · have h := (ite_inv h).2 c3
    refine r_aload_n C dX12_whyWhisper_12 0 rfl ?_
    refine r_getR C flX12_13 dX12_whyWhisper_13 (ly139 hY) rfl (lr139_1 hY) ?_
    refine r_bipush C dX12_whyWhisper_16 bp_67 ?_
    refine r_iald C dX12_whyWhisper_18 (ly140 hY) (by decide) ?_
    refine r_bipush C dX12_whyWhisper_19 bp_8 ?_
    refine r_icmp_ne 28 C dX12_whyWhisper_21 (by decide) (fun c4 => ?_) (fun c4 => ?_)
    · have h := (ite_inv h).2 c4
      refine r_iconst C dX12_whyWhisper_28 ic_0 ?_
      have h := Option.some.inj h
      subst h
      exact r_iret C dX12_whyWhisper_29 hr hE
    · have h := (ite_inv h).1 c4
      refine r_iconst C dX12_whyWhisper_24 ic_2 ?_
      refine r_goto 29 C dX12_whyWhisper_25 (by decide) ?_
      have h := Option.some.inj h
      subst h
      exact r_iret C dX12_whyWhisper_29 hr hE
  · have h := (ite_inv h).1 c3
    refine r_iconst C dX12_whyWhisper_8 ic_1 ?_
    refine r_goto 29 C dX12_whyWhisper_9 (by decide) ?_
    have h := Option.some.inj h
    subst h
    exact r_iret C dX12_whyWhisper_29 hr hE
def fX12_whyLay (n : Nat) (y1 : Int64) (μ : Mu) : Option (Int32) := bnd (fX12_isShell n y1 μ) fun u2 => if u2 = 0 then (some 1) else (gd (ib (68 + (y1.toInt32)) 6726) (if (rI μ 140 (ix (68 + (y1.toInt32)))) = (-1) then (some 2) else (some 0)))
set_option maxRecDepth 100000 in
set_option maxHeartbeats 4000000 in
theorem tX12_whyLay {l : Launch} {w : WP} {sh : List Sh} {R : Rf} {μ : Mu} {r : Int32} (hY : LY sh R) (n : Nat) (y1 : Int64)  (h : fX12_whyLay n y1 μ = some r) : CM l w yX12_whyLay cX12_whyLay 3 (some .int) 2 0 0 sh R [.ref (wb w + 139), .long y1] μ (some (.int r)) sh R μ := by
  refine CM.of (plainFor_of_name pf_X12) (Nat.le_of_ble_eq_true rfl) fun Z C hr _ hR hw hl hE => ?_
  subst hw; subst hl
  have C : CX Z cX12_whyLay 3 RX12 := C
  show Wm Z (0, 0, sh, R) μ 0 [(0, .ref (wb (zw Z) + 139)), (1, .long y1)] []
  unfold fX12_whyLay at h
  refine r_aload_n C dX12_whyLay_0 0 rfl ?_
  refine r_lload_n C dX12_whyLay_1 1 rfl ?_
  obtain ⟨u2, e1, h⟩ := bnd_inv h
  refine r_cVi (As := [.long y1]) (rest := []) C hR mlX12_236 dX12_whyLay_2 (tX12_isShell hY n y1  e1) rfl rfl (ly139 hY) rfl (nle rfl) (nle rfl) (nle rfl) ?_
  refine r_if_ne 12 C dX12_whyLay_5 (by decide) (fun c3 => ?_) (fun c3 => ?_)
  · have h := (ite_inv h).2 c3
    refine r_aload_n C dX12_whyLay_12 0 rfl ?_
    refine r_getR C flX12_13 dX12_whyLay_13 (ly139 hY) rfl (lr139_1 hY) ?_
    refine r_bipush C dX12_whyLay_16 bp_68 ?_
    refine r_lload_n C dX12_whyLay_18 1 rfl ?_
    refine r_l2i C dX12_whyLay_19 ?_
    refine r_iadd C dX12_whyLay_20 ?_
    obtain ⟨b4, h⟩ := gd_inv h
    refine r_iald C dX12_whyLay_21 (ly140 hY) b4 ?_
    refine r_iconst C dX12_whyLay_22 ic_m1 ?_
    refine r_icmp_ne 30 C dX12_whyLay_23 (by decide) (fun c5 => ?_) (fun c5 => ?_)
    · have h := (ite_inv h).2 c5
      refine r_iconst C dX12_whyLay_30 ic_0 ?_
      have h := Option.some.inj h
      subst h
      exact r_iret C dX12_whyLay_31 hr hE
    · have h := (ite_inv h).1 c5
      refine r_iconst C dX12_whyLay_26 ic_2 ?_
      refine r_goto 31 C dX12_whyLay_27 (by decide) ?_
      have h := Option.some.inj h
      subst h
      exact r_iret C dX12_whyLay_31 hr hE
  · have h := (ite_inv h).1 c3
    refine r_iconst C dX12_whyLay_8 ic_1 ?_
    refine r_goto 31 C dX12_whyLay_9 (by decide) ?_
    have h := Option.some.inj h
    subst h
    exact r_iret C dX12_whyLay_31 hr hE
def sX12_whispers_53 (n : Nat) (x2 : Int32) : Int32 × Mu → Option ((Int32 × Mu) ⊕ (Mu)) := fun q => match q with | (x3, μ) => if 10 ≤ x3 then (some (.inr μ)) else (gd (ib ((100 + (10 * x2)) + x3) 6726) (some (.inl (x3 + 1, wI μ 140 (ix ((100 + (10 * x2)) + x3)) 0))))
set_option maxRecDepth 100000 in
set_option maxHeartbeats 4000000 in
theorem lX12_whispers_53 {Z : ZC} {sh : List Sh} {R : Rf} {o : (Int32 × Mu) ⊕ (Mu)} (C : CX Z cX12_whispers 4 RX12) (hR : zR Z = rm 0 0 0) (hY : LY sh R) (n : Nat) (x2 : Int32) (x3 : Int32) (μ : Mu) (h : sX12_whispers_53 n x2 (x3, μ) = some o) (kin : ∀ (x3 : Int32) (μ : Mu), o = .inl (x3, μ) → Wm Z (0, 0, sh, R) μ 53 [(0, .ref (wb (zw Z) + 139)), (2, .int x2), (3, .int x3)] []) (kex0 : ∀ (μ : Mu), o = .inr μ → Wm Z (0, 0, sh, R) μ 80 [(2, .int x2)] []) : Wm Z (0, 0, sh, R) μ 53 [(0, .ref (wb (zw Z) + 139)), (2, .int x2), (3, .int x3)] [] := by
  unfold sX12_whispers_53 at h
  refine r_iload_n C dX12_whispers_53 2 rfl ?_
  refine r_bipush C dX12_whispers_54 bp_10 ?_
  refine r_icmp_ge 80 C dX12_whispers_56 (by decide) (fun c4 => ?_) (fun c4 => ?_)
  · have h := (ite_inv h).1 c4
    refine r_sub [(2, .int x2)] [1] rfl ?_
    exact kex0 μ (Option.some.inj h).symm
  · have h := (ite_inv h).2 c4
    refine r_aload_n C dX12_whispers_59 0 rfl ?_
    refine r_getR C flX12_13 dX12_whispers_60 (ly139 hY) rfl (lr139_1 hY) ?_
    refine r_bipush C dX12_whispers_63 bp_100 ?_
    refine r_bipush C dX12_whispers_65 bp_10 ?_
    refine r_iload_n C dX12_whispers_67 1 rfl ?_
    refine r_imul C dX12_whispers_68 ?_
    refine r_iadd C dX12_whispers_69 ?_
    refine r_iload_n C dX12_whispers_70 2 rfl ?_
    refine r_iadd C dX12_whispers_71 ?_
    refine r_iconst C dX12_whispers_72 ic_0 ?_
    obtain ⟨b5, h⟩ := gd_inv h
    refine r_iast C dX12_whispers_73 (ly140 hY) b5 ?_
    refine r_iinc [(3, .int (x3 + 1)), (0, .ref (wb (zw Z) + 139)), (2, .int x2)] C dX12_whispers_74 2 rfl (in_1 _) (by decide) rfl ?_
    refine r_goto 53 C dX12_whispers_77 (by decide) ?_
    refine r_sub [(0, .ref (wb (zw Z) + 139)), (2, .int x2), (3, .int (x3 + 1))] [1, 2, 0] rfl ?_
    exact kin (x3 + 1) (wI μ 140 (ix ((100 + (10 * x2)) + x3)) 0) (Option.some.inj h).symm
def fX12_whispers (n : Nat) (x1 : Int32) (μ : Mu) : Option (Int32 × Mu) := gd (ib (76 + (rI μ 140 67)) 6726) (gd (ib (84 + (rI μ 140 67)) 6726) (gd (ib (92 + (rI μ 140 67)) 6726) (bnd (lp n (sX12_whispers_53 n (rI μ 140 67)) (0, wI (wI (wI (wI μ 140 67 ((rI μ 140 67) + 1)) 140 (ix (76 + (rI μ 140 67))) (shl 1 x1)) 140 (ix (84 + (rI μ 140 67))) 0) 140 (ix (92 + (rI μ 140 67))) 0)) fun q => match q with | m6 => some (rI μ 140 67, m6))))
set_option maxRecDepth 100000 in
set_option maxHeartbeats 4000000 in
theorem tX12_whispers {l : Launch} {w : WP} {sh : List Sh} {R : Rf} {μ : Mu} {r : Int32} {μ' : Mu} (hY : LY sh R) (n : Nat) (x1 : Int32)  (h : fX12_whispers n x1 μ = some (r, μ')) : CM l w yX12_whispers cX12_whispers 4 (some .int) 0 0 0 sh R [.ref (wb w + 139), .int x1] μ (some (.int r)) sh R μ' := by
  refine CM.of (plainFor_of_name pf_X12) (Nat.le_of_ble_eq_true rfl) fun Z C hr _ hR hw hl hE => ?_
  subst hw; subst hl
  have C : CX Z cX12_whispers 4 RX12 := C
  show Wm Z (0, 0, sh, R) μ 0 [(0, .ref (wb (zw Z) + 139)), (1, .int x1)] []
  unfold fX12_whispers at h
  refine r_aload_n C dX12_whispers_0 0 rfl ?_
  refine r_getR C flX12_13 dX12_whispers_1 (ly139 hY) rfl (lr139_1 hY) ?_
  refine r_bipush C dX12_whispers_4 bp_67 ?_
  refine r_iald C dX12_whispers_6 (ly140 hY) (by decide) ?_
  refine r_istore_n [(2, .int (rI μ 140 67)), (0, .ref (wb (zw Z) + 139)), (1, .int x1)] C dX12_whispers_7 rfl (by decide) rfl ?_
  refine r_aload_n C dX12_whispers_8 1 rfl ?_
  refine r_getR C flX12_13 dX12_whispers_9 (ly139 hY) rfl (lr139_1 hY) ?_
  refine r_bipush C dX12_whispers_12 bp_67 ?_
  refine r_dup2 C dX12_whispers_14 rfl rfl ?_
  refine r_iald C dX12_whispers_15 (ly140 hY) (by decide) ?_
  refine r_iconst C dX12_whispers_16 ic_1 ?_
  refine r_iadd C dX12_whispers_17 ?_
  refine r_iast C dX12_whispers_18 (ly140 hY) (by decide) ?_
  refine r_aload_n C dX12_whispers_19 1 rfl ?_
  refine r_getR C flX12_13 dX12_whispers_20 (ly139 hY) rfl (lr139_1 hY) ?_
  refine r_bipush C dX12_whispers_23 bp_76 ?_
  refine r_iload_n C dX12_whispers_25 0 rfl ?_
  refine r_iadd C dX12_whispers_26 ?_
  refine r_iconst C dX12_whispers_27 ic_1 ?_
  refine r_iload_n C dX12_whispers_28 2 rfl ?_
  refine r_ishl C dX12_whispers_29 ?_
  obtain ⟨b1, h⟩ := gd_inv h
  refine r_iast C dX12_whispers_30 (ly140 hY) b1 ?_
  refine r_aload_n C dX12_whispers_31 1 rfl ?_
  refine r_getR C flX12_13 dX12_whispers_32 (ly139 hY) rfl (lr139_1 hY) ?_
  refine r_bipush C dX12_whispers_35 bp_84 ?_
  refine r_iload_n C dX12_whispers_37 0 rfl ?_
  refine r_iadd C dX12_whispers_38 ?_
  refine r_iconst C dX12_whispers_39 ic_0 ?_
  obtain ⟨b2, h⟩ := gd_inv h
  refine r_iast C dX12_whispers_40 (ly140 hY) b2 ?_
  refine r_aload_n C dX12_whispers_41 1 rfl ?_
  refine r_getR C flX12_13 dX12_whispers_42 (ly139 hY) rfl (lr139_1 hY) ?_
  refine r_bipush C dX12_whispers_45 bp_92 ?_
  refine r_iload_n C dX12_whispers_47 0 rfl ?_
  refine r_iadd C dX12_whispers_48 ?_
  refine r_iconst C dX12_whispers_49 ic_0 ?_
  obtain ⟨b3, h⟩ := gd_inv h
  refine r_iast C dX12_whispers_50 (ly140 hY) b3 ?_
  refine r_iconst C dX12_whispers_51 ic_0 ?_
  refine r_istore_n [(3, .int 0), (2, .int (rI μ 140 67)), (0, .ref (wb (zw Z) + 139)), (1, .int x1)] C dX12_whispers_52 rfl (by decide) rfl ?_
  refine r_sub [(0, .ref (wb (zw Z) + 139)), (2, .int (rI μ 140 67)), (3, .int 0)] [2, 1, 0] rfl ?_
  obtain ⟨m6, e7, h⟩ := bnd_inv h
  refine lp_all (sX12_whispers_53 n (rI μ 140 67)) (fun q => match q with | (z3, ν) => Wm Z (0, 0, sh, R) (ν) 53 [(0, .ref (wb (zw Z) + 139)), (2, .int (rI μ 140 67)), (3, .int z3)] []) (fun q => match q with | ν => Wm Z (0, 0, sh, R) (ν) 80 [(2, .int (rI μ 140 67))] []) (fun q o h kin kex => ?_) n (0, wI (wI (wI (wI μ 140 67 ((rI μ 140 67) + 1)) 140 (ix (76 + (rI μ 140 67))) (shl 1 x1)) 140 (ix (84 + (rI μ 140 67))) 0) 140 (ix (92 + (rI μ 140 67))) 0) m6 e7 ?_
  · obtain ⟨z3, ν⟩ := q; exact lX12_whispers_53 C hR hY n   (rI μ 140 67) z3 ν h (fun z3 ν e => kin (z3, ν) e) (fun ν e => kex (ν) e)
  show Wm Z (0, 0, sh, R) m6 80 [(2, .int (rI μ 140 67))] []
  refine r_iload_n C dX12_whispers_80 0 rfl ?_
  obtain ⟨h1, h2⟩ := Prod.mk.inj (Option.some.inj h)
  subst h1; subst h2
  exact r_iret C dX12_whispers_81 hr hE
def fX12_seed (n : Nat) (x1 : Int32) (μ : Mu) : Option (Int32 × Mu) := bnd (fX12_keeps n (wI μ 139 0 0)) fun m2 => bnd (fX12_notes n (wI m2 140 66 x1)) fun m4 => some (rI m4 146 2, m4)
set_option maxRecDepth 100000 in
set_option maxHeartbeats 4000000 in
theorem tX12_seed {l : Launch} {w : WP} {sh : List Sh} {R : Rf} {μ : Mu} {r : Int32} {μ' : Mu} (hY : LY sh R) (n : Nat) (x1 : Int32)  (h : fX12_seed n x1 μ = some (r, μ')) : CM l w yX12_seed cX12_seed 2 (some .int) 1 0 0 sh R [.ref (wb w + 139), .int x1] μ (some (.int r)) sh R μ' := by
  refine CM.of (plainFor_of_name pf_X12) (Nat.le_of_ble_eq_true rfl) fun Z C hr _ hR hw hl hE => ?_
  subst hw; subst hl
  have C : CX Z cX12_seed 2 RX12 := C
  show Wm Z (0, 0, sh, R) μ 0 [(0, .ref (wb (zw Z) + 139)), (1, .int x1)] []
  unfold fX12_seed at h
  refine r_aload_n C dX12_seed_0 0 rfl ?_
  refine r_iconst C dX12_seed_1 ic_0 ?_
  refine r_putI C fiX12_1 dX12_seed_2 (ly139 hY) ?_
  refine r_aload_n C dX12_seed_5 0 rfl ?_
  obtain ⟨m2, e1, h⟩ := bnd_inv h
  refine r_cVv (As := []) (rest := []) C hR mlX12_267 dX12_seed_6 (tX12_keeps hY n  e1) rfl rfl (ly139 hY) rfl (nle rfl) (nle rfl) (nle rfl) ?_
  refine r_aload_n C dX12_seed_9 0 rfl ?_
  refine r_getR C flX12_13 dX12_seed_10 (ly139 hY) rfl (lr139_1 hY) ?_
  refine r_bipush C dX12_seed_13 bp_66 ?_
  refine r_iload_n C dX12_seed_15 1 rfl ?_
  refine r_iast C dX12_seed_16 (ly140 hY) (by decide) ?_
  refine r_aload_n C dX12_seed_17 0 rfl ?_
  obtain ⟨m4, e3, h⟩ := bnd_inv h
  refine r_cVv (As := []) (rest := []) C hR mlX12_270 dX12_seed_18 (tX12_notes hY n  e3) rfl rfl (ly139 hY) rfl (nle rfl) (nle rfl) (nle rfl) ?_
  refine r_aload_n C dX12_seed_21 0 rfl ?_
  refine r_getR C flX12_36 dX12_seed_22 (ly139 hY) rfl (lr139_18 hY) ?_
  refine r_iconst C dX12_seed_25 ic_2 ?_
  refine r_iald C dX12_seed_26 (ly146 hY) (by decide) ?_
  obtain ⟨h1, h2⟩ := Prod.mk.inj (Option.some.inj h)
  subst h1; subst h2
  exact r_iret C dX12_seed_27 hr hE
def fX12_whisper (n : Nat) (x1 : Int32) (μ : Mu) : Option (Int32 × Mu) := bnd (fX12_whyWhisper n (x1.toInt64) (wI μ 139 0 0)) fun u2 => if u2 = 0 then (bnd (fX12_keeps n (wI μ 139 0 0)) fun m5 => bnd2 (fX12_whispers n x1 m5) fun u7 m8 => bnd (fX12_notes n m8) fun m10 => some (u7, m10)) else (some ((-10) - u2, wI μ 139 0 0))
set_option maxRecDepth 100000 in
set_option maxHeartbeats 4000000 in
theorem tX12_whisper {l : Launch} {w : WP} {sh : List Sh} {R : Rf} {μ : Mu} {r : Int32} {μ' : Mu} (hY : LY sh R) (n : Nat) (x1 : Int32)  (h : fX12_whisper n x1 μ = some (r, μ')) : CM l w yX12_whisper cX12_whisper 4 (some .int) 3 0 0 sh R [.ref (wb w + 139), .int x1] μ (some (.int r)) sh R μ' := by
  refine CM.of (plainFor_of_name pf_X12) (Nat.le_of_ble_eq_true rfl) fun Z C hr _ hR hw hl hE => ?_
  subst hw; subst hl
  have C : CX Z cX12_whisper 4 RX12 := C
  show Wm Z (0, 0, sh, R) μ 0 [(0, .ref (wb (zw Z) + 139)), (1, .int x1)] []
  unfold fX12_whisper at h
  refine r_aload_n C dX12_whisper_0 0 rfl ?_
  refine r_iconst C dX12_whisper_1 ic_0 ?_
  refine r_putI C fiX12_1 dX12_whisper_2 (ly139 hY) ?_
  refine r_aload_n C dX12_whisper_5 0 rfl ?_
  refine r_iload_n C dX12_whisper_6 1 rfl ?_
  refine r_i2l C dX12_whisper_7 ?_
  obtain ⟨u2, e1, h⟩ := bnd_inv h
  refine r_cVi (As := [.long (x1.toInt64)]) (rest := []) C hR mlX12_273 dX12_whisper_8 (tX12_whyWhisper hY n (x1.toInt64)  e1) rfl rfl (ly139 hY) rfl (nle rfl) (nle rfl) (nle rfl) ?_
  refine r_istore_n [(2, .int u2), (0, .ref (wb (zw Z) + 139)), (1, .int x1)] C dX12_whisper_11 rfl (by decide) rfl ?_
  refine r_iload_n C dX12_whisper_12 0 rfl ?_
  refine r_if_eq 21 C dX12_whisper_13 (by decide) (fun c3 => ?_) (fun c3 => ?_)
  · have h := (ite_inv h).1 c3
    refine r_aload_n C dX12_whisper_21 1 rfl ?_
    obtain ⟨m5, e4, h⟩ := bnd_inv h
    refine r_cVv (As := []) (rest := []) C hR mlX12_267 dX12_whisper_22 (tX12_keeps hY n  e4) rfl rfl (ly139 hY) rfl (nle rfl) (nle rfl) (nle rfl) ?_
    refine r_aload_n C dX12_whisper_25 1 rfl ?_
    refine r_iload_n C dX12_whisper_26 2 rfl ?_
    obtain ⟨u7, m8, e6, h⟩ := bnd2_inv h
    refine r_cVi (As := [.int x1]) (rest := []) C hR mlX12_277 dX12_whisper_27 (tX12_whispers hY n x1  e6) rfl rfl (ly139 hY) rfl (nle rfl) (nle rfl) (nle rfl) ?_
    refine r_istore_n [(3, .int u7), (2, .int u2), (0, .ref (wb (zw Z) + 139)), (1, .int x1)] C dX12_whisper_30 rfl (by decide) rfl ?_
    refine r_aload_n C dX12_whisper_31 2 rfl ?_
    obtain ⟨m10, e9, h⟩ := bnd_inv h
    refine r_cVv (As := []) (rest := []) C hR mlX12_270 dX12_whisper_32 (tX12_notes hY n  e9) rfl rfl (ly139 hY) rfl (nle rfl) (nle rfl) (nle rfl) ?_
    refine r_iload_n C dX12_whisper_35 0 rfl ?_
    obtain ⟨h1, h2⟩ := Prod.mk.inj (Option.some.inj h)
    subst h1; subst h2
    exact r_iret C dX12_whisper_36 hr hE
  · have h := (ite_inv h).2 c3
    refine r_bipush C dX12_whisper_16 bp_m10 ?_
    refine r_iload_n C dX12_whisper_18 0 rfl ?_
    refine r_isub C dX12_whisper_19 ?_
    obtain ⟨h1, h2⟩ := Prod.mk.inj (Option.some.inj h)
    subst h1; subst h2
    exact r_iret C dX12_whisper_20 hr hE
def fX12_give (n : Nat) (x1 : Int32) (x2 : Int32) (μ : Mu) : Option (Int32 × Mu) := bnd (fX12_isShell n (x1.toInt64) (wI μ 139 0 0)) fun u2 => if u2 = 0 then (some ((-11), wI μ 139 0 0)) else (bnd (fX12_isPerson n (x2.toInt64) (wI μ 139 0 0)) fun u5 => if u5 = 0 then (some ((-11), wI μ 139 0 0)) else (bnd (fX12_keeps n (wI μ 139 0 0)) fun m8 => gd (ib (68 + x1) 6726) (bnd (fX12_notes n (wI m8 140 (ix (68 + x1)) x2)) fun m11 => gd (ib (4 + x1) 116) (some (rI m11 146 (ix (4 + x1)), m11)))))
set_option maxRecDepth 100000 in
set_option maxHeartbeats 4000000 in
theorem tX12_give {l : Launch} {w : WP} {sh : List Sh} {R : Rf} {μ : Mu} {r : Int32} {μ' : Mu} (hY : LY sh R) (n : Nat) (x1 : Int32) (x2 : Int32)  (h : fX12_give n x1 x2 μ = some (r, μ')) : CM l w yX12_give cX12_give 3 (some .int) 2 0 0 sh R [.ref (wb w + 139), .int x1, .int x2] μ (some (.int r)) sh R μ' := by
  refine CM.of (plainFor_of_name pf_X12) (Nat.le_of_ble_eq_true rfl) fun Z C hr _ hR hw hl hE => ?_
  subst hw; subst hl
  have C : CX Z cX12_give 3 RX12 := C
  show Wm Z (0, 0, sh, R) μ 0 [(0, .ref (wb (zw Z) + 139)), (1, .int x1), (2, .int x2)] []
  unfold fX12_give at h
  refine r_aload_n C dX12_give_0 0 rfl ?_
  refine r_iconst C dX12_give_1 ic_0 ?_
  refine r_putI C fiX12_1 dX12_give_2 (ly139 hY) ?_
  refine r_aload_n C dX12_give_5 0 rfl ?_
  refine r_iload_n C dX12_give_6 1 rfl ?_
  refine r_i2l C dX12_give_7 ?_
  obtain ⟨u2, e1, h⟩ := bnd_inv h
  refine r_cVi (As := [.long (x1.toInt64)]) (rest := []) C hR mlX12_236 dX12_give_8 (tX12_isShell hY n (x1.toInt64)  e1) rfl rfl (ly139 hY) rfl (nle rfl) (nle rfl) (nle rfl) ?_
  refine r_if_eq 23 C dX12_give_11 (by decide) (fun c3 => ?_) (fun c3 => ?_)
  · have h := (ite_inv h).1 c3
    refine r_bipush C dX12_give_23 bp_m11 ?_
    obtain ⟨h1, h2⟩ := Prod.mk.inj (Option.some.inj h)
    subst h1; subst h2
    exact r_iret C dX12_give_25 hr hE
  · have h := (ite_inv h).2 c3
    refine r_aload_n C dX12_give_14 0 rfl ?_
    refine r_iload_n C dX12_give_15 2 rfl ?_
    refine r_i2l C dX12_give_16 ?_
    obtain ⟨u5, e4, h⟩ := bnd_inv h
    refine r_cVi (As := [.long (x2.toInt64)]) (rest := []) C hR mlX12_224 dX12_give_17 (tX12_isPerson hY n (x2.toInt64)  e4) rfl rfl (ly139 hY) rfl (nle rfl) (nle rfl) (nle rfl) ?_
    refine r_if_ne 26 C dX12_give_20 (by decide) (fun c6 => ?_) (fun c6 => ?_)
    · have h := (ite_inv h).2 c6
      refine r_aload_n C dX12_give_26 0 rfl ?_
      obtain ⟨m8, e7, h⟩ := bnd_inv h
      refine r_cVv (As := []) (rest := []) C hR mlX12_267 dX12_give_27 (tX12_keeps hY n  e7) rfl rfl (ly139 hY) rfl (nle rfl) (nle rfl) (nle rfl) ?_
      refine r_aload_n C dX12_give_30 0 rfl ?_
      refine r_getR C flX12_13 dX12_give_31 (ly139 hY) rfl (lr139_1 hY) ?_
      refine r_bipush C dX12_give_34 bp_68 ?_
      refine r_iload_n C dX12_give_36 1 rfl ?_
      refine r_iadd C dX12_give_37 ?_
      refine r_iload_n C dX12_give_38 2 rfl ?_
      obtain ⟨b9, h⟩ := gd_inv h
      refine r_iast C dX12_give_39 (ly140 hY) b9 ?_
      refine r_aload_n C dX12_give_40 0 rfl ?_
      obtain ⟨m11, e10, h⟩ := bnd_inv h
      refine r_cVv (As := []) (rest := []) C hR mlX12_270 dX12_give_41 (tX12_notes hY n  e10) rfl rfl (ly139 hY) rfl (nle rfl) (nle rfl) (nle rfl) ?_
      refine r_aload_n C dX12_give_44 0 rfl ?_
      refine r_getR C flX12_36 dX12_give_45 (ly139 hY) rfl (lr139_18 hY) ?_
      refine r_iconst C dX12_give_48 ic_4 ?_
      refine r_iload_n C dX12_give_49 1 rfl ?_
      refine r_iadd C dX12_give_50 ?_
      obtain ⟨b12, h⟩ := gd_inv h
      refine r_iald C dX12_give_51 (ly146 hY) b12 ?_
      obtain ⟨h1, h2⟩ := Prod.mk.inj (Option.some.inj h)
      subst h1; subst h2
      exact r_iret C dX12_give_52 hr hE
    · have h := (ite_inv h).1 c6
      refine r_bipush C dX12_give_23 bp_m11 ?_
      obtain ⟨h1, h2⟩ := Prod.mk.inj (Option.some.inj h)
      subst h1; subst h2
      exact r_iret C dX12_give_25 hr hE
def fX12_lay (n : Nat) (x1 : Int32) (μ : Mu) : Option (Int32 × Mu) := bnd (fX12_whyLay n (x1.toInt64) (wI μ 139 0 0)) fun u2 => if u2 = 0 then (bnd (fX12_keeps n (wI μ 139 0 0)) fun m5 => gd (ib (68 + x1) 6726) (bnd (fX12_notes n (wI m5 140 (ix (68 + x1)) (-1))) fun m8 => gd (ib (4 + x1) 116) (some (rI m8 146 (ix (4 + x1)), m8)))) else (some ((-10) - u2, wI μ 139 0 0))
set_option maxRecDepth 100000 in
set_option maxHeartbeats 4000000 in
theorem tX12_lay {l : Launch} {w : WP} {sh : List Sh} {R : Rf} {μ : Mu} {r : Int32} {μ' : Mu} (hY : LY sh R) (n : Nat) (x1 : Int32)  (h : fX12_lay n x1 μ = some (r, μ')) : CM l w yX12_lay cX12_lay 3 (some .int) 3 0 0 sh R [.ref (wb w + 139), .int x1] μ (some (.int r)) sh R μ' := by
  refine CM.of (plainFor_of_name pf_X12) (Nat.le_of_ble_eq_true rfl) fun Z C hr _ hR hw hl hE => ?_
  subst hw; subst hl
  have C : CX Z cX12_lay 3 RX12 := C
  show Wm Z (0, 0, sh, R) μ 0 [(0, .ref (wb (zw Z) + 139)), (1, .int x1)] []
  unfold fX12_lay at h
  refine r_aload_n C dX12_lay_0 0 rfl ?_
  refine r_iconst C dX12_lay_1 ic_0 ?_
  refine r_putI C fiX12_1 dX12_lay_2 (ly139 hY) ?_
  refine r_aload_n C dX12_lay_5 0 rfl ?_
  refine r_iload_n C dX12_lay_6 1 rfl ?_
  refine r_i2l C dX12_lay_7 ?_
  obtain ⟨u2, e1, h⟩ := bnd_inv h
  refine r_cVi (As := [.long (x1.toInt64)]) (rest := []) C hR mlX12_280 dX12_lay_8 (tX12_whyLay hY n (x1.toInt64)  e1) rfl rfl (ly139 hY) rfl (nle rfl) (nle rfl) (nle rfl) ?_
  refine r_istore_n [(2, .int u2), (0, .ref (wb (zw Z) + 139)), (1, .int x1)] C dX12_lay_11 rfl (by decide) rfl ?_
  refine r_iload_n C dX12_lay_12 0 rfl ?_
  refine r_if_eq 21 C dX12_lay_13 (by decide) (fun c3 => ?_) (fun c3 => ?_)
  · have h := (ite_inv h).1 c3
    refine r_aload_n C dX12_lay_21 1 rfl ?_
    obtain ⟨m5, e4, h⟩ := bnd_inv h
    refine r_cVv (As := []) (rest := []) C hR mlX12_267 dX12_lay_22 (tX12_keeps hY n  e4) rfl rfl (ly139 hY) rfl (nle rfl) (nle rfl) (nle rfl) ?_
    refine r_aload_n C dX12_lay_25 1 rfl ?_
    refine r_getR C flX12_13 dX12_lay_26 (ly139 hY) rfl (lr139_1 hY) ?_
    refine r_bipush C dX12_lay_29 bp_68 ?_
    refine r_iload_n C dX12_lay_31 2 rfl ?_
    refine r_iadd C dX12_lay_32 ?_
    refine r_iconst C dX12_lay_33 ic_m1 ?_
    obtain ⟨b6, h⟩ := gd_inv h
    refine r_iast C dX12_lay_34 (ly140 hY) b6 ?_
    refine r_aload_n C dX12_lay_35 1 rfl ?_
    obtain ⟨m8, e7, h⟩ := bnd_inv h
    refine r_cVv (As := []) (rest := []) C hR mlX12_270 dX12_lay_36 (tX12_notes hY n  e7) rfl rfl (ly139 hY) rfl (nle rfl) (nle rfl) (nle rfl) ?_
    refine r_aload_n C dX12_lay_39 1 rfl ?_
    refine r_getR C flX12_36 dX12_lay_40 (ly139 hY) rfl (lr139_18 hY) ?_
    refine r_iconst C dX12_lay_43 ic_4 ?_
    refine r_iload_n C dX12_lay_44 2 rfl ?_
    refine r_iadd C dX12_lay_45 ?_
    obtain ⟨b9, h⟩ := gd_inv h
    refine r_iald C dX12_lay_46 (ly146 hY) b9 ?_
    obtain ⟨h1, h2⟩ := Prod.mk.inj (Option.some.inj h)
    subst h1; subst h2
    exact r_iret C dX12_lay_47 hr hE
  · have h := (ite_inv h).2 c3
    refine r_bipush C dX12_lay_16 bp_m10 ?_
    refine r_iload_n C dX12_lay_18 0 rfl ?_
    refine r_isub C dX12_lay_19 ?_
    obtain ⟨h1, h2⟩ := Prod.mk.inj (Option.some.inj h)
    subst h1; subst h2
    exact r_iret C dX12_lay_20 hr hE
def fX12_gale (n : Nat) (x1 : Int32) (μ : Mu) : Option (Int32 × Mu) := bnd (fX12_within n (x1.toInt64) 0 99 (wI μ 139 0 0)) fun u2 => if u2 = 0 then (some ((-3), wI μ 139 0 0)) else (bnd (fX12_keeps n (wI μ 139 0 0)) fun m5 => bnd (fX12_notes n (wI m5 140 65 x1)) fun m7 => some (rI m7 146 1, m7))
set_option maxRecDepth 100000 in
set_option maxHeartbeats 4000000 in
theorem tX12_gale {l : Launch} {w : WP} {sh : List Sh} {R : Rf} {μ : Mu} {r : Int32} {μ' : Mu} (hY : LY sh R) (n : Nat) (x1 : Int32)  (h : fX12_gale n x1 μ = some (r, μ')) : CM l w yX12_gale cX12_gale 2 (some .int) 1 0 0 sh R [.ref (wb w + 139), .int x1] μ (some (.int r)) sh R μ' := by
  refine CM.of (plainFor_of_name pf_X12) (Nat.le_of_ble_eq_true rfl) fun Z C hr _ hR hw hl hE => ?_
  subst hw; subst hl
  have C : CX Z cX12_gale 2 RX12 := C
  show Wm Z (0, 0, sh, R) μ 0 [(0, .ref (wb (zw Z) + 139)), (1, .int x1)] []
  unfold fX12_gale at h
  refine r_aload_n C dX12_gale_0 0 rfl ?_
  refine r_iconst C dX12_gale_1 ic_0 ?_
  refine r_putI C fiX12_1 dX12_gale_2 (ly139 hY) ?_
  refine r_iload_n C dX12_gale_5 1 rfl ?_
  refine r_i2l C dX12_gale_6 ?_
  refine r_lconst C dX12_gale_7 lc_0 ?_
  refine r_ldc2 C dX12_gale_8 klX12_283 ?_
  obtain ⟨u2, e1, h⟩ := bnd_inv h
  refine r_cSi (As := [.long (x1.toInt64), .long 0, .long 99]) (rest := []) C hR mlX12_130 dX12_gale_11 (tX12_within hY n (x1.toInt64) 0 99  e1) rfl rfl (nle rfl) (nle rfl) (nle rfl) ?_
  refine r_if_ne 20 C dX12_gale_14 (by decide) (fun c3 => ?_) (fun c3 => ?_)
  · have h := (ite_inv h).2 c3
    refine r_aload_n C dX12_gale_20 0 rfl ?_
    obtain ⟨m5, e4, h⟩ := bnd_inv h
    refine r_cVv (As := []) (rest := []) C hR mlX12_267 dX12_gale_21 (tX12_keeps hY n  e4) rfl rfl (ly139 hY) rfl (nle rfl) (nle rfl) (nle rfl) ?_
    refine r_aload_n C dX12_gale_24 0 rfl ?_
    refine r_getR C flX12_13 dX12_gale_25 (ly139 hY) rfl (lr139_1 hY) ?_
    refine r_bipush C dX12_gale_28 bp_65 ?_
    refine r_iload_n C dX12_gale_30 1 rfl ?_
    refine r_iast C dX12_gale_31 (ly140 hY) (by decide) ?_
    refine r_aload_n C dX12_gale_32 0 rfl ?_
    obtain ⟨m7, e6, h⟩ := bnd_inv h
    refine r_cVv (As := []) (rest := []) C hR mlX12_270 dX12_gale_33 (tX12_notes hY n  e6) rfl rfl (ly139 hY) rfl (nle rfl) (nle rfl) (nle rfl) ?_
    refine r_aload_n C dX12_gale_36 0 rfl ?_
    refine r_getR C flX12_36 dX12_gale_37 (ly139 hY) rfl (lr139_18 hY) ?_
    refine r_iconst C dX12_gale_40 ic_1 ?_
    refine r_iald C dX12_gale_41 (ly146 hY) (by decide) ?_
    obtain ⟨h1, h2⟩ := Prod.mk.inj (Option.some.inj h)
    subst h1; subst h2
    exact r_iret C dX12_gale_42 hr hE
  · have h := (ite_inv h).1 c3
    refine r_bipush C dX12_gale_17 bp_m3 ?_
    obtain ⟨h1, h2⟩ := Prod.mk.inj (Option.some.inj h)
    subst h1; subst h2
    exact r_iret C dX12_gale_19 hr hE
def sX12_hours_28 (n : Nat) (x1 : Int32) : Int32 × Int32 × Mu → Option ((Int32 × Int32 × Mu) ⊕ (Int32 × Mu)) := fun q => match q with | (x2, x3, μ) => if x1 ≤ x3 then (some (.inr (x2, μ))) else (bnd2 (fX12_goesHour n μ) fun u8 m9 => some (.inl (x2 + u8, x3 + 1, m9)))
set_option maxRecDepth 100000 in
set_option maxHeartbeats 4000000 in
theorem lX12_hours_28 {Z : ZC} {sh : List Sh} {R : Rf} {o : (Int32 × Int32 × Mu) ⊕ (Int32 × Mu)} (C : CX Z cX12_hours 4 RX12) (hR : zR Z = rm 5 0 0) (hY : LY sh R) (n : Nat) (x1 : Int32) (x2 : Int32) (x3 : Int32) (μ : Mu) (h : sX12_hours_28 n x1 (x2, x3, μ) = some o) (kin : ∀ (x2 : Int32) (x3 : Int32) (μ : Mu), o = .inl (x2, x3, μ) → Wm Z (0, 0, sh, R) μ 28 [(0, .ref (wb (zw Z) + 139)), (1, .int x1), (2, .int x2), (3, .int x3)] []) (kex0 : ∀ (x2 : Int32) (μ : Mu), o = .inr (x2, μ) → Wm Z (0, 0, sh, R) μ 46 [(0, .ref (wb (zw Z) + 139)), (2, .int x2)] []) : Wm Z (0, 0, sh, R) μ 28 [(0, .ref (wb (zw Z) + 139)), (1, .int x1), (2, .int x2), (3, .int x3)] [] := by
  unfold sX12_hours_28 at h
  refine r_iload_n C dX12_hours_28 3 rfl ?_
  refine r_iload_n C dX12_hours_29 1 rfl ?_
  refine r_icmp_ge 46 C dX12_hours_30 (by decide) (fun c6 => ?_) (fun c6 => ?_)
  · have h := (ite_inv h).1 c6
    refine r_sub [(0, .ref (wb (zw Z) + 139)), (2, .int x2)] [0, 2] rfl ?_
    exact kex0 x2 μ (Option.some.inj h).symm
  · have h := (ite_inv h).2 c6
    refine r_iload_n C dX12_hours_33 2 rfl ?_
    refine r_aload_n C dX12_hours_34 0 rfl ?_
    obtain ⟨u8, m9, e7, h⟩ := bnd2_inv h
    refine r_cVi (As := []) (rest := [.int x2]) C hR mlX12_287 dX12_hours_35 (tX12_goesHour hY n  e7) rfl rfl (ly139 hY) rfl (nle rfl) (nle rfl) (nle rfl) ?_
    refine r_iadd C dX12_hours_38 ?_
    refine r_istore_n [(2, .int (x2 + u8)), (0, .ref (wb (zw Z) + 139)), (1, .int x1), (3, .int x3)] C dX12_hours_39 rfl (by decide) rfl ?_
    refine r_iinc [(3, .int (x3 + 1)), (2, .int (x2 + u8)), (0, .ref (wb (zw Z) + 139)), (1, .int x1)] C dX12_hours_40 3 rfl (in_1 _) (by decide) rfl ?_
    refine r_goto 28 C dX12_hours_43 (by decide) ?_
    refine r_sub [(0, .ref (wb (zw Z) + 139)), (1, .int x1), (2, .int (x2 + u8)), (3, .int (x3 + 1))] [2, 3, 1, 0] rfl ?_
    exact kin (x2 + u8) (x3 + 1) m9 (Option.some.inj h).symm
def fX12_hours (n : Nat) (x1 : Int32) (μ : Mu) : Option (Int32 × Mu) := bnd (fX12_within n (x1.toInt64) 1 48 (wI μ 139 0 0)) fun u2 => if u2 = 0 then (some ((-3), wI μ 139 0 0)) else (bnd (fX12_keeps n (wI μ 139 0 0)) fun m5 => bnd (lp n (sX12_hours_28 n x1) (0, 0, m5)) fun q => match q with | (u10, m11) => bnd (fX12_notes n m11) fun m14 => some (u10, m14))
set_option maxRecDepth 100000 in
set_option maxHeartbeats 4000000 in
theorem tX12_hours {l : Launch} {w : WP} {sh : List Sh} {R : Rf} {μ : Mu} {r : Int32} {μ' : Mu} (hY : LY sh R) (n : Nat) (x1 : Int32)  (h : fX12_hours n x1 μ = some (r, μ')) : CM l w yX12_hours cX12_hours 4 (some .int) 5 0 0 sh R [.ref (wb w + 139), .int x1] μ (some (.int r)) sh R μ' := by
  refine CM.of (plainFor_of_name pf_X12) (Nat.le_of_ble_eq_true rfl) fun Z C hr _ hR hw hl hE => ?_
  subst hw; subst hl
  have C : CX Z cX12_hours 4 RX12 := C
  show Wm Z (0, 0, sh, R) μ 0 [(0, .ref (wb (zw Z) + 139)), (1, .int x1)] []
  unfold fX12_hours at h
  refine r_aload_n C dX12_hours_0 0 rfl ?_
  refine r_iconst C dX12_hours_1 ic_0 ?_
  refine r_putI C fiX12_1 dX12_hours_2 (ly139 hY) ?_
  refine r_iload_n C dX12_hours_5 1 rfl ?_
  refine r_i2l C dX12_hours_6 ?_
  refine r_lconst C dX12_hours_7 lc_1 ?_
  refine r_ldc2 C dX12_hours_8 klX12_285 ?_
  obtain ⟨u2, e1, h⟩ := bnd_inv h
  refine r_cSi (As := [.long (x1.toInt64), .long 1, .long 48]) (rest := []) C hR mlX12_130 dX12_hours_11 (tX12_within hY n (x1.toInt64) 1 48  e1) rfl rfl (nle rfl) (nle rfl) (nle rfl) ?_
  refine r_if_ne 20 C dX12_hours_14 (by decide) (fun c3 => ?_) (fun c3 => ?_)
  · have h := (ite_inv h).2 c3
    refine r_aload_n C dX12_hours_20 0 rfl ?_
    obtain ⟨m5, e4, h⟩ := bnd_inv h
    refine r_cVv (As := []) (rest := []) C hR mlX12_267 dX12_hours_21 (tX12_keeps hY n  e4) rfl rfl (ly139 hY) rfl (nle rfl) (nle rfl) (nle rfl) ?_
    refine r_iconst C dX12_hours_24 ic_0 ?_
    refine r_istore_n [(2, .int 0), (0, .ref (wb (zw Z) + 139)), (1, .int x1)] C dX12_hours_25 rfl (by decide) rfl ?_
    refine r_iconst C dX12_hours_26 ic_0 ?_
    refine r_istore_n [(3, .int 0), (2, .int 0), (0, .ref (wb (zw Z) + 139)), (1, .int x1)] C dX12_hours_27 rfl (by decide) rfl ?_
    refine r_sub [(0, .ref (wb (zw Z) + 139)), (1, .int x1), (2, .int 0), (3, .int 0)] [2, 3, 1, 0] rfl ?_
    obtain ⟨⟨u10, m11⟩, e12, h⟩ := bnd_inv h
    refine lp_all (sX12_hours_28 n x1) (fun q => match q with | (z2, z3, ν) => Wm Z (0, 0, sh, R) (ν) 28 [(0, .ref (wb (zw Z) + 139)), (1, .int x1), (2, .int z2), (3, .int z3)] []) (fun q => match q with | (z2, ν) => Wm Z (0, 0, sh, R) (ν) 46 [(0, .ref (wb (zw Z) + 139)), (2, .int z2)] []) (fun q o h kin kex => ?_) n (0, 0, m5) (u10, m11) e12 ?_
    · obtain ⟨z2, z3, ν⟩ := q; exact lX12_hours_28 C hR hY n   x1 z2 z3 ν h (fun z2 z3 ν e => kin (z2, z3, ν) e) (fun z2 ν e => kex (z2, ν) e)
    show Wm Z (0, 0, sh, R) m11 46 [(0, .ref (wb (zw Z) + 139)), (2, .int u10)] []
    refine r_aload_n C dX12_hours_46 0 rfl ?_
    obtain ⟨m14, e13, h⟩ := bnd_inv h
    refine r_cVv (As := []) (rest := []) C hR mlX12_270 dX12_hours_47 (tX12_notes hY n  e13) rfl rfl (ly139 hY) rfl (nle rfl) (nle rfl) (nle rfl) ?_
    refine r_iload_n C dX12_hours_50 1 rfl ?_
    obtain ⟨h1, h2⟩ := Prod.mk.inj (Option.some.inj h)
    subst h1; subst h2
    exact r_iret C dX12_hours_51 hr hE
  · have h := (ite_inv h).1 c3
    refine r_bipush C dX12_hours_17 bp_m3 ?_
    obtain ⟨h1, h2⟩ := Prod.mk.inj (Option.some.inj h)
    subst h1; subst h2
    exact r_iret C dX12_hours_19 hr hE
def sX12_undo_46 (n : Nat)  : Int32 × Mu → Option ((Int32 × Mu) ⊕ (Mu)) := fun q => match q with | (x2, μ) => if 116 ≤ x2 then (some (.inr μ)) else (gd (ib ((181 + (116 * (rI μ 140 180))) + x2) 6726) (gd (ib (64 + x2) 6726) (some (.inl (x2 + 1, wI μ 140 (ix (64 + x2)) (rI μ 140 (ix ((181 + (116 * (rI μ 140 180))) + x2))))))))
set_option maxRecDepth 100000 in
set_option maxHeartbeats 4000000 in
theorem lX12_undo_46 {Z : ZC} {sh : List Sh} {R : Rf} {o : (Int32 × Mu) ⊕ (Mu)} (C : CX Z cX12_undo 3 RX12) (hR : zR Z = rm 1 0 0) (hY : LY sh R) (n : Nat)  (x2 : Int32) (μ : Mu) (h : sX12_undo_46 n (x2, μ) = some o) (kin : ∀ (x2 : Int32) (μ : Mu), o = .inl (x2, μ) → Wm Z (0, 0, sh, R) μ 46 [(0, .ref (wb (zw Z) + 139)), (2, .int x2)] []) (kex0 : ∀ (μ : Mu), o = .inr μ → Wm Z (0, 0, sh, R) μ 89 [(0, .ref (wb (zw Z) + 139))] []) : Wm Z (0, 0, sh, R) μ 46 [(0, .ref (wb (zw Z) + 139)), (2, .int x2)] [] := by
  unfold sX12_undo_46 at h
  refine r_iload_n C dX12_undo_46 1 rfl ?_
  refine r_bipush C dX12_undo_47 bp_116 ?_
  refine r_icmp_ge 89 C dX12_undo_49 (by decide) (fun c5 => ?_) (fun c5 => ?_)
  · have h := (ite_inv h).1 c5
    refine r_sub [(0, .ref (wb (zw Z) + 139))] [0] rfl ?_
    exact kex0 μ (Option.some.inj h).symm
  · have h := (ite_inv h).2 c5
    refine r_aload_n C dX12_undo_52 0 rfl ?_
    refine r_getR C flX12_13 dX12_undo_53 (ly139 hY) rfl (lr139_1 hY) ?_
    refine r_bipush C dX12_undo_56 bp_64 ?_
    refine r_iload_n C dX12_undo_58 1 rfl ?_
    refine r_iadd C dX12_undo_59 ?_
    refine r_aload_n C dX12_undo_60 0 rfl ?_
    refine r_getR C flX12_13 dX12_undo_61 (ly139 hY) rfl (lr139_1 hY) ?_
    refine r_sipush C dX12_undo_64 sp_181 ?_
    refine r_bipush C dX12_undo_67 bp_116 ?_
    refine r_aload_n C dX12_undo_69 0 rfl ?_
    refine r_getR C flX12_13 dX12_undo_70 (ly139 hY) rfl (lr139_1 hY) ?_
    refine r_sipush C dX12_undo_73 sp_180 ?_
    refine r_iald C dX12_undo_76 (ly140 hY) (by decide) ?_
    refine r_imul C dX12_undo_77 ?_
    refine r_iadd C dX12_undo_78 ?_
    refine r_iload_n C dX12_undo_79 1 rfl ?_
    refine r_iadd C dX12_undo_80 ?_
    obtain ⟨b6, h⟩ := gd_inv h
    refine r_iald C dX12_undo_81 (ly140 hY) b6 ?_
    obtain ⟨b7, h⟩ := gd_inv h
    refine r_iast C dX12_undo_82 (ly140 hY) b7 ?_
    refine r_iinc [(2, .int (x2 + 1)), (0, .ref (wb (zw Z) + 139))] C dX12_undo_83 1 rfl (in_1 _) (by decide) rfl ?_
    refine r_goto 46 C dX12_undo_86 (by decide) ?_
    refine r_sub [(0, .ref (wb (zw Z) + 139)), (2, .int (x2 + 1))] [1, 0] rfl ?_
    exact kin (x2 + 1) (wI μ 140 (ix (64 + x2)) (rI μ 140 (ix ((181 + (116 * (rI μ 140 180))) + x2)))) (Option.some.inj h).symm
def fX12_undo (n : Nat) (x1 : Int32) (μ : Mu) : Option (Int32 × Mu) := bnd (fX12_within n (x1.toInt64) 1 10 (wI μ 139 0 0)) fun u2 => if u2 = 0 then (some ((-3), wI μ 139 0 0)) else (if x1 ≤ (rI (wI μ 139 0 0) 140 180) then (bnd (lp n (sX12_undo_46 n) (0, wI (wI μ 139 0 0) 140 180 ((rI (wI μ 139 0 0) 140 180) - x1))) fun q => match q with | m8 => some (rI m8 140 180, m8)) else (some ((-3), wI μ 139 0 0)))
set_option maxRecDepth 100000 in
set_option maxHeartbeats 4000000 in
theorem tX12_undo {l : Launch} {w : WP} {sh : List Sh} {R : Rf} {μ : Mu} {r : Int32} {μ' : Mu} (hY : LY sh R) (n : Nat) (x1 : Int32)  (h : fX12_undo n x1 μ = some (r, μ')) : CM l w yX12_undo cX12_undo 3 (some .int) 1 0 0 sh R [.ref (wb w + 139), .int x1] μ (some (.int r)) sh R μ' := by
  refine CM.of (plainFor_of_name pf_X12) (Nat.le_of_ble_eq_true rfl) fun Z C hr _ hR hw hl hE => ?_
  subst hw; subst hl
  have C : CX Z cX12_undo 3 RX12 := C
  show Wm Z (0, 0, sh, R) μ 0 [(0, .ref (wb (zw Z) + 139)), (1, .int x1)] []
  unfold fX12_undo at h
  refine r_aload_n C dX12_undo_0 0 rfl ?_
  refine r_iconst C dX12_undo_1 ic_0 ?_
  refine r_putI C fiX12_1 dX12_undo_2 (ly139 hY) ?_
  refine r_iload_n C dX12_undo_5 1 rfl ?_
  refine r_i2l C dX12_undo_6 ?_
  refine r_lconst C dX12_undo_7 lc_1 ?_
  refine r_ldc2 C dX12_undo_8 klX12_182 ?_
  obtain ⟨u2, e1, h⟩ := bnd_inv h
  refine r_cSi (As := [.long (x1.toInt64), .long 1, .long 10]) (rest := []) C hR mlX12_130 dX12_undo_11 (tX12_within hY n (x1.toInt64) 1 10  e1) rfl rfl (nle rfl) (nle rfl) (nle rfl) ?_
  refine r_if_eq 29 C dX12_undo_14 (by decide) (fun c3 => ?_) (fun c3 => ?_)
  · have h := (ite_inv h).1 c3
    refine r_bipush C dX12_undo_29 bp_m3 ?_
    obtain ⟨h1, h2⟩ := Prod.mk.inj (Option.some.inj h)
    subst h1; subst h2
    exact r_iret C dX12_undo_31 hr hE
  · have h := (ite_inv h).2 c3
    refine r_iload_n C dX12_undo_17 1 rfl ?_
    refine r_aload_n C dX12_undo_18 0 rfl ?_
    refine r_getR C flX12_13 dX12_undo_19 (ly139 hY) rfl (lr139_1 hY) ?_
    refine r_sipush C dX12_undo_22 sp_180 ?_
    refine r_iald C dX12_undo_25 (ly140 hY) (by decide) ?_
    refine r_icmp_le 32 C dX12_undo_26 (by decide) (fun c4 => ?_) (fun c4 => ?_)
    · have h := (ite_inv h).1 c4
      refine r_aload_n C dX12_undo_32 0 rfl ?_
      refine r_getR C flX12_13 dX12_undo_33 (ly139 hY) rfl (lr139_1 hY) ?_
      refine r_sipush C dX12_undo_36 sp_180 ?_
      refine r_dup2 C dX12_undo_39 rfl rfl ?_
      refine r_iald C dX12_undo_40 (ly140 hY) (by decide) ?_
      refine r_iload_n C dX12_undo_41 1 rfl ?_
      refine r_isub C dX12_undo_42 ?_
      refine r_iast C dX12_undo_43 (ly140 hY) (by decide) ?_
      refine r_iconst C dX12_undo_44 ic_0 ?_
      refine r_istore_n [(2, .int 0), (0, .ref (wb (zw Z) + 139)), (1, .int x1)] C dX12_undo_45 rfl (by decide) rfl ?_
      refine r_sub [(0, .ref (wb (zw Z) + 139)), (2, .int 0)] [1, 0] rfl ?_
      obtain ⟨m8, e9, h⟩ := bnd_inv h
      refine lp_all (sX12_undo_46 n) (fun q => match q with | (z2, ν) => Wm Z (0, 0, sh, R) (ν) 46 [(0, .ref (wb (zw Z) + 139)), (2, .int z2)] []) (fun q => match q with | ν => Wm Z (0, 0, sh, R) (ν) 89 [(0, .ref (wb (zw Z) + 139))] []) (fun q o h kin kex => ?_) n (0, wI (wI μ 139 0 0) 140 180 ((rI (wI μ 139 0 0) 140 180) - x1)) m8 e9 ?_
      · obtain ⟨z2, ν⟩ := q; exact lX12_undo_46 C hR hY n    z2 ν h (fun z2 ν e => kin (z2, ν) e) (fun ν e => kex (ν) e)
      show Wm Z (0, 0, sh, R) m8 89 [(0, .ref (wb (zw Z) + 139))] []
      refine r_aload_n C dX12_undo_89 0 rfl ?_
      refine r_getR C flX12_13 dX12_undo_90 (ly139 hY) rfl (lr139_1 hY) ?_
      refine r_sipush C dX12_undo_93 sp_180 ?_
      refine r_iald C dX12_undo_96 (ly140 hY) (by decide) ?_
      obtain ⟨h1, h2⟩ := Prod.mk.inj (Option.some.inj h)
      subst h1; subst h2
      exact r_iret C dX12_undo_97 hr hE
    · have h := (ite_inv h).2 c4
      refine r_bipush C dX12_undo_29 bp_m3 ?_
      obtain ⟨h1, h2⟩ := Prod.mk.inj (Option.some.inj h)
      subst h1; subst h2
      exact r_iret C dX12_undo_31 hr hE
def fX12_whyNot (n : Nat) (y1 : Int64) (μ : Mu) : Option (Int32) := if (lg_cmp y1 (-1)) = 0 then (some 0) else (bnd (fX12_within n y1 0 99 μ) fun u3 => if u3 = 0 then (bnd (fX12_within n y1 100 899 μ) fun u6 => if u6 = 0 then (bnd (fX12_within n y1 1000 1099 μ) fun u9 => if u9 = 0 then (bnd (fX12_within n y1 2000 2099 μ) fun u12 => if u12 = 0 then (some 1) else (some 0)) else (bnd (fX12_whyLay n (y1 - 1000) μ) fun u15 => some u15)) else (bnd (fX12_isShell n (jdivl (y1 - 100) 100) μ) fun u17 => if u17 = 0 then (some 1) else (bnd (fX12_isPerson n (jreml y1 100) μ) fun u20 => if u20 = 0 then (some 1) else (some 0)))) else (bnd (fX12_whyWhisper n y1 μ) fun u23 => some u23))
set_option maxRecDepth 100000 in
set_option maxHeartbeats 4000000 in
theorem tX12_whyNot {l : Launch} {w : WP} {sh : List Sh} {R : Rf} {μ : Mu} {r : Int32} (hY : LY sh R) (n : Nat) (y1 : Int64)  (h : fX12_whyNot n y1 μ = some r) : CM l w yX12_whyNot cX12_whyNot 3 (some .int) 3 0 0 sh R [.ref (wb w + 139), .long y1] μ (some (.int r)) sh R μ := by
  refine CM.of (plainFor_of_name pf_X12) (Nat.le_of_ble_eq_true rfl) fun Z C hr _ hR hw hl hE => ?_
  subst hw; subst hl
  have C : CX Z cX12_whyNot 3 RX12 := C
  show Wm Z (0, 0, sh, R) μ 0 [(0, .ref (wb (zw Z) + 139)), (1, .long y1)] []
  unfold fX12_whyNot at h
  refine r_lload_n C dX12_whyNot_0 1 rfl ?_
  refine r_ldc2 C dX12_whyNot_1 klX12_290 ?_
  refine r_lcmp C dX12_whyNot_4 ?_
  refine r_if_ne 10 C dX12_whyNot_5 (by decide) (fun c1 => ?_) (fun c1 => ?_)
  · have h := (ite_inv h).2 c1
    refine r_lload_n C dX12_whyNot_10 1 rfl ?_
    refine r_lconst C dX12_whyNot_11 lc_0 ?_
    refine r_ldc2 C dX12_whyNot_12 klX12_283 ?_
    obtain ⟨u3, e2, h⟩ := bnd_inv h
    refine r_cSi (As := [.long y1, .long 0, .long 99]) (rest := []) C hR mlX12_130 dX12_whyNot_15 (tX12_within hY n y1 0 99  e2) rfl rfl (nle rfl) (nle rfl) (nle rfl) ?_
    refine r_if_eq 27 C dX12_whyNot_18 (by decide) (fun c4 => ?_) (fun c4 => ?_)
    · have h := (ite_inv h).1 c4
      refine r_lload_n C dX12_whyNot_27 1 rfl ?_
      refine r_ldc2 C dX12_whyNot_28 klX12_292 ?_
      refine r_ldc2 C dX12_whyNot_31 klX12_294 ?_
      obtain ⟨u6, e5, h⟩ := bnd_inv h
      refine r_cSi (As := [.long y1, .long 100, .long 899]) (rest := []) C hR mlX12_130 dX12_whyNot_34 (tX12_within hY n y1 100 899  e5) rfl rfl (nle rfl) (nle rfl) (nle rfl) ?_
      refine r_if_eq 74 C dX12_whyNot_37 (by decide) (fun c7 => ?_) (fun c7 => ?_)
      · have h := (ite_inv h).1 c7
        refine r_lload_n C dX12_whyNot_74 1 rfl ?_
        refine r_ldc2 C dX12_whyNot_75 klX12_296 ?_
        refine r_ldc2 C dX12_whyNot_78 klX12_298 ?_
        obtain ⟨u9, e8, h⟩ := bnd_inv h
        refine r_cSi (As := [.long y1, .long 1000, .long 1099]) (rest := []) C hR mlX12_130 dX12_whyNot_81 (tX12_within hY n y1 1000 1099  e8) rfl rfl (nle rfl) (nle rfl) (nle rfl) ?_
        refine r_if_eq 97 C dX12_whyNot_84 (by decide) (fun c10 => ?_) (fun c10 => ?_)
        · have h := (ite_inv h).1 c10
          refine r_lload_n C dX12_whyNot_97 1 rfl ?_
          refine r_ldc2 C dX12_whyNot_98 klX12_300 ?_
          refine r_ldc2 C dX12_whyNot_101 klX12_302 ?_
          obtain ⟨u12, e11, h⟩ := bnd_inv h
          refine r_cSi (As := [.long y1, .long 2000, .long 2099]) (rest := []) C hR mlX12_130 dX12_whyNot_104 (tX12_within hY n y1 2000 2099  e11) rfl rfl (nle rfl) (nle rfl) (nle rfl) ?_
          refine r_if_eq 114 C dX12_whyNot_107 (by decide) (fun c13 => ?_) (fun c13 => ?_)
          · have h := (ite_inv h).1 c13
            refine r_iconst C dX12_whyNot_114 ic_1 ?_
            have h := Option.some.inj h
            subst h
            exact r_iret C dX12_whyNot_115 hr hE
          · have h := (ite_inv h).2 c13
            refine r_iconst C dX12_whyNot_110 ic_0 ?_
            refine r_goto 115 C dX12_whyNot_111 (by decide) ?_
            have h := Option.some.inj h
            subst h
            exact r_iret C dX12_whyNot_115 hr hE
        · have h := (ite_inv h).2 c10
          refine r_aload_n C dX12_whyNot_87 0 rfl ?_
          refine r_lload_n C dX12_whyNot_88 1 rfl ?_
          refine r_ldc2 C dX12_whyNot_89 klX12_296 ?_
          refine r_lsub C dX12_whyNot_92 ?_
          obtain ⟨u15, e14, h⟩ := bnd_inv h
          refine r_cVi (As := [.long (y1 - 1000)]) (rest := []) C hR mlX12_280 dX12_whyNot_93 (tX12_whyLay hY n (y1 - 1000)  e14) rfl rfl (ly139 hY) rfl (nle rfl) (nle rfl) (nle rfl) ?_
          have h := Option.some.inj h
          subst h
          exact r_iret C dX12_whyNot_96 hr hE
      · have h := (ite_inv h).2 c7
        refine r_aload_n C dX12_whyNot_40 0 rfl ?_
        refine r_lload_n C dX12_whyNot_41 1 rfl ?_
        refine r_ldc2 C dX12_whyNot_42 klX12_292 ?_
        refine r_lsub C dX12_whyNot_45 ?_
        refine r_ldc2 C dX12_whyNot_46 klX12_292 ?_
        refine r_ldiv C dX12_whyNot_49 (by decide) ?_
        obtain ⟨u17, e16, h⟩ := bnd_inv h
        refine r_cVi (As := [.long (jdivl (y1 - 100) 100)]) (rest := []) C hR mlX12_236 dX12_whyNot_50 (tX12_isShell hY n (jdivl (y1 - 100) 100)  e16) rfl rfl (ly139 hY) rfl (nle rfl) (nle rfl) (nle rfl) ?_
        refine r_if_eq 72 C dX12_whyNot_53 (by decide) (fun c18 => ?_) (fun c18 => ?_)
        · have h := (ite_inv h).1 c18
          refine r_iconst C dX12_whyNot_72 ic_1 ?_
          have h := Option.some.inj h
          subst h
          exact r_iret C dX12_whyNot_73 hr hE
        · have h := (ite_inv h).2 c18
          refine r_aload_n C dX12_whyNot_56 0 rfl ?_
          refine r_lload_n C dX12_whyNot_57 1 rfl ?_
          refine r_ldc2 C dX12_whyNot_58 klX12_292 ?_
          refine r_lrem C dX12_whyNot_61 (by decide) ?_
          obtain ⟨u20, e19, h⟩ := bnd_inv h
          refine r_cVi (As := [.long (jreml y1 100)]) (rest := []) C hR mlX12_224 dX12_whyNot_62 (tX12_isPerson hY n (jreml y1 100)  e19) rfl rfl (ly139 hY) rfl (nle rfl) (nle rfl) (nle rfl) ?_
          refine r_if_eq 72 C dX12_whyNot_65 (by decide) (fun c21 => ?_) (fun c21 => ?_)
          · have h := (ite_inv h).1 c21
            refine r_iconst C dX12_whyNot_72 ic_1 ?_
            have h := Option.some.inj h
            subst h
            exact r_iret C dX12_whyNot_73 hr hE
          · have h := (ite_inv h).2 c21
            refine r_iconst C dX12_whyNot_68 ic_0 ?_
            refine r_goto 73 C dX12_whyNot_69 (by decide) ?_
            have h := Option.some.inj h
            subst h
            exact r_iret C dX12_whyNot_73 hr hE
    · have h := (ite_inv h).2 c4
      refine r_aload_n C dX12_whyNot_21 0 rfl ?_
      refine r_lload_n C dX12_whyNot_22 1 rfl ?_
      obtain ⟨u23, e22, h⟩ := bnd_inv h
      refine r_cVi (As := [.long y1]) (rest := []) C hR mlX12_273 dX12_whyNot_23 (tX12_whyWhisper hY n y1  e22) rfl rfl (ly139 hY) rfl (nle rfl) (nle rfl) (nle rfl) ?_
      have h := Option.some.inj h
      subst h
      exact r_iret C dX12_whyNot_26 hr hE
  · have h := (ite_inv h).1 c1
    refine r_iconst C dX12_whyNot_8 ic_0 ?_
    have h := Option.some.inj h
    subst h
    exact r_iret C dX12_whyNot_9 hr hE
def fX12_does (n : Nat) (x1 : Int32) (μ : Mu) : Option (Mu) := if x1 = (-1) then (bnd2 (fX12_goesHour n μ) fun u11 m12 => some m12) else (if 100 ≤ x1 then (if 1000 ≤ x1 then (if 2000 ≤ x1 then (some (wI μ 140 65 (x1 - 2000))) else (gd (ib ((68 + x1) - 1000) 6726) (some (wI μ 140 (ix ((68 + x1) - 1000)) (-1))))) else (gd (ib (68 + (jdiv (x1 - 100) 100)) 6726) (some (wI μ 140 (ix (68 + (jdiv (x1 - 100) 100))) (jrem x1 100))))) else (bnd2 (fX12_whispers n x1 μ) fun u8 m9 => some m9))
set_option maxRecDepth 100000 in
set_option maxHeartbeats 4000000 in
theorem tX12_does {l : Launch} {w : WP} {sh : List Sh} {R : Rf} {μ : Mu} {μ' : Mu} (hY : LY sh R) (n : Nat) (x1 : Int32)  (h : fX12_does n x1 μ = some μ') : CM l w yX12_does cX12_does 2 none 5 0 0 sh R [.ref (wb w + 139), .int x1] μ none sh R μ' := by
  refine CM.of (plainFor_of_name pf_X12) (Nat.le_of_ble_eq_true rfl) fun Z C hr _ hR hw hl hE => ?_
  subst hw; subst hl
  have C : CX Z cX12_does 2 RX12 := C
  show Wm Z (0, 0, sh, R) μ 0 [(0, .ref (wb (zw Z) + 139)), (1, .int x1)] []
  unfold fX12_does at h
  refine r_iload_n C dX12_does_0 1 rfl ?_
  refine r_iconst C dX12_does_1 ic_m1 ?_
  refine r_icmp_ne 13 C dX12_does_2 (by decide) (fun c1 => ?_) (fun c1 => ?_)
  · have h := (ite_inv h).2 c1
    refine r_iload_n C dX12_does_13 1 rfl ?_
    refine r_bipush C dX12_does_14 bp_100 ?_
    refine r_icmp_ge 28 C dX12_does_16 (by decide) (fun c2 => ?_) (fun c2 => ?_)
    · have h := (ite_inv h).1 c2
      refine r_iload_n C dX12_does_28 1 rfl ?_
      refine r_sipush C dX12_does_29 sp_1000 ?_
      refine r_icmp_ge 57 C dX12_does_32 (by decide) (fun c3 => ?_) (fun c3 => ?_)
      · have h := (ite_inv h).1 c3
        refine r_iload_n C dX12_does_57 1 rfl ?_
        refine r_sipush C dX12_does_58 sp_2000 ?_
        refine r_icmp_ge 81 C dX12_does_61 (by decide) (fun c4 => ?_) (fun c4 => ?_)
        · have h := (ite_inv h).1 c4
          refine r_aload_n C dX12_does_81 0 rfl ?_
          refine r_getR C flX12_13 dX12_does_82 (ly139 hY) rfl (lr139_1 hY) ?_
          refine r_bipush C dX12_does_85 bp_65 ?_
          refine r_iload_n C dX12_does_87 1 rfl ?_
          refine r_sipush C dX12_does_88 sp_2000 ?_
          refine r_isub C dX12_does_91 ?_
          refine r_iast C dX12_does_92 (ly140 hY) (by decide) ?_
          have h := Option.some.inj h
          subst h
          exact r_vret C dX12_does_93 hr hE
        · have h := (ite_inv h).2 c4
          refine r_aload_n C dX12_does_64 0 rfl ?_
          refine r_getR C flX12_13 dX12_does_65 (ly139 hY) rfl (lr139_1 hY) ?_
          refine r_bipush C dX12_does_68 bp_68 ?_
          refine r_iload_n C dX12_does_70 1 rfl ?_
          refine r_iadd C dX12_does_71 ?_
          refine r_sipush C dX12_does_72 sp_1000 ?_
          refine r_isub C dX12_does_75 ?_
          refine r_iconst C dX12_does_76 ic_m1 ?_
          obtain ⟨b5, h⟩ := gd_inv h
          refine r_iast C dX12_does_77 (ly140 hY) b5 ?_
          refine r_goto 93 C dX12_does_78 (by decide) ?_
          have h := Option.some.inj h
          subst h
          exact r_vret C dX12_does_93 hr hE
      · have h := (ite_inv h).2 c3
        refine r_aload_n C dX12_does_35 0 rfl ?_
        refine r_getR C flX12_13 dX12_does_36 (ly139 hY) rfl (lr139_1 hY) ?_
        refine r_bipush C dX12_does_39 bp_68 ?_
        refine r_iload_n C dX12_does_41 1 rfl ?_
        refine r_bipush C dX12_does_42 bp_100 ?_
        refine r_isub C dX12_does_44 ?_
        refine r_bipush C dX12_does_45 bp_100 ?_
        refine r_idiv C dX12_does_47 (by decide) ?_
        refine r_iadd C dX12_does_48 ?_
        refine r_iload_n C dX12_does_49 1 rfl ?_
        refine r_bipush C dX12_does_50 bp_100 ?_
        refine r_irem C dX12_does_52 (by decide) ?_
        obtain ⟨b6, h⟩ := gd_inv h
        refine r_iast C dX12_does_53 (ly140 hY) b6 ?_
        refine r_goto 93 C dX12_does_54 (by decide) ?_
        have h := Option.some.inj h
        subst h
        exact r_vret C dX12_does_93 hr hE
    · have h := (ite_inv h).2 c2
      refine r_aload_n C dX12_does_19 0 rfl ?_
      refine r_iload_n C dX12_does_20 1 rfl ?_
      obtain ⟨u8, m9, e7, h⟩ := bnd2_inv h
      refine r_cVi (As := [.int x1]) (rest := []) C hR mlX12_277 dX12_does_21 (tX12_whispers hY n x1  e7) rfl rfl (ly139 hY) rfl (nle rfl) (nle rfl) (nle rfl) ?_
      refine r_pop C dX12_does_24 rfl ?_
      refine r_goto 93 C dX12_does_25 (by decide) ?_
      have h := Option.some.inj h
      subst h
      exact r_vret C dX12_does_93 hr hE
  · have h := (ite_inv h).1 c1
    refine r_aload_n C dX12_does_5 0 rfl ?_
    obtain ⟨u11, m12, e10, h⟩ := bnd2_inv h
    refine r_cVi (As := []) (rest := []) C hR mlX12_287 dX12_does_6 (tX12_goesHour hY n  e10) rfl rfl (ly139 hY) rfl (nle rfl) (nle rfl) (nle rfl) ?_
    refine r_pop C dX12_does_9 rfl ?_
    refine r_goto 93 C dX12_does_10 (by decide) ?_
    have h := Option.some.inj h
    subst h
    exact r_vret C dX12_does_93 hr hE
def sX12_tells_7 (n : Nat) (x1 : Int32) : Int32 × Mu → Option ((Int32 × Mu) ⊕ ((Int32 × Mu) ⊕ (Mu))) := fun q => match q with | (x2, μ) => gd (ib x1 4) (if (rI μ 153 (ix x1)) ≤ x2 then (some (.inr (.inr μ))) else (gd (ib ((40 * x1) + x2) 160) (bnd (fX12_whyNot n (rL μ 154 (ix ((40 * x1) + x2))) μ) fun u5 => if (rI (wI μ 139 20 u5) 139 20) = 0 then (gd (ib ((40 * x1) + x2) 160) (bnd (fX12_does n ((rL (wI μ 139 20 u5) 154 (ix ((40 * x1) + x2))).toInt32) (wI μ 139 20 u5)) fun m9 => some (.inl (x2 + 1, m9)))) else (some (.inr (.inl (x2, wI μ 139 20 u5)))))))
set_option maxRecDepth 100000 in
set_option maxHeartbeats 4000000 in
theorem lX12_tells_7 {Z : ZC} {sh : List Sh} {R : Rf} {o : (Int32 × Mu) ⊕ ((Int32 × Mu) ⊕ (Mu))} (C : CX Z cX12_tells 3 RX12) (hR : zR Z = rm 6 0 0) (hY : LY sh R) (n : Nat) (x1 : Int32) (x2 : Int32) (μ : Mu) (h : sX12_tells_7 n x1 (x2, μ) = some o) (kin : ∀ (x2 : Int32) (μ : Mu), o = .inl (x2, μ) → Wm Z (0, 0, sh, R) μ 7 [(0, .ref (wb (zw Z) + 139)), (1, .int x1), (2, .int x2)] []) (kex0 : ∀ (x2 : Int32) (μ : Mu), o = .inr (.inl (x2, μ)) → Wm Z (0, 0, sh, R) μ 43 [(2, .int x2)] []) (kex1 : ∀ (μ : Mu), o = .inr (.inr μ) → Wm Z (0, 0, sh, R) μ 67 [(0, .ref (wb (zw Z) + 139)), (1, .int x1)] []) : Wm Z (0, 0, sh, R) μ 7 [(0, .ref (wb (zw Z) + 139)), (1, .int x1), (2, .int x2)] [] := by
  unfold sX12_tells_7 at h
  refine r_iload_n C dX12_tells_7 2 rfl ?_
  refine r_aload_n C dX12_tells_8 0 rfl ?_
  refine r_getR C flX12_57 dX12_tells_9 (ly139 hY) rfl (lr139_28 hY) ?_
  refine r_iload_n C dX12_tells_12 1 rfl ?_
  obtain ⟨b1, h⟩ := gd_inv h
  refine r_iald C dX12_tells_13 (ly153 hY) b1 ?_
  refine r_icmp_ge 67 C dX12_tells_14 (by decide) (fun c2 => ?_) (fun c2 => ?_)
  · have h := (ite_inv h).1 c2
    refine r_sub [(0, .ref (wb (zw Z) + 139)), (1, .int x1)] [0, 1] rfl ?_
    exact kex1 μ (Option.some.inj h).symm
  · have h := (ite_inv h).2 c2
    refine r_aload_n C dX12_tells_17 0 rfl ?_
    refine r_aload_n C dX12_tells_18 0 rfl ?_
    refine r_aload_n C dX12_tells_19 0 rfl ?_
    refine r_getR C flX12_60 dX12_tells_20 (ly139 hY) rfl (lr139_29 hY) ?_
    refine r_bipush C dX12_tells_23 bp_40 ?_
    refine r_iload_n C dX12_tells_25 1 rfl ?_
    refine r_imul C dX12_tells_26 ?_
    refine r_iload_n C dX12_tells_27 2 rfl ?_
    refine r_iadd C dX12_tells_28 ?_
    obtain ⟨b3, h⟩ := gd_inv h
    refine r_lald C dX12_tells_29 (ly154 hY) b3 ?_
    obtain ⟨u5, e4, h⟩ := bnd_inv h
    refine r_cVi (As := [.long (rL μ 154 (ix ((40 * x1) + x2)))]) (rest := [.ref (wb (zw Z) + 139)]) C hR mlX12_307 dX12_tells_30 (tX12_whyNot hY n (rL μ 154 (ix ((40 * x1) + x2)))  e4) rfl rfl (ly139 hY) rfl (nle rfl) (nle rfl) (nle rfl) ?_
    refine r_putI C fiX12_304 dX12_tells_33 (ly139 hY) ?_
    refine r_aload_n C dX12_tells_36 0 rfl ?_
    refine r_getI C flX12_304 dX12_tells_37 (ly139 hY) rfl ?_
    refine r_if_eq 45 C dX12_tells_40 (by decide) (fun c6 => ?_) (fun c6 => ?_)
    · have h := (ite_inv h).1 c6
      refine r_aload_n C dX12_tells_45 0 rfl ?_
      refine r_aload_n C dX12_tells_46 0 rfl ?_
      refine r_getR C flX12_60 dX12_tells_47 (ly139 hY) rfl (lr139_29 hY) ?_
      refine r_bipush C dX12_tells_50 bp_40 ?_
      refine r_iload_n C dX12_tells_52 1 rfl ?_
      refine r_imul C dX12_tells_53 ?_
      refine r_iload_n C dX12_tells_54 2 rfl ?_
      refine r_iadd C dX12_tells_55 ?_
      obtain ⟨b7, h⟩ := gd_inv h
      refine r_lald C dX12_tells_56 (ly154 hY) b7 ?_
      refine r_l2i C dX12_tells_57 ?_
      obtain ⟨m9, e8, h⟩ := bnd_inv h
      refine r_cVv (As := [.int ((rL (wI μ 139 20 u5) 154 (ix ((40 * x1) + x2))).toInt32)]) (rest := []) C hR mlX12_310 dX12_tells_58 (tX12_does hY n ((rL (wI μ 139 20 u5) 154 (ix ((40 * x1) + x2))).toInt32)  e8) rfl rfl (ly139 hY) rfl (nle rfl) (nle rfl) (nle rfl) ?_
      refine r_iinc [(2, .int (x2 + 1)), (0, .ref (wb (zw Z) + 139)), (1, .int x1)] C dX12_tells_61 2 rfl (in_1 _) (by decide) rfl ?_
      refine r_goto 7 C dX12_tells_64 (by decide) ?_
      refine r_sub [(0, .ref (wb (zw Z) + 139)), (1, .int x1), (2, .int (x2 + 1))] [1, 2, 0] rfl ?_
      exact kin (x2 + 1) m9 (Option.some.inj h).symm
    · have h := (ite_inv h).2 c6
      refine r_sub [(2, .int x2)] [2] rfl ?_
      exact kex0 x2 (wI μ 139 20 u5) (Option.some.inj h).symm
def fX12_tells (n : Nat) (x1 : Int32) (μ : Mu) : Option (Int32 × Mu) := bnd (lp n (sX12_tells_7 n x1) (0, wI μ 139 20 0)) fun q => match q with | .inl (u10, m11) => (some (u10, m11)) | .inr m12 => (gd (ib x1 4) (some (rI m12 153 (ix x1), m12)))
set_option maxRecDepth 100000 in
set_option maxHeartbeats 4000000 in
theorem tX12_tells {l : Launch} {w : WP} {sh : List Sh} {R : Rf} {μ : Mu} {r : Int32} {μ' : Mu} (hY : LY sh R) (n : Nat) (x1 : Int32)  (h : fX12_tells n x1 μ = some (r, μ')) : CM l w yX12_tells cX12_tells 3 (some .int) 6 0 0 sh R [.ref (wb w + 139), .int x1] μ (some (.int r)) sh R μ' := by
  refine CM.of (plainFor_of_name pf_X12) (Nat.le_of_ble_eq_true rfl) fun Z C hr _ hR hw hl hE => ?_
  subst hw; subst hl
  have C : CX Z cX12_tells 3 RX12 := C
  show Wm Z (0, 0, sh, R) μ 0 [(0, .ref (wb (zw Z) + 139)), (1, .int x1)] []
  unfold fX12_tells at h
  refine r_aload_n C dX12_tells_0 0 rfl ?_
  refine r_iconst C dX12_tells_1 ic_0 ?_
  refine r_putI C fiX12_304 dX12_tells_2 (ly139 hY) ?_
  refine r_iconst C dX12_tells_5 ic_0 ?_
  refine r_istore_n [(2, .int 0), (0, .ref (wb (zw Z) + 139)), (1, .int x1)] C dX12_tells_6 rfl (by decide) rfl ?_
  refine r_sub [(0, .ref (wb (zw Z) + 139)), (1, .int x1), (2, .int 0)] [1, 2, 0] rfl ?_
  obtain ⟨q14, e13, h⟩ := bnd_inv h
  refine lp_all (sX12_tells_7 n x1) (fun q => match q with | (z2, ν) => Wm Z (0, 0, sh, R) (ν) 7 [(0, .ref (wb (zw Z) + 139)), (1, .int x1), (2, .int z2)] []) (fun q => match q with | .inl (z2, ν) => Wm Z (0, 0, sh, R) (ν) 43 [(2, .int z2)] [] | .inr (ν) => Wm Z (0, 0, sh, R) (ν) 67 [(0, .ref (wb (zw Z) + 139)), (1, .int x1)] []) (fun q o h kin kex => ?_) n (0, wI μ 139 20 0) q14 e13 ?_
  · obtain ⟨z2, ν⟩ := q; exact lX12_tells_7 C hR hY n   x1 z2 ν h (fun z2 ν e => kin (z2, ν) e) (fun z2 ν e => kex (.inl (z2, ν)) e) (fun ν e => kex (.inr (ν)) e)
  rcases q14 with ⟨u10, m11⟩ | m12
  · show Wm Z (0, 0, sh, R) m11 43 [(2, .int u10)] []
    refine r_iload_n C dX12_tells_43 0 rfl ?_
    obtain ⟨h1, h2⟩ := Prod.mk.inj (Option.some.inj h)
    subst h1; subst h2
    exact r_iret C dX12_tells_44 hr hE
  · show Wm Z (0, 0, sh, R) m12 67 [(0, .ref (wb (zw Z) + 139)), (1, .int x1)] []
    refine r_aload_n C dX12_tells_67 0 rfl ?_
    refine r_getR C flX12_57 dX12_tells_68 (ly139 hY) rfl (lr139_28 hY) ?_
    refine r_iload_n C dX12_tells_71 1 rfl ?_
    obtain ⟨b15, h⟩ := gd_inv h
    refine r_iald C dX12_tells_72 (ly153 hY) b15 ?_
    obtain ⟨h1, h2⟩ := Prod.mk.inj (Option.some.inj h)
    subst h1; subst h2
    exact r_iret C dX12_tells_73 hr hE
def fX12_noTray (n : Nat) (x1 : Int32) (μ : Mu) : Option (Int32) := bnd (fX12_within n (x1.toInt64) 0 3 μ) fun u2 => if u2 = 0 then (some (-2)) else (gd (ib x1 4) (if (rI μ 152 (ix x1)) = (-1) then (some (-6)) else (some 0)))
set_option maxRecDepth 100000 in
set_option maxHeartbeats 4000000 in
theorem tX12_noTray {l : Launch} {w : WP} {sh : List Sh} {R : Rf} {μ : Mu} {r : Int32} (hY : LY sh R) (n : Nat) (x1 : Int32)  (h : fX12_noTray n x1 μ = some r) : CM l w yX12_noTray cX12_noTray 2 (some .int) 1 0 0 sh R [.ref (wb w + 139), .int x1] μ (some (.int r)) sh R μ := by
  refine CM.of (plainFor_of_name pf_X12) (Nat.le_of_ble_eq_true rfl) fun Z C hr _ hR hw hl hE => ?_
  subst hw; subst hl
  have C : CX Z cX12_noTray 2 RX12 := C
  show Wm Z (0, 0, sh, R) μ 0 [(0, .ref (wb (zw Z) + 139)), (1, .int x1)] []
  unfold fX12_noTray at h
  refine r_iload_n C dX12_noTray_0 1 rfl ?_
  refine r_i2l C dX12_noTray_1 ?_
  refine r_lconst C dX12_noTray_2 lc_0 ?_
  refine r_ldc2 C dX12_noTray_3 klX12_313 ?_
  obtain ⟨u2, e1, h⟩ := bnd_inv h
  refine r_cSi (As := [.long (x1.toInt64), .long 0, .long 3]) (rest := []) C hR mlX12_130 dX12_noTray_6 (tX12_within hY n (x1.toInt64) 0 3  e1) rfl rfl (nle rfl) (nle rfl) (nle rfl) ?_
  refine r_if_ne 17 C dX12_noTray_9 (by decide) (fun c3 => ?_) (fun c3 => ?_)
  · have h := (ite_inv h).2 c3
    refine r_aload_n C dX12_noTray_17 0 rfl ?_
    refine r_getR C flX12_54 dX12_noTray_18 (ly139 hY) rfl (lr139_27 hY) ?_
    refine r_iload_n C dX12_noTray_21 1 rfl ?_
    obtain ⟨b4, h⟩ := gd_inv h
    refine r_iald C dX12_noTray_22 (ly152 hY) b4 ?_
    refine r_iconst C dX12_noTray_23 ic_m1 ?_
    refine r_icmp_ne 32 C dX12_noTray_24 (by decide) (fun c5 => ?_) (fun c5 => ?_)
    · have h := (ite_inv h).2 c5
      refine r_iconst C dX12_noTray_32 ic_0 ?_
      have h := Option.some.inj h
      subst h
      exact r_iret C dX12_noTray_33 hr hE
    · have h := (ite_inv h).1 c5
      refine r_bipush C dX12_noTray_27 bp_m6 ?_
      refine r_goto 33 C dX12_noTray_29 (by decide) ?_
      have h := Option.some.inj h
      subst h
      exact r_iret C dX12_noTray_33 hr hE
  · have h := (ite_inv h).1 c3
    refine r_bipush C dX12_noTray_12 bp_m2 ?_
    refine r_goto 33 C dX12_noTray_14 (by decide) ?_
    have h := Option.some.inj h
    subst h
    exact r_iret C dX12_noTray_33 hr hE
def sX12_heardAll_13 (n : Nat) (μ : Mu) : Int32 × Int32 → Option ((Int32 × Int32) ⊕ (Int32)) := fun q => match q with | (x1, x2) => if (rI μ 140 67) ≤ x2 then (some (.inr x1)) else (gd (ib (92 + x2) 6726) (some (.inl (x1 &&& (rI μ 140 (ix (92 + x2))), x2 + 1))))
set_option maxRecDepth 100000 in
set_option maxHeartbeats 4000000 in
theorem lX12_heardAll_13 {Z : ZC} {sh : List Sh} {R : Rf} {o : (Int32 × Int32) ⊕ (Int32)} (C : CX Z cX12_heardAll 3 RX12) (hR : zR Z = rm 0 0 0) (hY : LY sh R) (n : Nat) (μ : Mu) (x1 : Int32) (x2 : Int32) (h : sX12_heardAll_13 n μ (x1, x2) = some o) (kin : ∀ (x1 : Int32) (x2 : Int32), o = .inl (x1, x2) → Wm Z (0, 0, sh, R) μ 13 [(0, .ref (wb (zw Z) + 139)), (1, .int x1), (2, .int x2)] []) (kex0 : ∀ (x1 : Int32), o = .inr x1 → Wm Z (0, 0, sh, R) μ 42 [(1, .int x1)] []) : Wm Z (0, 0, sh, R) μ 13 [(0, .ref (wb (zw Z) + 139)), (1, .int x1), (2, .int x2)] [] := by
  unfold sX12_heardAll_13 at h
  refine r_iload_n C dX12_heardAll_13 2 rfl ?_
  refine r_aload_n C dX12_heardAll_14 0 rfl ?_
  refine r_getR C flX12_13 dX12_heardAll_15 (ly139 hY) rfl (lr139_1 hY) ?_
  refine r_bipush C dX12_heardAll_18 bp_67 ?_
  refine r_iald C dX12_heardAll_20 (ly140 hY) (by decide) ?_
  refine r_icmp_ge 42 C dX12_heardAll_21 (by decide) (fun c1 => ?_) (fun c1 => ?_)
  · have h := (ite_inv h).1 c1
    refine r_sub [(1, .int x1)] [1] rfl ?_
    exact kex0 x1 (Option.some.inj h).symm
  · have h := (ite_inv h).2 c1
    refine r_iload_n C dX12_heardAll_24 1 rfl ?_
    refine r_aload_n C dX12_heardAll_25 0 rfl ?_
    refine r_getR C flX12_13 dX12_heardAll_26 (ly139 hY) rfl (lr139_1 hY) ?_
    refine r_bipush C dX12_heardAll_29 bp_92 ?_
    refine r_iload_n C dX12_heardAll_31 2 rfl ?_
    refine r_iadd C dX12_heardAll_32 ?_
    obtain ⟨b2, h⟩ := gd_inv h
    refine r_iald C dX12_heardAll_33 (ly140 hY) b2 ?_
    refine r_iand C dX12_heardAll_34 ?_
    refine r_istore_n [(1, .int (x1 &&& (rI μ 140 (ix (92 + x2))))), (0, .ref (wb (zw Z) + 139)), (2, .int x2)] C dX12_heardAll_35 rfl (by decide) rfl ?_
    refine r_iinc [(2, .int (x2 + 1)), (1, .int (x1 &&& (rI μ 140 (ix (92 + x2))))), (0, .ref (wb (zw Z) + 139))] C dX12_heardAll_36 2 rfl (in_1 _) (by decide) rfl ?_
    refine r_goto 13 C dX12_heardAll_39 (by decide) ?_
    refine r_sub [(0, .ref (wb (zw Z) + 139)), (1, .int (x1 &&& (rI μ 140 (ix (92 + x2))))), (2, .int (x2 + 1))] [2, 1, 0] rfl ?_
    exact kin (x1 &&& (rI μ 140 (ix (92 + x2)))) (x2 + 1) (Option.some.inj h).symm
def fX12_heardAll (n : Nat)  (μ : Mu) : Option (Int32) := bnd (lp n (sX12_heardAll_13 n μ) ((shl 1 (rI μ 140 3)) - 1, 0)) fun q => match q with | u3 => some u3
set_option maxRecDepth 100000 in
set_option maxHeartbeats 4000000 in
theorem tX12_heardAll {l : Launch} {w : WP} {sh : List Sh} {R : Rf} {μ : Mu} {r : Int32} (hY : LY sh R) (n : Nat)   (h : fX12_heardAll n μ = some r) : CM l w yX12_heardAll cX12_heardAll 3 (some .int) 0 0 0 sh R [.ref (wb w + 139)] μ (some (.int r)) sh R μ := by
  refine CM.of (plainFor_of_name pf_X12) (Nat.le_of_ble_eq_true rfl) fun Z C hr _ hR hw hl hE => ?_
  subst hw; subst hl
  have C : CX Z cX12_heardAll 3 RX12 := C
  show Wm Z (0, 0, sh, R) μ 0 [(0, .ref (wb (zw Z) + 139))] []
  unfold fX12_heardAll at h
  refine r_iconst C dX12_heardAll_0 ic_1 ?_
  refine r_aload_n C dX12_heardAll_1 0 rfl ?_
  refine r_getR C flX12_13 dX12_heardAll_2 (ly139 hY) rfl (lr139_1 hY) ?_
  refine r_iconst C dX12_heardAll_5 ic_3 ?_
  refine r_iald C dX12_heardAll_6 (ly140 hY) (by decide) ?_
  refine r_ishl C dX12_heardAll_7 ?_
  refine r_iconst C dX12_heardAll_8 ic_1 ?_
  refine r_isub C dX12_heardAll_9 ?_
  refine r_istore_n [(1, .int ((shl 1 (rI μ 140 3)) - 1)), (0, .ref (wb (zw Z) + 139))] C dX12_heardAll_10 rfl (by decide) rfl ?_
  refine r_iconst C dX12_heardAll_11 ic_0 ?_
  refine r_istore_n [(2, .int 0), (1, .int ((shl 1 (rI μ 140 3)) - 1)), (0, .ref (wb (zw Z) + 139))] C dX12_heardAll_12 rfl (by decide) rfl ?_
  refine r_sub [(0, .ref (wb (zw Z) + 139)), (1, .int ((shl 1 (rI μ 140 3)) - 1)), (2, .int 0)] [2, 1, 0] rfl ?_
  obtain ⟨u3, e4, h⟩ := bnd_inv h
  refine lp_all (sX12_heardAll_13 n μ) (fun q => match q with | (z1, z2) => Wm Z (0, 0, sh, R) μ 13 [(0, .ref (wb (zw Z) + 139)), (1, .int z1), (2, .int z2)] []) (fun q => match q with | z1 => Wm Z (0, 0, sh, R) μ 42 [(1, .int z1)] []) (fun q o h kin kex => ?_) n ((shl 1 (rI μ 140 3)) - 1, 0) u3 e4 ?_
  · obtain ⟨z1, z2⟩ := q; exact lX12_heardAll_13 C hR hY n   μ z1 z2 h (fun z1 z2 e => kin (z1, z2) e) (fun z1 e => kex z1 e)
  show Wm Z (0, 0, sh, R) μ 42 [(1, .int u3)] []
  refine r_iload_n C dX12_heardAll_42 0 rfl ?_
  have h := Option.some.inj h
  subst h
  exact r_iret C dX12_heardAll_43 hr hE
def fX12_judge (n : Nat) (x1 : Int32) (x2 : Int32) (μ : Mu) : Option (Int32 × Mu) := bnd (fX12_within n (x2.toInt64) 0 3 (wI μ 139 0 0)) fun u2 => if u2 = 0 then (some ((-2), wI μ 139 0 0)) else (bnd (fX12_noTray n x1 (wI μ 139 0 0)) fun u5 => if u5 = 0 then (bnd (fX12_keeps n (wI μ 139 0 0)) fun m8 => bnd2 (fX12_tells n x1 m8) fun u10 m11 => bnd (fX12_heardAll n m11) fun u13 => bnd (fX12_isAgain n m11) fun m15 => if x2 = 0 then (if (rI m15 139 20) = 0 then (some ((-1), m15)) else (some (u10, m15))) else (if x2 = 1 then (some (rI m15 139 20, m15)) else (if x2 = 2 then (some (rI m11 140 64, m15)) else (some (u13, m15))))) else (some (u5, wI μ 139 0 0)))
set_option maxRecDepth 100000 in
set_option maxHeartbeats 4000000 in
theorem tX12_judge {l : Launch} {w : WP} {sh : List Sh} {R : Rf} {μ : Mu} {r : Int32} {μ' : Mu} (hY : LY sh R) (n : Nat) (x1 : Int32) (x2 : Int32)  (h : fX12_judge n x1 x2 μ = some (r, μ')) : CM l w yX12_judge cX12_judge 7 (some .int) 7 0 0 sh R [.ref (wb w + 139), .int x1, .int x2] μ (some (.int r)) sh R μ' := by
  refine CM.of (plainFor_of_name pf_X12) (Nat.le_of_ble_eq_true rfl) fun Z C hr _ hR hw hl hE => ?_
  subst hw; subst hl
  have C : CX Z cX12_judge 7 RX12 := C
  show Wm Z (0, 0, sh, R) μ 0 [(0, .ref (wb (zw Z) + 139)), (1, .int x1), (2, .int x2)] []
  unfold fX12_judge at h
  refine r_aload_n C dX12_judge_0 0 rfl ?_
  refine r_iconst C dX12_judge_1 ic_0 ?_
  refine r_putI C fiX12_1 dX12_judge_2 (ly139 hY) ?_
  refine r_iload_n C dX12_judge_5 2 rfl ?_
  refine r_i2l C dX12_judge_6 ?_
  refine r_lconst C dX12_judge_7 lc_0 ?_
  refine r_ldc2 C dX12_judge_8 klX12_313 ?_
  obtain ⟨u2, e1, h⟩ := bnd_inv h
  refine r_cSi (As := [.long (x2.toInt64), .long 0, .long 3]) (rest := []) C hR mlX12_130 dX12_judge_11 (tX12_within hY n (x2.toInt64) 0 3  e1) rfl rfl (nle rfl) (nle rfl) (nle rfl) ?_
  refine r_if_ne 20 C dX12_judge_14 (by decide) (fun c3 => ?_) (fun c3 => ?_)
  · have h := (ite_inv h).2 c3
    refine r_aload_n C dX12_judge_20 0 rfl ?_
    refine r_iload_n C dX12_judge_21 1 rfl ?_
    obtain ⟨u5, e4, h⟩ := bnd_inv h
    refine r_cVi (As := [.int x1]) (rest := []) C hR mlX12_315 dX12_judge_22 (tX12_noTray hY n x1  e4) rfl rfl (ly139 hY) rfl (nle rfl) (nle rfl) (nle rfl) ?_
    refine r_istore_n [(3, .int u5), (0, .ref (wb (zw Z) + 139)), (1, .int x1), (2, .int x2)] C dX12_judge_25 rfl (by decide) rfl ?_
    refine r_iload_n C dX12_judge_26 0 rfl ?_
    refine r_if_eq 32 C dX12_judge_27 (by decide) (fun c6 => ?_) (fun c6 => ?_)
    · have h := (ite_inv h).1 c6
      refine r_aload_n C dX12_judge_32 1 rfl ?_
      obtain ⟨m8, e7, h⟩ := bnd_inv h
      refine r_cVv (As := []) (rest := []) C hR mlX12_267 dX12_judge_33 (tX12_keeps hY n  e7) rfl rfl (ly139 hY) rfl (nle rfl) (nle rfl) (nle rfl) ?_
      refine r_aload_n C dX12_judge_36 1 rfl ?_
      refine r_iload_n C dX12_judge_37 2 rfl ?_
      obtain ⟨u10, m11, e9, h⟩ := bnd2_inv h
      refine r_cVi (As := [.int x1]) (rest := []) C hR mlX12_318 dX12_judge_38 (tX12_tells hY n x1  e9) rfl rfl (ly139 hY) rfl (nle rfl) (nle rfl) (nle rfl) ?_
      refine r_istore [(4, .int u10), (3, .int u5), (0, .ref (wb (zw Z) + 139)), (1, .int x1), (2, .int x2)] C dX12_judge_41 (by decide) rfl ?_
      refine r_aload_n C dX12_judge_43 2 rfl ?_
      refine r_getR C flX12_13 dX12_judge_44 (ly139 hY) rfl (lr139_1 hY) ?_
      refine r_bipush C dX12_judge_47 bp_64 ?_
      refine r_iald C dX12_judge_49 (ly140 hY) (by decide) ?_
      refine r_istore [(5, .int (rI m11 140 64)), (4, .int u10), (3, .int u5), (0, .ref (wb (zw Z) + 139)), (1, .int x1), (2, .int x2)] C dX12_judge_50 (by decide) rfl ?_
      refine r_aload_n C dX12_judge_52 3 rfl ?_
      obtain ⟨u13, e12, h⟩ := bnd_inv h
      refine r_cVi (As := []) (rest := []) C hR mlX12_321 dX12_judge_53 (tX12_heardAll hY n  e12) rfl rfl (ly139 hY) rfl (nle rfl) (nle rfl) (nle rfl) ?_
      refine r_istore [(6, .int u13), (5, .int (rI m11 140 64)), (4, .int u10), (3, .int u5), (0, .ref (wb (zw Z) + 139)), (1, .int x1), (2, .int x2)] C dX12_judge_56 (by decide) rfl ?_
      refine r_aload_n C dX12_judge_58 4 rfl ?_
      obtain ⟨m15, e14, h⟩ := bnd_inv h
      refine r_cVv (As := []) (rest := []) C hR mlX12_324 dX12_judge_59 (tX12_isAgain hY n  e14) rfl rfl (ly139 hY) rfl (nle rfl) (nle rfl) (nle rfl) ?_
      refine r_iload_n C dX12_judge_62 6 rfl ?_
      refine r_if_ne 82 C dX12_judge_63 (by decide) (fun c16 => ?_) (fun c16 => ?_)
      · have h := (ite_inv h).2 c16
        refine r_iload_n C dX12_judge_82 6 rfl ?_
        refine r_iconst C dX12_judge_83 ic_1 ?_
        refine r_icmp_ne 94 C dX12_judge_84 (by decide) (fun c17 => ?_) (fun c17 => ?_)
        · have h := (ite_inv h).2 c17
          refine r_iload_n C dX12_judge_94 6 rfl ?_
          refine r_iconst C dX12_judge_95 ic_2 ?_
          refine r_icmp_ne 104 C dX12_judge_96 (by decide) (fun c18 => ?_) (fun c18 => ?_)
          · have h := (ite_inv h).2 c18
            refine r_iload C dX12_judge_104 0 rfl ?_
            obtain ⟨h1, h2⟩ := Prod.mk.inj (Option.some.inj h)
            subst h1; subst h2
            exact r_iret C dX12_judge_106 hr hE
          · have h := (ite_inv h).1 c18
            refine r_iload C dX12_judge_99 1 rfl ?_
            refine r_goto 106 C dX12_judge_101 (by decide) ?_
            obtain ⟨h1, h2⟩ := Prod.mk.inj (Option.some.inj h)
            subst h1; subst h2
            exact r_iret C dX12_judge_106 hr hE
        · have h := (ite_inv h).1 c17
          refine r_aload_n C dX12_judge_87 4 rfl ?_
          refine r_getI C flX12_304 dX12_judge_88 (ly139 hY) rfl ?_
          refine r_goto 106 C dX12_judge_91 (by decide) ?_
          obtain ⟨h1, h2⟩ := Prod.mk.inj (Option.some.inj h)
          subst h1; subst h2
          exact r_iret C dX12_judge_106 hr hE
      · have h := (ite_inv h).1 c16
        refine r_aload_n C dX12_judge_66 4 rfl ?_
        refine r_getI C flX12_304 dX12_judge_67 (ly139 hY) rfl ?_
        refine r_if_ne 77 C dX12_judge_70 (by decide) (fun c19 => ?_) (fun c19 => ?_)
        · have h := (ite_inv h).2 c19
          refine r_iload C dX12_judge_77 2 rfl ?_
          refine r_goto 106 C dX12_judge_79 (by decide) ?_
          obtain ⟨h1, h2⟩ := Prod.mk.inj (Option.some.inj h)
          subst h1; subst h2
          exact r_iret C dX12_judge_106 hr hE
        · have h := (ite_inv h).1 c19
          refine r_iconst C dX12_judge_73 ic_m1 ?_
          refine r_goto 106 C dX12_judge_74 (by decide) ?_
          obtain ⟨h1, h2⟩ := Prod.mk.inj (Option.some.inj h)
          subst h1; subst h2
          exact r_iret C dX12_judge_106 hr hE
    · have h := (ite_inv h).2 c6
      refine r_iload_n C dX12_judge_30 0 rfl ?_
      obtain ⟨h1, h2⟩ := Prod.mk.inj (Option.some.inj h)
      subst h1; subst h2
      exact r_iret C dX12_judge_31 hr hE
  · have h := (ite_inv h).1 c3
    refine r_bipush C dX12_judge_17 bp_m2 ?_
    obtain ⟨h1, h2⟩ := Prod.mk.inj (Option.some.inj h)
    subst h1; subst h2
    exact r_iret C dX12_judge_19 hr hE
def fX12_perform (n : Nat) (x1 : Int32) (μ : Mu) : Option (Int32 × Mu) := bnd (fX12_noTray n x1 (wI μ 139 0 0)) fun u2 => if u2 = 0 then (bnd (fX12_keeps n (wI μ 139 0 0)) fun m5 => bnd2 (fX12_tells n x1 m5) fun u7 m8 => if u7 ≤ 0 then (some (u7, m8)) else (bnd (fX12_notes n m8) fun m11 => some (u7, m11))) else (some (u2, wI μ 139 0 0))
set_option maxRecDepth 100000 in
set_option maxHeartbeats 4000000 in
theorem tX12_perform {l : Launch} {w : WP} {sh : List Sh} {R : Rf} {μ : Mu} {r : Int32} {μ' : Mu} (hY : LY sh R) (n : Nat) (x1 : Int32)  (h : fX12_perform n x1 μ = some (r, μ')) : CM l w yX12_perform cX12_perform 4 (some .int) 7 0 0 sh R [.ref (wb w + 139), .int x1] μ (some (.int r)) sh R μ' := by
  refine CM.of (plainFor_of_name pf_X12) (Nat.le_of_ble_eq_true rfl) fun Z C hr _ hR hw hl hE => ?_
  subst hw; subst hl
  have C : CX Z cX12_perform 4 RX12 := C
  show Wm Z (0, 0, sh, R) μ 0 [(0, .ref (wb (zw Z) + 139)), (1, .int x1)] []
  unfold fX12_perform at h
  refine r_aload_n C dX12_perform_0 0 rfl ?_
  refine r_iconst C dX12_perform_1 ic_0 ?_
  refine r_putI C fiX12_1 dX12_perform_2 (ly139 hY) ?_
  refine r_aload_n C dX12_perform_5 0 rfl ?_
  refine r_iload_n C dX12_perform_6 1 rfl ?_
  obtain ⟨u2, e1, h⟩ := bnd_inv h
  refine r_cVi (As := [.int x1]) (rest := []) C hR mlX12_315 dX12_perform_7 (tX12_noTray hY n x1  e1) rfl rfl (ly139 hY) rfl (nle rfl) (nle rfl) (nle rfl) ?_
  refine r_istore_n [(2, .int u2), (0, .ref (wb (zw Z) + 139)), (1, .int x1)] C dX12_perform_10 rfl (by decide) rfl ?_
  refine r_iload_n C dX12_perform_11 0 rfl ?_
  refine r_if_eq 17 C dX12_perform_12 (by decide) (fun c3 => ?_) (fun c3 => ?_)
  · have h := (ite_inv h).1 c3
    refine r_aload_n C dX12_perform_17 1 rfl ?_
    obtain ⟨m5, e4, h⟩ := bnd_inv h
    refine r_cVv (As := []) (rest := []) C hR mlX12_267 dX12_perform_18 (tX12_keeps hY n  e4) rfl rfl (ly139 hY) rfl (nle rfl) (nle rfl) (nle rfl) ?_
    refine r_aload_n C dX12_perform_21 1 rfl ?_
    refine r_iload_n C dX12_perform_22 2 rfl ?_
    obtain ⟨u7, m8, e6, h⟩ := bnd2_inv h
    refine r_cVi (As := [.int x1]) (rest := []) C hR mlX12_318 dX12_perform_23 (tX12_tells hY n x1  e6) rfl rfl (ly139 hY) rfl (nle rfl) (nle rfl) (nle rfl) ?_
    refine r_istore_n [(3, .int u7), (2, .int u2), (0, .ref (wb (zw Z) + 139)), (1, .int x1)] C dX12_perform_26 rfl (by decide) rfl ?_
    refine r_iload_n C dX12_perform_27 0 rfl ?_
    refine r_if_le 35 C dX12_perform_28 (by decide) (fun c9 => ?_) (fun c9 => ?_)
    · have h := (ite_inv h).1 c9
      refine r_iload_n C dX12_perform_35 0 rfl ?_
      obtain ⟨h1, h2⟩ := Prod.mk.inj (Option.some.inj h)
      subst h1; subst h2
      exact r_iret C dX12_perform_36 hr hE
    · have h := (ite_inv h).2 c9
      refine r_aload_n C dX12_perform_31 2 rfl ?_
      obtain ⟨m11, e10, h⟩ := bnd_inv h
      refine r_cVv (As := []) (rest := []) C hR mlX12_270 dX12_perform_32 (tX12_notes hY n  e10) rfl rfl (ly139 hY) rfl (nle rfl) (nle rfl) (nle rfl) ?_
      refine r_iload_n C dX12_perform_35 0 rfl ?_
      obtain ⟨h1, h2⟩ := Prod.mk.inj (Option.some.inj h)
      subst h1; subst h2
      exact r_iret C dX12_perform_36 hr hE
  · have h := (ite_inv h).2 c3
    refine r_iload_n C dX12_perform_15 0 rfl ?_
    obtain ⟨h1, h2⟩ := Prod.mk.inj (Option.some.inj h)
    subst h1; subst h2
    exact r_iret C dX12_perform_16 hr hE
def fX12_draw (n : Nat) (x1 : Int32) (μ : Mu) : Option (Int32 × Mu) := gd (decide (¬ x1 = 0)) (some (jrem (ushr (rI (wI μ 140 66 ((1103515245 * (rI μ 140 66)) + 12345)) 140 66) 16) x1, wI μ 140 66 ((1103515245 * (rI μ 140 66)) + 12345)))
set_option maxRecDepth 100000 in
set_option maxHeartbeats 4000000 in
theorem tX12_draw {l : Launch} {w : WP} {sh : List Sh} {R : Rf} {μ : Mu} {r : Int32} {μ' : Mu} (hY : LY sh R) (n : Nat) (x1 : Int32)  (h : fX12_draw n x1 μ = some (r, μ')) : CM l w yX12_draw cX12_draw 2 (some .int) 0 0 0 sh R [.ref (wb w + 139), .int x1] μ (some (.int r)) sh R μ' := by
  refine CM.of (plainFor_of_name pf_X12) (Nat.le_of_ble_eq_true rfl) fun Z C hr _ hR hw hl hE => ?_
  subst hw; subst hl
  have C : CX Z cX12_draw 2 RX12 := C
  show Wm Z (0, 0, sh, R) μ 0 [(0, .ref (wb (zw Z) + 139)), (1, .int x1)] []
  unfold fX12_draw at h
  refine r_aload_n C dX12_draw_0 0 rfl ?_
  refine r_getR C flX12_13 dX12_draw_1 (ly139 hY) rfl (lr139_1 hY) ?_
  refine r_bipush C dX12_draw_4 bp_66 ?_
  refine r_ldcw C dX12_draw_6 kkX12_327 ?_
  refine r_aload_n C dX12_draw_9 0 rfl ?_
  refine r_getR C flX12_13 dX12_draw_10 (ly139 hY) rfl (lr139_1 hY) ?_
  refine r_bipush C dX12_draw_13 bp_66 ?_
  refine r_iald C dX12_draw_15 (ly140 hY) (by decide) ?_
  refine r_imul C dX12_draw_16 ?_
  refine r_sipush C dX12_draw_17 sp_12345 ?_
  refine r_iadd C dX12_draw_20 ?_
  refine r_iast C dX12_draw_21 (ly140 hY) (by decide) ?_
  refine r_aload_n C dX12_draw_22 0 rfl ?_
  refine r_getR C flX12_13 dX12_draw_23 (ly139 hY) rfl (lr139_1 hY) ?_
  refine r_bipush C dX12_draw_26 bp_66 ?_
  refine r_iald C dX12_draw_28 (ly140 hY) (by decide) ?_
  refine r_bipush C dX12_draw_29 bp_16 ?_
  refine r_iushr C dX12_draw_31 ?_
  refine r_iload_n C dX12_draw_32 1 rfl ?_
  obtain ⟨b1, h⟩ := gd_inv h
  refine r_irem C dX12_draw_33 (of_decide_eq_true b1) ?_
  obtain ⟨h1, h2⟩ := Prod.mk.inj (Option.some.inj h)
  subst h1; subst h2
  exact r_iret C dX12_draw_34 hr hE
def fX12_drawn (n : Nat)  (μ : Mu) : Option (Int32 × Mu) := bnd2 (fX12_draw n 5 μ) fun u2 m3 => if 2 ≤ u2 then (if u2 = 2 then (bnd2 (fX12_draw n (rI m3 140 1) m3) fun u19 m20 => some (u19, m20)) else (if u2 = 4 then (bnd2 (fX12_draw n 6 m3) fun u16 m17 => some (2000 + u16, m17)) else (if (rI m3 140 4) = 0 then (some ((-9), m3)) else (if (rI m3 140 3) = 0 then (some ((-9), m3)) else (bnd2 (fX12_draw n (rI m3 140 4) m3) fun u10 m11 => bnd2 (fX12_draw n (rI m11 140 3) m11) fun u13 m14 => some ((100 + (100 * u10)) + u13, m14)))))) else (some ((-1), m3))
set_option maxRecDepth 100000 in
set_option maxHeartbeats 4000000 in
theorem tX12_drawn {l : Launch} {w : WP} {sh : List Sh} {R : Rf} {μ : Mu} {r : Int32} {μ' : Mu} (hY : LY sh R) (n : Nat)   (h : fX12_drawn n μ = some (r, μ')) : CM l w yX12_drawn cX12_drawn 3 (some .int) 1 0 0 sh R [.ref (wb w + 139)] μ (some (.int r)) sh R μ' := by
  refine CM.of (plainFor_of_name pf_X12) (Nat.le_of_ble_eq_true rfl) fun Z C hr _ hR hw hl hE => ?_
  subst hw; subst hl
  have C : CX Z cX12_drawn 3 RX12 := C
  show Wm Z (0, 0, sh, R) μ 0 [(0, .ref (wb (zw Z) + 139))] []
  unfold fX12_drawn at h
  refine r_aload_n C dX12_drawn_0 0 rfl ?_
  refine r_iconst C dX12_drawn_1 ic_5 ?_
  obtain ⟨u2, m3, e1, h⟩ := bnd2_inv h
  refine r_cVi (As := [.int 5]) (rest := []) C hR mlX12_328 dX12_drawn_2 (tX12_draw hY n 5  e1) rfl rfl (ly139 hY) rfl (nle rfl) (nle rfl) (nle rfl) ?_
  refine r_istore_n [(1, .int u2), (0, .ref (wb (zw Z) + 139))] C dX12_drawn_5 rfl (by decide) rfl ?_
  refine r_iload_n C dX12_drawn_6 0 rfl ?_
  refine r_iconst C dX12_drawn_7 ic_2 ?_
  refine r_icmp_ge 13 C dX12_drawn_8 (by decide) (fun c4 => ?_) (fun c4 => ?_)
  · have h := (ite_inv h).1 c4
    refine r_iload_n C dX12_drawn_13 0 rfl ?_
    refine r_iconst C dX12_drawn_14 ic_2 ?_
    refine r_icmp_ne 29 C dX12_drawn_15 (by decide) (fun c5 => ?_) (fun c5 => ?_)
    · have h := (ite_inv h).2 c5
      refine r_iload_n C dX12_drawn_29 0 rfl ?_
      refine r_iconst C dX12_drawn_30 ic_4 ?_
      refine r_icmp_ne 45 C dX12_drawn_31 (by decide) (fun c6 => ?_) (fun c6 => ?_)
      · have h := (ite_inv h).2 c6
        refine r_aload_n C dX12_drawn_45 1 rfl ?_
        refine r_getR C flX12_13 dX12_drawn_46 (ly139 hY) rfl (lr139_1 hY) ?_
        refine r_iconst C dX12_drawn_49 ic_4 ?_
        refine r_iald C dX12_drawn_50 (ly140 hY) (by decide) ?_
        refine r_if_eq 63 C dX12_drawn_51 (by decide) (fun c7 => ?_) (fun c7 => ?_)
        · have h := (ite_inv h).1 c7
          refine r_bipush C dX12_drawn_63 bp_m9 ?_
          obtain ⟨h1, h2⟩ := Prod.mk.inj (Option.some.inj h)
          subst h1; subst h2
          exact r_iret C dX12_drawn_65 hr hE
        · have h := (ite_inv h).2 c7
          refine r_aload_n C dX12_drawn_54 1 rfl ?_
          refine r_getR C flX12_13 dX12_drawn_55 (ly139 hY) rfl (lr139_1 hY) ?_
          refine r_iconst C dX12_drawn_58 ic_3 ?_
          refine r_iald C dX12_drawn_59 (ly140 hY) (by decide) ?_
          refine r_if_ne 66 C dX12_drawn_60 (by decide) (fun c8 => ?_) (fun c8 => ?_)
          · have h := (ite_inv h).2 c8
            refine r_aload_n C dX12_drawn_66 1 rfl ?_
            refine r_aload_n C dX12_drawn_67 1 rfl ?_
            refine r_getR C flX12_13 dX12_drawn_68 (ly139 hY) rfl (lr139_1 hY) ?_
            refine r_iconst C dX12_drawn_71 ic_4 ?_
            refine r_iald C dX12_drawn_72 (ly140 hY) (by decide) ?_
            obtain ⟨u10, m11, e9, h⟩ := bnd2_inv h
            refine r_cVi (As := [.int (rI m3 140 4)]) (rest := []) C hR mlX12_328 dX12_drawn_73 (tX12_draw hY n (rI m3 140 4)  e9) rfl rfl (ly139 hY) rfl (nle rfl) (nle rfl) (nle rfl) ?_
            refine r_istore_n [(2, .int u10), (1, .int u2), (0, .ref (wb (zw Z) + 139))] C dX12_drawn_76 rfl (by decide) rfl ?_
            refine r_bipush C dX12_drawn_77 bp_100 ?_
            refine r_bipush C dX12_drawn_79 bp_100 ?_
            refine r_iload_n C dX12_drawn_81 0 rfl ?_
            refine r_imul C dX12_drawn_82 ?_
            refine r_iadd C dX12_drawn_83 ?_
            refine r_aload_n C dX12_drawn_84 2 rfl ?_
            refine r_aload_n C dX12_drawn_85 2 rfl ?_
            refine r_getR C flX12_13 dX12_drawn_86 (ly139 hY) rfl (lr139_1 hY) ?_
            refine r_iconst C dX12_drawn_89 ic_3 ?_
            refine r_iald C dX12_drawn_90 (ly140 hY) (by decide) ?_
            obtain ⟨u13, m14, e12, h⟩ := bnd2_inv h
            refine r_cVi (As := [.int (rI m11 140 3)]) (rest := [.int (100 + (100 * u10))]) C hR mlX12_328 dX12_drawn_91 (tX12_draw hY n (rI m11 140 3)  e12) rfl rfl (ly139 hY) rfl (nle rfl) (nle rfl) (nle rfl) ?_
            refine r_iadd C dX12_drawn_94 ?_
            obtain ⟨h1, h2⟩ := Prod.mk.inj (Option.some.inj h)
            subst h1; subst h2
            exact r_iret C dX12_drawn_95 hr hE
          · have h := (ite_inv h).1 c8
            refine r_bipush C dX12_drawn_63 bp_m9 ?_
            obtain ⟨h1, h2⟩ := Prod.mk.inj (Option.some.inj h)
            subst h1; subst h2
            exact r_iret C dX12_drawn_65 hr hE
      · have h := (ite_inv h).1 c6
        refine r_sipush C dX12_drawn_34 sp_2000 ?_
        refine r_aload_n C dX12_drawn_37 1 rfl ?_
        refine r_bipush C dX12_drawn_38 bp_6 ?_
        obtain ⟨u16, m17, e15, h⟩ := bnd2_inv h
        refine r_cVi (As := [.int 6]) (rest := [.int 2000]) C hR mlX12_328 dX12_drawn_40 (tX12_draw hY n 6  e15) rfl rfl (ly139 hY) rfl (nle rfl) (nle rfl) (nle rfl) ?_
        refine r_iadd C dX12_drawn_43 ?_
        obtain ⟨h1, h2⟩ := Prod.mk.inj (Option.some.inj h)
        subst h1; subst h2
        exact r_iret C dX12_drawn_44 hr hE
    · have h := (ite_inv h).1 c5
      refine r_aload_n C dX12_drawn_18 1 rfl ?_
      refine r_aload_n C dX12_drawn_19 1 rfl ?_
      refine r_getR C flX12_13 dX12_drawn_20 (ly139 hY) rfl (lr139_1 hY) ?_
      refine r_iconst C dX12_drawn_23 ic_1 ?_
      refine r_iald C dX12_drawn_24 (ly140 hY) (by decide) ?_
      obtain ⟨u19, m20, e18, h⟩ := bnd2_inv h
      refine r_cVi (As := [.int (rI m3 140 1)]) (rest := []) C hR mlX12_328 dX12_drawn_25 (tX12_draw hY n (rI m3 140 1)  e18) rfl rfl (ly139 hY) rfl (nle rfl) (nle rfl) (nle rfl) ?_
      obtain ⟨h1, h2⟩ := Prod.mk.inj (Option.some.inj h)
      subst h1; subst h2
      exact r_iret C dX12_drawn_28 hr hE
  · have h := (ite_inv h).2 c4
    refine r_iconst C dX12_drawn_11 ic_m1 ?_
    obtain ⟨h1, h2⟩ := Prod.mk.inj (Option.some.inj h)
    subst h1; subst h2
    exact r_iret C dX12_drawn_12 hr hE
def sX12_days_37 (n : Nat) (x2 : Int32) : Int32 × Int32 × Mu → Option ((Int32 × Int32 × Mu) ⊕ (Int32 × Mu)) := fun q => match q with | (x3, x4, μ) => if x2 ≤ x4 then (some (.inr (x3, μ))) else (bnd2 (fX12_drawn n μ) fun u8 m9 => bnd (fX12_whyNot n (u8.toInt64) m9) fun u11 => if u11 = 0 then (bnd (fX12_does n u8 m9) fun m14 => some (.inl (x3 + 1, x4 + 1, m14))) else (some (.inl (x3, x4 + 1, m9))))
set_option maxRecDepth 100000 in
set_option maxHeartbeats 4000000 in
theorem lX12_days_37 {Z : ZC} {sh : List Sh} {R : Rf} {o : (Int32 × Int32 × Mu) ⊕ (Int32 × Mu)} (C : CX Z cX12_days 6 RX12) (hR : zR Z = rm 6 0 0) (hY : LY sh R) (n : Nat) (x2 : Int32) (x3 : Int32) (x4 : Int32) (μ : Mu) (h : sX12_days_37 n x2 (x3, x4, μ) = some o) (kin : ∀ (x3 : Int32) (x4 : Int32) (μ : Mu), o = .inl (x3, x4, μ) → Wm Z (0, 0, sh, R) μ 37 [(0, .ref (wb (zw Z) + 139)), (2, .int x2), (3, .int x3), (4, .int x4)] []) (kex0 : ∀ (x3 : Int32) (μ : Mu), o = .inr (x3, μ) → Wm Z (0, 0, sh, R) μ 77 [(0, .ref (wb (zw Z) + 139)), (3, .int x3)] []) : Wm Z (0, 0, sh, R) μ 37 [(0, .ref (wb (zw Z) + 139)), (2, .int x2), (3, .int x3), (4, .int x4)] [] := by
  unfold sX12_days_37 at h
  refine r_iload C dX12_days_37 3 rfl ?_
  refine r_iload_n C dX12_days_39 1 rfl ?_
  refine r_icmp_ge 77 C dX12_days_40 (by decide) (fun c6 => ?_) (fun c6 => ?_)
  · have h := (ite_inv h).1 c6
    refine r_sub [(0, .ref (wb (zw Z) + 139)), (3, .int x3)] [0, 2] rfl ?_
    exact kex0 x3 μ (Option.some.inj h).symm
  · have h := (ite_inv h).2 c6
    refine r_aload_n C dX12_days_43 0 rfl ?_
    obtain ⟨u8, m9, e7, h⟩ := bnd2_inv h
    refine r_cVi (As := []) (rest := []) C hR mlX12_333 dX12_days_44 (tX12_drawn hY n  e7) rfl rfl (ly139 hY) rfl (nle rfl) (nle rfl) (nle rfl) ?_
    refine r_istore [(5, .int u8), (0, .ref (wb (zw Z) + 139)), (2, .int x2), (3, .int x3), (4, .int x4)] C dX12_days_47 (by decide) rfl ?_
    refine r_aload_n C dX12_days_49 1 rfl ?_
    refine r_iload C dX12_days_50 0 rfl ?_
    refine r_i2l C dX12_days_52 ?_
    obtain ⟨u11, e10, h⟩ := bnd_inv h
    refine r_cVi (As := [.long (u8.toInt64)]) (rest := []) C hR mlX12_307 dX12_days_53 (tX12_whyNot hY n (u8.toInt64)  e10) rfl rfl (ly139 hY) rfl (nle rfl) (nle rfl) (nle rfl) ?_
    refine r_if_eq 62 C dX12_days_56 (by decide) (fun c12 => ?_) (fun c12 => ?_)
    · have h := (ite_inv h).1 c12
      refine r_aload_n C dX12_days_62 1 rfl ?_
      refine r_iload C dX12_days_63 0 rfl ?_
      obtain ⟨m14, e13, h⟩ := bnd_inv h
      refine r_cVv (As := [.int u8]) (rest := []) C hR mlX12_310 dX12_days_65 (tX12_does hY n u8  e13) rfl rfl (ly139 hY) rfl (nle rfl) (nle rfl) (nle rfl) ?_
      refine r_iinc [(3, .int (x3 + 1)), (5, .int u8), (0, .ref (wb (zw Z) + 139)), (2, .int x2), (4, .int x4)] C dX12_days_68 3 rfl (in_1 _) (by decide) rfl ?_
      refine r_iinc [(4, .int (x4 + 1)), (3, .int (x3 + 1)), (5, .int u8), (0, .ref (wb (zw Z) + 139)), (2, .int x2)] C dX12_days_71 4 rfl (in_1 _) (by decide) rfl ?_
      refine r_goto 37 C dX12_days_74 (by decide) ?_
      refine r_sub [(0, .ref (wb (zw Z) + 139)), (2, .int x2), (3, .int (x3 + 1)), (4, .int (x4 + 1))] [3, 4, 1, 0] rfl ?_
      exact kin (x3 + 1) (x4 + 1) m14 (Option.some.inj h).symm
    · have h := (ite_inv h).2 c12
      refine r_goto 71 C dX12_days_59 (by decide) ?_
      refine r_iinc [(4, .int (x4 + 1)), (5, .int u8), (0, .ref (wb (zw Z) + 139)), (2, .int x2), (3, .int x3)] C dX12_days_71 4 rfl (in_1 _) (by decide) rfl ?_
      refine r_goto 37 C dX12_days_74 (by decide) ?_
      refine r_sub [(0, .ref (wb (zw Z) + 139)), (2, .int x2), (3, .int x3), (4, .int (x4 + 1))] [2, 3, 4, 0] rfl ?_
      exact kin x3 (x4 + 1) m9 (Option.some.inj h).symm
def fX12_days (n : Nat) (x1 : Int32) (x2 : Int32) (μ : Mu) : Option (Int32 × Mu) := bnd (fX12_within n (x2.toInt64) 1 30 (wI μ 139 0 0)) fun u2 => if u2 = 0 then (some ((-3), wI μ 139 0 0)) else (bnd (fX12_keeps n (wI μ 139 0 0)) fun m5 => bnd (lp n (sX12_days_37 n x2) (0, 0, wI m5 140 66 x1)) fun q => match q with | (u15, m16) => if u15 ≤ 0 then (bnd (fX12_isAgain n m16) fun m20 => some (u15, m20)) else (bnd (fX12_notes n m16) fun m22 => some (u15, m22)))
set_option maxRecDepth 100000 in
set_option maxHeartbeats 4000000 in
theorem tX12_days {l : Launch} {w : WP} {sh : List Sh} {R : Rf} {μ : Mu} {r : Int32} {μ' : Mu} (hY : LY sh R) (n : Nat) (x1 : Int32) (x2 : Int32)  (h : fX12_days n x1 x2 μ = some (r, μ')) : CM l w yX12_days cX12_days 6 (some .int) 6 0 0 sh R [.ref (wb w + 139), .int x1, .int x2] μ (some (.int r)) sh R μ' := by
  refine CM.of (plainFor_of_name pf_X12) (Nat.le_of_ble_eq_true rfl) fun Z C hr _ hR hw hl hE => ?_
  subst hw; subst hl
  have C : CX Z cX12_days 6 RX12 := C
  show Wm Z (0, 0, sh, R) μ 0 [(0, .ref (wb (zw Z) + 139)), (1, .int x1), (2, .int x2)] []
  unfold fX12_days at h
  refine r_aload_n C dX12_days_0 0 rfl ?_
  refine r_iconst C dX12_days_1 ic_0 ?_
  refine r_putI C fiX12_1 dX12_days_2 (ly139 hY) ?_
  refine r_iload_n C dX12_days_5 2 rfl ?_
  refine r_i2l C dX12_days_6 ?_
  refine r_lconst C dX12_days_7 lc_1 ?_
  refine r_ldc2 C dX12_days_8 klX12_331 ?_
  obtain ⟨u2, e1, h⟩ := bnd_inv h
  refine r_cSi (As := [.long (x2.toInt64), .long 1, .long 30]) (rest := []) C hR mlX12_130 dX12_days_11 (tX12_within hY n (x2.toInt64) 1 30  e1) rfl rfl (nle rfl) (nle rfl) (nle rfl) ?_
  refine r_if_ne 20 C dX12_days_14 (by decide) (fun c3 => ?_) (fun c3 => ?_)
  · have h := (ite_inv h).2 c3
    refine r_aload_n C dX12_days_20 0 rfl ?_
    obtain ⟨m5, e4, h⟩ := bnd_inv h
    refine r_cVv (As := []) (rest := []) C hR mlX12_267 dX12_days_21 (tX12_keeps hY n  e4) rfl rfl (ly139 hY) rfl (nle rfl) (nle rfl) (nle rfl) ?_
    refine r_aload_n C dX12_days_24 0 rfl ?_
    refine r_getR C flX12_13 dX12_days_25 (ly139 hY) rfl (lr139_1 hY) ?_
    refine r_bipush C dX12_days_28 bp_66 ?_
    refine r_iload_n C dX12_days_30 1 rfl ?_
    refine r_iast C dX12_days_31 (ly140 hY) (by decide) ?_
    refine r_iconst C dX12_days_32 ic_0 ?_
    refine r_istore_n [(3, .int 0), (0, .ref (wb (zw Z) + 139)), (1, .int x1), (2, .int x2)] C dX12_days_33 rfl (by decide) rfl ?_
    refine r_iconst C dX12_days_34 ic_0 ?_
    refine r_istore [(4, .int 0), (3, .int 0), (0, .ref (wb (zw Z) + 139)), (1, .int x1), (2, .int x2)] C dX12_days_35 (by decide) rfl ?_
    refine r_sub [(0, .ref (wb (zw Z) + 139)), (2, .int x2), (3, .int 0), (4, .int 0)] [2, 4, 1, 0] rfl ?_
    obtain ⟨⟨u15, m16⟩, e17, h⟩ := bnd_inv h
    refine lp_all (sX12_days_37 n x2) (fun q => match q with | (z3, z4, ν) => Wm Z (0, 0, sh, R) (ν) 37 [(0, .ref (wb (zw Z) + 139)), (2, .int x2), (3, .int z3), (4, .int z4)] []) (fun q => match q with | (z3, ν) => Wm Z (0, 0, sh, R) (ν) 77 [(0, .ref (wb (zw Z) + 139)), (3, .int z3)] []) (fun q o h kin kex => ?_) n (0, 0, wI m5 140 66 x1) (u15, m16) e17 ?_
    · obtain ⟨z3, z4, ν⟩ := q; exact lX12_days_37 C hR hY n   x2 z3 z4 ν h (fun z3 z4 ν e => kin (z3, z4, ν) e) (fun z3 ν e => kex (z3, ν) e)
    show Wm Z (0, 0, sh, R) m16 77 [(0, .ref (wb (zw Z) + 139)), (3, .int u15)] []
    refine r_iload_n C dX12_days_77 1 rfl ?_
    refine r_if_le 88 C dX12_days_78 (by decide) (fun c18 => ?_) (fun c18 => ?_)
    · have h := (ite_inv h).1 c18
      refine r_aload_n C dX12_days_88 0 rfl ?_
      obtain ⟨m20, e19, h⟩ := bnd_inv h
      refine r_cVv (As := []) (rest := []) C hR mlX12_324 dX12_days_89 (tX12_isAgain hY n  e19) rfl rfl (ly139 hY) rfl (nle rfl) (nle rfl) (nle rfl) ?_
      refine r_iload_n C dX12_days_92 1 rfl ?_
      obtain ⟨h1, h2⟩ := Prod.mk.inj (Option.some.inj h)
      subst h1; subst h2
      exact r_iret C dX12_days_93 hr hE
    · have h := (ite_inv h).2 c18
      refine r_aload_n C dX12_days_81 0 rfl ?_
      obtain ⟨m22, e21, h⟩ := bnd_inv h
      refine r_cVv (As := []) (rest := []) C hR mlX12_270 dX12_days_82 (tX12_notes hY n  e21) rfl rfl (ly139 hY) rfl (nle rfl) (nle rfl) (nle rfl) ?_
      refine r_goto 92 C dX12_days_85 (by decide) ?_
      refine r_iload_n C dX12_days_92 1 rfl ?_
      obtain ⟨h1, h2⟩ := Prod.mk.inj (Option.some.inj h)
      subst h1; subst h2
      exact r_iret C dX12_days_93 hr hE
  · have h := (ite_inv h).1 c3
    refine r_bipush C dX12_days_17 bp_m3 ?_
    obtain ⟨h1, h2⟩ := Prod.mk.inj (Option.some.inj h)
    subst h1; subst h2
    exact r_iret C dX12_days_19 hr hE
def jX12_comesIn_67 (n : Nat) (x1 : Int32) (x2 : Int32) (x3 : Int32) (x4 : Int32) (μ : Mu) : Option ((Int32 × Int32 × Mu) ⊕ (Int32 × Mu)) := bnd2 (fX12_goesHour n μ) fun u16 m17 => some (.inl (x3, x4 + 1, m17))
set_option maxRecDepth 100000 in
set_option maxHeartbeats 4000000 in
theorem kX12_comesIn_67 {Z : ZC} {sh : List Sh} {R : Rf} {o : (Int32 × Int32 × Mu) ⊕ (Int32 × Mu)} (C : CX Z cX12_comesIn 5 RX12) (hR : zR Z = rm 5 0 0) (hY : LY sh R) (n : Nat) (x1 : Int32) (x2 : Int32) (x3 : Int32) (x4 : Int32) (μ : Mu) (h : jX12_comesIn_67 n x1 x2 x3 x4 μ = some o) (kin : ∀ (x3 : Int32) (x4 : Int32) (μ : Mu), o = .inl (x3, x4, μ) → Wm Z (0, 0, sh, R) μ 35 [(0, .ref (wb (zw Z) + 139)), (1, .int x1), (2, .int x2), (3, .int x3), (4, .int x4)] []) (kex0 : ∀ (x3 : Int32) (μ : Mu), o = .inr (x3, μ) → Wm Z (0, 0, sh, R) μ 78 [(0, .ref (wb (zw Z) + 139)), (3, .int x3)] []) : Wm Z (0, 0, sh, R) μ 67 [(0, .ref (wb (zw Z) + 139)), (1, .int x1), (2, .int x2), (3, .int x3), (4, .int x4)] [] := by
  unfold jX12_comesIn_67 at h
  refine r_aload_n C dX12_comesIn_67 0 rfl ?_
  obtain ⟨u16, m17, e15, h⟩ := bnd2_inv h
  refine r_cVi (As := []) (rest := []) C hR mlX12_287 dX12_comesIn_68 (tX12_goesHour hY n  e15) rfl rfl (ly139 hY) rfl (nle rfl) (nle rfl) (nle rfl) ?_
  refine r_pop C dX12_comesIn_71 rfl ?_
  refine r_iinc [(4, .int (x4 + 1)), (0, .ref (wb (zw Z) + 139)), (1, .int x1), (2, .int x2), (3, .int x3)] C dX12_comesIn_72 4 rfl (in_1 _) (by decide) rfl ?_
  refine r_goto 35 C dX12_comesIn_75 (by decide) ?_
  refine r_sub [(0, .ref (wb (zw Z) + 139)), (1, .int x1), (2, .int x2), (3, .int x3), (4, .int (x4 + 1))] [1, 2, 3, 4, 0] rfl ?_
  exact kin x3 (x4 + 1) m17 (Option.some.inj h).symm
def sX12_comesIn_35 (n : Nat) (x1 : Int32) (x2 : Int32) : Int32 × Int32 × Mu → Option ((Int32 × Int32 × Mu) ⊕ (Int32 × Mu)) := fun q => match q with | (x3, x4, μ) => if 99 < x4 then (some (.inr (x3, μ))) else (if x3 = (-1) then (gd (ib (76 + x1) 6726) (bnd (fX12_isIn n ((rI μ 140 (ix (76 + x1))).toInt64) x2 μ) fun u13 => if u13 = 0 then (jX12_comesIn_67 n x1 x2 x3 x4 μ) else (jX12_comesIn_67 n x1 x2 x4 x4 μ))) else (some (.inr (x3, μ))))
set_option maxRecDepth 100000 in
set_option maxHeartbeats 4000000 in
theorem lX12_comesIn_35 {Z : ZC} {sh : List Sh} {R : Rf} {o : (Int32 × Int32 × Mu) ⊕ (Int32 × Mu)} (C : CX Z cX12_comesIn 5 RX12) (hR : zR Z = rm 5 0 0) (hY : LY sh R) (n : Nat) (x1 : Int32) (x2 : Int32) (x3 : Int32) (x4 : Int32) (μ : Mu) (h : sX12_comesIn_35 n x1 x2 (x3, x4, μ) = some o) (kin : ∀ (x3 : Int32) (x4 : Int32) (μ : Mu), o = .inl (x3, x4, μ) → Wm Z (0, 0, sh, R) μ 35 [(0, .ref (wb (zw Z) + 139)), (1, .int x1), (2, .int x2), (3, .int x3), (4, .int x4)] []) (kex0 : ∀ (x3 : Int32) (μ : Mu), o = .inr (x3, μ) → Wm Z (0, 0, sh, R) μ 78 [(0, .ref (wb (zw Z) + 139)), (3, .int x3)] []) : Wm Z (0, 0, sh, R) μ 35 [(0, .ref (wb (zw Z) + 139)), (1, .int x1), (2, .int x2), (3, .int x3), (4, .int x4)] [] := by
  unfold sX12_comesIn_35 at h
  refine r_iload C dX12_comesIn_35 4 rfl ?_
  refine r_bipush C dX12_comesIn_37 bp_99 ?_
  refine r_icmp_gt 78 C dX12_comesIn_39 (by decide) (fun c9 => ?_) (fun c9 => ?_)
  · have h := (ite_inv h).1 c9
    refine r_sub [(0, .ref (wb (zw Z) + 139)), (3, .int x3)] [0, 3] rfl ?_
    exact kex0 x3 μ (Option.some.inj h).symm
  · have h := (ite_inv h).2 c9
    refine r_iload_n C dX12_comesIn_42 3 rfl ?_
    refine r_iconst C dX12_comesIn_43 ic_m1 ?_
    refine r_icmp_ne 78 C dX12_comesIn_44 (by decide) (fun c10 => ?_) (fun c10 => ?_)
    · have h := (ite_inv h).2 c10
      refine r_sub [(0, .ref (wb (zw Z) + 139)), (3, .int x3)] [0, 3] rfl ?_
      exact kex0 x3 μ (Option.some.inj h).symm
    · have h := (ite_inv h).1 c10
      refine r_aload_n C dX12_comesIn_47 0 rfl ?_
      refine r_getR C flX12_13 dX12_comesIn_48 (ly139 hY) rfl (lr139_1 hY) ?_
      refine r_bipush C dX12_comesIn_51 bp_76 ?_
      refine r_iload_n C dX12_comesIn_53 1 rfl ?_
      refine r_iadd C dX12_comesIn_54 ?_
      obtain ⟨b11, h⟩ := gd_inv h
      refine r_iald C dX12_comesIn_55 (ly140 hY) b11 ?_
      refine r_i2l C dX12_comesIn_56 ?_
      refine r_iload_n C dX12_comesIn_57 2 rfl ?_
      obtain ⟨u13, e12, h⟩ := bnd_inv h
      refine r_cSi (As := [.long ((rI μ 140 (ix (76 + x1))).toInt64), .int x2]) (rest := []) C hR mlX12_213 dX12_comesIn_58 (tX12_isIn hY n ((rI μ 140 (ix (76 + x1))).toInt64) x2  e12) rfl rfl (nle rfl) (nle rfl) (nle rfl) ?_
      refine r_if_eq 67 C dX12_comesIn_61 (by decide) (fun c14 => ?_) (fun c14 => ?_)
      · have h := (ite_inv h).1 c14
        exact kX12_comesIn_67 C hR hY n   x1 x2 x3 x4 μ h kin kex0
      · have h := (ite_inv h).2 c14
        refine r_iload C dX12_comesIn_64 4 rfl ?_
        refine r_istore_n [(3, .int x4), (0, .ref (wb (zw Z) + 139)), (1, .int x1), (2, .int x2), (4, .int x4)] C dX12_comesIn_66 rfl (by decide) rfl ?_
        refine r_sub [(0, .ref (wb (zw Z) + 139)), (1, .int x1), (2, .int x2), (3, .int x4), (4, .int x4)] [1, 2, 3, 0, 4] rfl ?_
        exact kX12_comesIn_67 C hR hY n   x1 x2 x4 x4 μ h kin kex0
def jX12_comesIn_78 (n : Nat) (x3 : Int32) (μ : Mu) : Option (Int32 × Mu) := bnd (fX12_isAgain n μ) fun m22 => some (x3, m22)
set_option maxRecDepth 100000 in
set_option maxHeartbeats 4000000 in
theorem kX12_comesIn_78 {Z : ZC} {sh : List Sh} {R : Rf} {r : Int32} {μ' : Mu} (C : CX Z cX12_comesIn 5 RX12) (hR : zR Z = rm 5 0 0) (hY : LY sh R) (n : Nat) (x3 : Int32) (μ : Mu) (h : jX12_comesIn_78 n x3 μ = some (r, μ')) (hr : (zme Z).sig.returnType = (some .int)) (hE : zEnd Z (0, 0, sh, R) μ' (some (.int r))) : Wm Z (0, 0, sh, R) μ 78 [(0, .ref (wb (zw Z) + 139)), (3, .int x3)] [] := by
  unfold jX12_comesIn_78 at h
  refine r_aload_n C dX12_comesIn_78 0 rfl ?_
  obtain ⟨m22, e21, h⟩ := bnd_inv h
  refine r_cVv (As := []) (rest := []) C hR mlX12_324 dX12_comesIn_79 (tX12_isAgain hY n  e21) rfl rfl (ly139 hY) rfl (nle rfl) (nle rfl) (nle rfl) ?_
  refine r_iload_n C dX12_comesIn_82 1 rfl ?_
  obtain ⟨h1, h2⟩ := Prod.mk.inj (Option.some.inj h)
  subst h1; subst h2
  exact r_iret C dX12_comesIn_83 hr hE
def fX12_comesIn (n : Nat) (x1 : Int32) (x2 : Int32) (μ : Mu) : Option (Int32 × Mu) := bnd (fX12_isWord n (x1.toInt64) (wI μ 139 0 0)) fun u2 => if u2 = 0 then (some ((-2), wI μ 139 0 0)) else (bnd (fX12_isBeach n (x2.toInt64) (wI μ 139 0 0)) fun u5 => if u5 = 0 then (some ((-2), wI μ 139 0 0)) else (bnd (fX12_keeps n (wI μ 139 0 0)) fun m8 => bnd (lp n (sX12_comesIn_35 n x1 x2) ((-1), 0, m8)) fun q => match q with | (u18, m19) => jX12_comesIn_78 n u18 m19))
set_option maxRecDepth 100000 in
set_option maxHeartbeats 4000000 in
theorem tX12_comesIn {l : Launch} {w : WP} {sh : List Sh} {R : Rf} {μ : Mu} {r : Int32} {μ' : Mu} (hY : LY sh R) (n : Nat) (x1 : Int32) (x2 : Int32)  (h : fX12_comesIn n x1 x2 μ = some (r, μ')) : CM l w yX12_comesIn cX12_comesIn 5 (some .int) 5 0 0 sh R [.ref (wb w + 139), .int x1, .int x2] μ (some (.int r)) sh R μ' := by
  refine CM.of (plainFor_of_name pf_X12) (Nat.le_of_ble_eq_true rfl) fun Z C hr _ hR hw hl hE => ?_
  subst hw; subst hl
  have C : CX Z cX12_comesIn 5 RX12 := C
  show Wm Z (0, 0, sh, R) μ 0 [(0, .ref (wb (zw Z) + 139)), (1, .int x1), (2, .int x2)] []
  unfold fX12_comesIn at h
  refine r_aload_n C dX12_comesIn_0 0 rfl ?_
  refine r_iconst C dX12_comesIn_1 ic_0 ?_
  refine r_putI C fiX12_1 dX12_comesIn_2 (ly139 hY) ?_
  refine r_aload_n C dX12_comesIn_5 0 rfl ?_
  refine r_iload_n C dX12_comesIn_6 1 rfl ?_
  refine r_i2l C dX12_comesIn_7 ?_
  obtain ⟨u2, e1, h⟩ := bnd_inv h
  refine r_cVi (As := [.long (x1.toInt64)]) (rest := []) C hR mlX12_239 dX12_comesIn_8 (tX12_isWord hY n (x1.toInt64)  e1) rfl rfl (ly139 hY) rfl (nle rfl) (nle rfl) (nle rfl) ?_
  refine r_if_eq 23 C dX12_comesIn_11 (by decide) (fun c3 => ?_) (fun c3 => ?_)
  · have h := (ite_inv h).1 c3
    refine r_bipush C dX12_comesIn_23 bp_m2 ?_
    obtain ⟨h1, h2⟩ := Prod.mk.inj (Option.some.inj h)
    subst h1; subst h2
    exact r_iret C dX12_comesIn_25 hr hE
  · have h := (ite_inv h).2 c3
    refine r_aload_n C dX12_comesIn_14 0 rfl ?_
    refine r_iload_n C dX12_comesIn_15 2 rfl ?_
    refine r_i2l C dX12_comesIn_16 ?_
    obtain ⟨u5, e4, h⟩ := bnd_inv h
    refine r_cVi (As := [.long (x2.toInt64)]) (rest := []) C hR mlX12_244 dX12_comesIn_17 (tX12_isBeach hY n (x2.toInt64)  e4) rfl rfl (ly139 hY) rfl (nle rfl) (nle rfl) (nle rfl) ?_
    refine r_if_ne 26 C dX12_comesIn_20 (by decide) (fun c6 => ?_) (fun c6 => ?_)
    · have h := (ite_inv h).2 c6
      refine r_aload_n C dX12_comesIn_26 0 rfl ?_
      obtain ⟨m8, e7, h⟩ := bnd_inv h
      refine r_cVv (As := []) (rest := []) C hR mlX12_267 dX12_comesIn_27 (tX12_keeps hY n  e7) rfl rfl (ly139 hY) rfl (nle rfl) (nle rfl) (nle rfl) ?_
      refine r_iconst C dX12_comesIn_30 ic_m1 ?_
      refine r_istore_n [(3, .int (-1)), (0, .ref (wb (zw Z) + 139)), (1, .int x1), (2, .int x2)] C dX12_comesIn_31 rfl (by decide) rfl ?_
      refine r_iconst C dX12_comesIn_32 ic_0 ?_
      refine r_istore [(4, .int 0), (3, .int (-1)), (0, .ref (wb (zw Z) + 139)), (1, .int x1), (2, .int x2)] C dX12_comesIn_33 (by decide) rfl ?_
      refine r_sub [(0, .ref (wb (zw Z) + 139)), (1, .int x1), (2, .int x2), (3, .int (-1)), (4, .int 0)] [2, 3, 4, 1, 0] rfl ?_
      obtain ⟨⟨u18, m19⟩, e20, h⟩ := bnd_inv h
      refine lp_all (sX12_comesIn_35 n x1 x2) (fun q => match q with | (z3, z4, ν) => Wm Z (0, 0, sh, R) (ν) 35 [(0, .ref (wb (zw Z) + 139)), (1, .int x1), (2, .int x2), (3, .int z3), (4, .int z4)] []) (fun q => match q with | (z3, ν) => Wm Z (0, 0, sh, R) (ν) 78 [(0, .ref (wb (zw Z) + 139)), (3, .int z3)] []) (fun q o h kin kex => ?_) n ((-1), 0, m8) (u18, m19) e20 ?_
      · obtain ⟨z3, z4, ν⟩ := q; exact lX12_comesIn_35 C hR hY n   x1 x2 z3 z4 ν h (fun z3 z4 ν e => kin (z3, z4, ν) e) (fun z3 ν e => kex (z3, ν) e)
      show Wm Z (0, 0, sh, R) m19 78 [(0, .ref (wb (zw Z) + 139)), (3, .int u18)] []
      exact kX12_comesIn_78 C hR hY n   u18 m19 h hr hE
    · have h := (ite_inv h).1 c6
      refine r_bipush C dX12_comesIn_23 bp_m2 ?_
      obtain ⟨h1, h2⟩ := Prod.mk.inj (Option.some.inj h)
      subst h1; subst h2
      exact r_iret C dX12_comesIn_25 hr hE
def jX12_hearsIn_67 (n : Nat) (x1 : Int32) (x2 : Int32) (x3 : Int32) (x4 : Int32) (μ : Mu) : Option ((Int32 × Int32 × Mu) ⊕ (Int32 × Mu)) := bnd2 (fX12_goesHour n μ) fun u16 m17 => some (.inl (x3, x4 + 1, m17))
set_option maxRecDepth 100000 in
set_option maxHeartbeats 4000000 in
theorem kX12_hearsIn_67 {Z : ZC} {sh : List Sh} {R : Rf} {o : (Int32 × Int32 × Mu) ⊕ (Int32 × Mu)} (C : CX Z cX12_hearsIn 5 RX12) (hR : zR Z = rm 5 0 0) (hY : LY sh R) (n : Nat) (x1 : Int32) (x2 : Int32) (x3 : Int32) (x4 : Int32) (μ : Mu) (h : jX12_hearsIn_67 n x1 x2 x3 x4 μ = some o) (kin : ∀ (x3 : Int32) (x4 : Int32) (μ : Mu), o = .inl (x3, x4, μ) → Wm Z (0, 0, sh, R) μ 35 [(0, .ref (wb (zw Z) + 139)), (1, .int x1), (2, .int x2), (3, .int x3), (4, .int x4)] []) (kex0 : ∀ (x3 : Int32) (μ : Mu), o = .inr (x3, μ) → Wm Z (0, 0, sh, R) μ 78 [(0, .ref (wb (zw Z) + 139)), (3, .int x3)] []) : Wm Z (0, 0, sh, R) μ 67 [(0, .ref (wb (zw Z) + 139)), (1, .int x1), (2, .int x2), (3, .int x3), (4, .int x4)] [] := by
  unfold jX12_hearsIn_67 at h
  refine r_aload_n C dX12_hearsIn_67 0 rfl ?_
  obtain ⟨u16, m17, e15, h⟩ := bnd2_inv h
  refine r_cVi (As := []) (rest := []) C hR mlX12_287 dX12_hearsIn_68 (tX12_goesHour hY n  e15) rfl rfl (ly139 hY) rfl (nle rfl) (nle rfl) (nle rfl) ?_
  refine r_pop C dX12_hearsIn_71 rfl ?_
  refine r_iinc [(4, .int (x4 + 1)), (0, .ref (wb (zw Z) + 139)), (1, .int x1), (2, .int x2), (3, .int x3)] C dX12_hearsIn_72 4 rfl (in_1 _) (by decide) rfl ?_
  refine r_goto 35 C dX12_hearsIn_75 (by decide) ?_
  refine r_sub [(0, .ref (wb (zw Z) + 139)), (1, .int x1), (2, .int x2), (3, .int x3), (4, .int (x4 + 1))] [1, 2, 3, 4, 0] rfl ?_
  exact kin x3 (x4 + 1) m17 (Option.some.inj h).symm
def sX12_hearsIn_35 (n : Nat) (x1 : Int32) (x2 : Int32) : Int32 × Int32 × Mu → Option ((Int32 × Int32 × Mu) ⊕ (Int32 × Mu)) := fun q => match q with | (x3, x4, μ) => if 99 < x4 then (some (.inr (x3, μ))) else (if x3 = (-1) then (gd (ib (92 + x1) 6726) (bnd (fX12_isIn n ((rI μ 140 (ix (92 + x1))).toInt64) x2 μ) fun u13 => if u13 = 0 then (jX12_hearsIn_67 n x1 x2 x3 x4 μ) else (jX12_hearsIn_67 n x1 x2 x4 x4 μ))) else (some (.inr (x3, μ))))
set_option maxRecDepth 100000 in
set_option maxHeartbeats 4000000 in
theorem lX12_hearsIn_35 {Z : ZC} {sh : List Sh} {R : Rf} {o : (Int32 × Int32 × Mu) ⊕ (Int32 × Mu)} (C : CX Z cX12_hearsIn 5 RX12) (hR : zR Z = rm 5 0 0) (hY : LY sh R) (n : Nat) (x1 : Int32) (x2 : Int32) (x3 : Int32) (x4 : Int32) (μ : Mu) (h : sX12_hearsIn_35 n x1 x2 (x3, x4, μ) = some o) (kin : ∀ (x3 : Int32) (x4 : Int32) (μ : Mu), o = .inl (x3, x4, μ) → Wm Z (0, 0, sh, R) μ 35 [(0, .ref (wb (zw Z) + 139)), (1, .int x1), (2, .int x2), (3, .int x3), (4, .int x4)] []) (kex0 : ∀ (x3 : Int32) (μ : Mu), o = .inr (x3, μ) → Wm Z (0, 0, sh, R) μ 78 [(0, .ref (wb (zw Z) + 139)), (3, .int x3)] []) : Wm Z (0, 0, sh, R) μ 35 [(0, .ref (wb (zw Z) + 139)), (1, .int x1), (2, .int x2), (3, .int x3), (4, .int x4)] [] := by
  unfold sX12_hearsIn_35 at h
  refine r_iload C dX12_hearsIn_35 4 rfl ?_
  refine r_bipush C dX12_hearsIn_37 bp_99 ?_
  refine r_icmp_gt 78 C dX12_hearsIn_39 (by decide) (fun c9 => ?_) (fun c9 => ?_)
  · have h := (ite_inv h).1 c9
    refine r_sub [(0, .ref (wb (zw Z) + 139)), (3, .int x3)] [0, 3] rfl ?_
    exact kex0 x3 μ (Option.some.inj h).symm
  · have h := (ite_inv h).2 c9
    refine r_iload_n C dX12_hearsIn_42 3 rfl ?_
    refine r_iconst C dX12_hearsIn_43 ic_m1 ?_
    refine r_icmp_ne 78 C dX12_hearsIn_44 (by decide) (fun c10 => ?_) (fun c10 => ?_)
    · have h := (ite_inv h).2 c10
      refine r_sub [(0, .ref (wb (zw Z) + 139)), (3, .int x3)] [0, 3] rfl ?_
      exact kex0 x3 μ (Option.some.inj h).symm
    · have h := (ite_inv h).1 c10
      refine r_aload_n C dX12_hearsIn_47 0 rfl ?_
      refine r_getR C flX12_13 dX12_hearsIn_48 (ly139 hY) rfl (lr139_1 hY) ?_
      refine r_bipush C dX12_hearsIn_51 bp_92 ?_
      refine r_iload_n C dX12_hearsIn_53 1 rfl ?_
      refine r_iadd C dX12_hearsIn_54 ?_
      obtain ⟨b11, h⟩ := gd_inv h
      refine r_iald C dX12_hearsIn_55 (ly140 hY) b11 ?_
      refine r_i2l C dX12_hearsIn_56 ?_
      refine r_iload_n C dX12_hearsIn_57 2 rfl ?_
      obtain ⟨u13, e12, h⟩ := bnd_inv h
      refine r_cSi (As := [.long ((rI μ 140 (ix (92 + x1))).toInt64), .int x2]) (rest := []) C hR mlX12_213 dX12_hearsIn_58 (tX12_isIn hY n ((rI μ 140 (ix (92 + x1))).toInt64) x2  e12) rfl rfl (nle rfl) (nle rfl) (nle rfl) ?_
      refine r_if_eq 67 C dX12_hearsIn_61 (by decide) (fun c14 => ?_) (fun c14 => ?_)
      · have h := (ite_inv h).1 c14
        exact kX12_hearsIn_67 C hR hY n   x1 x2 x3 x4 μ h kin kex0
      · have h := (ite_inv h).2 c14
        refine r_iload C dX12_hearsIn_64 4 rfl ?_
        refine r_istore_n [(3, .int x4), (0, .ref (wb (zw Z) + 139)), (1, .int x1), (2, .int x2), (4, .int x4)] C dX12_hearsIn_66 rfl (by decide) rfl ?_
        refine r_sub [(0, .ref (wb (zw Z) + 139)), (1, .int x1), (2, .int x2), (3, .int x4), (4, .int x4)] [1, 2, 3, 0, 4] rfl ?_
        exact kX12_hearsIn_67 C hR hY n   x1 x2 x4 x4 μ h kin kex0
def jX12_hearsIn_78 (n : Nat) (x3 : Int32) (μ : Mu) : Option (Int32 × Mu) := bnd (fX12_isAgain n μ) fun m22 => some (x3, m22)
set_option maxRecDepth 100000 in
set_option maxHeartbeats 4000000 in
theorem kX12_hearsIn_78 {Z : ZC} {sh : List Sh} {R : Rf} {r : Int32} {μ' : Mu} (C : CX Z cX12_hearsIn 5 RX12) (hR : zR Z = rm 5 0 0) (hY : LY sh R) (n : Nat) (x3 : Int32) (μ : Mu) (h : jX12_hearsIn_78 n x3 μ = some (r, μ')) (hr : (zme Z).sig.returnType = (some .int)) (hE : zEnd Z (0, 0, sh, R) μ' (some (.int r))) : Wm Z (0, 0, sh, R) μ 78 [(0, .ref (wb (zw Z) + 139)), (3, .int x3)] [] := by
  unfold jX12_hearsIn_78 at h
  refine r_aload_n C dX12_hearsIn_78 0 rfl ?_
  obtain ⟨m22, e21, h⟩ := bnd_inv h
  refine r_cVv (As := []) (rest := []) C hR mlX12_324 dX12_hearsIn_79 (tX12_isAgain hY n  e21) rfl rfl (ly139 hY) rfl (nle rfl) (nle rfl) (nle rfl) ?_
  refine r_iload_n C dX12_hearsIn_82 1 rfl ?_
  obtain ⟨h1, h2⟩ := Prod.mk.inj (Option.some.inj h)
  subst h1; subst h2
  exact r_iret C dX12_hearsIn_83 hr hE
def fX12_hearsIn (n : Nat) (x1 : Int32) (x2 : Int32) (μ : Mu) : Option (Int32 × Mu) := bnd (fX12_isWord n (x1.toInt64) (wI μ 139 0 0)) fun u2 => if u2 = 0 then (some ((-2), wI μ 139 0 0)) else (bnd (fX12_isPerson n (x2.toInt64) (wI μ 139 0 0)) fun u5 => if u5 = 0 then (some ((-2), wI μ 139 0 0)) else (bnd (fX12_keeps n (wI μ 139 0 0)) fun m8 => bnd (lp n (sX12_hearsIn_35 n x1 x2) ((-1), 0, m8)) fun q => match q with | (u18, m19) => jX12_hearsIn_78 n u18 m19))
set_option maxRecDepth 100000 in
set_option maxHeartbeats 4000000 in
theorem tX12_hearsIn {l : Launch} {w : WP} {sh : List Sh} {R : Rf} {μ : Mu} {r : Int32} {μ' : Mu} (hY : LY sh R) (n : Nat) (x1 : Int32) (x2 : Int32)  (h : fX12_hearsIn n x1 x2 μ = some (r, μ')) : CM l w yX12_hearsIn cX12_hearsIn 5 (some .int) 5 0 0 sh R [.ref (wb w + 139), .int x1, .int x2] μ (some (.int r)) sh R μ' := by
  refine CM.of (plainFor_of_name pf_X12) (Nat.le_of_ble_eq_true rfl) fun Z C hr _ hR hw hl hE => ?_
  subst hw; subst hl
  have C : CX Z cX12_hearsIn 5 RX12 := C
  show Wm Z (0, 0, sh, R) μ 0 [(0, .ref (wb (zw Z) + 139)), (1, .int x1), (2, .int x2)] []
  unfold fX12_hearsIn at h
  refine r_aload_n C dX12_hearsIn_0 0 rfl ?_
  refine r_iconst C dX12_hearsIn_1 ic_0 ?_
  refine r_putI C fiX12_1 dX12_hearsIn_2 (ly139 hY) ?_
  refine r_aload_n C dX12_hearsIn_5 0 rfl ?_
  refine r_iload_n C dX12_hearsIn_6 1 rfl ?_
  refine r_i2l C dX12_hearsIn_7 ?_
  obtain ⟨u2, e1, h⟩ := bnd_inv h
  refine r_cVi (As := [.long (x1.toInt64)]) (rest := []) C hR mlX12_239 dX12_hearsIn_8 (tX12_isWord hY n (x1.toInt64)  e1) rfl rfl (ly139 hY) rfl (nle rfl) (nle rfl) (nle rfl) ?_
  refine r_if_eq 23 C dX12_hearsIn_11 (by decide) (fun c3 => ?_) (fun c3 => ?_)
  · have h := (ite_inv h).1 c3
    refine r_bipush C dX12_hearsIn_23 bp_m2 ?_
    obtain ⟨h1, h2⟩ := Prod.mk.inj (Option.some.inj h)
    subst h1; subst h2
    exact r_iret C dX12_hearsIn_25 hr hE
  · have h := (ite_inv h).2 c3
    refine r_aload_n C dX12_hearsIn_14 0 rfl ?_
    refine r_iload_n C dX12_hearsIn_15 2 rfl ?_
    refine r_i2l C dX12_hearsIn_16 ?_
    obtain ⟨u5, e4, h⟩ := bnd_inv h
    refine r_cVi (As := [.long (x2.toInt64)]) (rest := []) C hR mlX12_224 dX12_hearsIn_17 (tX12_isPerson hY n (x2.toInt64)  e4) rfl rfl (ly139 hY) rfl (nle rfl) (nle rfl) (nle rfl) ?_
    refine r_if_ne 26 C dX12_hearsIn_20 (by decide) (fun c6 => ?_) (fun c6 => ?_)
    · have h := (ite_inv h).2 c6
      refine r_aload_n C dX12_hearsIn_26 0 rfl ?_
      obtain ⟨m8, e7, h⟩ := bnd_inv h
      refine r_cVv (As := []) (rest := []) C hR mlX12_267 dX12_hearsIn_27 (tX12_keeps hY n  e7) rfl rfl (ly139 hY) rfl (nle rfl) (nle rfl) (nle rfl) ?_
      refine r_iconst C dX12_hearsIn_30 ic_m1 ?_
      refine r_istore_n [(3, .int (-1)), (0, .ref (wb (zw Z) + 139)), (1, .int x1), (2, .int x2)] C dX12_hearsIn_31 rfl (by decide) rfl ?_
      refine r_iconst C dX12_hearsIn_32 ic_0 ?_
      refine r_istore [(4, .int 0), (3, .int (-1)), (0, .ref (wb (zw Z) + 139)), (1, .int x1), (2, .int x2)] C dX12_hearsIn_33 (by decide) rfl ?_
      refine r_sub [(0, .ref (wb (zw Z) + 139)), (1, .int x1), (2, .int x2), (3, .int (-1)), (4, .int 0)] [2, 3, 4, 1, 0] rfl ?_
      obtain ⟨⟨u18, m19⟩, e20, h⟩ := bnd_inv h
      refine lp_all (sX12_hearsIn_35 n x1 x2) (fun q => match q with | (z3, z4, ν) => Wm Z (0, 0, sh, R) (ν) 35 [(0, .ref (wb (zw Z) + 139)), (1, .int x1), (2, .int x2), (3, .int z3), (4, .int z4)] []) (fun q => match q with | (z3, ν) => Wm Z (0, 0, sh, R) (ν) 78 [(0, .ref (wb (zw Z) + 139)), (3, .int z3)] []) (fun q o h kin kex => ?_) n ((-1), 0, m8) (u18, m19) e20 ?_
      · obtain ⟨z3, z4, ν⟩ := q; exact lX12_hearsIn_35 C hR hY n   x1 x2 z3 z4 ν h (fun z3 z4 ν e => kin (z3, z4, ν) e) (fun z3 ν e => kex (z3, ν) e)
      show Wm Z (0, 0, sh, R) m19 78 [(0, .ref (wb (zw Z) + 139)), (3, .int u18)] []
      exact kX12_hearsIn_78 C hR hY n   u18 m19 h hr hE
    · have h := (ite_inv h).1 c6
      refine r_bipush C dX12_hearsIn_23 bp_m2 ?_
      obtain ⟨h1, h2⟩ := Prod.mk.inj (Option.some.inj h)
      subst h1; subst h2
      exact r_iret C dX12_hearsIn_25 hr hE
def sX12_goesHours_2 (n : Nat) (x1 : Int32) : Int32 × Mu → Option ((Int32 × Mu) ⊕ (Mu)) := fun q => match q with | (x2, μ) => if x1 ≤ x2 then (some (.inr μ)) else (bnd2 (fX12_goesHour n μ) fun u3 m4 => some (.inl (x2 + 1, m4)))
set_option maxRecDepth 100000 in
set_option maxHeartbeats 4000000 in
theorem lX12_goesHours_2 {Z : ZC} {sh : List Sh} {R : Rf} {o : (Int32 × Mu) ⊕ (Mu)} (C : CX Z cX12_goesHours 3 RX12) (hR : zR Z = rm 5 0 0) (hY : LY sh R) (n : Nat) (x1 : Int32) (x2 : Int32) (μ : Mu) (h : sX12_goesHours_2 n x1 (x2, μ) = some o) (kin : ∀ (x2 : Int32) (μ : Mu), o = .inl (x2, μ) → Wm Z (0, 0, sh, R) μ 2 [(0, .ref (wb (zw Z) + 139)), (1, .int x1), (2, .int x2)] []) (kex0 : ∀ (μ : Mu), o = .inr μ → Wm Z (0, 0, sh, R) μ 18 [] []) : Wm Z (0, 0, sh, R) μ 2 [(0, .ref (wb (zw Z) + 139)), (1, .int x1), (2, .int x2)] [] := by
  unfold sX12_goesHours_2 at h
  refine r_iload_n C dX12_goesHours_2 2 rfl ?_
  refine r_iload_n C dX12_goesHours_3 1 rfl ?_
  refine r_icmp_ge 18 C dX12_goesHours_4 (by decide) (fun c1 => ?_) (fun c1 => ?_)
  · have h := (ite_inv h).1 c1
    refine r_sub [] [] rfl ?_
    exact kex0 μ (Option.some.inj h).symm
  · have h := (ite_inv h).2 c1
    refine r_aload_n C dX12_goesHours_7 0 rfl ?_
    obtain ⟨u3, m4, e2, h⟩ := bnd2_inv h
    refine r_cVi (As := []) (rest := []) C hR mlX12_287 dX12_goesHours_8 (tX12_goesHour hY n  e2) rfl rfl (ly139 hY) rfl (nle rfl) (nle rfl) (nle rfl) ?_
    refine r_pop C dX12_goesHours_11 rfl ?_
    refine r_iinc [(2, .int (x2 + 1)), (0, .ref (wb (zw Z) + 139)), (1, .int x1)] C dX12_goesHours_12 2 rfl (in_1 _) (by decide) rfl ?_
    refine r_goto 2 C dX12_goesHours_15 (by decide) ?_
    refine r_sub [(0, .ref (wb (zw Z) + 139)), (1, .int x1), (2, .int (x2 + 1))] [1, 2, 0] rfl ?_
    exact kin (x2 + 1) m4 (Option.some.inj h).symm
def fX12_goesHours (n : Nat) (x1 : Int32) (μ : Mu) : Option (Mu) := bnd (lp n (sX12_goesHours_2 n x1) (0, μ)) fun q => match q with | m5 => some m5
set_option maxRecDepth 100000 in
set_option maxHeartbeats 4000000 in
theorem tX12_goesHours {l : Launch} {w : WP} {sh : List Sh} {R : Rf} {μ : Mu} {μ' : Mu} (hY : LY sh R) (n : Nat) (x1 : Int32)  (h : fX12_goesHours n x1 μ = some μ') : CM l w yX12_goesHours cX12_goesHours 3 none 5 0 0 sh R [.ref (wb w + 139), .int x1] μ none sh R μ' := by
  refine CM.of (plainFor_of_name pf_X12) (Nat.le_of_ble_eq_true rfl) fun Z C hr _ hR hw hl hE => ?_
  subst hw; subst hl
  have C : CX Z cX12_goesHours 3 RX12 := C
  show Wm Z (0, 0, sh, R) μ 0 [(0, .ref (wb (zw Z) + 139)), (1, .int x1)] []
  unfold fX12_goesHours at h
  refine r_iconst C dX12_goesHours_0 ic_0 ?_
  refine r_istore_n [(2, .int 0), (0, .ref (wb (zw Z) + 139)), (1, .int x1)] C dX12_goesHours_1 rfl (by decide) rfl ?_
  refine r_sub [(0, .ref (wb (zw Z) + 139)), (1, .int x1), (2, .int 0)] [1, 2, 0] rfl ?_
  obtain ⟨m5, e6, h⟩ := bnd_inv h
  refine lp_all (sX12_goesHours_2 n x1) (fun q => match q with | (z2, ν) => Wm Z (0, 0, sh, R) (ν) 2 [(0, .ref (wb (zw Z) + 139)), (1, .int x1), (2, .int z2)] []) (fun q => match q with | ν => Wm Z (0, 0, sh, R) (ν) 18 [] []) (fun q o h kin kex => ?_) n (0, μ) m5 e6 ?_
  · obtain ⟨z2, ν⟩ := q; exact lX12_goesHours_2 C hR hY n   x1 z2 ν h (fun z2 ν e => kin (z2, ν) e) (fun ν e => kex (ν) e)
  show Wm Z (0, 0, sh, R) m5 18 [] []
  have h := Option.some.inj h
  subst h
  exact r_vret C dX12_goesHours_18 hr hE
def fX12_heard (n : Nat) (x1 : Int32) (x2 : Int32) (μ : Mu) : Option (Int32 × Mu) := bnd (fX12_isWord n (x1.toInt64) (wI μ 139 0 0)) fun u2 => if u2 = 0 then (some ((-2), wI μ 139 0 0)) else (bnd (fX12_within n (x2.toInt64) 0 99 (wI μ 139 0 0)) fun u5 => if u5 = 0 then (some ((-3), wI μ 139 0 0)) else (bnd (fX12_keeps n (wI μ 139 0 0)) fun m8 => bnd (fX12_goesHours n x2 m8) fun m10 => gd (ib (92 + x1) 6726) (bnd (fX12_isAgain n m10) fun m13 => some (rI m10 140 (ix (92 + x1)), m13))))
set_option maxRecDepth 100000 in
set_option maxHeartbeats 4000000 in
theorem tX12_heard {l : Launch} {w : WP} {sh : List Sh} {R : Rf} {μ : Mu} {r : Int32} {μ' : Mu} (hY : LY sh R) (n : Nat) (x1 : Int32) (x2 : Int32)  (h : fX12_heard n x1 x2 μ = some (r, μ')) : CM l w yX12_heard cX12_heard 4 (some .int) 6 0 0 sh R [.ref (wb w + 139), .int x1, .int x2] μ (some (.int r)) sh R μ' := by
  refine CM.of (plainFor_of_name pf_X12) (Nat.le_of_ble_eq_true rfl) fun Z C hr _ hR hw hl hE => ?_
  subst hw; subst hl
  have C : CX Z cX12_heard 4 RX12 := C
  show Wm Z (0, 0, sh, R) μ 0 [(0, .ref (wb (zw Z) + 139)), (1, .int x1), (2, .int x2)] []
  unfold fX12_heard at h
  refine r_aload_n C dX12_heard_0 0 rfl ?_
  refine r_iconst C dX12_heard_1 ic_0 ?_
  refine r_putI C fiX12_1 dX12_heard_2 (ly139 hY) ?_
  refine r_aload_n C dX12_heard_5 0 rfl ?_
  refine r_iload_n C dX12_heard_6 1 rfl ?_
  refine r_i2l C dX12_heard_7 ?_
  obtain ⟨u2, e1, h⟩ := bnd_inv h
  refine r_cVi (As := [.long (x1.toInt64)]) (rest := []) C hR mlX12_239 dX12_heard_8 (tX12_isWord hY n (x1.toInt64)  e1) rfl rfl (ly139 hY) rfl (nle rfl) (nle rfl) (nle rfl) ?_
  refine r_if_ne 17 C dX12_heard_11 (by decide) (fun c3 => ?_) (fun c3 => ?_)
  · have h := (ite_inv h).2 c3
    refine r_iload_n C dX12_heard_17 2 rfl ?_
    refine r_i2l C dX12_heard_18 ?_
    refine r_lconst C dX12_heard_19 lc_0 ?_
    refine r_ldc2 C dX12_heard_20 klX12_283 ?_
    obtain ⟨u5, e4, h⟩ := bnd_inv h
    refine r_cSi (As := [.long (x2.toInt64), .long 0, .long 99]) (rest := []) C hR mlX12_130 dX12_heard_23 (tX12_within hY n (x2.toInt64) 0 99  e4) rfl rfl (nle rfl) (nle rfl) (nle rfl) ?_
    refine r_if_ne 32 C dX12_heard_26 (by decide) (fun c6 => ?_) (fun c6 => ?_)
    · have h := (ite_inv h).2 c6
      refine r_aload_n C dX12_heard_32 0 rfl ?_
      obtain ⟨m8, e7, h⟩ := bnd_inv h
      refine r_cVv (As := []) (rest := []) C hR mlX12_267 dX12_heard_33 (tX12_keeps hY n  e7) rfl rfl (ly139 hY) rfl (nle rfl) (nle rfl) (nle rfl) ?_
      refine r_aload_n C dX12_heard_36 0 rfl ?_
      refine r_iload_n C dX12_heard_37 2 rfl ?_
      obtain ⟨m10, e9, h⟩ := bnd_inv h
      refine r_cVv (As := [.int x2]) (rest := []) C hR mlX12_336 dX12_heard_38 (tX12_goesHours hY n x2  e9) rfl rfl (ly139 hY) rfl (nle rfl) (nle rfl) (nle rfl) ?_
      refine r_aload_n C dX12_heard_41 0 rfl ?_
      refine r_getR C flX12_13 dX12_heard_42 (ly139 hY) rfl (lr139_1 hY) ?_
      refine r_bipush C dX12_heard_45 bp_92 ?_
      refine r_iload_n C dX12_heard_47 1 rfl ?_
      refine r_iadd C dX12_heard_48 ?_
      obtain ⟨b11, h⟩ := gd_inv h
      refine r_iald C dX12_heard_49 (ly140 hY) b11 ?_
      refine r_istore_n [(3, .int (rI m10 140 (ix (92 + x1)))), (0, .ref (wb (zw Z) + 139)), (1, .int x1), (2, .int x2)] C dX12_heard_50 rfl (by decide) rfl ?_
      refine r_aload_n C dX12_heard_51 1 rfl ?_
      obtain ⟨m13, e12, h⟩ := bnd_inv h
      refine r_cVv (As := []) (rest := []) C hR mlX12_324 dX12_heard_52 (tX12_isAgain hY n  e12) rfl rfl (ly139 hY) rfl (nle rfl) (nle rfl) (nle rfl) ?_
      refine r_iload_n C dX12_heard_55 0 rfl ?_
      obtain ⟨h1, h2⟩ := Prod.mk.inj (Option.some.inj h)
      subst h1; subst h2
      exact r_iret C dX12_heard_56 hr hE
    · have h := (ite_inv h).1 c6
      refine r_bipush C dX12_heard_29 bp_m3 ?_
      obtain ⟨h1, h2⟩ := Prod.mk.inj (Option.some.inj h)
      subst h1; subst h2
      exact r_iret C dX12_heard_31 hr hE
  · have h := (ite_inv h).1 c3
    refine r_bipush C dX12_heard_14 bp_m2 ?_
    obtain ⟨h1, h2⟩ := Prod.mk.inj (Option.some.inj h)
    subst h1; subst h2
    exact r_iret C dX12_heard_16 hr hE
def jX12_loudest_76 (n : Nat) (x3 : Int32) (μ : Mu) : Option ((Int32 × Int32) ⊕ (Int32)) := some (.inl (x3, x3 + 1))
set_option maxRecDepth 100000 in
set_option maxHeartbeats 4000000 in
theorem kX12_loudest_76 {Z : ZC} {sh : List Sh} {R : Rf} {o : (Int32 × Int32) ⊕ (Int32)} (C : CX Z cX12_loudest 4 RX12) (hR : zR Z = rm 6 0 0) (hY : LY sh R) (n : Nat) (x3 : Int32) (μ : Mu) (h : jX12_loudest_76 n x3 μ = some o) (kin : ∀ (x2 : Int32) (x3 : Int32), o = .inl (x2, x3) → Wm Z (0, 0, sh, R) μ 33 [(0, .ref (wb (zw Z) + 139)), (2, .int x2), (3, .int x3)] []) (kex0 : ∀ (x2 : Int32), o = .inr x2 → Wm Z (0, 0, sh, R) μ 84 [(0, .ref (wb (zw Z) + 139)), (2, .int x2)] []) : Wm Z (0, 0, sh, R) μ 76 [(0, .ref (wb (zw Z) + 139)), (3, .int x3)] [] := by
  unfold jX12_loudest_76 at h
  refine r_iload_n C dX12_loudest_76 1 rfl ?_
  refine r_istore_n [(2, .int x3), (0, .ref (wb (zw Z) + 139)), (3, .int x3)] C dX12_loudest_77 rfl (by decide) rfl ?_
  refine r_iinc [(3, .int (x3 + 1)), (2, .int x3), (0, .ref (wb (zw Z) + 139))] C dX12_loudest_78 2 rfl (in_1 _) (by decide) rfl ?_
  refine r_goto 33 C dX12_loudest_81 (by decide) ?_
  refine r_sub [(0, .ref (wb (zw Z) + 139)), (2, .int x3), (3, .int (x3 + 1))] [2, 1, 0] rfl ?_
  exact kin x3 (x3 + 1) (Option.some.inj h).symm
def sX12_loudest_33 (n : Nat) (μ : Mu) : Int32 × Int32 → Option ((Int32 × Int32) ⊕ (Int32)) := fun q => match q with | (x2, x3) => if (rI μ 140 67) ≤ x3 then (some (.inr x2)) else (if x2 = (-1) then (jX12_loudest_76 n x3 μ) else (gd (ib (92 + x3) 6726) (bnd (fX12_bitsOf n (rI μ 140 (ix (92 + x3))) μ) fun u12 => gd (ib (92 + x2) 6726) (bnd (fX12_bitsOf n (rI μ 140 (ix (92 + x2))) μ) fun u15 => if u12 ≤ u15 then (some (.inl (x2, x3 + 1))) else (jX12_loudest_76 n x3 μ)))))
set_option maxRecDepth 100000 in
set_option maxHeartbeats 4000000 in
theorem lX12_loudest_33 {Z : ZC} {sh : List Sh} {R : Rf} {o : (Int32 × Int32) ⊕ (Int32)} (C : CX Z cX12_loudest 4 RX12) (hR : zR Z = rm 6 0 0) (hY : LY sh R) (n : Nat) (μ : Mu) (x2 : Int32) (x3 : Int32) (h : sX12_loudest_33 n μ (x2, x3) = some o) (kin : ∀ (x2 : Int32) (x3 : Int32), o = .inl (x2, x3) → Wm Z (0, 0, sh, R) μ 33 [(0, .ref (wb (zw Z) + 139)), (2, .int x2), (3, .int x3)] []) (kex0 : ∀ (x2 : Int32), o = .inr x2 → Wm Z (0, 0, sh, R) μ 84 [(0, .ref (wb (zw Z) + 139)), (2, .int x2)] []) : Wm Z (0, 0, sh, R) μ 33 [(0, .ref (wb (zw Z) + 139)), (2, .int x2), (3, .int x3)] [] := by
  unfold sX12_loudest_33 at h
  refine r_iload_n C dX12_loudest_33 2 rfl ?_
  refine r_aload_n C dX12_loudest_34 0 rfl ?_
  refine r_getR C flX12_13 dX12_loudest_35 (ly139 hY) rfl (lr139_1 hY) ?_
  refine r_bipush C dX12_loudest_38 bp_67 ?_
  refine r_iald C dX12_loudest_40 (ly140 hY) (by decide) ?_
  refine r_icmp_ge 84 C dX12_loudest_41 (by decide) (fun c8 => ?_) (fun c8 => ?_)
  · have h := (ite_inv h).1 c8
    refine r_sub [(0, .ref (wb (zw Z) + 139)), (2, .int x2)] [0, 1] rfl ?_
    exact kex0 x2 (Option.some.inj h).symm
  · have h := (ite_inv h).2 c8
    refine r_iload_n C dX12_loudest_44 1 rfl ?_
    refine r_iconst C dX12_loudest_45 ic_m1 ?_
    refine r_icmp_eq 76 C dX12_loudest_46 (by decide) (fun c9 => ?_) (fun c9 => ?_)
    · have h := (ite_inv h).1 c9
      refine r_sub [(0, .ref (wb (zw Z) + 139)), (3, .int x3)] [0, 2] rfl ?_
      exact kX12_loudest_76 C hR hY n   x3 μ h kin kex0
    · have h := (ite_inv h).2 c9
      refine r_aload_n C dX12_loudest_49 0 rfl ?_
      refine r_getR C flX12_13 dX12_loudest_50 (ly139 hY) rfl (lr139_1 hY) ?_
      refine r_bipush C dX12_loudest_53 bp_92 ?_
      refine r_iload_n C dX12_loudest_55 2 rfl ?_
      refine r_iadd C dX12_loudest_56 ?_
      obtain ⟨b10, h⟩ := gd_inv h
      refine r_iald C dX12_loudest_57 (ly140 hY) b10 ?_
      obtain ⟨u12, e11, h⟩ := bnd_inv h
      refine r_cSi (As := [.int (rI μ 140 (ix (92 + x3)))]) (rest := []) C hR mlX12_339 dX12_loudest_58 (tX12_bitsOf hY n (rI μ 140 (ix (92 + x3)))  e11) rfl rfl (nle rfl) (nle rfl) (nle rfl) ?_
      refine r_aload_n C dX12_loudest_61 0 rfl ?_
      refine r_getR C flX12_13 dX12_loudest_62 (ly139 hY) rfl (lr139_1 hY) ?_
      refine r_bipush C dX12_loudest_65 bp_92 ?_
      refine r_iload_n C dX12_loudest_67 1 rfl ?_
      refine r_iadd C dX12_loudest_68 ?_
      obtain ⟨b13, h⟩ := gd_inv h
      refine r_iald C dX12_loudest_69 (ly140 hY) b13 ?_
      obtain ⟨u15, e14, h⟩ := bnd_inv h
      refine r_cSi (As := [.int (rI μ 140 (ix (92 + x2)))]) (rest := [.int u12]) C hR mlX12_339 dX12_loudest_70 (tX12_bitsOf hY n (rI μ 140 (ix (92 + x2)))  e14) rfl rfl (nle rfl) (nle rfl) (nle rfl) ?_
      refine r_icmp_le 78 C dX12_loudest_73 (by decide) (fun c16 => ?_) (fun c16 => ?_)
      · have h := (ite_inv h).1 c16
        refine r_iinc [(3, .int (x3 + 1)), (0, .ref (wb (zw Z) + 139)), (2, .int x2)] C dX12_loudest_78 2 rfl (in_1 _) (by decide) rfl ?_
        refine r_goto 33 C dX12_loudest_81 (by decide) ?_
        refine r_sub [(0, .ref (wb (zw Z) + 139)), (2, .int x2), (3, .int (x3 + 1))] [1, 2, 0] rfl ?_
        exact kin x2 (x3 + 1) (Option.some.inj h).symm
      · have h := (ite_inv h).2 c16
        refine r_sub [(0, .ref (wb (zw Z) + 139)), (3, .int x3)] [0, 2] rfl ?_
        exact kX12_loudest_76 C hR hY n   x3 μ h kin kex0
def fX12_loudest (n : Nat) (x1 : Int32) (μ : Mu) : Option (Int32 × Mu) := bnd (fX12_within n (x1.toInt64) 0 99 (wI μ 139 0 0)) fun u2 => if u2 = 0 then (some ((-3), wI μ 139 0 0)) else (bnd (fX12_keeps n (wI μ 139 0 0)) fun m5 => bnd (fX12_goesHours n x1 m5) fun m7 => bnd (lp n (sX12_loudest_33 n m7) ((-1), 0)) fun q => match q with | u17 => bnd (fX12_isAgain n m7) fun m20 => some (u17, m20))
set_option maxRecDepth 100000 in
set_option maxHeartbeats 4000000 in
theorem tX12_loudest {l : Launch} {w : WP} {sh : List Sh} {R : Rf} {μ : Mu} {r : Int32} {μ' : Mu} (hY : LY sh R) (n : Nat) (x1 : Int32)  (h : fX12_loudest n x1 μ = some (r, μ')) : CM l w yX12_loudest cX12_loudest 4 (some .int) 6 0 0 sh R [.ref (wb w + 139), .int x1] μ (some (.int r)) sh R μ' := by
  refine CM.of (plainFor_of_name pf_X12) (Nat.le_of_ble_eq_true rfl) fun Z C hr _ hR hw hl hE => ?_
  subst hw; subst hl
  have C : CX Z cX12_loudest 4 RX12 := C
  show Wm Z (0, 0, sh, R) μ 0 [(0, .ref (wb (zw Z) + 139)), (1, .int x1)] []
  unfold fX12_loudest at h
  refine r_aload_n C dX12_loudest_0 0 rfl ?_
  refine r_iconst C dX12_loudest_1 ic_0 ?_
  refine r_putI C fiX12_1 dX12_loudest_2 (ly139 hY) ?_
  refine r_iload_n C dX12_loudest_5 1 rfl ?_
  refine r_i2l C dX12_loudest_6 ?_
  refine r_lconst C dX12_loudest_7 lc_0 ?_
  refine r_ldc2 C dX12_loudest_8 klX12_283 ?_
  obtain ⟨u2, e1, h⟩ := bnd_inv h
  refine r_cSi (As := [.long (x1.toInt64), .long 0, .long 99]) (rest := []) C hR mlX12_130 dX12_loudest_11 (tX12_within hY n (x1.toInt64) 0 99  e1) rfl rfl (nle rfl) (nle rfl) (nle rfl) ?_
  refine r_if_ne 20 C dX12_loudest_14 (by decide) (fun c3 => ?_) (fun c3 => ?_)
  · have h := (ite_inv h).2 c3
    refine r_aload_n C dX12_loudest_20 0 rfl ?_
    obtain ⟨m5, e4, h⟩ := bnd_inv h
    refine r_cVv (As := []) (rest := []) C hR mlX12_267 dX12_loudest_21 (tX12_keeps hY n  e4) rfl rfl (ly139 hY) rfl (nle rfl) (nle rfl) (nle rfl) ?_
    refine r_aload_n C dX12_loudest_24 0 rfl ?_
    refine r_iload_n C dX12_loudest_25 1 rfl ?_
    obtain ⟨m7, e6, h⟩ := bnd_inv h
    refine r_cVv (As := [.int x1]) (rest := []) C hR mlX12_336 dX12_loudest_26 (tX12_goesHours hY n x1  e6) rfl rfl (ly139 hY) rfl (nle rfl) (nle rfl) (nle rfl) ?_
    refine r_iconst C dX12_loudest_29 ic_m1 ?_
    refine r_istore_n [(2, .int (-1)), (0, .ref (wb (zw Z) + 139)), (1, .int x1)] C dX12_loudest_30 rfl (by decide) rfl ?_
    refine r_iconst C dX12_loudest_31 ic_0 ?_
    refine r_istore_n [(3, .int 0), (2, .int (-1)), (0, .ref (wb (zw Z) + 139)), (1, .int x1)] C dX12_loudest_32 rfl (by decide) rfl ?_
    refine r_sub [(0, .ref (wb (zw Z) + 139)), (2, .int (-1)), (3, .int 0)] [2, 1, 0] rfl ?_
    obtain ⟨u17, e18, h⟩ := bnd_inv h
    refine lp_all (sX12_loudest_33 n m7) (fun q => match q with | (z2, z3) => Wm Z (0, 0, sh, R) m7 33 [(0, .ref (wb (zw Z) + 139)), (2, .int z2), (3, .int z3)] []) (fun q => match q with | z2 => Wm Z (0, 0, sh, R) m7 84 [(0, .ref (wb (zw Z) + 139)), (2, .int z2)] []) (fun q o h kin kex => ?_) n ((-1), 0) u17 e18 ?_
    · obtain ⟨z2, z3⟩ := q; exact lX12_loudest_33 C hR hY n   m7 z2 z3 h (fun z2 z3 e => kin (z2, z3) e) (fun z2 e => kex z2 e)
    show Wm Z (0, 0, sh, R) m7 84 [(0, .ref (wb (zw Z) + 139)), (2, .int u17)] []
    refine r_aload_n C dX12_loudest_84 0 rfl ?_
    obtain ⟨m20, e19, h⟩ := bnd_inv h
    refine r_cVv (As := []) (rest := []) C hR mlX12_324 dX12_loudest_85 (tX12_isAgain hY n  e19) rfl rfl (ly139 hY) rfl (nle rfl) (nle rfl) (nle rfl) ?_
    refine r_iload_n C dX12_loudest_88 1 rfl ?_
    obtain ⟨h1, h2⟩ := Prod.mk.inj (Option.some.inj h)
    subst h1; subst h2
    exact r_iret C dX12_loudest_89 hr hE
  · have h := (ite_inv h).1 c3
    refine r_bipush C dX12_loudest_17 bp_m3 ?_
    obtain ⟨h1, h2⟩ := Prod.mk.inj (Option.some.inj h)
    subst h1; subst h2
    exact r_iret C dX12_loudest_19 hr hE
def fX12_calls (n : Nat) (x1 : Int32) (x2 : Int32) (x3 : Int32) (μ : Mu) : Option (Mu) := bnd (fX12_goesHours n x2 (wI μ 140 67 0)) fun m2 => bnd2 (fX12_whispers n x1 m2) fun u4 m5 => bnd (fX12_goesHours n x3 m5) fun m7 => some m7
set_option maxRecDepth 100000 in
set_option maxHeartbeats 4000000 in
theorem tX12_calls {l : Launch} {w : WP} {sh : List Sh} {R : Rf} {μ : Mu} {μ' : Mu} (hY : LY sh R) (n : Nat) (x1 : Int32) (x2 : Int32) (x3 : Int32)  (h : fX12_calls n x1 x2 x3 μ = some μ') : CM l w yX12_calls cX12_calls 4 none 6 0 0 sh R [.ref (wb w + 139), .int x1, .int x2, .int x3] μ none sh R μ' := by
  refine CM.of (plainFor_of_name pf_X12) (Nat.le_of_ble_eq_true rfl) fun Z C hr _ hR hw hl hE => ?_
  subst hw; subst hl
  have C : CX Z cX12_calls 4 RX12 := C
  show Wm Z (0, 0, sh, R) μ 0 [(0, .ref (wb (zw Z) + 139)), (1, .int x1), (2, .int x2), (3, .int x3)] []
  unfold fX12_calls at h
  refine r_aload_n C dX12_calls_0 0 rfl ?_
  refine r_getR C flX12_13 dX12_calls_1 (ly139 hY) rfl (lr139_1 hY) ?_
  refine r_bipush C dX12_calls_4 bp_67 ?_
  refine r_iconst C dX12_calls_6 ic_0 ?_
  refine r_iast C dX12_calls_7 (ly140 hY) (by decide) ?_
  refine r_aload_n C dX12_calls_8 0 rfl ?_
  refine r_iload_n C dX12_calls_9 2 rfl ?_
  obtain ⟨m2, e1, h⟩ := bnd_inv h
  refine r_cVv (As := [.int x2]) (rest := []) C hR mlX12_336 dX12_calls_10 (tX12_goesHours hY n x2  e1) rfl rfl (ly139 hY) rfl (nle rfl) (nle rfl) (nle rfl) ?_
  refine r_aload_n C dX12_calls_13 0 rfl ?_
  refine r_iload_n C dX12_calls_14 1 rfl ?_
  obtain ⟨u4, m5, e3, h⟩ := bnd2_inv h
  refine r_cVi (As := [.int x1]) (rest := []) C hR mlX12_277 dX12_calls_15 (tX12_whispers hY n x1  e3) rfl rfl (ly139 hY) rfl (nle rfl) (nle rfl) (nle rfl) ?_
  refine r_pop C dX12_calls_18 rfl ?_
  refine r_aload_n C dX12_calls_19 0 rfl ?_
  refine r_iload_n C dX12_calls_20 3 rfl ?_
  obtain ⟨m7, e6, h⟩ := bnd_inv h
  refine r_cVv (As := [.int x3]) (rest := []) C hR mlX12_336 dX12_calls_21 (tX12_goesHours hY n x3  e6) rfl rfl (ly139 hY) rfl (nle rfl) (nle rfl) (nle rfl) ?_
  have h := Option.some.inj h
  subst h
  exact r_vret C dX12_calls_24 hr hE
def fX12_hearersOf (n : Nat) (x1 : Int32) (x2 : Int32) (x3 : Int32) (μ : Mu) : Option (Int32 × Mu) := bnd (fX12_keeps n μ) fun m2 => bnd (fX12_calls n x1 x2 x3 m2) fun m4 => bnd (fX12_isAgain n m4) fun m6 => some (rI m4 140 92, m6)
set_option maxRecDepth 100000 in
set_option maxHeartbeats 4000000 in
theorem tX12_hearersOf {l : Launch} {w : WP} {sh : List Sh} {R : Rf} {μ : Mu} {r : Int32} {μ' : Mu} (hY : LY sh R) (n : Nat) (x1 : Int32) (x2 : Int32) (x3 : Int32)  (h : fX12_hearersOf n x1 x2 x3 μ = some (r, μ')) : CM l w yX12_hearersOf cX12_hearersOf 5 (some .int) 7 0 0 sh R [.ref (wb w + 139), .int x1, .int x2, .int x3] μ (some (.int r)) sh R μ' := by
  refine CM.of (plainFor_of_name pf_X12) (Nat.le_of_ble_eq_true rfl) fun Z C hr _ hR hw hl hE => ?_
  subst hw; subst hl
  have C : CX Z cX12_hearersOf 5 RX12 := C
  show Wm Z (0, 0, sh, R) μ 0 [(0, .ref (wb (zw Z) + 139)), (1, .int x1), (2, .int x2), (3, .int x3)] []
  unfold fX12_hearersOf at h
  refine r_aload_n C dX12_hearersOf_0 0 rfl ?_
  obtain ⟨m2, e1, h⟩ := bnd_inv h
  refine r_cVv (As := []) (rest := []) C hR mlX12_267 dX12_hearersOf_1 (tX12_keeps hY n  e1) rfl rfl (ly139 hY) rfl (nle rfl) (nle rfl) (nle rfl) ?_
  refine r_aload_n C dX12_hearersOf_4 0 rfl ?_
  refine r_iload_n C dX12_hearersOf_5 1 rfl ?_
  refine r_iload_n C dX12_hearersOf_6 2 rfl ?_
  refine r_iload_n C dX12_hearersOf_7 3 rfl ?_
  obtain ⟨m4, e3, h⟩ := bnd_inv h
  refine r_cVv (As := [.int x1, .int x2, .int x3]) (rest := []) C hR mlX12_342 dX12_hearersOf_8 (tX12_calls hY n x1 x2 x3  e3) rfl rfl (ly139 hY) rfl (nle rfl) (nle rfl) (nle rfl) ?_
  refine r_aload_n C dX12_hearersOf_11 0 rfl ?_
  refine r_getR C flX12_13 dX12_hearersOf_12 (ly139 hY) rfl (lr139_1 hY) ?_
  refine r_bipush C dX12_hearersOf_15 bp_92 ?_
  refine r_iald C dX12_hearersOf_17 (ly140 hY) (by decide) ?_
  refine r_istore [(4, .int (rI m4 140 92)), (0, .ref (wb (zw Z) + 139)), (1, .int x1), (2, .int x2), (3, .int x3)] C dX12_hearersOf_18 (by decide) rfl ?_
  refine r_aload_n C dX12_hearersOf_20 1 rfl ?_
  obtain ⟨m6, e5, h⟩ := bnd_inv h
  refine r_cVv (As := []) (rest := []) C hR mlX12_324 dX12_hearersOf_21 (tX12_isAgain hY n  e5) rfl rfl (ly139 hY) rfl (nle rfl) (nle rfl) (nle rfl) ?_
  refine r_iload C dX12_hearersOf_24 0 rfl ?_
  obtain ⟨h1, h2⟩ := Prod.mk.inj (Option.some.inj h)
  subst h1; subst h2
  exact r_iret C dX12_hearersOf_26 hr hE
def fX12_isSoon (n : Nat) (x0 : Int32) (μ : Mu) : Option (Int32) := bnd (fX12_within n (x0.toInt64) 0 48 μ) fun u2 => gd (isb u2) (some u2)
set_option maxRecDepth 100000 in
set_option maxHeartbeats 4000000 in
theorem tX12_isSoon {l : Launch} {w : WP} {sh : List Sh} {R : Rf} {μ : Mu} {r : Int32} (hY : LY sh R) (n : Nat) (x0 : Int32)  (h : fX12_isSoon n x0 μ = some r) : CM l w yX12_isSoon cX12_isSoon 1 (some .boolean) 1 0 0 sh R [.int x0] μ (some (.int r)) sh R μ := by
  refine CM.of (plainFor_of_name pf_X12) (Nat.le_of_ble_eq_true rfl) fun Z C hr _ hR hw hl hE => ?_
  subst hw; subst hl
  have C : CX Z cX12_isSoon 1 RX12 := C
  show Wm Z (0, 0, sh, R) μ 0 [(0, .int x0)] []
  unfold fX12_isSoon at h
  refine r_iload_n C dX12_isSoon_0 0 rfl ?_
  refine r_i2l C dX12_isSoon_1 ?_
  refine r_lconst C dX12_isSoon_2 lc_0 ?_
  refine r_ldc2 C dX12_isSoon_3 klX12_285 ?_
  obtain ⟨u2, e1, h⟩ := bnd_inv h
  refine r_cSi (As := [.long (x0.toInt64), .long 0, .long 48]) (rest := []) C hR mlX12_130 dX12_isSoon_6 (tX12_within hY n (x0.toInt64) 0 48  e1) rfl rfl (nle rfl) (nle rfl) (nle rfl) ?_
  obtain ⟨b3, h⟩ := gd_inv h
  have h := Option.some.inj h
  subst h
  exact r_zret C dX12_isSoon_9 hr (isb_n b3) hE
def fX12_hearers (n : Nat) (x1 : Int32) (x2 : Int32) (x3 : Int32) (μ : Mu) : Option (Int32 × Mu) := bnd (fX12_isBeach n (x1.toInt64) (wI μ 139 0 0)) fun u2 => if u2 = 0 then (some ((-2), wI μ 139 0 0)) else (bnd (fX12_within n (x2.toInt64) 0 23 (wI μ 139 0 0)) fun u5 => if u5 = 0 then (some ((-3), wI μ 139 0 0)) else (bnd (fX12_isSoon n x3 (wI μ 139 0 0)) fun u8 => if u8 = 0 then (some ((-3), wI μ 139 0 0)) else (bnd2 (fX12_hearersOf n x1 x2 x3 (wI μ 139 0 0)) fun u11 m12 => some (u11, m12))))
set_option maxRecDepth 100000 in
set_option maxHeartbeats 4000000 in
theorem tX12_hearers {l : Launch} {w : WP} {sh : List Sh} {R : Rf} {μ : Mu} {r : Int32} {μ' : Mu} (hY : LY sh R) (n : Nat) (x1 : Int32) (x2 : Int32) (x3 : Int32)  (h : fX12_hearers n x1 x2 x3 μ = some (r, μ')) : CM l w yX12_hearers cX12_hearers 4 (some .int) 8 0 0 sh R [.ref (wb w + 139), .int x1, .int x2, .int x3] μ (some (.int r)) sh R μ' := by
  refine CM.of (plainFor_of_name pf_X12) (Nat.le_of_ble_eq_true rfl) fun Z C hr _ hR hw hl hE => ?_
  subst hw; subst hl
  have C : CX Z cX12_hearers 4 RX12 := C
  show Wm Z (0, 0, sh, R) μ 0 [(0, .ref (wb (zw Z) + 139)), (1, .int x1), (2, .int x2), (3, .int x3)] []
  unfold fX12_hearers at h
  refine r_aload_n C dX12_hearers_0 0 rfl ?_
  refine r_iconst C dX12_hearers_1 ic_0 ?_
  refine r_putI C fiX12_1 dX12_hearers_2 (ly139 hY) ?_
  refine r_aload_n C dX12_hearers_5 0 rfl ?_
  refine r_iload_n C dX12_hearers_6 1 rfl ?_
  refine r_i2l C dX12_hearers_7 ?_
  obtain ⟨u2, e1, h⟩ := bnd_inv h
  refine r_cVi (As := [.long (x1.toInt64)]) (rest := []) C hR mlX12_244 dX12_hearers_8 (tX12_isBeach hY n (x1.toInt64)  e1) rfl rfl (ly139 hY) rfl (nle rfl) (nle rfl) (nle rfl) ?_
  refine r_if_ne 17 C dX12_hearers_11 (by decide) (fun c3 => ?_) (fun c3 => ?_)
  · have h := (ite_inv h).2 c3
    refine r_iload_n C dX12_hearers_17 2 rfl ?_
    refine r_i2l C dX12_hearers_18 ?_
    refine r_lconst C dX12_hearers_19 lc_0 ?_
    refine r_ldc2 C dX12_hearers_20 klX12_346 ?_
    obtain ⟨u5, e4, h⟩ := bnd_inv h
    refine r_cSi (As := [.long (x2.toInt64), .long 0, .long 23]) (rest := []) C hR mlX12_130 dX12_hearers_23 (tX12_within hY n (x2.toInt64) 0 23  e4) rfl rfl (nle rfl) (nle rfl) (nle rfl) ?_
    refine r_if_eq 46 C dX12_hearers_26 (by decide) (fun c6 => ?_) (fun c6 => ?_)
    · have h := (ite_inv h).1 c6
      refine r_bipush C dX12_hearers_46 bp_m3 ?_
      obtain ⟨h1, h2⟩ := Prod.mk.inj (Option.some.inj h)
      subst h1; subst h2
      exact r_iret C dX12_hearers_48 hr hE
    · have h := (ite_inv h).2 c6
      refine r_iload_n C dX12_hearers_29 3 rfl ?_
      obtain ⟨u8, e7, h⟩ := bnd_inv h
      refine r_cSi (As := [.int x3]) (rest := []) C hR mlX12_348 dX12_hearers_30 (tX12_isSoon hY n x3  e7) rfl rfl (nle rfl) (nle rfl) (nle rfl) ?_
      refine r_if_eq 46 C dX12_hearers_33 (by decide) (fun c9 => ?_) (fun c9 => ?_)
      · have h := (ite_inv h).1 c9
        refine r_bipush C dX12_hearers_46 bp_m3 ?_
        obtain ⟨h1, h2⟩ := Prod.mk.inj (Option.some.inj h)
        subst h1; subst h2
        exact r_iret C dX12_hearers_48 hr hE
      · have h := (ite_inv h).2 c9
        refine r_aload_n C dX12_hearers_36 0 rfl ?_
        refine r_iload_n C dX12_hearers_37 1 rfl ?_
        refine r_iload_n C dX12_hearers_38 2 rfl ?_
        refine r_iload_n C dX12_hearers_39 3 rfl ?_
        obtain ⟨u11, m12, e10, h⟩ := bnd2_inv h
        refine r_cVi (As := [.int x1, .int x2, .int x3]) (rest := []) C hR mlX12_351 dX12_hearers_40 (tX12_hearersOf hY n x1 x2 x3  e10) rfl rfl (ly139 hY) rfl (nle rfl) (nle rfl) (nle rfl) ?_
        refine r_goto 48 C dX12_hearers_43 (by decide) ?_
        obtain ⟨h1, h2⟩ := Prod.mk.inj (Option.some.inj h)
        subst h1; subst h2
        exact r_iret C dX12_hearers_48 hr hE
  · have h := (ite_inv h).1 c3
    refine r_bipush C dX12_hearers_14 bp_m2 ?_
    obtain ⟨h1, h2⟩ := Prod.mk.inj (Option.some.inj h)
    subst h1; subst h2
    exact r_iret C dX12_hearers_16 hr hE
def jX12_far_72 (n : Nat) (x2 : Int32) (x3 : Int32) (x4 : Int32) (μ : Mu) : Option ((Int32 × Int32 × Mu) ⊕ (Int32 × Mu)) := bnd2 (fX12_goesHour n μ) fun u17 m18 => some (.inl (x3, x4 + 1, m18))
set_option maxRecDepth 100000 in
set_option maxHeartbeats 4000000 in
theorem kX12_far_72 {Z : ZC} {sh : List Sh} {R : Rf} {o : (Int32 × Int32 × Mu) ⊕ (Int32 × Mu)} (C : CX Z cX12_far 5 RX12) (hR : zR Z = rm 7 0 0) (hY : LY sh R) (n : Nat) (x2 : Int32) (x3 : Int32) (x4 : Int32) (μ : Mu) (h : jX12_far_72 n x2 x3 x4 μ = some o) (kin : ∀ (x3 : Int32) (x4 : Int32) (μ : Mu), o = .inl (x3, x4, μ) → Wm Z (0, 0, sh, R) μ 42 [(0, .ref (wb (zw Z) + 139)), (2, .int x2), (3, .int x3), (4, .int x4)] []) (kex0 : ∀ (x3 : Int32) (μ : Mu), o = .inr (x3, μ) → Wm Z (0, 0, sh, R) μ 83 [(0, .ref (wb (zw Z) + 139)), (3, .int x3)] []) : Wm Z (0, 0, sh, R) μ 72 [(0, .ref (wb (zw Z) + 139)), (2, .int x2), (3, .int x3), (4, .int x4)] [] := by
  unfold jX12_far_72 at h
  refine r_aload_n C dX12_far_72 0 rfl ?_
  obtain ⟨u17, m18, e16, h⟩ := bnd2_inv h
  refine r_cVi (As := []) (rest := []) C hR mlX12_287 dX12_far_73 (tX12_goesHour hY n  e16) rfl rfl (ly139 hY) rfl (nle rfl) (nle rfl) (nle rfl) ?_
  refine r_pop C dX12_far_76 rfl ?_
  refine r_iinc [(4, .int (x4 + 1)), (0, .ref (wb (zw Z) + 139)), (2, .int x2), (3, .int x3)] C dX12_far_77 3 rfl (in_1 _) (by decide) rfl ?_
  refine r_goto 42 C dX12_far_80 (by decide) ?_
  refine r_sub [(0, .ref (wb (zw Z) + 139)), (2, .int x2), (3, .int x3), (4, .int (x4 + 1))] [1, 2, 3, 0] rfl ?_
  exact kin x3 (x4 + 1) m18 (Option.some.inj h).symm
def sX12_far_42 (n : Nat) (x2 : Int32) : Int32 × Int32 × Mu → Option ((Int32 × Int32 × Mu) ⊕ (Int32 × Mu)) := fun q => match q with | (x3, x4, μ) => if 48 < x4 then (some (.inr (x3, μ))) else (if x3 = (-1) then (bnd (fX12_isIn n ((rI μ 140 76).toInt64) x2 μ) fun u14 => if u14 = 0 then (jX12_far_72 n x2 x3 x4 μ) else (jX12_far_72 n x2 x4 x4 μ)) else (some (.inr (x3, μ))))
set_option maxRecDepth 100000 in
set_option maxHeartbeats 4000000 in
theorem lX12_far_42 {Z : ZC} {sh : List Sh} {R : Rf} {o : (Int32 × Int32 × Mu) ⊕ (Int32 × Mu)} (C : CX Z cX12_far 5 RX12) (hR : zR Z = rm 7 0 0) (hY : LY sh R) (n : Nat) (x2 : Int32) (x3 : Int32) (x4 : Int32) (μ : Mu) (h : sX12_far_42 n x2 (x3, x4, μ) = some o) (kin : ∀ (x3 : Int32) (x4 : Int32) (μ : Mu), o = .inl (x3, x4, μ) → Wm Z (0, 0, sh, R) μ 42 [(0, .ref (wb (zw Z) + 139)), (2, .int x2), (3, .int x3), (4, .int x4)] []) (kex0 : ∀ (x3 : Int32) (μ : Mu), o = .inr (x3, μ) → Wm Z (0, 0, sh, R) μ 83 [(0, .ref (wb (zw Z) + 139)), (3, .int x3)] []) : Wm Z (0, 0, sh, R) μ 42 [(0, .ref (wb (zw Z) + 139)), (2, .int x2), (3, .int x3), (4, .int x4)] [] := by
  unfold sX12_far_42 at h
  refine r_iload C dX12_far_42 3 rfl ?_
  refine r_bipush C dX12_far_44 bp_48 ?_
  refine r_icmp_gt 83 C dX12_far_46 (by decide) (fun c11 => ?_) (fun c11 => ?_)
  · have h := (ite_inv h).1 c11
    refine r_sub [(0, .ref (wb (zw Z) + 139)), (3, .int x3)] [0, 2] rfl ?_
    exact kex0 x3 μ (Option.some.inj h).symm
  · have h := (ite_inv h).2 c11
    refine r_iload_n C dX12_far_49 2 rfl ?_
    refine r_iconst C dX12_far_50 ic_m1 ?_
    refine r_icmp_ne 83 C dX12_far_51 (by decide) (fun c12 => ?_) (fun c12 => ?_)
    · have h := (ite_inv h).2 c12
      refine r_sub [(0, .ref (wb (zw Z) + 139)), (3, .int x3)] [0, 2] rfl ?_
      exact kex0 x3 μ (Option.some.inj h).symm
    · have h := (ite_inv h).1 c12
      refine r_aload_n C dX12_far_54 0 rfl ?_
      refine r_getR C flX12_13 dX12_far_55 (ly139 hY) rfl (lr139_1 hY) ?_
      refine r_bipush C dX12_far_58 bp_76 ?_
      refine r_iald C dX12_far_60 (ly140 hY) (by decide) ?_
      refine r_i2l C dX12_far_61 ?_
      refine r_iload_n C dX12_far_62 1 rfl ?_
      obtain ⟨u14, e13, h⟩ := bnd_inv h
      refine r_cSi (As := [.long ((rI μ 140 76).toInt64), .int x2]) (rest := []) C hR mlX12_213 dX12_far_63 (tX12_isIn hY n ((rI μ 140 76).toInt64) x2  e13) rfl rfl (nle rfl) (nle rfl) (nle rfl) ?_
      refine r_if_eq 72 C dX12_far_66 (by decide) (fun c15 => ?_) (fun c15 => ?_)
      · have h := (ite_inv h).1 c15
        exact kX12_far_72 C hR hY n   x2 x3 x4 μ h kin kex0
      · have h := (ite_inv h).2 c15
        refine r_iload C dX12_far_69 3 rfl ?_
        refine r_istore_n [(3, .int x4), (0, .ref (wb (zw Z) + 139)), (2, .int x2), (4, .int x4)] C dX12_far_71 rfl (by decide) rfl ?_
        refine r_sub [(0, .ref (wb (zw Z) + 139)), (2, .int x2), (3, .int x4), (4, .int x4)] [1, 2, 0, 3] rfl ?_
        exact kX12_far_72 C hR hY n   x2 x4 x4 μ h kin kex0
def jX12_far_83 (n : Nat) (x3 : Int32) (μ : Mu) : Option (Int32 × Mu) := bnd (fX12_isAgain n μ) fun m23 => some (x3, m23)
set_option maxRecDepth 100000 in
set_option maxHeartbeats 4000000 in
theorem kX12_far_83 {Z : ZC} {sh : List Sh} {R : Rf} {r : Int32} {μ' : Mu} (C : CX Z cX12_far 5 RX12) (hR : zR Z = rm 7 0 0) (hY : LY sh R) (n : Nat) (x3 : Int32) (μ : Mu) (h : jX12_far_83 n x3 μ = some (r, μ')) (hr : (zme Z).sig.returnType = (some .int)) (hE : zEnd Z (0, 0, sh, R) μ' (some (.int r))) : Wm Z (0, 0, sh, R) μ 83 [(0, .ref (wb (zw Z) + 139)), (3, .int x3)] [] := by
  unfold jX12_far_83 at h
  refine r_aload_n C dX12_far_83 0 rfl ?_
  obtain ⟨m23, e22, h⟩ := bnd_inv h
  refine r_cVv (As := []) (rest := []) C hR mlX12_324 dX12_far_84 (tX12_isAgain hY n  e22) rfl rfl (ly139 hY) rfl (nle rfl) (nle rfl) (nle rfl) ?_
  refine r_iload_n C dX12_far_87 1 rfl ?_
  obtain ⟨h1, h2⟩ := Prod.mk.inj (Option.some.inj h)
  subst h1; subst h2
  exact r_iret C dX12_far_88 hr hE
def fX12_far (n : Nat) (x1 : Int32) (x2 : Int32) (μ : Mu) : Option (Int32 × Mu) := bnd (fX12_isBeach n (x1.toInt64) (wI μ 139 0 0)) fun u2 => if u2 = 0 then (some ((-2), wI μ 139 0 0)) else (bnd (fX12_isBeach n (x2.toInt64) (wI μ 139 0 0)) fun u5 => if u5 = 0 then (some ((-2), wI μ 139 0 0)) else (bnd (fX12_keeps n (wI μ 139 0 0)) fun m8 => bnd (fX12_calls n x1 0 0 m8) fun m10 => bnd (lp n (sX12_far_42 n x2) ((-1), 0, m10)) fun q => match q with | (u19, m20) => jX12_far_83 n u19 m20))
set_option maxRecDepth 100000 in
set_option maxHeartbeats 4000000 in
theorem tX12_far {l : Launch} {w : WP} {sh : List Sh} {R : Rf} {μ : Mu} {r : Int32} {μ' : Mu} (hY : LY sh R) (n : Nat) (x1 : Int32) (x2 : Int32)  (h : fX12_far n x1 x2 μ = some (r, μ')) : CM l w yX12_far cX12_far 5 (some .int) 7 0 0 sh R [.ref (wb w + 139), .int x1, .int x2] μ (some (.int r)) sh R μ' := by
  refine CM.of (plainFor_of_name pf_X12) (Nat.le_of_ble_eq_true rfl) fun Z C hr _ hR hw hl hE => ?_
  subst hw; subst hl
  have C : CX Z cX12_far 5 RX12 := C
  show Wm Z (0, 0, sh, R) μ 0 [(0, .ref (wb (zw Z) + 139)), (1, .int x1), (2, .int x2)] []
  unfold fX12_far at h
  refine r_aload_n C dX12_far_0 0 rfl ?_
  refine r_iconst C dX12_far_1 ic_0 ?_
  refine r_putI C fiX12_1 dX12_far_2 (ly139 hY) ?_
  refine r_aload_n C dX12_far_5 0 rfl ?_
  refine r_iload_n C dX12_far_6 1 rfl ?_
  refine r_i2l C dX12_far_7 ?_
  obtain ⟨u2, e1, h⟩ := bnd_inv h
  refine r_cVi (As := [.long (x1.toInt64)]) (rest := []) C hR mlX12_244 dX12_far_8 (tX12_isBeach hY n (x1.toInt64)  e1) rfl rfl (ly139 hY) rfl (nle rfl) (nle rfl) (nle rfl) ?_
  refine r_if_eq 23 C dX12_far_11 (by decide) (fun c3 => ?_) (fun c3 => ?_)
  · have h := (ite_inv h).1 c3
    refine r_bipush C dX12_far_23 bp_m2 ?_
    obtain ⟨h1, h2⟩ := Prod.mk.inj (Option.some.inj h)
    subst h1; subst h2
    exact r_iret C dX12_far_25 hr hE
  · have h := (ite_inv h).2 c3
    refine r_aload_n C dX12_far_14 0 rfl ?_
    refine r_iload_n C dX12_far_15 2 rfl ?_
    refine r_i2l C dX12_far_16 ?_
    obtain ⟨u5, e4, h⟩ := bnd_inv h
    refine r_cVi (As := [.long (x2.toInt64)]) (rest := []) C hR mlX12_244 dX12_far_17 (tX12_isBeach hY n (x2.toInt64)  e4) rfl rfl (ly139 hY) rfl (nle rfl) (nle rfl) (nle rfl) ?_
    refine r_if_ne 26 C dX12_far_20 (by decide) (fun c6 => ?_) (fun c6 => ?_)
    · have h := (ite_inv h).2 c6
      refine r_aload_n C dX12_far_26 0 rfl ?_
      obtain ⟨m8, e7, h⟩ := bnd_inv h
      refine r_cVv (As := []) (rest := []) C hR mlX12_267 dX12_far_27 (tX12_keeps hY n  e7) rfl rfl (ly139 hY) rfl (nle rfl) (nle rfl) (nle rfl) ?_
      refine r_aload_n C dX12_far_30 0 rfl ?_
      refine r_iload_n C dX12_far_31 1 rfl ?_
      refine r_iconst C dX12_far_32 ic_0 ?_
      refine r_iconst C dX12_far_33 ic_0 ?_
      obtain ⟨m10, e9, h⟩ := bnd_inv h
      refine r_cVv (As := [.int x1, .int 0, .int 0]) (rest := []) C hR mlX12_342 dX12_far_34 (tX12_calls hY n x1 0 0  e9) rfl rfl (ly139 hY) rfl (nle rfl) (nle rfl) (nle rfl) ?_
      refine r_iconst C dX12_far_37 ic_m1 ?_
      refine r_istore_n [(3, .int (-1)), (0, .ref (wb (zw Z) + 139)), (1, .int x1), (2, .int x2)] C dX12_far_38 rfl (by decide) rfl ?_
      refine r_iconst C dX12_far_39 ic_0 ?_
      refine r_istore [(4, .int 0), (3, .int (-1)), (0, .ref (wb (zw Z) + 139)), (1, .int x1), (2, .int x2)] C dX12_far_40 (by decide) rfl ?_
      refine r_sub [(0, .ref (wb (zw Z) + 139)), (2, .int x2), (3, .int (-1)), (4, .int 0)] [2, 4, 1, 0] rfl ?_
      obtain ⟨⟨u19, m20⟩, e21, h⟩ := bnd_inv h
      refine lp_all (sX12_far_42 n x2) (fun q => match q with | (z3, z4, ν) => Wm Z (0, 0, sh, R) (ν) 42 [(0, .ref (wb (zw Z) + 139)), (2, .int x2), (3, .int z3), (4, .int z4)] []) (fun q => match q with | (z3, ν) => Wm Z (0, 0, sh, R) (ν) 83 [(0, .ref (wb (zw Z) + 139)), (3, .int z3)] []) (fun q o h kin kex => ?_) n ((-1), 0, m10) (u19, m20) e21 ?_
      · obtain ⟨z3, z4, ν⟩ := q; exact lX12_far_42 C hR hY n   x2 z3 z4 ν h (fun z3 z4 ν e => kin (z3, z4, ν) e) (fun z3 ν e => kex (z3, ν) e)
      show Wm Z (0, 0, sh, R) m20 83 [(0, .ref (wb (zw Z) + 139)), (3, .int u19)] []
      exact kX12_far_83 C hR hY n   u19 m20 h hr hE
    · have h := (ite_inv h).1 c6
      refine r_bipush C dX12_far_23 bp_m2 ?_
      obtain ⟨h1, h2⟩ := Prod.mk.inj (Option.some.inj h)
      subst h1; subst h2
      exact r_iret C dX12_far_25 hr hE
def sX12_reaches_42 (n : Nat) (x2 : Int32) : Int32 × Int32 × Mu → Option ((Int32 × Int32 × Mu) ⊕ (Int32 × Mu)) := fun q => match q with | (x3, x4, μ) => if 48 < x4 then (some (.inr (x3, μ))) else (if x3 = (-1) then (bnd2 (fX12_goesHour n μ) fun u14 m15 => bnd (fX12_isIn n ((rI m15 140 92).toInt64) x2 m15) fun u17 => if u17 = 0 then (some (.inl (x3, x4 + 1, m15))) else (some (.inl (x4, x4 + 1, m15)))) else (some (.inr (x3, μ))))
set_option maxRecDepth 100000 in
set_option maxHeartbeats 4000000 in
theorem lX12_reaches_42 {Z : ZC} {sh : List Sh} {R : Rf} {o : (Int32 × Int32 × Mu) ⊕ (Int32 × Mu)} (C : CX Z cX12_reaches 5 RX12) (hR : zR Z = rm 7 0 0) (hY : LY sh R) (n : Nat) (x2 : Int32) (x3 : Int32) (x4 : Int32) (μ : Mu) (h : sX12_reaches_42 n x2 (x3, x4, μ) = some o) (kin : ∀ (x3 : Int32) (x4 : Int32) (μ : Mu), o = .inl (x3, x4, μ) → Wm Z (0, 0, sh, R) μ 42 [(0, .ref (wb (zw Z) + 139)), (2, .int x2), (3, .int x3), (4, .int x4)] []) (kex0 : ∀ (x3 : Int32) (μ : Mu), o = .inr (x3, μ) → Wm Z (0, 0, sh, R) μ 83 [(0, .ref (wb (zw Z) + 139)), (3, .int x3)] []) : Wm Z (0, 0, sh, R) μ 42 [(0, .ref (wb (zw Z) + 139)), (2, .int x2), (3, .int x3), (4, .int x4)] [] := by
  unfold sX12_reaches_42 at h
  refine r_iload C dX12_reaches_42 3 rfl ?_
  refine r_bipush C dX12_reaches_44 bp_48 ?_
  refine r_icmp_gt 83 C dX12_reaches_46 (by decide) (fun c11 => ?_) (fun c11 => ?_)
  · have h := (ite_inv h).1 c11
    refine r_sub [(0, .ref (wb (zw Z) + 139)), (3, .int x3)] [0, 2] rfl ?_
    exact kex0 x3 μ (Option.some.inj h).symm
  · have h := (ite_inv h).2 c11
    refine r_iload_n C dX12_reaches_49 2 rfl ?_
    refine r_iconst C dX12_reaches_50 ic_m1 ?_
    refine r_icmp_ne 83 C dX12_reaches_51 (by decide) (fun c12 => ?_) (fun c12 => ?_)
    · have h := (ite_inv h).2 c12
      refine r_sub [(0, .ref (wb (zw Z) + 139)), (3, .int x3)] [0, 2] rfl ?_
      exact kex0 x3 μ (Option.some.inj h).symm
    · have h := (ite_inv h).1 c12
      refine r_aload_n C dX12_reaches_54 0 rfl ?_
      obtain ⟨u14, m15, e13, h⟩ := bnd2_inv h
      refine r_cVi (As := []) (rest := []) C hR mlX12_287 dX12_reaches_55 (tX12_goesHour hY n  e13) rfl rfl (ly139 hY) rfl (nle rfl) (nle rfl) (nle rfl) ?_
      refine r_pop C dX12_reaches_58 rfl ?_
      refine r_aload_n C dX12_reaches_59 0 rfl ?_
      refine r_getR C flX12_13 dX12_reaches_60 (ly139 hY) rfl (lr139_1 hY) ?_
      refine r_bipush C dX12_reaches_63 bp_92 ?_
      refine r_iald C dX12_reaches_65 (ly140 hY) (by decide) ?_
      refine r_i2l C dX12_reaches_66 ?_
      refine r_iload_n C dX12_reaches_67 1 rfl ?_
      obtain ⟨u17, e16, h⟩ := bnd_inv h
      refine r_cSi (As := [.long ((rI m15 140 92).toInt64), .int x2]) (rest := []) C hR mlX12_213 dX12_reaches_68 (tX12_isIn hY n ((rI m15 140 92).toInt64) x2  e16) rfl rfl (nle rfl) (nle rfl) (nle rfl) ?_
      refine r_if_eq 77 C dX12_reaches_71 (by decide) (fun c18 => ?_) (fun c18 => ?_)
      · have h := (ite_inv h).1 c18
        refine r_iinc [(4, .int (x4 + 1)), (0, .ref (wb (zw Z) + 139)), (2, .int x2), (3, .int x3)] C dX12_reaches_77 3 rfl (in_1 _) (by decide) rfl ?_
        refine r_goto 42 C dX12_reaches_80 (by decide) ?_
        refine r_sub [(0, .ref (wb (zw Z) + 139)), (2, .int x2), (3, .int x3), (4, .int (x4 + 1))] [1, 2, 3, 0] rfl ?_
        exact kin x3 (x4 + 1) m15 (Option.some.inj h).symm
      · have h := (ite_inv h).2 c18
        refine r_iload C dX12_reaches_74 3 rfl ?_
        refine r_istore_n [(3, .int x4), (0, .ref (wb (zw Z) + 139)), (2, .int x2), (4, .int x4)] C dX12_reaches_76 rfl (by decide) rfl ?_
        refine r_iinc [(4, .int (x4 + 1)), (3, .int x4), (0, .ref (wb (zw Z) + 139)), (2, .int x2)] C dX12_reaches_77 3 rfl (in_1 _) (by decide) rfl ?_
        refine r_goto 42 C dX12_reaches_80 (by decide) ?_
        refine r_sub [(0, .ref (wb (zw Z) + 139)), (2, .int x2), (3, .int x4), (4, .int (x4 + 1))] [2, 3, 1, 0] rfl ?_
        exact kin x4 (x4 + 1) m15 (Option.some.inj h).symm
def jX12_reaches_83 (n : Nat) (x3 : Int32) (μ : Mu) : Option (Int32 × Mu) := bnd (fX12_isAgain n μ) fun m23 => some (x3, m23)
set_option maxRecDepth 100000 in
set_option maxHeartbeats 4000000 in
theorem kX12_reaches_83 {Z : ZC} {sh : List Sh} {R : Rf} {r : Int32} {μ' : Mu} (C : CX Z cX12_reaches 5 RX12) (hR : zR Z = rm 7 0 0) (hY : LY sh R) (n : Nat) (x3 : Int32) (μ : Mu) (h : jX12_reaches_83 n x3 μ = some (r, μ')) (hr : (zme Z).sig.returnType = (some .int)) (hE : zEnd Z (0, 0, sh, R) μ' (some (.int r))) : Wm Z (0, 0, sh, R) μ 83 [(0, .ref (wb (zw Z) + 139)), (3, .int x3)] [] := by
  unfold jX12_reaches_83 at h
  refine r_aload_n C dX12_reaches_83 0 rfl ?_
  obtain ⟨m23, e22, h⟩ := bnd_inv h
  refine r_cVv (As := []) (rest := []) C hR mlX12_324 dX12_reaches_84 (tX12_isAgain hY n  e22) rfl rfl (ly139 hY) rfl (nle rfl) (nle rfl) (nle rfl) ?_
  refine r_iload_n C dX12_reaches_87 1 rfl ?_
  obtain ⟨h1, h2⟩ := Prod.mk.inj (Option.some.inj h)
  subst h1; subst h2
  exact r_iret C dX12_reaches_88 hr hE
def fX12_reaches (n : Nat) (x1 : Int32) (x2 : Int32) (μ : Mu) : Option (Int32 × Mu) := bnd (fX12_isBeach n (x1.toInt64) (wI μ 139 0 0)) fun u2 => if u2 = 0 then (some ((-2), wI μ 139 0 0)) else (bnd (fX12_isPerson n (x2.toInt64) (wI μ 139 0 0)) fun u5 => if u5 = 0 then (some ((-2), wI μ 139 0 0)) else (bnd (fX12_keeps n (wI μ 139 0 0)) fun m8 => bnd (fX12_calls n x1 0 0 m8) fun m10 => bnd (lp n (sX12_reaches_42 n x2) ((-1), 1, m10)) fun q => match q with | (u19, m20) => jX12_reaches_83 n u19 m20))
set_option maxRecDepth 100000 in
set_option maxHeartbeats 4000000 in
theorem tX12_reaches {l : Launch} {w : WP} {sh : List Sh} {R : Rf} {μ : Mu} {r : Int32} {μ' : Mu} (hY : LY sh R) (n : Nat) (x1 : Int32) (x2 : Int32)  (h : fX12_reaches n x1 x2 μ = some (r, μ')) : CM l w yX12_reaches cX12_reaches 5 (some .int) 7 0 0 sh R [.ref (wb w + 139), .int x1, .int x2] μ (some (.int r)) sh R μ' := by
  refine CM.of (plainFor_of_name pf_X12) (Nat.le_of_ble_eq_true rfl) fun Z C hr _ hR hw hl hE => ?_
  subst hw; subst hl
  have C : CX Z cX12_reaches 5 RX12 := C
  show Wm Z (0, 0, sh, R) μ 0 [(0, .ref (wb (zw Z) + 139)), (1, .int x1), (2, .int x2)] []
  unfold fX12_reaches at h
  refine r_aload_n C dX12_reaches_0 0 rfl ?_
  refine r_iconst C dX12_reaches_1 ic_0 ?_
  refine r_putI C fiX12_1 dX12_reaches_2 (ly139 hY) ?_
  refine r_aload_n C dX12_reaches_5 0 rfl ?_
  refine r_iload_n C dX12_reaches_6 1 rfl ?_
  refine r_i2l C dX12_reaches_7 ?_
  obtain ⟨u2, e1, h⟩ := bnd_inv h
  refine r_cVi (As := [.long (x1.toInt64)]) (rest := []) C hR mlX12_244 dX12_reaches_8 (tX12_isBeach hY n (x1.toInt64)  e1) rfl rfl (ly139 hY) rfl (nle rfl) (nle rfl) (nle rfl) ?_
  refine r_if_eq 23 C dX12_reaches_11 (by decide) (fun c3 => ?_) (fun c3 => ?_)
  · have h := (ite_inv h).1 c3
    refine r_bipush C dX12_reaches_23 bp_m2 ?_
    obtain ⟨h1, h2⟩ := Prod.mk.inj (Option.some.inj h)
    subst h1; subst h2
    exact r_iret C dX12_reaches_25 hr hE
  · have h := (ite_inv h).2 c3
    refine r_aload_n C dX12_reaches_14 0 rfl ?_
    refine r_iload_n C dX12_reaches_15 2 rfl ?_
    refine r_i2l C dX12_reaches_16 ?_
    obtain ⟨u5, e4, h⟩ := bnd_inv h
    refine r_cVi (As := [.long (x2.toInt64)]) (rest := []) C hR mlX12_224 dX12_reaches_17 (tX12_isPerson hY n (x2.toInt64)  e4) rfl rfl (ly139 hY) rfl (nle rfl) (nle rfl) (nle rfl) ?_
    refine r_if_ne 26 C dX12_reaches_20 (by decide) (fun c6 => ?_) (fun c6 => ?_)
    · have h := (ite_inv h).2 c6
      refine r_aload_n C dX12_reaches_26 0 rfl ?_
      obtain ⟨m8, e7, h⟩ := bnd_inv h
      refine r_cVv (As := []) (rest := []) C hR mlX12_267 dX12_reaches_27 (tX12_keeps hY n  e7) rfl rfl (ly139 hY) rfl (nle rfl) (nle rfl) (nle rfl) ?_
      refine r_aload_n C dX12_reaches_30 0 rfl ?_
      refine r_iload_n C dX12_reaches_31 1 rfl ?_
      refine r_iconst C dX12_reaches_32 ic_0 ?_
      refine r_iconst C dX12_reaches_33 ic_0 ?_
      obtain ⟨m10, e9, h⟩ := bnd_inv h
      refine r_cVv (As := [.int x1, .int 0, .int 0]) (rest := []) C hR mlX12_342 dX12_reaches_34 (tX12_calls hY n x1 0 0  e9) rfl rfl (ly139 hY) rfl (nle rfl) (nle rfl) (nle rfl) ?_
      refine r_iconst C dX12_reaches_37 ic_m1 ?_
      refine r_istore_n [(3, .int (-1)), (0, .ref (wb (zw Z) + 139)), (1, .int x1), (2, .int x2)] C dX12_reaches_38 rfl (by decide) rfl ?_
      refine r_iconst C dX12_reaches_39 ic_1 ?_
      refine r_istore [(4, .int 1), (3, .int (-1)), (0, .ref (wb (zw Z) + 139)), (1, .int x1), (2, .int x2)] C dX12_reaches_40 (by decide) rfl ?_
      refine r_sub [(0, .ref (wb (zw Z) + 139)), (2, .int x2), (3, .int (-1)), (4, .int 1)] [2, 4, 1, 0] rfl ?_
      obtain ⟨⟨u19, m20⟩, e21, h⟩ := bnd_inv h
      refine lp_all (sX12_reaches_42 n x2) (fun q => match q with | (z3, z4, ν) => Wm Z (0, 0, sh, R) (ν) 42 [(0, .ref (wb (zw Z) + 139)), (2, .int x2), (3, .int z3), (4, .int z4)] []) (fun q => match q with | (z3, ν) => Wm Z (0, 0, sh, R) (ν) 83 [(0, .ref (wb (zw Z) + 139)), (3, .int z3)] []) (fun q o h kin kex => ?_) n ((-1), 1, m10) (u19, m20) e21 ?_
      · obtain ⟨z3, z4, ν⟩ := q; exact lX12_reaches_42 C hR hY n   x2 z3 z4 ν h (fun z3 z4 ν e => kin (z3, z4, ν) e) (fun z3 ν e => kex (z3, ν) e)
      show Wm Z (0, 0, sh, R) m20 83 [(0, .ref (wb (zw Z) + 139)), (3, .int u19)] []
      exact kX12_reaches_83 C hR hY n   u19 m20 h hr hE
    · have h := (ite_inv h).1 c6
      refine r_bipush C dX12_reaches_23 bp_m2 ?_
      obtain ⟨h1, h2⟩ := Prod.mk.inj (Option.some.inj h)
      subst h1; subst h2
      exact r_iret C dX12_reaches_25 hr hE
def sX12_secret_58 (n : Nat) (x1 : Int32) (x2 : Int32) (x3 : Int32) (x4 : Int32) : Int32 × Mu → Option ((Int32 × Mu) ⊕ ((Int32 × Mu) ⊕ (Mu))) := fun q => match q with | (x5, μ) => if (rI μ 140 1) ≤ x5 then (some (.inr (.inr μ))) else (bnd2 (fX12_hearersOf n x5 x4 x2 μ) fun u11 m12 => if u11 = x1 then (some (.inr (.inl (x5, m12)))) else (some (.inl (x5 + 1, m12))))
set_option maxRecDepth 100000 in
set_option maxHeartbeats 4000000 in
theorem lX12_secret_58 {Z : ZC} {sh : List Sh} {R : Rf} {o : (Int32 × Mu) ⊕ ((Int32 × Mu) ⊕ (Mu))} (C : CX Z cX12_secret 6 RX12) (hR : zR Z = rm 8 0 0) (hY : LY sh R) (n : Nat) (x1 : Int32) (x2 : Int32) (x3 : Int32) (x4 : Int32) (x5 : Int32) (μ : Mu) (h : sX12_secret_58 n x1 x2 x3 x4 (x5, μ) = some o) (kin : ∀ (x5 : Int32) (μ : Mu), o = .inl (x5, μ) → Wm Z (0, 0, sh, R) μ 58 [(0, .ref (wb (zw Z) + 139)), (1, .int x1), (2, .int x2), (3, .int x3), (4, .int x4), (5, .int x5)] []) (kex0 : ∀ (x5 : Int32) (μ : Mu), o = .inr (.inl (x5, μ)) → Wm Z (0, 0, sh, R) μ 82 [(3, .int x3), (4, .int x4), (5, .int x5)] []) (kex1 : ∀ (μ : Mu), o = .inr (.inr μ) → Wm Z (0, 0, sh, R) μ 100 [(0, .ref (wb (zw Z) + 139)), (1, .int x1), (2, .int x2), (3, .int x3), (4, .int x4)] []) : Wm Z (0, 0, sh, R) μ 58 [(0, .ref (wb (zw Z) + 139)), (1, .int x1), (2, .int x2), (3, .int x3), (4, .int x4), (5, .int x5)] [] := by
  unfold sX12_secret_58 at h
  refine r_iload C dX12_secret_58 5 rfl ?_
  refine r_aload_n C dX12_secret_60 0 rfl ?_
  refine r_getR C flX12_13 dX12_secret_61 (ly139 hY) rfl (lr139_1 hY) ?_
  refine r_iconst C dX12_secret_64 ic_1 ?_
  refine r_iald C dX12_secret_65 (ly140 hY) (by decide) ?_
  refine r_icmp_ge 100 C dX12_secret_66 (by decide) (fun c9 => ?_) (fun c9 => ?_)
  · have h := (ite_inv h).1 c9
    refine r_sub [(0, .ref (wb (zw Z) + 139)), (1, .int x1), (2, .int x2), (3, .int x3), (4, .int x4)] [0, 1, 2, 3, 4] rfl ?_
    exact kex1 μ (Option.some.inj h).symm
  · have h := (ite_inv h).2 c9
    refine r_aload_n C dX12_secret_69 0 rfl ?_
    refine r_iload C dX12_secret_70 5 rfl ?_
    refine r_iload C dX12_secret_72 4 rfl ?_
    refine r_iload_n C dX12_secret_74 2 rfl ?_
    obtain ⟨u11, m12, e10, h⟩ := bnd2_inv h
    refine r_cVi (As := [.int x5, .int x4, .int x2]) (rest := []) C hR mlX12_351 dX12_secret_75 (tX12_hearersOf hY n x5 x4 x2  e10) rfl rfl (ly139 hY) rfl (nle rfl) (nle rfl) (nle rfl) ?_
    refine r_iload_n C dX12_secret_78 1 rfl ?_
    refine r_icmp_ne 94 C dX12_secret_79 (by decide) (fun c13 => ?_) (fun c13 => ?_)
    · have h := (ite_inv h).2 c13
      refine r_iinc [(5, .int (x5 + 1)), (0, .ref (wb (zw Z) + 139)), (1, .int x1), (2, .int x2), (3, .int x3), (4, .int x4)] C dX12_secret_94 5 rfl (in_1 _) (by decide) rfl ?_
      refine r_goto 58 C dX12_secret_97 (by decide) ?_
      refine r_sub [(0, .ref (wb (zw Z) + 139)), (1, .int x1), (2, .int x2), (3, .int x3), (4, .int x4), (5, .int (x5 + 1))] [1, 2, 3, 4, 5, 0] rfl ?_
      exact kin (x5 + 1) m12 (Option.some.inj h).symm
    · have h := (ite_inv h).1 c13
      refine r_sub [(3, .int x3), (4, .int x4), (5, .int x5)] [3, 4, 5] rfl ?_
      exact kex0 x5 m12 (Option.some.inj h).symm
def sX12_secret_48 (n : Nat) (x1 : Int32) (x2 : Int32) (x3 : Int32) : Int32 × Mu → Option ((Int32 × Mu) ⊕ ((Int32 × Int32 × Mu) ⊕ (Mu))) := fun q => match q with | (x4, μ) => if 24 ≤ x4 then (some (.inr (.inr μ))) else (bnd (lp n (sX12_secret_58 n x1 x2 x3 x4) (0, μ)) fun q => match q with | .inl (u14, m15) => (some (.inr (.inl (x4, u14, m15)))) | .inr m16 => (some (.inl (x4 + 1, m16))))
set_option maxRecDepth 100000 in
set_option maxHeartbeats 4000000 in
theorem lX12_secret_48 {Z : ZC} {sh : List Sh} {R : Rf} {o : (Int32 × Mu) ⊕ ((Int32 × Int32 × Mu) ⊕ (Mu))} (C : CX Z cX12_secret 6 RX12) (hR : zR Z = rm 8 0 0) (hY : LY sh R) (n : Nat) (x1 : Int32) (x2 : Int32) (x3 : Int32) (x4 : Int32) (μ : Mu) (h : sX12_secret_48 n x1 x2 x3 (x4, μ) = some o) (kin : ∀ (x4 : Int32) (μ : Mu), o = .inl (x4, μ) → Wm Z (0, 0, sh, R) μ 48 [(0, .ref (wb (zw Z) + 139)), (1, .int x1), (2, .int x2), (3, .int x3), (4, .int x4)] []) (kex0 : ∀ (x4 : Int32) (x5 : Int32) (μ : Mu), o = .inr (.inl (x4, x5, μ)) → Wm Z (0, 0, sh, R) μ 82 [(3, .int x3), (4, .int x4), (5, .int x5)] []) (kex1 : ∀ (μ : Mu), o = .inr (.inr μ) → Wm Z (0, 0, sh, R) μ 106 [] []) : Wm Z (0, 0, sh, R) μ 48 [(0, .ref (wb (zw Z) + 139)), (1, .int x1), (2, .int x2), (3, .int x3), (4, .int x4)] [] := by
  unfold sX12_secret_48 at h
  refine r_iload C dX12_secret_48 4 rfl ?_
  refine r_bipush C dX12_secret_50 bp_24 ?_
  refine r_icmp_ge 106 C dX12_secret_52 (by decide) (fun c8 => ?_) (fun c8 => ?_)
  · have h := (ite_inv h).1 c8
    refine r_sub [] [] rfl ?_
    exact kex1 μ (Option.some.inj h).symm
  · have h := (ite_inv h).2 c8
    refine r_iconst C dX12_secret_55 ic_0 ?_
    refine r_istore [(5, .int 0), (0, .ref (wb (zw Z) + 139)), (1, .int x1), (2, .int x2), (3, .int x3), (4, .int x4)] C dX12_secret_56 (by decide) rfl ?_
    refine r_sub [(0, .ref (wb (zw Z) + 139)), (1, .int x1), (2, .int x2), (3, .int x3), (4, .int x4), (5, .int 0)] [1, 2, 3, 4, 5, 0] rfl ?_
    obtain ⟨q18, e17, h⟩ := bnd_inv h
    refine lp_all (sX12_secret_58 n x1 x2 x3 x4) (fun q => match q with | (z5, ν) => Wm Z (0, 0, sh, R) (ν) 58 [(0, .ref (wb (zw Z) + 139)), (1, .int x1), (2, .int x2), (3, .int x3), (4, .int x4), (5, .int z5)] []) (fun q => match q with | .inl (z5, ν) => Wm Z (0, 0, sh, R) (ν) 82 [(3, .int x3), (4, .int x4), (5, .int z5)] [] | .inr (ν) => Wm Z (0, 0, sh, R) (ν) 100 [(0, .ref (wb (zw Z) + 139)), (1, .int x1), (2, .int x2), (3, .int x3), (4, .int x4)] []) (fun q o h kin kex => ?_) n (0, μ) q18 e17 ?_
    · obtain ⟨z5, ν⟩ := q; exact lX12_secret_58 C hR hY n   x1 x2 x3 x4 z5 ν h (fun z5 ν e => kin (z5, ν) e) (fun z5 ν e => kex (.inl (z5, ν)) e) (fun ν e => kex (.inr (ν)) e)
    rcases q18 with ⟨u14, m15⟩ | m16
    · show Wm Z (0, 0, sh, R) m15 82 [(3, .int x3), (4, .int x4), (5, .int u14)] []
      exact kex0 x4 u14 m15 (Option.some.inj h).symm
    · show Wm Z (0, 0, sh, R) m16 100 [(0, .ref (wb (zw Z) + 139)), (1, .int x1), (2, .int x2), (3, .int x3), (4, .int x4)] []
      refine r_iinc [(4, .int (x4 + 1)), (0, .ref (wb (zw Z) + 139)), (1, .int x1), (2, .int x2), (3, .int x3)] C dX12_secret_100 4 rfl (in_1 _) (by decide) rfl ?_
      refine r_goto 48 C dX12_secret_103 (by decide) ?_
      refine r_sub [(0, .ref (wb (zw Z) + 139)), (1, .int x1), (2, .int x2), (3, .int x3), (4, .int (x4 + 1))] [1, 2, 3, 4, 0] rfl ?_
      exact kin (x4 + 1) m16 (Option.some.inj h).symm
def fX12_secret (n : Nat) (x1 : Int32) (x2 : Int32) (x3 : Int32) (μ : Mu) : Option (Int32 × Mu) := bnd (fX12_within n (x3.toInt64) 0 1 (wI μ 139 0 0)) fun u2 => if u2 = 0 then (some ((-2), wI μ 139 0 0)) else (if (x1 &&& (((shl 1 (rI (wI μ 139 0 0) 140 3)) - 1) ^^^ (-1))) = 0 then (bnd (fX12_isSoon n x2 (wI μ 139 0 0)) fun u6 => if u6 = 0 then (some ((-3), wI μ 139 0 0)) else (bnd (lp n (sX12_secret_48 n x1 x2 x3) (0, wI μ 139 0 0)) fun q => match q with | .inl (u19, u20, m21) => (if x3 = 0 then (some (u19, m21)) else (some (u20, m21))) | .inr m22 => (some ((-1), m22)))) else (some ((-3), wI μ 139 0 0)))
set_option maxRecDepth 100000 in
set_option maxHeartbeats 4000000 in
theorem tX12_secret {l : Launch} {w : WP} {sh : List Sh} {R : Rf} {μ : Mu} {r : Int32} {μ' : Mu} (hY : LY sh R) (n : Nat) (x1 : Int32) (x2 : Int32) (x3 : Int32)  (h : fX12_secret n x1 x2 x3 μ = some (r, μ')) : CM l w yX12_secret cX12_secret 6 (some .int) 8 0 0 sh R [.ref (wb w + 139), .int x1, .int x2, .int x3] μ (some (.int r)) sh R μ' := by
  refine CM.of (plainFor_of_name pf_X12) (Nat.le_of_ble_eq_true rfl) fun Z C hr _ hR hw hl hE => ?_
  subst hw; subst hl
  have C : CX Z cX12_secret 6 RX12 := C
  show Wm Z (0, 0, sh, R) μ 0 [(0, .ref (wb (zw Z) + 139)), (1, .int x1), (2, .int x2), (3, .int x3)] []
  unfold fX12_secret at h
  refine r_aload_n C dX12_secret_0 0 rfl ?_
  refine r_iconst C dX12_secret_1 ic_0 ?_
  refine r_putI C fiX12_1 dX12_secret_2 (ly139 hY) ?_
  refine r_iload_n C dX12_secret_5 3 rfl ?_
  refine r_i2l C dX12_secret_6 ?_
  refine r_lconst C dX12_secret_7 lc_0 ?_
  refine r_lconst C dX12_secret_8 lc_1 ?_
  obtain ⟨u2, e1, h⟩ := bnd_inv h
  refine r_cSi (As := [.long (x3.toInt64), .long 0, .long 1]) (rest := []) C hR mlX12_130 dX12_secret_9 (tX12_within hY n (x3.toInt64) 0 1  e1) rfl rfl (nle rfl) (nle rfl) (nle rfl) ?_
  refine r_if_ne 18 C dX12_secret_12 (by decide) (fun c3 => ?_) (fun c3 => ?_)
  · have h := (ite_inv h).2 c3
    refine r_iload_n C dX12_secret_18 1 rfl ?_
    refine r_iconst C dX12_secret_19 ic_1 ?_
    refine r_aload_n C dX12_secret_20 0 rfl ?_
    refine r_getR C flX12_13 dX12_secret_21 (ly139 hY) rfl (lr139_1 hY) ?_
    refine r_iconst C dX12_secret_24 ic_3 ?_
    refine r_iald C dX12_secret_25 (ly140 hY) (by decide) ?_
    refine r_ishl C dX12_secret_26 ?_
    refine r_iconst C dX12_secret_27 ic_1 ?_
    refine r_isub C dX12_secret_28 ?_
    refine r_iconst C dX12_secret_29 ic_m1 ?_
    refine r_ixor C dX12_secret_30 ?_
    refine r_iand C dX12_secret_31 ?_
    refine r_if_ne 42 C dX12_secret_32 (by decide) (fun c4 => ?_) (fun c4 => ?_)
    · have h := (ite_inv h).2 c4
      refine r_bipush C dX12_secret_42 bp_m3 ?_
      obtain ⟨h1, h2⟩ := Prod.mk.inj (Option.some.inj h)
      subst h1; subst h2
      exact r_iret C dX12_secret_44 hr hE
    · have h := (ite_inv h).1 c4
      refine r_iload_n C dX12_secret_35 2 rfl ?_
      obtain ⟨u6, e5, h⟩ := bnd_inv h
      refine r_cSi (As := [.int x2]) (rest := []) C hR mlX12_348 dX12_secret_36 (tX12_isSoon hY n x2  e5) rfl rfl (nle rfl) (nle rfl) (nle rfl) ?_
      refine r_if_ne 45 C dX12_secret_39 (by decide) (fun c7 => ?_) (fun c7 => ?_)
      · have h := (ite_inv h).2 c7
        refine r_iconst C dX12_secret_45 ic_0 ?_
        refine r_istore [(4, .int 0), (0, .ref (wb (zw Z) + 139)), (1, .int x1), (2, .int x2), (3, .int x3)] C dX12_secret_46 (by decide) rfl ?_
        refine r_sub [(0, .ref (wb (zw Z) + 139)), (1, .int x1), (2, .int x2), (3, .int x3), (4, .int 0)] [1, 2, 3, 4, 0] rfl ?_
        obtain ⟨q24, e23, h⟩ := bnd_inv h
        refine lp_all (sX12_secret_48 n x1 x2 x3) (fun q => match q with | (z4, ν) => Wm Z (0, 0, sh, R) (ν) 48 [(0, .ref (wb (zw Z) + 139)), (1, .int x1), (2, .int x2), (3, .int x3), (4, .int z4)] []) (fun q => match q with | .inl (z4, z5, ν) => Wm Z (0, 0, sh, R) (ν) 82 [(3, .int x3), (4, .int z4), (5, .int z5)] [] | .inr (ν) => Wm Z (0, 0, sh, R) (ν) 106 [] []) (fun q o h kin kex => ?_) n (0, wI μ 139 0 0) q24 e23 ?_
        · obtain ⟨z4, ν⟩ := q; exact lX12_secret_48 C hR hY n   x1 x2 x3 z4 ν h (fun z4 ν e => kin (z4, ν) e) (fun z4 z5 ν e => kex (.inl (z4, z5, ν)) e) (fun ν e => kex (.inr (ν)) e)
        rcases q24 with ⟨u19, u20, m21⟩ | m22
        · show Wm Z (0, 0, sh, R) m21 82 [(3, .int x3), (4, .int u19), (5, .int u20)] []
          refine r_iload_n C dX12_secret_82 0 rfl ?_
          refine r_if_ne 91 C dX12_secret_83 (by decide) (fun c25 => ?_) (fun c25 => ?_)
          · have h := (ite_inv h).2 c25
            refine r_iload C dX12_secret_91 2 rfl ?_
            obtain ⟨h1, h2⟩ := Prod.mk.inj (Option.some.inj h)
            subst h1; subst h2
            exact r_iret C dX12_secret_93 hr hE
          · have h := (ite_inv h).1 c25
            refine r_iload C dX12_secret_86 1 rfl ?_
            refine r_goto 93 C dX12_secret_88 (by decide) ?_
            obtain ⟨h1, h2⟩ := Prod.mk.inj (Option.some.inj h)
            subst h1; subst h2
            exact r_iret C dX12_secret_93 hr hE
        · show Wm Z (0, 0, sh, R) m22 106 [] []
          refine r_iconst C dX12_secret_106 ic_m1 ?_
          obtain ⟨h1, h2⟩ := Prod.mk.inj (Option.some.inj h)
          subst h1; subst h2
          exact r_iret C dX12_secret_107 hr hE
      · have h := (ite_inv h).1 c7
        refine r_bipush C dX12_secret_42 bp_m3 ?_
        obtain ⟨h1, h2⟩ := Prod.mk.inj (Option.some.inj h)
        subst h1; subst h2
        exact r_iret C dX12_secret_44 hr hE
  · have h := (ite_inv h).1 c3
    refine r_bipush C dX12_secret_15 bp_m2 ?_
    obtain ⟨h1, h2⟩ := Prod.mk.inj (Option.some.inj h)
    subst h1; subst h2
    exact r_iret C dX12_secret_17 hr hE
