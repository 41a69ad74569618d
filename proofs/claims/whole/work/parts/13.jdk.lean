def fJ9_max_7cf53 (n : Nat) (x0 : Int32) (x1 : Int32) (μ : Mu) : Option (Int32) := if x0 < x1 then (some x1) else (some x0)
set_option maxRecDepth 100000 in
set_option maxHeartbeats 4000000 in
theorem tJ9_max_7cf53 {l : Launch} {w : WP} {sh : List Sh} {R : Rf} {μ : Mu} {r : Int32} (hY : LY sh R) (n : Nat) (x0 : Int32) (x1 : Int32)  (h : fJ9_max_7cf53 n x0 x1 μ = some r) : CM l w yJ9_max_7cf53 cJ9_max_7cf53 2 (some .int) 0 0 0 sh R [.int x0, .int x1] μ (some (.int r)) sh R μ := by
  refine CM.of (by decide +kernel) (Nat.le_of_ble_eq_true rfl) fun Z C hr _ hR hw hl hE => ?_
  subst hw; subst hl
  have C : CX Z cJ9_max_7cf53 2 RJ9 := C
  show Wm Z (0, 0, sh, R) μ 0 [(0, .int x0), (1, .int x1)] []
  unfold fJ9_max_7cf53 at h
  refine r_iload_n C dJ9_max_7cf53_0 0 rfl ?_
  refine r_iload_n C dJ9_max_7cf53_1 1 rfl ?_
  refine r_icmp_lt 9 C dJ9_max_7cf53_2 (by decide) (fun c1 => ?_) (fun c1 => ?_)
  · have h := (ite_inv h).1 c1
    refine r_iload_n C dJ9_max_7cf53_9 1 rfl ?_
    have h := Option.some.inj h
    subst h
    exact r_iret C dJ9_max_7cf53_10 hr hE
  · have h := (ite_inv h).2 c1
    refine r_iload_n C dJ9_max_7cf53_5 0 rfl ?_
    refine r_goto 10 C dJ9_max_7cf53_6 (by decide) ?_
    have h := Option.some.inj h
    subst h
    exact r_iret C dJ9_max_7cf53_10 hr hE
def fJ9_min_7cf53 (n : Nat) (x0 : Int32) (x1 : Int32) (μ : Mu) : Option (Int32) := if x1 < x0 then (some x1) else (some x0)
set_option maxRecDepth 100000 in
set_option maxHeartbeats 4000000 in
theorem tJ9_min_7cf53 {l : Launch} {w : WP} {sh : List Sh} {R : Rf} {μ : Mu} {r : Int32} (hY : LY sh R) (n : Nat) (x0 : Int32) (x1 : Int32)  (h : fJ9_min_7cf53 n x0 x1 μ = some r) : CM l w yJ9_min_7cf53 cJ9_min_7cf53 2 (some .int) 0 0 0 sh R [.int x0, .int x1] μ (some (.int r)) sh R μ := by
  refine CM.of (by decide +kernel) (Nat.le_of_ble_eq_true rfl) fun Z C hr _ hR hw hl hE => ?_
  subst hw; subst hl
  have C : CX Z cJ9_min_7cf53 2 RJ9 := C
  show Wm Z (0, 0, sh, R) μ 0 [(0, .int x0), (1, .int x1)] []
  unfold fJ9_min_7cf53 at h
  refine r_iload_n C dJ9_min_7cf53_0 0 rfl ?_
  refine r_iload_n C dJ9_min_7cf53_1 1 rfl ?_
  refine r_icmp_gt 9 C dJ9_min_7cf53_2 (by decide) (fun c1 => ?_) (fun c1 => ?_)
  · have h := (ite_inv h).1 c1
    refine r_iload_n C dJ9_min_7cf53_9 1 rfl ?_
    have h := Option.some.inj h
    subst h
    exact r_iret C dJ9_min_7cf53_10 hr hE
  · have h := (ite_inv h).2 c1
    refine r_iload_n C dJ9_min_7cf53_5 0 rfl ?_
    refine r_goto 10 C dJ9_min_7cf53_6 (by decide) ?_
    have h := Option.some.inj h
    subst h
    exact r_iret C dJ9_min_7cf53_10 hr hE
def fJ9_max_f86c9 (n : Nat) (y0 : Int64) (y2 : Int64) (μ : Mu) : Option (Int64) := if (lg_cmp y0 y2) < 0 then (some y2) else (some y0)
set_option maxRecDepth 100000 in
set_option maxHeartbeats 4000000 in
theorem tJ9_max_f86c9 {l : Launch} {w : WP} {sh : List Sh} {R : Rf} {μ : Mu} {r : Int64} (hY : LY sh R) (n : Nat) (y0 : Int64) (y2 : Int64)  (h : fJ9_max_f86c9 n y0 y2 μ = some r) : CM l w yJ9_max_f86c9 cJ9_max_f86c9 4 (some .long) 0 0 0 sh R [.long y0, .long y2] μ (some (.long r)) sh R μ := by
  refine CM.of (by decide +kernel) (Nat.le_of_ble_eq_true rfl) fun Z C hr _ hR hw hl hE => ?_
  subst hw; subst hl
  have C : CX Z cJ9_max_f86c9 4 RJ9 := C
  show Wm Z (0, 0, sh, R) μ 0 [(0, .long y0), (2, .long y2)] []
  unfold fJ9_max_f86c9 at h
  refine r_lload_n C dJ9_max_f86c9_0 0 rfl ?_
  refine r_lload_n C dJ9_max_f86c9_1 1 rfl ?_
  refine r_lcmp C dJ9_max_f86c9_2 ?_
  refine r_if_lt 10 C dJ9_max_f86c9_3 (by decide) (fun c1 => ?_) (fun c1 => ?_)
  · have h := (ite_inv h).1 c1
    refine r_lload_n C dJ9_max_f86c9_10 1 rfl ?_
    have h := Option.some.inj h
    subst h
    exact r_lret C dJ9_max_f86c9_11 hr hE
  · have h := (ite_inv h).2 c1
    refine r_lload_n C dJ9_max_f86c9_6 0 rfl ?_
    refine r_goto 11 C dJ9_max_f86c9_7 (by decide) ?_
    have h := Option.some.inj h
    subst h
    exact r_lret C dJ9_max_f86c9_11 hr hE
def fJ9_min_f86c9 (n : Nat) (y0 : Int64) (y2 : Int64) (μ : Mu) : Option (Int64) := if 0 < (lg_cmp y0 y2) then (some y2) else (some y0)
set_option maxRecDepth 100000 in
set_option maxHeartbeats 4000000 in
theorem tJ9_min_f86c9 {l : Launch} {w : WP} {sh : List Sh} {R : Rf} {μ : Mu} {r : Int64} (hY : LY sh R) (n : Nat) (y0 : Int64) (y2 : Int64)  (h : fJ9_min_f86c9 n y0 y2 μ = some r) : CM l w yJ9_min_f86c9 cJ9_min_f86c9 4 (some .long) 0 0 0 sh R [.long y0, .long y2] μ (some (.long r)) sh R μ := by
  refine CM.of (by decide +kernel) (Nat.le_of_ble_eq_true rfl) fun Z C hr _ hR hw hl hE => ?_
  subst hw; subst hl
  have C : CX Z cJ9_min_f86c9 4 RJ9 := C
  show Wm Z (0, 0, sh, R) μ 0 [(0, .long y0), (2, .long y2)] []
  unfold fJ9_min_f86c9 at h
  refine r_lload_n C dJ9_min_f86c9_0 0 rfl ?_
  refine r_lload_n C dJ9_min_f86c9_1 1 rfl ?_
  refine r_lcmp C dJ9_min_f86c9_2 ?_
  refine r_if_gt 10 C dJ9_min_f86c9_3 (by decide) (fun c1 => ?_) (fun c1 => ?_)
  · have h := (ite_inv h).1 c1
    refine r_lload_n C dJ9_min_f86c9_10 1 rfl ?_
    have h := Option.some.inj h
    subst h
    exact r_lret C dJ9_min_f86c9_11 hr hE
  · have h := (ite_inv h).2 c1
    refine r_lload_n C dJ9_min_f86c9_6 0 rfl ?_
    refine r_goto 11 C dJ9_min_f86c9_7 (by decide) ?_
    have h := Option.some.inj h
    subst h
    exact r_lret C dJ9_min_f86c9_11 hr hE
def fJ9_floorMod_7cf53 (n : Nat) (x0 : Int32) (x1 : Int32) (μ : Mu) : Option (Int32) := gd (decide (¬ x1 = 0)) (if 0 ≤ (x0 ^^^ x1) then (some (jrem x0 x1)) else (if (jrem x0 x1) = 0 then (some (jrem x0 x1)) else (some ((jrem x0 x1) + x1))))
set_option maxRecDepth 100000 in
set_option maxHeartbeats 4000000 in
theorem tJ9_floorMod_7cf53 {l : Launch} {w : WP} {sh : List Sh} {R : Rf} {μ : Mu} {r : Int32} (hY : LY sh R) (n : Nat) (x0 : Int32) (x1 : Int32)  (h : fJ9_floorMod_7cf53 n x0 x1 μ = some r) : CM l w yJ9_floorMod_7cf53 cJ9_floorMod_7cf53 3 (some .int) 0 0 0 sh R [.int x0, .int x1] μ (some (.int r)) sh R μ := by
  refine CM.of (by decide +kernel) (Nat.le_of_ble_eq_true rfl) fun Z C hr _ hR hw hl hE => ?_
  subst hw; subst hl
  have C : CX Z cJ9_floorMod_7cf53 3 RJ9 := C
  show Wm Z (0, 0, sh, R) μ 0 [(0, .int x0), (1, .int x1)] []
  unfold fJ9_floorMod_7cf53 at h
  refine r_iload_n C dJ9_floorMod_7cf53_0 0 rfl ?_
  refine r_iload_n C dJ9_floorMod_7cf53_1 1 rfl ?_
  obtain ⟨b1, h⟩ := gd_inv h
  refine r_irem C dJ9_floorMod_7cf53_2 (of_decide_eq_true b1) ?_
  refine r_istore_n [(2, .int (jrem x0 x1)), (0, .int x0), (1, .int x1)] C dJ9_floorMod_7cf53_3 rfl (by decide) rfl ?_
  refine r_iload_n C dJ9_floorMod_7cf53_4 1 rfl ?_
  refine r_iload_n C dJ9_floorMod_7cf53_5 2 rfl ?_
  refine r_ixor C dJ9_floorMod_7cf53_6 ?_
  refine r_if_ge 18 C dJ9_floorMod_7cf53_7 (by decide) (fun c2 => ?_) (fun c2 => ?_)
  · have h := (ite_inv h).1 c2
    refine r_iload_n C dJ9_floorMod_7cf53_18 0 rfl ?_
    have h := Option.some.inj h
    subst h
    exact r_iret C dJ9_floorMod_7cf53_19 hr hE
  · have h := (ite_inv h).2 c2
    refine r_iload_n C dJ9_floorMod_7cf53_10 0 rfl ?_
    refine r_if_eq 18 C dJ9_floorMod_7cf53_11 (by decide) (fun c3 => ?_) (fun c3 => ?_)
    · have h := (ite_inv h).1 c3
      refine r_iload_n C dJ9_floorMod_7cf53_18 0 rfl ?_
      have h := Option.some.inj h
      subst h
      exact r_iret C dJ9_floorMod_7cf53_19 hr hE
    · have h := (ite_inv h).2 c3
      refine r_iload_n C dJ9_floorMod_7cf53_14 0 rfl ?_
      refine r_iload_n C dJ9_floorMod_7cf53_15 2 rfl ?_
      refine r_iadd C dJ9_floorMod_7cf53_16 ?_
      have h := Option.some.inj h
      subst h
      exact r_iret C dJ9_floorMod_7cf53_17 hr hE
def fJ6_bitCount_0f7a4 (n : Nat) (x0 : Int32) (μ : Mu) : Option (Int32) := some ((((((((x0 - ((ushr x0 1) &&& 1431655765)) &&& 858993459) + ((ushr (x0 - ((ushr x0 1) &&& 1431655765)) 2) &&& 858993459)) + (ushr (((x0 - ((ushr x0 1) &&& 1431655765)) &&& 858993459) + ((ushr (x0 - ((ushr x0 1) &&& 1431655765)) 2) &&& 858993459)) 4)) &&& 252645135) + (ushr (((((x0 - ((ushr x0 1) &&& 1431655765)) &&& 858993459) + ((ushr (x0 - ((ushr x0 1) &&& 1431655765)) 2) &&& 858993459)) + (ushr (((x0 - ((ushr x0 1) &&& 1431655765)) &&& 858993459) + ((ushr (x0 - ((ushr x0 1) &&& 1431655765)) 2) &&& 858993459)) 4)) &&& 252645135) 8)) + (ushr ((((((x0 - ((ushr x0 1) &&& 1431655765)) &&& 858993459) + ((ushr (x0 - ((ushr x0 1) &&& 1431655765)) 2) &&& 858993459)) + (ushr (((x0 - ((ushr x0 1) &&& 1431655765)) &&& 858993459) + ((ushr (x0 - ((ushr x0 1) &&& 1431655765)) 2) &&& 858993459)) 4)) &&& 252645135) + (ushr (((((x0 - ((ushr x0 1) &&& 1431655765)) &&& 858993459) + ((ushr (x0 - ((ushr x0 1) &&& 1431655765)) 2) &&& 858993459)) + (ushr (((x0 - ((ushr x0 1) &&& 1431655765)) &&& 858993459) + ((ushr (x0 - ((ushr x0 1) &&& 1431655765)) 2) &&& 858993459)) 4)) &&& 252645135) 8)) 16)) &&& 63)
set_option maxRecDepth 100000 in
set_option maxHeartbeats 4000000 in
theorem tJ6_bitCount_0f7a4 {l : Launch} {w : WP} {sh : List Sh} {R : Rf} {μ : Mu} {r : Int32} (hY : LY sh R) (n : Nat) (x0 : Int32)  (h : fJ6_bitCount_0f7a4 n x0 μ = some r) : CM l w yJ6_bitCount_0f7a4 cJ6_bitCount_0f7a4 1 (some .int) 0 0 0 sh R [.int x0] μ (some (.int r)) sh R μ := by
  refine CM.of (plainFor_of_name pf_J6) (Nat.le_of_ble_eq_true rfl) fun Z C hr _ hR hw hl hE => ?_
  subst hw; subst hl
  have C : CX Z cJ6_bitCount_0f7a4 1 RJ6 := C
  show Wm Z (0, 0, sh, R) μ 0 [(0, .int x0)] []
  unfold fJ6_bitCount_0f7a4 at h
  refine r_iload_n C dJ6_bitCount_0f7a4_0 0 rfl ?_
  refine r_iload_n C dJ6_bitCount_0f7a4_1 0 rfl ?_
  refine r_iconst C dJ6_bitCount_0f7a4_2 ic_1 ?_
  refine r_iushr C dJ6_bitCount_0f7a4_3 ?_
  refine r_ldcw C dJ6_bitCount_0f7a4_4 kkJ6_265 ?_
  refine r_iand C dJ6_bitCount_0f7a4_7 ?_
  refine r_isub C dJ6_bitCount_0f7a4_8 ?_
  refine r_istore_n [(0, .int (x0 - ((ushr x0 1) &&& 1431655765)))] C dJ6_bitCount_0f7a4_9 rfl (by decide) rfl ?_
  refine r_iload_n C dJ6_bitCount_0f7a4_10 0 rfl ?_
  refine r_ldcw C dJ6_bitCount_0f7a4_11 kkJ6_266 ?_
  refine r_iand C dJ6_bitCount_0f7a4_14 ?_
  refine r_iload_n C dJ6_bitCount_0f7a4_15 0 rfl ?_
  refine r_iconst C dJ6_bitCount_0f7a4_16 ic_2 ?_
  refine r_iushr C dJ6_bitCount_0f7a4_17 ?_
  refine r_ldcw C dJ6_bitCount_0f7a4_18 kkJ6_266 ?_
  refine r_iand C dJ6_bitCount_0f7a4_21 ?_
  refine r_iadd C dJ6_bitCount_0f7a4_22 ?_
  refine r_istore_n [(0, .int (((x0 - ((ushr x0 1) &&& 1431655765)) &&& 858993459) + ((ushr (x0 - ((ushr x0 1) &&& 1431655765)) 2) &&& 858993459)))] C dJ6_bitCount_0f7a4_23 rfl (by decide) rfl ?_
  refine r_iload_n C dJ6_bitCount_0f7a4_24 0 rfl ?_
  refine r_iload_n C dJ6_bitCount_0f7a4_25 0 rfl ?_
  refine r_iconst C dJ6_bitCount_0f7a4_26 ic_4 ?_
  refine r_iushr C dJ6_bitCount_0f7a4_27 ?_
  refine r_iadd C dJ6_bitCount_0f7a4_28 ?_
  refine r_ldcw C dJ6_bitCount_0f7a4_29 kkJ6_267 ?_
  refine r_iand C dJ6_bitCount_0f7a4_32 ?_
  refine r_istore_n [(0, .int (((((x0 - ((ushr x0 1) &&& 1431655765)) &&& 858993459) + ((ushr (x0 - ((ushr x0 1) &&& 1431655765)) 2) &&& 858993459)) + (ushr (((x0 - ((ushr x0 1) &&& 1431655765)) &&& 858993459) + ((ushr (x0 - ((ushr x0 1) &&& 1431655765)) 2) &&& 858993459)) 4)) &&& 252645135))] C dJ6_bitCount_0f7a4_33 rfl (by decide) rfl ?_
  refine r_iload_n C dJ6_bitCount_0f7a4_34 0 rfl ?_
  refine r_iload_n C dJ6_bitCount_0f7a4_35 0 rfl ?_
  refine r_bipush C dJ6_bitCount_0f7a4_36 bp_8 ?_
  refine r_iushr C dJ6_bitCount_0f7a4_38 ?_
  refine r_iadd C dJ6_bitCount_0f7a4_39 ?_
  refine r_istore_n [(0, .int ((((((x0 - ((ushr x0 1) &&& 1431655765)) &&& 858993459) + ((ushr (x0 - ((ushr x0 1) &&& 1431655765)) 2) &&& 858993459)) + (ushr (((x0 - ((ushr x0 1) &&& 1431655765)) &&& 858993459) + ((ushr (x0 - ((ushr x0 1) &&& 1431655765)) 2) &&& 858993459)) 4)) &&& 252645135) + (ushr (((((x0 - ((ushr x0 1) &&& 1431655765)) &&& 858993459) + ((ushr (x0 - ((ushr x0 1) &&& 1431655765)) 2) &&& 858993459)) + (ushr (((x0 - ((ushr x0 1) &&& 1431655765)) &&& 858993459) + ((ushr (x0 - ((ushr x0 1) &&& 1431655765)) 2) &&& 858993459)) 4)) &&& 252645135) 8)))] C dJ6_bitCount_0f7a4_40 rfl (by decide) rfl ?_
  refine r_iload_n C dJ6_bitCount_0f7a4_41 0 rfl ?_
  refine r_iload_n C dJ6_bitCount_0f7a4_42 0 rfl ?_
  refine r_bipush C dJ6_bitCount_0f7a4_43 bp_16 ?_
  refine r_iushr C dJ6_bitCount_0f7a4_45 ?_
  refine r_iadd C dJ6_bitCount_0f7a4_46 ?_
  refine r_istore_n [(0, .int (((((((x0 - ((ushr x0 1) &&& 1431655765)) &&& 858993459) + ((ushr (x0 - ((ushr x0 1) &&& 1431655765)) 2) &&& 858993459)) + (ushr (((x0 - ((ushr x0 1) &&& 1431655765)) &&& 858993459) + ((ushr (x0 - ((ushr x0 1) &&& 1431655765)) 2) &&& 858993459)) 4)) &&& 252645135) + (ushr (((((x0 - ((ushr x0 1) &&& 1431655765)) &&& 858993459) + ((ushr (x0 - ((ushr x0 1) &&& 1431655765)) 2) &&& 858993459)) + (ushr (((x0 - ((ushr x0 1) &&& 1431655765)) &&& 858993459) + ((ushr (x0 - ((ushr x0 1) &&& 1431655765)) 2) &&& 858993459)) 4)) &&& 252645135) 8)) + (ushr ((((((x0 - ((ushr x0 1) &&& 1431655765)) &&& 858993459) + ((ushr (x0 - ((ushr x0 1) &&& 1431655765)) 2) &&& 858993459)) + (ushr (((x0 - ((ushr x0 1) &&& 1431655765)) &&& 858993459) + ((ushr (x0 - ((ushr x0 1) &&& 1431655765)) 2) &&& 858993459)) 4)) &&& 252645135) + (ushr (((((x0 - ((ushr x0 1) &&& 1431655765)) &&& 858993459) + ((ushr (x0 - ((ushr x0 1) &&& 1431655765)) 2) &&& 858993459)) + (ushr (((x0 - ((ushr x0 1) &&& 1431655765)) &&& 858993459) + ((ushr (x0 - ((ushr x0 1) &&& 1431655765)) 2) &&& 858993459)) 4)) &&& 252645135) 8)) 16)))] C dJ6_bitCount_0f7a4_47 rfl (by decide) rfl ?_
  refine r_iload_n C dJ6_bitCount_0f7a4_48 0 rfl ?_
  refine r_bipush C dJ6_bitCount_0f7a4_49 bp_63 ?_
  refine r_iand C dJ6_bitCount_0f7a4_51 ?_
  have h := Option.some.inj h
  subst h
  exact r_iret C dJ6_bitCount_0f7a4_52 hr hE
def sJ7_fill_53178_5 (n : Nat) (a0 : Nat) (n0 : Nat) (x1 : Int32) (x3 : Int32) : Int32 × Mu → Option ((Int32 × Mu) ⊕ (Mu)) := fun q => match q with | (x2, μ) => if x3 ≤ x2 then (some (.inr μ)) else (gd (ib x2 n0) (some (.inl (x2 + 1, wI μ a0 (ix x2) x1))))
set_option maxRecDepth 100000 in
set_option maxHeartbeats 4000000 in
theorem lJ7_fill_53178_5 {Z : ZC} {sh : List Sh} {R : Rf} {o : (Int32 × Mu) ⊕ (Mu)} (C : CX Z cJ7_fill_53178 4 RJ7) (hR : zR Z = rm 0 0 0) (hY : LY sh R) (n : Nat) (a0 : Nat) (n0 : Nat) (ha0 : sh[a0]? = some (.inr (0, n0))) (x1 : Int32) (x3 : Int32) (x2 : Int32) (μ : Mu) (h : sJ7_fill_53178_5 n a0 n0 x1 x3 (x2, μ) = some o) (kin : ∀ (x2 : Int32) (μ : Mu), o = .inl (x2, μ) → Wm Z (0, 0, sh, R) μ 5 [(0, .ref (wb (zw Z) + a0)), (1, .int x1), (2, .int x2), (3, .int x3)] []) (kex0 : ∀ (μ : Mu), o = .inr μ → Wm Z (0, 0, sh, R) μ 20 [] []) : Wm Z (0, 0, sh, R) μ 5 [(0, .ref (wb (zw Z) + a0)), (1, .int x1), (2, .int x2), (3, .int x3)] [] := by
  unfold sJ7_fill_53178_5 at h
  refine r_iload_n C dJ7_fill_53178_5 2 rfl ?_
  refine r_iload_n C dJ7_fill_53178_6 3 rfl ?_
  refine r_icmp_ge 20 C dJ7_fill_53178_7 (by decide) (fun c1 => ?_) (fun c1 => ?_)
  · have h := (ite_inv h).1 c1
    refine r_sub [] [] rfl ?_
    exact kex0 μ (Option.some.inj h).symm
  · have h := (ite_inv h).2 c1
    refine r_aload_n C dJ7_fill_53178_10 0 rfl ?_
    refine r_iload_n C dJ7_fill_53178_11 2 rfl ?_
    refine r_iload_n C dJ7_fill_53178_12 1 rfl ?_
    obtain ⟨b2, h⟩ := gd_inv h
    refine r_iast C dJ7_fill_53178_13 ha0 b2 ?_
    refine r_iinc [(2, .int (x2 + 1)), (0, .ref (wb (zw Z) + a0)), (1, .int x1), (3, .int x3)] C dJ7_fill_53178_14 2 rfl (in_1 _) (by decide) rfl ?_
    refine r_goto 5 C dJ7_fill_53178_17 (by decide) ?_
    refine r_sub [(0, .ref (wb (zw Z) + a0)), (1, .int x1), (2, .int (x2 + 1)), (3, .int x3)] [1, 2, 0, 3] rfl ?_
    exact kin (x2 + 1) (wI μ a0 (ix x2) x1) (Option.some.inj h).symm
def fJ7_fill_53178 (n : Nat) (a0 : Nat) (n0 : Nat) (x1 : Int32) (μ : Mu) : Option (Mu) := bnd (lp n (sJ7_fill_53178_5 n a0 n0 x1 (Int32.ofNat n0)) (0, μ)) fun q => match q with | m3 => some m3
set_option maxRecDepth 100000 in
set_option maxHeartbeats 4000000 in
theorem tJ7_fill_53178 {l : Launch} {w : WP} {sh : List Sh} {R : Rf} {μ : Mu} {μ' : Mu} (hY : LY sh R) (n : Nat) (a0 : Nat) (n0 : Nat) (x1 : Int32) (ha0 : sh[a0]? = some (.inr (0, n0))) (h : fJ7_fill_53178 n a0 n0 x1 μ = some μ') : CM l w yJ7_fill_53178 cJ7_fill_53178 4 none 0 0 0 sh R [.ref (wb w + a0), .int x1] μ none sh R μ' := by
  refine CM.of (plainFor_of_name pf_J7) (Nat.le_of_ble_eq_true rfl) fun Z C hr _ hR hw hl hE => ?_
  subst hw; subst hl
  have C : CX Z cJ7_fill_53178 4 RJ7 := C
  show Wm Z (0, 0, sh, R) μ 0 [(0, .ref (wb (zw Z) + a0)), (1, .int x1)] []
  unfold fJ7_fill_53178 at h
  refine r_iconst C dJ7_fill_53178_0 ic_0 ?_
  refine r_istore_n [(2, .int 0), (0, .ref (wb (zw Z) + a0)), (1, .int x1)] C dJ7_fill_53178_1 rfl (by decide) rfl ?_
  refine r_aload_n C dJ7_fill_53178_2 1 rfl ?_
  refine r_alen C dJ7_fill_53178_3 ha0 rfl rfl ?_
  refine r_istore_n [(3, .int (Int32.ofNat n0)), (2, .int 0), (0, .ref (wb (zw Z) + a0)), (1, .int x1)] C dJ7_fill_53178_4 rfl (by decide) rfl ?_
  refine r_sub [(0, .ref (wb (zw Z) + a0)), (1, .int x1), (2, .int 0), (3, .int (Int32.ofNat n0))] [2, 3, 1, 0] rfl ?_
  obtain ⟨m3, e4, h⟩ := bnd_inv h
  refine lp_all (sJ7_fill_53178_5 n a0 n0 x1 (Int32.ofNat n0)) (fun q => match q with | (z2, ν) => Wm Z (0, 0, sh, R) (ν) 5 [(0, .ref (wb (zw Z) + a0)), (1, .int x1), (2, .int z2), (3, .int (Int32.ofNat n0))] []) (fun q => match q with | ν => Wm Z (0, 0, sh, R) (ν) 20 [] []) (fun q o h kin kex => ?_) n (0, μ) m3 e4 ?_
  · obtain ⟨z2, ν⟩ := q; exact lJ7_fill_53178_5 C hR hY n a0 n0 ha0 x1 (Int32.ofNat n0) z2 ν h (fun z2 ν e => kin (z2, ν) e) (fun ν e => kex (ν) e)
  show Wm Z (0, 0, sh, R) m3 20 [] []
  have h := Option.some.inj h
  subst h
  exact r_vret C dJ7_fill_53178_20 hr hE
def sJ7_fill_d0a16_6 (n : Nat) (a0 : Nat) (n0 : Nat) (y1 : Int64) (x4 : Int32) : Int32 × Mu → Option ((Int32 × Mu) ⊕ (Mu)) := fun q => match q with | (x3, μ) => if x4 ≤ x3 then (some (.inr μ)) else (gd (ib x3 n0) (some (.inl (x3 + 1, wL μ a0 (ix x3) y1))))
set_option maxRecDepth 100000 in
set_option maxHeartbeats 4000000 in
theorem lJ7_fill_d0a16_6 {Z : ZC} {sh : List Sh} {R : Rf} {o : (Int32 × Mu) ⊕ (Mu)} (C : CX Z cJ7_fill_d0a16 5 RJ7) (hR : zR Z = rm 0 0 0) (hY : LY sh R) (n : Nat) (a0 : Nat) (n0 : Nat) (ha0 : sh[a0]? = some (.inr (3, n0))) (y1 : Int64) (x4 : Int32) (x3 : Int32) (μ : Mu) (h : sJ7_fill_d0a16_6 n a0 n0 y1 x4 (x3, μ) = some o) (kin : ∀ (x3 : Int32) (μ : Mu), o = .inl (x3, μ) → Wm Z (0, 0, sh, R) μ 6 [(0, .ref (wb (zw Z) + a0)), (1, .long y1), (3, .int x3), (4, .int x4)] []) (kex0 : ∀ (μ : Mu), o = .inr μ → Wm Z (0, 0, sh, R) μ 22 [] []) : Wm Z (0, 0, sh, R) μ 6 [(0, .ref (wb (zw Z) + a0)), (1, .long y1), (3, .int x3), (4, .int x4)] [] := by
  unfold sJ7_fill_d0a16_6 at h
  refine r_iload_n C dJ7_fill_d0a16_6 2 rfl ?_
  refine r_iload C dJ7_fill_d0a16_7 3 rfl ?_
  refine r_icmp_ge 22 C dJ7_fill_d0a16_9 (by decide) (fun c1 => ?_) (fun c1 => ?_)
  · have h := (ite_inv h).1 c1
    refine r_sub [] [] rfl ?_
    exact kex0 μ (Option.some.inj h).symm
  · have h := (ite_inv h).2 c1
    refine r_aload_n C dJ7_fill_d0a16_12 0 rfl ?_
    refine r_iload_n C dJ7_fill_d0a16_13 2 rfl ?_
    refine r_lload_n C dJ7_fill_d0a16_14 1 rfl ?_
    obtain ⟨b2, h⟩ := gd_inv h
    refine r_last C dJ7_fill_d0a16_15 ha0 b2 ?_
    refine r_iinc [(3, .int (x3 + 1)), (0, .ref (wb (zw Z) + a0)), (1, .long y1), (4, .int x4)] C dJ7_fill_d0a16_16 2 rfl (in_1 _) (by decide) rfl ?_
    refine r_goto 6 C dJ7_fill_d0a16_19 (by decide) ?_
    refine r_sub [(0, .ref (wb (zw Z) + a0)), (1, .long y1), (3, .int (x3 + 1)), (4, .int x4)] [1, 2, 0, 3] rfl ?_
    exact kin (x3 + 1) (wL μ a0 (ix x3) y1) (Option.some.inj h).symm
def fJ7_fill_d0a16 (n : Nat) (a0 : Nat) (n0 : Nat) (y1 : Int64) (μ : Mu) : Option (Mu) := bnd (lp n (sJ7_fill_d0a16_6 n a0 n0 y1 (Int32.ofNat n0)) (0, μ)) fun q => match q with | m3 => some m3
set_option maxRecDepth 100000 in
set_option maxHeartbeats 4000000 in
theorem tJ7_fill_d0a16 {l : Launch} {w : WP} {sh : List Sh} {R : Rf} {μ : Mu} {μ' : Mu} (hY : LY sh R) (n : Nat) (a0 : Nat) (n0 : Nat) (y1 : Int64) (ha0 : sh[a0]? = some (.inr (3, n0))) (h : fJ7_fill_d0a16 n a0 n0 y1 μ = some μ') : CM l w yJ7_fill_d0a16 cJ7_fill_d0a16 5 none 0 0 0 sh R [.ref (wb w + a0), .long y1] μ none sh R μ' := by
  refine CM.of (plainFor_of_name pf_J7) (Nat.le_of_ble_eq_true rfl) fun Z C hr _ hR hw hl hE => ?_
  subst hw; subst hl
  have C : CX Z cJ7_fill_d0a16 5 RJ7 := C
  show Wm Z (0, 0, sh, R) μ 0 [(0, .ref (wb (zw Z) + a0)), (1, .long y1)] []
  unfold fJ7_fill_d0a16 at h
  refine r_iconst C dJ7_fill_d0a16_0 ic_0 ?_
  refine r_istore_n [(3, .int 0), (0, .ref (wb (zw Z) + a0)), (1, .long y1)] C dJ7_fill_d0a16_1 rfl (by decide) rfl ?_
  refine r_aload_n C dJ7_fill_d0a16_2 1 rfl ?_
  refine r_alen C dJ7_fill_d0a16_3 ha0 rfl rfl ?_
  refine r_istore [(4, .int (Int32.ofNat n0)), (3, .int 0), (0, .ref (wb (zw Z) + a0)), (1, .long y1)] C dJ7_fill_d0a16_4 (by decide) rfl ?_
  refine r_sub [(0, .ref (wb (zw Z) + a0)), (1, .long y1), (3, .int 0), (4, .int (Int32.ofNat n0))] [2, 3, 1, 0] rfl ?_
  obtain ⟨m3, e4, h⟩ := bnd_inv h
  refine lp_all (sJ7_fill_d0a16_6 n a0 n0 y1 (Int32.ofNat n0)) (fun q => match q with | (z3, ν) => Wm Z (0, 0, sh, R) (ν) 6 [(0, .ref (wb (zw Z) + a0)), (1, .long y1), (3, .int z3), (4, .int (Int32.ofNat n0))] []) (fun q => match q with | ν => Wm Z (0, 0, sh, R) (ν) 22 [] []) (fun q o h kin kex => ?_) n (0, μ) m3 e4 ?_
  · obtain ⟨z3, ν⟩ := q; exact lJ7_fill_d0a16_6 C hR hY n a0 n0 ha0 y1 (Int32.ofNat n0) z3 ν h (fun z3 ν e => kin (z3, ν) e) (fun ν e => kex (ν) e)
  show Wm Z (0, 0, sh, R) m3 22 [] []
  have h := Option.some.inj h
  subst h
  exact r_vret C dJ7_fill_d0a16_22 hr hE
theorem t_jmax {l : Launch} {w : WP} {sh : List Sh} {R : Rf} {μ : Mu} {a b : Int32} (hY : LY sh R) : CM l w yJ9_max_7cf53 cJ9_max_7cf53 2 (some .int) 0 0 0 sh R [.int a, .int b] μ (some (.int (jmax a b))) sh R μ := tJ9_max_7cf53 hY 0 a b (by unfold fJ9_max_7cf53 jmax; split <;> rfl)
theorem t_jmin {l : Launch} {w : WP} {sh : List Sh} {R : Rf} {μ : Mu} {a b : Int32} (hY : LY sh R) : CM l w yJ9_min_7cf53 cJ9_min_7cf53 2 (some .int) 0 0 0 sh R [.int a, .int b] μ (some (.int (jmin a b))) sh R μ := tJ9_min_7cf53 hY 0 a b (by unfold fJ9_min_7cf53 jmin; split <;> rfl)
theorem t_lmax {l : Launch} {w : WP} {sh : List Sh} {R : Rf} {μ : Mu} {a b : Int64} (hY : LY sh R) : CM l w yJ9_max_f86c9 cJ9_max_f86c9 4 (some .long) 0 0 0 sh R [.long a, .long b] μ (some (.long (lmax a b))) sh R μ := tJ9_max_f86c9 hY 0 a b (by unfold fJ9_max_f86c9 lmax; split <;> rfl)
theorem t_lmin {l : Launch} {w : WP} {sh : List Sh} {R : Rf} {μ : Mu} {a b : Int64} (hY : LY sh R) : CM l w yJ9_min_f86c9 cJ9_min_f86c9 4 (some .long) 0 0 0 sh R [.long a, .long b] μ (some (.long (lmin a b))) sh R μ := tJ9_min_f86c9 hY 0 a b (by unfold fJ9_min_f86c9 lmin; split <;> rfl)
theorem t_fmod {l : Launch} {w : WP} {sh : List Sh} {R : Rf} {μ : Mu} {a b : Int32} (hY : LY sh R) (hb : ¬ b = 0) : CM l w yJ9_floorMod_7cf53 cJ9_floorMod_7cf53 3 (some .int) 0 0 0 sh R [.int a, .int b] μ (some (.int (fmod a b))) sh R μ := tJ9_floorMod_7cf53 hY 0 a b (by unfold fJ9_floorMod_7cf53 fmod gd; rw [if_pos (decide_eq_true hb)]; split <;> (try split) <;> rfl)
theorem t_bitc {l : Launch} {w : WP} {sh : List Sh} {R : Rf} {μ : Mu} {a : Int32} (hY : LY sh R) : CM l w yJ6_bitCount_0f7a4 cJ6_bitCount_0f7a4 1 (some .int) 0 0 0 sh R [.int a] μ (some (.int (bitc a))) sh R μ := tJ6_bitCount_0f7a4 hY 0 a rfl
