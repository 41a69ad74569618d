def fX12_fault (n : Nat) (x1 : Int32) (μ : Mu) : Option (Int32 × Mu) := if x1 = 0 then (some (rI (wI μ 139 0 0) 139 13, wI μ 139 0 0)) else (if x1 = 1 then (some (rI (wI μ 139 0 0) 139 14, wI μ 139 0 0)) else (some ((-1), wI μ 139 0 0)))
set_option maxRecDepth 100000 in
set_option maxHeartbeats 4000000 in
theorem tX12_fault {l : Launch} {w : WP} {sh : List Sh} {R : Rf} {μ : Mu} {r : Int32} {μ' : Mu} (hY : LY sh R) (n : Nat) (x1 : Int32)  (h : fX12_fault n x1 μ = some (r, μ')) : CM l w yX12_fault cX12_fault 2 (some .int) 0 0 0 sh R [.ref (wb w + 139), .int x1] μ (some (.int r)) sh R μ' := by
  refine CM.of (plainFor_of_name pf_X12) (Nat.le_of_ble_eq_true rfl) fun Z C hr _ hR hw hl hE => ?_
  subst hw; subst hl
  have C : CX Z cX12_fault 2 RX12 := C
  show Wm Z (0, 0, sh, R) μ 0 [(0, .ref (wb (zw Z) + 139)), (1, .int x1)] []
  unfold fX12_fault at h
  refine r_aload_n C dX12_fault_0 0 rfl ?_
  refine r_iconst C dX12_fault_1 ic_0 ?_
  refine r_putI C fiX12_1 dX12_fault_2 (ly139 hY) ?_
  refine r_iload_n C dX12_fault_5 1 rfl ?_
  refine r_if_ne 16 C dX12_fault_6 (by decide) (fun c1 => ?_) (fun c1 => ?_)
  · have h := (ite_inv h).2 c1
    refine r_iload_n C dX12_fault_16 1 rfl ?_
    refine r_iconst C dX12_fault_17 ic_1 ?_
    refine r_icmp_ne 28 C dX12_fault_18 (by decide) (fun c2 => ?_) (fun c2 => ?_)
    · have h := (ite_inv h).2 c2
      refine r_iconst C dX12_fault_28 ic_m1 ?_
      obtain ⟨h1, h2⟩ := Prod.mk.inj (Option.some.inj h)
      subst h1; subst h2
      exact r_iret C dX12_fault_29 hr hE
    · have h := (ite_inv h).1 c2
      refine r_aload_n C dX12_fault_21 0 rfl ?_
      refine r_getI C flX12_27 dX12_fault_22 (ly139 hY) rfl ?_
      refine r_goto 29 C dX12_fault_25 (by decide) ?_
      obtain ⟨h1, h2⟩ := Prod.mk.inj (Option.some.inj h)
      subst h1; subst h2
      exact r_iret C dX12_fault_29 hr hE
  · have h := (ite_inv h).1 c1
    refine r_aload_n C dX12_fault_9 0 rfl ?_
    refine r_getI C flX12_193 dX12_fault_10 (ly139 hY) rfl ?_
    refine r_goto 29 C dX12_fault_13 (by decide) ?_
    obtain ⟨h1, h2⟩ := Prod.mk.inj (Option.some.inj h)
    subst h1; subst h2
    exact r_iret C dX12_fault_29 hr hE
def fX12_isBeach (n : Nat) (y1 : Int64) (μ : Mu) : Option (Int32) := bnd (fX12_within n y1 0 (((rI μ 140 1) - 1).toInt64) μ) fun u2 => gd (isb u2) (some u2)
set_option maxRecDepth 100000 in
set_option maxHeartbeats 4000000 in
theorem tX12_isBeach {l : Launch} {w : WP} {sh : List Sh} {R : Rf} {μ : Mu} {r : Int32} (hY : LY sh R) (n : Nat) (y1 : Int64)  (h : fX12_isBeach n y1 μ = some r) : CM l w yX12_isBeach cX12_isBeach 3 (some .boolean) 1 0 0 sh R [.ref (wb w + 139), .long y1] μ (some (.int r)) sh R μ := by
  refine CM.of (plainFor_of_name pf_X12) (Nat.le_of_ble_eq_true rfl) fun Z C hr _ hR hw hl hE => ?_
  subst hw; subst hl
  have C : CX Z cX12_isBeach 3 RX12 := C
  show Wm Z (0, 0, sh, R) μ 0 [(0, .ref (wb (zw Z) + 139)), (1, .long y1)] []
  unfold fX12_isBeach at h
  refine r_lload_n C dX12_isBeach_0 1 rfl ?_
  refine r_lconst C dX12_isBeach_1 lc_0 ?_
  refine r_aload_n C dX12_isBeach_2 0 rfl ?_
  refine r_getR C flX12_13 dX12_isBeach_3 (ly139 hY) rfl (lr139_1 hY) ?_
  refine r_iconst C dX12_isBeach_6 ic_1 ?_
  refine r_iald C dX12_isBeach_7 (ly140 hY) (by decide) ?_
  refine r_iconst C dX12_isBeach_8 ic_1 ?_
  refine r_isub C dX12_isBeach_9 ?_
  refine r_i2l C dX12_isBeach_10 ?_
  obtain ⟨u2, e1, h⟩ := bnd_inv h
  refine r_cSi (As := [.long y1, .long 0, .long (((rI μ 140 1) - 1).toInt64)]) (rest := []) C hR mlX12_130 dX12_isBeach_11 (tX12_within hY n y1 0 (((rI μ 140 1) - 1).toInt64)  e1) rfl rfl (nle rfl) (nle rfl) (nle rfl) ?_
  obtain ⟨b3, h⟩ := gd_inv h
  have h := Option.some.inj h
  subst h
  exact r_zret C dX12_isBeach_14 hr (isb_n b3) hE
def fX12_isCurrent (n : Nat) (y1 : Int64) (μ : Mu) : Option (Int32) := bnd (fX12_within n y1 0 (((rI μ 140 2) - 1).toInt64) μ) fun u2 => gd (isb u2) (some u2)
set_option maxRecDepth 100000 in
set_option maxHeartbeats 4000000 in
theorem tX12_isCurrent {l : Launch} {w : WP} {sh : List Sh} {R : Rf} {μ : Mu} {r : Int32} (hY : LY sh R) (n : Nat) (y1 : Int64)  (h : fX12_isCurrent n y1 μ = some r) : CM l w yX12_isCurrent cX12_isCurrent 3 (some .boolean) 1 0 0 sh R [.ref (wb w + 139), .long y1] μ (some (.int r)) sh R μ := by
  refine CM.of (plainFor_of_name pf_X12) (Nat.le_of_ble_eq_true rfl) fun Z C hr _ hR hw hl hE => ?_
  subst hw; subst hl
  have C : CX Z cX12_isCurrent 3 RX12 := C
  show Wm Z (0, 0, sh, R) μ 0 [(0, .ref (wb (zw Z) + 139)), (1, .long y1)] []
  unfold fX12_isCurrent at h
  refine r_lload_n C dX12_isCurrent_0 1 rfl ?_
  refine r_lconst C dX12_isCurrent_1 lc_0 ?_
  refine r_aload_n C dX12_isCurrent_2 0 rfl ?_
  refine r_getR C flX12_13 dX12_isCurrent_3 (ly139 hY) rfl (lr139_1 hY) ?_
  refine r_iconst C dX12_isCurrent_6 ic_2 ?_
  refine r_iald C dX12_isCurrent_7 (ly140 hY) (by decide) ?_
  refine r_iconst C dX12_isCurrent_8 ic_1 ?_
  refine r_isub C dX12_isCurrent_9 ?_
  refine r_i2l C dX12_isCurrent_10 ?_
  obtain ⟨u2, e1, h⟩ := bnd_inv h
  refine r_cSi (As := [.long y1, .long 0, .long (((rI μ 140 2) - 1).toInt64)]) (rest := []) C hR mlX12_130 dX12_isCurrent_11 (tX12_within hY n y1 0 (((rI μ 140 2) - 1).toInt64)  e1) rfl rfl (nle rfl) (nle rfl) (nle rfl) ?_
  obtain ⟨b3, h⟩ := gd_inv h
  have h := Option.some.inj h
  subst h
  exact r_zret C dX12_isCurrent_14 hr (isb_n b3) hE
def fX12_isPerson (n : Nat) (y1 : Int64) (μ : Mu) : Option (Int32) := bnd (fX12_within n y1 0 (((rI μ 140 3) - 1).toInt64) μ) fun u2 => gd (isb u2) (some u2)
set_option maxRecDepth 100000 in
set_option maxHeartbeats 4000000 in
theorem tX12_isPerson {l : Launch} {w : WP} {sh : List Sh} {R : Rf} {μ : Mu} {r : Int32} (hY : LY sh R) (n : Nat) (y1 : Int64)  (h : fX12_isPerson n y1 μ = some r) : CM l w yX12_isPerson cX12_isPerson 3 (some .boolean) 1 0 0 sh R [.ref (wb w + 139), .long y1] μ (some (.int r)) sh R μ := by
  refine CM.of (plainFor_of_name pf_X12) (Nat.le_of_ble_eq_true rfl) fun Z C hr _ hR hw hl hE => ?_
  subst hw; subst hl
  have C : CX Z cX12_isPerson 3 RX12 := C
  show Wm Z (0, 0, sh, R) μ 0 [(0, .ref (wb (zw Z) + 139)), (1, .long y1)] []
  unfold fX12_isPerson at h
  refine r_lload_n C dX12_isPerson_0 1 rfl ?_
  refine r_lconst C dX12_isPerson_1 lc_0 ?_
  refine r_aload_n C dX12_isPerson_2 0 rfl ?_
  refine r_getR C flX12_13 dX12_isPerson_3 (ly139 hY) rfl (lr139_1 hY) ?_
  refine r_iconst C dX12_isPerson_6 ic_3 ?_
  refine r_iald C dX12_isPerson_7 (ly140 hY) (by decide) ?_
  refine r_iconst C dX12_isPerson_8 ic_1 ?_
  refine r_isub C dX12_isPerson_9 ?_
  refine r_i2l C dX12_isPerson_10 ?_
  obtain ⟨u2, e1, h⟩ := bnd_inv h
  refine r_cSi (As := [.long y1, .long 0, .long (((rI μ 140 3) - 1).toInt64)]) (rest := []) C hR mlX12_130 dX12_isPerson_11 (tX12_within hY n y1 0 (((rI μ 140 3) - 1).toInt64)  e1) rfl rfl (nle rfl) (nle rfl) (nle rfl) ?_
  obtain ⟨b3, h⟩ := gd_inv h
  have h := Option.some.inj h
  subst h
  exact r_zret C dX12_isPerson_14 hr (isb_n b3) hE
def fX12_isShell (n : Nat) (y1 : Int64) (μ : Mu) : Option (Int32) := bnd (fX12_within n y1 0 (((rI μ 140 4) - 1).toInt64) μ) fun u2 => gd (isb u2) (some u2)
set_option maxRecDepth 100000 in
set_option maxHeartbeats 4000000 in
theorem tX12_isShell {l : Launch} {w : WP} {sh : List Sh} {R : Rf} {μ : Mu} {r : Int32} (hY : LY sh R) (n : Nat) (y1 : Int64)  (h : fX12_isShell n y1 μ = some r) : CM l w yX12_isShell cX12_isShell 3 (some .boolean) 1 0 0 sh R [.ref (wb w + 139), .long y1] μ (some (.int r)) sh R μ := by
  refine CM.of (plainFor_of_name pf_X12) (Nat.le_of_ble_eq_true rfl) fun Z C hr _ hR hw hl hE => ?_
  subst hw; subst hl
  have C : CX Z cX12_isShell 3 RX12 := C
  show Wm Z (0, 0, sh, R) μ 0 [(0, .ref (wb (zw Z) + 139)), (1, .long y1)] []
  unfold fX12_isShell at h
  refine r_lload_n C dX12_isShell_0 1 rfl ?_
  refine r_lconst C dX12_isShell_1 lc_0 ?_
  refine r_aload_n C dX12_isShell_2 0 rfl ?_
  refine r_getR C flX12_13 dX12_isShell_3 (ly139 hY) rfl (lr139_1 hY) ?_
  refine r_iconst C dX12_isShell_6 ic_4 ?_
  refine r_iald C dX12_isShell_7 (ly140 hY) (by decide) ?_
  refine r_iconst C dX12_isShell_8 ic_1 ?_
  refine r_isub C dX12_isShell_9 ?_
  refine r_i2l C dX12_isShell_10 ?_
  obtain ⟨u2, e1, h⟩ := bnd_inv h
  refine r_cSi (As := [.long y1, .long 0, .long (((rI μ 140 4) - 1).toInt64)]) (rest := []) C hR mlX12_130 dX12_isShell_11 (tX12_within hY n y1 0 (((rI μ 140 4) - 1).toInt64)  e1) rfl rfl (nle rfl) (nle rfl) (nle rfl) ?_
  obtain ⟨b3, h⟩ := gd_inv h
  have h := Option.some.inj h
  subst h
  exact r_zret C dX12_isShell_14 hr (isb_n b3) hE
def fX12_isWord (n : Nat) (y1 : Int64) (μ : Mu) : Option (Int32) := bnd (fX12_within n y1 0 (((rI μ 140 67) - 1).toInt64) μ) fun u2 => gd (isb u2) (some u2)
set_option maxRecDepth 100000 in
set_option maxHeartbeats 4000000 in
theorem tX12_isWord {l : Launch} {w : WP} {sh : List Sh} {R : Rf} {μ : Mu} {r : Int32} (hY : LY sh R) (n : Nat) (y1 : Int64)  (h : fX12_isWord n y1 μ = some r) : CM l w yX12_isWord cX12_isWord 3 (some .boolean) 1 0 0 sh R [.ref (wb w + 139), .long y1] μ (some (.int r)) sh R μ := by
  refine CM.of (plainFor_of_name pf_X12) (Nat.le_of_ble_eq_true rfl) fun Z C hr _ hR hw hl hE => ?_
  subst hw; subst hl
  have C : CX Z cX12_isWord 3 RX12 := C
  show Wm Z (0, 0, sh, R) μ 0 [(0, .ref (wb (zw Z) + 139)), (1, .long y1)] []
  unfold fX12_isWord at h
  refine r_lload_n C dX12_isWord_0 1 rfl ?_
  refine r_lconst C dX12_isWord_1 lc_0 ?_
  refine r_aload_n C dX12_isWord_2 0 rfl ?_
  refine r_getR C flX12_13 dX12_isWord_3 (ly139 hY) rfl (lr139_1 hY) ?_
  refine r_bipush C dX12_isWord_6 bp_67 ?_
  refine r_iald C dX12_isWord_8 (ly140 hY) (by decide) ?_
  refine r_iconst C dX12_isWord_9 ic_1 ?_
  refine r_isub C dX12_isWord_10 ?_
  refine r_i2l C dX12_isWord_11 ?_
  obtain ⟨u2, e1, h⟩ := bnd_inv h
  refine r_cSi (As := [.long y1, .long 0, .long (((rI μ 140 67) - 1).toInt64)]) (rest := []) C hR mlX12_130 dX12_isWord_12 (tX12_within hY n y1 0 (((rI μ 140 67) - 1).toInt64)  e1) rfl rfl (nle rfl) (nle rfl) (nle rfl) ?_
  obtain ⟨b3, h⟩ := gd_inv h
  have h := Option.some.inj h
  subst h
  exact r_zret C dX12_isWord_15 hr (isb_n b3) hE
def sX12_bitsOf_4 (n : Nat) (x0 : Int32) (μ : Mu) : Int32 × Int32 → Option ((Int32 × Int32) ⊕ (Int32)) := fun q => match q with | (x1, x2) => if 10 ≤ x2 then (some (.inr x1)) else (some (.inl (x1 + ((shr x0 x2) &&& 1), x2 + 1)))
set_option maxRecDepth 100000 in
set_option maxHeartbeats 4000000 in
theorem lX12_bitsOf_4 {Z : ZC} {sh : List Sh} {R : Rf} {o : (Int32 × Int32) ⊕ (Int32)} (C : CX Z cX12_bitsOf 3 RX12) (hR : zR Z = rm 0 0 0) (hY : LY sh R) (n : Nat) (x0 : Int32) (μ : Mu) (x1 : Int32) (x2 : Int32) (h : sX12_bitsOf_4 n x0 μ (x1, x2) = some o) (kin : ∀ (x1 : Int32) (x2 : Int32), o = .inl (x1, x2) → Wm Z (0, 0, sh, R) μ 4 [(0, .int x0), (1, .int x1), (2, .int x2)] []) (kex0 : ∀ (x1 : Int32), o = .inr x1 → Wm Z (0, 0, sh, R) μ 24 [(1, .int x1)] []) : Wm Z (0, 0, sh, R) μ 4 [(0, .int x0), (1, .int x1), (2, .int x2)] [] := by
  unfold sX12_bitsOf_4 at h
  refine r_iload_n C dX12_bitsOf_4 2 rfl ?_
  refine r_bipush C dX12_bitsOf_5 bp_10 ?_
  refine r_icmp_ge 24 C dX12_bitsOf_7 (by decide) (fun c1 => ?_) (fun c1 => ?_)
  · have h := (ite_inv h).1 c1
    refine r_sub [(1, .int x1)] [1] rfl ?_
    exact kex0 x1 (Option.some.inj h).symm
  · have h := (ite_inv h).2 c1
    refine r_iload_n C dX12_bitsOf_10 1 rfl ?_
    refine r_iload_n C dX12_bitsOf_11 0 rfl ?_
    refine r_iload_n C dX12_bitsOf_12 2 rfl ?_
    refine r_ishr C dX12_bitsOf_13 ?_
    refine r_iconst C dX12_bitsOf_14 ic_1 ?_
    refine r_iand C dX12_bitsOf_15 ?_
    refine r_iadd C dX12_bitsOf_16 ?_
    refine r_istore_n [(1, .int (x1 + ((shr x0 x2) &&& 1))), (0, .int x0), (2, .int x2)] C dX12_bitsOf_17 rfl (by decide) rfl ?_
    refine r_iinc [(2, .int (x2 + 1)), (1, .int (x1 + ((shr x0 x2) &&& 1))), (0, .int x0)] C dX12_bitsOf_18 2 rfl (in_1 _) (by decide) rfl ?_
    refine r_goto 4 C dX12_bitsOf_21 (by decide) ?_
    refine r_sub [(0, .int x0), (1, .int (x1 + ((shr x0 x2) &&& 1))), (2, .int (x2 + 1))] [2, 1, 0] rfl ?_
    exact kin (x1 + ((shr x0 x2) &&& 1)) (x2 + 1) (Option.some.inj h).symm
def fX12_bitsOf (n : Nat) (x0 : Int32) (μ : Mu) : Option (Int32) := bnd (lp n (sX12_bitsOf_4 n x0 μ) (0, 0)) fun q => match q with | u2 => some u2
set_option maxRecDepth 100000 in
set_option maxHeartbeats 4000000 in
theorem tX12_bitsOf {l : Launch} {w : WP} {sh : List Sh} {R : Rf} {μ : Mu} {r : Int32} (hY : LY sh R) (n : Nat) (x0 : Int32)  (h : fX12_bitsOf n x0 μ = some r) : CM l w yX12_bitsOf cX12_bitsOf 3 (some .int) 0 0 0 sh R [.int x0] μ (some (.int r)) sh R μ := by
  refine CM.of (plainFor_of_name pf_X12) (Nat.le_of_ble_eq_true rfl) fun Z C hr _ hR hw hl hE => ?_
  subst hw; subst hl
  have C : CX Z cX12_bitsOf 3 RX12 := C
  show Wm Z (0, 0, sh, R) μ 0 [(0, .int x0)] []
  unfold fX12_bitsOf at h
  refine r_iconst C dX12_bitsOf_0 ic_0 ?_
  refine r_istore_n [(1, .int 0), (0, .int x0)] C dX12_bitsOf_1 rfl (by decide) rfl ?_
  refine r_iconst C dX12_bitsOf_2 ic_0 ?_
  refine r_istore_n [(2, .int 0), (1, .int 0), (0, .int x0)] C dX12_bitsOf_3 rfl (by decide) rfl ?_
  refine r_sub [(0, .int x0), (1, .int 0), (2, .int 0)] [2, 1, 0] rfl ?_
  obtain ⟨u2, e3, h⟩ := bnd_inv h
  refine lp_all (sX12_bitsOf_4 n x0 μ) (fun q => match q with | (z1, z2) => Wm Z (0, 0, sh, R) μ 4 [(0, .int x0), (1, .int z1), (2, .int z2)] []) (fun q => match q with | z1 => Wm Z (0, 0, sh, R) μ 24 [(1, .int z1)] []) (fun q o h kin kex => ?_) n (0, 0) u2 e3 ?_
  · obtain ⟨z1, z2⟩ := q; exact lX12_bitsOf_4 C hR hY n   x0 μ z1 z2 h (fun z1 z2 e => kin (z1, z2) e) (fun z1 e => kex z1 e)
  show Wm Z (0, 0, sh, R) μ 24 [(1, .int u2)] []
  refine r_iload_n C dX12_bitsOf_24 0 rfl ?_
  have h := Option.some.inj h
  subst h
  exact r_iret C dX12_bitsOf_25 hr hE
def fX12_between (n : Nat) (x0 : Int32) (x1 : Int32) (x2 : Int32) (μ : Mu) : Option (Int32) := if x0 = 3003 then (if x1 = x2 then (some 1) else (some 0)) else (if x0 = 3004 then (if x2 ≤ x1 then (some 0) else (some 1)) else (if x0 = 3005 then (if x1 ≤ x2 then (some 0) else (some 1)) else (if x0 = 3007 then (some (x1 &&& x2)) else (if x0 = 3008 then (some (x1 ||| x2)) else (some ((if (lg_cmp (if x0 = 3000 then ((x1.toInt64) + (x2.toInt64)) else (if x0 = 3001 then ((x1.toInt64) - (x2.toInt64)) else ((x1.toInt64) * (x2.toInt64)))) 1000000) ≤ 0 then (if 0 ≤ (lg_cmp (if x0 = 3000 then ((x1.toInt64) + (x2.toInt64)) else (if x0 = 3001 then ((x1.toInt64) - (x2.toInt64)) else ((x1.toInt64) * (x2.toInt64)))) (-1000000)) then (if x0 = 3000 then ((x1.toInt64) + (x2.toInt64)) else (if x0 = 3001 then ((x1.toInt64) - (x2.toInt64)) else ((x1.toInt64) * (x2.toInt64)))) else (-1000000)) else 1000000).toInt32))))))
set_option maxRecDepth 100000 in
set_option maxHeartbeats 4000000 in
theorem tX12_between {l : Launch} {w : WP} {sh : List Sh} {R : Rf} {μ : Mu} {r : Int32} (hY : LY sh R) (n : Nat) (x0 : Int32) (x1 : Int32) (x2 : Int32)  (h : fX12_between n x0 x1 x2 μ = some r) : CM l w yX12_between cX12_between 5 (some .int) 0 0 0 sh R [.int x0, .int x1, .int x2] μ (some (.int r)) sh R μ := by
  refine CM.of (plainFor_of_name pf_X12) (Nat.le_of_ble_eq_true rfl) fun Z C hr _ hR hw hl hE => ?_
  subst hw; subst hl
  have C : CX Z cX12_between 5 RX12 := C
  show Wm Z (0, 0, sh, R) μ 0 [(0, .int x0), (1, .int x1), (2, .int x2)] []
  unfold fX12_between at h
  refine r_iload_n C dX12_between_0 0 rfl ?_
  by_cases c1 : x0 = 3003
  · have h := (ite_inv h).1 c1
    refine r_tabIn 40 C dX12_between_1 (by rw [c1, ti_3003]; decide) (by rw [c1, ti_3003]; decide) (by rw [c1, ti_3003]; rfl) (by decide) ?_
    refine r_iload_n C dX12_between_40 1 rfl ?_
    refine r_iload_n C dX12_between_41 2 rfl ?_
    refine r_icmp_ne 49 C dX12_between_42 (by decide) (fun c2 => ?_) (fun c2 => ?_)
    · have h := (ite_inv h).2 c2
      refine r_iconst C dX12_between_49 ic_0 ?_
      have h := Option.some.inj h
      subst h
      exact r_iret C dX12_between_50 hr hE
    · have h := (ite_inv h).1 c2
      refine r_iconst C dX12_between_45 ic_1 ?_
      refine r_goto 50 C dX12_between_46 (by decide) ?_
      have h := Option.some.inj h
      subst h
      exact r_iret C dX12_between_50 hr hE
  have h := (ite_inv h).2 c1
  by_cases c3 : x0 = 3004
  · have h := (ite_inv h).1 c3
    refine r_tabIn 51 C dX12_between_1 (by rw [c3, ti_3004]; decide) (by rw [c3, ti_3004]; decide) (by rw [c3, ti_3004]; rfl) (by decide) ?_
    refine r_iload_n C dX12_between_51 1 rfl ?_
    refine r_iload_n C dX12_between_52 2 rfl ?_
    refine r_icmp_ge 60 C dX12_between_53 (by decide) (fun c4 => ?_) (fun c4 => ?_)
    · have h := (ite_inv h).1 c4
      refine r_iconst C dX12_between_60 ic_0 ?_
      have h := Option.some.inj h
      subst h
      exact r_iret C dX12_between_61 hr hE
    · have h := (ite_inv h).2 c4
      refine r_iconst C dX12_between_56 ic_1 ?_
      refine r_goto 61 C dX12_between_57 (by decide) ?_
      have h := Option.some.inj h
      subst h
      exact r_iret C dX12_between_61 hr hE
  have h := (ite_inv h).2 c3
  by_cases c5 : x0 = 3005
  · have h := (ite_inv h).1 c5
    refine r_tabIn 62 C dX12_between_1 (by rw [c5, ti_3005]; decide) (by rw [c5, ti_3005]; decide) (by rw [c5, ti_3005]; rfl) (by decide) ?_
    refine r_iload_n C dX12_between_62 1 rfl ?_
    refine r_iload_n C dX12_between_63 2 rfl ?_
    refine r_icmp_le 71 C dX12_between_64 (by decide) (fun c6 => ?_) (fun c6 => ?_)
    · have h := (ite_inv h).1 c6
      refine r_iconst C dX12_between_71 ic_0 ?_
      have h := Option.some.inj h
      subst h
      exact r_iret C dX12_between_72 hr hE
    · have h := (ite_inv h).2 c6
      refine r_iconst C dX12_between_67 ic_1 ?_
      refine r_goto 72 C dX12_between_68 (by decide) ?_
      have h := Option.some.inj h
      subst h
      exact r_iret C dX12_between_72 hr hE
  have h := (ite_inv h).2 c5
  by_cases c7 : x0 = 3007
  · have h := (ite_inv h).1 c7
    refine r_tabIn 73 C dX12_between_1 (by rw [c7, ti_3007]; decide) (by rw [c7, ti_3007]; decide) (by rw [c7, ti_3007]; rfl) (by decide) ?_
    refine r_iload_n C dX12_between_73 1 rfl ?_
    refine r_iload_n C dX12_between_74 2 rfl ?_
    refine r_iand C dX12_between_75 ?_
    have h := Option.some.inj h
    subst h
    exact r_iret C dX12_between_76 hr hE
  have h := (ite_inv h).2 c7
  by_cases c8 : x0 = 3008
  · have h := (ite_inv h).1 c8
    refine r_tabIn 77 C dX12_between_1 (by rw [c8, ti_3008]; decide) (by rw [c8, ti_3008]; decide) (by rw [c8, ti_3008]; rfl) (by decide) ?_
    refine r_iload_n C dX12_between_77 1 rfl ?_
    refine r_iload_n C dX12_between_78 2 rfl ?_
    refine r_ior C dX12_between_79 ?_
    have h := Option.some.inj h
    subst h
    exact r_iret C dX12_between_80 hr hE
  have h := (ite_inv h).2 c8
  suffices hj : Wm Z (0, 0, sh, R) μ 81 [(0, .int x0), (1, .int x1), (2, .int x2)] [] by
    by_cases c9 : x0 = 3006
    · exact r_tabIn 81 C dX12_between_1 (by rw [c9, ti_3006]; decide) (by rw [c9, ti_3006]; decide) (by rw [c9, ti_3006]; rfl) (by decide) hj
    have q0 := tne c1 ti_3003
    have q1 := tne c3 ti_3004
    have q2 := tne c5 ti_3005
    have q3 := tne c7 ti_3007
    have q4 := tne c8 ti_3008
    have q5 := tne c9 ti_3006
    exact r_tabOut 81 C dX12_between_1 (by omega) (by decide) hj
  refine r_iload_n C dX12_between_81 0 rfl ?_
  refine r_sipush C dX12_between_82 sp_3000 ?_
  suffices hj : Wm Z (0, 0, sh, R) μ 116 [(0, .int x0), (1, .int x1), (2, .int x2)] [.long (if x0 = 3000 then ((x1.toInt64) + (x2.toInt64)) else (if x0 = 3001 then ((x1.toInt64) - (x2.toInt64)) else ((x1.toInt64) * (x2.toInt64))))] by
    refine r_icmp_ne 96 C dX12_between_85 (by decide) (fun c10 => ?_) (fun c10 => ?_)
    · refine r_iload_n C dX12_between_96 0 rfl ?_
      refine r_sipush C dX12_between_97 sp_3001 ?_
      refine r_icmp_ne 111 C dX12_between_100 (by decide) (fun c11 => ?_) (fun c11 => ?_)
      · refine r_iload_n C dX12_between_111 1 rfl ?_
        refine r_i2l C dX12_between_112 ?_
        refine r_iload_n C dX12_between_113 2 rfl ?_
        refine r_i2l C dX12_between_114 ?_
        refine r_lmul C dX12_between_115 ?_
        exact lel_f c11 (lel_f c10 hj)
      · refine r_iload_n C dX12_between_103 1 rfl ?_
        refine r_i2l C dX12_between_104 ?_
        refine r_iload_n C dX12_between_105 2 rfl ?_
        refine r_i2l C dX12_between_106 ?_
        refine r_lsub C dX12_between_107 ?_
        refine r_goto 116 C dX12_between_108 (by decide) ?_
        exact lel_t c11 (lel_f c10 hj)
    · refine r_iload_n C dX12_between_88 1 rfl ?_
      refine r_i2l C dX12_between_89 ?_
      refine r_iload_n C dX12_between_90 2 rfl ?_
      refine r_i2l C dX12_between_91 ?_
      refine r_ladd C dX12_between_92 ?_
      refine r_goto 116 C dX12_between_93 (by decide) ?_
      exact lel_t c10 hj
  refine r_lstore_n [(3, .long (if x0 = 3000 then ((x1.toInt64) + (x2.toInt64)) else (if x0 = 3001 then ((x1.toInt64) - (x2.toInt64)) else ((x1.toInt64) * (x2.toInt64))))), (0, .int x0), (1, .int x1), (2, .int x2)] C dX12_between_116 rfl (by decide) rfl ?_
  refine r_lload_n C dX12_between_117 0 rfl ?_
  refine r_ldc2 C dX12_between_118 klX12_196 ?_
  refine r_lcmp C dX12_between_121 ?_
  suffices hj : Wm Z (0, 0, sh, R) μ 146 [(3, .long (if x0 = 3000 then ((x1.toInt64) + (x2.toInt64)) else (if x0 = 3001 then ((x1.toInt64) - (x2.toInt64)) else ((x1.toInt64) * (x2.toInt64))))), (0, .int x0), (1, .int x1), (2, .int x2)] [.long (if (lg_cmp (if x0 = 3000 then ((x1.toInt64) + (x2.toInt64)) else (if x0 = 3001 then ((x1.toInt64) - (x2.toInt64)) else ((x1.toInt64) * (x2.toInt64)))) 1000000) ≤ 0 then (if 0 ≤ (lg_cmp (if x0 = 3000 then ((x1.toInt64) + (x2.toInt64)) else (if x0 = 3001 then ((x1.toInt64) - (x2.toInt64)) else ((x1.toInt64) * (x2.toInt64)))) (-1000000)) then (if x0 = 3000 then ((x1.toInt64) + (x2.toInt64)) else (if x0 = 3001 then ((x1.toInt64) - (x2.toInt64)) else ((x1.toInt64) * (x2.toInt64)))) else (-1000000)) else 1000000)] by
    refine r_if_le 131 C dX12_between_122 (by decide) (fun c12 => ?_) (fun c12 => ?_)
    · refine r_lload_n C dX12_between_131 0 rfl ?_
      refine r_ldc2 C dX12_between_132 klX12_198 ?_
      refine r_lcmp C dX12_between_135 ?_
      refine r_if_ge 145 C dX12_between_136 (by decide) (fun c13 => ?_) (fun c13 => ?_)
      · refine r_lload_n C dX12_between_145 0 rfl ?_
        exact lel_t c13 (lel_t c12 hj)
      · refine r_ldc2 C dX12_between_139 klX12_198 ?_
        refine r_goto 146 C dX12_between_142 (by decide) ?_
        exact lel_f c13 (lel_t c12 hj)
    · refine r_ldc2 C dX12_between_125 klX12_196 ?_
      refine r_goto 146 C dX12_between_128 (by decide) ?_
      exact lel_f c12 hj
  refine r_l2i C dX12_between_146 ?_
  have h := Option.some.inj h
  subst h
  exact r_iret C dX12_between_147 hr hE
def jX12_reckons_98 (n : Nat) (x1 : Int32) (x4 : Int32) (x5 : Int32) (s0 : Int32) (s1 : Int32) (μ : Mu) : Option ((Int32 × Int32 × Mu) ⊕ (Mu)) := gd (ib s1 900) (some (.inl (x4 + 1, x5 + 1, wI μ 144 (ix s1) s0)))
set_option maxRecDepth 100000 in
set_option maxHeartbeats 4000000 in
theorem kX12_reckons_98 {Z : ZC} {sh : List Sh} {R : Rf} {o : (Int32 × Int32 × Mu) ⊕ (Mu)} (C : CX Z cX12_reckons 7 RX12) (hR : zR Z = rm 1 0 0) (hY : LY sh R) (n : Nat) (x1 : Int32) (x4 : Int32) (x5 : Int32) (s0 : Int32) (s1 : Int32) (μ : Mu) (h : jX12_reckons_98 n x1 x4 x5 s0 s1 μ = some o) (kin : ∀ (x4 : Int32) (x5 : Int32) (μ : Mu), o = .inl (x4, x5, μ) → Wm Z (0, 0, sh, R) μ 23 [(0, .ref (wb (zw Z) + 139)), (1, .int x1), (4, .int x4), (5, .int x5)] []) (kex0 : ∀ (μ : Mu), o = .inr μ → Wm Z (0, 0, sh, R) μ 175 [(0, .ref (wb (zw Z) + 139))] []) : Wm Z (0, 0, sh, R) μ 98 [(0, .ref (wb (zw Z) + 139)), (1, .int x1), (4, .int x4), (5, .int x5)] [.int s0, .int s1, .ref (wb (zw Z) + 144)] := by
  unfold jX12_reckons_98 at h
  obtain ⟨b16, h⟩ := gd_inv h
  refine r_iast C dX12_reckons_98 (ly144 hY) b16 ?_
  refine r_iinc [(4, .int (x4 + 1)), (0, .ref (wb (zw Z) + 139)), (1, .int x1), (5, .int x5)] C dX12_reckons_99 2 rfl (in_1 _) (by decide) rfl ?_
  refine r_goto 169 C dX12_reckons_102 (by decide) ?_
  refine r_iinc [(5, .int (x5 + 1)), (4, .int (x4 + 1)), (0, .ref (wb (zw Z) + 139)), (1, .int x1)] C dX12_reckons_169 3 rfl (in_1 _) (by decide) rfl ?_
  refine r_goto 23 C dX12_reckons_172 (by decide) ?_
  refine r_sub [(0, .ref (wb (zw Z) + 139)), (1, .int x1), (4, .int (x4 + 1)), (5, .int (x5 + 1))] [2, 3, 1, 0] rfl ?_
  exact kin (x4 + 1) (x5 + 1) (wI μ 144 (ix s1) s0) (Option.some.inj h).symm
def sX12_reckons_23 (n : Nat) (x1 : Int32) : Int32 × Int32 × Mu → Option ((Int32 × Int32 × Mu) ⊕ (Mu)) := fun q => match q with | (x4, x5, μ) => gd (ib (11 + x1) 6726) (if (rI μ 140 (ix (11 + x1))) ≤ x5 then (some (.inr μ)) else (gd (ib (8 + x1) 6726) (gd (ib ((1342 + (rI μ 140 (ix (8 + x1)))) + x5) 6726) (if 3000 ≤ (rI μ 140 (ix ((1342 + (rI μ 140 (ix (8 + x1)))) + x5))) then (if (rI μ 140 (ix ((1342 + (rI μ 140 (ix (8 + x1)))) + x5))) = 3006 then (gd (ib (x4 - 1) 900) (gd (ib (x4 - 1) 900) (some (.inl (x4, x5 + 1, wI μ 144 (ix (x4 - 1)) (1 - (rI μ 144 (ix (x4 - 1))))))))) else (gd (ib ((x4 + (-1)) - 1) 900) (gd (ib (x4 + (-1)) 900) (bnd (fX12_between n (rI μ 140 (ix ((1342 + (rI μ 140 (ix (8 + x1)))) + x5))) (rI μ 144 (ix ((x4 + (-1)) - 1))) (rI μ 144 (ix (x4 + (-1)))) μ) fun u10 => gd (ib ((x4 + (-1)) - 1) 900) (some (.inl (x4 + (-1), x5 + 1, wI μ 144 (ix ((x4 + (-1)) - 1)) u10))))))) else (if 1000 ≤ (rI μ 140 (ix ((1342 + (rI μ 140 (ix (8 + x1)))) + x5))) then (gd (ib ((rI μ 140 (ix ((1342 + (rI μ 140 (ix (8 + x1)))) + x5))) - 1000) 9) (jX12_reckons_98 n x1 x4 x5 (rI μ 145 (ix ((rI μ 140 (ix ((1342 + (rI μ 140 (ix (8 + x1)))) + x5))) - 1000))) x4 μ)) else (jX12_reckons_98 n x1 x4 x5 (rI μ 140 (ix ((1342 + (rI μ 140 (ix (8 + x1)))) + x5))) x4 μ))))))
set_option maxRecDepth 100000 in
set_option maxHeartbeats 4000000 in
theorem lX12_reckons_23 {Z : ZC} {sh : List Sh} {R : Rf} {o : (Int32 × Int32 × Mu) ⊕ (Mu)} (C : CX Z cX12_reckons 7 RX12) (hR : zR Z = rm 1 0 0) (hY : LY sh R) (n : Nat) (x1 : Int32) (x4 : Int32) (x5 : Int32) (μ : Mu) (h : sX12_reckons_23 n x1 (x4, x5, μ) = some o) (kin : ∀ (x4 : Int32) (x5 : Int32) (μ : Mu), o = .inl (x4, x5, μ) → Wm Z (0, 0, sh, R) μ 23 [(0, .ref (wb (zw Z) + 139)), (1, .int x1), (4, .int x4), (5, .int x5)] []) (kex0 : ∀ (μ : Mu), o = .inr μ → Wm Z (0, 0, sh, R) μ 175 [(0, .ref (wb (zw Z) + 139))] []) : Wm Z (0, 0, sh, R) μ 23 [(0, .ref (wb (zw Z) + 139)), (1, .int x1), (4, .int x4), (5, .int x5)] [] := by
  unfold sX12_reckons_23 at h
  refine r_iload C dX12_reckons_23 3 rfl ?_
  refine r_aload_n C dX12_reckons_25 0 rfl ?_
  refine r_getR C flX12_13 dX12_reckons_26 (ly139 hY) rfl (lr139_1 hY) ?_
  refine r_bipush C dX12_reckons_29 bp_11 ?_
  refine r_iload_n C dX12_reckons_31 1 rfl ?_
  refine r_iadd C dX12_reckons_32 ?_
  obtain ⟨b1, h⟩ := gd_inv h
  refine r_iald C dX12_reckons_33 (ly140 hY) b1 ?_
  refine r_icmp_ge 175 C dX12_reckons_34 (by decide) (fun c2 => ?_) (fun c2 => ?_)
  · have h := (ite_inv h).1 c2
    refine r_sub [(0, .ref (wb (zw Z) + 139))] [0] rfl ?_
    exact kex0 μ (Option.some.inj h).symm
  · have h := (ite_inv h).2 c2
    refine r_aload_n C dX12_reckons_37 0 rfl ?_
    refine r_getR C flX12_13 dX12_reckons_38 (ly139 hY) rfl (lr139_1 hY) ?_
    refine r_sipush C dX12_reckons_41 sp_1342 ?_
    refine r_aload_n C dX12_reckons_44 0 rfl ?_
    refine r_getR C flX12_13 dX12_reckons_45 (ly139 hY) rfl (lr139_1 hY) ?_
    refine r_bipush C dX12_reckons_48 bp_8 ?_
    refine r_iload_n C dX12_reckons_50 1 rfl ?_
    refine r_iadd C dX12_reckons_51 ?_
    obtain ⟨b3, h⟩ := gd_inv h
    refine r_iald C dX12_reckons_52 (ly140 hY) b3 ?_
    refine r_iadd C dX12_reckons_53 ?_
    refine r_iload C dX12_reckons_54 3 rfl ?_
    refine r_iadd C dX12_reckons_56 ?_
    obtain ⟨b4, h⟩ := gd_inv h
    refine r_iald C dX12_reckons_57 (ly140 hY) b4 ?_
    refine r_istore [(6, .int (rI μ 140 (ix ((1342 + (rI μ 140 (ix (8 + x1)))) + x5)))), (0, .ref (wb (zw Z) + 139)), (1, .int x1), (4, .int x4), (5, .int x5)] C dX12_reckons_58 (by decide) rfl ?_
    refine r_iload C dX12_reckons_60 0 rfl ?_
    refine r_sipush C dX12_reckons_62 sp_3000 ?_
    refine r_icmp_ge 105 C dX12_reckons_65 (by decide) (fun c5 => ?_) (fun c5 => ?_)
    · have h := (ite_inv h).1 c5
      refine r_iload C dX12_reckons_105 0 rfl ?_
      refine r_sipush C dX12_reckons_107 sp_3006 ?_
      refine r_icmp_ne 136 C dX12_reckons_110 (by decide) (fun c6 => ?_) (fun c6 => ?_)
      · have h := (ite_inv h).2 c6
        refine r_iinc [(4, .int (x4 + (-1))), (6, .int (rI μ 140 (ix ((1342 + (rI μ 140 (ix (8 + x1)))) + x5)))), (0, .ref (wb (zw Z) + 139)), (1, .int x1), (5, .int x5)] C dX12_reckons_136 3 rfl (in_m1 _) (by decide) rfl ?_
        refine r_aload_n C dX12_reckons_139 2 rfl ?_
        refine r_getR C flX12_30 dX12_reckons_140 (ly139 hY) rfl (lr139_16 hY) ?_
        refine r_iload C dX12_reckons_143 0 rfl ?_
        refine r_iconst C dX12_reckons_145 ic_1 ?_
        refine r_isub C dX12_reckons_146 ?_
        refine r_iload C dX12_reckons_147 1 rfl ?_
        refine r_aload_n C dX12_reckons_149 2 rfl ?_
        refine r_getR C flX12_30 dX12_reckons_150 (ly139 hY) rfl (lr139_16 hY) ?_
        refine r_iload C dX12_reckons_153 0 rfl ?_
        refine r_iconst C dX12_reckons_155 ic_1 ?_
        refine r_isub C dX12_reckons_156 ?_
        obtain ⟨b7, h⟩ := gd_inv h
        refine r_iald C dX12_reckons_157 (ly144 hY) b7 ?_
        refine r_aload_n C dX12_reckons_158 2 rfl ?_
        refine r_getR C flX12_30 dX12_reckons_159 (ly139 hY) rfl (lr139_16 hY) ?_
        refine r_iload C dX12_reckons_162 0 rfl ?_
        obtain ⟨b8, h⟩ := gd_inv h
        refine r_iald C dX12_reckons_164 (ly144 hY) b8 ?_
        obtain ⟨u10, e9, h⟩ := bnd_inv h
        refine r_cSi (As := [.int (rI μ 140 (ix ((1342 + (rI μ 140 (ix (8 + x1)))) + x5))), .int (rI μ 144 (ix ((x4 + (-1)) - 1))), .int (rI μ 144 (ix (x4 + (-1))))]) (rest := [.int ((x4 + (-1)) - 1), .ref (wb (zw Z) + 144)]) C hR mlX12_200 dX12_reckons_165 (tX12_between hY n (rI μ 140 (ix ((1342 + (rI μ 140 (ix (8 + x1)))) + x5))) (rI μ 144 (ix ((x4 + (-1)) - 1))) (rI μ 144 (ix (x4 + (-1))))  e9) rfl rfl (nle rfl) (nle rfl) (nle rfl) ?_
        obtain ⟨b11, h⟩ := gd_inv h
        refine r_iast C dX12_reckons_168 (ly144 hY) b11 ?_
        refine r_iinc [(5, .int (x5 + 1)), (4, .int (x4 + (-1))), (6, .int (rI μ 140 (ix ((1342 + (rI μ 140 (ix (8 + x1)))) + x5)))), (0, .ref (wb (zw Z) + 139)), (1, .int x1)] C dX12_reckons_169 4 rfl (in_1 _) (by decide) rfl ?_
        refine r_goto 23 C dX12_reckons_172 (by decide) ?_
        refine r_sub [(0, .ref (wb (zw Z) + 139)), (1, .int x1), (4, .int (x4 + (-1))), (5, .int (x5 + 1))] [3, 4, 1, 0] rfl ?_
        exact kin (x4 + (-1)) (x5 + 1) (wI μ 144 (ix ((x4 + (-1)) - 1)) u10) (Option.some.inj h).symm
      · have h := (ite_inv h).1 c6
        refine r_aload_n C dX12_reckons_113 1 rfl ?_
        refine r_getR C flX12_30 dX12_reckons_114 (ly139 hY) rfl (lr139_16 hY) ?_
        refine r_iload C dX12_reckons_117 3 rfl ?_
        refine r_iconst C dX12_reckons_119 ic_1 ?_
        refine r_isub C dX12_reckons_120 ?_
        refine r_iconst C dX12_reckons_121 ic_1 ?_
        refine r_aload_n C dX12_reckons_122 1 rfl ?_
        refine r_getR C flX12_30 dX12_reckons_123 (ly139 hY) rfl (lr139_16 hY) ?_
        refine r_iload C dX12_reckons_126 3 rfl ?_
        refine r_iconst C dX12_reckons_128 ic_1 ?_
        refine r_isub C dX12_reckons_129 ?_
        obtain ⟨b12, h⟩ := gd_inv h
        refine r_iald C dX12_reckons_130 (ly144 hY) b12 ?_
        refine r_isub C dX12_reckons_131 ?_
        obtain ⟨b13, h⟩ := gd_inv h
        refine r_iast C dX12_reckons_132 (ly144 hY) b13 ?_
        refine r_goto 169 C dX12_reckons_133 (by decide) ?_
        refine r_iinc [(5, .int (x5 + 1)), (6, .int (rI μ 140 (ix ((1342 + (rI μ 140 (ix (8 + x1)))) + x5)))), (0, .ref (wb (zw Z) + 139)), (1, .int x1), (4, .int x4)] C dX12_reckons_169 4 rfl (in_1 _) (by decide) rfl ?_
        refine r_goto 23 C dX12_reckons_172 (by decide) ?_
        refine r_sub [(0, .ref (wb (zw Z) + 139)), (1, .int x1), (4, .int x4), (5, .int (x5 + 1))] [2, 3, 4, 0] rfl ?_
        exact kin x4 (x5 + 1) (wI μ 144 (ix (x4 - 1)) (1 - (rI μ 144 (ix (x4 - 1))))) (Option.some.inj h).symm
    · have h := (ite_inv h).2 c5
      refine r_aload_n C dX12_reckons_68 1 rfl ?_
      refine r_getR C flX12_30 dX12_reckons_69 (ly139 hY) rfl (lr139_16 hY) ?_
      refine r_iload C dX12_reckons_72 3 rfl ?_
      refine r_iload C dX12_reckons_74 0 rfl ?_
      refine r_sipush C dX12_reckons_76 sp_1000 ?_
      refine r_icmp_ge 87 C dX12_reckons_79 (by decide) (fun c14 => ?_) (fun c14 => ?_)
      · have h := (ite_inv h).1 c14
        refine r_aload_n C dX12_reckons_87 1 rfl ?_
        refine r_getR C flX12_33 dX12_reckons_88 (ly139 hY) rfl (lr139_17 hY) ?_
        refine r_iload C dX12_reckons_91 0 rfl ?_
        refine r_sipush C dX12_reckons_93 sp_1000 ?_
        refine r_isub C dX12_reckons_96 ?_
        obtain ⟨b15, h⟩ := gd_inv h
        refine r_iald C dX12_reckons_97 (ly145 hY) b15 ?_
        refine r_sub [(0, .ref (wb (zw Z) + 139)), (1, .int x1), (4, .int x4), (5, .int x5)] [1, 2, 3, 4] rfl ?_
        exact kX12_reckons_98 C hR hY n   x1 x4 x5 (rI μ 145 (ix ((rI μ 140 (ix ((1342 + (rI μ 140 (ix (8 + x1)))) + x5))) - 1000))) x4 μ h kin kex0
      · have h := (ite_inv h).2 c14
        refine r_iload C dX12_reckons_82 0 rfl ?_
        refine r_goto 98 C dX12_reckons_84 (by decide) ?_
        refine r_sub [(0, .ref (wb (zw Z) + 139)), (1, .int x1), (4, .int x4), (5, .int x5)] [1, 2, 3, 4] rfl ?_
        exact kX12_reckons_98 C hR hY n   x1 x4 x5 (rI μ 140 (ix ((1342 + (rI μ 140 (ix (8 + x1)))) + x5))) x4 μ h kin kex0
def fX12_reckons (n : Nat) (x1 : Int32) (x2 : Int32) (x3 : Int32) (μ : Mu) : Option (Int32 × Mu) := bnd (lp n (sX12_reckons_23 n x1) (0, 0, wI (wI μ 145 0 (jrem x2 24)) 145 1 x3)) fun q => match q with | m17 => some (rI m17 144 0, m17)
set_option maxRecDepth 100000 in
set_option maxHeartbeats 4000000 in
theorem tX12_reckons {l : Launch} {w : WP} {sh : List Sh} {R : Rf} {μ : Mu} {r : Int32} {μ' : Mu} (hY : LY sh R) (n : Nat) (x1 : Int32) (x2 : Int32) (x3 : Int32)  (h : fX12_reckons n x1 x2 x3 μ = some (r, μ')) : CM l w yX12_reckons cX12_reckons 7 (some .int) 1 0 0 sh R [.ref (wb w + 139), .int x1, .int x2, .int x3] μ (some (.int r)) sh R μ' := by
  refine CM.of (plainFor_of_name pf_X12) (Nat.le_of_ble_eq_true rfl) fun Z C hr _ hR hw hl hE => ?_
  subst hw; subst hl
  have C : CX Z cX12_reckons 7 RX12 := C
  show Wm Z (0, 0, sh, R) μ 0 [(0, .ref (wb (zw Z) + 139)), (1, .int x1), (2, .int x2), (3, .int x3)] []
  unfold fX12_reckons at h
  refine r_aload_n C dX12_reckons_0 0 rfl ?_
  refine r_getR C flX12_33 dX12_reckons_1 (ly139 hY) rfl (lr139_17 hY) ?_
  refine r_iconst C dX12_reckons_4 ic_0 ?_
  refine r_iload_n C dX12_reckons_5 2 rfl ?_
  refine r_bipush C dX12_reckons_6 bp_24 ?_
  refine r_irem C dX12_reckons_8 (by decide) ?_
  refine r_iast C dX12_reckons_9 (ly145 hY) (by decide) ?_
  refine r_aload_n C dX12_reckons_10 0 rfl ?_
  refine r_getR C flX12_33 dX12_reckons_11 (ly139 hY) rfl (lr139_17 hY) ?_
  refine r_iconst C dX12_reckons_14 ic_1 ?_
  refine r_iload_n C dX12_reckons_15 3 rfl ?_
  refine r_iast C dX12_reckons_16 (ly145 hY) (by decide) ?_
  refine r_iconst C dX12_reckons_17 ic_0 ?_
  refine r_istore [(4, .int 0), (0, .ref (wb (zw Z) + 139)), (1, .int x1), (2, .int x2), (3, .int x3)] C dX12_reckons_18 (by decide) rfl ?_
  refine r_iconst C dX12_reckons_20 ic_0 ?_
  refine r_istore [(5, .int 0), (4, .int 0), (0, .ref (wb (zw Z) + 139)), (1, .int x1), (2, .int x2), (3, .int x3)] C dX12_reckons_21 (by decide) rfl ?_
  refine r_sub [(0, .ref (wb (zw Z) + 139)), (1, .int x1), (4, .int 0), (5, .int 0)] [2, 3, 1, 0] rfl ?_
  obtain ⟨m17, e18, h⟩ := bnd_inv h
  refine lp_all (sX12_reckons_23 n x1) (fun q => match q with | (z4, z5, ν) => Wm Z (0, 0, sh, R) (ν) 23 [(0, .ref (wb (zw Z) + 139)), (1, .int x1), (4, .int z4), (5, .int z5)] []) (fun q => match q with | ν => Wm Z (0, 0, sh, R) (ν) 175 [(0, .ref (wb (zw Z) + 139))] []) (fun q o h kin kex => ?_) n (0, 0, wI (wI μ 145 0 (jrem x2 24)) 145 1 x3) m17 e18 ?_
  · obtain ⟨z4, z5, ν⟩ := q; exact lX12_reckons_23 C hR hY n   x1 z4 z5 ν h (fun z4 z5 ν e => kin (z4, z5, ν) e) (fun ν e => kex (ν) e)
  show Wm Z (0, 0, sh, R) m17 175 [(0, .ref (wb (zw Z) + 139))] []
  refine r_aload_n C dX12_reckons_175 0 rfl ?_
  refine r_getR C flX12_30 dX12_reckons_176 (ly139 hY) rfl (lr139_16 hY) ?_
  refine r_iconst C dX12_reckons_179 ic_0 ?_
  refine r_iald C dX12_reckons_180 (ly144 hY) (by decide) ?_
  obtain ⟨h1, h2⟩ := Prod.mk.inj (Option.some.inj h)
  subst h1; subst h2
  exact r_iret C dX12_reckons_181 hr hE
def fX12_galeIn (n : Nat) (x1 : Int32) (μ : Mu) : Option (Int32) := if (rI μ 140 65) ≤ x1 then (some 0) else (some 1)
set_option maxRecDepth 100000 in
set_option maxHeartbeats 4000000 in
theorem tX12_galeIn {l : Launch} {w : WP} {sh : List Sh} {R : Rf} {μ : Mu} {r : Int32} (hY : LY sh R) (n : Nat) (x1 : Int32)  (h : fX12_galeIn n x1 μ = some r) : CM l w yX12_galeIn cX12_galeIn 2 (some .int) 0 0 0 sh R [.ref (wb w + 139), .int x1] μ (some (.int r)) sh R μ := by
  refine CM.of (plainFor_of_name pf_X12) (Nat.le_of_ble_eq_true rfl) fun Z C hr _ hR hw hl hE => ?_
  subst hw; subst hl
  have C : CX Z cX12_galeIn 2 RX12 := C
  show Wm Z (0, 0, sh, R) μ 0 [(0, .ref (wb (zw Z) + 139)), (1, .int x1)] []
  unfold fX12_galeIn at h
  refine r_iload_n C dX12_galeIn_0 1 rfl ?_
  refine r_aload_n C dX12_galeIn_1 0 rfl ?_
  refine r_getR C flX12_13 dX12_galeIn_2 (ly139 hY) rfl (lr139_1 hY) ?_
  refine r_bipush C dX12_galeIn_5 bp_65 ?_
  refine r_iald C dX12_galeIn_7 (ly140 hY) (by decide) ?_
  refine r_icmp_ge 15 C dX12_galeIn_8 (by decide) (fun c1 => ?_) (fun c1 => ?_)
  · have h := (ite_inv h).1 c1
    refine r_iconst C dX12_galeIn_15 ic_0 ?_
    have h := Option.some.inj h
    subst h
    exact r_iret C dX12_galeIn_16 hr hE
  · have h := (ite_inv h).2 c1
    refine r_iconst C dX12_galeIn_11 ic_1 ?_
    refine r_goto 16 C dX12_galeIn_12 (by decide) ?_
    have h := Option.some.inj h
    subst h
    exact r_iret C dX12_galeIn_16 hr hE
def fX12_soundIn (n : Nat) (x1 : Int32) (x2 : Int32) (μ : Mu) : Option (Int32 × Mu) := if (rI μ 140 5) = 0 then (bnd (fX12_galeIn n x2 μ) fun u10 => some ((10 * x1) + u10, μ)) else (bnd (fX12_galeIn n x2 (wI μ 145 2 x1)) fun u3 => bnd2 (fX12_reckons n 0 ((rI (wI μ 145 2 x1) 140 64) + x2) u3 (wI μ 145 2 x1)) fun u5 m6 => if 0 ≤ u5 then (if u5 ≤ 99 then (some (u5, m6)) else (some (99, m6))) else (some (0, m6)))
set_option maxRecDepth 100000 in
set_option maxHeartbeats 4000000 in
theorem tX12_soundIn {l : Launch} {w : WP} {sh : List Sh} {R : Rf} {μ : Mu} {r : Int32} {μ' : Mu} (hY : LY sh R) (n : Nat) (x1 : Int32) (x2 : Int32)  (h : fX12_soundIn n x1 x2 μ = some (r, μ')) : CM l w yX12_soundIn cX12_soundIn 4 (some .int) 2 0 0 sh R [.ref (wb w + 139), .int x1, .int x2] μ (some (.int r)) sh R μ' := by
  refine CM.of (plainFor_of_name pf_X12) (Nat.le_of_ble_eq_true rfl) fun Z C hr _ hR hw hl hE => ?_
  subst hw; subst hl
  have C : CX Z cX12_soundIn 4 RX12 := C
  show Wm Z (0, 0, sh, R) μ 0 [(0, .ref (wb (zw Z) + 139)), (1, .int x1), (2, .int x2)] []
  unfold fX12_soundIn at h
  refine r_aload_n C dX12_soundIn_0 0 rfl ?_
  refine r_getR C flX12_13 dX12_soundIn_1 (ly139 hY) rfl (lr139_1 hY) ?_
  refine r_iconst C dX12_soundIn_4 ic_5 ?_
  refine r_iald C dX12_soundIn_5 (ly140 hY) (by decide) ?_
  refine r_if_ne 20 C dX12_soundIn_6 (by decide) (fun c1 => ?_) (fun c1 => ?_)
  · have h := (ite_inv h).2 c1
    refine r_aload_n C dX12_soundIn_20 0 rfl ?_
    refine r_getR C flX12_33 dX12_soundIn_21 (ly139 hY) rfl (lr139_17 hY) ?_
    refine r_iconst C dX12_soundIn_24 ic_2 ?_
    refine r_iload_n C dX12_soundIn_25 1 rfl ?_
    refine r_iast C dX12_soundIn_26 (ly145 hY) (by decide) ?_
    refine r_aload_n C dX12_soundIn_27 0 rfl ?_
    refine r_iconst C dX12_soundIn_28 ic_0 ?_
    refine r_aload_n C dX12_soundIn_29 0 rfl ?_
    refine r_getR C flX12_13 dX12_soundIn_30 (ly139 hY) rfl (lr139_1 hY) ?_
    refine r_bipush C dX12_soundIn_33 bp_64 ?_
    refine r_iald C dX12_soundIn_35 (ly140 hY) (by decide) ?_
    refine r_iload_n C dX12_soundIn_36 2 rfl ?_
    refine r_iadd C dX12_soundIn_37 ?_
    refine r_aload_n C dX12_soundIn_38 0 rfl ?_
    refine r_iload_n C dX12_soundIn_39 2 rfl ?_
    obtain ⟨u3, e2, h⟩ := bnd_inv h
    refine r_cVi (As := [.int x2]) (rest := [.int ((rI (wI μ 145 2 x1) 140 64) + x2), .int 0, .ref (wb (zw Z) + 139)]) C hR mlX12_204 dX12_soundIn_40 (tX12_galeIn hY n x2  e2) rfl rfl (ly139 hY) rfl (nle rfl) (nle rfl) (nle rfl) ?_
    obtain ⟨u5, m6, e4, h⟩ := bnd2_inv h
    refine r_cVi (As := [.int 0, .int ((rI (wI μ 145 2 x1) 140 64) + x2), .int u3]) (rest := []) C hR mlX12_207 dX12_soundIn_43 (tX12_reckons hY n 0 ((rI (wI μ 145 2 x1) 140 64) + x2) u3  e4) rfl rfl (ly139 hY) rfl (nle rfl) (nle rfl) (nle rfl) ?_
    refine r_istore_n [(3, .int u5), (0, .ref (wb (zw Z) + 139)), (1, .int x1), (2, .int x2)] C dX12_soundIn_46 rfl (by decide) rfl ?_
    refine r_iload_n C dX12_soundIn_47 0 rfl ?_
    refine r_if_ge 55 C dX12_soundIn_48 (by decide) (fun c7 => ?_) (fun c7 => ?_)
    · have h := (ite_inv h).1 c7
      refine r_iload_n C dX12_soundIn_55 0 rfl ?_
      refine r_bipush C dX12_soundIn_56 bp_99 ?_
      refine r_icmp_le 66 C dX12_soundIn_58 (by decide) (fun c8 => ?_) (fun c8 => ?_)
      · have h := (ite_inv h).1 c8
        refine r_iload_n C dX12_soundIn_66 0 rfl ?_
        obtain ⟨h1, h2⟩ := Prod.mk.inj (Option.some.inj h)
        subst h1; subst h2
        exact r_iret C dX12_soundIn_67 hr hE
      · have h := (ite_inv h).2 c8
        refine r_bipush C dX12_soundIn_61 bp_99 ?_
        refine r_goto 67 C dX12_soundIn_63 (by decide) ?_
        obtain ⟨h1, h2⟩ := Prod.mk.inj (Option.some.inj h)
        subst h1; subst h2
        exact r_iret C dX12_soundIn_67 hr hE
    · have h := (ite_inv h).2 c7
      refine r_iconst C dX12_soundIn_51 ic_0 ?_
      refine r_goto 67 C dX12_soundIn_52 (by decide) ?_
      obtain ⟨h1, h2⟩ := Prod.mk.inj (Option.some.inj h)
      subst h1; subst h2
      exact r_iret C dX12_soundIn_67 hr hE
  · have h := (ite_inv h).1 c1
    refine r_bipush C dX12_soundIn_9 bp_10 ?_
    refine r_iload_n C dX12_soundIn_11 1 rfl ?_
    refine r_imul C dX12_soundIn_12 ?_
    refine r_aload_n C dX12_soundIn_13 0 rfl ?_
    refine r_iload_n C dX12_soundIn_14 2 rfl ?_
    obtain ⟨u10, e9, h⟩ := bnd_inv h
    refine r_cVi (As := [.int x2]) (rest := [.int (10 * x1)]) C hR mlX12_204 dX12_soundIn_15 (tX12_galeIn hY n x2  e9) rfl rfl (ly139 hY) rfl (nle rfl) (nle rfl) (nle rfl) ?_
    refine r_iadd C dX12_soundIn_18 ?_
    obtain ⟨h1, h2⟩ := Prod.mk.inj (Option.some.inj h)
    subst h1; subst h2
    exact r_iret C dX12_soundIn_19 hr hE
def fX12_isOpen (n : Nat) (x1 : Int32) (μ : Mu) : Option (Int32 × Mu) := if (rI μ 140 6) = 0 then (bnd (fX12_galeIn n 0 μ) fun u12 => if u12 = 0 then (some (1, μ)) else (some (0, μ))) else (gd (ib (14 + x1) 6726) (gd (ib (24 + x1) 6726) (gd (ib (34 + x1) 6726) (bnd (fX12_galeIn n 0 (wI (wI (wI μ 145 3 (rI μ 140 (ix (14 + x1)))) 145 4 (rI (wI μ 145 3 (rI μ 140 (ix (14 + x1)))) 140 (ix (24 + x1)))) 145 5 (rI (wI (wI μ 145 3 (rI μ 140 (ix (14 + x1)))) 145 4 (rI (wI μ 145 3 (rI μ 140 (ix (14 + x1)))) 140 (ix (24 + x1)))) 140 (ix (34 + x1))))) fun u6 => bnd2 (fX12_reckons n 1 (rI (wI (wI (wI μ 145 3 (rI μ 140 (ix (14 + x1)))) 145 4 (rI (wI μ 145 3 (rI μ 140 (ix (14 + x1)))) 140 (ix (24 + x1)))) 145 5 (rI (wI (wI μ 145 3 (rI μ 140 (ix (14 + x1)))) 145 4 (rI (wI μ 145 3 (rI μ 140 (ix (14 + x1)))) 140 (ix (24 + x1)))) 140 (ix (34 + x1)))) 140 64) u6 (wI (wI (wI μ 145 3 (rI μ 140 (ix (14 + x1)))) 145 4 (rI (wI μ 145 3 (rI μ 140 (ix (14 + x1)))) 140 (ix (24 + x1)))) 145 5 (rI (wI (wI μ 145 3 (rI μ 140 (ix (14 + x1)))) 145 4 (rI (wI μ 145 3 (rI μ 140 (ix (14 + x1)))) 140 (ix (24 + x1)))) 140 (ix (34 + x1))))) fun u8 m9 => if u8 = 1 then (some (1, m9)) else (some (0, m9))))))
set_option maxRecDepth 100000 in
set_option maxHeartbeats 4000000 in
theorem tX12_isOpen {l : Launch} {w : WP} {sh : List Sh} {R : Rf} {μ : Mu} {r : Int32} {μ' : Mu} (hY : LY sh R) (n : Nat) (x1 : Int32)  (h : fX12_isOpen n x1 μ = some (r, μ')) : CM l w yX12_isOpen cX12_isOpen 2 (some .boolean) 2 0 0 sh R [.ref (wb w + 139), .int x1] μ (some (.int r)) sh R μ' := by
  refine CM.of (plainFor_of_name pf_X12) (Nat.le_of_ble_eq_true rfl) fun Z C hr _ hR hw hl hE => ?_
  subst hw; subst hl
  have C : CX Z cX12_isOpen 2 RX12 := C
  show Wm Z (0, 0, sh, R) μ 0 [(0, .ref (wb (zw Z) + 139)), (1, .int x1)] []
  unfold fX12_isOpen at h
  refine r_aload_n C dX12_isOpen_0 0 rfl ?_
  refine r_getR C flX12_13 dX12_isOpen_1 (ly139 hY) rfl (lr139_1 hY) ?_
  refine r_bipush C dX12_isOpen_4 bp_6 ?_
  refine r_iald C dX12_isOpen_6 (ly140 hY) (by decide) ?_
  refine r_if_ne 24 C dX12_isOpen_7 (by decide) (fun c1 => ?_) (fun c1 => ?_)
  · have h := (ite_inv h).2 c1
    refine r_aload_n C dX12_isOpen_24 0 rfl ?_
    refine r_getR C flX12_33 dX12_isOpen_25 (ly139 hY) rfl (lr139_17 hY) ?_
    refine r_iconst C dX12_isOpen_28 ic_3 ?_
    refine r_aload_n C dX12_isOpen_29 0 rfl ?_
    refine r_getR C flX12_13 dX12_isOpen_30 (ly139 hY) rfl (lr139_1 hY) ?_
    refine r_bipush C dX12_isOpen_33 bp_14 ?_
    refine r_iload_n C dX12_isOpen_35 1 rfl ?_
    refine r_iadd C dX12_isOpen_36 ?_
    obtain ⟨b2, h⟩ := gd_inv h
    refine r_iald C dX12_isOpen_37 (ly140 hY) b2 ?_
    refine r_iast C dX12_isOpen_38 (ly145 hY) (by decide) ?_
    refine r_aload_n C dX12_isOpen_39 0 rfl ?_
    refine r_getR C flX12_33 dX12_isOpen_40 (ly139 hY) rfl (lr139_17 hY) ?_
    refine r_iconst C dX12_isOpen_43 ic_4 ?_
    refine r_aload_n C dX12_isOpen_44 0 rfl ?_
    refine r_getR C flX12_13 dX12_isOpen_45 (ly139 hY) rfl (lr139_1 hY) ?_
    refine r_bipush C dX12_isOpen_48 bp_24 ?_
    refine r_iload_n C dX12_isOpen_50 1 rfl ?_
    refine r_iadd C dX12_isOpen_51 ?_
    obtain ⟨b3, h⟩ := gd_inv h
    refine r_iald C dX12_isOpen_52 (ly140 hY) b3 ?_
    refine r_iast C dX12_isOpen_53 (ly145 hY) (by decide) ?_
    refine r_aload_n C dX12_isOpen_54 0 rfl ?_
    refine r_getR C flX12_33 dX12_isOpen_55 (ly139 hY) rfl (lr139_17 hY) ?_
    refine r_iconst C dX12_isOpen_58 ic_5 ?_
    refine r_aload_n C dX12_isOpen_59 0 rfl ?_
    refine r_getR C flX12_13 dX12_isOpen_60 (ly139 hY) rfl (lr139_1 hY) ?_
    refine r_bipush C dX12_isOpen_63 bp_34 ?_
    refine r_iload_n C dX12_isOpen_65 1 rfl ?_
    refine r_iadd C dX12_isOpen_66 ?_
    obtain ⟨b4, h⟩ := gd_inv h
    refine r_iald C dX12_isOpen_67 (ly140 hY) b4 ?_
    refine r_iast C dX12_isOpen_68 (ly145 hY) (by decide) ?_
    refine r_aload_n C dX12_isOpen_69 0 rfl ?_
    refine r_iconst C dX12_isOpen_70 ic_1 ?_
    refine r_aload_n C dX12_isOpen_71 0 rfl ?_
    refine r_getR C flX12_13 dX12_isOpen_72 (ly139 hY) rfl (lr139_1 hY) ?_
    refine r_bipush C dX12_isOpen_75 bp_64 ?_
    refine r_iald C dX12_isOpen_77 (ly140 hY) (by decide) ?_
    refine r_aload_n C dX12_isOpen_78 0 rfl ?_
    refine r_iconst C dX12_isOpen_79 ic_0 ?_
    obtain ⟨u6, e5, h⟩ := bnd_inv h
    refine r_cVi (As := [.int 0]) (rest := [.int (rI (wI (wI (wI μ 145 3 (rI μ 140 (ix (14 + x1)))) 145 4 (rI (wI μ 145 3 (rI μ 140 (ix (14 + x1)))) 140 (ix (24 + x1)))) 145 5 (rI (wI (wI μ 145 3 (rI μ 140 (ix (14 + x1)))) 145 4 (rI (wI μ 145 3 (rI μ 140 (ix (14 + x1)))) 140 (ix (24 + x1)))) 140 (ix (34 + x1)))) 140 64), .int 1, .ref (wb (zw Z) + 139)]) C hR mlX12_204 dX12_isOpen_80 (tX12_galeIn hY n 0  e5) rfl rfl (ly139 hY) rfl (nle rfl) (nle rfl) (nle rfl) ?_
    obtain ⟨u8, m9, e7, h⟩ := bnd2_inv h
    refine r_cVi (As := [.int 1, .int (rI (wI (wI (wI μ 145 3 (rI μ 140 (ix (14 + x1)))) 145 4 (rI (wI μ 145 3 (rI μ 140 (ix (14 + x1)))) 140 (ix (24 + x1)))) 145 5 (rI (wI (wI μ 145 3 (rI μ 140 (ix (14 + x1)))) 145 4 (rI (wI μ 145 3 (rI μ 140 (ix (14 + x1)))) 140 (ix (24 + x1)))) 140 (ix (34 + x1)))) 140 64), .int u6]) (rest := []) C hR mlX12_207 dX12_isOpen_83 (tX12_reckons hY n 1 (rI (wI (wI (wI μ 145 3 (rI μ 140 (ix (14 + x1)))) 145 4 (rI (wI μ 145 3 (rI μ 140 (ix (14 + x1)))) 140 (ix (24 + x1)))) 145 5 (rI (wI (wI μ 145 3 (rI μ 140 (ix (14 + x1)))) 145 4 (rI (wI μ 145 3 (rI μ 140 (ix (14 + x1)))) 140 (ix (24 + x1)))) 140 (ix (34 + x1)))) 140 64) u6  e7) rfl rfl (ly139 hY) rfl (nle rfl) (nle rfl) (nle rfl) ?_
    refine r_iconst C dX12_isOpen_86 ic_1 ?_
    refine r_icmp_ne 94 C dX12_isOpen_87 (by decide) (fun c10 => ?_) (fun c10 => ?_)
    · have h := (ite_inv h).2 c10
      refine r_iconst C dX12_isOpen_94 ic_0 ?_
      obtain ⟨h1, h2⟩ := Prod.mk.inj (Option.some.inj h)
      subst h1; subst h2
      exact r_zret C dX12_isOpen_95 hr rfl hE
    · have h := (ite_inv h).1 c10
      refine r_iconst C dX12_isOpen_90 ic_1 ?_
      refine r_goto 95 C dX12_isOpen_91 (by decide) ?_
      obtain ⟨h1, h2⟩ := Prod.mk.inj (Option.some.inj h)
      subst h1; subst h2
      exact r_zret C dX12_isOpen_95 hr rfl hE
  · have h := (ite_inv h).1 c1
    refine r_aload_n C dX12_isOpen_10 0 rfl ?_
    refine r_iconst C dX12_isOpen_11 ic_0 ?_
    obtain ⟨u12, e11, h⟩ := bnd_inv h
    refine r_cVi (As := [.int 0]) (rest := []) C hR mlX12_204 dX12_isOpen_12 (tX12_galeIn hY n 0  e11) rfl rfl (ly139 hY) rfl (nle rfl) (nle rfl) (nle rfl) ?_
    refine r_if_ne 22 C dX12_isOpen_15 (by decide) (fun c13 => ?_) (fun c13 => ?_)
    · have h := (ite_inv h).2 c13
      refine r_iconst C dX12_isOpen_22 ic_0 ?_
      obtain ⟨h1, h2⟩ := Prod.mk.inj (Option.some.inj h)
      subst h1; subst h2
      exact r_zret C dX12_isOpen_23 hr rfl hE
    · have h := (ite_inv h).1 c13
      refine r_iconst C dX12_isOpen_18 ic_1 ?_
      refine r_goto 23 C dX12_isOpen_19 (by decide) ?_
      obtain ⟨h1, h2⟩ := Prod.mk.inj (Option.some.inj h)
      subst h1; subst h2
      exact r_zret C dX12_isOpen_23 hr rfl hE
def sX12_heardMany_4 (n : Nat) (x1 : Int32) (μ : Mu) : Int32 × Int32 → Option ((Int32 × Int32) ⊕ (Int32)) := fun q => match q with | (x2, x3) => if (rI μ 140 67) ≤ x3 then (some (.inr x2)) else (gd (ib (92 + x3) 6726) (some (.inl (x2 + ((shr (rI μ 140 (ix (92 + x3))) x1) &&& 1), x3 + 1))))
set_option maxRecDepth 100000 in
set_option maxHeartbeats 4000000 in
theorem lX12_heardMany_4 {Z : ZC} {sh : List Sh} {R : Rf} {o : (Int32 × Int32) ⊕ (Int32)} (C : CX Z cX12_heardMany 4 RX12) (hR : zR Z = rm 0 0 0) (hY : LY sh R) (n : Nat) (x1 : Int32) (μ : Mu) (x2 : Int32) (x3 : Int32) (h : sX12_heardMany_4 n x1 μ (x2, x3) = some o) (kin : ∀ (x2 : Int32) (x3 : Int32), o = .inl (x2, x3) → Wm Z (0, 0, sh, R) μ 4 [(0, .ref (wb (zw Z) + 139)), (1, .int x1), (2, .int x2), (3, .int x3)] []) (kex0 : ∀ (x2 : Int32), o = .inr x2 → Wm Z (0, 0, sh, R) μ 37 [(2, .int x2)] []) : Wm Z (0, 0, sh, R) μ 4 [(0, .ref (wb (zw Z) + 139)), (1, .int x1), (2, .int x2), (3, .int x3)] [] := by
  unfold sX12_heardMany_4 at h
  refine r_iload_n C dX12_heardMany_4 3 rfl ?_
  refine r_aload_n C dX12_heardMany_5 0 rfl ?_
  refine r_getR C flX12_13 dX12_heardMany_6 (ly139 hY) rfl (lr139_1 hY) ?_
  refine r_bipush C dX12_heardMany_9 bp_67 ?_
  refine r_iald C dX12_heardMany_11 (ly140 hY) (by decide) ?_
  refine r_icmp_ge 37 C dX12_heardMany_12 (by decide) (fun c1 => ?_) (fun c1 => ?_)
  · have h := (ite_inv h).1 c1
    refine r_sub [(2, .int x2)] [2] rfl ?_
    exact kex0 x2 (Option.some.inj h).symm
  · have h := (ite_inv h).2 c1
    refine r_iload_n C dX12_heardMany_15 2 rfl ?_
    refine r_aload_n C dX12_heardMany_16 0 rfl ?_
    refine r_getR C flX12_13 dX12_heardMany_17 (ly139 hY) rfl (lr139_1 hY) ?_
    refine r_bipush C dX12_heardMany_20 bp_92 ?_
    refine r_iload_n C dX12_heardMany_22 3 rfl ?_
    refine r_iadd C dX12_heardMany_23 ?_
    obtain ⟨b2, h⟩ := gd_inv h
    refine r_iald C dX12_heardMany_24 (ly140 hY) b2 ?_
    refine r_iload_n C dX12_heardMany_25 1 rfl ?_
    refine r_ishr C dX12_heardMany_26 ?_
    refine r_iconst C dX12_heardMany_27 ic_1 ?_
    refine r_iand C dX12_heardMany_28 ?_
    refine r_iadd C dX12_heardMany_29 ?_
    refine r_istore_n [(2, .int (x2 + ((shr (rI μ 140 (ix (92 + x3))) x1) &&& 1))), (0, .ref (wb (zw Z) + 139)), (1, .int x1), (3, .int x3)] C dX12_heardMany_30 rfl (by decide) rfl ?_
    refine r_iinc [(3, .int (x3 + 1)), (2, .int (x2 + ((shr (rI μ 140 (ix (92 + x3))) x1) &&& 1))), (0, .ref (wb (zw Z) + 139)), (1, .int x1)] C dX12_heardMany_31 3 rfl (in_1 _) (by decide) rfl ?_
    refine r_goto 4 C dX12_heardMany_34 (by decide) ?_
    refine r_sub [(0, .ref (wb (zw Z) + 139)), (1, .int x1), (2, .int (x2 + ((shr (rI μ 140 (ix (92 + x3))) x1) &&& 1))), (3, .int (x3 + 1))] [2, 3, 1, 0] rfl ?_
    exact kin (x2 + ((shr (rI μ 140 (ix (92 + x3))) x1) &&& 1)) (x3 + 1) (Option.some.inj h).symm
def fX12_heardMany (n : Nat) (x1 : Int32) (μ : Mu) : Option (Int32) := bnd (lp n (sX12_heardMany_4 n x1 μ) (0, 0)) fun q => match q with | u3 => some u3
set_option maxRecDepth 100000 in
set_option maxHeartbeats 4000000 in
theorem tX12_heardMany {l : Launch} {w : WP} {sh : List Sh} {R : Rf} {μ : Mu} {r : Int32} (hY : LY sh R) (n : Nat) (x1 : Int32)  (h : fX12_heardMany n x1 μ = some r) : CM l w yX12_heardMany cX12_heardMany 4 (some .int) 0 0 0 sh R [.ref (wb w + 139), .int x1] μ (some (.int r)) sh R μ := by
  refine CM.of (plainFor_of_name pf_X12) (Nat.le_of_ble_eq_true rfl) fun Z C hr _ hR hw hl hE => ?_
  subst hw; subst hl
  have C : CX Z cX12_heardMany 4 RX12 := C
  show Wm Z (0, 0, sh, R) μ 0 [(0, .ref (wb (zw Z) + 139)), (1, .int x1)] []
  unfold fX12_heardMany at h
  refine r_iconst C dX12_heardMany_0 ic_0 ?_
  refine r_istore_n [(2, .int 0), (0, .ref (wb (zw Z) + 139)), (1, .int x1)] C dX12_heardMany_1 rfl (by decide) rfl ?_
  refine r_iconst C dX12_heardMany_2 ic_0 ?_
  refine r_istore_n [(3, .int 0), (2, .int 0), (0, .ref (wb (zw Z) + 139)), (1, .int x1)] C dX12_heardMany_3 rfl (by decide) rfl ?_
  refine r_sub [(0, .ref (wb (zw Z) + 139)), (1, .int x1), (2, .int 0), (3, .int 0)] [2, 3, 1, 0] rfl ?_
  obtain ⟨u3, e4, h⟩ := bnd_inv h
  refine lp_all (sX12_heardMany_4 n x1 μ) (fun q => match q with | (z2, z3) => Wm Z (0, 0, sh, R) μ 4 [(0, .ref (wb (zw Z) + 139)), (1, .int x1), (2, .int z2), (3, .int z3)] []) (fun q => match q with | z2 => Wm Z (0, 0, sh, R) μ 37 [(2, .int z2)] []) (fun q o h kin kex => ?_) n (0, 0) u3 e4 ?_
  · obtain ⟨z2, z3⟩ := q; exact lX12_heardMany_4 C hR hY n   x1 μ z2 z3 h (fun z2 z3 e => kin (z2, z3) e) (fun z2 e => kex z2 e)
  show Wm Z (0, 0, sh, R) μ 37 [(2, .int u3)] []
  refine r_iload_n C dX12_heardMany_37 0 rfl ?_
  have h := Option.some.inj h
  subst h
  exact r_iret C dX12_heardMany_38 hr hE
def jX12_listens_68 (n : Nat) (x1 : Int32) (s0 : Int32) (s1 : Int32) (μ : Mu) : Option (Int32 × Mu) := gd (ib s1 9) (bnd (fX12_heardMany n x1 (wI μ 145 (ix s1) s0)) fun u9 => bnd (fX12_galeIn n 0 (wI (wI μ 145 (ix s1) s0) 145 8 u9)) fun u11 => bnd2 (fX12_reckons n 2 (rI (wI (wI μ 145 (ix s1) s0) 145 8 u9) 140 64) u11 (wI (wI μ 145 (ix s1) s0) 145 8 u9)) fun u13 m14 => if u13 = 1 then (some (1, m14)) else (some (0, m14)))
set_option maxRecDepth 100000 in
set_option maxHeartbeats 4000000 in
theorem kX12_listens_68 {Z : ZC} {sh : List Sh} {R : Rf} {r : Int32} {μ' : Mu} (C : CX Z cX12_listens 2 RX12) (hR : zR Z = rm 2 0 0) (hY : LY sh R) (n : Nat) (x1 : Int32) (s0 : Int32) (s1 : Int32) (μ : Mu) (h : jX12_listens_68 n x1 s0 s1 μ = some (r, μ')) (hr : (zme Z).sig.returnType = (some .boolean)) (hE : zEnd Z (0, 0, sh, R) μ' (some (.int r))) : Wm Z (0, 0, sh, R) μ 68 [(0, .ref (wb (zw Z) + 139)), (1, .int x1)] [.int s0, .int s1, .ref (wb (zw Z) + 145)] := by
  unfold jX12_listens_68 at h
  obtain ⟨b7, h⟩ := gd_inv h
  refine r_iast C dX12_listens_68 (ly145 hY) b7 ?_
  refine r_aload_n C dX12_listens_69 0 rfl ?_
  refine r_getR C flX12_33 dX12_listens_70 (ly139 hY) rfl (lr139_17 hY) ?_
  refine r_bipush C dX12_listens_73 bp_8 ?_
  refine r_aload_n C dX12_listens_75 0 rfl ?_
  refine r_iload_n C dX12_listens_76 1 rfl ?_
  obtain ⟨u9, e8, h⟩ := bnd_inv h
  refine r_cVi (As := [.int x1]) (rest := [.int 8, .ref (wb (zw Z) + 145)]) C hR mlX12_210 dX12_listens_77 (tX12_heardMany hY n x1  e8) rfl rfl (ly139 hY) rfl (nle rfl) (nle rfl) (nle rfl) ?_
  refine r_iast C dX12_listens_80 (ly145 hY) (by decide) ?_
  refine r_aload_n C dX12_listens_81 0 rfl ?_
  refine r_iconst C dX12_listens_82 ic_2 ?_
  refine r_aload_n C dX12_listens_83 0 rfl ?_
  refine r_getR C flX12_13 dX12_listens_84 (ly139 hY) rfl (lr139_1 hY) ?_
  refine r_bipush C dX12_listens_87 bp_64 ?_
  refine r_iald C dX12_listens_89 (ly140 hY) (by decide) ?_
  refine r_aload_n C dX12_listens_90 0 rfl ?_
  refine r_iconst C dX12_listens_91 ic_0 ?_
  obtain ⟨u11, e10, h⟩ := bnd_inv h
  refine r_cVi (As := [.int 0]) (rest := [.int (rI (wI (wI μ 145 (ix s1) s0) 145 8 u9) 140 64), .int 2, .ref (wb (zw Z) + 139)]) C hR mlX12_204 dX12_listens_92 (tX12_galeIn hY n 0  e10) rfl rfl (ly139 hY) rfl (nle rfl) (nle rfl) (nle rfl) ?_
  obtain ⟨u13, m14, e12, h⟩ := bnd2_inv h
  refine r_cVi (As := [.int 2, .int (rI (wI (wI μ 145 (ix s1) s0) 145 8 u9) 140 64), .int u11]) (rest := []) C hR mlX12_207 dX12_listens_95 (tX12_reckons hY n 2 (rI (wI (wI μ 145 (ix s1) s0) 145 8 u9) 140 64) u11  e12) rfl rfl (ly139 hY) rfl (nle rfl) (nle rfl) (nle rfl) ?_
  refine r_iconst C dX12_listens_98 ic_1 ?_
  refine r_icmp_ne 106 C dX12_listens_99 (by decide) (fun c15 => ?_) (fun c15 => ?_)
  · have h := (ite_inv h).2 c15
    refine r_iconst C dX12_listens_106 ic_0 ?_
    obtain ⟨h1, h2⟩ := Prod.mk.inj (Option.some.inj h)
    subst h1; subst h2
    exact r_zret C dX12_listens_107 hr rfl hE
  · have h := (ite_inv h).1 c15
    refine r_iconst C dX12_listens_102 ic_1 ?_
    refine r_goto 107 C dX12_listens_103 (by decide) ?_
    obtain ⟨h1, h2⟩ := Prod.mk.inj (Option.some.inj h)
    subst h1; subst h2
    exact r_zret C dX12_listens_107 hr rfl hE
def fX12_listens (n : Nat) (x1 : Int32) (μ : Mu) : Option (Int32 × Mu) := gd (ib (50 + x1) 6726) (if (rI μ 140 (ix (50 + x1))) = 1 then (some (0, μ)) else (if (rI μ 140 7) = 0 then (some (1, μ)) else (gd (ib (44 + x1) 6726) (if (rI (wI μ 145 6 x1) 140 (ix (44 + x1))) = (-1) then (jX12_listens_68 n x1 6 7 (wI μ 145 6 x1)) else (gd (ib (44 + x1) 6726) (jX12_listens_68 n x1 (rI (wI μ 145 6 x1) 140 (ix (44 + x1))) 7 (wI μ 145 6 x1)))))))
set_option maxRecDepth 100000 in
set_option maxHeartbeats 4000000 in
theorem tX12_listens {l : Launch} {w : WP} {sh : List Sh} {R : Rf} {μ : Mu} {r : Int32} {μ' : Mu} (hY : LY sh R) (n : Nat) (x1 : Int32)  (h : fX12_listens n x1 μ = some (r, μ')) : CM l w yX12_listens cX12_listens 2 (some .boolean) 2 0 0 sh R [.ref (wb w + 139), .int x1] μ (some (.int r)) sh R μ' := by
  refine CM.of (plainFor_of_name pf_X12) (Nat.le_of_ble_eq_true rfl) fun Z C hr _ hR hw hl hE => ?_
  subst hw; subst hl
  have C : CX Z cX12_listens 2 RX12 := C
  show Wm Z (0, 0, sh, R) μ 0 [(0, .ref (wb (zw Z) + 139)), (1, .int x1)] []
  unfold fX12_listens at h
  refine r_aload_n C dX12_listens_0 0 rfl ?_
  refine r_getR C flX12_13 dX12_listens_1 (ly139 hY) rfl (lr139_1 hY) ?_
  refine r_bipush C dX12_listens_4 bp_50 ?_
  refine r_iload_n C dX12_listens_6 1 rfl ?_
  refine r_iadd C dX12_listens_7 ?_
  obtain ⟨b1, h⟩ := gd_inv h
  refine r_iald C dX12_listens_8 (ly140 hY) b1 ?_
  refine r_iconst C dX12_listens_9 ic_1 ?_
  refine r_icmp_ne 15 C dX12_listens_10 (by decide) (fun c2 => ?_) (fun c2 => ?_)
  · have h := (ite_inv h).2 c2
    refine r_aload_n C dX12_listens_15 0 rfl ?_
    refine r_getR C flX12_13 dX12_listens_16 (ly139 hY) rfl (lr139_1 hY) ?_
    refine r_bipush C dX12_listens_19 bp_7 ?_
    refine r_iald C dX12_listens_21 (ly140 hY) (by decide) ?_
    refine r_if_ne 27 C dX12_listens_22 (by decide) (fun c3 => ?_) (fun c3 => ?_)
    · have h := (ite_inv h).2 c3
      refine r_aload_n C dX12_listens_27 0 rfl ?_
      refine r_getR C flX12_33 dX12_listens_28 (ly139 hY) rfl (lr139_17 hY) ?_
      refine r_bipush C dX12_listens_31 bp_6 ?_
      refine r_iload_n C dX12_listens_33 1 rfl ?_
      refine r_iast C dX12_listens_34 (ly145 hY) (by decide) ?_
      refine r_aload_n C dX12_listens_35 0 rfl ?_
      refine r_getR C flX12_33 dX12_listens_36 (ly139 hY) rfl (lr139_17 hY) ?_
      refine r_bipush C dX12_listens_39 bp_7 ?_
      refine r_aload_n C dX12_listens_41 0 rfl ?_
      refine r_getR C flX12_13 dX12_listens_42 (ly139 hY) rfl (lr139_1 hY) ?_
      refine r_bipush C dX12_listens_45 bp_44 ?_
      refine r_iload_n C dX12_listens_47 1 rfl ?_
      refine r_iadd C dX12_listens_48 ?_
      obtain ⟨b4, h⟩ := gd_inv h
      refine r_iald C dX12_listens_49 (ly140 hY) b4 ?_
      refine r_iconst C dX12_listens_50 ic_m1 ?_
      refine r_icmp_ne 59 C dX12_listens_51 (by decide) (fun c5 => ?_) (fun c5 => ?_)
      · have h := (ite_inv h).2 c5
        refine r_aload_n C dX12_listens_59 0 rfl ?_
        refine r_getR C flX12_13 dX12_listens_60 (ly139 hY) rfl (lr139_1 hY) ?_
        refine r_bipush C dX12_listens_63 bp_44 ?_
        refine r_iload_n C dX12_listens_65 1 rfl ?_
        refine r_iadd C dX12_listens_66 ?_
        obtain ⟨b6, h⟩ := gd_inv h
        refine r_iald C dX12_listens_67 (ly140 hY) b6 ?_
        exact kX12_listens_68 C hR hY n   x1 (rI (wI μ 145 6 x1) 140 (ix (44 + x1))) 7 (wI μ 145 6 x1) h hr hE
      · have h := (ite_inv h).1 c5
        refine r_bipush C dX12_listens_54 bp_6 ?_
        refine r_goto 68 C dX12_listens_56 (by decide) ?_
        exact kX12_listens_68 C hR hY n   x1 6 7 (wI μ 145 6 x1) h hr hE
    · have h := (ite_inv h).1 c3
      refine r_iconst C dX12_listens_25 ic_1 ?_
      obtain ⟨h1, h2⟩ := Prod.mk.inj (Option.some.inj h)
      subst h1; subst h2
      exact r_zret C dX12_listens_26 hr rfl hE
  · have h := (ite_inv h).1 c2
    refine r_iconst C dX12_listens_13 ic_0 ?_
    obtain ⟨h1, h2⟩ := Prod.mk.inj (Option.some.inj h)
    subst h1; subst h2
    exact r_zret C dX12_listens_14 hr rfl hE
def jX12_hearsAt_70 (n : Nat) (x1 : Int32) (x3 : Int32) (s0 : Int32) (s1 : Int32) (μ : Mu) : Option ((Int32 × Int32) ⊕ (Int32)) := some (.inl (s1 ||| s0, x3 + 1))
set_option maxRecDepth 100000 in
set_option maxHeartbeats 4000000 in
theorem kX12_hearsAt_70 {Z : ZC} {sh : List Sh} {R : Rf} {o : (Int32 × Int32) ⊕ (Int32)} (C : CX Z cX12_hearsAt 4 RX12) (hR : zR Z = rm 0 0 0) (hY : LY sh R) (n : Nat) (x1 : Int32) (x3 : Int32) (s0 : Int32) (s1 : Int32) (μ : Mu) (h : jX12_hearsAt_70 n x1 x3 s0 s1 μ = some o) (kin : ∀ (x2 : Int32) (x3 : Int32), o = .inl (x2, x3) → Wm Z (0, 0, sh, R) μ 31 [(0, .ref (wb (zw Z) + 139)), (1, .int x1), (2, .int x2), (3, .int x3)] []) (kex0 : ∀ (x2 : Int32), o = .inr x2 → Wm Z (0, 0, sh, R) μ 78 [(2, .int x2)] []) : Wm Z (0, 0, sh, R) μ 70 [(0, .ref (wb (zw Z) + 139)), (1, .int x1), (3, .int x3)] [.int s0, .int s1] := by
  unfold jX12_hearsAt_70 at h
  refine r_ior C dX12_hearsAt_70 ?_
  refine r_istore_n [(2, .int (s1 ||| s0)), (0, .ref (wb (zw Z) + 139)), (1, .int x1), (3, .int x3)] C dX12_hearsAt_71 rfl (by decide) rfl ?_
  refine r_iinc [(3, .int (x3 + 1)), (2, .int (s1 ||| s0)), (0, .ref (wb (zw Z) + 139)), (1, .int x1)] C dX12_hearsAt_72 3 rfl (in_1 _) (by decide) rfl ?_
  refine r_goto 31 C dX12_hearsAt_75 (by decide) ?_
  refine r_sub [(0, .ref (wb (zw Z) + 139)), (1, .int x1), (2, .int (s1 ||| s0)), (3, .int (x3 + 1))] [2, 3, 1, 0] rfl ?_
  exact kin (s1 ||| s0) (x3 + 1) (Option.some.inj h).symm
def sX12_hearsAt_31 (n : Nat) (x1 : Int32) (μ : Mu) : Int32 × Int32 → Option ((Int32 × Int32) ⊕ (Int32)) := fun q => match q with | (x2, x3) => if (rI μ 140 4) ≤ x3 then (some (.inr x2)) else (gd (ib (68 + x3) 6726) (if (rI μ 140 (ix (68 + x3))) = x1 then (gd (ib (56 + x3) 6726) (jX12_hearsAt_70 n x1 x3 (shl 1 (rI μ 140 (ix (56 + x3)))) x2 μ)) else (jX12_hearsAt_70 n x1 x3 0 x2 μ)))
set_option maxRecDepth 100000 in
set_option maxHeartbeats 4000000 in
theorem lX12_hearsAt_31 {Z : ZC} {sh : List Sh} {R : Rf} {o : (Int32 × Int32) ⊕ (Int32)} (C : CX Z cX12_hearsAt 4 RX12) (hR : zR Z = rm 0 0 0) (hY : LY sh R) (n : Nat) (x1 : Int32) (μ : Mu) (x2 : Int32) (x3 : Int32) (h : sX12_hearsAt_31 n x1 μ (x2, x3) = some o) (kin : ∀ (x2 : Int32) (x3 : Int32), o = .inl (x2, x3) → Wm Z (0, 0, sh, R) μ 31 [(0, .ref (wb (zw Z) + 139)), (1, .int x1), (2, .int x2), (3, .int x3)] []) (kex0 : ∀ (x2 : Int32), o = .inr x2 → Wm Z (0, 0, sh, R) μ 78 [(2, .int x2)] []) : Wm Z (0, 0, sh, R) μ 31 [(0, .ref (wb (zw Z) + 139)), (1, .int x1), (2, .int x2), (3, .int x3)] [] := by
  unfold sX12_hearsAt_31 at h
  refine r_iload_n C dX12_hearsAt_31 3 rfl ?_
  refine r_aload_n C dX12_hearsAt_32 0 rfl ?_
  refine r_getR C flX12_13 dX12_hearsAt_33 (ly139 hY) rfl (lr139_1 hY) ?_
  refine r_iconst C dX12_hearsAt_36 ic_4 ?_
  refine r_iald C dX12_hearsAt_37 (ly140 hY) (by decide) ?_
  refine r_icmp_ge 78 C dX12_hearsAt_38 (by decide) (fun c4 => ?_) (fun c4 => ?_)
  · have h := (ite_inv h).1 c4
    refine r_sub [(2, .int x2)] [2] rfl ?_
    exact kex0 x2 (Option.some.inj h).symm
  · have h := (ite_inv h).2 c4
    refine r_iload_n C dX12_hearsAt_41 2 rfl ?_
    refine r_aload_n C dX12_hearsAt_42 0 rfl ?_
    refine r_getR C flX12_13 dX12_hearsAt_43 (ly139 hY) rfl (lr139_1 hY) ?_
    refine r_bipush C dX12_hearsAt_46 bp_68 ?_
    refine r_iload_n C dX12_hearsAt_48 3 rfl ?_
    refine r_iadd C dX12_hearsAt_49 ?_
    obtain ⟨b5, h⟩ := gd_inv h
    refine r_iald C dX12_hearsAt_50 (ly140 hY) b5 ?_
    refine r_iload_n C dX12_hearsAt_51 1 rfl ?_
    refine r_icmp_ne 69 C dX12_hearsAt_52 (by decide) (fun c6 => ?_) (fun c6 => ?_)
    · have h := (ite_inv h).2 c6
      refine r_iconst C dX12_hearsAt_69 ic_0 ?_
      refine r_sub [(0, .ref (wb (zw Z) + 139)), (1, .int x1), (3, .int x3)] [0, 1, 3] rfl ?_
      exact kX12_hearsAt_70 C hR hY n   x1 x3 0 x2 μ h kin kex0
    · have h := (ite_inv h).1 c6
      refine r_iconst C dX12_hearsAt_55 ic_1 ?_
      refine r_aload_n C dX12_hearsAt_56 0 rfl ?_
      refine r_getR C flX12_13 dX12_hearsAt_57 (ly139 hY) rfl (lr139_1 hY) ?_
      refine r_bipush C dX12_hearsAt_60 bp_56 ?_
      refine r_iload_n C dX12_hearsAt_62 3 rfl ?_
      refine r_iadd C dX12_hearsAt_63 ?_
      obtain ⟨b7, h⟩ := gd_inv h
      refine r_iald C dX12_hearsAt_64 (ly140 hY) b7 ?_
      refine r_ishl C dX12_hearsAt_65 ?_
      refine r_goto 70 C dX12_hearsAt_66 (by decide) ?_
      refine r_sub [(0, .ref (wb (zw Z) + 139)), (1, .int x1), (3, .int x3)] [0, 1, 3] rfl ?_
      exact kX12_hearsAt_70 C hR hY n   x1 x3 (shl 1 (rI μ 140 (ix (56 + x3)))) x2 μ h kin kex0
def jX12_hearsAt_28 (n : Nat) (x1 : Int32) (s0 : Int32) (μ : Mu) : Option (Int32) := bnd (lp n (sX12_hearsAt_31 n x1 μ) (s0, 0)) fun q => match q with | u8 => some u8
set_option maxRecDepth 100000 in
set_option maxHeartbeats 4000000 in
theorem kX12_hearsAt_28 {Z : ZC} {sh : List Sh} {R : Rf} {r : Int32} (C : CX Z cX12_hearsAt 4 RX12) (hR : zR Z = rm 0 0 0) (hY : LY sh R) (n : Nat) (x1 : Int32) (s0 : Int32) (μ : Mu) (h : jX12_hearsAt_28 n x1 s0 μ = some r) (hr : (zme Z).sig.returnType = (some .int)) (hE : zEnd Z (0, 0, sh, R) μ (some (.int r))) : Wm Z (0, 0, sh, R) μ 28 [(0, .ref (wb (zw Z) + 139)), (1, .int x1)] [.int s0] := by
  unfold jX12_hearsAt_28 at h
  refine r_istore_n [(2, .int s0), (0, .ref (wb (zw Z) + 139)), (1, .int x1)] C dX12_hearsAt_28 rfl (by decide) rfl ?_
  refine r_iconst C dX12_hearsAt_29 ic_0 ?_
  refine r_istore_n [(3, .int 0), (2, .int s0), (0, .ref (wb (zw Z) + 139)), (1, .int x1)] C dX12_hearsAt_30 rfl (by decide) rfl ?_
  refine r_sub [(0, .ref (wb (zw Z) + 139)), (1, .int x1), (2, .int s0), (3, .int 0)] [2, 3, 1, 0] rfl ?_
  obtain ⟨u8, e9, h⟩ := bnd_inv h
  refine lp_all (sX12_hearsAt_31 n x1 μ) (fun q => match q with | (z2, z3) => Wm Z (0, 0, sh, R) μ 31 [(0, .ref (wb (zw Z) + 139)), (1, .int x1), (2, .int z2), (3, .int z3)] []) (fun q => match q with | z2 => Wm Z (0, 0, sh, R) μ 78 [(2, .int z2)] []) (fun q o h kin kex => ?_) n (s0, 0) u8 e9 ?_
  · obtain ⟨z2, z3⟩ := q; exact lX12_hearsAt_31 C hR hY n   x1 μ z2 z3 h (fun z2 z3 e => kin (z2, z3) e) (fun z2 e => kex z2 e)
  show Wm Z (0, 0, sh, R) μ 78 [(2, .int u8)] []
  refine r_iload_n C dX12_hearsAt_78 0 rfl ?_
  have h := Option.some.inj h
  subst h
  exact r_iret C dX12_hearsAt_79 hr hE
def fX12_hearsAt (n : Nat) (x1 : Int32) (μ : Mu) : Option (Int32) := gd (ib (44 + x1) 6726) (if (rI μ 140 (ix (44 + x1))) = (-1) then (jX12_hearsAt_28 n x1 0 μ) else (gd (ib (44 + x1) 6726) (jX12_hearsAt_28 n x1 (shl 1 (rI μ 140 (ix (44 + x1)))) μ)))
set_option maxRecDepth 100000 in
set_option maxHeartbeats 4000000 in
theorem tX12_hearsAt {l : Launch} {w : WP} {sh : List Sh} {R : Rf} {μ : Mu} {r : Int32} (hY : LY sh R) (n : Nat) (x1 : Int32)  (h : fX12_hearsAt n x1 μ = some r) : CM l w yX12_hearsAt cX12_hearsAt 4 (some .int) 0 0 0 sh R [.ref (wb w + 139), .int x1] μ (some (.int r)) sh R μ := by
  refine CM.of (plainFor_of_name pf_X12) (Nat.le_of_ble_eq_true rfl) fun Z C hr _ hR hw hl hE => ?_
  subst hw; subst hl
  have C : CX Z cX12_hearsAt 4 RX12 := C
  show Wm Z (0, 0, sh, R) μ 0 [(0, .ref (wb (zw Z) + 139)), (1, .int x1)] []
  unfold fX12_hearsAt at h
  refine r_aload_n C dX12_hearsAt_0 0 rfl ?_
  refine r_getR C flX12_13 dX12_hearsAt_1 (ly139 hY) rfl (lr139_1 hY) ?_
  refine r_bipush C dX12_hearsAt_4 bp_44 ?_
  refine r_iload_n C dX12_hearsAt_6 1 rfl ?_
  refine r_iadd C dX12_hearsAt_7 ?_
  obtain ⟨b1, h⟩ := gd_inv h
  refine r_iald C dX12_hearsAt_8 (ly140 hY) b1 ?_
  refine r_iconst C dX12_hearsAt_9 ic_m1 ?_
  refine r_icmp_ne 17 C dX12_hearsAt_10 (by decide) (fun c2 => ?_) (fun c2 => ?_)
  · have h := (ite_inv h).2 c2
    refine r_iconst C dX12_hearsAt_17 ic_1 ?_
    refine r_aload_n C dX12_hearsAt_18 0 rfl ?_
    refine r_getR C flX12_13 dX12_hearsAt_19 (ly139 hY) rfl (lr139_1 hY) ?_
    refine r_bipush C dX12_hearsAt_22 bp_44 ?_
    refine r_iload_n C dX12_hearsAt_24 1 rfl ?_
    refine r_iadd C dX12_hearsAt_25 ?_
    obtain ⟨b3, h⟩ := gd_inv h
    refine r_iald C dX12_hearsAt_26 (ly140 hY) b3 ?_
    refine r_ishl C dX12_hearsAt_27 ?_
    exact kX12_hearsAt_28 C hR hY n   x1 (shl 1 (rI μ 140 (ix (44 + x1)))) μ h hr hE
  · have h := (ite_inv h).1 c2
    refine r_iconst C dX12_hearsAt_13 ic_0 ?_
    refine r_goto 28 C dX12_hearsAt_14 (by decide) ?_
    exact kX12_hearsAt_28 C hR hY n   x1 0 μ h hr hE
def sX12_holdsOf_4 (n : Nat) (x1 : Int32) (μ : Mu) : Int32 × Int32 → Option ((Int32 × Int32) ⊕ (Int32)) := fun q => match q with | (x2, x3) => if (rI μ 140 4) ≤ x3 then (some (.inr x2)) else (gd (ib (68 + x3) 6726) (some (.inl (x2 ||| (if (rI μ 140 (ix (68 + x3))) = x1 then (shl 1 x3) else 0), x3 + 1))))
set_option maxRecDepth 100000 in
set_option maxHeartbeats 4000000 in
theorem lX12_holdsOf_4 {Z : ZC} {sh : List Sh} {R : Rf} {o : (Int32 × Int32) ⊕ (Int32)} (C : CX Z cX12_holdsOf 4 RX12) (hR : zR Z = rm 0 0 0) (hY : LY sh R) (n : Nat) (x1 : Int32) (μ : Mu) (x2 : Int32) (x3 : Int32) (h : sX12_holdsOf_4 n x1 μ (x2, x3) = some o) (kin : ∀ (x2 : Int32) (x3 : Int32), o = .inl (x2, x3) → Wm Z (0, 0, sh, R) μ 4 [(0, .ref (wb (zw Z) + 139)), (1, .int x1), (2, .int x2), (3, .int x3)] []) (kex0 : ∀ (x2 : Int32), o = .inr x2 → Wm Z (0, 0, sh, R) μ 43 [(2, .int x2)] []) : Wm Z (0, 0, sh, R) μ 4 [(0, .ref (wb (zw Z) + 139)), (1, .int x1), (2, .int x2), (3, .int x3)] [] := by
  unfold sX12_holdsOf_4 at h
  refine r_iload_n C dX12_holdsOf_4 3 rfl ?_
  refine r_aload_n C dX12_holdsOf_5 0 rfl ?_
  refine r_getR C flX12_13 dX12_holdsOf_6 (ly139 hY) rfl (lr139_1 hY) ?_
  refine r_iconst C dX12_holdsOf_9 ic_4 ?_
  refine r_iald C dX12_holdsOf_10 (ly140 hY) (by decide) ?_
  refine r_icmp_ge 43 C dX12_holdsOf_11 (by decide) (fun c1 => ?_) (fun c1 => ?_)
  · have h := (ite_inv h).1 c1
    refine r_sub [(2, .int x2)] [2] rfl ?_
    exact kex0 x2 (Option.some.inj h).symm
  · have h := (ite_inv h).2 c1
    refine r_iload_n C dX12_holdsOf_14 2 rfl ?_
    refine r_aload_n C dX12_holdsOf_15 0 rfl ?_
    refine r_getR C flX12_13 dX12_holdsOf_16 (ly139 hY) rfl (lr139_1 hY) ?_
    refine r_bipush C dX12_holdsOf_19 bp_68 ?_
    refine r_iload_n C dX12_holdsOf_21 3 rfl ?_
    refine r_iadd C dX12_holdsOf_22 ?_
    obtain ⟨b2, h⟩ := gd_inv h
    refine r_iald C dX12_holdsOf_23 (ly140 hY) b2 ?_
    refine r_iload_n C dX12_holdsOf_24 1 rfl ?_
    suffices hj : Wm Z (0, 0, sh, R) μ 35 [(0, .ref (wb (zw Z) + 139)), (1, .int x1), (2, .int x2), (3, .int x3)] [.int (if (rI μ 140 (ix (68 + x3))) = x1 then (shl 1 x3) else 0), .int x2] by
      refine r_icmp_ne 34 C dX12_holdsOf_25 (by decide) (fun c3 => ?_) (fun c3 => ?_)
      · refine r_iconst C dX12_holdsOf_34 ic_0 ?_
        exact sel_f c3 hj
      · refine r_iconst C dX12_holdsOf_28 ic_1 ?_
        refine r_iload_n C dX12_holdsOf_29 3 rfl ?_
        refine r_ishl C dX12_holdsOf_30 ?_
        refine r_goto 35 C dX12_holdsOf_31 (by decide) ?_
        exact sel_t c3 hj
    refine r_ior C dX12_holdsOf_35 ?_
    refine r_istore_n [(2, .int (x2 ||| (if (rI μ 140 (ix (68 + x3))) = x1 then (shl 1 x3) else 0))), (0, .ref (wb (zw Z) + 139)), (1, .int x1), (3, .int x3)] C dX12_holdsOf_36 rfl (by decide) rfl ?_
    refine r_iinc [(3, .int (x3 + 1)), (2, .int (x2 ||| (if (rI μ 140 (ix (68 + x3))) = x1 then (shl 1 x3) else 0))), (0, .ref (wb (zw Z) + 139)), (1, .int x1)] C dX12_holdsOf_37 3 rfl (in_1 _) (by decide) rfl ?_
    refine r_goto 4 C dX12_holdsOf_40 (by decide) ?_
    refine r_sub [(0, .ref (wb (zw Z) + 139)), (1, .int x1), (2, .int (x2 ||| (if (rI μ 140 (ix (68 + x3))) = x1 then (shl 1 x3) else 0))), (3, .int (x3 + 1))] [2, 3, 1, 0] rfl ?_
    exact kin (x2 ||| (if (rI μ 140 (ix (68 + x3))) = x1 then (shl 1 x3) else 0)) (x3 + 1) (Option.some.inj h).symm
def fX12_holdsOf (n : Nat) (x1 : Int32) (μ : Mu) : Option (Int32) := bnd (lp n (sX12_holdsOf_4 n x1 μ) (0, 0)) fun q => match q with | u4 => some u4
set_option maxRecDepth 100000 in
set_option maxHeartbeats 4000000 in
theorem tX12_holdsOf {l : Launch} {w : WP} {sh : List Sh} {R : Rf} {μ : Mu} {r : Int32} (hY : LY sh R) (n : Nat) (x1 : Int32)  (h : fX12_holdsOf n x1 μ = some r) : CM l w yX12_holdsOf cX12_holdsOf 4 (some .int) 0 0 0 sh R [.ref (wb w + 139), .int x1] μ (some (.int r)) sh R μ := by
  refine CM.of (plainFor_of_name pf_X12) (Nat.le_of_ble_eq_true rfl) fun Z C hr _ hR hw hl hE => ?_
  subst hw; subst hl
  have C : CX Z cX12_holdsOf 4 RX12 := C
  show Wm Z (0, 0, sh, R) μ 0 [(0, .ref (wb (zw Z) + 139)), (1, .int x1)] []
  unfold fX12_holdsOf at h
  refine r_iconst C dX12_holdsOf_0 ic_0 ?_
  refine r_istore_n [(2, .int 0), (0, .ref (wb (zw Z) + 139)), (1, .int x1)] C dX12_holdsOf_1 rfl (by decide) rfl ?_
  refine r_iconst C dX12_holdsOf_2 ic_0 ?_
  refine r_istore_n [(3, .int 0), (2, .int 0), (0, .ref (wb (zw Z) + 139)), (1, .int x1)] C dX12_holdsOf_3 rfl (by decide) rfl ?_
  refine r_sub [(0, .ref (wb (zw Z) + 139)), (1, .int x1), (2, .int 0), (3, .int 0)] [2, 3, 1, 0] rfl ?_
  obtain ⟨u4, e5, h⟩ := bnd_inv h
  refine lp_all (sX12_holdsOf_4 n x1 μ) (fun q => match q with | (z2, z3) => Wm Z (0, 0, sh, R) μ 4 [(0, .ref (wb (zw Z) + 139)), (1, .int x1), (2, .int z2), (3, .int z3)] []) (fun q => match q with | z2 => Wm Z (0, 0, sh, R) μ 43 [(2, .int z2)] []) (fun q o h kin kex => ?_) n (0, 0) u4 e5 ?_
  · obtain ⟨z2, z3⟩ := q; exact lX12_holdsOf_4 C hR hY n   x1 μ z2 z3 h (fun z2 z3 e => kin (z2, z3) e) (fun z2 e => kex z2 e)
  show Wm Z (0, 0, sh, R) μ 43 [(2, .int u4)] []
  refine r_iload_n C dX12_holdsOf_43 0 rfl ?_
  have h := Option.some.inj h
  subst h
  exact r_iret C dX12_holdsOf_44 hr hE
def sX12_heardBy_4 (n : Nat) (x1 : Int32) (μ : Mu) : Int32 × Int32 → Option ((Int32 × Int32) ⊕ (Int32)) := fun q => match q with | (x2, x3) => if (rI μ 140 67) ≤ x3 then (some (.inr x2)) else (gd (ib (92 + x3) 6726) (bnd (fX12_isIn n ((rI μ 140 (ix (92 + x3))).toInt64) x1 μ) fun u4 => some (.inl (x2 ||| (if u4 = 0 then 0 else (shl 1 x3)), x3 + 1))))
set_option maxRecDepth 100000 in
set_option maxHeartbeats 4000000 in
theorem lX12_heardBy_4 {Z : ZC} {sh : List Sh} {R : Rf} {o : (Int32 × Int32) ⊕ (Int32)} (C : CX Z cX12_heardBy 4 RX12) (hR : zR Z = rm 1 0 0) (hY : LY sh R) (n : Nat) (x1 : Int32) (μ : Mu) (x2 : Int32) (x3 : Int32) (h : sX12_heardBy_4 n x1 μ (x2, x3) = some o) (kin : ∀ (x2 : Int32) (x3 : Int32), o = .inl (x2, x3) → Wm Z (0, 0, sh, R) μ 4 [(0, .ref (wb (zw Z) + 139)), (1, .int x1), (2, .int x2), (3, .int x3)] []) (kex0 : ∀ (x2 : Int32), o = .inr x2 → Wm Z (0, 0, sh, R) μ 48 [(2, .int x2)] []) : Wm Z (0, 0, sh, R) μ 4 [(0, .ref (wb (zw Z) + 139)), (1, .int x1), (2, .int x2), (3, .int x3)] [] := by
  unfold sX12_heardBy_4 at h
  refine r_iload_n C dX12_heardBy_4 3 rfl ?_
  refine r_aload_n C dX12_heardBy_5 0 rfl ?_
  refine r_getR C flX12_13 dX12_heardBy_6 (ly139 hY) rfl (lr139_1 hY) ?_
  refine r_bipush C dX12_heardBy_9 bp_67 ?_
  refine r_iald C dX12_heardBy_11 (ly140 hY) (by decide) ?_
  refine r_icmp_ge 48 C dX12_heardBy_12 (by decide) (fun c1 => ?_) (fun c1 => ?_)
  · have h := (ite_inv h).1 c1
    refine r_sub [(2, .int x2)] [2] rfl ?_
    exact kex0 x2 (Option.some.inj h).symm
  · have h := (ite_inv h).2 c1
    refine r_iload_n C dX12_heardBy_15 2 rfl ?_
    refine r_aload_n C dX12_heardBy_16 0 rfl ?_
    refine r_getR C flX12_13 dX12_heardBy_17 (ly139 hY) rfl (lr139_1 hY) ?_
    refine r_bipush C dX12_heardBy_20 bp_92 ?_
    refine r_iload_n C dX12_heardBy_22 3 rfl ?_
    refine r_iadd C dX12_heardBy_23 ?_
    obtain ⟨b2, h⟩ := gd_inv h
    refine r_iald C dX12_heardBy_24 (ly140 hY) b2 ?_
    refine r_i2l C dX12_heardBy_25 ?_
    refine r_iload_n C dX12_heardBy_26 1 rfl ?_
    obtain ⟨u4, e3, h⟩ := bnd_inv h
    refine r_cSi (As := [.long ((rI μ 140 (ix (92 + x3))).toInt64), .int x1]) (rest := [.int x2]) C hR mlX12_213 dX12_heardBy_27 (tX12_isIn hY n ((rI μ 140 (ix (92 + x3))).toInt64) x1  e3) rfl rfl (nle rfl) (nle rfl) (nle rfl) ?_
    suffices hj : Wm Z (0, 0, sh, R) μ 40 [(0, .ref (wb (zw Z) + 139)), (1, .int x1), (2, .int x2), (3, .int x3)] [.int (if u4 = 0 then 0 else (shl 1 x3)), .int x2] by
      refine r_if_eq 39 C dX12_heardBy_30 (by decide) (fun c5 => ?_) (fun c5 => ?_)
      · refine r_iconst C dX12_heardBy_39 ic_0 ?_
        exact sel_t c5 hj
      · refine r_iconst C dX12_heardBy_33 ic_1 ?_
        refine r_iload_n C dX12_heardBy_34 3 rfl ?_
        refine r_ishl C dX12_heardBy_35 ?_
        refine r_goto 40 C dX12_heardBy_36 (by decide) ?_
        exact sel_f c5 hj
    refine r_ior C dX12_heardBy_40 ?_
    refine r_istore_n [(2, .int (x2 ||| (if u4 = 0 then 0 else (shl 1 x3)))), (0, .ref (wb (zw Z) + 139)), (1, .int x1), (3, .int x3)] C dX12_heardBy_41 rfl (by decide) rfl ?_
    refine r_iinc [(3, .int (x3 + 1)), (2, .int (x2 ||| (if u4 = 0 then 0 else (shl 1 x3)))), (0, .ref (wb (zw Z) + 139)), (1, .int x1)] C dX12_heardBy_42 3 rfl (in_1 _) (by decide) rfl ?_
    refine r_goto 4 C dX12_heardBy_45 (by decide) ?_
    refine r_sub [(0, .ref (wb (zw Z) + 139)), (1, .int x1), (2, .int (x2 ||| (if u4 = 0 then 0 else (shl 1 x3)))), (3, .int (x3 + 1))] [2, 3, 1, 0] rfl ?_
    exact kin (x2 ||| (if u4 = 0 then 0 else (shl 1 x3))) (x3 + 1) (Option.some.inj h).symm
def fX12_heardBy (n : Nat) (x1 : Int32) (μ : Mu) : Option (Int32) := bnd (lp n (sX12_heardBy_4 n x1 μ) (0, 0)) fun q => match q with | u6 => some u6
set_option maxRecDepth 100000 in
set_option maxHeartbeats 4000000 in
theorem tX12_heardBy {l : Launch} {w : WP} {sh : List Sh} {R : Rf} {μ : Mu} {r : Int32} (hY : LY sh R) (n : Nat) (x1 : Int32)  (h : fX12_heardBy n x1 μ = some r) : CM l w yX12_heardBy cX12_heardBy 4 (some .int) 1 0 0 sh R [.ref (wb w + 139), .int x1] μ (some (.int r)) sh R μ := by
  refine CM.of (plainFor_of_name pf_X12) (Nat.le_of_ble_eq_true rfl) fun Z C hr _ hR hw hl hE => ?_
  subst hw; subst hl
  have C : CX Z cX12_heardBy 4 RX12 := C
  show Wm Z (0, 0, sh, R) μ 0 [(0, .ref (wb (zw Z) + 139)), (1, .int x1)] []
  unfold fX12_heardBy at h
  refine r_iconst C dX12_heardBy_0 ic_0 ?_
  refine r_istore_n [(2, .int 0), (0, .ref (wb (zw Z) + 139)), (1, .int x1)] C dX12_heardBy_1 rfl (by decide) rfl ?_
  refine r_iconst C dX12_heardBy_2 ic_0 ?_
  refine r_istore_n [(3, .int 0), (2, .int 0), (0, .ref (wb (zw Z) + 139)), (1, .int x1)] C dX12_heardBy_3 rfl (by decide) rfl ?_
  refine r_sub [(0, .ref (wb (zw Z) + 139)), (1, .int x1), (2, .int 0), (3, .int 0)] [2, 3, 1, 0] rfl ?_
  obtain ⟨u6, e7, h⟩ := bnd_inv h
  refine lp_all (sX12_heardBy_4 n x1 μ) (fun q => match q with | (z2, z3) => Wm Z (0, 0, sh, R) μ 4 [(0, .ref (wb (zw Z) + 139)), (1, .int x1), (2, .int z2), (3, .int z3)] []) (fun q => match q with | z2 => Wm Z (0, 0, sh, R) μ 48 [(2, .int z2)] []) (fun q o h kin kex => ?_) n (0, 0) u6 e7 ?_
  · obtain ⟨z2, z3⟩ := q; exact lX12_heardBy_4 C hR hY n   x1 μ z2 z3 h (fun z2 z3 e => kin (z2, z3) e) (fun z2 e => kex z2 e)
  show Wm Z (0, 0, sh, R) μ 48 [(2, .int u6)] []
  refine r_iload_n C dX12_heardBy_48 0 rfl ?_
  have h := Option.some.inj h
  subst h
  exact r_iret C dX12_heardBy_49 hr hE
def fX12_current (n : Nat) (x1 : Int32) (x2 : Int32) (μ : Mu) : Option (Int32 × Mu) := bnd (fX12_isCurrent n (x1.toInt64) (wI μ 139 0 0)) fun u2 => if u2 = 0 then (some ((-2), wI μ 139 0 0)) else (if x2 = 0 then (gd (ib (14 + x1) 6726) (some (rI (wI μ 139 0 0) 140 (ix (14 + x1)), wI μ 139 0 0))) else (if x2 = 1 then (gd (ib (24 + x1) 6726) (some (rI (wI μ 139 0 0) 140 (ix (24 + x1)), wI μ 139 0 0))) else (if x2 = 2 then (gd (ib (34 + x1) 6726) (some (rI (wI μ 139 0 0) 140 (ix (34 + x1)), wI μ 139 0 0))) else (if x2 = 3 then (bnd2 (fX12_isOpen n x1 (wI μ 139 0 0)) fun u12 m13 => if u12 = 0 then (some (0, m13)) else (some (1, m13))) else (some ((-2), wI μ 139 0 0))))))
set_option maxRecDepth 100000 in
set_option maxHeartbeats 4000000 in
theorem tX12_current {l : Launch} {w : WP} {sh : List Sh} {R : Rf} {μ : Mu} {r : Int32} {μ' : Mu} (hY : LY sh R) (n : Nat) (x1 : Int32) (x2 : Int32)  (h : fX12_current n x1 x2 μ = some (r, μ')) : CM l w yX12_current cX12_current 3 (some .int) 3 0 0 sh R [.ref (wb w + 139), .int x1, .int x2] μ (some (.int r)) sh R μ' := by
  refine CM.of (plainFor_of_name pf_X12) (Nat.le_of_ble_eq_true rfl) fun Z C hr _ hR hw hl hE => ?_
  subst hw; subst hl
  have C : CX Z cX12_current 3 RX12 := C
  show Wm Z (0, 0, sh, R) μ 0 [(0, .ref (wb (zw Z) + 139)), (1, .int x1), (2, .int x2)] []
  unfold fX12_current at h
  refine r_aload_n C dX12_current_0 0 rfl ?_
  refine r_iconst C dX12_current_1 ic_0 ?_
  refine r_putI C fiX12_1 dX12_current_2 (ly139 hY) ?_
  refine r_aload_n C dX12_current_5 0 rfl ?_
  refine r_iload_n C dX12_current_6 1 rfl ?_
  refine r_i2l C dX12_current_7 ?_
  obtain ⟨u2, e1, h⟩ := bnd_inv h
  refine r_cVi (As := [.long (x1.toInt64)]) (rest := []) C hR mlX12_217 dX12_current_8 (tX12_isCurrent hY n (x1.toInt64)  e1) rfl rfl (ly139 hY) rfl (nle rfl) (nle rfl) (nle rfl) ?_
  refine r_if_ne 17 C dX12_current_11 (by decide) (fun c3 => ?_) (fun c3 => ?_)
  · have h := (ite_inv h).2 c3
    refine r_iload_n C dX12_current_17 2 rfl ?_
    by_cases c4 : x2 = 0
    · have h := (ite_inv h).1 c4
      refine r_tabIn 48 C dX12_current_18 (by rw [c4, ti_0]; decide) (by rw [c4, ti_0]; decide) (by rw [c4, ti_0]; rfl) (by decide) ?_
      refine r_aload_n C dX12_current_48 0 rfl ?_
      refine r_getR C flX12_13 dX12_current_49 (ly139 hY) rfl (lr139_1 hY) ?_
      refine r_bipush C dX12_current_52 bp_14 ?_
      refine r_iload_n C dX12_current_54 1 rfl ?_
      refine r_iadd C dX12_current_55 ?_
      obtain ⟨b5, h⟩ := gd_inv h
      refine r_iald C dX12_current_56 (ly140 hY) b5 ?_
      obtain ⟨h1, h2⟩ := Prod.mk.inj (Option.some.inj h)
      subst h1; subst h2
      exact r_iret C dX12_current_57 hr hE
    have h := (ite_inv h).2 c4
    by_cases c6 : x2 = 1
    · have h := (ite_inv h).1 c6
      refine r_tabIn 58 C dX12_current_18 (by rw [c6, ti_1]; decide) (by rw [c6, ti_1]; decide) (by rw [c6, ti_1]; rfl) (by decide) ?_
      refine r_aload_n C dX12_current_58 0 rfl ?_
      refine r_getR C flX12_13 dX12_current_59 (ly139 hY) rfl (lr139_1 hY) ?_
      refine r_bipush C dX12_current_62 bp_24 ?_
      refine r_iload_n C dX12_current_64 1 rfl ?_
      refine r_iadd C dX12_current_65 ?_
      obtain ⟨b7, h⟩ := gd_inv h
      refine r_iald C dX12_current_66 (ly140 hY) b7 ?_
      obtain ⟨h1, h2⟩ := Prod.mk.inj (Option.some.inj h)
      subst h1; subst h2
      exact r_iret C dX12_current_67 hr hE
    have h := (ite_inv h).2 c6
    by_cases c8 : x2 = 2
    · have h := (ite_inv h).1 c8
      refine r_tabIn 68 C dX12_current_18 (by rw [c8, ti_2]; decide) (by rw [c8, ti_2]; decide) (by rw [c8, ti_2]; rfl) (by decide) ?_
      refine r_aload_n C dX12_current_68 0 rfl ?_
      refine r_getR C flX12_13 dX12_current_69 (ly139 hY) rfl (lr139_1 hY) ?_
      refine r_bipush C dX12_current_72 bp_34 ?_
      refine r_iload_n C dX12_current_74 1 rfl ?_
      refine r_iadd C dX12_current_75 ?_
      obtain ⟨b9, h⟩ := gd_inv h
      refine r_iald C dX12_current_76 (ly140 hY) b9 ?_
      obtain ⟨h1, h2⟩ := Prod.mk.inj (Option.some.inj h)
      subst h1; subst h2
      exact r_iret C dX12_current_77 hr hE
    have h := (ite_inv h).2 c8
    by_cases c10 : x2 = 3
    · have h := (ite_inv h).1 c10
      refine r_tabIn 78 C dX12_current_18 (by rw [c10, ti_3]; decide) (by rw [c10, ti_3]; decide) (by rw [c10, ti_3]; rfl) (by decide) ?_
      refine r_aload_n C dX12_current_78 0 rfl ?_
      refine r_iload_n C dX12_current_79 1 rfl ?_
      obtain ⟨u12, m13, e11, h⟩ := bnd2_inv h
      refine r_cVi (As := [.int x1]) (rest := []) C hR mlX12_221 dX12_current_80 (tX12_isOpen hY n x1  e11) rfl rfl (ly139 hY) rfl (nle rfl) (nle rfl) (nle rfl) ?_
      refine r_if_eq 90 C dX12_current_83 (by decide) (fun c14 => ?_) (fun c14 => ?_)
      · have h := (ite_inv h).1 c14
        refine r_iconst C dX12_current_90 ic_0 ?_
        obtain ⟨h1, h2⟩ := Prod.mk.inj (Option.some.inj h)
        subst h1; subst h2
        exact r_iret C dX12_current_91 hr hE
      · have h := (ite_inv h).2 c14
        refine r_iconst C dX12_current_86 ic_1 ?_
        refine r_goto 91 C dX12_current_87 (by decide) ?_
        obtain ⟨h1, h2⟩ := Prod.mk.inj (Option.some.inj h)
        subst h1; subst h2
        exact r_iret C dX12_current_91 hr hE
    have h := (ite_inv h).2 c10
    suffices hj : Wm Z (0, 0, sh, R) (wI μ 139 0 0) 92 [(0, .ref (wb (zw Z) + 139)), (1, .int x1), (2, .int x2)] [] by
      have q0 := tne c4 ti_0
      have q1 := tne c6 ti_1
      have q2 := tne c8 ti_2
      have q3 := tne c10 ti_3
      exact r_tabOut 92 C dX12_current_18 (by omega) (by decide) hj
    refine r_bipush C dX12_current_92 bp_m2 ?_
    obtain ⟨h1, h2⟩ := Prod.mk.inj (Option.some.inj h)
    subst h1; subst h2
    exact r_iret C dX12_current_94 hr hE
  · have h := (ite_inv h).1 c3
    refine r_bipush C dX12_current_14 bp_m2 ?_
    obtain ⟨h1, h2⟩ := Prod.mk.inj (Option.some.inj h)
    subst h1; subst h2
    exact r_iret C dX12_current_16 hr hE
def fX12_person (n : Nat) (x1 : Int32) (x2 : Int32) (μ : Mu) : Option (Int32 × Mu) := bnd (fX12_isPerson n (x1.toInt64) (wI μ 139 0 0)) fun u2 => if u2 = 0 then (some ((-2), wI μ 139 0 0)) else (if x2 = 0 then (gd (ib (44 + x1) 6726) (some (rI (wI μ 139 0 0) 140 (ix (44 + x1)), wI μ 139 0 0))) else (if x2 = 1 then (gd (ib (50 + x1) 6726) (some (rI (wI μ 139 0 0) 140 (ix (50 + x1)), wI μ 139 0 0))) else (if x2 = 2 then (bnd (fX12_heardBy n x1 (wI μ 139 0 0)) fun u10 => some (u10, wI μ 139 0 0)) else (if x2 = 3 then (bnd (fX12_holdsOf n x1 (wI μ 139 0 0)) fun u13 => some (u13, wI μ 139 0 0)) else (if x2 = 4 then (bnd2 (fX12_listens n x1 (wI μ 139 0 0)) fun u16 m17 => if u16 = 0 then (some (0, m17)) else (some (1, m17))) else (some ((-2), wI μ 139 0 0)))))))
set_option maxRecDepth 100000 in
set_option maxHeartbeats 4000000 in
theorem tX12_person {l : Launch} {w : WP} {sh : List Sh} {R : Rf} {μ : Mu} {r : Int32} {μ' : Mu} (hY : LY sh R) (n : Nat) (x1 : Int32) (x2 : Int32)  (h : fX12_person n x1 x2 μ = some (r, μ')) : CM l w yX12_person cX12_person 3 (some .int) 3 0 0 sh R [.ref (wb w + 139), .int x1, .int x2] μ (some (.int r)) sh R μ' := by
  refine CM.of (plainFor_of_name pf_X12) (Nat.le_of_ble_eq_true rfl) fun Z C hr _ hR hw hl hE => ?_
  subst hw; subst hl
  have C : CX Z cX12_person 3 RX12 := C
  show Wm Z (0, 0, sh, R) μ 0 [(0, .ref (wb (zw Z) + 139)), (1, .int x1), (2, .int x2)] []
  unfold fX12_person at h
  refine r_aload_n C dX12_person_0 0 rfl ?_
  refine r_iconst C dX12_person_1 ic_0 ?_
  refine r_putI C fiX12_1 dX12_person_2 (ly139 hY) ?_
  refine r_aload_n C dX12_person_5 0 rfl ?_
  refine r_iload_n C dX12_person_6 1 rfl ?_
  refine r_i2l C dX12_person_7 ?_
  obtain ⟨u2, e1, h⟩ := bnd_inv h
  refine r_cVi (As := [.long (x1.toInt64)]) (rest := []) C hR mlX12_224 dX12_person_8 (tX12_isPerson hY n (x1.toInt64)  e1) rfl rfl (ly139 hY) rfl (nle rfl) (nle rfl) (nle rfl) ?_
  refine r_if_ne 17 C dX12_person_11 (by decide) (fun c3 => ?_) (fun c3 => ?_)
  · have h := (ite_inv h).2 c3
    refine r_iload_n C dX12_person_17 2 rfl ?_
    by_cases c4 : x2 = 0
    · have h := (ite_inv h).1 c4
      refine r_tabIn 52 C dX12_person_18 (by rw [c4, ti_0]; decide) (by rw [c4, ti_0]; decide) (by rw [c4, ti_0]; rfl) (by decide) ?_
      refine r_aload_n C dX12_person_52 0 rfl ?_
      refine r_getR C flX12_13 dX12_person_53 (ly139 hY) rfl (lr139_1 hY) ?_
      refine r_bipush C dX12_person_56 bp_44 ?_
      refine r_iload_n C dX12_person_58 1 rfl ?_
      refine r_iadd C dX12_person_59 ?_
      obtain ⟨b5, h⟩ := gd_inv h
      refine r_iald C dX12_person_60 (ly140 hY) b5 ?_
      obtain ⟨h1, h2⟩ := Prod.mk.inj (Option.some.inj h)
      subst h1; subst h2
      exact r_iret C dX12_person_61 hr hE
    have h := (ite_inv h).2 c4
    by_cases c6 : x2 = 1
    · have h := (ite_inv h).1 c6
      refine r_tabIn 62 C dX12_person_18 (by rw [c6, ti_1]; decide) (by rw [c6, ti_1]; decide) (by rw [c6, ti_1]; rfl) (by decide) ?_
      refine r_aload_n C dX12_person_62 0 rfl ?_
      refine r_getR C flX12_13 dX12_person_63 (ly139 hY) rfl (lr139_1 hY) ?_
      refine r_bipush C dX12_person_66 bp_50 ?_
      refine r_iload_n C dX12_person_68 1 rfl ?_
      refine r_iadd C dX12_person_69 ?_
      obtain ⟨b7, h⟩ := gd_inv h
      refine r_iald C dX12_person_70 (ly140 hY) b7 ?_
      obtain ⟨h1, h2⟩ := Prod.mk.inj (Option.some.inj h)
      subst h1; subst h2
      exact r_iret C dX12_person_71 hr hE
    have h := (ite_inv h).2 c6
    by_cases c8 : x2 = 2
    · have h := (ite_inv h).1 c8
      refine r_tabIn 72 C dX12_person_18 (by rw [c8, ti_2]; decide) (by rw [c8, ti_2]; decide) (by rw [c8, ti_2]; rfl) (by decide) ?_
      refine r_aload_n C dX12_person_72 0 rfl ?_
      refine r_iload_n C dX12_person_73 1 rfl ?_
      obtain ⟨u10, e9, h⟩ := bnd_inv h
      refine r_cVi (As := [.int x1]) (rest := []) C hR mlX12_227 dX12_person_74 (tX12_heardBy hY n x1  e9) rfl rfl (ly139 hY) rfl (nle rfl) (nle rfl) (nle rfl) ?_
      obtain ⟨h1, h2⟩ := Prod.mk.inj (Option.some.inj h)
      subst h1; subst h2
      exact r_iret C dX12_person_77 hr hE
    have h := (ite_inv h).2 c8
    by_cases c11 : x2 = 3
    · have h := (ite_inv h).1 c11
      refine r_tabIn 78 C dX12_person_18 (by rw [c11, ti_3]; decide) (by rw [c11, ti_3]; decide) (by rw [c11, ti_3]; rfl) (by decide) ?_
      refine r_aload_n C dX12_person_78 0 rfl ?_
      refine r_iload_n C dX12_person_79 1 rfl ?_
      obtain ⟨u13, e12, h⟩ := bnd_inv h
      refine r_cVi (As := [.int x1]) (rest := []) C hR mlX12_230 dX12_person_80 (tX12_holdsOf hY n x1  e12) rfl rfl (ly139 hY) rfl (nle rfl) (nle rfl) (nle rfl) ?_
      obtain ⟨h1, h2⟩ := Prod.mk.inj (Option.some.inj h)
      subst h1; subst h2
      exact r_iret C dX12_person_83 hr hE
    have h := (ite_inv h).2 c11
    by_cases c14 : x2 = 4
    · have h := (ite_inv h).1 c14
      refine r_tabIn 84 C dX12_person_18 (by rw [c14, ti_4]; decide) (by rw [c14, ti_4]; decide) (by rw [c14, ti_4]; rfl) (by decide) ?_
      refine r_aload_n C dX12_person_84 0 rfl ?_
      refine r_iload_n C dX12_person_85 1 rfl ?_
      obtain ⟨u16, m17, e15, h⟩ := bnd2_inv h
      refine r_cVi (As := [.int x1]) (rest := []) C hR mlX12_233 dX12_person_86 (tX12_listens hY n x1  e15) rfl rfl (ly139 hY) rfl (nle rfl) (nle rfl) (nle rfl) ?_
      refine r_if_eq 96 C dX12_person_89 (by decide) (fun c18 => ?_) (fun c18 => ?_)
      · have h := (ite_inv h).1 c18
        refine r_iconst C dX12_person_96 ic_0 ?_
        obtain ⟨h1, h2⟩ := Prod.mk.inj (Option.some.inj h)
        subst h1; subst h2
        exact r_iret C dX12_person_97 hr hE
      · have h := (ite_inv h).2 c18
        refine r_iconst C dX12_person_92 ic_1 ?_
        refine r_goto 97 C dX12_person_93 (by decide) ?_
        obtain ⟨h1, h2⟩ := Prod.mk.inj (Option.some.inj h)
        subst h1; subst h2
        exact r_iret C dX12_person_97 hr hE
    have h := (ite_inv h).2 c14
    suffices hj : Wm Z (0, 0, sh, R) (wI μ 139 0 0) 98 [(0, .ref (wb (zw Z) + 139)), (1, .int x1), (2, .int x2)] [] by
      have q0 := tne c4 ti_0
      have q1 := tne c6 ti_1
      have q2 := tne c8 ti_2
      have q3 := tne c11 ti_3
      have q4 := tne c14 ti_4
      exact r_tabOut 98 C dX12_person_18 (by omega) (by decide) hj
    refine r_bipush C dX12_person_98 bp_m2 ?_
    obtain ⟨h1, h2⟩ := Prod.mk.inj (Option.some.inj h)
    subst h1; subst h2
    exact r_iret C dX12_person_100 hr hE
  · have h := (ite_inv h).1 c3
    refine r_bipush C dX12_person_14 bp_m2 ?_
    obtain ⟨h1, h2⟩ := Prod.mk.inj (Option.some.inj h)
    subst h1; subst h2
    exact r_iret C dX12_person_16 hr hE
def fX12_shell (n : Nat) (x1 : Int32) (x2 : Int32) (μ : Mu) : Option (Int32 × Mu) := bnd (fX12_isShell n (x1.toInt64) (wI μ 139 0 0)) fun u2 => if u2 = 0 then (some ((-2), wI μ 139 0 0)) else (bnd (fX12_within n (x2.toInt64) 0 1 (wI μ 139 0 0)) fun u5 => if u5 = 0 then (some ((-2), wI μ 139 0 0)) else (if x2 = 0 then (gd (ib (56 + x1) 6726) (some (rI (wI μ 139 0 0) 140 (ix (56 + x1)), wI μ 139 0 0))) else (gd (ib (68 + x1) 6726) (some (rI (wI μ 139 0 0) 140 (ix (68 + x1)), wI μ 139 0 0)))))
set_option maxRecDepth 100000 in
set_option maxHeartbeats 4000000 in
theorem tX12_shell {l : Launch} {w : WP} {sh : List Sh} {R : Rf} {μ : Mu} {r : Int32} {μ' : Mu} (hY : LY sh R) (n : Nat) (x1 : Int32) (x2 : Int32)  (h : fX12_shell n x1 x2 μ = some (r, μ')) : CM l w yX12_shell cX12_shell 3 (some .int) 2 0 0 sh R [.ref (wb w + 139), .int x1, .int x2] μ (some (.int r)) sh R μ' := by
  refine CM.of (plainFor_of_name pf_X12) (Nat.le_of_ble_eq_true rfl) fun Z C hr _ hR hw hl hE => ?_
  subst hw; subst hl
  have C : CX Z cX12_shell 3 RX12 := C
  show Wm Z (0, 0, sh, R) μ 0 [(0, .ref (wb (zw Z) + 139)), (1, .int x1), (2, .int x2)] []
  unfold fX12_shell at h
  refine r_aload_n C dX12_shell_0 0 rfl ?_
  refine r_iconst C dX12_shell_1 ic_0 ?_
  refine r_putI C fiX12_1 dX12_shell_2 (ly139 hY) ?_
  refine r_aload_n C dX12_shell_5 0 rfl ?_
  refine r_iload_n C dX12_shell_6 1 rfl ?_
  refine r_i2l C dX12_shell_7 ?_
  obtain ⟨u2, e1, h⟩ := bnd_inv h
  refine r_cVi (As := [.long (x1.toInt64)]) (rest := []) C hR mlX12_236 dX12_shell_8 (tX12_isShell hY n (x1.toInt64)  e1) rfl rfl (ly139 hY) rfl (nle rfl) (nle rfl) (nle rfl) ?_
  refine r_if_eq 24 C dX12_shell_11 (by decide) (fun c3 => ?_) (fun c3 => ?_)
  · have h := (ite_inv h).1 c3
    refine r_bipush C dX12_shell_24 bp_m2 ?_
    refine r_goto 54 C dX12_shell_26 (by decide) ?_
    obtain ⟨h1, h2⟩ := Prod.mk.inj (Option.some.inj h)
    subst h1; subst h2
    exact r_iret C dX12_shell_54 hr hE
  · have h := (ite_inv h).2 c3
    refine r_iload_n C dX12_shell_14 2 rfl ?_
    refine r_i2l C dX12_shell_15 ?_
    refine r_lconst C dX12_shell_16 lc_0 ?_
    refine r_lconst C dX12_shell_17 lc_1 ?_
    obtain ⟨u5, e4, h⟩ := bnd_inv h
    refine r_cSi (As := [.long (x2.toInt64), .long 0, .long 1]) (rest := []) C hR mlX12_130 dX12_shell_18 (tX12_within hY n (x2.toInt64) 0 1  e4) rfl rfl (nle rfl) (nle rfl) (nle rfl) ?_
    refine r_if_ne 29 C dX12_shell_21 (by decide) (fun c6 => ?_) (fun c6 => ?_)
    · have h := (ite_inv h).2 c6
      refine r_iload_n C dX12_shell_29 2 rfl ?_
      refine r_if_ne 45 C dX12_shell_30 (by decide) (fun c7 => ?_) (fun c7 => ?_)
      · have h := (ite_inv h).2 c7
        refine r_aload_n C dX12_shell_45 0 rfl ?_
        refine r_getR C flX12_13 dX12_shell_46 (ly139 hY) rfl (lr139_1 hY) ?_
        refine r_bipush C dX12_shell_49 bp_68 ?_
        refine r_iload_n C dX12_shell_51 1 rfl ?_
        refine r_iadd C dX12_shell_52 ?_
        obtain ⟨b8, h⟩ := gd_inv h
        refine r_iald C dX12_shell_53 (ly140 hY) b8 ?_
        obtain ⟨h1, h2⟩ := Prod.mk.inj (Option.some.inj h)
        subst h1; subst h2
        exact r_iret C dX12_shell_54 hr hE
      · have h := (ite_inv h).1 c7
        refine r_aload_n C dX12_shell_33 0 rfl ?_
        refine r_getR C flX12_13 dX12_shell_34 (ly139 hY) rfl (lr139_1 hY) ?_
        refine r_bipush C dX12_shell_37 bp_56 ?_
        refine r_iload_n C dX12_shell_39 1 rfl ?_
        refine r_iadd C dX12_shell_40 ?_
        obtain ⟨b9, h⟩ := gd_inv h
        refine r_iald C dX12_shell_41 (ly140 hY) b9 ?_
        refine r_goto 54 C dX12_shell_42 (by decide) ?_
        obtain ⟨h1, h2⟩ := Prod.mk.inj (Option.some.inj h)
        subst h1; subst h2
        exact r_iret C dX12_shell_54 hr hE
    · have h := (ite_inv h).1 c6
      refine r_bipush C dX12_shell_24 bp_m2 ?_
      refine r_goto 54 C dX12_shell_26 (by decide) ?_
      obtain ⟨h1, h2⟩ := Prod.mk.inj (Option.some.inj h)
      subst h1; subst h2
      exact r_iret C dX12_shell_54 hr hE
def sX12_word_65 (n : Nat) (x1 : Int32) (μ : Mu) : Int32 × Int32 → Option ((Int32 × Int32) ⊕ (Int32)) := fun q => match q with | (x3, x4) => if (rI μ 140 2) ≤ x4 then (some (.inr x3)) else (gd (ib ((100 + (10 * x1)) + x4) 6726) (some (.inl (x3 + (if (rI μ 140 (ix ((100 + (10 * x1)) + x4))) ≤ 0 then 0 else 1 : Int32), x4 + 1))))
set_option maxRecDepth 100000 in
set_option maxHeartbeats 4000000 in
theorem lX12_word_65 {Z : ZC} {sh : List Sh} {R : Rf} {o : (Int32 × Int32) ⊕ (Int32)} (C : CX Z cX12_word 5 RX12) (hR : zR Z = rm 2 0 0) (hY : LY sh R) (n : Nat) (x1 : Int32) (μ : Mu) (x3 : Int32) (x4 : Int32) (h : sX12_word_65 n x1 μ (x3, x4) = some o) (kin : ∀ (x3 : Int32) (x4 : Int32), o = .inl (x3, x4) → Wm Z (0, 0, sh, R) μ 65 [(0, .ref (wb (zw Z) + 139)), (1, .int x1), (3, .int x3), (4, .int x4)] []) (kex0 : ∀ (x3 : Int32), o = .inr x3 → Wm Z (0, 0, sh, R) μ 108 [(3, .int x3)] []) : Wm Z (0, 0, sh, R) μ 65 [(0, .ref (wb (zw Z) + 139)), (1, .int x1), (3, .int x3), (4, .int x4)] [] := by
  unfold sX12_word_65 at h
  refine r_iload C dX12_word_65 3 rfl ?_
  refine r_aload_n C dX12_word_67 0 rfl ?_
  refine r_getR C flX12_13 dX12_word_68 (ly139 hY) rfl (lr139_1 hY) ?_
  refine r_iconst C dX12_word_71 ic_2 ?_
  refine r_iald C dX12_word_72 (ly140 hY) (by decide) ?_
  refine r_icmp_ge 108 C dX12_word_73 (by decide) (fun c8 => ?_) (fun c8 => ?_)
  · have h := (ite_inv h).1 c8
    refine r_sub [(3, .int x3)] [2] rfl ?_
    exact kex0 x3 (Option.some.inj h).symm
  · have h := (ite_inv h).2 c8
    refine r_iload_n C dX12_word_76 2 rfl ?_
    refine r_aload_n C dX12_word_77 0 rfl ?_
    refine r_getR C flX12_13 dX12_word_78 (ly139 hY) rfl (lr139_1 hY) ?_
    refine r_bipush C dX12_word_81 bp_100 ?_
    refine r_bipush C dX12_word_83 bp_10 ?_
    refine r_iload_n C dX12_word_85 1 rfl ?_
    refine r_imul C dX12_word_86 ?_
    refine r_iadd C dX12_word_87 ?_
    refine r_iload C dX12_word_88 3 rfl ?_
    refine r_iadd C dX12_word_90 ?_
    obtain ⟨b9, h⟩ := gd_inv h
    refine r_iald C dX12_word_91 (ly140 hY) b9 ?_
    suffices hj : Wm Z (0, 0, sh, R) μ 100 [(0, .ref (wb (zw Z) + 139)), (1, .int x1), (3, .int x3), (4, .int x4)] [.int (if (rI μ 140 (ix ((100 + (10 * x1)) + x4))) ≤ 0 then 0 else 1 : Int32), .int x3] by
      refine r_if_le 99 C dX12_word_92 (by decide) (fun c10 => ?_) (fun c10 => ?_)
      · refine r_iconst C dX12_word_99 ic_0 ?_
        exact sel_t c10 hj
      · refine r_iconst C dX12_word_95 ic_1 ?_
        refine r_goto 100 C dX12_word_96 (by decide) ?_
        exact sel_f c10 hj
    refine r_iadd C dX12_word_100 ?_
    refine r_istore_n [(3, .int (x3 + (if (rI μ 140 (ix ((100 + (10 * x1)) + x4))) ≤ 0 then 0 else 1 : Int32))), (0, .ref (wb (zw Z) + 139)), (1, .int x1), (4, .int x4)] C dX12_word_101 rfl (by decide) rfl ?_
    refine r_iinc [(4, .int (x4 + 1)), (3, .int (x3 + (if (rI μ 140 (ix ((100 + (10 * x1)) + x4))) ≤ 0 then 0 else 1 : Int32))), (0, .ref (wb (zw Z) + 139)), (1, .int x1)] C dX12_word_102 3 rfl (in_1 _) (by decide) rfl ?_
    refine r_goto 65 C dX12_word_105 (by decide) ?_
    refine r_sub [(0, .ref (wb (zw Z) + 139)), (1, .int x1), (3, .int (x3 + (if (rI μ 140 (ix ((100 + (10 * x1)) + x4))) ≤ 0 then 0 else 1 : Int32))), (4, .int (x4 + 1))] [2, 3, 1, 0] rfl ?_
    exact kin (x3 + (if (rI μ 140 (ix ((100 + (10 * x1)) + x4))) ≤ 0 then 0 else 1 : Int32)) (x4 + 1) (Option.some.inj h).symm
def fX12_word (n : Nat) (x1 : Int32) (x2 : Int32) (μ : Mu) : Option (Int32 × Mu) := bnd (fX12_isWord n (x1.toInt64) (wI μ 139 0 0)) fun u2 => if u2 = 0 then (some ((-2), wI μ 139 0 0)) else (bnd (fX12_within n (x2.toInt64) 0 2 (wI μ 139 0 0)) fun u5 => if u5 = 0 then (some ((-2), wI μ 139 0 0)) else (if x2 = 1 then (bnd (lp n (sX12_word_65 n x1 (wI μ 139 0 0)) (0, 0)) fun q => match q with | u11 => some (u11, wI μ 139 0 0)) else (if x2 = 0 then (gd (ib (76 + x1) 6726) (some (rI (wI μ 139 0 0) 140 (ix (76 + x1)), wI μ 139 0 0))) else (gd (ib (92 + x1) 6726) (some (rI (wI μ 139 0 0) 140 (ix (92 + x1)), wI μ 139 0 0))))))
set_option maxRecDepth 100000 in
set_option maxHeartbeats 4000000 in
theorem tX12_word {l : Launch} {w : WP} {sh : List Sh} {R : Rf} {μ : Mu} {r : Int32} {μ' : Mu} (hY : LY sh R) (n : Nat) (x1 : Int32) (x2 : Int32)  (h : fX12_word n x1 x2 μ = some (r, μ')) : CM l w yX12_word cX12_word 5 (some .int) 2 0 0 sh R [.ref (wb w + 139), .int x1, .int x2] μ (some (.int r)) sh R μ' := by
  refine CM.of (plainFor_of_name pf_X12) (Nat.le_of_ble_eq_true rfl) fun Z C hr _ hR hw hl hE => ?_
  subst hw; subst hl
  have C : CX Z cX12_word 5 RX12 := C
  show Wm Z (0, 0, sh, R) μ 0 [(0, .ref (wb (zw Z) + 139)), (1, .int x1), (2, .int x2)] []
  unfold fX12_word at h
  refine r_aload_n C dX12_word_0 0 rfl ?_
  refine r_iconst C dX12_word_1 ic_0 ?_
  refine r_putI C fiX12_1 dX12_word_2 (ly139 hY) ?_
  refine r_aload_n C dX12_word_5 0 rfl ?_
  refine r_iload_n C dX12_word_6 1 rfl ?_
  refine r_i2l C dX12_word_7 ?_
  obtain ⟨u2, e1, h⟩ := bnd_inv h
  refine r_cVi (As := [.long (x1.toInt64)]) (rest := []) C hR mlX12_239 dX12_word_8 (tX12_isWord hY n (x1.toInt64)  e1) rfl rfl (ly139 hY) rfl (nle rfl) (nle rfl) (nle rfl) ?_
  refine r_if_eq 26 C dX12_word_11 (by decide) (fun c3 => ?_) (fun c3 => ?_)
  · have h := (ite_inv h).1 c3
    refine r_bipush C dX12_word_26 bp_m2 ?_
    obtain ⟨h1, h2⟩ := Prod.mk.inj (Option.some.inj h)
    subst h1; subst h2
    exact r_iret C dX12_word_28 hr hE
  · have h := (ite_inv h).2 c3
    refine r_iload_n C dX12_word_14 2 rfl ?_
    refine r_i2l C dX12_word_15 ?_
    refine r_lconst C dX12_word_16 lc_0 ?_
    refine r_ldc2 C dX12_word_17 klX12_242 ?_
    obtain ⟨u5, e4, h⟩ := bnd_inv h
    refine r_cSi (As := [.long (x2.toInt64), .long 0, .long 2]) (rest := []) C hR mlX12_130 dX12_word_20 (tX12_within hY n (x2.toInt64) 0 2  e4) rfl rfl (nle rfl) (nle rfl) (nle rfl) ?_
    refine r_if_ne 29 C dX12_word_23 (by decide) (fun c6 => ?_) (fun c6 => ?_)
    · have h := (ite_inv h).2 c6
      refine r_iload_n C dX12_word_29 2 rfl ?_
      refine r_iconst C dX12_word_30 ic_1 ?_
      refine r_icmp_eq 60 C dX12_word_31 (by decide) (fun c7 => ?_) (fun c7 => ?_)
      · have h := (ite_inv h).1 c7
        refine r_iconst C dX12_word_60 ic_0 ?_
        refine r_istore_n [(3, .int 0), (0, .ref (wb (zw Z) + 139)), (1, .int x1), (2, .int x2)] C dX12_word_61 rfl (by decide) rfl ?_
        refine r_iconst C dX12_word_62 ic_0 ?_
        refine r_istore [(4, .int 0), (3, .int 0), (0, .ref (wb (zw Z) + 139)), (1, .int x1), (2, .int x2)] C dX12_word_63 (by decide) rfl ?_
        refine r_sub [(0, .ref (wb (zw Z) + 139)), (1, .int x1), (3, .int 0), (4, .int 0)] [2, 3, 1, 0] rfl ?_
        obtain ⟨u11, e12, h⟩ := bnd_inv h
        refine lp_all (sX12_word_65 n x1 (wI μ 139 0 0)) (fun q => match q with | (z3, z4) => Wm Z (0, 0, sh, R) (wI μ 139 0 0) 65 [(0, .ref (wb (zw Z) + 139)), (1, .int x1), (3, .int z3), (4, .int z4)] []) (fun q => match q with | z3 => Wm Z (0, 0, sh, R) (wI μ 139 0 0) 108 [(3, .int z3)] []) (fun q o h kin kex => ?_) n (0, 0) u11 e12 ?_
        · obtain ⟨z3, z4⟩ := q; exact lX12_word_65 C hR hY n   x1 (wI μ 139 0 0) z3 z4 h (fun z3 z4 e => kin (z3, z4) e) (fun z3 e => kex z3 e)
        show Wm Z (0, 0, sh, R) (wI μ 139 0 0) 108 [(3, .int u11)] []
        refine r_iload_n C dX12_word_108 0 rfl ?_
        obtain ⟨h1, h2⟩ := Prod.mk.inj (Option.some.inj h)
        subst h1; subst h2
        exact r_iret C dX12_word_109 hr hE
      · have h := (ite_inv h).2 c7
        refine r_iload_n C dX12_word_34 2 rfl ?_
        refine r_if_ne 50 C dX12_word_35 (by decide) (fun c13 => ?_) (fun c13 => ?_)
        · have h := (ite_inv h).2 c13
          refine r_aload_n C dX12_word_50 0 rfl ?_
          refine r_getR C flX12_13 dX12_word_51 (ly139 hY) rfl (lr139_1 hY) ?_
          refine r_bipush C dX12_word_54 bp_92 ?_
          refine r_iload_n C dX12_word_56 1 rfl ?_
          refine r_iadd C dX12_word_57 ?_
          obtain ⟨b14, h⟩ := gd_inv h
          refine r_iald C dX12_word_58 (ly140 hY) b14 ?_
          obtain ⟨h1, h2⟩ := Prod.mk.inj (Option.some.inj h)
          subst h1; subst h2
          exact r_iret C dX12_word_59 hr hE
        · have h := (ite_inv h).1 c13
          refine r_aload_n C dX12_word_38 0 rfl ?_
          refine r_getR C flX12_13 dX12_word_39 (ly139 hY) rfl (lr139_1 hY) ?_
          refine r_bipush C dX12_word_42 bp_76 ?_
          refine r_iload_n C dX12_word_44 1 rfl ?_
          refine r_iadd C dX12_word_45 ?_
          obtain ⟨b15, h⟩ := gd_inv h
          refine r_iald C dX12_word_46 (ly140 hY) b15 ?_
          refine r_goto 59 C dX12_word_47 (by decide) ?_
          obtain ⟨h1, h2⟩ := Prod.mk.inj (Option.some.inj h)
          subst h1; subst h2
          exact r_iret C dX12_word_59 hr hE
    · have h := (ite_inv h).1 c6
      refine r_bipush C dX12_word_26 bp_m2 ?_
      obtain ⟨h1, h2⟩ := Prod.mk.inj (Option.some.inj h)
      subst h1; subst h2
      exact r_iret C dX12_word_28 hr hE
def fX12_sound (n : Nat) (x1 : Int32) (x2 : Int32) (μ : Mu) : Option (Int32 × Mu) := bnd (fX12_isBeach n (x1.toInt64) (wI μ 139 0 0)) fun u2 => if u2 = 0 then (some ((-2), wI μ 139 0 0)) else (bnd (fX12_within n (x2.toInt64) 0 999 (wI μ 139 0 0)) fun u5 => if u5 = 0 then (some ((-3), wI μ 139 0 0)) else (bnd2 (fX12_soundIn n x1 x2 (wI μ 139 0 0)) fun u8 m9 => some (u8, m9)))
set_option maxRecDepth 100000 in
set_option maxHeartbeats 4000000 in
theorem tX12_sound {l : Launch} {w : WP} {sh : List Sh} {R : Rf} {μ : Mu} {r : Int32} {μ' : Mu} (hY : LY sh R) (n : Nat) (x1 : Int32) (x2 : Int32)  (h : fX12_sound n x1 x2 μ = some (r, μ')) : CM l w yX12_sound cX12_sound 3 (some .int) 3 0 0 sh R [.ref (wb w + 139), .int x1, .int x2] μ (some (.int r)) sh R μ' := by
  refine CM.of (plainFor_of_name pf_X12) (Nat.le_of_ble_eq_true rfl) fun Z C hr _ hR hw hl hE => ?_
  subst hw; subst hl
  have C : CX Z cX12_sound 3 RX12 := C
  show Wm Z (0, 0, sh, R) μ 0 [(0, .ref (wb (zw Z) + 139)), (1, .int x1), (2, .int x2)] []
  unfold fX12_sound at h
  refine r_aload_n C dX12_sound_0 0 rfl ?_
  refine r_iconst C dX12_sound_1 ic_0 ?_
  refine r_putI C fiX12_1 dX12_sound_2 (ly139 hY) ?_
  refine r_aload_n C dX12_sound_5 0 rfl ?_
  refine r_iload_n C dX12_sound_6 1 rfl ?_
  refine r_i2l C dX12_sound_7 ?_
  obtain ⟨u2, e1, h⟩ := bnd_inv h
  refine r_cVi (As := [.long (x1.toInt64)]) (rest := []) C hR mlX12_244 dX12_sound_8 (tX12_isBeach hY n (x1.toInt64)  e1) rfl rfl (ly139 hY) rfl (nle rfl) (nle rfl) (nle rfl) ?_
  refine r_if_ne 19 C dX12_sound_11 (by decide) (fun c3 => ?_) (fun c3 => ?_)
  · have h := (ite_inv h).2 c3
    refine r_iload_n C dX12_sound_19 2 rfl ?_
    refine r_i2l C dX12_sound_20 ?_
    refine r_lconst C dX12_sound_21 lc_0 ?_
    refine r_ldc2 C dX12_sound_22 klX12_247 ?_
    obtain ⟨u5, e4, h⟩ := bnd_inv h
    refine r_cSi (As := [.long (x2.toInt64), .long 0, .long 999]) (rest := []) C hR mlX12_130 dX12_sound_25 (tX12_within hY n (x2.toInt64) 0 999  e4) rfl rfl (nle rfl) (nle rfl) (nle rfl) ?_
    refine r_if_eq 40 C dX12_sound_28 (by decide) (fun c6 => ?_) (fun c6 => ?_)
    · have h := (ite_inv h).1 c6
      refine r_bipush C dX12_sound_40 bp_m3 ?_
      obtain ⟨h1, h2⟩ := Prod.mk.inj (Option.some.inj h)
      subst h1; subst h2
      exact r_iret C dX12_sound_42 hr hE
    · have h := (ite_inv h).2 c6
      refine r_aload_n C dX12_sound_31 0 rfl ?_
      refine r_iload_n C dX12_sound_32 1 rfl ?_
      refine r_iload_n C dX12_sound_33 2 rfl ?_
      obtain ⟨u8, m9, e7, h⟩ := bnd2_inv h
      refine r_cVi (As := [.int x1, .int x2]) (rest := []) C hR mlX12_249 dX12_sound_34 (tX12_soundIn hY n x1 x2  e7) rfl rfl (ly139 hY) rfl (nle rfl) (nle rfl) (nle rfl) ?_
      refine r_goto 42 C dX12_sound_37 (by decide) ?_
      obtain ⟨h1, h2⟩ := Prod.mk.inj (Option.some.inj h)
      subst h1; subst h2
      exact r_iret C dX12_sound_42 hr hE
  · have h := (ite_inv h).1 c3
    refine r_bipush C dX12_sound_14 bp_m2 ?_
    refine r_goto 42 C dX12_sound_16 (by decide) ?_
    obtain ⟨h1, h2⟩ := Prod.mk.inj (Option.some.inj h)
    subst h1; subst h2
    exact r_iret C dX12_sound_42 hr hE
def sX12_keeps_2 (n : Nat)  : Int32 × Mu → Option ((Int32 × Mu) ⊕ (Mu)) := fun q => match q with | (x1, μ) => if 116 ≤ x1 then (some (.inr μ)) else (gd (ib (64 + x1) 6726) (gd (ib x1 116) (some (.inl (x1 + 1, wI μ 146 (ix x1) (rI μ 140 (ix (64 + x1))))))))
set_option maxRecDepth 100000 in
set_option maxHeartbeats 4000000 in
theorem lX12_keeps_2 {Z : ZC} {sh : List Sh} {R : Rf} {o : (Int32 × Mu) ⊕ (Mu)} (C : CX Z cX12_keeps 2 RX12) (hR : zR Z = rm 0 0 0) (hY : LY sh R) (n : Nat)  (x1 : Int32) (μ : Mu) (h : sX12_keeps_2 n (x1, μ) = some o) (kin : ∀ (x1 : Int32) (μ : Mu), o = .inl (x1, μ) → Wm Z (0, 0, sh, R) μ 2 [(0, .ref (wb (zw Z) + 139)), (1, .int x1)] []) (kex0 : ∀ (μ : Mu), o = .inr μ → Wm Z (0, 0, sh, R) μ 29 [] []) : Wm Z (0, 0, sh, R) μ 2 [(0, .ref (wb (zw Z) + 139)), (1, .int x1)] [] := by
  unfold sX12_keeps_2 at h
  refine r_iload_n C dX12_keeps_2 1 rfl ?_
  refine r_bipush C dX12_keeps_3 bp_116 ?_
  refine r_icmp_ge 29 C dX12_keeps_5 (by decide) (fun c1 => ?_) (fun c1 => ?_)
  · have h := (ite_inv h).1 c1
    refine r_sub [] [] rfl ?_
    exact kex0 μ (Option.some.inj h).symm
  · have h := (ite_inv h).2 c1
    refine r_aload_n C dX12_keeps_8 0 rfl ?_
    refine r_getR C flX12_36 dX12_keeps_9 (ly139 hY) rfl (lr139_18 hY) ?_
    refine r_iload_n C dX12_keeps_12 1 rfl ?_
    refine r_aload_n C dX12_keeps_13 0 rfl ?_
    refine r_getR C flX12_13 dX12_keeps_14 (ly139 hY) rfl (lr139_1 hY) ?_
    refine r_bipush C dX12_keeps_17 bp_64 ?_
    refine r_iload_n C dX12_keeps_19 1 rfl ?_
    refine r_iadd C dX12_keeps_20 ?_
    obtain ⟨b2, h⟩ := gd_inv h
    refine r_iald C dX12_keeps_21 (ly140 hY) b2 ?_
    obtain ⟨b3, h⟩ := gd_inv h
    refine r_iast C dX12_keeps_22 (ly146 hY) b3 ?_
    refine r_iinc [(1, .int (x1 + 1)), (0, .ref (wb (zw Z) + 139))] C dX12_keeps_23 1 rfl (in_1 _) (by decide) rfl ?_
    refine r_goto 2 C dX12_keeps_26 (by decide) ?_
    refine r_sub [(0, .ref (wb (zw Z) + 139)), (1, .int (x1 + 1))] [1, 0] rfl ?_
    exact kin (x1 + 1) (wI μ 146 (ix x1) (rI μ 140 (ix (64 + x1)))) (Option.some.inj h).symm
def fX12_keeps (n : Nat)  (μ : Mu) : Option (Mu) := bnd (lp n (sX12_keeps_2 n) (0, μ)) fun q => match q with | m4 => some m4
set_option maxRecDepth 100000 in
set_option maxHeartbeats 4000000 in
theorem tX12_keeps {l : Launch} {w : WP} {sh : List Sh} {R : Rf} {μ : Mu} {μ' : Mu} (hY : LY sh R) (n : Nat)   (h : fX12_keeps n μ = some μ') : CM l w yX12_keeps cX12_keeps 2 none 0 0 0 sh R [.ref (wb w + 139)] μ none sh R μ' := by
  refine CM.of (plainFor_of_name pf_X12) (Nat.le_of_ble_eq_true rfl) fun Z C hr _ hR hw hl hE => ?_
  subst hw; subst hl
  have C : CX Z cX12_keeps 2 RX12 := C
  show Wm Z (0, 0, sh, R) μ 0 [(0, .ref (wb (zw Z) + 139))] []
  unfold fX12_keeps at h
  refine r_iconst C dX12_keeps_0 ic_0 ?_
  refine r_istore_n [(1, .int 0), (0, .ref (wb (zw Z) + 139))] C dX12_keeps_1 rfl (by decide) rfl ?_
  refine r_sub [(0, .ref (wb (zw Z) + 139)), (1, .int 0)] [1, 0] rfl ?_
  obtain ⟨m4, e5, h⟩ := bnd_inv h
  refine lp_all (sX12_keeps_2 n) (fun q => match q with | (z1, ν) => Wm Z (0, 0, sh, R) (ν) 2 [(0, .ref (wb (zw Z) + 139)), (1, .int z1)] []) (fun q => match q with | ν => Wm Z (0, 0, sh, R) (ν) 29 [] []) (fun q o h kin kex => ?_) n (0, μ) m4 e5 ?_
  · obtain ⟨z1, ν⟩ := q; exact lX12_keeps_2 C hR hY n    z1 ν h (fun z1 ν e => kin (z1, ν) e) (fun ν e => kex (ν) e)
  show Wm Z (0, 0, sh, R) m4 29 [] []
  have h := Option.some.inj h
  subst h
  exact r_vret C dX12_keeps_29 hr hE
def sX12_isAgain_2 (n : Nat)  : Int32 × Mu → Option ((Int32 × Mu) ⊕ (Mu)) := fun q => match q with | (x1, μ) => if 116 ≤ x1 then (some (.inr μ)) else (gd (ib x1 116) (gd (ib (64 + x1) 6726) (some (.inl (x1 + 1, wI μ 140 (ix (64 + x1)) (rI μ 146 (ix x1)))))))
set_option maxRecDepth 100000 in
set_option maxHeartbeats 4000000 in
theorem lX12_isAgain_2 {Z : ZC} {sh : List Sh} {R : Rf} {o : (Int32 × Mu) ⊕ (Mu)} (C : CX Z cX12_isAgain 2 RX12) (hR : zR Z = rm 0 0 0) (hY : LY sh R) (n : Nat)  (x1 : Int32) (μ : Mu) (h : sX12_isAgain_2 n (x1, μ) = some o) (kin : ∀ (x1 : Int32) (μ : Mu), o = .inl (x1, μ) → Wm Z (0, 0, sh, R) μ 2 [(0, .ref (wb (zw Z) + 139)), (1, .int x1)] []) (kex0 : ∀ (μ : Mu), o = .inr μ → Wm Z (0, 0, sh, R) μ 29 [] []) : Wm Z (0, 0, sh, R) μ 2 [(0, .ref (wb (zw Z) + 139)), (1, .int x1)] [] := by
  unfold sX12_isAgain_2 at h
  refine r_iload_n C dX12_isAgain_2 1 rfl ?_
  refine r_bipush C dX12_isAgain_3 bp_116 ?_
  refine r_icmp_ge 29 C dX12_isAgain_5 (by decide) (fun c1 => ?_) (fun c1 => ?_)
  · have h := (ite_inv h).1 c1
    refine r_sub [] [] rfl ?_
    exact kex0 μ (Option.some.inj h).symm
  · have h := (ite_inv h).2 c1
    refine r_aload_n C dX12_isAgain_8 0 rfl ?_
    refine r_getR C flX12_13 dX12_isAgain_9 (ly139 hY) rfl (lr139_1 hY) ?_
    refine r_bipush C dX12_isAgain_12 bp_64 ?_
    refine r_iload_n C dX12_isAgain_14 1 rfl ?_
    refine r_iadd C dX12_isAgain_15 ?_
    refine r_aload_n C dX12_isAgain_16 0 rfl ?_
    refine r_getR C flX12_36 dX12_isAgain_17 (ly139 hY) rfl (lr139_18 hY) ?_
    refine r_iload_n C dX12_isAgain_20 1 rfl ?_
    obtain ⟨b2, h⟩ := gd_inv h
    refine r_iald C dX12_isAgain_21 (ly146 hY) b2 ?_
    obtain ⟨b3, h⟩ := gd_inv h
    refine r_iast C dX12_isAgain_22 (ly140 hY) b3 ?_
    refine r_iinc [(1, .int (x1 + 1)), (0, .ref (wb (zw Z) + 139))] C dX12_isAgain_23 1 rfl (in_1 _) (by decide) rfl ?_
    refine r_goto 2 C dX12_isAgain_26 (by decide) ?_
    refine r_sub [(0, .ref (wb (zw Z) + 139)), (1, .int (x1 + 1))] [1, 0] rfl ?_
    exact kin (x1 + 1) (wI μ 140 (ix (64 + x1)) (rI μ 146 (ix x1))) (Option.some.inj h).symm
def fX12_isAgain (n : Nat)  (μ : Mu) : Option (Mu) := bnd (lp n (sX12_isAgain_2 n) (0, μ)) fun q => match q with | m4 => some m4
set_option maxRecDepth 100000 in
set_option maxHeartbeats 4000000 in
theorem tX12_isAgain {l : Launch} {w : WP} {sh : List Sh} {R : Rf} {μ : Mu} {μ' : Mu} (hY : LY sh R) (n : Nat)   (h : fX12_isAgain n μ = some μ') : CM l w yX12_isAgain cX12_isAgain 2 none 0 0 0 sh R [.ref (wb w + 139)] μ none sh R μ' := by
  refine CM.of (plainFor_of_name pf_X12) (Nat.le_of_ble_eq_true rfl) fun Z C hr _ hR hw hl hE => ?_
  subst hw; subst hl
  have C : CX Z cX12_isAgain 2 RX12 := C
  show Wm Z (0, 0, sh, R) μ 0 [(0, .ref (wb (zw Z) + 139))] []
  unfold fX12_isAgain at h
  refine r_iconst C dX12_isAgain_0 ic_0 ?_
  refine r_istore_n [(1, .int 0), (0, .ref (wb (zw Z) + 139))] C dX12_isAgain_1 rfl (by decide) rfl ?_
  refine r_sub [(0, .ref (wb (zw Z) + 139)), (1, .int 0)] [1, 0] rfl ?_
  obtain ⟨m4, e5, h⟩ := bnd_inv h
  refine lp_all (sX12_isAgain_2 n) (fun q => match q with | (z1, ν) => Wm Z (0, 0, sh, R) (ν) 2 [(0, .ref (wb (zw Z) + 139)), (1, .int z1)] []) (fun q => match q with | ν => Wm Z (0, 0, sh, R) (ν) 29 [] []) (fun q o h kin kex => ?_) n (0, μ) m4 e5 ?_
  · obtain ⟨z1, ν⟩ := q; exact lX12_isAgain_2 C hR hY n    z1 ν h (fun z1 ν e => kin (z1, ν) e) (fun ν e => kex (ν) e)
  show Wm Z (0, 0, sh, R) m4 29 [] []
  have h := Option.some.inj h
  subst h
  exact r_vret C dX12_isAgain_29 hr hE
def sX12_notes_62 (n : Nat)  : Int32 × Mu → Option ((Int32 × Mu) ⊕ (Mu)) := fun q => match q with | (x1, μ) => if 116 ≤ x1 then (some (.inr μ)) else (gd (ib x1 116) (gd (ib ((181 + (116 * (rI μ 140 180))) + x1) 6726) (some (.inl (x1 + 1, wI μ 140 (ix ((181 + (116 * (rI μ 140 180))) + x1)) (rI μ 146 (ix x1)))))))
set_option maxRecDepth 100000 in
set_option maxHeartbeats 4000000 in
theorem lX12_notes_62 {Z : ZC} {sh : List Sh} {R : Rf} {o : (Int32 × Mu) ⊕ (Mu)} (C : CX Z cX12_notes 2 RX12) (hR : zR Z = rm 0 0 0) (hY : LY sh R) (n : Nat)  (x1 : Int32) (μ : Mu) (h : sX12_notes_62 n (x1, μ) = some o) (kin : ∀ (x1 : Int32) (μ : Mu), o = .inl (x1, μ) → Wm Z (0, 0, sh, R) μ 62 [(0, .ref (wb (zw Z) + 139)), (1, .int x1)] []) (kex0 : ∀ (μ : Mu), o = .inr μ → Wm Z (0, 0, sh, R) μ 102 [(0, .ref (wb (zw Z) + 139))] []) : Wm Z (0, 0, sh, R) μ 62 [(0, .ref (wb (zw Z) + 139)), (1, .int x1)] [] := by
  unfold sX12_notes_62 at h
  refine r_iload_n C dX12_notes_62 1 rfl ?_
  refine r_bipush C dX12_notes_63 bp_116 ?_
  refine r_icmp_ge 102 C dX12_notes_65 (by decide) (fun c2 => ?_) (fun c2 => ?_)
  · have h := (ite_inv h).1 c2
    refine r_sub [(0, .ref (wb (zw Z) + 139))] [0] rfl ?_
    exact kex0 μ (Option.some.inj h).symm
  · have h := (ite_inv h).2 c2
    refine r_aload_n C dX12_notes_68 0 rfl ?_
    refine r_getR C flX12_13 dX12_notes_69 (ly139 hY) rfl (lr139_1 hY) ?_
    refine r_sipush C dX12_notes_72 sp_181 ?_
    refine r_bipush C dX12_notes_75 bp_116 ?_
    refine r_aload_n C dX12_notes_77 0 rfl ?_
    refine r_getR C flX12_13 dX12_notes_78 (ly139 hY) rfl (lr139_1 hY) ?_
    refine r_sipush C dX12_notes_81 sp_180 ?_
    refine r_iald C dX12_notes_84 (ly140 hY) (by decide) ?_
    refine r_imul C dX12_notes_85 ?_
    refine r_iadd C dX12_notes_86 ?_
    refine r_iload_n C dX12_notes_87 1 rfl ?_
    refine r_iadd C dX12_notes_88 ?_
    refine r_aload_n C dX12_notes_89 0 rfl ?_
    refine r_getR C flX12_36 dX12_notes_90 (ly139 hY) rfl (lr139_18 hY) ?_
    refine r_iload_n C dX12_notes_93 1 rfl ?_
    obtain ⟨b3, h⟩ := gd_inv h
    refine r_iald C dX12_notes_94 (ly146 hY) b3 ?_
    obtain ⟨b4, h⟩ := gd_inv h
    refine r_iast C dX12_notes_95 (ly140 hY) b4 ?_
    refine r_iinc [(1, .int (x1 + 1)), (0, .ref (wb (zw Z) + 139))] C dX12_notes_96 1 rfl (in_1 _) (by decide) rfl ?_
    refine r_goto 62 C dX12_notes_99 (by decide) ?_
    refine r_sub [(0, .ref (wb (zw Z) + 139)), (1, .int (x1 + 1))] [1, 0] rfl ?_
    exact kin (x1 + 1) (wI μ 140 (ix ((181 + (116 * (rI μ 140 180))) + x1)) (rI μ 146 (ix x1))) (Option.some.inj h).symm
def jX12_notes_60 (n : Nat)  (μ : Mu) : Option (Mu) := bnd (lp n (sX12_notes_62 n) (0, μ)) fun q => match q with | m5 => some (wI m5 140 180 ((rI m5 140 180) + 1))
set_option maxRecDepth 100000 in
set_option maxHeartbeats 4000000 in
theorem kX12_notes_60 {Z : ZC} {sh : List Sh} {R : Rf} {μ' : Mu} (C : CX Z cX12_notes 2 RX12) (hR : zR Z = rm 0 0 0) (hY : LY sh R) (n : Nat)  (μ : Mu) (h : jX12_notes_60 n μ = some μ') (hr : (zme Z).sig.returnType = none) (hE : zEnd Z (0, 0, sh, R) μ' none) : Wm Z (0, 0, sh, R) μ 60 [(0, .ref (wb (zw Z) + 139))] [] := by
  unfold jX12_notes_60 at h
  refine r_iconst C dX12_notes_60 ic_0 ?_
  refine r_istore_n [(1, .int 0), (0, .ref (wb (zw Z) + 139))] C dX12_notes_61 rfl (by decide) rfl ?_
  refine r_sub [(0, .ref (wb (zw Z) + 139)), (1, .int 0)] [1, 0] rfl ?_
  obtain ⟨m5, e6, h⟩ := bnd_inv h
  refine lp_all (sX12_notes_62 n) (fun q => match q with | (z1, ν) => Wm Z (0, 0, sh, R) (ν) 62 [(0, .ref (wb (zw Z) + 139)), (1, .int z1)] []) (fun q => match q with | ν => Wm Z (0, 0, sh, R) (ν) 102 [(0, .ref (wb (zw Z) + 139))] []) (fun q o h kin kex => ?_) n (0, μ) m5 e6 ?_
  · obtain ⟨z1, ν⟩ := q; exact lX12_notes_62 C hR hY n    z1 ν h (fun z1 ν e => kin (z1, ν) e) (fun ν e => kex (ν) e)
  show Wm Z (0, 0, sh, R) m5 102 [(0, .ref (wb (zw Z) + 139))] []
  refine r_aload_n C dX12_notes_102 0 rfl ?_
  refine r_getR C flX12_13 dX12_notes_103 (ly139 hY) rfl (lr139_1 hY) ?_
  refine r_sipush C dX12_notes_106 sp_180 ?_
  refine r_dup2 C dX12_notes_109 rfl rfl ?_
  refine r_iald C dX12_notes_110 (ly140 hY) (by decide) ?_
  refine r_iconst C dX12_notes_111 ic_1 ?_
  refine r_iadd C dX12_notes_112 ?_
  refine r_iast C dX12_notes_113 (ly140 hY) (by decide) ?_
  have h := Option.some.inj h
  subst h
  exact r_vret C dX12_notes_114 hr hE
def sX12_notes_15 (n : Nat)  : Int32 × Mu → Option ((Int32 × Mu) ⊕ (Mu)) := fun q => match q with | (x1, μ) => if 1044 ≤ x1 then (some (.inr μ)) else (gd (ib (297 + x1) 6726) (gd (ib (181 + x1) 6726) (some (.inl (x1 + 1, wI μ 140 (ix (181 + x1)) (rI μ 140 (ix (297 + x1))))))))
set_option maxRecDepth 100000 in
set_option maxHeartbeats 4000000 in
theorem lX12_notes_15 {Z : ZC} {sh : List Sh} {R : Rf} {o : (Int32 × Mu) ⊕ (Mu)} (C : CX Z cX12_notes 2 RX12) (hR : zR Z = rm 0 0 0) (hY : LY sh R) (n : Nat)  (x1 : Int32) (μ : Mu) (h : sX12_notes_15 n (x1, μ) = some o) (kin : ∀ (x1 : Int32) (μ : Mu), o = .inl (x1, μ) → Wm Z (0, 0, sh, R) μ 15 [(0, .ref (wb (zw Z) + 139)), (1, .int x1)] []) (kex0 : ∀ (μ : Mu), o = .inr μ → Wm Z (0, 0, sh, R) μ 48 [(0, .ref (wb (zw Z) + 139))] []) : Wm Z (0, 0, sh, R) μ 15 [(0, .ref (wb (zw Z) + 139)), (1, .int x1)] [] := by
  unfold sX12_notes_15 at h
  refine r_iload_n C dX12_notes_15 1 rfl ?_
  refine r_sipush C dX12_notes_16 sp_1044 ?_
  refine r_icmp_ge 48 C dX12_notes_19 (by decide) (fun c7 => ?_) (fun c7 => ?_)
  · have h := (ite_inv h).1 c7
    refine r_sub [(0, .ref (wb (zw Z) + 139))] [0] rfl ?_
    exact kex0 μ (Option.some.inj h).symm
  · have h := (ite_inv h).2 c7
    refine r_aload_n C dX12_notes_22 0 rfl ?_
    refine r_getR C flX12_13 dX12_notes_23 (ly139 hY) rfl (lr139_1 hY) ?_
    refine r_sipush C dX12_notes_26 sp_181 ?_
    refine r_iload_n C dX12_notes_29 1 rfl ?_
    refine r_iadd C dX12_notes_30 ?_
    refine r_aload_n C dX12_notes_31 0 rfl ?_
    refine r_getR C flX12_13 dX12_notes_32 (ly139 hY) rfl (lr139_1 hY) ?_
    refine r_sipush C dX12_notes_35 sp_297 ?_
    refine r_iload_n C dX12_notes_38 1 rfl ?_
    refine r_iadd C dX12_notes_39 ?_
    obtain ⟨b8, h⟩ := gd_inv h
    refine r_iald C dX12_notes_40 (ly140 hY) b8 ?_
    obtain ⟨b9, h⟩ := gd_inv h
    refine r_iast C dX12_notes_41 (ly140 hY) b9 ?_
    refine r_iinc [(1, .int (x1 + 1)), (0, .ref (wb (zw Z) + 139))] C dX12_notes_42 1 rfl (in_1 _) (by decide) rfl ?_
    refine r_goto 15 C dX12_notes_45 (by decide) ?_
    refine r_sub [(0, .ref (wb (zw Z) + 139)), (1, .int (x1 + 1))] [1, 0] rfl ?_
    exact kin (x1 + 1) (wI μ 140 (ix (181 + x1)) (rI μ 140 (ix (297 + x1)))) (Option.some.inj h).symm
def fX12_notes (n : Nat)  (μ : Mu) : Option (Mu) := if (rI μ 140 180) = 10 then (bnd (lp n (sX12_notes_15 n) (0, μ)) fun q => match q with | m10 => jX12_notes_60 n (wI m10 140 180 ((rI m10 140 180) - 1))) else (jX12_notes_60 n μ)
set_option maxRecDepth 100000 in
set_option maxHeartbeats 4000000 in
theorem tX12_notes {l : Launch} {w : WP} {sh : List Sh} {R : Rf} {μ : Mu} {μ' : Mu} (hY : LY sh R) (n : Nat)   (h : fX12_notes n μ = some μ') : CM l w yX12_notes cX12_notes 2 none 0 0 0 sh R [.ref (wb w + 139)] μ none sh R μ' := by
  refine CM.of (plainFor_of_name pf_X12) (Nat.le_of_ble_eq_true rfl) fun Z C hr _ hR hw hl hE => ?_
  subst hw; subst hl
  have C : CX Z cX12_notes 2 RX12 := C
  show Wm Z (0, 0, sh, R) μ 0 [(0, .ref (wb (zw Z) + 139))] []
  unfold fX12_notes at h
  refine r_aload_n C dX12_notes_0 0 rfl ?_
  refine r_getR C flX12_13 dX12_notes_1 (ly139 hY) rfl (lr139_1 hY) ?_
  refine r_sipush C dX12_notes_4 sp_180 ?_
  refine r_iald C dX12_notes_7 (ly140 hY) (by decide) ?_
  refine r_bipush C dX12_notes_8 bp_10 ?_
  refine r_icmp_ne 60 C dX12_notes_10 (by decide) (fun c1 => ?_) (fun c1 => ?_)
  · have h := (ite_inv h).2 c1
    exact kX12_notes_60 C hR hY n   μ h hr hE
  · have h := (ite_inv h).1 c1
    refine r_iconst C dX12_notes_13 ic_0 ?_
    refine r_istore_n [(1, .int 0), (0, .ref (wb (zw Z) + 139))] C dX12_notes_14 rfl (by decide) rfl ?_
    refine r_sub [(0, .ref (wb (zw Z) + 139)), (1, .int 0)] [1, 0] rfl ?_
    obtain ⟨m10, e11, h⟩ := bnd_inv h
    refine lp_all (sX12_notes_15 n) (fun q => match q with | (z1, ν) => Wm Z (0, 0, sh, R) (ν) 15 [(0, .ref (wb (zw Z) + 139)), (1, .int z1)] []) (fun q => match q with | ν => Wm Z (0, 0, sh, R) (ν) 48 [(0, .ref (wb (zw Z) + 139))] []) (fun q o h kin kex => ?_) n (0, μ) m10 e11 ?_
    · obtain ⟨z1, ν⟩ := q; exact lX12_notes_15 C hR hY n    z1 ν h (fun z1 ν e => kin (z1, ν) e) (fun ν e => kex (ν) e)
    show Wm Z (0, 0, sh, R) m10 48 [(0, .ref (wb (zw Z) + 139))] []
    refine r_aload_n C dX12_notes_48 0 rfl ?_
    refine r_getR C flX12_13 dX12_notes_49 (ly139 hY) rfl (lr139_1 hY) ?_
    refine r_sipush C dX12_notes_52 sp_180 ?_
    refine r_dup2 C dX12_notes_55 rfl rfl ?_
    refine r_iald C dX12_notes_56 (ly140 hY) (by decide) ?_
    refine r_iconst C dX12_notes_57 ic_1 ?_
    refine r_isub C dX12_notes_58 ?_
    refine r_iast C dX12_notes_59 (ly140 hY) (by decide) ?_
    exact kX12_notes_60 C hR hY n   (wI m10 140 180 ((rI m10 140 180) - 1)) h hr hE
def sX12_goesOut_2 (n : Nat) (x1 : Int32) : Int32 × Mu → Option ((Int32 × Mu) ⊕ (Mu)) := fun q => match q with | (x2, μ) => if (rI μ 140 2) ≤ x2 then (some (.inr μ)) else (gd (ib (84 + x1) 6726) (bnd (fX12_isIn n (((rI μ 140 (ix (84 + x1))) ||| (rI μ 139 19)).toInt64) x2 μ) fun u4 => if u4 = 0 then (gd (ib (76 + x1) 6726) (gd (ib (14 + x2) 6726) (bnd (fX12_isIn n ((rI μ 140 (ix (76 + x1))).toInt64) (rI μ 140 (ix (14 + x2))) μ) fun u9 => if u9 = 0 then (some (.inl (x2 + 1, μ))) else (bnd2 (fX12_isOpen n x2 μ) fun u12 m13 => if u12 = 0 then (some (.inl (x2 + 1, m13))) else (gd (ib (84 + x1) 6726) (gd (ib (84 + x1) 6726) (gd (ib (34 + x2) 6726) (gd (ib ((100 + (10 * x1)) + x2) 6726) (some (.inl (x2 + 1, wI (wI m13 140 (ix (84 + x1)) ((rI m13 140 (ix (84 + x1))) ||| (shl 1 x2))) 140 (ix ((100 + (10 * x1)) + x2)) (rI (wI m13 140 (ix (84 + x1)) ((rI m13 140 (ix (84 + x1))) ||| (shl 1 x2))) 140 (ix (34 + x2)))))))))))))) else (some (.inl (x2 + 1, μ)))))
set_option maxRecDepth 100000 in
set_option maxHeartbeats 4000000 in
theorem lX12_goesOut_2 {Z : ZC} {sh : List Sh} {R : Rf} {o : (Int32 × Mu) ⊕ (Mu)} (C : CX Z cX12_goesOut 3 RX12) (hR : zR Z = rm 3 0 0) (hY : LY sh R) (n : Nat) (x1 : Int32) (x2 : Int32) (μ : Mu) (h : sX12_goesOut_2 n x1 (x2, μ) = some o) (kin : ∀ (x2 : Int32) (μ : Mu), o = .inl (x2, μ) → Wm Z (0, 0, sh, R) μ 2 [(0, .ref (wb (zw Z) + 139)), (1, .int x1), (2, .int x2)] []) (kex0 : ∀ (μ : Mu), o = .inr μ → Wm Z (0, 0, sh, R) μ 114 [] []) : Wm Z (0, 0, sh, R) μ 2 [(0, .ref (wb (zw Z) + 139)), (1, .int x1), (2, .int x2)] [] := by
  unfold sX12_goesOut_2 at h
  refine r_iload_n C dX12_goesOut_2 2 rfl ?_
  refine r_aload_n C dX12_goesOut_3 0 rfl ?_
  refine r_getR C flX12_13 dX12_goesOut_4 (ly139 hY) rfl (lr139_1 hY) ?_
  refine r_iconst C dX12_goesOut_7 ic_2 ?_
  refine r_iald C dX12_goesOut_8 (ly140 hY) (by decide) ?_
  refine r_icmp_ge 114 C dX12_goesOut_9 (by decide) (fun c1 => ?_) (fun c1 => ?_)
  · have h := (ite_inv h).1 c1
    refine r_sub [] [] rfl ?_
    exact kex0 μ (Option.some.inj h).symm
  · have h := (ite_inv h).2 c1
    refine r_aload_n C dX12_goesOut_12 0 rfl ?_
    refine r_getR C flX12_13 dX12_goesOut_13 (ly139 hY) rfl (lr139_1 hY) ?_
    refine r_bipush C dX12_goesOut_16 bp_84 ?_
    refine r_iload_n C dX12_goesOut_18 1 rfl ?_
    refine r_iadd C dX12_goesOut_19 ?_
    obtain ⟨b2, h⟩ := gd_inv h
    refine r_iald C dX12_goesOut_20 (ly140 hY) b2 ?_
    refine r_aload_n C dX12_goesOut_21 0 rfl ?_
    refine r_getI C flX12_252 dX12_goesOut_22 (ly139 hY) rfl ?_
    refine r_ior C dX12_goesOut_25 ?_
    refine r_i2l C dX12_goesOut_26 ?_
    refine r_iload_n C dX12_goesOut_27 2 rfl ?_
    obtain ⟨u4, e3, h⟩ := bnd_inv h
    refine r_cSi (As := [.long (((rI μ 140 (ix (84 + x1))) ||| (rI μ 139 19)).toInt64), .int x2]) (rest := []) C hR mlX12_213 dX12_goesOut_28 (tX12_isIn hY n (((rI μ 140 (ix (84 + x1))) ||| (rI μ 139 19)).toInt64) x2  e3) rfl rfl (nle rfl) (nle rfl) (nle rfl) ?_
    refine r_if_ne 108 C dX12_goesOut_31 (by decide) (fun c5 => ?_) (fun c5 => ?_)
    · have h := (ite_inv h).2 c5
      refine r_iinc [(2, .int (x2 + 1)), (0, .ref (wb (zw Z) + 139)), (1, .int x1)] C dX12_goesOut_108 2 rfl (in_1 _) (by decide) rfl ?_
      refine r_goto 2 C dX12_goesOut_111 (by decide) ?_
      refine r_sub [(0, .ref (wb (zw Z) + 139)), (1, .int x1), (2, .int (x2 + 1))] [1, 2, 0] rfl ?_
      exact kin (x2 + 1) μ (Option.some.inj h).symm
    · have h := (ite_inv h).1 c5
      refine r_aload_n C dX12_goesOut_34 0 rfl ?_
      refine r_getR C flX12_13 dX12_goesOut_35 (ly139 hY) rfl (lr139_1 hY) ?_
      refine r_bipush C dX12_goesOut_38 bp_76 ?_
      refine r_iload_n C dX12_goesOut_40 1 rfl ?_
      refine r_iadd C dX12_goesOut_41 ?_
      obtain ⟨b6, h⟩ := gd_inv h
      refine r_iald C dX12_goesOut_42 (ly140 hY) b6 ?_
      refine r_i2l C dX12_goesOut_43 ?_
      refine r_aload_n C dX12_goesOut_44 0 rfl ?_
      refine r_getR C flX12_13 dX12_goesOut_45 (ly139 hY) rfl (lr139_1 hY) ?_
      refine r_bipush C dX12_goesOut_48 bp_14 ?_
      refine r_iload_n C dX12_goesOut_50 2 rfl ?_
      refine r_iadd C dX12_goesOut_51 ?_
      obtain ⟨b7, h⟩ := gd_inv h
      refine r_iald C dX12_goesOut_52 (ly140 hY) b7 ?_
      obtain ⟨u9, e8, h⟩ := bnd_inv h
      refine r_cSi (As := [.long ((rI μ 140 (ix (76 + x1))).toInt64), .int (rI μ 140 (ix (14 + x2)))]) (rest := []) C hR mlX12_213 dX12_goesOut_53 (tX12_isIn hY n ((rI μ 140 (ix (76 + x1))).toInt64) (rI μ 140 (ix (14 + x2)))  e8) rfl rfl (nle rfl) (nle rfl) (nle rfl) ?_
      refine r_if_eq 108 C dX12_goesOut_56 (by decide) (fun c10 => ?_) (fun c10 => ?_)
      · have h := (ite_inv h).1 c10
        refine r_iinc [(2, .int (x2 + 1)), (0, .ref (wb (zw Z) + 139)), (1, .int x1)] C dX12_goesOut_108 2 rfl (in_1 _) (by decide) rfl ?_
        refine r_goto 2 C dX12_goesOut_111 (by decide) ?_
        refine r_sub [(0, .ref (wb (zw Z) + 139)), (1, .int x1), (2, .int (x2 + 1))] [1, 2, 0] rfl ?_
        exact kin (x2 + 1) μ (Option.some.inj h).symm
      · have h := (ite_inv h).2 c10
        refine r_aload_n C dX12_goesOut_59 0 rfl ?_
        refine r_iload_n C dX12_goesOut_60 2 rfl ?_
        obtain ⟨u12, m13, e11, h⟩ := bnd2_inv h
        refine r_cVi (As := [.int x2]) (rest := []) C hR mlX12_221 dX12_goesOut_61 (tX12_isOpen hY n x2  e11) rfl rfl (ly139 hY) rfl (nle rfl) (nle rfl) (nle rfl) ?_
        refine r_if_ne 70 C dX12_goesOut_64 (by decide) (fun c14 => ?_) (fun c14 => ?_)
        · have h := (ite_inv h).2 c14
          refine r_aload_n C dX12_goesOut_70 0 rfl ?_
          refine r_getR C flX12_13 dX12_goesOut_71 (ly139 hY) rfl (lr139_1 hY) ?_
          refine r_bipush C dX12_goesOut_74 bp_84 ?_
          refine r_iload_n C dX12_goesOut_76 1 rfl ?_
          refine r_iadd C dX12_goesOut_77 ?_
          refine r_dup2 C dX12_goesOut_78 rfl rfl ?_
          obtain ⟨b15, h⟩ := gd_inv h
          refine r_iald C dX12_goesOut_79 (ly140 hY) b15 ?_
          refine r_iconst C dX12_goesOut_80 ic_1 ?_
          refine r_iload_n C dX12_goesOut_81 2 rfl ?_
          refine r_ishl C dX12_goesOut_82 ?_
          refine r_ior C dX12_goesOut_83 ?_
          obtain ⟨b16, h⟩ := gd_inv h
          refine r_iast C dX12_goesOut_84 (ly140 hY) b16 ?_
          refine r_aload_n C dX12_goesOut_85 0 rfl ?_
          refine r_getR C flX12_13 dX12_goesOut_86 (ly139 hY) rfl (lr139_1 hY) ?_
          refine r_bipush C dX12_goesOut_89 bp_100 ?_
          refine r_bipush C dX12_goesOut_91 bp_10 ?_
          refine r_iload_n C dX12_goesOut_93 1 rfl ?_
          refine r_imul C dX12_goesOut_94 ?_
          refine r_iadd C dX12_goesOut_95 ?_
          refine r_iload_n C dX12_goesOut_96 2 rfl ?_
          refine r_iadd C dX12_goesOut_97 ?_
          refine r_aload_n C dX12_goesOut_98 0 rfl ?_
          refine r_getR C flX12_13 dX12_goesOut_99 (ly139 hY) rfl (lr139_1 hY) ?_
          refine r_bipush C dX12_goesOut_102 bp_34 ?_
          refine r_iload_n C dX12_goesOut_104 2 rfl ?_
          refine r_iadd C dX12_goesOut_105 ?_
          obtain ⟨b17, h⟩ := gd_inv h
          refine r_iald C dX12_goesOut_106 (ly140 hY) b17 ?_
          obtain ⟨b18, h⟩ := gd_inv h
          refine r_iast C dX12_goesOut_107 (ly140 hY) b18 ?_
          refine r_iinc [(2, .int (x2 + 1)), (0, .ref (wb (zw Z) + 139)), (1, .int x1)] C dX12_goesOut_108 2 rfl (in_1 _) (by decide) rfl ?_
          refine r_goto 2 C dX12_goesOut_111 (by decide) ?_
          refine r_sub [(0, .ref (wb (zw Z) + 139)), (1, .int x1), (2, .int (x2 + 1))] [1, 2, 0] rfl ?_
          exact kin (x2 + 1) (wI (wI m13 140 (ix (84 + x1)) ((rI m13 140 (ix (84 + x1))) ||| (shl 1 x2))) 140 (ix ((100 + (10 * x1)) + x2)) (rI (wI m13 140 (ix (84 + x1)) ((rI m13 140 (ix (84 + x1))) ||| (shl 1 x2))) 140 (ix (34 + x2)))) (Option.some.inj h).symm
        · have h := (ite_inv h).1 c14
          refine r_goto 108 C dX12_goesOut_67 (by decide) ?_
          refine r_iinc [(2, .int (x2 + 1)), (0, .ref (wb (zw Z) + 139)), (1, .int x1)] C dX12_goesOut_108 2 rfl (in_1 _) (by decide) rfl ?_
          refine r_goto 2 C dX12_goesOut_111 (by decide) ?_
          refine r_sub [(0, .ref (wb (zw Z) + 139)), (1, .int x1), (2, .int (x2 + 1))] [1, 2, 0] rfl ?_
          exact kin (x2 + 1) m13 (Option.some.inj h).symm
def fX12_goesOut (n : Nat) (x1 : Int32) (μ : Mu) : Option (Mu) := bnd (lp n (sX12_goesOut_2 n x1) (0, μ)) fun q => match q with | m19 => some m19
set_option maxRecDepth 100000 in
set_option maxHeartbeats 4000000 in
theorem tX12_goesOut {l : Launch} {w : WP} {sh : List Sh} {R : Rf} {μ : Mu} {μ' : Mu} (hY : LY sh R) (n : Nat) (x1 : Int32)  (h : fX12_goesOut n x1 μ = some μ') : CM l w yX12_goesOut cX12_goesOut 3 none 3 0 0 sh R [.ref (wb w + 139), .int x1] μ none sh R μ' := by
  refine CM.of (plainFor_of_name pf_X12) (Nat.le_of_ble_eq_true rfl) fun Z C hr _ hR hw hl hE => ?_
  subst hw; subst hl
  have C : CX Z cX12_goesOut 3 RX12 := C
  show Wm Z (0, 0, sh, R) μ 0 [(0, .ref (wb (zw Z) + 139)), (1, .int x1)] []
  unfold fX12_goesOut at h
  refine r_iconst C dX12_goesOut_0 ic_0 ?_
  refine r_istore_n [(2, .int 0), (0, .ref (wb (zw Z) + 139)), (1, .int x1)] C dX12_goesOut_1 rfl (by decide) rfl ?_
  refine r_sub [(0, .ref (wb (zw Z) + 139)), (1, .int x1), (2, .int 0)] [1, 2, 0] rfl ?_
  obtain ⟨m19, e20, h⟩ := bnd_inv h
  refine lp_all (sX12_goesOut_2 n x1) (fun q => match q with | (z2, ν) => Wm Z (0, 0, sh, R) (ν) 2 [(0, .ref (wb (zw Z) + 139)), (1, .int x1), (2, .int z2)] []) (fun q => match q with | ν => Wm Z (0, 0, sh, R) (ν) 114 [] []) (fun q o h kin kex => ?_) n (0, μ) m19 e20 ?_
  · obtain ⟨z2, ν⟩ := q; exact lX12_goesOut_2 C hR hY n   x1 z2 ν h (fun z2 ν e => kin (z2, ν) e) (fun ν e => kex (ν) e)
  show Wm Z (0, 0, sh, R) m19 114 [] []
  have h := Option.some.inj h
  subst h
  exact r_vret C dX12_goesOut_114 hr hE
def sX12_comesAll_2 (n : Nat) (x1 : Int32) : Int32 × Mu → Option ((Int32 × Mu) ⊕ (Mu)) := fun q => match q with | (x2, μ) => if (rI μ 140 2) ≤ x2 then (some (.inr μ)) else (gd (ib ((100 + (10 * x1)) + x2) 6726) (if (rI μ 140 (ix ((100 + (10 * x1)) + x2))) = 0 then (some (.inl (x2 + 1, μ))) else (gd (ib ((100 + (10 * x1)) + x2) 6726) (gd (ib ((100 + (10 * x1)) + x2) 6726) (gd (ib ((100 + (10 * x1)) + x2) 6726) (if (rI (wI μ 140 (ix ((100 + (10 * x1)) + x2)) ((rI μ 140 (ix ((100 + (10 * x1)) + x2))) - 1)) 140 (ix ((100 + (10 * x1)) + x2))) = 0 then (gd (ib (76 + x1) 6726) (gd (ib (24 + x2) 6726) (gd (ib (76 + x1) 6726) (some (.inl (x2 + 1, wI (wI μ 140 (ix ((100 + (10 * x1)) + x2)) ((rI μ 140 (ix ((100 + (10 * x1)) + x2))) - 1)) 140 (ix (76 + x1)) ((rI (wI μ 140 (ix ((100 + (10 * x1)) + x2)) ((rI μ 140 (ix ((100 + (10 * x1)) + x2))) - 1)) 140 (ix (76 + x1))) ||| (shl 1 (rI (wI μ 140 (ix ((100 + (10 * x1)) + x2)) ((rI μ 140 (ix ((100 + (10 * x1)) + x2))) - 1)) 140 (ix (24 + x2))))))))))) else (some (.inl (x2 + 1, wI μ 140 (ix ((100 + (10 * x1)) + x2)) ((rI μ 140 (ix ((100 + (10 * x1)) + x2))) - 1))))))))))
set_option maxRecDepth 100000 in
set_option maxHeartbeats 4000000 in
theorem lX12_comesAll_2 {Z : ZC} {sh : List Sh} {R : Rf} {o : (Int32 × Mu) ⊕ (Mu)} (C : CX Z cX12_comesAll 4 RX12) (hR : zR Z = rm 0 0 0) (hY : LY sh R) (n : Nat) (x1 : Int32) (x2 : Int32) (μ : Mu) (h : sX12_comesAll_2 n x1 (x2, μ) = some o) (kin : ∀ (x2 : Int32) (μ : Mu), o = .inl (x2, μ) → Wm Z (0, 0, sh, R) μ 2 [(0, .ref (wb (zw Z) + 139)), (1, .int x1), (2, .int x2)] []) (kex0 : ∀ (μ : Mu), o = .inr μ → Wm Z (0, 0, sh, R) μ 82 [] []) : Wm Z (0, 0, sh, R) μ 2 [(0, .ref (wb (zw Z) + 139)), (1, .int x1), (2, .int x2)] [] := by
  unfold sX12_comesAll_2 at h
  refine r_iload_n C dX12_comesAll_2 2 rfl ?_
  refine r_aload_n C dX12_comesAll_3 0 rfl ?_
  refine r_getR C flX12_13 dX12_comesAll_4 (ly139 hY) rfl (lr139_1 hY) ?_
  refine r_iconst C dX12_comesAll_7 ic_2 ?_
  refine r_iald C dX12_comesAll_8 (ly140 hY) (by decide) ?_
  refine r_icmp_ge 82 C dX12_comesAll_9 (by decide) (fun c1 => ?_) (fun c1 => ?_)
  · have h := (ite_inv h).1 c1
    refine r_sub [] [] rfl ?_
    exact kex0 μ (Option.some.inj h).symm
  · have h := (ite_inv h).2 c1
    refine r_bipush C dX12_comesAll_12 bp_100 ?_
    refine r_bipush C dX12_comesAll_14 bp_10 ?_
    refine r_iload_n C dX12_comesAll_16 1 rfl ?_
    refine r_imul C dX12_comesAll_17 ?_
    refine r_iadd C dX12_comesAll_18 ?_
    refine r_iload_n C dX12_comesAll_19 2 rfl ?_
    refine r_iadd C dX12_comesAll_20 ?_
    refine r_istore_n [(3, .int ((100 + (10 * x1)) + x2)), (0, .ref (wb (zw Z) + 139)), (1, .int x1), (2, .int x2)] C dX12_comesAll_21 rfl (by decide) rfl ?_
    refine r_aload_n C dX12_comesAll_22 1 rfl ?_
    refine r_getR C flX12_13 dX12_comesAll_23 (ly139 hY) rfl (lr139_1 hY) ?_
    refine r_iload_n C dX12_comesAll_26 0 rfl ?_
    obtain ⟨b2, h⟩ := gd_inv h
    refine r_iald C dX12_comesAll_27 (ly140 hY) b2 ?_
    refine r_if_ne 34 C dX12_comesAll_28 (by decide) (fun c3 => ?_) (fun c3 => ?_)
    · have h := (ite_inv h).2 c3
      refine r_aload_n C dX12_comesAll_34 1 rfl ?_
      refine r_getR C flX12_13 dX12_comesAll_35 (ly139 hY) rfl (lr139_1 hY) ?_
      refine r_iload_n C dX12_comesAll_38 0 rfl ?_
      refine r_dup2 C dX12_comesAll_39 rfl rfl ?_
      obtain ⟨b4, h⟩ := gd_inv h
      refine r_iald C dX12_comesAll_40 (ly140 hY) b4 ?_
      refine r_iconst C dX12_comesAll_41 ic_1 ?_
      refine r_isub C dX12_comesAll_42 ?_
      obtain ⟨b5, h⟩ := gd_inv h
      refine r_iast C dX12_comesAll_43 (ly140 hY) b5 ?_
      refine r_aload_n C dX12_comesAll_44 1 rfl ?_
      refine r_getR C flX12_13 dX12_comesAll_45 (ly139 hY) rfl (lr139_1 hY) ?_
      refine r_iload_n C dX12_comesAll_48 0 rfl ?_
      obtain ⟨b6, h⟩ := gd_inv h
      refine r_iald C dX12_comesAll_49 (ly140 hY) b6 ?_
      refine r_if_ne 76 C dX12_comesAll_50 (by decide) (fun c7 => ?_) (fun c7 => ?_)
      · have h := (ite_inv h).2 c7
        refine r_iinc [(2, .int (x2 + 1)), (3, .int ((100 + (10 * x1)) + x2)), (0, .ref (wb (zw Z) + 139)), (1, .int x1)] C dX12_comesAll_76 3 rfl (in_1 _) (by decide) rfl ?_
        refine r_goto 2 C dX12_comesAll_79 (by decide) ?_
        refine r_sub [(0, .ref (wb (zw Z) + 139)), (1, .int x1), (2, .int (x2 + 1))] [2, 3, 0] rfl ?_
        exact kin (x2 + 1) (wI μ 140 (ix ((100 + (10 * x1)) + x2)) ((rI μ 140 (ix ((100 + (10 * x1)) + x2))) - 1)) (Option.some.inj h).symm
      · have h := (ite_inv h).1 c7
        refine r_aload_n C dX12_comesAll_53 1 rfl ?_
        refine r_getR C flX12_13 dX12_comesAll_54 (ly139 hY) rfl (lr139_1 hY) ?_
        refine r_bipush C dX12_comesAll_57 bp_76 ?_
        refine r_iload_n C dX12_comesAll_59 2 rfl ?_
        refine r_iadd C dX12_comesAll_60 ?_
        refine r_dup2 C dX12_comesAll_61 rfl rfl ?_
        obtain ⟨b8, h⟩ := gd_inv h
        refine r_iald C dX12_comesAll_62 (ly140 hY) b8 ?_
        refine r_iconst C dX12_comesAll_63 ic_1 ?_
        refine r_aload_n C dX12_comesAll_64 1 rfl ?_
        refine r_getR C flX12_13 dX12_comesAll_65 (ly139 hY) rfl (lr139_1 hY) ?_
        refine r_bipush C dX12_comesAll_68 bp_24 ?_
        refine r_iload_n C dX12_comesAll_70 3 rfl ?_
        refine r_iadd C dX12_comesAll_71 ?_
        obtain ⟨b9, h⟩ := gd_inv h
        refine r_iald C dX12_comesAll_72 (ly140 hY) b9 ?_
        refine r_ishl C dX12_comesAll_73 ?_
        refine r_ior C dX12_comesAll_74 ?_
        obtain ⟨b10, h⟩ := gd_inv h
        refine r_iast C dX12_comesAll_75 (ly140 hY) b10 ?_
        refine r_iinc [(2, .int (x2 + 1)), (3, .int ((100 + (10 * x1)) + x2)), (0, .ref (wb (zw Z) + 139)), (1, .int x1)] C dX12_comesAll_76 3 rfl (in_1 _) (by decide) rfl ?_
        refine r_goto 2 C dX12_comesAll_79 (by decide) ?_
        refine r_sub [(0, .ref (wb (zw Z) + 139)), (1, .int x1), (2, .int (x2 + 1))] [2, 3, 0] rfl ?_
        exact kin (x2 + 1) (wI (wI μ 140 (ix ((100 + (10 * x1)) + x2)) ((rI μ 140 (ix ((100 + (10 * x1)) + x2))) - 1)) 140 (ix (76 + x1)) ((rI (wI μ 140 (ix ((100 + (10 * x1)) + x2)) ((rI μ 140 (ix ((100 + (10 * x1)) + x2))) - 1)) 140 (ix (76 + x1))) ||| (shl 1 (rI (wI μ 140 (ix ((100 + (10 * x1)) + x2)) ((rI μ 140 (ix ((100 + (10 * x1)) + x2))) - 1)) 140 (ix (24 + x2)))))) (Option.some.inj h).symm
    · have h := (ite_inv h).1 c3
      refine r_goto 76 C dX12_comesAll_31 (by decide) ?_
      refine r_iinc [(2, .int (x2 + 1)), (3, .int ((100 + (10 * x1)) + x2)), (0, .ref (wb (zw Z) + 139)), (1, .int x1)] C dX12_comesAll_76 3 rfl (in_1 _) (by decide) rfl ?_
      refine r_goto 2 C dX12_comesAll_79 (by decide) ?_
      refine r_sub [(0, .ref (wb (zw Z) + 139)), (1, .int x1), (2, .int (x2 + 1))] [2, 3, 0] rfl ?_
      exact kin (x2 + 1) μ (Option.some.inj h).symm
def fX12_comesAll (n : Nat) (x1 : Int32) (μ : Mu) : Option (Mu) := bnd (lp n (sX12_comesAll_2 n x1) (0, μ)) fun q => match q with | m11 => some m11
set_option maxRecDepth 100000 in
set_option maxHeartbeats 4000000 in
theorem tX12_comesAll {l : Launch} {w : WP} {sh : List Sh} {R : Rf} {μ : Mu} {μ' : Mu} (hY : LY sh R) (n : Nat) (x1 : Int32)  (h : fX12_comesAll n x1 μ = some μ') : CM l w yX12_comesAll cX12_comesAll 4 none 0 0 0 sh R [.ref (wb w + 139), .int x1] μ none sh R μ' := by
  refine CM.of (plainFor_of_name pf_X12) (Nat.le_of_ble_eq_true rfl) fun Z C hr _ hR hw hl hE => ?_
  subst hw; subst hl
  have C : CX Z cX12_comesAll 4 RX12 := C
  show Wm Z (0, 0, sh, R) μ 0 [(0, .ref (wb (zw Z) + 139)), (1, .int x1)] []
  unfold fX12_comesAll at h
  refine r_iconst C dX12_comesAll_0 ic_0 ?_
  refine r_istore_n [(2, .int 0), (0, .ref (wb (zw Z) + 139)), (1, .int x1)] C dX12_comesAll_1 rfl (by decide) rfl ?_
  refine r_sub [(0, .ref (wb (zw Z) + 139)), (1, .int x1), (2, .int 0)] [1, 2, 0] rfl ?_
  obtain ⟨m11, e12, h⟩ := bnd_inv h
  refine lp_all (sX12_comesAll_2 n x1) (fun q => match q with | (z2, ν) => Wm Z (0, 0, sh, R) (ν) 2 [(0, .ref (wb (zw Z) + 139)), (1, .int x1), (2, .int z2)] []) (fun q => match q with | ν => Wm Z (0, 0, sh, R) (ν) 82 [] []) (fun q o h kin kex => ?_) n (0, μ) m11 e12 ?_
  · obtain ⟨z2, ν⟩ := q; exact lX12_comesAll_2 C hR hY n   x1 z2 ν h (fun z2 ν e => kin (z2, ν) e) (fun ν e => kex (ν) e)
  show Wm Z (0, 0, sh, R) m11 82 [] []
  have h := Option.some.inj h
  subst h
  exact r_vret C dX12_comesAll_82 hr hE
def sX12_hearsAll_21 (n : Nat) (x1 : Int32) (x3 : Int32) : Int32 × Int32 × Mu → Option ((Int32 × Int32 × Mu) ⊕ (Int32 × Mu)) := fun q => match q with | (x2, x4, μ) => if (rI μ 140 67) ≤ x4 then (some (.inr (x2, μ))) else (gd (ib (76 + x4) 6726) (if ((rI μ 140 (ix (76 + x4))) &&& x3) = 0 then (some (.inl (x2, x4 + 1, μ))) else (gd (ib (92 + x4) 6726) (bnd (fX12_isIn n ((rI μ 140 (ix (92 + x4))).toInt64) x1 μ) fun u12 => if u12 = 0 then (gd (ib (92 + x4) 6726) (gd (ib (92 + x4) 6726) (some (.inl (x2 + 1, x4 + 1, wI μ 140 (ix (92 + x4)) ((rI μ 140 (ix (92 + x4))) ||| (shl 1 x1))))))) else (some (.inl (x2, x4 + 1, μ)))))))
set_option maxRecDepth 100000 in
set_option maxHeartbeats 4000000 in
theorem lX12_hearsAll_21 {Z : ZC} {sh : List Sh} {R : Rf} {o : (Int32 × Int32 × Mu) ⊕ (Int32 × Mu)} (C : CX Z cX12_hearsAll 5 RX12) (hR : zR Z = rm 3 0 0) (hY : LY sh R) (n : Nat) (x1 : Int32) (x3 : Int32) (x2 : Int32) (x4 : Int32) (μ : Mu) (h : sX12_hearsAll_21 n x1 x3 (x2, x4, μ) = some o) (kin : ∀ (x2 : Int32) (x4 : Int32) (μ : Mu), o = .inl (x2, x4, μ) → Wm Z (0, 0, sh, R) μ 21 [(0, .ref (wb (zw Z) + 139)), (1, .int x1), (2, .int x2), (3, .int x3), (4, .int x4)] []) (kex0 : ∀ (x2 : Int32) (μ : Mu), o = .inr (x2, μ) → Wm Z (0, 0, sh, R) μ 94 [(2, .int x2)] []) : Wm Z (0, 0, sh, R) μ 21 [(0, .ref (wb (zw Z) + 139)), (1, .int x1), (2, .int x2), (3, .int x3), (4, .int x4)] [] := by
  unfold sX12_hearsAll_21 at h
  refine r_iload C dX12_hearsAll_21 4 rfl ?_
  refine r_aload_n C dX12_hearsAll_23 0 rfl ?_
  refine r_getR C flX12_13 dX12_hearsAll_24 (ly139 hY) rfl (lr139_1 hY) ?_
  refine r_bipush C dX12_hearsAll_27 bp_67 ?_
  refine r_iald C dX12_hearsAll_29 (ly140 hY) (by decide) ?_
  refine r_icmp_ge 94 C dX12_hearsAll_30 (by decide) (fun c7 => ?_) (fun c7 => ?_)
  · have h := (ite_inv h).1 c7
    refine r_sub [(2, .int x2)] [2] rfl ?_
    exact kex0 x2 μ (Option.some.inj h).symm
  · have h := (ite_inv h).2 c7
    refine r_aload_n C dX12_hearsAll_33 0 rfl ?_
    refine r_getR C flX12_13 dX12_hearsAll_34 (ly139 hY) rfl (lr139_1 hY) ?_
    refine r_bipush C dX12_hearsAll_37 bp_76 ?_
    refine r_iload C dX12_hearsAll_39 4 rfl ?_
    refine r_iadd C dX12_hearsAll_41 ?_
    obtain ⟨b8, h⟩ := gd_inv h
    refine r_iald C dX12_hearsAll_42 (ly140 hY) b8 ?_
    refine r_iload_n C dX12_hearsAll_43 3 rfl ?_
    refine r_iand C dX12_hearsAll_44 ?_
    refine r_if_eq 88 C dX12_hearsAll_45 (by decide) (fun c9 => ?_) (fun c9 => ?_)
    · have h := (ite_inv h).1 c9
      refine r_iinc [(4, .int (x4 + 1)), (0, .ref (wb (zw Z) + 139)), (1, .int x1), (2, .int x2), (3, .int x3)] C dX12_hearsAll_88 4 rfl (in_1 _) (by decide) rfl ?_
      refine r_goto 21 C dX12_hearsAll_91 (by decide) ?_
      refine r_sub [(0, .ref (wb (zw Z) + 139)), (1, .int x1), (2, .int x2), (3, .int x3), (4, .int (x4 + 1))] [1, 2, 3, 4, 0] rfl ?_
      exact kin x2 (x4 + 1) μ (Option.some.inj h).symm
    · have h := (ite_inv h).2 c9
      refine r_aload_n C dX12_hearsAll_48 0 rfl ?_
      refine r_getR C flX12_13 dX12_hearsAll_49 (ly139 hY) rfl (lr139_1 hY) ?_
      refine r_bipush C dX12_hearsAll_52 bp_92 ?_
      refine r_iload C dX12_hearsAll_54 4 rfl ?_
      refine r_iadd C dX12_hearsAll_56 ?_
      obtain ⟨b10, h⟩ := gd_inv h
      refine r_iald C dX12_hearsAll_57 (ly140 hY) b10 ?_
      refine r_i2l C dX12_hearsAll_58 ?_
      refine r_iload_n C dX12_hearsAll_59 1 rfl ?_
      obtain ⟨u12, e11, h⟩ := bnd_inv h
      refine r_cSi (As := [.long ((rI μ 140 (ix (92 + x4))).toInt64), .int x1]) (rest := []) C hR mlX12_213 dX12_hearsAll_60 (tX12_isIn hY n ((rI μ 140 (ix (92 + x4))).toInt64) x1  e11) rfl rfl (nle rfl) (nle rfl) (nle rfl) ?_
      refine r_if_eq 69 C dX12_hearsAll_63 (by decide) (fun c13 => ?_) (fun c13 => ?_)
      · have h := (ite_inv h).1 c13
        refine r_aload_n C dX12_hearsAll_69 0 rfl ?_
        refine r_getR C flX12_13 dX12_hearsAll_70 (ly139 hY) rfl (lr139_1 hY) ?_
        refine r_bipush C dX12_hearsAll_73 bp_92 ?_
        refine r_iload C dX12_hearsAll_75 4 rfl ?_
        refine r_iadd C dX12_hearsAll_77 ?_
        refine r_dup2 C dX12_hearsAll_78 rfl rfl ?_
        obtain ⟨b14, h⟩ := gd_inv h
        refine r_iald C dX12_hearsAll_79 (ly140 hY) b14 ?_
        refine r_iconst C dX12_hearsAll_80 ic_1 ?_
        refine r_iload_n C dX12_hearsAll_81 1 rfl ?_
        refine r_ishl C dX12_hearsAll_82 ?_
        refine r_ior C dX12_hearsAll_83 ?_
        obtain ⟨b15, h⟩ := gd_inv h
        refine r_iast C dX12_hearsAll_84 (ly140 hY) b15 ?_
        refine r_iinc [(2, .int (x2 + 1)), (0, .ref (wb (zw Z) + 139)), (1, .int x1), (3, .int x3), (4, .int x4)] C dX12_hearsAll_85 2 rfl (in_1 _) (by decide) rfl ?_
        refine r_iinc [(4, .int (x4 + 1)), (2, .int (x2 + 1)), (0, .ref (wb (zw Z) + 139)), (1, .int x1), (3, .int x3)] C dX12_hearsAll_88 4 rfl (in_1 _) (by decide) rfl ?_
        refine r_goto 21 C dX12_hearsAll_91 (by decide) ?_
        refine r_sub [(0, .ref (wb (zw Z) + 139)), (1, .int x1), (2, .int (x2 + 1)), (3, .int x3), (4, .int (x4 + 1))] [2, 3, 1, 4, 0] rfl ?_
        exact kin (x2 + 1) (x4 + 1) (wI μ 140 (ix (92 + x4)) ((rI μ 140 (ix (92 + x4))) ||| (shl 1 x1))) (Option.some.inj h).symm
      · have h := (ite_inv h).2 c13
        refine r_goto 88 C dX12_hearsAll_66 (by decide) ?_
        refine r_iinc [(4, .int (x4 + 1)), (0, .ref (wb (zw Z) + 139)), (1, .int x1), (2, .int x2), (3, .int x3)] C dX12_hearsAll_88 4 rfl (in_1 _) (by decide) rfl ?_
        refine r_goto 21 C dX12_hearsAll_91 (by decide) ?_
        refine r_sub [(0, .ref (wb (zw Z) + 139)), (1, .int x1), (2, .int x2), (3, .int x3), (4, .int (x4 + 1))] [1, 2, 3, 4, 0] rfl ?_
        exact kin x2 (x4 + 1) μ (Option.some.inj h).symm
def fX12_hearsAll (n : Nat) (x1 : Int32) (μ : Mu) : Option (Int32 × Mu) := bnd2 (fX12_listens n x1 μ) fun u2 m3 => if u2 = 0 then (some (0, m3)) else (bnd (fX12_hearsAt n x1 m3) fun u6 => bnd (lp n (sX12_hearsAll_21 n x1 u6) (0, 0, m3)) fun q => match q with | (u16, m17) => some (u16, m17))
set_option maxRecDepth 100000 in
set_option maxHeartbeats 4000000 in
theorem tX12_hearsAll {l : Launch} {w : WP} {sh : List Sh} {R : Rf} {μ : Mu} {r : Int32} {μ' : Mu} (hY : LY sh R) (n : Nat) (x1 : Int32)  (h : fX12_hearsAll n x1 μ = some (r, μ')) : CM l w yX12_hearsAll cX12_hearsAll 5 (some .int) 3 0 0 sh R [.ref (wb w + 139), .int x1] μ (some (.int r)) sh R μ' := by
  refine CM.of (plainFor_of_name pf_X12) (Nat.le_of_ble_eq_true rfl) fun Z C hr _ hR hw hl hE => ?_
  subst hw; subst hl
  have C : CX Z cX12_hearsAll 5 RX12 := C
  show Wm Z (0, 0, sh, R) μ 0 [(0, .ref (wb (zw Z) + 139)), (1, .int x1)] []
  unfold fX12_hearsAll at h
  refine r_aload_n C dX12_hearsAll_0 0 rfl ?_
  refine r_iload_n C dX12_hearsAll_1 1 rfl ?_
  obtain ⟨u2, m3, e1, h⟩ := bnd2_inv h
  refine r_cVi (As := [.int x1]) (rest := []) C hR mlX12_233 dX12_hearsAll_2 (tX12_listens hY n x1  e1) rfl rfl (ly139 hY) rfl (nle rfl) (nle rfl) (nle rfl) ?_
  refine r_if_ne 10 C dX12_hearsAll_5 (by decide) (fun c4 => ?_) (fun c4 => ?_)
  · have h := (ite_inv h).2 c4
    refine r_iconst C dX12_hearsAll_10 ic_0 ?_
    refine r_istore_n [(2, .int 0), (0, .ref (wb (zw Z) + 139)), (1, .int x1)] C dX12_hearsAll_11 rfl (by decide) rfl ?_
    refine r_aload_n C dX12_hearsAll_12 1 rfl ?_
    refine r_iload_n C dX12_hearsAll_13 2 rfl ?_
    obtain ⟨u6, e5, h⟩ := bnd_inv h
    refine r_cVi (As := [.int x1]) (rest := []) C hR mlX12_255 dX12_hearsAll_14 (tX12_hearsAt hY n x1  e5) rfl rfl (ly139 hY) rfl (nle rfl) (nle rfl) (nle rfl) ?_
    refine r_istore_n [(3, .int u6), (2, .int 0), (0, .ref (wb (zw Z) + 139)), (1, .int x1)] C dX12_hearsAll_17 rfl (by decide) rfl ?_
    refine r_iconst C dX12_hearsAll_18 ic_0 ?_
    refine r_istore [(4, .int 0), (3, .int u6), (2, .int 0), (0, .ref (wb (zw Z) + 139)), (1, .int x1)] C dX12_hearsAll_19 (by decide) rfl ?_
    refine r_sub [(0, .ref (wb (zw Z) + 139)), (1, .int x1), (2, .int 0), (3, .int u6), (4, .int 0)] [3, 4, 2, 1, 0] rfl ?_
    obtain ⟨⟨u16, m17⟩, e18, h⟩ := bnd_inv h
    refine lp_all (sX12_hearsAll_21 n x1 u6) (fun q => match q with | (z2, z4, ν) => Wm Z (0, 0, sh, R) (ν) 21 [(0, .ref (wb (zw Z) + 139)), (1, .int x1), (2, .int z2), (3, .int u6), (4, .int z4)] []) (fun q => match q with | (z2, ν) => Wm Z (0, 0, sh, R) (ν) 94 [(2, .int z2)] []) (fun q o h kin kex => ?_) n (0, 0, m3) (u16, m17) e18 ?_
    · obtain ⟨z2, z4, ν⟩ := q; exact lX12_hearsAll_21 C hR hY n   x1 u6 z2 z4 ν h (fun z2 z4 ν e => kin (z2, z4, ν) e) (fun z2 ν e => kex (z2, ν) e)
    show Wm Z (0, 0, sh, R) m17 94 [(2, .int u16)] []
    refine r_iload_n C dX12_hearsAll_94 0 rfl ?_
    obtain ⟨h1, h2⟩ := Prod.mk.inj (Option.some.inj h)
    subst h1; subst h2
    exact r_iret C dX12_hearsAll_95 hr hE
  · have h := (ite_inv h).1 c4
    refine r_iconst C dX12_hearsAll_8 ic_0 ?_
    obtain ⟨h1, h2⟩ := Prod.mk.inj (Option.some.inj h)
    subst h1; subst h2
    exact r_iret C dX12_hearsAll_9 hr hE
def sX12_goesHour_2 (n : Nat)  : Int32 × Mu → Option ((Int32 × Mu) ⊕ (Mu)) := fun q => match q with | (x1, μ) => if (rI μ 140 67) ≤ x1 then (some (.inr μ)) else (bnd (fX12_goesOut n x1 μ) fun m3 => some (.inl (x1 + 1, m3)))
set_option maxRecDepth 100000 in
set_option maxHeartbeats 4000000 in
theorem lX12_goesHour_2 {Z : ZC} {sh : List Sh} {R : Rf} {o : (Int32 × Mu) ⊕ (Mu)} (C : CX Z cX12_goesHour 3 RX12) (hR : zR Z = rm 4 0 0) (hY : LY sh R) (n : Nat)  (x1 : Int32) (μ : Mu) (h : sX12_goesHour_2 n (x1, μ) = some o) (kin : ∀ (x1 : Int32) (μ : Mu), o = .inl (x1, μ) → Wm Z (0, 0, sh, R) μ 2 [(0, .ref (wb (zw Z) + 139)), (1, .int x1)] []) (kex0 : ∀ (μ : Mu), o = .inr μ → Wm Z (0, 0, sh, R) μ 24 [(0, .ref (wb (zw Z) + 139))] []) : Wm Z (0, 0, sh, R) μ 2 [(0, .ref (wb (zw Z) + 139)), (1, .int x1)] [] := by
  unfold sX12_goesHour_2 at h
  refine r_iload_n C dX12_goesHour_2 1 rfl ?_
  refine r_aload_n C dX12_goesHour_3 0 rfl ?_
  refine r_getR C flX12_13 dX12_goesHour_4 (ly139 hY) rfl (lr139_1 hY) ?_
  refine r_bipush C dX12_goesHour_7 bp_67 ?_
  refine r_iald C dX12_goesHour_9 (ly140 hY) (by decide) ?_
  refine r_icmp_ge 24 C dX12_goesHour_10 (by decide) (fun c1 => ?_) (fun c1 => ?_)
  · have h := (ite_inv h).1 c1
    refine r_sub [(0, .ref (wb (zw Z) + 139))] [0] rfl ?_
    exact kex0 μ (Option.some.inj h).symm
  · have h := (ite_inv h).2 c1
    refine r_aload_n C dX12_goesHour_13 0 rfl ?_
    refine r_iload_n C dX12_goesHour_14 1 rfl ?_
    obtain ⟨m3, e2, h⟩ := bnd_inv h
    refine r_cVv (As := [.int x1]) (rest := []) C hR mlX12_258 dX12_goesHour_15 (tX12_goesOut hY n x1  e2) rfl rfl (ly139 hY) rfl (nle rfl) (nle rfl) (nle rfl) ?_
    refine r_iinc [(1, .int (x1 + 1)), (0, .ref (wb (zw Z) + 139))] C dX12_goesHour_18 1 rfl (in_1 _) (by decide) rfl ?_
    refine r_goto 2 C dX12_goesHour_21 (by decide) ?_
    refine r_sub [(0, .ref (wb (zw Z) + 139)), (1, .int (x1 + 1))] [1, 0] rfl ?_
    exact kin (x1 + 1) m3 (Option.some.inj h).symm
def sX12_goesHour_58 (n : Nat)  : Int32 × Mu → Option ((Int32 × Mu) ⊕ (Mu)) := fun q => match q with | (x1, μ) => if (rI μ 140 67) ≤ x1 then (some (.inr μ)) else (bnd (fX12_comesAll n x1 μ) fun m9 => some (.inl (x1 + 1, m9)))
set_option maxRecDepth 100000 in
set_option maxHeartbeats 4000000 in
theorem lX12_goesHour_58 {Z : ZC} {sh : List Sh} {R : Rf} {o : (Int32 × Mu) ⊕ (Mu)} (C : CX Z cX12_goesHour 3 RX12) (hR : zR Z = rm 4 0 0) (hY : LY sh R) (n : Nat)  (x1 : Int32) (μ : Mu) (h : sX12_goesHour_58 n (x1, μ) = some o) (kin : ∀ (x1 : Int32) (μ : Mu), o = .inl (x1, μ) → Wm Z (0, 0, sh, R) μ 58 [(0, .ref (wb (zw Z) + 139)), (1, .int x1)] []) (kex0 : ∀ (μ : Mu), o = .inr μ → Wm Z (0, 0, sh, R) μ 80 [(0, .ref (wb (zw Z) + 139))] []) : Wm Z (0, 0, sh, R) μ 58 [(0, .ref (wb (zw Z) + 139)), (1, .int x1)] [] := by
  unfold sX12_goesHour_58 at h
  refine r_iload_n C dX12_goesHour_58 1 rfl ?_
  refine r_aload_n C dX12_goesHour_59 0 rfl ?_
  refine r_getR C flX12_13 dX12_goesHour_60 (ly139 hY) rfl (lr139_1 hY) ?_
  refine r_bipush C dX12_goesHour_63 bp_67 ?_
  refine r_iald C dX12_goesHour_65 (ly140 hY) (by decide) ?_
  refine r_icmp_ge 80 C dX12_goesHour_66 (by decide) (fun c7 => ?_) (fun c7 => ?_)
  · have h := (ite_inv h).1 c7
    refine r_sub [(0, .ref (wb (zw Z) + 139))] [0] rfl ?_
    exact kex0 μ (Option.some.inj h).symm
  · have h := (ite_inv h).2 c7
    refine r_aload_n C dX12_goesHour_69 0 rfl ?_
    refine r_iload_n C dX12_goesHour_70 1 rfl ?_
    obtain ⟨m9, e8, h⟩ := bnd_inv h
    refine r_cVv (As := [.int x1]) (rest := []) C hR mlX12_261 dX12_goesHour_71 (tX12_comesAll hY n x1  e8) rfl rfl (ly139 hY) rfl (nle rfl) (nle rfl) (nle rfl) ?_
    refine r_iinc [(1, .int (x1 + 1)), (0, .ref (wb (zw Z) + 139))] C dX12_goesHour_74 1 rfl (in_1 _) (by decide) rfl ?_
    refine r_goto 58 C dX12_goesHour_77 (by decide) ?_
    refine r_sub [(0, .ref (wb (zw Z) + 139)), (1, .int (x1 + 1))] [1, 0] rfl ?_
    exact kin (x1 + 1) m9 (Option.some.inj h).symm
def sX12_goesHour_84 (n : Nat)  : Int32 × Int32 × Mu → Option ((Int32 × Int32 × Mu) ⊕ (Int32 × Mu)) := fun q => match q with | (x1, x2, μ) => if (rI μ 140 3) ≤ x2 then (some (.inr (x1, μ))) else (bnd2 (fX12_hearsAll n x2 μ) fun u14 m15 => some (.inl (x1 + u14, x2 + 1, m15)))
set_option maxRecDepth 100000 in
set_option maxHeartbeats 4000000 in
theorem lX12_goesHour_84 {Z : ZC} {sh : List Sh} {R : Rf} {o : (Int32 × Int32 × Mu) ⊕ (Int32 × Mu)} (C : CX Z cX12_goesHour 3 RX12) (hR : zR Z = rm 4 0 0) (hY : LY sh R) (n : Nat)  (x1 : Int32) (x2 : Int32) (μ : Mu) (h : sX12_goesHour_84 n (x1, x2, μ) = some o) (kin : ∀ (x1 : Int32) (x2 : Int32) (μ : Mu), o = .inl (x1, x2, μ) → Wm Z (0, 0, sh, R) μ 84 [(0, .ref (wb (zw Z) + 139)), (1, .int x1), (2, .int x2)] []) (kex0 : ∀ (x1 : Int32) (μ : Mu), o = .inr (x1, μ) → Wm Z (0, 0, sh, R) μ 108 [(1, .int x1)] []) : Wm Z (0, 0, sh, R) μ 84 [(0, .ref (wb (zw Z) + 139)), (1, .int x1), (2, .int x2)] [] := by
  unfold sX12_goesHour_84 at h
  refine r_iload_n C dX12_goesHour_84 2 rfl ?_
  refine r_aload_n C dX12_goesHour_85 0 rfl ?_
  refine r_getR C flX12_13 dX12_goesHour_86 (ly139 hY) rfl (lr139_1 hY) ?_
  refine r_iconst C dX12_goesHour_89 ic_3 ?_
  refine r_iald C dX12_goesHour_90 (ly140 hY) (by decide) ?_
  refine r_icmp_ge 108 C dX12_goesHour_91 (by decide) (fun c12 => ?_) (fun c12 => ?_)
  · have h := (ite_inv h).1 c12
    refine r_sub [(1, .int x1)] [1] rfl ?_
    exact kex0 x1 μ (Option.some.inj h).symm
  · have h := (ite_inv h).2 c12
    refine r_iload_n C dX12_goesHour_94 1 rfl ?_
    refine r_aload_n C dX12_goesHour_95 0 rfl ?_
    refine r_iload_n C dX12_goesHour_96 2 rfl ?_
    obtain ⟨u14, m15, e13, h⟩ := bnd2_inv h
    refine r_cVi (As := [.int x2]) (rest := [.int x1]) C hR mlX12_264 dX12_goesHour_97 (tX12_hearsAll hY n x2  e13) rfl rfl (ly139 hY) rfl (nle rfl) (nle rfl) (nle rfl) ?_
    refine r_iadd C dX12_goesHour_100 ?_
    refine r_istore_n [(1, .int (x1 + u14)), (0, .ref (wb (zw Z) + 139)), (2, .int x2)] C dX12_goesHour_101 rfl (by decide) rfl ?_
    refine r_iinc [(2, .int (x2 + 1)), (1, .int (x1 + u14)), (0, .ref (wb (zw Z) + 139))] C dX12_goesHour_102 2 rfl (in_1 _) (by decide) rfl ?_
    refine r_goto 84 C dX12_goesHour_105 (by decide) ?_
    refine r_sub [(0, .ref (wb (zw Z) + 139)), (1, .int (x1 + u14)), (2, .int (x2 + 1))] [2, 1, 0] rfl ?_
    exact kin (x1 + u14) (x2 + 1) m15 (Option.some.inj h).symm
def jX12_goesHour_56 (n : Nat)  (μ : Mu) : Option (Int32 × Mu) := bnd (lp n (sX12_goesHour_58 n) (0, μ)) fun q => match q with | m10 => bnd (lp n (sX12_goesHour_84 n) (0, 0, m10)) fun q => match q with | (u16, m17) => some (u16, m17)
set_option maxRecDepth 100000 in
set_option maxHeartbeats 4000000 in
theorem kX12_goesHour_56 {Z : ZC} {sh : List Sh} {R : Rf} {r : Int32} {μ' : Mu} (C : CX Z cX12_goesHour 3 RX12) (hR : zR Z = rm 4 0 0) (hY : LY sh R) (n : Nat)  (μ : Mu) (h : jX12_goesHour_56 n μ = some (r, μ')) (hr : (zme Z).sig.returnType = (some .int)) (hE : zEnd Z (0, 0, sh, R) μ' (some (.int r))) : Wm Z (0, 0, sh, R) μ 56 [(0, .ref (wb (zw Z) + 139))] [] := by
  unfold jX12_goesHour_56 at h
  refine r_iconst C dX12_goesHour_56 ic_0 ?_
  refine r_istore_n [(1, .int 0), (0, .ref (wb (zw Z) + 139))] C dX12_goesHour_57 rfl (by decide) rfl ?_
  refine r_sub [(0, .ref (wb (zw Z) + 139)), (1, .int 0)] [1, 0] rfl ?_
  obtain ⟨m10, e11, h⟩ := bnd_inv h
  refine lp_all (sX12_goesHour_58 n) (fun q => match q with | (z1, ν) => Wm Z (0, 0, sh, R) (ν) 58 [(0, .ref (wb (zw Z) + 139)), (1, .int z1)] []) (fun q => match q with | ν => Wm Z (0, 0, sh, R) (ν) 80 [(0, .ref (wb (zw Z) + 139))] []) (fun q o h kin kex => ?_) n (0, μ) m10 e11 ?_
  · obtain ⟨z1, ν⟩ := q; exact lX12_goesHour_58 C hR hY n    z1 ν h (fun z1 ν e => kin (z1, ν) e) (fun ν e => kex (ν) e)
  show Wm Z (0, 0, sh, R) m10 80 [(0, .ref (wb (zw Z) + 139))] []
  refine r_iconst C dX12_goesHour_80 ic_0 ?_
  refine r_istore_n [(1, .int 0), (0, .ref (wb (zw Z) + 139))] C dX12_goesHour_81 rfl (by decide) rfl ?_
  refine r_iconst C dX12_goesHour_82 ic_0 ?_
  refine r_istore_n [(2, .int 0), (1, .int 0), (0, .ref (wb (zw Z) + 139))] C dX12_goesHour_83 rfl (by decide) rfl ?_
  refine r_sub [(0, .ref (wb (zw Z) + 139)), (1, .int 0), (2, .int 0)] [2, 1, 0] rfl ?_
  obtain ⟨⟨u16, m17⟩, e18, h⟩ := bnd_inv h
  refine lp_all (sX12_goesHour_84 n) (fun q => match q with | (z1, z2, ν) => Wm Z (0, 0, sh, R) (ν) 84 [(0, .ref (wb (zw Z) + 139)), (1, .int z1), (2, .int z2)] []) (fun q => match q with | (z1, ν) => Wm Z (0, 0, sh, R) (ν) 108 [(1, .int z1)] []) (fun q o h kin kex => ?_) n (0, 0, m10) (u16, m17) e18 ?_
  · obtain ⟨z1, z2, ν⟩ := q; exact lX12_goesHour_84 C hR hY n    z1 z2 ν h (fun z1 z2 ν e => kin (z1, z2, ν) e) (fun z1 ν e => kex (z1, ν) e)
  show Wm Z (0, 0, sh, R) m17 108 [(1, .int u16)] []
  refine r_iload_n C dX12_goesHour_108 0 rfl ?_
  obtain ⟨h1, h2⟩ := Prod.mk.inj (Option.some.inj h)
  subst h1; subst h2
  exact r_iret C dX12_goesHour_109 hr hE
def fX12_goesHour (n : Nat)  (μ : Mu) : Option (Int32 × Mu) := bnd (lp n (sX12_goesHour_2 n) (0, μ)) fun q => match q with | m4 => if (rI (wI m4 140 64 ((rI m4 140 64) + 1)) 140 65) ≤ 0 then (jX12_goesHour_56 n (wI m4 140 64 ((rI m4 140 64) + 1))) else (jX12_goesHour_56 n (wI (wI m4 140 64 ((rI m4 140 64) + 1)) 140 65 ((rI (wI m4 140 64 ((rI m4 140 64) + 1)) 140 65) - 1)))
set_option maxRecDepth 100000 in
set_option maxHeartbeats 4000000 in
theorem tX12_goesHour {l : Launch} {w : WP} {sh : List Sh} {R : Rf} {μ : Mu} {r : Int32} {μ' : Mu} (hY : LY sh R) (n : Nat)   (h : fX12_goesHour n μ = some (r, μ')) : CM l w yX12_goesHour cX12_goesHour 3 (some .int) 4 0 0 sh R [.ref (wb w + 139)] μ (some (.int r)) sh R μ' := by
  refine CM.of (plainFor_of_name pf_X12) (Nat.le_of_ble_eq_true rfl) fun Z C hr _ hR hw hl hE => ?_
  subst hw; subst hl
  have C : CX Z cX12_goesHour 3 RX12 := C
  show Wm Z (0, 0, sh, R) μ 0 [(0, .ref (wb (zw Z) + 139))] []
  unfold fX12_goesHour at h
  refine r_iconst C dX12_goesHour_0 ic_0 ?_
  refine r_istore_n [(1, .int 0), (0, .ref (wb (zw Z) + 139))] C dX12_goesHour_1 rfl (by decide) rfl ?_
  refine r_sub [(0, .ref (wb (zw Z) + 139)), (1, .int 0)] [1, 0] rfl ?_
  obtain ⟨m4, e5, h⟩ := bnd_inv h
  refine lp_all (sX12_goesHour_2 n) (fun q => match q with | (z1, ν) => Wm Z (0, 0, sh, R) (ν) 2 [(0, .ref (wb (zw Z) + 139)), (1, .int z1)] []) (fun q => match q with | ν => Wm Z (0, 0, sh, R) (ν) 24 [(0, .ref (wb (zw Z) + 139))] []) (fun q o h kin kex => ?_) n (0, μ) m4 e5 ?_
  · obtain ⟨z1, ν⟩ := q; exact lX12_goesHour_2 C hR hY n    z1 ν h (fun z1 ν e => kin (z1, ν) e) (fun ν e => kex (ν) e)
  show Wm Z (0, 0, sh, R) m4 24 [(0, .ref (wb (zw Z) + 139))] []
  refine r_aload_n C dX12_goesHour_24 0 rfl ?_
  refine r_getR C flX12_13 dX12_goesHour_25 (ly139 hY) rfl (lr139_1 hY) ?_
  refine r_bipush C dX12_goesHour_28 bp_64 ?_
  refine r_dup2 C dX12_goesHour_30 rfl rfl ?_
  refine r_iald C dX12_goesHour_31 (ly140 hY) (by decide) ?_
  refine r_iconst C dX12_goesHour_32 ic_1 ?_
  refine r_iadd C dX12_goesHour_33 ?_
  refine r_iast C dX12_goesHour_34 (ly140 hY) (by decide) ?_
  refine r_aload_n C dX12_goesHour_35 0 rfl ?_
  refine r_getR C flX12_13 dX12_goesHour_36 (ly139 hY) rfl (lr139_1 hY) ?_
  refine r_bipush C dX12_goesHour_39 bp_65 ?_
  refine r_iald C dX12_goesHour_41 (ly140 hY) (by decide) ?_
  refine r_if_le 56 C dX12_goesHour_42 (by decide) (fun c6 => ?_) (fun c6 => ?_)
  · have h := (ite_inv h).1 c6
    exact kX12_goesHour_56 C hR hY n   (wI m4 140 64 ((rI m4 140 64) + 1)) h hr hE
  · have h := (ite_inv h).2 c6
    refine r_aload_n C dX12_goesHour_45 0 rfl ?_
    refine r_getR C flX12_13 dX12_goesHour_46 (ly139 hY) rfl (lr139_1 hY) ?_
    refine r_bipush C dX12_goesHour_49 bp_65 ?_
    refine r_dup2 C dX12_goesHour_51 rfl rfl ?_
    refine r_iald C dX12_goesHour_52 (ly140 hY) (by decide) ?_
    refine r_iconst C dX12_goesHour_53 ic_1 ?_
    refine r_isub C dX12_goesHour_54 ?_
    refine r_iast C dX12_goesHour_55 (ly140 hY) (by decide) ?_
    exact kX12_goesHour_56 C hR hY n   (wI (wI m4 140 64 ((rI m4 140 64) + 1)) 140 65 ((rI (wI m4 140 64 ((rI m4 140 64) + 1)) 140 65) - 1)) h hr hE
