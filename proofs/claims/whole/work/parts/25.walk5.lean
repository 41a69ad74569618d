def fX12_see (n : Nat) (x1 : Int32) (μ : Mu) : Option (Int32) := if (rI μ 139 8) ≤ x1 then (some (-1)) else (gd (ib x1 900) (some (rI μ 142 (ix x1))))
set_option maxRecDepth 100000 in
set_option maxHeartbeats 4000000 in
theorem tX12_see {l : Launch} {w : WP} {sh : List Sh} {R : Rf} {μ : Mu} {r : Int32} (hY : LY sh R) (n : Nat) (x1 : Int32)  (h : fX12_see n x1 μ = some r) : CM l w yX12_see cX12_see 2 (some .int) 0 0 0 sh R [.ref (wb w + 139), .int x1] μ (some (.int r)) sh R μ := by
  refine CM.of (plainFor_of_name pf_X12) (Nat.le_of_ble_eq_true rfl) fun Z C hr _ hR hw hl hE => ?_
  subst hw; subst hl
  have C : CX Z cX12_see 2 RX12 := C
  show Wm Z (0, 0, sh, R) μ 0 [(0, .ref (wb (zw Z) + 139)), (1, .int x1)] []
  unfold fX12_see at h
  refine r_iload_n C dX12_see_0 1 rfl ?_
  refine r_aload_n C dX12_see_1 0 rfl ?_
  refine r_getI C flX12_71 dX12_see_2 (ly139 hY) rfl ?_
  refine r_icmp_ge 17 C dX12_see_5 (by decide) (fun c1 => ?_) (fun c1 => ?_)
  · have h := (ite_inv h).1 c1
    refine r_iconst C dX12_see_17 ic_m1 ?_
    have h := Option.some.inj h
    subst h
    exact r_iret C dX12_see_18 hr hE
  · have h := (ite_inv h).2 c1
    refine r_aload_n C dX12_see_8 0 rfl ?_
    refine r_getR C flX12_21 dX12_see_9 (ly139 hY) rfl (lr139_3 hY) ?_
    refine r_iload_n C dX12_see_12 1 rfl ?_
    obtain ⟨b2, h⟩ := gd_inv h
    refine r_iald C dX12_see_13 (ly142 hY) b2 ?_
    refine r_goto 18 C dX12_see_14 (by decide) ?_
    have h := Option.some.inj h
    subst h
    exact r_iret C dX12_see_18 hr hE
def fX12_isSmall (n : Nat) (x0 : Int32) (μ : Mu) : Option (Int32) := if x0 < 97 then (some 0) else (if 122 < x0 then (some 0) else (some 1))
set_option maxRecDepth 100000 in
set_option maxHeartbeats 4000000 in
theorem tX12_isSmall {l : Launch} {w : WP} {sh : List Sh} {R : Rf} {μ : Mu} {r : Int32} (hY : LY sh R) (n : Nat) (x0 : Int32)  (h : fX12_isSmall n x0 μ = some r) : CM l w yX12_isSmall cX12_isSmall 1 (some .boolean) 0 0 0 sh R [.int x0] μ (some (.int r)) sh R μ := by
  refine CM.of (plainFor_of_name pf_X12) (Nat.le_of_ble_eq_true rfl) fun Z C hr _ hR hw hl hE => ?_
  subst hw; subst hl
  have C : CX Z cX12_isSmall 1 RX12 := C
  show Wm Z (0, 0, sh, R) μ 0 [(0, .int x0)] []
  unfold fX12_isSmall at h
  refine r_iload_n C dX12_isSmall_0 0 rfl ?_
  refine r_bipush C dX12_isSmall_1 bp_97 ?_
  refine r_icmp_lt 16 C dX12_isSmall_3 (by decide) (fun c1 => ?_) (fun c1 => ?_)
  · have h := (ite_inv h).1 c1
    refine r_iconst C dX12_isSmall_16 ic_0 ?_
    have h := Option.some.inj h
    subst h
    exact r_zret C dX12_isSmall_17 hr rfl hE
  · have h := (ite_inv h).2 c1
    refine r_iload_n C dX12_isSmall_6 0 rfl ?_
    refine r_bipush C dX12_isSmall_7 bp_122 ?_
    refine r_icmp_gt 16 C dX12_isSmall_9 (by decide) (fun c2 => ?_) (fun c2 => ?_)
    · have h := (ite_inv h).1 c2
      refine r_iconst C dX12_isSmall_16 ic_0 ?_
      have h := Option.some.inj h
      subst h
      exact r_zret C dX12_isSmall_17 hr rfl hE
    · have h := (ite_inv h).2 c2
      refine r_iconst C dX12_isSmall_12 ic_1 ?_
      refine r_goto 17 C dX12_isSmall_13 (by decide) ?_
      have h := Option.some.inj h
      subst h
      exact r_zret C dX12_isSmall_17 hr rfl hE
def fX12_isDigit (n : Nat) (x0 : Int32) (μ : Mu) : Option (Int32) := if x0 < 48 then (some 0) else (if 57 < x0 then (some 0) else (some 1))
set_option maxRecDepth 100000 in
set_option maxHeartbeats 4000000 in
theorem tX12_isDigit {l : Launch} {w : WP} {sh : List Sh} {R : Rf} {μ : Mu} {r : Int32} (hY : LY sh R) (n : Nat) (x0 : Int32)  (h : fX12_isDigit n x0 μ = some r) : CM l w yX12_isDigit cX12_isDigit 1 (some .boolean) 0 0 0 sh R [.int x0] μ (some (.int r)) sh R μ := by
  refine CM.of (plainFor_of_name pf_X12) (Nat.le_of_ble_eq_true rfl) fun Z C hr _ hR hw hl hE => ?_
  subst hw; subst hl
  have C : CX Z cX12_isDigit 1 RX12 := C
  show Wm Z (0, 0, sh, R) μ 0 [(0, .int x0)] []
  unfold fX12_isDigit at h
  refine r_iload_n C dX12_isDigit_0 0 rfl ?_
  refine r_bipush C dX12_isDigit_1 bp_48 ?_
  refine r_icmp_lt 16 C dX12_isDigit_3 (by decide) (fun c1 => ?_) (fun c1 => ?_)
  · have h := (ite_inv h).1 c1
    refine r_iconst C dX12_isDigit_16 ic_0 ?_
    have h := Option.some.inj h
    subst h
    exact r_zret C dX12_isDigit_17 hr rfl hE
  · have h := (ite_inv h).2 c1
    refine r_iload_n C dX12_isDigit_6 0 rfl ?_
    refine r_bipush C dX12_isDigit_7 bp_57 ?_
    refine r_icmp_gt 16 C dX12_isDigit_9 (by decide) (fun c2 => ?_) (fun c2 => ?_)
    · have h := (ite_inv h).1 c2
      refine r_iconst C dX12_isDigit_16 ic_0 ?_
      have h := Option.some.inj h
      subst h
      exact r_zret C dX12_isDigit_17 hr rfl hE
    · have h := (ite_inv h).2 c2
      refine r_iconst C dX12_isDigit_12 ic_1 ?_
      refine r_goto 17 C dX12_isDigit_13 (by decide) ?_
      have h := Option.some.inj h
      subst h
      exact r_zret C dX12_isDigit_17 hr rfl hE
def sX12_keyAt_15 (n : Nat) (x1 : Int32) (x2 : Int32) (μ : Mu) : Int32 → Option ((Int32) ⊕ (Int32)) := fun q => match q with | x3 => gd (ib (x2 + x3) 113) (if (sch 2 (ix (x2 + x3))) = 32 then (some (.inr x3)) else (if (rI μ 139 7) ≤ ((rI μ 139 6) + x3) then (some (.inr x3)) else (gd (ib ((rI μ 139 6) + x3) 900) (gd (ib (x2 + x3) 113) (if (rI μ 142 (ix ((rI μ 139 6) + x3))) = (sch 2 (ix (x2 + x3))) then (some (.inl (x3 + 1))) else (some (.inr x3)))))))
set_option maxRecDepth 100000 in
set_option maxHeartbeats 4000000 in
theorem lX12_keyAt_15 {Z : ZC} {sh : List Sh} {R : Rf} {o : (Int32) ⊕ (Int32)} (C : CX Z cX12_keyAt 4 RX12) (hR : zR Z = rm 6 0 0) (hY : LY sh R) (n : Nat) (x1 : Int32) (x2 : Int32) (μ : Mu) (x3 : Int32) (h : sX12_keyAt_15 n x1 x2 μ x3 = some o) (kin : ∀ (x3 : Int32), o = .inl x3 → Wm Z (0, 0, sh, R) μ 15 [(0, .ref (wb (zw Z) + 139)), (1, .int x1), (2, .int x2), (3, .int x3)] []) (kex0 : ∀ (x3 : Int32), o = .inr x3 → Wm Z (0, 0, sh, R) μ 69 [(0, .ref (wb (zw Z) + 139)), (1, .int x1), (2, .int x2), (3, .int x3)] []) : Wm Z (0, 0, sh, R) μ 15 [(0, .ref (wb (zw Z) + 139)), (1, .int x1), (2, .int x2), (3, .int x3)] [] := by
  unfold sX12_keyAt_15 at h
  refine r_ldcS C dX12_keyAt_15 C.2.2.2.2.2.2.1.2.2.1.2.2.1 ?_
  refine r_iload_n C dX12_keyAt_17 2 rfl ?_
  refine r_iload_n C dX12_keyAt_18 3 rfl ?_
  refine r_iadd C dX12_keyAt_19 ?_
  obtain ⟨b2, h⟩ := gd_inv h
  refine r_cW (As := [.int (x2 + x3)]) (rest := []) C hR mlX12_82 dX12_keyAt_20 (t_scha2 hY b2) rfl rfl (nle rfl) (nle rfl) (nle rfl) ?_
  refine r_bipush C dX12_keyAt_23 bp_32 ?_
  refine r_icmp_eq 69 C dX12_keyAt_25 (by decide) (fun c3 => ?_) (fun c3 => ?_)
  · have h := (ite_inv h).1 c3
    exact kex0 x3 (Option.some.inj h).symm
  · have h := (ite_inv h).2 c3
    refine r_aload_n C dX12_keyAt_28 0 rfl ?_
    refine r_getI C flX12_86 dX12_keyAt_29 (ly139 hY) rfl ?_
    refine r_iload_n C dX12_keyAt_32 3 rfl ?_
    refine r_iadd C dX12_keyAt_33 ?_
    refine r_aload_n C dX12_keyAt_34 0 rfl ?_
    refine r_getI C flX12_89 dX12_keyAt_35 (ly139 hY) rfl ?_
    refine r_icmp_ge 69 C dX12_keyAt_38 (by decide) (fun c4 => ?_) (fun c4 => ?_)
    · have h := (ite_inv h).1 c4
      exact kex0 x3 (Option.some.inj h).symm
    · have h := (ite_inv h).2 c4
      refine r_aload_n C dX12_keyAt_41 0 rfl ?_
      refine r_getR C flX12_21 dX12_keyAt_42 (ly139 hY) rfl (lr139_3 hY) ?_
      refine r_aload_n C dX12_keyAt_45 0 rfl ?_
      refine r_getI C flX12_86 dX12_keyAt_46 (ly139 hY) rfl ?_
      refine r_iload_n C dX12_keyAt_49 3 rfl ?_
      refine r_iadd C dX12_keyAt_50 ?_
      obtain ⟨b5, h⟩ := gd_inv h
      refine r_iald C dX12_keyAt_51 (ly142 hY) b5 ?_
      refine r_ldcS C dX12_keyAt_52 C.2.2.2.2.2.2.1.2.2.1.2.2.1 ?_
      refine r_iload_n C dX12_keyAt_54 2 rfl ?_
      refine r_iload_n C dX12_keyAt_55 3 rfl ?_
      refine r_iadd C dX12_keyAt_56 ?_
      obtain ⟨b6, h⟩ := gd_inv h
      refine r_cW (As := [.int (x2 + x3)]) (rest := [.int (rI μ 142 (ix ((rI μ 139 6) + x3)))]) C hR mlX12_82 dX12_keyAt_57 (t_scha2 hY b6) rfl rfl (nle rfl) (nle rfl) (nle rfl) ?_
      refine r_icmp_ne 69 C dX12_keyAt_60 (by decide) (fun c7 => ?_) (fun c7 => ?_)
      · have h := (ite_inv h).2 c7
        exact kex0 x3 (Option.some.inj h).symm
      · have h := (ite_inv h).1 c7
        refine r_iinc [(3, .int (x3 + 1)), (0, .ref (wb (zw Z) + 139)), (1, .int x1), (2, .int x2)] C dX12_keyAt_63 3 rfl (in_1 _) (by decide) rfl ?_
        refine r_goto 15 C dX12_keyAt_66 (by decide) ?_
        refine r_sub [(0, .ref (wb (zw Z) + 139)), (1, .int x1), (2, .int x2), (3, .int (x3 + 1))] [1, 2, 3, 0] rfl ?_
        exact kin (x3 + 1) (Option.some.inj h).symm
def sX12_keyAt_97 (n : Nat) (x1 : Int32) (μ : Mu) : Int32 → Option ((Int32) ⊕ (Int32)) := fun q => match q with | x2 => gd (ib x2 113) (if (sch 2 (ix x2)) = 32 then (some (.inr x2)) else (some (.inl (x2 + 1))))
set_option maxRecDepth 100000 in
set_option maxHeartbeats 4000000 in
theorem lX12_keyAt_97 {Z : ZC} {sh : List Sh} {R : Rf} {o : (Int32) ⊕ (Int32)} (C : CX Z cX12_keyAt 4 RX12) (hR : zR Z = rm 6 0 0) (hY : LY sh R) (n : Nat) (x1 : Int32) (μ : Mu) (x2 : Int32) (h : sX12_keyAt_97 n x1 μ x2 = some o) (kin : ∀ (x2 : Int32), o = .inl x2 → Wm Z (0, 0, sh, R) μ 97 [(0, .ref (wb (zw Z) + 139)), (1, .int x1), (2, .int x2)] []) (kex0 : ∀ (x2 : Int32), o = .inr x2 → Wm Z (0, 0, sh, R) μ 114 [(0, .ref (wb (zw Z) + 139)), (1, .int x1), (2, .int x2)] []) : Wm Z (0, 0, sh, R) μ 97 [(0, .ref (wb (zw Z) + 139)), (1, .int x1), (2, .int x2)] [] := by
  unfold sX12_keyAt_97 at h
  refine r_ldcS C dX12_keyAt_97 C.2.2.2.2.2.2.1.2.2.1.2.2.1 ?_
  refine r_iload_n C dX12_keyAt_99 2 rfl ?_
  obtain ⟨b12, h⟩ := gd_inv h
  refine r_cW (As := [.int x2]) (rest := []) C hR mlX12_82 dX12_keyAt_100 (t_scha2 hY b12) rfl rfl (nle rfl) (nle rfl) (nle rfl) ?_
  refine r_bipush C dX12_keyAt_103 bp_32 ?_
  refine r_icmp_eq 114 C dX12_keyAt_105 (by decide) (fun c13 => ?_) (fun c13 => ?_)
  · have h := (ite_inv h).1 c13
    exact kex0 x2 (Option.some.inj h).symm
  · have h := (ite_inv h).2 c13
    refine r_iinc [(2, .int (x2 + 1)), (0, .ref (wb (zw Z) + 139)), (1, .int x1)] C dX12_keyAt_108 2 rfl (in_1 _) (by decide) rfl ?_
    refine r_goto 97 C dX12_keyAt_111 (by decide) ?_
    refine r_sub [(0, .ref (wb (zw Z) + 139)), (1, .int x1), (2, .int (x2 + 1))] [1, 2, 0] rfl ?_
    exact kin (x2 + 1) (Option.some.inj h).symm
def jX12_keyAt_69 (n : Nat) (x1 : Int32) (x2 : Int32) (x3 : Int32) (μ : Mu) : Option ((Int32 × Int32) ⊕ ((Int32) ⊕ (Unit))) := gd (ib (x2 + x3) 113) (if (sch 2 (ix (x2 + x3))) = 32 then (if ((rI μ 139 6) + x3) = (rI μ 139 7) then (some (.inr (.inl x1))) else (bnd (lp n (sX12_keyAt_97 n x1 μ) x2) fun q => match q with | u17 => some (.inl (x1 + 1, u17 + 1)))) else (bnd (lp n (sX12_keyAt_97 n x1 μ) x2) fun q => match q with | u14 => some (.inl (x1 + 1, u14 + 1))))
set_option maxRecDepth 100000 in
set_option maxHeartbeats 4000000 in
theorem kX12_keyAt_69 {Z : ZC} {sh : List Sh} {R : Rf} {o : (Int32 × Int32) ⊕ ((Int32) ⊕ (Unit))} (C : CX Z cX12_keyAt 4 RX12) (hR : zR Z = rm 6 0 0) (hY : LY sh R) (n : Nat) (x1 : Int32) (x2 : Int32) (x3 : Int32) (μ : Mu) (h : jX12_keyAt_69 n x1 x2 x3 μ = some o) (kin : ∀ (x1 : Int32) (x2 : Int32), o = .inl (x1, x2) → Wm Z (0, 0, sh, R) μ 4 [(0, .ref (wb (zw Z) + 139)), (1, .int x1), (2, .int x2)] []) (kex0 : ∀ (x1 : Int32), o = .inr (.inl x1) → Wm Z (0, 0, sh, R) μ 95 [(1, .int x1)] []) (kex1 : o = .inr (.inr ()) → Wm Z (0, 0, sh, R) μ 123 [] []) : Wm Z (0, 0, sh, R) μ 69 [(0, .ref (wb (zw Z) + 139)), (1, .int x1), (2, .int x2), (3, .int x3)] [] := by
  unfold jX12_keyAt_69 at h
  refine r_ldcS C dX12_keyAt_69 C.2.2.2.2.2.2.1.2.2.1.2.2.1 ?_
  refine r_iload_n C dX12_keyAt_71 2 rfl ?_
  refine r_iload_n C dX12_keyAt_72 3 rfl ?_
  refine r_iadd C dX12_keyAt_73 ?_
  obtain ⟨b10, h⟩ := gd_inv h
  refine r_cW (As := [.int (x2 + x3)]) (rest := []) C hR mlX12_82 dX12_keyAt_74 (t_scha2 hY b10) rfl rfl (nle rfl) (nle rfl) (nle rfl) ?_
  refine r_bipush C dX12_keyAt_77 bp_32 ?_
  refine r_icmp_ne 97 C dX12_keyAt_79 (by decide) (fun c11 => ?_) (fun c11 => ?_)
  · have h := (ite_inv h).2 c11
    refine r_sub [(0, .ref (wb (zw Z) + 139)), (1, .int x1), (2, .int x2)] [0, 1, 2] rfl ?_
    obtain ⟨u14, e15, h⟩ := bnd_inv h
    refine lp_all (sX12_keyAt_97 n x1 μ) (fun q => match q with | z2 => Wm Z (0, 0, sh, R) μ 97 [(0, .ref (wb (zw Z) + 139)), (1, .int x1), (2, .int z2)] []) (fun q => match q with | z2 => Wm Z (0, 0, sh, R) μ 114 [(0, .ref (wb (zw Z) + 139)), (1, .int x1), (2, .int z2)] []) (fun q o h kin kex => ?_) n x2 u14 e15 ?_
    · exact lX12_keyAt_97 C hR hY n   x1 μ q h (fun z2 e => kin z2 e) (fun z2 e => kex z2 e)
    show Wm Z (0, 0, sh, R) μ 114 [(0, .ref (wb (zw Z) + 139)), (1, .int x1), (2, .int u14)] []
    refine r_iinc [(2, .int (u14 + 1)), (0, .ref (wb (zw Z) + 139)), (1, .int x1)] C dX12_keyAt_114 2 rfl (in_1 _) (by decide) rfl ?_
    refine r_iinc [(1, .int (x1 + 1)), (2, .int (u14 + 1)), (0, .ref (wb (zw Z) + 139))] C dX12_keyAt_117 2 rfl (in_1 _) (by decide) rfl ?_
    refine r_goto 4 C dX12_keyAt_120 (by decide) ?_
    refine r_sub [(0, .ref (wb (zw Z) + 139)), (1, .int (x1 + 1)), (2, .int (u14 + 1))] [2, 0, 1] rfl ?_
    exact kin (x1 + 1) (u14 + 1) (Option.some.inj h).symm
  · have h := (ite_inv h).1 c11
    refine r_aload_n C dX12_keyAt_82 0 rfl ?_
    refine r_getI C flX12_86 dX12_keyAt_83 (ly139 hY) rfl ?_
    refine r_iload_n C dX12_keyAt_86 3 rfl ?_
    refine r_iadd C dX12_keyAt_87 ?_
    refine r_aload_n C dX12_keyAt_88 0 rfl ?_
    refine r_getI C flX12_89 dX12_keyAt_89 (ly139 hY) rfl ?_
    refine r_icmp_ne 97 C dX12_keyAt_92 (by decide) (fun c16 => ?_) (fun c16 => ?_)
    · have h := (ite_inv h).2 c16
      refine r_sub [(0, .ref (wb (zw Z) + 139)), (1, .int x1), (2, .int x2)] [0, 1, 2] rfl ?_
      obtain ⟨u17, e18, h⟩ := bnd_inv h
      refine lp_all (sX12_keyAt_97 n x1 μ) (fun q => match q with | z2 => Wm Z (0, 0, sh, R) μ 97 [(0, .ref (wb (zw Z) + 139)), (1, .int x1), (2, .int z2)] []) (fun q => match q with | z2 => Wm Z (0, 0, sh, R) μ 114 [(0, .ref (wb (zw Z) + 139)), (1, .int x1), (2, .int z2)] []) (fun q o h kin kex => ?_) n x2 u17 e18 ?_
      · exact lX12_keyAt_97 C hR hY n   x1 μ q h (fun z2 e => kin z2 e) (fun z2 e => kex z2 e)
      show Wm Z (0, 0, sh, R) μ 114 [(0, .ref (wb (zw Z) + 139)), (1, .int x1), (2, .int u17)] []
      refine r_iinc [(2, .int (u17 + 1)), (0, .ref (wb (zw Z) + 139)), (1, .int x1)] C dX12_keyAt_114 2 rfl (in_1 _) (by decide) rfl ?_
      refine r_iinc [(1, .int (x1 + 1)), (2, .int (u17 + 1)), (0, .ref (wb (zw Z) + 139))] C dX12_keyAt_117 2 rfl (in_1 _) (by decide) rfl ?_
      refine r_goto 4 C dX12_keyAt_120 (by decide) ?_
      refine r_sub [(0, .ref (wb (zw Z) + 139)), (1, .int (x1 + 1)), (2, .int (u17 + 1))] [2, 0, 1] rfl ?_
      exact kin (x1 + 1) (u17 + 1) (Option.some.inj h).symm
    · have h := (ite_inv h).1 c16
      refine r_sub [(1, .int x1)] [1] rfl ?_
      exact kex0 x1 (Option.some.inj h).symm
def sX12_keyAt_4 (n : Nat) (μ : Mu) : Int32 × Int32 → Option ((Int32 × Int32) ⊕ ((Int32) ⊕ (Unit))) := fun q => match q with | (x1, x2) => if 113 ≤ x2 then (some (.inr (.inr ()))) else (bnd (lp n (sX12_keyAt_15 n x1 x2 μ) 0) fun q => match q with | u8 => jX12_keyAt_69 n x1 x2 u8 μ)
set_option maxRecDepth 100000 in
set_option maxHeartbeats 4000000 in
theorem lX12_keyAt_4 {Z : ZC} {sh : List Sh} {R : Rf} {o : (Int32 × Int32) ⊕ ((Int32) ⊕ (Unit))} (C : CX Z cX12_keyAt 4 RX12) (hR : zR Z = rm 6 0 0) (hY : LY sh R) (n : Nat) (μ : Mu) (x1 : Int32) (x2 : Int32) (h : sX12_keyAt_4 n μ (x1, x2) = some o) (kin : ∀ (x1 : Int32) (x2 : Int32), o = .inl (x1, x2) → Wm Z (0, 0, sh, R) μ 4 [(0, .ref (wb (zw Z) + 139)), (1, .int x1), (2, .int x2)] []) (kex0 : ∀ (x1 : Int32), o = .inr (.inl x1) → Wm Z (0, 0, sh, R) μ 95 [(1, .int x1)] []) (kex1 : o = .inr (.inr ()) → Wm Z (0, 0, sh, R) μ 123 [] []) : Wm Z (0, 0, sh, R) μ 4 [(0, .ref (wb (zw Z) + 139)), (1, .int x1), (2, .int x2)] [] := by
  unfold sX12_keyAt_4 at h
  refine r_iload_n C dX12_keyAt_4 2 rfl ?_
  refine r_ldcS C dX12_keyAt_5 C.2.2.2.2.2.2.1.2.2.1.2.2.1 ?_
  refine r_cW (As := []) (rest := [.int x2]) C hR mlX12_76 dX12_keyAt_7 (t_slen2 hY) rfl rfl (nle rfl) (nle rfl) (nle rfl) ?_
  refine r_icmp_ge 123 C dX12_keyAt_10 (by decide) (fun c1 => ?_) (fun c1 => ?_)
  · have h := (ite_inv h).1 c1
    refine r_sub [] [] rfl ?_
    exact kex1 (Option.some.inj h).symm
  · have h := (ite_inv h).2 c1
    refine r_iconst C dX12_keyAt_13 ic_0 ?_
    refine r_istore_n [(3, .int 0), (0, .ref (wb (zw Z) + 139)), (1, .int x1), (2, .int x2)] C dX12_keyAt_14 rfl (by decide) rfl ?_
    refine r_sub [(0, .ref (wb (zw Z) + 139)), (1, .int x1), (2, .int x2), (3, .int 0)] [1, 2, 3, 0] rfl ?_
    obtain ⟨u8, e9, h⟩ := bnd_inv h
    refine lp_all (sX12_keyAt_15 n x1 x2 μ) (fun q => match q with | z3 => Wm Z (0, 0, sh, R) μ 15 [(0, .ref (wb (zw Z) + 139)), (1, .int x1), (2, .int x2), (3, .int z3)] []) (fun q => match q with | z3 => Wm Z (0, 0, sh, R) μ 69 [(0, .ref (wb (zw Z) + 139)), (1, .int x1), (2, .int x2), (3, .int z3)] []) (fun q o h kin kex => ?_) n 0 u8 e9 ?_
    · exact lX12_keyAt_15 C hR hY n   x1 x2 μ q h (fun z3 e => kin z3 e) (fun z3 e => kex z3 e)
    show Wm Z (0, 0, sh, R) μ 69 [(0, .ref (wb (zw Z) + 139)), (1, .int x1), (2, .int x2), (3, .int u8)] []
    exact kX12_keyAt_69 C hR hY n   x1 x2 u8 μ h kin kex0 kex1
def fX12_keyAt (n : Nat)  (μ : Mu) : Option (Int32) := bnd (lp n (sX12_keyAt_4 n μ) (0, 1)) fun q => match q with | .inl u19 => (some u19) | .inr () => (some 22)
set_option maxRecDepth 100000 in
set_option maxHeartbeats 4000000 in
theorem tX12_keyAt {l : Launch} {w : WP} {sh : List Sh} {R : Rf} {μ : Mu} {r : Int32} (hY : LY sh R) (n : Nat)   (h : fX12_keyAt n μ = some r) : CM l w yX12_keyAt cX12_keyAt 4 (some .int) 6 0 0 sh R [.ref (wb w + 139)] μ (some (.int r)) sh R μ := by
  refine CM.of (plainFor_of_name pf_X12) (Nat.le_of_ble_eq_true rfl) fun Z C hr _ hR hw hl hE => ?_
  subst hw; subst hl
  have C : CX Z cX12_keyAt 4 RX12 := C
  show Wm Z (0, 0, sh, R) μ 0 [(0, .ref (wb (zw Z) + 139))] []
  unfold fX12_keyAt at h
  refine r_iconst C dX12_keyAt_0 ic_0 ?_
  refine r_istore_n [(1, .int 0), (0, .ref (wb (zw Z) + 139))] C dX12_keyAt_1 rfl (by decide) rfl ?_
  refine r_iconst C dX12_keyAt_2 ic_1 ?_
  refine r_istore_n [(2, .int 1), (1, .int 0), (0, .ref (wb (zw Z) + 139))] C dX12_keyAt_3 rfl (by decide) rfl ?_
  refine r_sub [(0, .ref (wb (zw Z) + 139)), (1, .int 0), (2, .int 1)] [2, 1, 0] rfl ?_
  obtain ⟨q21, e20, h⟩ := bnd_inv h
  refine lp_all (sX12_keyAt_4 n μ) (fun q => match q with | (z1, z2) => Wm Z (0, 0, sh, R) μ 4 [(0, .ref (wb (zw Z) + 139)), (1, .int z1), (2, .int z2)] []) (fun q => match q with | .inl z1 => Wm Z (0, 0, sh, R) μ 95 [(1, .int z1)] [] | .inr () => Wm Z (0, 0, sh, R) μ 123 [] []) (fun q o h kin kex => ?_) n (0, 1) q21 e20 ?_
  · obtain ⟨z1, z2⟩ := q; exact lX12_keyAt_4 C hR hY n   μ z1 z2 h (fun z1 z2 e => kin (z1, z2) e) (fun z1 e => kex (.inl z1) e) (fun e => kex (.inr ()) e)
  rcases q21 with u19 | ⟨⟩
  · show Wm Z (0, 0, sh, R) μ 95 [(1, .int u19)] []
    refine r_iload_n C dX12_keyAt_95 0 rfl ?_
    have h := Option.some.inj h
    subst h
    exact r_iret C dX12_keyAt_96 hr hE
  · show Wm Z (0, 0, sh, R) μ 123 [] []
    refine r_bipush C dX12_keyAt_123 bp_22 ?_
    have h := Option.some.inj h
    subst h
    exact r_iret C dX12_keyAt_125 hr hE
def jX12_next_34 (n : Nat)  (μ : Mu) : Option ((Mu) ⊕ (Mu)) := some (.inl (wI μ 139 6 ((rI μ 139 6) + 1)))
set_option maxRecDepth 100000 in
set_option maxHeartbeats 4000000 in
theorem kX12_next_34 {Z : ZC} {sh : List Sh} {R : Rf} {o : (Mu) ⊕ (Mu)} (C : CX Z cX12_next 2 RX12) (hR : zR Z = rm 7 0 0) (hY : LY sh R) (n : Nat)  (μ : Mu) (h : jX12_next_34 n μ = some o) (kin : ∀ (μ : Mu), o = .inl μ → Wm Z (0, 0, sh, R) μ 8 [(0, .ref (wb (zw Z) + 139))] []) (kex0 : ∀ (μ : Mu), o = .inr μ → Wm Z (0, 0, sh, R) μ 47 [(0, .ref (wb (zw Z) + 139))] []) : Wm Z (0, 0, sh, R) μ 34 [(0, .ref (wb (zw Z) + 139))] [] := by
  unfold jX12_next_34 at h
  refine r_aload_n C dX12_next_34 0 rfl ?_
  refine r_dup C dX12_next_35 rfl ?_
  refine r_getI C flX12_86 dX12_next_36 (ly139 hY) rfl ?_
  refine r_iconst C dX12_next_39 ic_1 ?_
  refine r_iadd C dX12_next_40 ?_
  refine r_putI C fiX12_86 dX12_next_41 (ly139 hY) ?_
  refine r_goto 8 C dX12_next_44 (by decide) ?_
  exact kin (wI μ 139 6 ((rI μ 139 6) + 1)) (Option.some.inj h).symm
def sX12_next_8 (n : Nat)  : Mu → Option ((Mu) ⊕ (Mu)) := fun q => match q with | μ => bnd (fX12_see n (rI μ 139 6) μ) fun u2 => if u2 = 10 then (jX12_next_34 n μ) else (bnd (fX12_see n (rI μ 139 6) μ) fun u5 => if u5 = 32 then (jX12_next_34 n μ) else (some (.inr μ)))
set_option maxRecDepth 100000 in
set_option maxHeartbeats 4000000 in
theorem lX12_next_8 {Z : ZC} {sh : List Sh} {R : Rf} {o : (Mu) ⊕ (Mu)} (C : CX Z cX12_next 2 RX12) (hR : zR Z = rm 7 0 0) (hY : LY sh R) (n : Nat)  (μ : Mu) (h : sX12_next_8 n μ = some o) (kin : ∀ (μ : Mu), o = .inl μ → Wm Z (0, 0, sh, R) μ 8 [(0, .ref (wb (zw Z) + 139))] []) (kex0 : ∀ (μ : Mu), o = .inr μ → Wm Z (0, 0, sh, R) μ 47 [(0, .ref (wb (zw Z) + 139))] []) : Wm Z (0, 0, sh, R) μ 8 [(0, .ref (wb (zw Z) + 139))] [] := by
  unfold sX12_next_8 at h
  refine r_aload_n C dX12_next_8 0 rfl ?_
  refine r_aload_n C dX12_next_9 0 rfl ?_
  refine r_getI C flX12_86 dX12_next_10 (ly139 hY) rfl ?_
  obtain ⟨u2, e1, h⟩ := bnd_inv h
  refine r_cVi (As := [.int (rI μ 139 6)]) (rest := []) C hR mlX12_92 dX12_next_13 (tX12_see hY n (rI μ 139 6)  e1) rfl rfl (ly139 hY) rfl (nle rfl) (nle rfl) (nle rfl) ?_
  refine r_bipush C dX12_next_16 bp_10 ?_
  refine r_icmp_eq 34 C dX12_next_18 (by decide) (fun c3 => ?_) (fun c3 => ?_)
  · have h := (ite_inv h).1 c3
    exact kX12_next_34 C hR hY n   μ h kin kex0
  · have h := (ite_inv h).2 c3
    refine r_aload_n C dX12_next_21 0 rfl ?_
    refine r_aload_n C dX12_next_22 0 rfl ?_
    refine r_getI C flX12_86 dX12_next_23 (ly139 hY) rfl ?_
    obtain ⟨u5, e4, h⟩ := bnd_inv h
    refine r_cVi (As := [.int (rI μ 139 6)]) (rest := []) C hR mlX12_92 dX12_next_26 (tX12_see hY n (rI μ 139 6)  e4) rfl rfl (ly139 hY) rfl (nle rfl) (nle rfl) (nle rfl) ?_
    refine r_bipush C dX12_next_29 bp_32 ?_
    refine r_icmp_ne 47 C dX12_next_31 (by decide) (fun c6 => ?_) (fun c6 => ?_)
    · have h := (ite_inv h).2 c6
      exact kex0 μ (Option.some.inj h).symm
    · have h := (ite_inv h).1 c6
      exact kX12_next_34 C hR hY n   μ h kin kex0
def sX12_next_254 (n : Nat)  : Int32 × Mu → Option ((Int32 × Mu) ⊕ (Mu)) := fun q => match q with | (x1, μ) => if 12 ≤ x1 then (some (.inr μ)) else (bnd (fX12_see n (rI μ 139 6) μ) fun u22 => gd (ib x1 12) (if u22 = (sch 1 (ix x1)) then (some (.inl (x1 + 1, wI μ 139 9 (30 + x1)))) else (some (.inl (x1 + 1, μ)))))
set_option maxRecDepth 100000 in
set_option maxHeartbeats 4000000 in
theorem lX12_next_254 {Z : ZC} {sh : List Sh} {R : Rf} {o : (Int32 × Mu) ⊕ (Mu)} (C : CX Z cX12_next 2 RX12) (hR : zR Z = rm 7 0 0) (hY : LY sh R) (n : Nat)  (x1 : Int32) (μ : Mu) (h : sX12_next_254 n (x1, μ) = some o) (kin : ∀ (x1 : Int32) (μ : Mu), o = .inl (x1, μ) → Wm Z (0, 0, sh, R) μ 254 [(0, .ref (wb (zw Z) + 139)), (1, .int x1)] []) (kex0 : ∀ (μ : Mu), o = .inr μ → Wm Z (0, 0, sh, R) μ 294 [] []) : Wm Z (0, 0, sh, R) μ 254 [(0, .ref (wb (zw Z) + 139)), (1, .int x1)] [] := by
  unfold sX12_next_254 at h
  refine r_iload_n C dX12_next_254 1 rfl ?_
  refine r_ldcS C dX12_next_255 C.2.2.2.2.2.2.1.2.2.1.2.2.2 ?_
  refine r_cW (As := []) (rest := [.int x1]) C hR mlX12_76 dX12_next_257 (t_slen1 hY) rfl rfl (nle rfl) (nle rfl) (nle rfl) ?_
  refine r_icmp_ge 294 C dX12_next_260 (by decide) (fun c20 => ?_) (fun c20 => ?_)
  · have h := (ite_inv h).1 c20
    refine r_sub [] [] rfl ?_
    exact kex0 μ (Option.some.inj h).symm
  · have h := (ite_inv h).2 c20
    refine r_aload_n C dX12_next_263 0 rfl ?_
    refine r_aload_n C dX12_next_264 0 rfl ?_
    refine r_getI C flX12_86 dX12_next_265 (ly139 hY) rfl ?_
    obtain ⟨u22, e21, h⟩ := bnd_inv h
    refine r_cVi (As := [.int (rI μ 139 6)]) (rest := []) C hR mlX12_92 dX12_next_268 (tX12_see hY n (rI μ 139 6)  e21) rfl rfl (ly139 hY) rfl (nle rfl) (nle rfl) (nle rfl) ?_
    refine r_ldcS C dX12_next_271 C.2.2.2.2.2.2.1.2.2.1.2.2.2 ?_
    refine r_iload_n C dX12_next_273 1 rfl ?_
    obtain ⟨b23, h⟩ := gd_inv h
    refine r_cW (As := [.int x1]) (rest := [.int u22]) C hR mlX12_82 dX12_next_274 (t_scha1 hY b23) rfl rfl (nle rfl) (nle rfl) (nle rfl) ?_
    refine r_icmp_ne 288 C dX12_next_277 (by decide) (fun c24 => ?_) (fun c24 => ?_)
    · have h := (ite_inv h).2 c24
      refine r_iinc [(1, .int (x1 + 1)), (0, .ref (wb (zw Z) + 139))] C dX12_next_288 1 rfl (in_1 _) (by decide) rfl ?_
      refine r_goto 254 C dX12_next_291 (by decide) ?_
      refine r_sub [(0, .ref (wb (zw Z) + 139)), (1, .int (x1 + 1))] [1, 0] rfl ?_
      exact kin (x1 + 1) μ (Option.some.inj h).symm
    · have h := (ite_inv h).1 c24
      refine r_aload_n C dX12_next_280 0 rfl ?_
      refine r_bipush C dX12_next_281 bp_30 ?_
      refine r_iload_n C dX12_next_283 1 rfl ?_
      refine r_iadd C dX12_next_284 ?_
      refine r_putI C fiX12_96 dX12_next_285 (ly139 hY) ?_
      refine r_iinc [(1, .int (x1 + 1)), (0, .ref (wb (zw Z) + 139))] C dX12_next_288 1 rfl (in_1 _) (by decide) rfl ?_
      refine r_goto 254 C dX12_next_291 (by decide) ?_
      refine r_sub [(0, .ref (wb (zw Z) + 139)), (1, .int (x1 + 1))] [1, 0] rfl ?_
      exact kin (x1 + 1) (wI μ 139 9 (30 + x1)) (Option.some.inj h).symm
def jX12_next_196 (n : Nat)  (μ : Mu) : Option ((Mu) ⊕ (Mu)) := some (.inl (wI μ 139 7 ((rI μ 139 7) + 1)))
set_option maxRecDepth 100000 in
set_option maxHeartbeats 4000000 in
theorem kX12_next_196 {Z : ZC} {sh : List Sh} {R : Rf} {o : (Mu) ⊕ (Mu)} (C : CX Z cX12_next 2 RX12) (hR : zR Z = rm 7 0 0) (hY : LY sh R) (n : Nat)  (μ : Mu) (h : jX12_next_196 n μ = some o) (kin : ∀ (μ : Mu), o = .inl μ → Wm Z (0, 0, sh, R) μ 146 [(0, .ref (wb (zw Z) + 139))] []) (kex0 : ∀ (μ : Mu), o = .inr μ → Wm Z (0, 0, sh, R) μ 209 [(0, .ref (wb (zw Z) + 139))] []) : Wm Z (0, 0, sh, R) μ 196 [(0, .ref (wb (zw Z) + 139))] [] := by
  unfold jX12_next_196 at h
  refine r_aload_n C dX12_next_196 0 rfl ?_
  refine r_dup C dX12_next_197 rfl ?_
  refine r_getI C flX12_89 dX12_next_198 (ly139 hY) rfl ?_
  refine r_iconst C dX12_next_201 ic_1 ?_
  refine r_iadd C dX12_next_202 ?_
  refine r_putI C fiX12_89 dX12_next_203 (ly139 hY) ?_
  refine r_goto 146 C dX12_next_206 (by decide) ?_
  exact kin (wI μ 139 7 ((rI μ 139 7) + 1)) (Option.some.inj h).symm
def sX12_next_146 (n : Nat)  : Mu → Option ((Mu) ⊕ (Mu)) := fun q => match q with | μ => bnd (fX12_see n (rI μ 139 7) μ) fun u28 => bnd (fX12_isDigit n u28 μ) fun u30 => if u30 = 0 then (some (.inr μ)) else (if 3 ≤ ((rI μ 139 7) - (rI μ 139 6)) then (jX12_next_196 n μ) else (bnd (fX12_see n (rI μ 139 7) μ) fun u34 => jX12_next_196 n (wI μ 139 10 (((10 * (rI μ 139 10)) + u34) - 48))))
set_option maxRecDepth 100000 in
set_option maxHeartbeats 4000000 in
theorem lX12_next_146 {Z : ZC} {sh : List Sh} {R : Rf} {o : (Mu) ⊕ (Mu)} (C : CX Z cX12_next 2 RX12) (hR : zR Z = rm 7 0 0) (hY : LY sh R) (n : Nat)  (μ : Mu) (h : sX12_next_146 n μ = some o) (kin : ∀ (μ : Mu), o = .inl μ → Wm Z (0, 0, sh, R) μ 146 [(0, .ref (wb (zw Z) + 139))] []) (kex0 : ∀ (μ : Mu), o = .inr μ → Wm Z (0, 0, sh, R) μ 209 [(0, .ref (wb (zw Z) + 139))] []) : Wm Z (0, 0, sh, R) μ 146 [(0, .ref (wb (zw Z) + 139))] [] := by
  unfold sX12_next_146 at h
  refine r_aload_n C dX12_next_146 0 rfl ?_
  refine r_aload_n C dX12_next_147 0 rfl ?_
  refine r_getI C flX12_89 dX12_next_148 (ly139 hY) rfl ?_
  obtain ⟨u28, e27, h⟩ := bnd_inv h
  refine r_cVi (As := [.int (rI μ 139 7)]) (rest := []) C hR mlX12_92 dX12_next_151 (tX12_see hY n (rI μ 139 7)  e27) rfl rfl (ly139 hY) rfl (nle rfl) (nle rfl) (nle rfl) ?_
  obtain ⟨u30, e29, h⟩ := bnd_inv h
  refine r_cSi (As := [.int u28]) (rest := []) C hR mlX12_106 dX12_next_154 (tX12_isDigit hY n u28  e29) rfl rfl (nle rfl) (nle rfl) (nle rfl) ?_
  refine r_if_eq 209 C dX12_next_157 (by decide) (fun c31 => ?_) (fun c31 => ?_)
  · have h := (ite_inv h).1 c31
    exact kex0 μ (Option.some.inj h).symm
  · have h := (ite_inv h).2 c31
    refine r_aload_n C dX12_next_160 0 rfl ?_
    refine r_getI C flX12_89 dX12_next_161 (ly139 hY) rfl ?_
    refine r_aload_n C dX12_next_164 0 rfl ?_
    refine r_getI C flX12_86 dX12_next_165 (ly139 hY) rfl ?_
    refine r_isub C dX12_next_168 ?_
    refine r_iconst C dX12_next_169 ic_3 ?_
    refine r_icmp_ge 196 C dX12_next_170 (by decide) (fun c32 => ?_) (fun c32 => ?_)
    · have h := (ite_inv h).1 c32
      exact kX12_next_196 C hR hY n   μ h kin kex0
    · have h := (ite_inv h).2 c32
      refine r_aload_n C dX12_next_173 0 rfl ?_
      refine r_bipush C dX12_next_174 bp_10 ?_
      refine r_aload_n C dX12_next_176 0 rfl ?_
      refine r_getI C flX12_109 dX12_next_177 (ly139 hY) rfl ?_
      refine r_imul C dX12_next_180 ?_
      refine r_aload_n C dX12_next_181 0 rfl ?_
      refine r_aload_n C dX12_next_182 0 rfl ?_
      refine r_getI C flX12_89 dX12_next_183 (ly139 hY) rfl ?_
      obtain ⟨u34, e33, h⟩ := bnd_inv h
      refine r_cVi (As := [.int (rI μ 139 7)]) (rest := [.int (10 * (rI μ 139 10)), .ref (wb (zw Z) + 139)]) C hR mlX12_92 dX12_next_186 (tX12_see hY n (rI μ 139 7)  e33) rfl rfl (ly139 hY) rfl (nle rfl) (nle rfl) (nle rfl) ?_
      refine r_iadd C dX12_next_189 ?_
      refine r_bipush C dX12_next_190 bp_48 ?_
      refine r_isub C dX12_next_192 ?_
      refine r_putI C fiX12_109 dX12_next_193 (ly139 hY) ?_
      exact kX12_next_196 C hR hY n   (wI μ 139 10 (((10 * (rI μ 139 10)) + u34) - 48)) h kin kex0
def sX12_next_89 (n : Nat)  : Mu → Option ((Mu) ⊕ (Mu)) := fun q => match q with | μ => bnd (fX12_see n (rI μ 139 7) μ) fun u39 => bnd (fX12_isSmall n u39 μ) fun u41 => if u41 = 0 then (some (.inr μ)) else (some (.inl (wI μ 139 7 ((rI μ 139 7) + 1))))
set_option maxRecDepth 100000 in
set_option maxHeartbeats 4000000 in
theorem lX12_next_89 {Z : ZC} {sh : List Sh} {R : Rf} {o : (Mu) ⊕ (Mu)} (C : CX Z cX12_next 2 RX12) (hR : zR Z = rm 7 0 0) (hY : LY sh R) (n : Nat)  (μ : Mu) (h : sX12_next_89 n μ = some o) (kin : ∀ (μ : Mu), o = .inl μ → Wm Z (0, 0, sh, R) μ 89 [(0, .ref (wb (zw Z) + 139))] []) (kex0 : ∀ (μ : Mu), o = .inr μ → Wm Z (0, 0, sh, R) μ 116 [(0, .ref (wb (zw Z) + 139))] []) : Wm Z (0, 0, sh, R) μ 89 [(0, .ref (wb (zw Z) + 139))] [] := by
  unfold sX12_next_89 at h
  refine r_aload_n C dX12_next_89 0 rfl ?_
  refine r_aload_n C dX12_next_90 0 rfl ?_
  refine r_getI C flX12_89 dX12_next_91 (ly139 hY) rfl ?_
  obtain ⟨u39, e38, h⟩ := bnd_inv h
  refine r_cVi (As := [.int (rI μ 139 7)]) (rest := []) C hR mlX12_92 dX12_next_94 (tX12_see hY n (rI μ 139 7)  e38) rfl rfl (ly139 hY) rfl (nle rfl) (nle rfl) (nle rfl) ?_
  obtain ⟨u41, e40, h⟩ := bnd_inv h
  refine r_cSi (As := [.int u39]) (rest := []) C hR mlX12_99 dX12_next_97 (tX12_isSmall hY n u39  e40) rfl rfl (nle rfl) (nle rfl) (nle rfl) ?_
  refine r_if_eq 116 C dX12_next_100 (by decide) (fun c42 => ?_) (fun c42 => ?_)
  · have h := (ite_inv h).1 c42
    exact kex0 μ (Option.some.inj h).symm
  · have h := (ite_inv h).2 c42
    refine r_aload_n C dX12_next_103 0 rfl ?_
    refine r_dup C dX12_next_104 rfl ?_
    refine r_getI C flX12_89 dX12_next_105 (ly139 hY) rfl ?_
    refine r_iconst C dX12_next_108 ic_1 ?_
    refine r_iadd C dX12_next_109 ?_
    refine r_putI C fiX12_89 dX12_next_110 (ly139 hY) ?_
    refine r_goto 89 C dX12_next_113 (by decide) ?_
    exact kin (wI μ 139 7 ((rI μ 139 7) + 1)) (Option.some.inj h).symm
def fX12_next (n : Nat)  (μ : Mu) : Option (Mu) := bnd (lp n (sX12_next_8 n) (wI μ 139 6 (rI μ 139 7))) fun q => match q with | m7 => if (rI (wI m7 139 7 (rI m7 139 6)) 139 6) < (rI (wI m7 139 7 (rI m7 139 6)) 139 8) then (bnd (fX12_see n (rI (wI m7 139 7 (rI m7 139 6)) 139 6) (wI m7 139 7 (rI m7 139 6))) fun u11 => bnd (fX12_isSmall n u11 (wI m7 139 7 (rI m7 139 6))) fun u13 => if u13 = 0 then (bnd (fX12_see n (rI (wI m7 139 7 (rI m7 139 6)) 139 6) (wI m7 139 7 (rI m7 139 6))) fun u16 => bnd (fX12_isDigit n u16 (wI m7 139 7 (rI m7 139 6))) fun u18 => if u18 = 0 then (bnd (lp n (sX12_next_254 n) (0, wI (wI (wI m7 139 7 (rI m7 139 6)) 139 7 ((rI (wI m7 139 7 (rI m7 139 6)) 139 7) + 1)) 139 9 25)) fun q => match q with | m25 => some m25) else (bnd (lp n (sX12_next_146 n) (wI (wI m7 139 7 (rI m7 139 6)) 139 10 0)) fun q => match q with | m35 => some (wI m35 139 9 (if ((rI m35 139 7) - (rI m35 139 6)) ≤ 3 then 23 else 25 : Int32)))) else (bnd (lp n (sX12_next_89 n) (wI m7 139 7 (rI m7 139 6))) fun q => match q with | m43 => bnd (fX12_keyAt n m43) fun u46 => some (wI m43 139 9 u46))) else (some (wI (wI m7 139 7 (rI m7 139 6)) 139 9 24))
set_option maxRecDepth 100000 in
set_option maxHeartbeats 4000000 in
theorem tX12_next {l : Launch} {w : WP} {sh : List Sh} {R : Rf} {μ : Mu} {μ' : Mu} (hY : LY sh R) (n : Nat)   (h : fX12_next n μ = some μ') : CM l w yX12_next cX12_next 2 none 7 0 0 sh R [.ref (wb w + 139)] μ none sh R μ' := by
  refine CM.of (plainFor_of_name pf_X12) (Nat.le_of_ble_eq_true rfl) fun Z C hr _ hR hw hl hE => ?_
  subst hw; subst hl
  have C : CX Z cX12_next 2 RX12 := C
  show Wm Z (0, 0, sh, R) μ 0 [(0, .ref (wb (zw Z) + 139))] []
  unfold fX12_next at h
  refine r_aload_n C dX12_next_0 0 rfl ?_
  refine r_aload_n C dX12_next_1 0 rfl ?_
  refine r_getI C flX12_89 dX12_next_2 (ly139 hY) rfl ?_
  refine r_putI C fiX12_86 dX12_next_5 (ly139 hY) ?_
  obtain ⟨m7, e8, h⟩ := bnd_inv h
  refine lp_all (sX12_next_8 n) (fun q => match q with | ν => Wm Z (0, 0, sh, R) (ν) 8 [(0, .ref (wb (zw Z) + 139))] []) (fun q => match q with | ν => Wm Z (0, 0, sh, R) (ν) 47 [(0, .ref (wb (zw Z) + 139))] []) (fun q o h kin kex => ?_) n (wI μ 139 6 (rI μ 139 7)) m7 e8 ?_
  · exact lX12_next_8 C hR hY n    q h (fun ν e => kin ν e) (fun ν e => kex (ν) e)
  show Wm Z (0, 0, sh, R) m7 47 [(0, .ref (wb (zw Z) + 139))] []
  refine r_aload_n C dX12_next_47 0 rfl ?_
  refine r_aload_n C dX12_next_48 0 rfl ?_
  refine r_getI C flX12_86 dX12_next_49 (ly139 hY) rfl ?_
  refine r_putI C fiX12_89 dX12_next_52 (ly139 hY) ?_
  refine r_aload_n C dX12_next_55 0 rfl ?_
  refine r_getI C flX12_86 dX12_next_56 (ly139 hY) rfl ?_
  refine r_aload_n C dX12_next_59 0 rfl ?_
  refine r_getI C flX12_71 dX12_next_60 (ly139 hY) rfl ?_
  refine r_icmp_lt 75 C dX12_next_63 (by decide) (fun c9 => ?_) (fun c9 => ?_)
  · have h := (ite_inv h).1 c9
    refine r_aload_n C dX12_next_75 0 rfl ?_
    refine r_aload_n C dX12_next_76 0 rfl ?_
    refine r_getI C flX12_86 dX12_next_77 (ly139 hY) rfl ?_
    obtain ⟨u11, e10, h⟩ := bnd_inv h
    refine r_cVi (As := [.int (rI (wI m7 139 7 (rI m7 139 6)) 139 6)]) (rest := []) C hR mlX12_92 dX12_next_80 (tX12_see hY n (rI (wI m7 139 7 (rI m7 139 6)) 139 6)  e10) rfl rfl (ly139 hY) rfl (nle rfl) (nle rfl) (nle rfl) ?_
    obtain ⟨u13, e12, h⟩ := bnd_inv h
    refine r_cSi (As := [.int u11]) (rest := []) C hR mlX12_99 dX12_next_83 (tX12_isSmall hY n u11  e12) rfl rfl (nle rfl) (nle rfl) (nle rfl) ?_
    refine r_if_eq 127 C dX12_next_86 (by decide) (fun c14 => ?_) (fun c14 => ?_)
    · have h := (ite_inv h).1 c14
      refine r_aload_n C dX12_next_127 0 rfl ?_
      refine r_aload_n C dX12_next_128 0 rfl ?_
      refine r_getI C flX12_86 dX12_next_129 (ly139 hY) rfl ?_
      obtain ⟨u16, e15, h⟩ := bnd_inv h
      refine r_cVi (As := [.int (rI (wI m7 139 7 (rI m7 139 6)) 139 6)]) (rest := []) C hR mlX12_92 dX12_next_132 (tX12_see hY n (rI (wI m7 139 7 (rI m7 139 6)) 139 6)  e15) rfl rfl (ly139 hY) rfl (nle rfl) (nle rfl) (nle rfl) ?_
      obtain ⟨u18, e17, h⟩ := bnd_inv h
      refine r_cSi (As := [.int u16]) (rest := []) C hR mlX12_106 dX12_next_135 (tX12_isDigit hY n u16  e17) rfl rfl (nle rfl) (nle rfl) (nle rfl) ?_
      refine r_if_eq 236 C dX12_next_138 (by decide) (fun c19 => ?_) (fun c19 => ?_)
      · have h := (ite_inv h).1 c19
        refine r_aload_n C dX12_next_236 0 rfl ?_
        refine r_dup C dX12_next_237 rfl ?_
        refine r_getI C flX12_89 dX12_next_238 (ly139 hY) rfl ?_
        refine r_iconst C dX12_next_241 ic_1 ?_
        refine r_iadd C dX12_next_242 ?_
        refine r_putI C fiX12_89 dX12_next_243 (ly139 hY) ?_
        refine r_aload_n C dX12_next_246 0 rfl ?_
        refine r_bipush C dX12_next_247 bp_25 ?_
        refine r_putI C fiX12_96 dX12_next_249 (ly139 hY) ?_
        refine r_iconst C dX12_next_252 ic_0 ?_
        refine r_istore_n [(1, .int 0), (0, .ref (wb (zw Z) + 139))] C dX12_next_253 rfl (by decide) rfl ?_
        refine r_sub [(0, .ref (wb (zw Z) + 139)), (1, .int 0)] [1, 0] rfl ?_
        obtain ⟨m25, e26, h⟩ := bnd_inv h
        refine lp_all (sX12_next_254 n) (fun q => match q with | (z1, ν) => Wm Z (0, 0, sh, R) (ν) 254 [(0, .ref (wb (zw Z) + 139)), (1, .int z1)] []) (fun q => match q with | ν => Wm Z (0, 0, sh, R) (ν) 294 [] []) (fun q o h kin kex => ?_) n (0, wI (wI (wI m7 139 7 (rI m7 139 6)) 139 7 ((rI (wI m7 139 7 (rI m7 139 6)) 139 7) + 1)) 139 9 25) m25 e26 ?_
        · obtain ⟨z1, ν⟩ := q; exact lX12_next_254 C hR hY n    z1 ν h (fun z1 ν e => kin (z1, ν) e) (fun ν e => kex (ν) e)
        show Wm Z (0, 0, sh, R) m25 294 [] []
        have h := Option.some.inj h
        subst h
        exact r_vret C dX12_next_294 hr hE
      · have h := (ite_inv h).2 c19
        refine r_aload_n C dX12_next_141 0 rfl ?_
        refine r_iconst C dX12_next_142 ic_0 ?_
        refine r_putI C fiX12_109 dX12_next_143 (ly139 hY) ?_
        obtain ⟨m35, e36, h⟩ := bnd_inv h
        refine lp_all (sX12_next_146 n) (fun q => match q with | ν => Wm Z (0, 0, sh, R) (ν) 146 [(0, .ref (wb (zw Z) + 139))] []) (fun q => match q with | ν => Wm Z (0, 0, sh, R) (ν) 209 [(0, .ref (wb (zw Z) + 139))] []) (fun q o h kin kex => ?_) n (wI (wI m7 139 7 (rI m7 139 6)) 139 10 0) m35 e36 ?_
        · exact lX12_next_146 C hR hY n    q h (fun ν e => kin ν e) (fun ν e => kex (ν) e)
        show Wm Z (0, 0, sh, R) m35 209 [(0, .ref (wb (zw Z) + 139))] []
        refine r_aload_n C dX12_next_209 0 rfl ?_
        refine r_aload_n C dX12_next_210 0 rfl ?_
        refine r_getI C flX12_89 dX12_next_211 (ly139 hY) rfl ?_
        refine r_aload_n C dX12_next_214 0 rfl ?_
        refine r_getI C flX12_86 dX12_next_215 (ly139 hY) rfl ?_
        refine r_isub C dX12_next_218 ?_
        refine r_iconst C dX12_next_219 ic_3 ?_
        suffices hj : Wm Z (0, 0, sh, R) m35 230 [(0, .ref (wb (zw Z) + 139))] [.int (if ((rI m35 139 7) - (rI m35 139 6)) ≤ 3 then 23 else 25 : Int32), .ref (wb (zw Z) + 139)] by
          refine r_icmp_le 228 C dX12_next_220 (by decide) (fun c37 => ?_) (fun c37 => ?_)
          · refine r_bipush C dX12_next_228 bp_23 ?_
            exact sel_t c37 hj
          · refine r_bipush C dX12_next_223 bp_25 ?_
            refine r_goto 230 C dX12_next_225 (by decide) ?_
            exact sel_f c37 hj
        refine r_putI C fiX12_96 dX12_next_230 (ly139 hY) ?_
        refine r_goto 294 C dX12_next_233 (by decide) ?_
        have h := Option.some.inj h
        subst h
        exact r_vret C dX12_next_294 hr hE
    · have h := (ite_inv h).2 c14
      obtain ⟨m43, e44, h⟩ := bnd_inv h
      refine lp_all (sX12_next_89 n) (fun q => match q with | ν => Wm Z (0, 0, sh, R) (ν) 89 [(0, .ref (wb (zw Z) + 139))] []) (fun q => match q with | ν => Wm Z (0, 0, sh, R) (ν) 116 [(0, .ref (wb (zw Z) + 139))] []) (fun q o h kin kex => ?_) n (wI m7 139 7 (rI m7 139 6)) m43 e44 ?_
      · exact lX12_next_89 C hR hY n    q h (fun ν e => kin ν e) (fun ν e => kex (ν) e)
      show Wm Z (0, 0, sh, R) m43 116 [(0, .ref (wb (zw Z) + 139))] []
      refine r_aload_n C dX12_next_116 0 rfl ?_
      refine r_aload_n C dX12_next_117 0 rfl ?_
      obtain ⟨u46, e45, h⟩ := bnd_inv h
      refine r_cVi (As := []) (rest := [.ref (wb (zw Z) + 139)]) C hR mlX12_103 dX12_next_118 (tX12_keyAt hY n  e45) rfl rfl (ly139 hY) rfl (nle rfl) (nle rfl) (nle rfl) ?_
      refine r_putI C fiX12_96 dX12_next_121 (ly139 hY) ?_
      refine r_goto 294 C dX12_next_124 (by decide) ?_
      have h := Option.some.inj h
      subst h
      exact r_vret C dX12_next_294 hr hE
  · have h := (ite_inv h).2 c9
    refine r_aload_n C dX12_next_66 0 rfl ?_
    refine r_bipush C dX12_next_67 bp_24 ?_
    refine r_putI C fiX12_96 dX12_next_69 (ly139 hY) ?_
    refine r_goto 294 C dX12_next_72 (by decide) ?_
    have h := Option.some.inj h
    subst h
    exact r_vret C dX12_next_294 hr hE
def fX12_fails (n : Nat) (x1 : Int32) (μ : Mu) : Option (Mu) := if (rI μ 139 11) = 0 then (some (wI (wI μ 139 11 (if (rI μ 139 9) = 25 then 1 else x1)) 139 12 (rI (wI μ 139 11 (if (rI μ 139 9) = 25 then 1 else x1)) 139 6))) else (some μ)
set_option maxRecDepth 100000 in
set_option maxHeartbeats 4000000 in
theorem tX12_fails {l : Launch} {w : WP} {sh : List Sh} {R : Rf} {μ : Mu} {μ' : Mu} (hY : LY sh R) (n : Nat) (x1 : Int32)  (h : fX12_fails n x1 μ = some μ') : CM l w yX12_fails cX12_fails 2 none 0 0 0 sh R [.ref (wb w + 139), .int x1] μ none sh R μ' := by
  refine CM.of (plainFor_of_name pf_X12) (Nat.le_of_ble_eq_true rfl) fun Z C hr _ hR hw hl hE => ?_
  subst hw; subst hl
  have C : CX Z cX12_fails 2 RX12 := C
  show Wm Z (0, 0, sh, R) μ 0 [(0, .ref (wb (zw Z) + 139)), (1, .int x1)] []
  unfold fX12_fails at h
  refine r_aload_n C dX12_fails_0 0 rfl ?_
  refine r_getI C flX12_114 dX12_fails_1 (ly139 hY) rfl ?_
  refine r_if_eq 8 C dX12_fails_4 (by decide) (fun c1 => ?_) (fun c1 => ?_)
  · have h := (ite_inv h).1 c1
    refine r_aload_n C dX12_fails_8 0 rfl ?_
    refine r_aload_n C dX12_fails_9 0 rfl ?_
    refine r_getI C flX12_96 dX12_fails_10 (ly139 hY) rfl ?_
    refine r_bipush C dX12_fails_13 bp_25 ?_
    suffices hj : Wm Z (0, 0, sh, R) μ 23 [(0, .ref (wb (zw Z) + 139)), (1, .int x1)] [.int (if (rI μ 139 9) = 25 then 1 else x1), .ref (wb (zw Z) + 139)] by
      refine r_icmp_ne 22 C dX12_fails_15 (by decide) (fun c2 => ?_) (fun c2 => ?_)
      · refine r_iload_n C dX12_fails_22 1 rfl ?_
        exact sel_f c2 hj
      · refine r_iconst C dX12_fails_18 ic_1 ?_
        refine r_goto 23 C dX12_fails_19 (by decide) ?_
        exact sel_t c2 hj
    refine r_putI C fiX12_114 dX12_fails_23 (ly139 hY) ?_
    refine r_aload_n C dX12_fails_26 0 rfl ?_
    refine r_aload_n C dX12_fails_27 0 rfl ?_
    refine r_getI C flX12_86 dX12_fails_28 (ly139 hY) rfl ?_
    refine r_putI C fiX12_117 dX12_fails_31 (ly139 hY) ?_
    have h := Option.some.inj h
    subst h
    exact r_vret C dX12_fails_34 hr hE
  · have h := (ite_inv h).2 c1
    have h := Option.some.inj h
    subst h
    exact r_vret C dX12_fails_7 hr hE
def fX12_is (n : Nat) (x1 : Int32) (μ : Mu) : Option (Int32) := if (rI μ 139 11) = 0 then (if (rI μ 139 9) = x1 then (some 1) else (some 0)) else (some 0)
set_option maxRecDepth 100000 in
set_option maxHeartbeats 4000000 in
theorem tX12_is {l : Launch} {w : WP} {sh : List Sh} {R : Rf} {μ : Mu} {r : Int32} (hY : LY sh R) (n : Nat) (x1 : Int32)  (h : fX12_is n x1 μ = some r) : CM l w yX12_is cX12_is 2 (some .boolean) 0 0 0 sh R [.ref (wb w + 139), .int x1] μ (some (.int r)) sh R μ := by
  refine CM.of (plainFor_of_name pf_X12) (Nat.le_of_ble_eq_true rfl) fun Z C hr _ hR hw hl hE => ?_
  subst hw; subst hl
  have C : CX Z cX12_is 2 RX12 := C
  show Wm Z (0, 0, sh, R) μ 0 [(0, .ref (wb (zw Z) + 139)), (1, .int x1)] []
  unfold fX12_is at h
  refine r_aload_n C dX12_is_0 0 rfl ?_
  refine r_getI C flX12_114 dX12_is_1 (ly139 hY) rfl ?_
  refine r_if_ne 19 C dX12_is_4 (by decide) (fun c1 => ?_) (fun c1 => ?_)
  · have h := (ite_inv h).2 c1
    refine r_iconst C dX12_is_19 ic_0 ?_
    have h := Option.some.inj h
    subst h
    exact r_zret C dX12_is_20 hr rfl hE
  · have h := (ite_inv h).1 c1
    refine r_aload_n C dX12_is_7 0 rfl ?_
    refine r_getI C flX12_96 dX12_is_8 (ly139 hY) rfl ?_
    refine r_iload_n C dX12_is_11 1 rfl ?_
    refine r_icmp_ne 19 C dX12_is_12 (by decide) (fun c2 => ?_) (fun c2 => ?_)
    · have h := (ite_inv h).2 c2
      refine r_iconst C dX12_is_19 ic_0 ?_
      have h := Option.some.inj h
      subst h
      exact r_zret C dX12_is_20 hr rfl hE
    · have h := (ite_inv h).1 c2
      refine r_iconst C dX12_is_15 ic_1 ?_
      refine r_goto 20 C dX12_is_16 (by decide) ?_
      have h := Option.some.inj h
      subst h
      exact r_zret C dX12_is_20 hr rfl hE
def fX12_eats (n : Nat) (x1 : Int32) (μ : Mu) : Option (Int32 × Mu) := bnd (fX12_is n x1 μ) fun u2 => if u2 = 0 then (some (0, μ)) else (bnd (fX12_next n μ) fun m5 => some (1, m5))
set_option maxRecDepth 100000 in
set_option maxHeartbeats 4000000 in
theorem tX12_eats {l : Launch} {w : WP} {sh : List Sh} {R : Rf} {μ : Mu} {r : Int32} {μ' : Mu} (hY : LY sh R) (n : Nat) (x1 : Int32)  (h : fX12_eats n x1 μ = some (r, μ')) : CM l w yX12_eats cX12_eats 2 (some .boolean) 8 0 0 sh R [.ref (wb w + 139), .int x1] μ (some (.int r)) sh R μ' := by
  refine CM.of (plainFor_of_name pf_X12) (Nat.le_of_ble_eq_true rfl) fun Z C hr _ hR hw hl hE => ?_
  subst hw; subst hl
  have C : CX Z cX12_eats 2 RX12 := C
  show Wm Z (0, 0, sh, R) μ 0 [(0, .ref (wb (zw Z) + 139)), (1, .int x1)] []
  unfold fX12_eats at h
  refine r_aload_n C dX12_eats_0 0 rfl ?_
  refine r_iload_n C dX12_eats_1 1 rfl ?_
  obtain ⟨u2, e1, h⟩ := bnd_inv h
  refine r_cVi (As := [.int x1]) (rest := []) C hR mlX12_120 dX12_eats_2 (tX12_is hY n x1  e1) rfl rfl (ly139 hY) rfl (nle rfl) (nle rfl) (nle rfl) ?_
  refine r_if_ne 10 C dX12_eats_5 (by decide) (fun c3 => ?_) (fun c3 => ?_)
  · have h := (ite_inv h).2 c3
    refine r_aload_n C dX12_eats_10 0 rfl ?_
    obtain ⟨m5, e4, h⟩ := bnd_inv h
    refine r_cVv (As := []) (rest := []) C hR mlX12_123 dX12_eats_11 (tX12_next hY n  e4) rfl rfl (ly139 hY) rfl (nle rfl) (nle rfl) (nle rfl) ?_
    refine r_iconst C dX12_eats_14 ic_1 ?_
    obtain ⟨h1, h2⟩ := Prod.mk.inj (Option.some.inj h)
    subst h1; subst h2
    exact r_zret C dX12_eats_15 hr rfl hE
  · have h := (ite_inv h).1 c3
    refine r_iconst C dX12_eats_8 ic_0 ?_
    obtain ⟨h1, h2⟩ := Prod.mk.inj (Option.some.inj h)
    subst h1; subst h2
    exact r_zret C dX12_eats_9 hr rfl hE
def jX12_takes_37 (n : Nat)  (μ : Mu) : Option (Int32 × Mu) := if (rI μ 139 11) = 0 then (bnd (fX12_next n μ) fun m9 => some (rI μ 139 10, m9)) else (some (rI μ 139 10, μ))
set_option maxRecDepth 100000 in
set_option maxHeartbeats 4000000 in
theorem kX12_takes_37 {Z : ZC} {sh : List Sh} {R : Rf} {r : Int32} {μ' : Mu} (C : CX Z cX12_takes 4 RX12) (hR : zR Z = rm 8 0 0) (hY : LY sh R) (n : Nat)  (μ : Mu) (h : jX12_takes_37 n μ = some (r, μ')) (hr : (zme Z).sig.returnType = (some .int)) (hE : zEnd Z (0, 0, sh, R) μ' (some (.int r))) : Wm Z (0, 0, sh, R) μ 37 [(0, .ref (wb (zw Z) + 139))] [] := by
  unfold jX12_takes_37 at h
  refine r_aload_n C dX12_takes_37 0 rfl ?_
  refine r_getI C flX12_109 dX12_takes_38 (ly139 hY) rfl ?_
  refine r_istore_n [(3, .int (rI μ 139 10)), (0, .ref (wb (zw Z) + 139))] C dX12_takes_41 rfl (by decide) rfl ?_
  refine r_aload_n C dX12_takes_42 1 rfl ?_
  refine r_getI C flX12_114 dX12_takes_43 (ly139 hY) rfl ?_
  refine r_if_ne 53 C dX12_takes_46 (by decide) (fun c7 => ?_) (fun c7 => ?_)
  · have h := (ite_inv h).2 c7
    refine r_iload_n C dX12_takes_53 0 rfl ?_
    obtain ⟨h1, h2⟩ := Prod.mk.inj (Option.some.inj h)
    subst h1; subst h2
    exact r_iret C dX12_takes_54 hr hE
  · have h := (ite_inv h).1 c7
    refine r_aload_n C dX12_takes_49 1 rfl ?_
    obtain ⟨m9, e8, h⟩ := bnd_inv h
    refine r_cVv (As := []) (rest := []) C hR mlX12_123 dX12_takes_50 (tX12_next hY n  e8) rfl rfl (ly139 hY) rfl (nle rfl) (nle rfl) (nle rfl) ?_
    refine r_iload_n C dX12_takes_53 0 rfl ?_
    obtain ⟨h1, h2⟩ := Prod.mk.inj (Option.some.inj h)
    subst h1; subst h2
    exact r_iret C dX12_takes_54 hr hE
def fX12_takes (n : Nat) (x1 : Int32) (x2 : Int32) (μ : Mu) : Option (Int32 × Mu) := bnd (fX12_is n 23 μ) fun u2 => if u2 = 0 then (bnd (fX12_fails n 2 μ) fun m13 => jX12_takes_37 n m13) else (bnd (fX12_within n ((rI μ 139 10).toInt64) (x1.toInt64) (x2.toInt64) μ) fun u5 => if u5 = 0 then (bnd (fX12_fails n 3 μ) fun m11 => jX12_takes_37 n m11) else (jX12_takes_37 n μ))
set_option maxRecDepth 100000 in
set_option maxHeartbeats 4000000 in
theorem tX12_takes {l : Launch} {w : WP} {sh : List Sh} {R : Rf} {μ : Mu} {r : Int32} {μ' : Mu} (hY : LY sh R) (n : Nat) (x1 : Int32) (x2 : Int32)  (h : fX12_takes n x1 x2 μ = some (r, μ')) : CM l w yX12_takes cX12_takes 4 (some .int) 8 0 0 sh R [.ref (wb w + 139), .int x1, .int x2] μ (some (.int r)) sh R μ' := by
  refine CM.of (plainFor_of_name pf_X12) (Nat.le_of_ble_eq_true rfl) fun Z C hr _ hR hw hl hE => ?_
  subst hw; subst hl
  have C : CX Z cX12_takes 4 RX12 := C
  show Wm Z (0, 0, sh, R) μ 0 [(0, .ref (wb (zw Z) + 139)), (1, .int x1), (2, .int x2)] []
  unfold fX12_takes at h
  refine r_aload_n C dX12_takes_0 0 rfl ?_
  refine r_bipush C dX12_takes_1 bp_23 ?_
  obtain ⟨u2, e1, h⟩ := bnd_inv h
  refine r_cVi (As := [.int 23]) (rest := []) C hR mlX12_120 dX12_takes_3 (tX12_is hY n 23  e1) rfl rfl (ly139 hY) rfl (nle rfl) (nle rfl) (nle rfl) ?_
  refine r_if_ne 17 C dX12_takes_6 (by decide) (fun c3 => ?_) (fun c3 => ?_)
  · have h := (ite_inv h).2 c3
    refine r_aload_n C dX12_takes_17 0 rfl ?_
    refine r_getI C flX12_109 dX12_takes_18 (ly139 hY) rfl ?_
    refine r_i2l C dX12_takes_21 ?_
    refine r_iload_n C dX12_takes_22 1 rfl ?_
    refine r_i2l C dX12_takes_23 ?_
    refine r_iload_n C dX12_takes_24 2 rfl ?_
    refine r_i2l C dX12_takes_25 ?_
    obtain ⟨u5, e4, h⟩ := bnd_inv h
    refine r_cSi (As := [.long ((rI μ 139 10).toInt64), .long (x1.toInt64), .long (x2.toInt64)]) (rest := []) C hR mlX12_130 dX12_takes_26 (tX12_within hY n ((rI μ 139 10).toInt64) (x1.toInt64) (x2.toInt64)  e4) rfl rfl (nle rfl) (nle rfl) (nle rfl) ?_
    refine r_if_ne 37 C dX12_takes_29 (by decide) (fun c6 => ?_) (fun c6 => ?_)
    · have h := (ite_inv h).2 c6
      refine r_sub [(0, .ref (wb (zw Z) + 139))] [0] rfl ?_
      exact kX12_takes_37 C hR hY n   μ h hr hE
    · have h := (ite_inv h).1 c6
      refine r_aload_n C dX12_takes_32 0 rfl ?_
      refine r_iconst C dX12_takes_33 ic_3 ?_
      obtain ⟨m11, e10, h⟩ := bnd_inv h
      refine r_cVv (As := [.int 3]) (rest := []) C hR mlX12_126 dX12_takes_34 (tX12_fails hY n 3  e10) rfl rfl (ly139 hY) rfl (nle rfl) (nle rfl) (nle rfl) ?_
      refine r_sub [(0, .ref (wb (zw Z) + 139))] [0] rfl ?_
      exact kX12_takes_37 C hR hY n   m11 h hr hE
  · have h := (ite_inv h).1 c3
    refine r_aload_n C dX12_takes_9 0 rfl ?_
    refine r_iconst C dX12_takes_10 ic_2 ?_
    obtain ⟨m13, e12, h⟩ := bnd_inv h
    refine r_cVv (As := [.int 2]) (rest := []) C hR mlX12_126 dX12_takes_11 (tX12_fails hY n 2  e12) rfl rfl (ly139 hY) rfl (nle rfl) (nle rfl) (nle rfl) ?_
    refine r_goto 37 C dX12_takes_14 (by decide) ?_
    refine r_sub [(0, .ref (wb (zw Z) + 139))] [0] rfl ?_
    exact kX12_takes_37 C hR hY n   m13 h hr hE
def fX12_isIn (n : Nat) (y0 : Int64) (x2 : Int32) (μ : Mu) : Option (Int32) := if (lg_cmp ((y0 >>> (x2.toInt64 &&& 63)) &&& 1) 1) = 0 then (some 1) else (some 0)
set_option maxRecDepth 100000 in
set_option maxHeartbeats 4000000 in
theorem tX12_isIn {l : Launch} {w : WP} {sh : List Sh} {R : Rf} {μ : Mu} {r : Int32} (hY : LY sh R) (n : Nat) (y0 : Int64) (x2 : Int32)  (h : fX12_isIn n y0 x2 μ = some r) : CM l w yX12_isIn cX12_isIn 3 (some .boolean) 0 0 0 sh R [.long y0, .int x2] μ (some (.int r)) sh R μ := by
  refine CM.of (plainFor_of_name pf_X12) (Nat.le_of_ble_eq_true rfl) fun Z C hr _ hR hw hl hE => ?_
  subst hw; subst hl
  have C : CX Z cX12_isIn 3 RX12 := C
  show Wm Z (0, 0, sh, R) μ 0 [(0, .long y0), (2, .int x2)] []
  unfold fX12_isIn at h
  refine r_lload_n C dX12_isIn_0 0 rfl ?_
  refine r_iload_n C dX12_isIn_1 1 rfl ?_
  refine r_lshr C dX12_isIn_2 ?_
  refine r_lconst C dX12_isIn_3 lc_1 ?_
  refine r_land C dX12_isIn_4 ?_
  refine r_lconst C dX12_isIn_5 lc_1 ?_
  refine r_lcmp C dX12_isIn_6 ?_
  refine r_if_ne 14 C dX12_isIn_7 (by decide) (fun c1 => ?_) (fun c1 => ?_)
  · have h := (ite_inv h).2 c1
    refine r_iconst C dX12_isIn_14 ic_0 ?_
    have h := Option.some.inj h
    subst h
    exact r_zret C dX12_isIn_15 hr rfl hE
  · have h := (ite_inv h).1 c1
    refine r_iconst C dX12_isIn_10 ic_1 ?_
    refine r_goto 15 C dX12_isIn_11 (by decide) ?_
    have h := Option.some.inj h
    subst h
    exact r_zret C dX12_isIn_15 hr rfl hE
def fX12_wordOf (n : Nat) (x1 : Int32) (μ : Mu) : Option (Int32) := if x1 = 12 then (some 0) else (if x1 = 11 then (some 1) else (if (rI μ 139 15) = 0 then (if x1 = 13 then (some 2) else (some (-1))) else (if (rI μ 139 15) = 1 then (if x1 = 14 then (some 3) else (if x1 = 15 then (some 4) else (if x1 = 2 then (some 5) else (some (-1))))) else (if x1 = 16 then (some 6) else (if x1 = 17 then (some 7) else (if x1 = 18 then (some 8) else (some (-1))))))))
set_option maxRecDepth 100000 in
set_option maxHeartbeats 4000000 in
theorem tX12_wordOf {l : Launch} {w : WP} {sh : List Sh} {R : Rf} {μ : Mu} {r : Int32} (hY : LY sh R) (n : Nat) (x1 : Int32)  (h : fX12_wordOf n x1 μ = some r) : CM l w yX12_wordOf cX12_wordOf 2 (some .int) 0 0 0 sh R [.ref (wb w + 139), .int x1] μ (some (.int r)) sh R μ := by
  refine CM.of (plainFor_of_name pf_X12) (Nat.le_of_ble_eq_true rfl) fun Z C hr _ hR hw hl hE => ?_
  subst hw; subst hl
  have C : CX Z cX12_wordOf 2 RX12 := C
  show Wm Z (0, 0, sh, R) μ 0 [(0, .ref (wb (zw Z) + 139)), (1, .int x1)] []
  unfold fX12_wordOf at h
  refine r_iload_n C dX12_wordOf_0 1 rfl ?_
  refine r_bipush C dX12_wordOf_1 bp_12 ?_
  refine r_icmp_ne 8 C dX12_wordOf_3 (by decide) (fun c1 => ?_) (fun c1 => ?_)
  · have h := (ite_inv h).2 c1
    refine r_iload_n C dX12_wordOf_8 1 rfl ?_
    refine r_bipush C dX12_wordOf_9 bp_11 ?_
    refine r_icmp_ne 16 C dX12_wordOf_11 (by decide) (fun c2 => ?_) (fun c2 => ?_)
    · have h := (ite_inv h).2 c2
      refine r_aload_n C dX12_wordOf_16 0 rfl ?_
      refine r_getI C flX12_134 dX12_wordOf_17 (ly139 hY) rfl ?_
      refine r_if_ne 35 C dX12_wordOf_20 (by decide) (fun c3 => ?_) (fun c3 => ?_)
      · have h := (ite_inv h).2 c3
        refine r_aload_n C dX12_wordOf_35 0 rfl ?_
        refine r_getI C flX12_134 dX12_wordOf_36 (ly139 hY) rfl ?_
        refine r_iconst C dX12_wordOf_39 ic_1 ?_
        refine r_icmp_ne 74 C dX12_wordOf_40 (by decide) (fun c4 => ?_) (fun c4 => ?_)
        · have h := (ite_inv h).2 c4
          refine r_iload_n C dX12_wordOf_74 1 rfl ?_
          refine r_bipush C dX12_wordOf_75 bp_16 ?_
          refine r_icmp_ne 85 C dX12_wordOf_77 (by decide) (fun c5 => ?_) (fun c5 => ?_)
          · have h := (ite_inv h).2 c5
            refine r_iload_n C dX12_wordOf_85 1 rfl ?_
            refine r_bipush C dX12_wordOf_86 bp_17 ?_
            refine r_icmp_ne 96 C dX12_wordOf_88 (by decide) (fun c6 => ?_) (fun c6 => ?_)
            · have h := (ite_inv h).2 c6
              refine r_iload_n C dX12_wordOf_96 1 rfl ?_
              refine r_bipush C dX12_wordOf_97 bp_18 ?_
              refine r_icmp_ne 107 C dX12_wordOf_99 (by decide) (fun c7 => ?_) (fun c7 => ?_)
              · have h := (ite_inv h).2 c7
                refine r_iconst C dX12_wordOf_107 ic_m1 ?_
                have h := Option.some.inj h
                subst h
                exact r_iret C dX12_wordOf_108 hr hE
              · have h := (ite_inv h).1 c7
                refine r_bipush C dX12_wordOf_102 bp_8 ?_
                refine r_goto 108 C dX12_wordOf_104 (by decide) ?_
                have h := Option.some.inj h
                subst h
                exact r_iret C dX12_wordOf_108 hr hE
            · have h := (ite_inv h).1 c6
              refine r_bipush C dX12_wordOf_91 bp_7 ?_
              refine r_goto 108 C dX12_wordOf_93 (by decide) ?_
              have h := Option.some.inj h
              subst h
              exact r_iret C dX12_wordOf_108 hr hE
          · have h := (ite_inv h).1 c5
            refine r_bipush C dX12_wordOf_80 bp_6 ?_
            refine r_goto 108 C dX12_wordOf_82 (by decide) ?_
            have h := Option.some.inj h
            subst h
            exact r_iret C dX12_wordOf_108 hr hE
        · have h := (ite_inv h).1 c4
          refine r_iload_n C dX12_wordOf_43 1 rfl ?_
          refine r_bipush C dX12_wordOf_44 bp_14 ?_
          refine r_icmp_ne 53 C dX12_wordOf_46 (by decide) (fun c8 => ?_) (fun c8 => ?_)
          · have h := (ite_inv h).2 c8
            refine r_iload_n C dX12_wordOf_53 1 rfl ?_
            refine r_bipush C dX12_wordOf_54 bp_15 ?_
            refine r_icmp_ne 63 C dX12_wordOf_56 (by decide) (fun c9 => ?_) (fun c9 => ?_)
            · have h := (ite_inv h).2 c9
              refine r_iload_n C dX12_wordOf_63 1 rfl ?_
              refine r_iconst C dX12_wordOf_64 ic_2 ?_
              refine r_icmp_ne 72 C dX12_wordOf_65 (by decide) (fun c10 => ?_) (fun c10 => ?_)
              · have h := (ite_inv h).2 c10
                refine r_iconst C dX12_wordOf_72 ic_m1 ?_
                have h := Option.some.inj h
                subst h
                exact r_iret C dX12_wordOf_73 hr hE
              · have h := (ite_inv h).1 c10
                refine r_iconst C dX12_wordOf_68 ic_5 ?_
                refine r_goto 73 C dX12_wordOf_69 (by decide) ?_
                have h := Option.some.inj h
                subst h
                exact r_iret C dX12_wordOf_73 hr hE
            · have h := (ite_inv h).1 c9
              refine r_iconst C dX12_wordOf_59 ic_4 ?_
              refine r_goto 73 C dX12_wordOf_60 (by decide) ?_
              have h := Option.some.inj h
              subst h
              exact r_iret C dX12_wordOf_73 hr hE
          · have h := (ite_inv h).1 c8
            refine r_iconst C dX12_wordOf_49 ic_3 ?_
            refine r_goto 73 C dX12_wordOf_50 (by decide) ?_
            have h := Option.some.inj h
            subst h
            exact r_iret C dX12_wordOf_73 hr hE
      · have h := (ite_inv h).1 c3
        refine r_iload_n C dX12_wordOf_23 1 rfl ?_
        refine r_bipush C dX12_wordOf_24 bp_13 ?_
        refine r_icmp_ne 33 C dX12_wordOf_26 (by decide) (fun c11 => ?_) (fun c11 => ?_)
        · have h := (ite_inv h).2 c11
          refine r_iconst C dX12_wordOf_33 ic_m1 ?_
          have h := Option.some.inj h
          subst h
          exact r_iret C dX12_wordOf_34 hr hE
        · have h := (ite_inv h).1 c11
          refine r_iconst C dX12_wordOf_29 ic_2 ?_
          refine r_goto 34 C dX12_wordOf_30 (by decide) ?_
          have h := Option.some.inj h
          subst h
          exact r_iret C dX12_wordOf_34 hr hE
    · have h := (ite_inv h).1 c2
      refine r_iconst C dX12_wordOf_14 ic_1 ?_
      have h := Option.some.inj h
      subst h
      exact r_iret C dX12_wordOf_15 hr hE
  · have h := (ite_inv h).1 c1
    refine r_iconst C dX12_wordOf_6 ic_0 ?_
    have h := Option.some.inj h
    subst h
    exact r_iret C dX12_wordOf_7 hr hE
def fX12_codes (n : Nat) (x1 : Int32) (μ : Mu) : Option (Mu) := if (rI μ 139 11) = 0 then (gd (ib (1342 + (rI μ 143 1341)) 2242) (some (wI (wI μ 143 (ix (1342 + (rI μ 143 1341))) x1) 143 1341 ((rI (wI μ 143 (ix (1342 + (rI μ 143 1341))) x1) 143 1341) + 1)))) else (some μ)
set_option maxRecDepth 100000 in
set_option maxHeartbeats 4000000 in
theorem tX12_codes {l : Launch} {w : WP} {sh : List Sh} {R : Rf} {μ : Mu} {μ' : Mu} (hY : LY sh R) (n : Nat) (x1 : Int32)  (h : fX12_codes n x1 μ = some μ') : CM l w yX12_codes cX12_codes 2 none 0 0 0 sh R [.ref (wb w + 139), .int x1] μ none sh R μ' := by
  refine CM.of (plainFor_of_name pf_X12) (Nat.le_of_ble_eq_true rfl) fun Z C hr _ hR hw hl hE => ?_
  subst hw; subst hl
  have C : CX Z cX12_codes 2 RX12 := C
  show Wm Z (0, 0, sh, R) μ 0 [(0, .ref (wb (zw Z) + 139)), (1, .int x1)] []
  unfold fX12_codes at h
  refine r_aload_n C dX12_codes_0 0 rfl ?_
  refine r_getI C flX12_114 dX12_codes_1 (ly139 hY) rfl ?_
  refine r_if_eq 8 C dX12_codes_4 (by decide) (fun c1 => ?_) (fun c1 => ?_)
  · have h := (ite_inv h).1 c1
    refine r_aload_n C dX12_codes_8 0 rfl ?_
    refine r_getR C flX12_24 dX12_codes_9 (ly139 hY) rfl (lr139_4 hY) ?_
    refine r_sipush C dX12_codes_12 sp_1342 ?_
    refine r_aload_n C dX12_codes_15 0 rfl ?_
    refine r_getR C flX12_24 dX12_codes_16 (ly139 hY) rfl (lr139_4 hY) ?_
    refine r_sipush C dX12_codes_19 sp_1341 ?_
    refine r_iald C dX12_codes_22 (ly143 hY) (by decide) ?_
    refine r_iadd C dX12_codes_23 ?_
    refine r_iload_n C dX12_codes_24 1 rfl ?_
    obtain ⟨b2, h⟩ := gd_inv h
    refine r_iast C dX12_codes_25 (ly143 hY) b2 ?_
    refine r_aload_n C dX12_codes_26 0 rfl ?_
    refine r_getR C flX12_24 dX12_codes_27 (ly139 hY) rfl (lr139_4 hY) ?_
    refine r_sipush C dX12_codes_30 sp_1341 ?_
    refine r_dup2 C dX12_codes_33 rfl rfl ?_
    refine r_iald C dX12_codes_34 (ly143 hY) (by decide) ?_
    refine r_iconst C dX12_codes_35 ic_1 ?_
    refine r_iadd C dX12_codes_36 ?_
    refine r_iast C dX12_codes_37 (ly143 hY) (by decide) ?_
    have h := Option.some.inj h
    subst h
    exact r_vret C dX12_codes_38 hr hE
  · have h := (ite_inv h).2 c1
    have h := Option.some.inj h
    subst h
    exact r_vret C dX12_codes_7 hr hE
def jX12_goesIn_22 (n : Nat)  (μ : Mu) : Option (Int32 × Mu) := if (rI μ 139 11) = 0 then (some (1, μ)) else (some (0, μ))
set_option maxRecDepth 100000 in
set_option maxHeartbeats 4000000 in
theorem kX12_goesIn_22 {Z : ZC} {sh : List Sh} {R : Rf} {r : Int32} {μ' : Mu} (C : CX Z cX12_goesIn 2 RX12) (hR : zR Z = rm 8 0 0) (hY : LY sh R) (n : Nat)  (μ : Mu) (h : jX12_goesIn_22 n μ = some (r, μ')) (hr : (zme Z).sig.returnType = (some .boolean)) (hE : zEnd Z (0, 0, sh, R) μ' (some (.int r))) : Wm Z (0, 0, sh, R) μ 22 [(0, .ref (wb (zw Z) + 139))] [] := by
  unfold jX12_goesIn_22 at h
  refine r_aload_n C dX12_goesIn_22 0 rfl ?_
  refine r_getI C flX12_114 dX12_goesIn_23 (ly139 hY) rfl ?_
  refine r_if_ne 33 C dX12_goesIn_26 (by decide) (fun c3 => ?_) (fun c3 => ?_)
  · have h := (ite_inv h).2 c3
    refine r_iconst C dX12_goesIn_33 ic_0 ?_
    obtain ⟨h1, h2⟩ := Prod.mk.inj (Option.some.inj h)
    subst h1; subst h2
    exact r_zret C dX12_goesIn_34 hr rfl hE
  · have h := (ite_inv h).1 c3
    refine r_iconst C dX12_goesIn_29 ic_1 ?_
    refine r_goto 34 C dX12_goesIn_30 (by decide) ?_
    obtain ⟨h1, h2⟩ := Prod.mk.inj (Option.some.inj h)
    subst h1; subst h2
    exact r_zret C dX12_goesIn_34 hr rfl hE
def jX12_goesIn_11 (n : Nat)  (μ : Mu) : Option (Int32 × Mu) := if (rI μ 139 11) = 0 then (bnd (fX12_next n μ) fun m5 => jX12_goesIn_22 n m5) else (jX12_goesIn_22 n μ)
set_option maxRecDepth 100000 in
set_option maxHeartbeats 4000000 in
theorem kX12_goesIn_11 {Z : ZC} {sh : List Sh} {R : Rf} {r : Int32} {μ' : Mu} (C : CX Z cX12_goesIn 2 RX12) (hR : zR Z = rm 8 0 0) (hY : LY sh R) (n : Nat)  (μ : Mu) (h : jX12_goesIn_11 n μ = some (r, μ')) (hr : (zme Z).sig.returnType = (some .boolean)) (hE : zEnd Z (0, 0, sh, R) μ' (some (.int r))) : Wm Z (0, 0, sh, R) μ 11 [(0, .ref (wb (zw Z) + 139))] [] := by
  unfold jX12_goesIn_11 at h
  refine r_aload_n C dX12_goesIn_11 0 rfl ?_
  refine r_getI C flX12_114 dX12_goesIn_12 (ly139 hY) rfl ?_
  refine r_if_ne 22 C dX12_goesIn_15 (by decide) (fun c2 => ?_) (fun c2 => ?_)
  · have h := (ite_inv h).2 c2
    exact kX12_goesIn_22 C hR hY n   μ h hr hE
  · have h := (ite_inv h).1 c2
    refine r_aload_n C dX12_goesIn_18 0 rfl ?_
    obtain ⟨m5, e4, h⟩ := bnd_inv h
    refine r_cVv (As := []) (rest := []) C hR mlX12_123 dX12_goesIn_19 (tX12_next hY n  e4) rfl rfl (ly139 hY) rfl (nle rfl) (nle rfl) (nle rfl) ?_
    exact kX12_goesIn_22 C hR hY n   m5 h hr hE
def fX12_goesIn (n : Nat) (x1 : Int32) (μ : Mu) : Option (Int32 × Mu) := if x1 = 6 then (bnd (fX12_fails n 4 μ) fun m7 => jX12_goesIn_11 n m7) else (jX12_goesIn_11 n μ)
set_option maxRecDepth 100000 in
set_option maxHeartbeats 4000000 in
theorem tX12_goesIn {l : Launch} {w : WP} {sh : List Sh} {R : Rf} {μ : Mu} {r : Int32} {μ' : Mu} (hY : LY sh R) (n : Nat) (x1 : Int32)  (h : fX12_goesIn n x1 μ = some (r, μ')) : CM l w yX12_goesIn cX12_goesIn 2 (some .boolean) 8 0 0 sh R [.ref (wb w + 139), .int x1] μ (some (.int r)) sh R μ' := by
  refine CM.of (plainFor_of_name pf_X12) (Nat.le_of_ble_eq_true rfl) fun Z C hr _ hR hw hl hE => ?_
  subst hw; subst hl
  have C : CX Z cX12_goesIn 2 RX12 := C
  show Wm Z (0, 0, sh, R) μ 0 [(0, .ref (wb (zw Z) + 139)), (1, .int x1)] []
  unfold fX12_goesIn at h
  refine r_iload_n C dX12_goesIn_0 1 rfl ?_
  refine r_bipush C dX12_goesIn_1 bp_6 ?_
  refine r_icmp_ne 11 C dX12_goesIn_3 (by decide) (fun c1 => ?_) (fun c1 => ?_)
  · have h := (ite_inv h).2 c1
    refine r_sub [(0, .ref (wb (zw Z) + 139))] [0] rfl ?_
    exact kX12_goesIn_11 C hR hY n   μ h hr hE
  · have h := (ite_inv h).1 c1
    refine r_aload_n C dX12_goesIn_6 0 rfl ?_
    refine r_iconst C dX12_goesIn_7 ic_4 ?_
    obtain ⟨m7, e6, h⟩ := bnd_inv h
    refine r_cVv (As := [.int 4]) (rest := []) C hR mlX12_126 dX12_goesIn_8 (tX12_fails hY n 4  e6) rfl rfl (ly139 hY) rfl (nle rfl) (nle rfl) (nle rfl) ?_
    refine r_sub [(0, .ref (wb (zw Z) + 139))] [0] rfl ?_
    exact kX12_goesIn_11 C hR hY n   m7 h hr hE
def sX12_readTruth_5 (n : Nat) (F : Nat → Int32 → Mu → Option (Mu)) (x1 : Int32) : Mu → Option ((Mu) ⊕ (Mu)) := fun q => match q with | μ => bnd2 (fX12_eats n 20 μ) fun u4 m5 => if u4 = 0 then (some (.inr m5)) else (bnd (F 1 x1 m5) fun m8 => bnd (fX12_codes n 3008 m8) fun m10 => some (.inl m10))
set_option maxRecDepth 100000 in
set_option maxHeartbeats 4000000 in
theorem lX12_readTruth_5 {Z : ZC} {sh : List Sh} {R : Rf} {D : Nat} {o : (Mu) ⊕ (Mu)} (C : CX Z cX12_readTruth 2 RX12) (hR : zR Z = rm (D + 1) 0 0) (hY : LY sh R) (n : Nat) (F : Nat → Int32 → Mu → Option (Mu)) (hD : 9 ≤ D) (hF0 : ∀ (x1 : Int32) (μ μ' : Mu), F 0 x1 μ = some μ' → CM Z.1.2.1 (zw Z) yX12_readTruth cX12_readTruth 2 none D 0 0 sh R [.ref (wb (zw Z) + 139), .int x1] μ none sh R μ') (hF1 : ∀ (x1 : Int32) (μ μ' : Mu), F 1 x1 μ = some μ' → CM Z.1.2.1 (zw Z) yX12_readBoth cX12_readBoth 2 none D 0 0 sh R [.ref (wb (zw Z) + 139), .int x1] μ none sh R μ') (hF2 : ∀ (x1 : Int32) (μ μ' : Mu), F 2 x1 μ = some μ' → CM Z.1.2.1 (zw Z) yX12_readUnit cX12_readUnit 3 none D 0 0 sh R [.ref (wb (zw Z) + 139), .int x1] μ none sh R μ') (hF3 : ∀ (x1 : Int32) (μ μ' : Mu), F 3 x1 μ = some μ' → CM Z.1.2.1 (zw Z) yX12_readSum cX12_readSum 3 none D 0 0 sh R [.ref (wb (zw Z) + 139), .int x1] μ none sh R μ') (hF4 : ∀ (x1 : Int32) (μ μ' : Mu), F 4 x1 μ = some μ' → CM Z.1.2.1 (zw Z) yX12_readTerm cX12_readTerm 2 none D 0 0 sh R [.ref (wb (zw Z) + 139), .int x1] μ none sh R μ') (hF5 : ∀ (x1 : Int32) (μ μ' : Mu), F 5 x1 μ = some μ' → CM Z.1.2.1 (zw Z) yX12_readAtom cX12_readAtom 2 none D 0 0 sh R [.ref (wb (zw Z) + 139), .int x1] μ none sh R μ') (x1 : Int32) (μ : Mu) (h : sX12_readTruth_5 n F x1 μ = some o) (kin : ∀ (μ : Mu), o = .inl μ → Wm Z (0, 0, sh, R) μ 5 [(0, .ref (wb (zw Z) + 139)), (1, .int x1)] []) (kex0 : ∀ (μ : Mu), o = .inr μ → Wm Z (0, 0, sh, R) μ 29 [] []) : Wm Z (0, 0, sh, R) μ 5 [(0, .ref (wb (zw Z) + 139)), (1, .int x1)] [] := by
  unfold sX12_readTruth_5 at h
  refine r_aload_n C dX12_readTruth_5 0 rfl ?_
  refine r_bipush C dX12_readTruth_6 bp_20 ?_
  obtain ⟨u4, m5, e3, h⟩ := bnd2_inv h
  refine r_cVi (As := [.int 20]) (rest := []) C hR mlX12_149 dX12_readTruth_8 (tX12_eats hY n 20  e3) rfl rfl (ly139 hY) rfl (by omega) (nle rfl) (nle rfl) ?_
  refine r_if_eq 29 C dX12_readTruth_11 (by decide) (fun c6 => ?_) (fun c6 => ?_)
  · have h := (ite_inv h).1 c6
    refine r_sub [] [] rfl ?_
    exact kex0 m5 (Option.some.inj h).symm
  · have h := (ite_inv h).2 c6
    refine r_aload_n C dX12_readTruth_14 0 rfl ?_
    refine r_iload_n C dX12_readTruth_15 1 rfl ?_
    obtain ⟨m8, e7, h⟩ := bnd_inv h
    refine r_cVv (As := [.int x1]) (rest := []) C hR mlX12_164 dX12_readTruth_16 (hF1 _ _ _ e7) rfl rfl (ly139 hY) rfl (by omega) (nle rfl) (nle rfl) ?_
    refine r_aload_n C dX12_readTruth_19 0 rfl ?_
    refine r_sipush C dX12_readTruth_20 sp_3008 ?_
    obtain ⟨m10, e9, h⟩ := bnd_inv h
    refine r_cVv (As := [.int 3008]) (rest := []) C hR mlX12_137 dX12_readTruth_23 (tX12_codes hY n 3008  e9) rfl rfl (ly139 hY) rfl (by omega) (nle rfl) (nle rfl) ?_
    refine r_goto 5 C dX12_readTruth_26 (by decide) ?_
    exact kin m10 (Option.some.inj h).symm
def bX12_readTruth (n : Nat) (F : Nat → Int32 → Mu → Option (Mu)) (x1 : Int32) (μ : Mu) : Option (Mu) := bnd (F 1 x1 μ) fun m2 => bnd (lp n (sX12_readTruth_5 n F x1) m2) fun q => match q with | m11 => some m11
set_option maxRecDepth 100000 in
set_option maxHeartbeats 4000000 in
theorem qX12_readTruth {l : Launch} {w : WP} {sh : List Sh} {R : Rf} {μ : Mu} {μ' : Mu} (hY : LY sh R) (n : Nat) (F : Nat → Int32 → Mu → Option (Mu)) (x1 : Int32) (D : Nat) (hD : 9 ≤ D) (hF0 : ∀ (x1 : Int32) (μ μ' : Mu), F 0 x1 μ = some μ' → CM l w yX12_readTruth cX12_readTruth 2 none D 0 0 sh R [.ref (wb w + 139), .int x1] μ none sh R μ') (hF1 : ∀ (x1 : Int32) (μ μ' : Mu), F 1 x1 μ = some μ' → CM l w yX12_readBoth cX12_readBoth 2 none D 0 0 sh R [.ref (wb w + 139), .int x1] μ none sh R μ') (hF2 : ∀ (x1 : Int32) (μ μ' : Mu), F 2 x1 μ = some μ' → CM l w yX12_readUnit cX12_readUnit 3 none D 0 0 sh R [.ref (wb w + 139), .int x1] μ none sh R μ') (hF3 : ∀ (x1 : Int32) (μ μ' : Mu), F 3 x1 μ = some μ' → CM l w yX12_readSum cX12_readSum 3 none D 0 0 sh R [.ref (wb w + 139), .int x1] μ none sh R μ') (hF4 : ∀ (x1 : Int32) (μ μ' : Mu), F 4 x1 μ = some μ' → CM l w yX12_readTerm cX12_readTerm 2 none D 0 0 sh R [.ref (wb w + 139), .int x1] μ none sh R μ') (hF5 : ∀ (x1 : Int32) (μ μ' : Mu), F 5 x1 μ = some μ' → CM l w yX12_readAtom cX12_readAtom 2 none D 0 0 sh R [.ref (wb w + 139), .int x1] μ none sh R μ') (h : bX12_readTruth n F x1 μ = some μ') : CM l w yX12_readTruth cX12_readTruth 2 none (D + 1) 0 0 sh R [.ref (wb w + 139), .int x1] μ none sh R μ' := by
  refine CM.of (plainFor_of_name pf_X12) (Nat.le_of_ble_eq_true rfl) fun Z C hr _ hR hw hl hE => ?_
  subst hw; subst hl
  have C : CX Z cX12_readTruth 2 RX12 := C
  show Wm Z (0, 0, sh, R) μ 0 [(0, .ref (wb (zw Z) + 139)), (1, .int x1)] []
  unfold bX12_readTruth at h
  refine r_aload_n C dX12_readTruth_0 0 rfl ?_
  refine r_iload_n C dX12_readTruth_1 1 rfl ?_
  obtain ⟨m2, e1, h⟩ := bnd_inv h
  refine r_cVv (As := [.int x1]) (rest := []) C hR mlX12_164 dX12_readTruth_2 (hF1 _ _ _ e1) rfl rfl (ly139 hY) rfl (by omega) (nle rfl) (nle rfl) ?_
  obtain ⟨m11, e12, h⟩ := bnd_inv h
  refine lp_all (sX12_readTruth_5 n F x1) (fun q => match q with | ν => Wm Z (0, 0, sh, R) (ν) 5 [(0, .ref (wb (zw Z) + 139)), (1, .int x1)] []) (fun q => match q with | ν => Wm Z (0, 0, sh, R) (ν) 29 [] []) (fun q o h kin kex => ?_) n m2 m11 e12 ?_
  · exact lX12_readTruth_5 C hR hY n F hD hF0 hF1 hF2 hF3 hF4 hF5 x1 q h (fun ν e => kin ν e) (fun ν e => kex (ν) e)
  show Wm Z (0, 0, sh, R) m11 29 [] []
  have h := Option.some.inj h
  subst h
  exact r_vret C dX12_readTruth_29 hr hE
def sX12_readBoth_5 (n : Nat) (F : Nat → Int32 → Mu → Option (Mu)) (x1 : Int32) : Mu → Option ((Mu) ⊕ (Mu)) := fun q => match q with | μ => bnd2 (fX12_eats n 19 μ) fun u4 m5 => if u4 = 0 then (some (.inr m5)) else (bnd (F 2 x1 m5) fun m8 => bnd (fX12_codes n 3007 m8) fun m10 => some (.inl m10))
set_option maxRecDepth 100000 in
set_option maxHeartbeats 4000000 in
theorem lX12_readBoth_5 {Z : ZC} {sh : List Sh} {R : Rf} {D : Nat} {o : (Mu) ⊕ (Mu)} (C : CX Z cX12_readBoth 2 RX12) (hR : zR Z = rm (D + 1) 0 0) (hY : LY sh R) (n : Nat) (F : Nat → Int32 → Mu → Option (Mu)) (hD : 9 ≤ D) (hF0 : ∀ (x1 : Int32) (μ μ' : Mu), F 0 x1 μ = some μ' → CM Z.1.2.1 (zw Z) yX12_readTruth cX12_readTruth 2 none D 0 0 sh R [.ref (wb (zw Z) + 139), .int x1] μ none sh R μ') (hF1 : ∀ (x1 : Int32) (μ μ' : Mu), F 1 x1 μ = some μ' → CM Z.1.2.1 (zw Z) yX12_readBoth cX12_readBoth 2 none D 0 0 sh R [.ref (wb (zw Z) + 139), .int x1] μ none sh R μ') (hF2 : ∀ (x1 : Int32) (μ μ' : Mu), F 2 x1 μ = some μ' → CM Z.1.2.1 (zw Z) yX12_readUnit cX12_readUnit 3 none D 0 0 sh R [.ref (wb (zw Z) + 139), .int x1] μ none sh R μ') (hF3 : ∀ (x1 : Int32) (μ μ' : Mu), F 3 x1 μ = some μ' → CM Z.1.2.1 (zw Z) yX12_readSum cX12_readSum 3 none D 0 0 sh R [.ref (wb (zw Z) + 139), .int x1] μ none sh R μ') (hF4 : ∀ (x1 : Int32) (μ μ' : Mu), F 4 x1 μ = some μ' → CM Z.1.2.1 (zw Z) yX12_readTerm cX12_readTerm 2 none D 0 0 sh R [.ref (wb (zw Z) + 139), .int x1] μ none sh R μ') (hF5 : ∀ (x1 : Int32) (μ μ' : Mu), F 5 x1 μ = some μ' → CM Z.1.2.1 (zw Z) yX12_readAtom cX12_readAtom 2 none D 0 0 sh R [.ref (wb (zw Z) + 139), .int x1] μ none sh R μ') (x1 : Int32) (μ : Mu) (h : sX12_readBoth_5 n F x1 μ = some o) (kin : ∀ (μ : Mu), o = .inl μ → Wm Z (0, 0, sh, R) μ 5 [(0, .ref (wb (zw Z) + 139)), (1, .int x1)] []) (kex0 : ∀ (μ : Mu), o = .inr μ → Wm Z (0, 0, sh, R) μ 29 [] []) : Wm Z (0, 0, sh, R) μ 5 [(0, .ref (wb (zw Z) + 139)), (1, .int x1)] [] := by
  unfold sX12_readBoth_5 at h
  refine r_aload_n C dX12_readBoth_5 0 rfl ?_
  refine r_bipush C dX12_readBoth_6 bp_19 ?_
  obtain ⟨u4, m5, e3, h⟩ := bnd2_inv h
  refine r_cVi (As := [.int 19]) (rest := []) C hR mlX12_149 dX12_readBoth_8 (tX12_eats hY n 19  e3) rfl rfl (ly139 hY) rfl (by omega) (nle rfl) (nle rfl) ?_
  refine r_if_eq 29 C dX12_readBoth_11 (by decide) (fun c6 => ?_) (fun c6 => ?_)
  · have h := (ite_inv h).1 c6
    refine r_sub [] [] rfl ?_
    exact kex0 m5 (Option.some.inj h).symm
  · have h := (ite_inv h).2 c6
    refine r_aload_n C dX12_readBoth_14 0 rfl ?_
    refine r_iload_n C dX12_readBoth_15 1 rfl ?_
    obtain ⟨m8, e7, h⟩ := bnd_inv h
    refine r_cVv (As := [.int x1]) (rest := []) C hR mlX12_158 dX12_readBoth_16 (hF2 _ _ _ e7) rfl rfl (ly139 hY) rfl (by omega) (nle rfl) (nle rfl) ?_
    refine r_aload_n C dX12_readBoth_19 0 rfl ?_
    refine r_sipush C dX12_readBoth_20 sp_3007 ?_
    obtain ⟨m10, e9, h⟩ := bnd_inv h
    refine r_cVv (As := [.int 3007]) (rest := []) C hR mlX12_137 dX12_readBoth_23 (tX12_codes hY n 3007  e9) rfl rfl (ly139 hY) rfl (by omega) (nle rfl) (nle rfl) ?_
    refine r_goto 5 C dX12_readBoth_26 (by decide) ?_
    exact kin m10 (Option.some.inj h).symm
def bX12_readBoth (n : Nat) (F : Nat → Int32 → Mu → Option (Mu)) (x1 : Int32) (μ : Mu) : Option (Mu) := bnd (F 2 x1 μ) fun m2 => bnd (lp n (sX12_readBoth_5 n F x1) m2) fun q => match q with | m11 => some m11
set_option maxRecDepth 100000 in
set_option maxHeartbeats 4000000 in
theorem qX12_readBoth {l : Launch} {w : WP} {sh : List Sh} {R : Rf} {μ : Mu} {μ' : Mu} (hY : LY sh R) (n : Nat) (F : Nat → Int32 → Mu → Option (Mu)) (x1 : Int32) (D : Nat) (hD : 9 ≤ D) (hF0 : ∀ (x1 : Int32) (μ μ' : Mu), F 0 x1 μ = some μ' → CM l w yX12_readTruth cX12_readTruth 2 none D 0 0 sh R [.ref (wb w + 139), .int x1] μ none sh R μ') (hF1 : ∀ (x1 : Int32) (μ μ' : Mu), F 1 x1 μ = some μ' → CM l w yX12_readBoth cX12_readBoth 2 none D 0 0 sh R [.ref (wb w + 139), .int x1] μ none sh R μ') (hF2 : ∀ (x1 : Int32) (μ μ' : Mu), F 2 x1 μ = some μ' → CM l w yX12_readUnit cX12_readUnit 3 none D 0 0 sh R [.ref (wb w + 139), .int x1] μ none sh R μ') (hF3 : ∀ (x1 : Int32) (μ μ' : Mu), F 3 x1 μ = some μ' → CM l w yX12_readSum cX12_readSum 3 none D 0 0 sh R [.ref (wb w + 139), .int x1] μ none sh R μ') (hF4 : ∀ (x1 : Int32) (μ μ' : Mu), F 4 x1 μ = some μ' → CM l w yX12_readTerm cX12_readTerm 2 none D 0 0 sh R [.ref (wb w + 139), .int x1] μ none sh R μ') (hF5 : ∀ (x1 : Int32) (μ μ' : Mu), F 5 x1 μ = some μ' → CM l w yX12_readAtom cX12_readAtom 2 none D 0 0 sh R [.ref (wb w + 139), .int x1] μ none sh R μ') (h : bX12_readBoth n F x1 μ = some μ') : CM l w yX12_readBoth cX12_readBoth 2 none (D + 1) 0 0 sh R [.ref (wb w + 139), .int x1] μ none sh R μ' := by
  refine CM.of (plainFor_of_name pf_X12) (Nat.le_of_ble_eq_true rfl) fun Z C hr _ hR hw hl hE => ?_
  subst hw; subst hl
  have C : CX Z cX12_readBoth 2 RX12 := C
  show Wm Z (0, 0, sh, R) μ 0 [(0, .ref (wb (zw Z) + 139)), (1, .int x1)] []
  unfold bX12_readBoth at h
  refine r_aload_n C dX12_readBoth_0 0 rfl ?_
  refine r_iload_n C dX12_readBoth_1 1 rfl ?_
  obtain ⟨m2, e1, h⟩ := bnd_inv h
  refine r_cVv (As := [.int x1]) (rest := []) C hR mlX12_158 dX12_readBoth_2 (hF2 _ _ _ e1) rfl rfl (ly139 hY) rfl (by omega) (nle rfl) (nle rfl) ?_
  obtain ⟨m11, e12, h⟩ := bnd_inv h
  refine lp_all (sX12_readBoth_5 n F x1) (fun q => match q with | ν => Wm Z (0, 0, sh, R) (ν) 5 [(0, .ref (wb (zw Z) + 139)), (1, .int x1)] []) (fun q => match q with | ν => Wm Z (0, 0, sh, R) (ν) 29 [] []) (fun q o h kin kex => ?_) n m2 m11 e12 ?_
  · exact lX12_readBoth_5 C hR hY n F hD hF0 hF1 hF2 hF3 hF4 hF5 x1 q h (fun ν e => kin ν e) (fun ν e => kex (ν) e)
  show Wm Z (0, 0, sh, R) m11 29 [] []
  have h := Option.some.inj h
  subst h
  exact r_vret C dX12_readBoth_29 hr hE
def jX12_readUnit_151 (n : Nat) (F : Nat → Int32 → Mu → Option (Mu)) (x1 : Int32) (x2 : Int32) (μ : Mu) : Option (Mu) := bnd (F 3 x1 μ) fun m21 => bnd (fX12_codes n x2 m21) fun m23 => some m23
set_option maxRecDepth 100000 in
set_option maxHeartbeats 4000000 in
theorem kX12_readUnit_151 {Z : ZC} {sh : List Sh} {R : Rf} {D : Nat} {μ' : Mu} (C : CX Z cX12_readUnit 3 RX12) (hR : zR Z = rm (D + 1) 0 0) (hY : LY sh R) (n : Nat) (F : Nat → Int32 → Mu → Option (Mu)) (hD : 9 ≤ D) (hF0 : ∀ (x1 : Int32) (μ μ' : Mu), F 0 x1 μ = some μ' → CM Z.1.2.1 (zw Z) yX12_readTruth cX12_readTruth 2 none D 0 0 sh R [.ref (wb (zw Z) + 139), .int x1] μ none sh R μ') (hF1 : ∀ (x1 : Int32) (μ μ' : Mu), F 1 x1 μ = some μ' → CM Z.1.2.1 (zw Z) yX12_readBoth cX12_readBoth 2 none D 0 0 sh R [.ref (wb (zw Z) + 139), .int x1] μ none sh R μ') (hF2 : ∀ (x1 : Int32) (μ μ' : Mu), F 2 x1 μ = some μ' → CM Z.1.2.1 (zw Z) yX12_readUnit cX12_readUnit 3 none D 0 0 sh R [.ref (wb (zw Z) + 139), .int x1] μ none sh R μ') (hF3 : ∀ (x1 : Int32) (μ μ' : Mu), F 3 x1 μ = some μ' → CM Z.1.2.1 (zw Z) yX12_readSum cX12_readSum 3 none D 0 0 sh R [.ref (wb (zw Z) + 139), .int x1] μ none sh R μ') (hF4 : ∀ (x1 : Int32) (μ μ' : Mu), F 4 x1 μ = some μ' → CM Z.1.2.1 (zw Z) yX12_readTerm cX12_readTerm 2 none D 0 0 sh R [.ref (wb (zw Z) + 139), .int x1] μ none sh R μ') (hF5 : ∀ (x1 : Int32) (μ μ' : Mu), F 5 x1 μ = some μ' → CM Z.1.2.1 (zw Z) yX12_readAtom cX12_readAtom 2 none D 0 0 sh R [.ref (wb (zw Z) + 139), .int x1] μ none sh R μ') (x1 : Int32) (x2 : Int32) (μ : Mu) (h : jX12_readUnit_151 n F x1 x2 μ = some μ') (hr : (zme Z).sig.returnType = none) (hE : zEnd Z (0, 0, sh, R) μ' none) : Wm Z (0, 0, sh, R) μ 151 [(0, .ref (wb (zw Z) + 139)), (1, .int x1), (2, .int x2)] [] := by
  unfold jX12_readUnit_151 at h
  refine r_aload_n C dX12_readUnit_151 0 rfl ?_
  refine r_iload_n C dX12_readUnit_152 1 rfl ?_
  obtain ⟨m21, e20, h⟩ := bnd_inv h
  refine r_cVv (As := [.int x1]) (rest := []) C hR mlX12_146 dX12_readUnit_153 (hF3 _ _ _ e20) rfl rfl (ly139 hY) rfl (by omega) (nle rfl) (nle rfl) ?_
  refine r_aload_n C dX12_readUnit_156 0 rfl ?_
  refine r_iload_n C dX12_readUnit_157 2 rfl ?_
  obtain ⟨m23, e22, h⟩ := bnd_inv h
  refine r_cVv (As := [.int x2]) (rest := []) C hR mlX12_137 dX12_readUnit_158 (tX12_codes hY n x2  e22) rfl rfl (ly139 hY) rfl (by omega) (nle rfl) (nle rfl) ?_
  have h := Option.some.inj h
  subst h
  exact r_vret C dX12_readUnit_161 hr hE
def jX12_readUnit_139 (n : Nat) (F : Nat → Int32 → Mu → Option (Mu)) (x1 : Int32) (x2 : Int32) (μ : Mu) : Option (Mu) := bnd (fX12_next n μ) fun m19 => jX12_readUnit_151 n F x1 x2 m19
set_option maxRecDepth 100000 in
set_option maxHeartbeats 4000000 in
theorem kX12_readUnit_139 {Z : ZC} {sh : List Sh} {R : Rf} {D : Nat} {μ' : Mu} (C : CX Z cX12_readUnit 3 RX12) (hR : zR Z = rm (D + 1) 0 0) (hY : LY sh R) (n : Nat) (F : Nat → Int32 → Mu → Option (Mu)) (hD : 9 ≤ D) (hF0 : ∀ (x1 : Int32) (μ μ' : Mu), F 0 x1 μ = some μ' → CM Z.1.2.1 (zw Z) yX12_readTruth cX12_readTruth 2 none D 0 0 sh R [.ref (wb (zw Z) + 139), .int x1] μ none sh R μ') (hF1 : ∀ (x1 : Int32) (μ μ' : Mu), F 1 x1 μ = some μ' → CM Z.1.2.1 (zw Z) yX12_readBoth cX12_readBoth 2 none D 0 0 sh R [.ref (wb (zw Z) + 139), .int x1] μ none sh R μ') (hF2 : ∀ (x1 : Int32) (μ μ' : Mu), F 2 x1 μ = some μ' → CM Z.1.2.1 (zw Z) yX12_readUnit cX12_readUnit 3 none D 0 0 sh R [.ref (wb (zw Z) + 139), .int x1] μ none sh R μ') (hF3 : ∀ (x1 : Int32) (μ μ' : Mu), F 3 x1 μ = some μ' → CM Z.1.2.1 (zw Z) yX12_readSum cX12_readSum 3 none D 0 0 sh R [.ref (wb (zw Z) + 139), .int x1] μ none sh R μ') (hF4 : ∀ (x1 : Int32) (μ μ' : Mu), F 4 x1 μ = some μ' → CM Z.1.2.1 (zw Z) yX12_readTerm cX12_readTerm 2 none D 0 0 sh R [.ref (wb (zw Z) + 139), .int x1] μ none sh R μ') (hF5 : ∀ (x1 : Int32) (μ μ' : Mu), F 5 x1 μ = some μ' → CM Z.1.2.1 (zw Z) yX12_readAtom cX12_readAtom 2 none D 0 0 sh R [.ref (wb (zw Z) + 139), .int x1] μ none sh R μ') (x1 : Int32) (x2 : Int32) (μ : Mu) (h : jX12_readUnit_139 n F x1 x2 μ = some μ') (hr : (zme Z).sig.returnType = none) (hE : zEnd Z (0, 0, sh, R) μ' none) : Wm Z (0, 0, sh, R) μ 139 [(0, .ref (wb (zw Z) + 139)), (1, .int x1), (2, .int x2)] [] := by
  unfold jX12_readUnit_139 at h
  refine r_aload_n C dX12_readUnit_139 0 rfl ?_
  obtain ⟨m19, e18, h⟩ := bnd_inv h
  refine r_cVv (As := []) (rest := []) C hR mlX12_123 dX12_readUnit_140 (tX12_next hY n  e18) rfl rfl (ly139 hY) rfl (by omega) (nle rfl) (nle rfl) ?_
  refine r_goto 151 C dX12_readUnit_143 (by decide) ?_
  exact kX12_readUnit_151 C hR hY n F hD hF0 hF1 hF2 hF3 hF4 hF5 x1 x2 m19 h hr hE
def jX12_readUnit_111 (n : Nat) (F : Nat → Int32 → Mu → Option (Mu)) (x1 : Int32) (s0 : Int32) (μ : Mu) : Option (Mu) := bnd (fX12_is n 39 μ) fun u16 => if u16 = 0 then (bnd (fX12_is n 40 μ) fun u25 => if u25 = 0 then (bnd (fX12_is n 41 μ) fun u28 => if u28 = 0 then (bnd (fX12_fails n 2 μ) fun m31 => jX12_readUnit_151 n F x1 s0 m31) else (jX12_readUnit_139 n F x1 s0 μ)) else (jX12_readUnit_139 n F x1 s0 μ)) else (jX12_readUnit_139 n F x1 s0 μ)
set_option maxRecDepth 100000 in
set_option maxHeartbeats 4000000 in
theorem kX12_readUnit_111 {Z : ZC} {sh : List Sh} {R : Rf} {D : Nat} {μ' : Mu} (C : CX Z cX12_readUnit 3 RX12) (hR : zR Z = rm (D + 1) 0 0) (hY : LY sh R) (n : Nat) (F : Nat → Int32 → Mu → Option (Mu)) (hD : 9 ≤ D) (hF0 : ∀ (x1 : Int32) (μ μ' : Mu), F 0 x1 μ = some μ' → CM Z.1.2.1 (zw Z) yX12_readTruth cX12_readTruth 2 none D 0 0 sh R [.ref (wb (zw Z) + 139), .int x1] μ none sh R μ') (hF1 : ∀ (x1 : Int32) (μ μ' : Mu), F 1 x1 μ = some μ' → CM Z.1.2.1 (zw Z) yX12_readBoth cX12_readBoth 2 none D 0 0 sh R [.ref (wb (zw Z) + 139), .int x1] μ none sh R μ') (hF2 : ∀ (x1 : Int32) (μ μ' : Mu), F 2 x1 μ = some μ' → CM Z.1.2.1 (zw Z) yX12_readUnit cX12_readUnit 3 none D 0 0 sh R [.ref (wb (zw Z) + 139), .int x1] μ none sh R μ') (hF3 : ∀ (x1 : Int32) (μ μ' : Mu), F 3 x1 μ = some μ' → CM Z.1.2.1 (zw Z) yX12_readSum cX12_readSum 3 none D 0 0 sh R [.ref (wb (zw Z) + 139), .int x1] μ none sh R μ') (hF4 : ∀ (x1 : Int32) (μ μ' : Mu), F 4 x1 μ = some μ' → CM Z.1.2.1 (zw Z) yX12_readTerm cX12_readTerm 2 none D 0 0 sh R [.ref (wb (zw Z) + 139), .int x1] μ none sh R μ') (hF5 : ∀ (x1 : Int32) (μ μ' : Mu), F 5 x1 μ = some μ' → CM Z.1.2.1 (zw Z) yX12_readAtom cX12_readAtom 2 none D 0 0 sh R [.ref (wb (zw Z) + 139), .int x1] μ none sh R μ') (x1 : Int32) (s0 : Int32) (μ : Mu) (h : jX12_readUnit_111 n F x1 s0 μ = some μ') (hr : (zme Z).sig.returnType = none) (hE : zEnd Z (0, 0, sh, R) μ' none) : Wm Z (0, 0, sh, R) μ 111 [(0, .ref (wb (zw Z) + 139)), (1, .int x1)] [.int s0] := by
  unfold jX12_readUnit_111 at h
  refine r_istore_n [(2, .int s0), (0, .ref (wb (zw Z) + 139)), (1, .int x1)] C dX12_readUnit_111 rfl (by decide) rfl ?_
  refine r_aload_n C dX12_readUnit_112 1 rfl ?_
  refine r_bipush C dX12_readUnit_113 bp_39 ?_
  obtain ⟨u16, e15, h⟩ := bnd_inv h
  refine r_cVi (As := [.int 39]) (rest := []) C hR mlX12_120 dX12_readUnit_115 (tX12_is hY n 39  e15) rfl rfl (ly139 hY) rfl (by omega) (nle rfl) (nle rfl) ?_
  refine r_if_ne 139 C dX12_readUnit_118 (by decide) (fun c17 => ?_) (fun c17 => ?_)
  · have h := (ite_inv h).2 c17
    refine r_sub [(0, .ref (wb (zw Z) + 139)), (1, .int x1), (2, .int s0)] [1, 2, 0] rfl ?_
    exact kX12_readUnit_139 C hR hY n F hD hF0 hF1 hF2 hF3 hF4 hF5 x1 s0 μ h hr hE
  · have h := (ite_inv h).1 c17
    refine r_aload_n C dX12_readUnit_121 1 rfl ?_
    refine r_bipush C dX12_readUnit_122 bp_40 ?_
    obtain ⟨u25, e24, h⟩ := bnd_inv h
    refine r_cVi (As := [.int 40]) (rest := []) C hR mlX12_120 dX12_readUnit_124 (tX12_is hY n 40  e24) rfl rfl (ly139 hY) rfl (by omega) (nle rfl) (nle rfl) ?_
    refine r_if_ne 139 C dX12_readUnit_127 (by decide) (fun c26 => ?_) (fun c26 => ?_)
    · have h := (ite_inv h).2 c26
      refine r_sub [(0, .ref (wb (zw Z) + 139)), (1, .int x1), (2, .int s0)] [1, 2, 0] rfl ?_
      exact kX12_readUnit_139 C hR hY n F hD hF0 hF1 hF2 hF3 hF4 hF5 x1 s0 μ h hr hE
    · have h := (ite_inv h).1 c26
      refine r_aload_n C dX12_readUnit_130 1 rfl ?_
      refine r_bipush C dX12_readUnit_131 bp_41 ?_
      obtain ⟨u28, e27, h⟩ := bnd_inv h
      refine r_cVi (As := [.int 41]) (rest := []) C hR mlX12_120 dX12_readUnit_133 (tX12_is hY n 41  e27) rfl rfl (ly139 hY) rfl (by omega) (nle rfl) (nle rfl) ?_
      refine r_if_eq 146 C dX12_readUnit_136 (by decide) (fun c29 => ?_) (fun c29 => ?_)
      · have h := (ite_inv h).1 c29
        refine r_aload_n C dX12_readUnit_146 1 rfl ?_
        refine r_iconst C dX12_readUnit_147 ic_2 ?_
        obtain ⟨m31, e30, h⟩ := bnd_inv h
        refine r_cVv (As := [.int 2]) (rest := []) C hR mlX12_126 dX12_readUnit_148 (tX12_fails hY n 2  e30) rfl rfl (ly139 hY) rfl (by omega) (nle rfl) (nle rfl) ?_
        refine r_sub [(0, .ref (wb (zw Z) + 139)), (1, .int x1), (2, .int s0)] [1, 2, 0] rfl ?_
        exact kX12_readUnit_151 C hR hY n F hD hF0 hF1 hF2 hF3 hF4 hF5 x1 s0 m31 h hr hE
      · have h := (ite_inv h).2 c29
        refine r_sub [(0, .ref (wb (zw Z) + 139)), (1, .int x1), (2, .int s0)] [1, 2, 0] rfl ?_
        exact kX12_readUnit_139 C hR hY n F hD hF0 hF1 hF2 hF3 hF4 hF5 x1 s0 μ h hr hE
def bX12_readUnit (n : Nat) (F : Nat → Int32 → Mu → Option (Mu)) (x1 : Int32) (μ : Mu) : Option (Mu) := bnd (fX12_is n 21 μ) fun u2 => if u2 = 0 then (bnd (fX12_is n 37 μ) fun u5 => if u5 = 0 then (bnd (F 3 x1 μ) fun m8 => bnd (fX12_is n 39 m8) fun u10 => if u10 = 0 then (bnd (fX12_is n 40 m8) fun u13 => if u13 = 0 then (jX12_readUnit_111 n F x1 3005 m8) else (jX12_readUnit_111 n F x1 3004 m8)) else (jX12_readUnit_111 n F x1 3003 m8)) else (bnd2 (fX12_goesIn n x1 μ) fun u33 m34 => if u33 = 0 then (some m34) else (bnd (F 0 (x1 + 1) m34) fun m37 => bnd2 (fX12_eats n 38 m37) fun u39 m40 => if u39 = 0 then (bnd (fX12_fails n 2 m40) fun m43 => some m43) else (some m40)))) else (bnd2 (fX12_goesIn n x1 μ) fun u45 m46 => if u45 = 0 then (some m46) else (bnd (F 2 (x1 + 1) m46) fun m49 => bnd (fX12_codes n 3006 m49) fun m51 => some m51))
set_option maxRecDepth 100000 in
set_option maxHeartbeats 4000000 in
theorem qX12_readUnit {l : Launch} {w : WP} {sh : List Sh} {R : Rf} {μ : Mu} {μ' : Mu} (hY : LY sh R) (n : Nat) (F : Nat → Int32 → Mu → Option (Mu)) (x1 : Int32) (D : Nat) (hD : 9 ≤ D) (hF0 : ∀ (x1 : Int32) (μ μ' : Mu), F 0 x1 μ = some μ' → CM l w yX12_readTruth cX12_readTruth 2 none D 0 0 sh R [.ref (wb w + 139), .int x1] μ none sh R μ') (hF1 : ∀ (x1 : Int32) (μ μ' : Mu), F 1 x1 μ = some μ' → CM l w yX12_readBoth cX12_readBoth 2 none D 0 0 sh R [.ref (wb w + 139), .int x1] μ none sh R μ') (hF2 : ∀ (x1 : Int32) (μ μ' : Mu), F 2 x1 μ = some μ' → CM l w yX12_readUnit cX12_readUnit 3 none D 0 0 sh R [.ref (wb w + 139), .int x1] μ none sh R μ') (hF3 : ∀ (x1 : Int32) (μ μ' : Mu), F 3 x1 μ = some μ' → CM l w yX12_readSum cX12_readSum 3 none D 0 0 sh R [.ref (wb w + 139), .int x1] μ none sh R μ') (hF4 : ∀ (x1 : Int32) (μ μ' : Mu), F 4 x1 μ = some μ' → CM l w yX12_readTerm cX12_readTerm 2 none D 0 0 sh R [.ref (wb w + 139), .int x1] μ none sh R μ') (hF5 : ∀ (x1 : Int32) (μ μ' : Mu), F 5 x1 μ = some μ' → CM l w yX12_readAtom cX12_readAtom 2 none D 0 0 sh R [.ref (wb w + 139), .int x1] μ none sh R μ') (h : bX12_readUnit n F x1 μ = some μ') : CM l w yX12_readUnit cX12_readUnit 3 none (D + 1) 0 0 sh R [.ref (wb w + 139), .int x1] μ none sh R μ' := by
  refine CM.of (plainFor_of_name pf_X12) (Nat.le_of_ble_eq_true rfl) fun Z C hr _ hR hw hl hE => ?_
  subst hw; subst hl
  have C : CX Z cX12_readUnit 3 RX12 := C
  show Wm Z (0, 0, sh, R) μ 0 [(0, .ref (wb (zw Z) + 139)), (1, .int x1)] []
  unfold bX12_readUnit at h
  refine r_aload_n C dX12_readUnit_0 0 rfl ?_
  refine r_bipush C dX12_readUnit_1 bp_21 ?_
  obtain ⟨u2, e1, h⟩ := bnd_inv h
  refine r_cVi (As := [.int 21]) (rest := []) C hR mlX12_120 dX12_readUnit_3 (tX12_is hY n 21  e1) rfl rfl (ly139 hY) rfl (by omega) (nle rfl) (nle rfl) ?_
  refine r_if_eq 33 C dX12_readUnit_6 (by decide) (fun c3 => ?_) (fun c3 => ?_)
  · have h := (ite_inv h).1 c3
    refine r_aload_n C dX12_readUnit_33 0 rfl ?_
    refine r_bipush C dX12_readUnit_34 bp_37 ?_
    obtain ⟨u5, e4, h⟩ := bnd_inv h
    refine r_cVi (As := [.int 37]) (rest := []) C hR mlX12_120 dX12_readUnit_36 (tX12_is hY n 37  e4) rfl rfl (ly139 hY) rfl (by omega) (nle rfl) (nle rfl) ?_
    refine r_if_eq 73 C dX12_readUnit_39 (by decide) (fun c6 => ?_) (fun c6 => ?_)
    · have h := (ite_inv h).1 c6
      refine r_aload_n C dX12_readUnit_73 0 rfl ?_
      refine r_iload_n C dX12_readUnit_74 1 rfl ?_
      obtain ⟨m8, e7, h⟩ := bnd_inv h
      refine r_cVv (As := [.int x1]) (rest := []) C hR mlX12_146 dX12_readUnit_75 (hF3 _ _ _ e7) rfl rfl (ly139 hY) rfl (by omega) (nle rfl) (nle rfl) ?_
      refine r_aload_n C dX12_readUnit_78 0 rfl ?_
      refine r_bipush C dX12_readUnit_79 bp_39 ?_
      obtain ⟨u10, e9, h⟩ := bnd_inv h
      refine r_cVi (As := [.int 39]) (rest := []) C hR mlX12_120 dX12_readUnit_81 (tX12_is hY n 39  e9) rfl rfl (ly139 hY) rfl (by omega) (nle rfl) (nle rfl) ?_
      refine r_if_eq 93 C dX12_readUnit_84 (by decide) (fun c11 => ?_) (fun c11 => ?_)
      · have h := (ite_inv h).1 c11
        refine r_aload_n C dX12_readUnit_93 0 rfl ?_
        refine r_bipush C dX12_readUnit_94 bp_40 ?_
        obtain ⟨u13, e12, h⟩ := bnd_inv h
        refine r_cVi (As := [.int 40]) (rest := []) C hR mlX12_120 dX12_readUnit_96 (tX12_is hY n 40  e12) rfl rfl (ly139 hY) rfl (by omega) (nle rfl) (nle rfl) ?_
        refine r_if_eq 108 C dX12_readUnit_99 (by decide) (fun c14 => ?_) (fun c14 => ?_)
        · have h := (ite_inv h).1 c14
          refine r_sipush C dX12_readUnit_108 sp_3005 ?_
          exact kX12_readUnit_111 C hR hY n F hD hF0 hF1 hF2 hF3 hF4 hF5 x1 3005 m8 h hr hE
        · have h := (ite_inv h).2 c14
          refine r_sipush C dX12_readUnit_102 sp_3004 ?_
          refine r_goto 111 C dX12_readUnit_105 (by decide) ?_
          exact kX12_readUnit_111 C hR hY n F hD hF0 hF1 hF2 hF3 hF4 hF5 x1 3004 m8 h hr hE
      · have h := (ite_inv h).2 c11
        refine r_sipush C dX12_readUnit_87 sp_3003 ?_
        refine r_goto 111 C dX12_readUnit_90 (by decide) ?_
        exact kX12_readUnit_111 C hR hY n F hD hF0 hF1 hF2 hF3 hF4 hF5 x1 3003 m8 h hr hE
    · have h := (ite_inv h).2 c6
      refine r_aload_n C dX12_readUnit_42 0 rfl ?_
      refine r_iload_n C dX12_readUnit_43 1 rfl ?_
      obtain ⟨u33, m34, e32, h⟩ := bnd2_inv h
      refine r_cVi (As := [.int x1]) (rest := []) C hR mlX12_143 dX12_readUnit_44 (tX12_goesIn hY n x1  e32) rfl rfl (ly139 hY) rfl (by omega) (nle rfl) (nle rfl) ?_
      refine r_if_ne 51 C dX12_readUnit_47 (by decide) (fun c35 => ?_) (fun c35 => ?_)
      · have h := (ite_inv h).2 c35
        refine r_aload_n C dX12_readUnit_51 0 rfl ?_
        refine r_iload_n C dX12_readUnit_52 1 rfl ?_
        refine r_iconst C dX12_readUnit_53 ic_1 ?_
        refine r_iadd C dX12_readUnit_54 ?_
        obtain ⟨m37, e36, h⟩ := bnd_inv h
        refine r_cVv (As := [.int (x1 + 1)]) (rest := []) C hR mlX12_161 dX12_readUnit_55 (hF0 _ _ _ e36) rfl rfl (ly139 hY) rfl (by omega) (nle rfl) (nle rfl) ?_
        refine r_aload_n C dX12_readUnit_58 0 rfl ?_
        refine r_bipush C dX12_readUnit_59 bp_38 ?_
        obtain ⟨u39, m40, e38, h⟩ := bnd2_inv h
        refine r_cVi (As := [.int 38]) (rest := []) C hR mlX12_149 dX12_readUnit_61 (tX12_eats hY n 38  e38) rfl rfl (ly139 hY) rfl (by omega) (nle rfl) (nle rfl) ?_
        refine r_if_ne 72 C dX12_readUnit_64 (by decide) (fun c41 => ?_) (fun c41 => ?_)
        · have h := (ite_inv h).2 c41
          have h := Option.some.inj h
          subst h
          exact r_vret C dX12_readUnit_72 hr hE
        · have h := (ite_inv h).1 c41
          refine r_aload_n C dX12_readUnit_67 0 rfl ?_
          refine r_iconst C dX12_readUnit_68 ic_2 ?_
          obtain ⟨m43, e42, h⟩ := bnd_inv h
          refine r_cVv (As := [.int 2]) (rest := []) C hR mlX12_126 dX12_readUnit_69 (tX12_fails hY n 2  e42) rfl rfl (ly139 hY) rfl (by omega) (nle rfl) (nle rfl) ?_
          have h := Option.some.inj h
          subst h
          exact r_vret C dX12_readUnit_72 hr hE
      · have h := (ite_inv h).1 c35
        have h := Option.some.inj h
        subst h
        exact r_vret C dX12_readUnit_50 hr hE
  · have h := (ite_inv h).2 c3
    refine r_aload_n C dX12_readUnit_9 0 rfl ?_
    refine r_iload_n C dX12_readUnit_10 1 rfl ?_
    obtain ⟨u45, m46, e44, h⟩ := bnd2_inv h
    refine r_cVi (As := [.int x1]) (rest := []) C hR mlX12_143 dX12_readUnit_11 (tX12_goesIn hY n x1  e44) rfl rfl (ly139 hY) rfl (by omega) (nle rfl) (nle rfl) ?_
    refine r_if_ne 18 C dX12_readUnit_14 (by decide) (fun c47 => ?_) (fun c47 => ?_)
    · have h := (ite_inv h).2 c47
      refine r_aload_n C dX12_readUnit_18 0 rfl ?_
      refine r_iload_n C dX12_readUnit_19 1 rfl ?_
      refine r_iconst C dX12_readUnit_20 ic_1 ?_
      refine r_iadd C dX12_readUnit_21 ?_
      obtain ⟨m49, e48, h⟩ := bnd_inv h
      refine r_cVv (As := [.int (x1 + 1)]) (rest := []) C hR mlX12_158 dX12_readUnit_22 (hF2 _ _ _ e48) rfl rfl (ly139 hY) rfl (by omega) (nle rfl) (nle rfl) ?_
      refine r_aload_n C dX12_readUnit_25 0 rfl ?_
      refine r_sipush C dX12_readUnit_26 sp_3006 ?_
      obtain ⟨m51, e50, h⟩ := bnd_inv h
      refine r_cVv (As := [.int 3006]) (rest := []) C hR mlX12_137 dX12_readUnit_29 (tX12_codes hY n 3006  e50) rfl rfl (ly139 hY) rfl (by omega) (nle rfl) (nle rfl) ?_
      have h := Option.some.inj h
      subst h
      exact r_vret C dX12_readUnit_32 hr hE
    · have h := (ite_inv h).1 c47
      have h := Option.some.inj h
      subst h
      exact r_vret C dX12_readUnit_17 hr hE
def jX12_readSum_23 (n : Nat) (F : Nat → Int32 → Mu → Option (Mu)) (x1 : Int32) (μ : Mu) : Option ((Mu) ⊕ (Mu)) := bnd (fX12_next n μ) fun m8 => bnd (F 4 x1 m8) fun m10 => bnd (fX12_codes n (if (rI μ 139 9) = 32 then 3000 else 3001 : Int32) m10) fun m12 => some (.inl m12)
set_option maxRecDepth 100000 in
set_option maxHeartbeats 4000000 in
theorem kX12_readSum_23 {Z : ZC} {sh : List Sh} {R : Rf} {D : Nat} {o : (Mu) ⊕ (Mu)} (C : CX Z cX12_readSum 3 RX12) (hR : zR Z = rm (D + 1) 0 0) (hY : LY sh R) (n : Nat) (F : Nat → Int32 → Mu → Option (Mu)) (hD : 9 ≤ D) (hF0 : ∀ (x1 : Int32) (μ μ' : Mu), F 0 x1 μ = some μ' → CM Z.1.2.1 (zw Z) yX12_readTruth cX12_readTruth 2 none D 0 0 sh R [.ref (wb (zw Z) + 139), .int x1] μ none sh R μ') (hF1 : ∀ (x1 : Int32) (μ μ' : Mu), F 1 x1 μ = some μ' → CM Z.1.2.1 (zw Z) yX12_readBoth cX12_readBoth 2 none D 0 0 sh R [.ref (wb (zw Z) + 139), .int x1] μ none sh R μ') (hF2 : ∀ (x1 : Int32) (μ μ' : Mu), F 2 x1 μ = some μ' → CM Z.1.2.1 (zw Z) yX12_readUnit cX12_readUnit 3 none D 0 0 sh R [.ref (wb (zw Z) + 139), .int x1] μ none sh R μ') (hF3 : ∀ (x1 : Int32) (μ μ' : Mu), F 3 x1 μ = some μ' → CM Z.1.2.1 (zw Z) yX12_readSum cX12_readSum 3 none D 0 0 sh R [.ref (wb (zw Z) + 139), .int x1] μ none sh R μ') (hF4 : ∀ (x1 : Int32) (μ μ' : Mu), F 4 x1 μ = some μ' → CM Z.1.2.1 (zw Z) yX12_readTerm cX12_readTerm 2 none D 0 0 sh R [.ref (wb (zw Z) + 139), .int x1] μ none sh R μ') (hF5 : ∀ (x1 : Int32) (μ μ' : Mu), F 5 x1 μ = some μ' → CM Z.1.2.1 (zw Z) yX12_readAtom cX12_readAtom 2 none D 0 0 sh R [.ref (wb (zw Z) + 139), .int x1] μ none sh R μ') (x1 : Int32) (μ : Mu) (h : jX12_readSum_23 n F x1 μ = some o) (kin : ∀ (μ : Mu), o = .inl μ → Wm Z (0, 0, sh, R) μ 5 [(0, .ref (wb (zw Z) + 139)), (1, .int x1)] []) (kex0 : ∀ (μ : Mu), o = .inr μ → Wm Z (0, 0, sh, R) μ 59 [] []) : Wm Z (0, 0, sh, R) μ 23 [(0, .ref (wb (zw Z) + 139)), (1, .int x1)] [] := by
  unfold jX12_readSum_23 at h
  refine r_aload_n C dX12_readSum_23 0 rfl ?_
  refine r_getI C flX12_96 dX12_readSum_24 (ly139 hY) rfl ?_
  refine r_bipush C dX12_readSum_27 bp_32 ?_
  suffices hj : Wm Z (0, 0, sh, R) μ 41 [(0, .ref (wb (zw Z) + 139)), (1, .int x1)] [.int (if (rI μ 139 9) = 32 then 3000 else 3001 : Int32)] by
    refine r_icmp_ne 38 C dX12_readSum_29 (by decide) (fun c6 => ?_) (fun c6 => ?_)
    · refine r_sipush C dX12_readSum_38 sp_3001 ?_
      exact sel_f c6 hj
    · refine r_sipush C dX12_readSum_32 sp_3000 ?_
      refine r_goto 41 C dX12_readSum_35 (by decide) ?_
      exact sel_t c6 hj
  refine r_istore_n [(2, .int (if (rI μ 139 9) = 32 then 3000 else 3001 : Int32)), (0, .ref (wb (zw Z) + 139)), (1, .int x1)] C dX12_readSum_41 rfl (by decide) rfl ?_
  refine r_aload_n C dX12_readSum_42 1 rfl ?_
  obtain ⟨m8, e7, h⟩ := bnd_inv h
  refine r_cVv (As := []) (rest := []) C hR mlX12_123 dX12_readSum_43 (tX12_next hY n  e7) rfl rfl (ly139 hY) rfl (by omega) (nle rfl) (nle rfl) ?_
  refine r_aload_n C dX12_readSum_46 1 rfl ?_
  refine r_iload_n C dX12_readSum_47 2 rfl ?_
  obtain ⟨m10, e9, h⟩ := bnd_inv h
  refine r_cVv (As := [.int x1]) (rest := []) C hR mlX12_155 dX12_readSum_48 (hF4 _ _ _ e9) rfl rfl (ly139 hY) rfl (by omega) (nle rfl) (nle rfl) ?_
  refine r_aload_n C dX12_readSum_51 1 rfl ?_
  refine r_iload_n C dX12_readSum_52 0 rfl ?_
  obtain ⟨m12, e11, h⟩ := bnd_inv h
  refine r_cVv (As := [.int (if (rI μ 139 9) = 32 then 3000 else 3001 : Int32)]) (rest := []) C hR mlX12_137 dX12_readSum_53 (tX12_codes hY n (if (rI μ 139 9) = 32 then 3000 else 3001 : Int32)  e11) rfl rfl (ly139 hY) rfl (by omega) (nle rfl) (nle rfl) ?_
  refine r_goto 5 C dX12_readSum_56 (by decide) ?_
  refine r_sub [(0, .ref (wb (zw Z) + 139)), (1, .int x1)] [1, 2] rfl ?_
  exact kin m12 (Option.some.inj h).symm
def sX12_readSum_5 (n : Nat) (F : Nat → Int32 → Mu → Option (Mu)) (x1 : Int32) : Mu → Option ((Mu) ⊕ (Mu)) := fun q => match q with | μ => bnd (fX12_is n 32 μ) fun u4 => if u4 = 0 then (bnd (fX12_is n 33 μ) fun u14 => if u14 = 0 then (some (.inr μ)) else (jX12_readSum_23 n F x1 μ)) else (jX12_readSum_23 n F x1 μ)
set_option maxRecDepth 100000 in
set_option maxHeartbeats 4000000 in
theorem lX12_readSum_5 {Z : ZC} {sh : List Sh} {R : Rf} {D : Nat} {o : (Mu) ⊕ (Mu)} (C : CX Z cX12_readSum 3 RX12) (hR : zR Z = rm (D + 1) 0 0) (hY : LY sh R) (n : Nat) (F : Nat → Int32 → Mu → Option (Mu)) (hD : 9 ≤ D) (hF0 : ∀ (x1 : Int32) (μ μ' : Mu), F 0 x1 μ = some μ' → CM Z.1.2.1 (zw Z) yX12_readTruth cX12_readTruth 2 none D 0 0 sh R [.ref (wb (zw Z) + 139), .int x1] μ none sh R μ') (hF1 : ∀ (x1 : Int32) (μ μ' : Mu), F 1 x1 μ = some μ' → CM Z.1.2.1 (zw Z) yX12_readBoth cX12_readBoth 2 none D 0 0 sh R [.ref (wb (zw Z) + 139), .int x1] μ none sh R μ') (hF2 : ∀ (x1 : Int32) (μ μ' : Mu), F 2 x1 μ = some μ' → CM Z.1.2.1 (zw Z) yX12_readUnit cX12_readUnit 3 none D 0 0 sh R [.ref (wb (zw Z) + 139), .int x1] μ none sh R μ') (hF3 : ∀ (x1 : Int32) (μ μ' : Mu), F 3 x1 μ = some μ' → CM Z.1.2.1 (zw Z) yX12_readSum cX12_readSum 3 none D 0 0 sh R [.ref (wb (zw Z) + 139), .int x1] μ none sh R μ') (hF4 : ∀ (x1 : Int32) (μ μ' : Mu), F 4 x1 μ = some μ' → CM Z.1.2.1 (zw Z) yX12_readTerm cX12_readTerm 2 none D 0 0 sh R [.ref (wb (zw Z) + 139), .int x1] μ none sh R μ') (hF5 : ∀ (x1 : Int32) (μ μ' : Mu), F 5 x1 μ = some μ' → CM Z.1.2.1 (zw Z) yX12_readAtom cX12_readAtom 2 none D 0 0 sh R [.ref (wb (zw Z) + 139), .int x1] μ none sh R μ') (x1 : Int32) (μ : Mu) (h : sX12_readSum_5 n F x1 μ = some o) (kin : ∀ (μ : Mu), o = .inl μ → Wm Z (0, 0, sh, R) μ 5 [(0, .ref (wb (zw Z) + 139)), (1, .int x1)] []) (kex0 : ∀ (μ : Mu), o = .inr μ → Wm Z (0, 0, sh, R) μ 59 [] []) : Wm Z (0, 0, sh, R) μ 5 [(0, .ref (wb (zw Z) + 139)), (1, .int x1)] [] := by
  unfold sX12_readSum_5 at h
  refine r_aload_n C dX12_readSum_5 0 rfl ?_
  refine r_bipush C dX12_readSum_6 bp_32 ?_
  obtain ⟨u4, e3, h⟩ := bnd_inv h
  refine r_cVi (As := [.int 32]) (rest := []) C hR mlX12_120 dX12_readSum_8 (tX12_is hY n 32  e3) rfl rfl (ly139 hY) rfl (by omega) (nle rfl) (nle rfl) ?_
  refine r_if_ne 23 C dX12_readSum_11 (by decide) (fun c5 => ?_) (fun c5 => ?_)
  · have h := (ite_inv h).2 c5
    exact kX12_readSum_23 C hR hY n F hD hF0 hF1 hF2 hF3 hF4 hF5 x1 μ h kin kex0
  · have h := (ite_inv h).1 c5
    refine r_aload_n C dX12_readSum_14 0 rfl ?_
    refine r_bipush C dX12_readSum_15 bp_33 ?_
    obtain ⟨u14, e13, h⟩ := bnd_inv h
    refine r_cVi (As := [.int 33]) (rest := []) C hR mlX12_120 dX12_readSum_17 (tX12_is hY n 33  e13) rfl rfl (ly139 hY) rfl (by omega) (nle rfl) (nle rfl) ?_
    refine r_if_eq 59 C dX12_readSum_20 (by decide) (fun c15 => ?_) (fun c15 => ?_)
    · have h := (ite_inv h).1 c15
      refine r_sub [] [] rfl ?_
      exact kex0 μ (Option.some.inj h).symm
    · have h := (ite_inv h).2 c15
      exact kX12_readSum_23 C hR hY n F hD hF0 hF1 hF2 hF3 hF4 hF5 x1 μ h kin kex0
def bX12_readSum (n : Nat) (F : Nat → Int32 → Mu → Option (Mu)) (x1 : Int32) (μ : Mu) : Option (Mu) := bnd (F 4 x1 μ) fun m2 => bnd (lp n (sX12_readSum_5 n F x1) m2) fun q => match q with | m16 => some m16
set_option maxRecDepth 100000 in
set_option maxHeartbeats 4000000 in
theorem qX12_readSum {l : Launch} {w : WP} {sh : List Sh} {R : Rf} {μ : Mu} {μ' : Mu} (hY : LY sh R) (n : Nat) (F : Nat → Int32 → Mu → Option (Mu)) (x1 : Int32) (D : Nat) (hD : 9 ≤ D) (hF0 : ∀ (x1 : Int32) (μ μ' : Mu), F 0 x1 μ = some μ' → CM l w yX12_readTruth cX12_readTruth 2 none D 0 0 sh R [.ref (wb w + 139), .int x1] μ none sh R μ') (hF1 : ∀ (x1 : Int32) (μ μ' : Mu), F 1 x1 μ = some μ' → CM l w yX12_readBoth cX12_readBoth 2 none D 0 0 sh R [.ref (wb w + 139), .int x1] μ none sh R μ') (hF2 : ∀ (x1 : Int32) (μ μ' : Mu), F 2 x1 μ = some μ' → CM l w yX12_readUnit cX12_readUnit 3 none D 0 0 sh R [.ref (wb w + 139), .int x1] μ none sh R μ') (hF3 : ∀ (x1 : Int32) (μ μ' : Mu), F 3 x1 μ = some μ' → CM l w yX12_readSum cX12_readSum 3 none D 0 0 sh R [.ref (wb w + 139), .int x1] μ none sh R μ') (hF4 : ∀ (x1 : Int32) (μ μ' : Mu), F 4 x1 μ = some μ' → CM l w yX12_readTerm cX12_readTerm 2 none D 0 0 sh R [.ref (wb w + 139), .int x1] μ none sh R μ') (hF5 : ∀ (x1 : Int32) (μ μ' : Mu), F 5 x1 μ = some μ' → CM l w yX12_readAtom cX12_readAtom 2 none D 0 0 sh R [.ref (wb w + 139), .int x1] μ none sh R μ') (h : bX12_readSum n F x1 μ = some μ') : CM l w yX12_readSum cX12_readSum 3 none (D + 1) 0 0 sh R [.ref (wb w + 139), .int x1] μ none sh R μ' := by
  refine CM.of (plainFor_of_name pf_X12) (Nat.le_of_ble_eq_true rfl) fun Z C hr _ hR hw hl hE => ?_
  subst hw; subst hl
  have C : CX Z cX12_readSum 3 RX12 := C
  show Wm Z (0, 0, sh, R) μ 0 [(0, .ref (wb (zw Z) + 139)), (1, .int x1)] []
  unfold bX12_readSum at h
  refine r_aload_n C dX12_readSum_0 0 rfl ?_
  refine r_iload_n C dX12_readSum_1 1 rfl ?_
  obtain ⟨m2, e1, h⟩ := bnd_inv h
  refine r_cVv (As := [.int x1]) (rest := []) C hR mlX12_155 dX12_readSum_2 (hF4 _ _ _ e1) rfl rfl (ly139 hY) rfl (by omega) (nle rfl) (nle rfl) ?_
  obtain ⟨m16, e17, h⟩ := bnd_inv h
  refine lp_all (sX12_readSum_5 n F x1) (fun q => match q with | ν => Wm Z (0, 0, sh, R) (ν) 5 [(0, .ref (wb (zw Z) + 139)), (1, .int x1)] []) (fun q => match q with | ν => Wm Z (0, 0, sh, R) (ν) 59 [] []) (fun q o h kin kex => ?_) n m2 m16 e17 ?_
  · exact lX12_readSum_5 C hR hY n F hD hF0 hF1 hF2 hF3 hF4 hF5 x1 q h (fun ν e => kin ν e) (fun ν e => kex (ν) e)
  show Wm Z (0, 0, sh, R) m16 59 [] []
  have h := Option.some.inj h
  subst h
  exact r_vret C dX12_readSum_59 hr hE
def sX12_readTerm_5 (n : Nat) (F : Nat → Int32 → Mu → Option (Mu)) (x1 : Int32) : Mu → Option ((Mu) ⊕ (Mu)) := fun q => match q with | μ => bnd2 (fX12_eats n 34 μ) fun u4 m5 => if u4 = 0 then (some (.inr m5)) else (bnd (F 5 x1 m5) fun m8 => bnd (fX12_codes n 3002 m8) fun m10 => some (.inl m10))
set_option maxRecDepth 100000 in
set_option maxHeartbeats 4000000 in
theorem lX12_readTerm_5 {Z : ZC} {sh : List Sh} {R : Rf} {D : Nat} {o : (Mu) ⊕ (Mu)} (C : CX Z cX12_readTerm 2 RX12) (hR : zR Z = rm (D + 1) 0 0) (hY : LY sh R) (n : Nat) (F : Nat → Int32 → Mu → Option (Mu)) (hD : 9 ≤ D) (hF0 : ∀ (x1 : Int32) (μ μ' : Mu), F 0 x1 μ = some μ' → CM Z.1.2.1 (zw Z) yX12_readTruth cX12_readTruth 2 none D 0 0 sh R [.ref (wb (zw Z) + 139), .int x1] μ none sh R μ') (hF1 : ∀ (x1 : Int32) (μ μ' : Mu), F 1 x1 μ = some μ' → CM Z.1.2.1 (zw Z) yX12_readBoth cX12_readBoth 2 none D 0 0 sh R [.ref (wb (zw Z) + 139), .int x1] μ none sh R μ') (hF2 : ∀ (x1 : Int32) (μ μ' : Mu), F 2 x1 μ = some μ' → CM Z.1.2.1 (zw Z) yX12_readUnit cX12_readUnit 3 none D 0 0 sh R [.ref (wb (zw Z) + 139), .int x1] μ none sh R μ') (hF3 : ∀ (x1 : Int32) (μ μ' : Mu), F 3 x1 μ = some μ' → CM Z.1.2.1 (zw Z) yX12_readSum cX12_readSum 3 none D 0 0 sh R [.ref (wb (zw Z) + 139), .int x1] μ none sh R μ') (hF4 : ∀ (x1 : Int32) (μ μ' : Mu), F 4 x1 μ = some μ' → CM Z.1.2.1 (zw Z) yX12_readTerm cX12_readTerm 2 none D 0 0 sh R [.ref (wb (zw Z) + 139), .int x1] μ none sh R μ') (hF5 : ∀ (x1 : Int32) (μ μ' : Mu), F 5 x1 μ = some μ' → CM Z.1.2.1 (zw Z) yX12_readAtom cX12_readAtom 2 none D 0 0 sh R [.ref (wb (zw Z) + 139), .int x1] μ none sh R μ') (x1 : Int32) (μ : Mu) (h : sX12_readTerm_5 n F x1 μ = some o) (kin : ∀ (μ : Mu), o = .inl μ → Wm Z (0, 0, sh, R) μ 5 [(0, .ref (wb (zw Z) + 139)), (1, .int x1)] []) (kex0 : ∀ (μ : Mu), o = .inr μ → Wm Z (0, 0, sh, R) μ 29 [] []) : Wm Z (0, 0, sh, R) μ 5 [(0, .ref (wb (zw Z) + 139)), (1, .int x1)] [] := by
  unfold sX12_readTerm_5 at h
  refine r_aload_n C dX12_readTerm_5 0 rfl ?_
  refine r_bipush C dX12_readTerm_6 bp_34 ?_
  obtain ⟨u4, m5, e3, h⟩ := bnd2_inv h
  refine r_cVi (As := [.int 34]) (rest := []) C hR mlX12_149 dX12_readTerm_8 (tX12_eats hY n 34  e3) rfl rfl (ly139 hY) rfl (by omega) (nle rfl) (nle rfl) ?_
  refine r_if_eq 29 C dX12_readTerm_11 (by decide) (fun c6 => ?_) (fun c6 => ?_)
  · have h := (ite_inv h).1 c6
    refine r_sub [] [] rfl ?_
    exact kex0 m5 (Option.some.inj h).symm
  · have h := (ite_inv h).2 c6
    refine r_aload_n C dX12_readTerm_14 0 rfl ?_
    refine r_iload_n C dX12_readTerm_15 1 rfl ?_
    obtain ⟨m8, e7, h⟩ := bnd_inv h
    refine r_cVv (As := [.int x1]) (rest := []) C hR mlX12_152 dX12_readTerm_16 (hF5 _ _ _ e7) rfl rfl (ly139 hY) rfl (by omega) (nle rfl) (nle rfl) ?_
    refine r_aload_n C dX12_readTerm_19 0 rfl ?_
    refine r_sipush C dX12_readTerm_20 sp_3002 ?_
    obtain ⟨m10, e9, h⟩ := bnd_inv h
    refine r_cVv (As := [.int 3002]) (rest := []) C hR mlX12_137 dX12_readTerm_23 (tX12_codes hY n 3002  e9) rfl rfl (ly139 hY) rfl (by omega) (nle rfl) (nle rfl) ?_
    refine r_goto 5 C dX12_readTerm_26 (by decide) ?_
    exact kin m10 (Option.some.inj h).symm
def bX12_readTerm (n : Nat) (F : Nat → Int32 → Mu → Option (Mu)) (x1 : Int32) (μ : Mu) : Option (Mu) := bnd (F 5 x1 μ) fun m2 => bnd (lp n (sX12_readTerm_5 n F x1) m2) fun q => match q with | m11 => some m11
set_option maxRecDepth 100000 in
set_option maxHeartbeats 4000000 in
theorem qX12_readTerm {l : Launch} {w : WP} {sh : List Sh} {R : Rf} {μ : Mu} {μ' : Mu} (hY : LY sh R) (n : Nat) (F : Nat → Int32 → Mu → Option (Mu)) (x1 : Int32) (D : Nat) (hD : 9 ≤ D) (hF0 : ∀ (x1 : Int32) (μ μ' : Mu), F 0 x1 μ = some μ' → CM l w yX12_readTruth cX12_readTruth 2 none D 0 0 sh R [.ref (wb w + 139), .int x1] μ none sh R μ') (hF1 : ∀ (x1 : Int32) (μ μ' : Mu), F 1 x1 μ = some μ' → CM l w yX12_readBoth cX12_readBoth 2 none D 0 0 sh R [.ref (wb w + 139), .int x1] μ none sh R μ') (hF2 : ∀ (x1 : Int32) (μ μ' : Mu), F 2 x1 μ = some μ' → CM l w yX12_readUnit cX12_readUnit 3 none D 0 0 sh R [.ref (wb w + 139), .int x1] μ none sh R μ') (hF3 : ∀ (x1 : Int32) (μ μ' : Mu), F 3 x1 μ = some μ' → CM l w yX12_readSum cX12_readSum 3 none D 0 0 sh R [.ref (wb w + 139), .int x1] μ none sh R μ') (hF4 : ∀ (x1 : Int32) (μ μ' : Mu), F 4 x1 μ = some μ' → CM l w yX12_readTerm cX12_readTerm 2 none D 0 0 sh R [.ref (wb w + 139), .int x1] μ none sh R μ') (hF5 : ∀ (x1 : Int32) (μ μ' : Mu), F 5 x1 μ = some μ' → CM l w yX12_readAtom cX12_readAtom 2 none D 0 0 sh R [.ref (wb w + 139), .int x1] μ none sh R μ') (h : bX12_readTerm n F x1 μ = some μ') : CM l w yX12_readTerm cX12_readTerm 2 none (D + 1) 0 0 sh R [.ref (wb w + 139), .int x1] μ none sh R μ' := by
  refine CM.of (plainFor_of_name pf_X12) (Nat.le_of_ble_eq_true rfl) fun Z C hr _ hR hw hl hE => ?_
  subst hw; subst hl
  have C : CX Z cX12_readTerm 2 RX12 := C
  show Wm Z (0, 0, sh, R) μ 0 [(0, .ref (wb (zw Z) + 139)), (1, .int x1)] []
  unfold bX12_readTerm at h
  refine r_aload_n C dX12_readTerm_0 0 rfl ?_
  refine r_iload_n C dX12_readTerm_1 1 rfl ?_
  obtain ⟨m2, e1, h⟩ := bnd_inv h
  refine r_cVv (As := [.int x1]) (rest := []) C hR mlX12_152 dX12_readTerm_2 (hF5 _ _ _ e1) rfl rfl (ly139 hY) rfl (by omega) (nle rfl) (nle rfl) ?_
  obtain ⟨m11, e12, h⟩ := bnd_inv h
  refine lp_all (sX12_readTerm_5 n F x1) (fun q => match q with | ν => Wm Z (0, 0, sh, R) (ν) 5 [(0, .ref (wb (zw Z) + 139)), (1, .int x1)] []) (fun q => match q with | ν => Wm Z (0, 0, sh, R) (ν) 29 [] []) (fun q o h kin kex => ?_) n m2 m11 e12 ?_
  · exact lX12_readTerm_5 C hR hY n F hD hF0 hF1 hF2 hF3 hF4 hF5 x1 q h (fun ν e => kin ν e) (fun ν e => kex (ν) e)
  show Wm Z (0, 0, sh, R) m11 29 [] []
  have h := Option.some.inj h
  subst h
  exact r_vret C dX12_readTerm_29 hr hE
def jX12_readAtom_66 (n : Nat) (F : Nat → Int32 → Mu → Option (Mu)) (x1 : Int32) (μ : Mu) : Option (Mu) := bnd (fX12_is n 35 μ) fun u6 => if u6 = 0 then (bnd (fX12_fails n 2 μ) fun m9 => some m9) else (bnd2 (fX12_goesIn n x1 μ) fun u11 m12 => if u11 = 0 then (some m12) else (bnd (F 3 (x1 + 1) m12) fun m15 => bnd2 (fX12_eats n 36 m15) fun u17 m18 => if u17 = 0 then (bnd (fX12_fails n 2 m18) fun m21 => some m21) else (some m18)))
set_option maxRecDepth 100000 in
set_option maxHeartbeats 4000000 in
theorem kX12_readAtom_66 {Z : ZC} {sh : List Sh} {R : Rf} {D : Nat} {μ' : Mu} (C : CX Z cX12_readAtom 2 RX12) (hR : zR Z = rm (D + 1) 0 0) (hY : LY sh R) (n : Nat) (F : Nat → Int32 → Mu → Option (Mu)) (hD : 9 ≤ D) (hF0 : ∀ (x1 : Int32) (μ μ' : Mu), F 0 x1 μ = some μ' → CM Z.1.2.1 (zw Z) yX12_readTruth cX12_readTruth 2 none D 0 0 sh R [.ref (wb (zw Z) + 139), .int x1] μ none sh R μ') (hF1 : ∀ (x1 : Int32) (μ μ' : Mu), F 1 x1 μ = some μ' → CM Z.1.2.1 (zw Z) yX12_readBoth cX12_readBoth 2 none D 0 0 sh R [.ref (wb (zw Z) + 139), .int x1] μ none sh R μ') (hF2 : ∀ (x1 : Int32) (μ μ' : Mu), F 2 x1 μ = some μ' → CM Z.1.2.1 (zw Z) yX12_readUnit cX12_readUnit 3 none D 0 0 sh R [.ref (wb (zw Z) + 139), .int x1] μ none sh R μ') (hF3 : ∀ (x1 : Int32) (μ μ' : Mu), F 3 x1 μ = some μ' → CM Z.1.2.1 (zw Z) yX12_readSum cX12_readSum 3 none D 0 0 sh R [.ref (wb (zw Z) + 139), .int x1] μ none sh R μ') (hF4 : ∀ (x1 : Int32) (μ μ' : Mu), F 4 x1 μ = some μ' → CM Z.1.2.1 (zw Z) yX12_readTerm cX12_readTerm 2 none D 0 0 sh R [.ref (wb (zw Z) + 139), .int x1] μ none sh R μ') (hF5 : ∀ (x1 : Int32) (μ μ' : Mu), F 5 x1 μ = some μ' → CM Z.1.2.1 (zw Z) yX12_readAtom cX12_readAtom 2 none D 0 0 sh R [.ref (wb (zw Z) + 139), .int x1] μ none sh R μ') (x1 : Int32) (μ : Mu) (h : jX12_readAtom_66 n F x1 μ = some μ') (hr : (zme Z).sig.returnType = none) (hE : zEnd Z (0, 0, sh, R) μ' none) : Wm Z (0, 0, sh, R) μ 66 [(0, .ref (wb (zw Z) + 139)), (1, .int x1)] [] := by
  unfold jX12_readAtom_66 at h
  refine r_aload_n C dX12_readAtom_66 0 rfl ?_
  refine r_bipush C dX12_readAtom_67 bp_35 ?_
  obtain ⟨u6, e5, h⟩ := bnd_inv h
  refine r_cVi (As := [.int 35]) (rest := []) C hR mlX12_120 dX12_readAtom_69 (tX12_is hY n 35  e5) rfl rfl (ly139 hY) rfl (by omega) (nle rfl) (nle rfl) ?_
  refine r_if_eq 108 C dX12_readAtom_72 (by decide) (fun c7 => ?_) (fun c7 => ?_)
  · have h := (ite_inv h).1 c7
    refine r_aload_n C dX12_readAtom_108 0 rfl ?_
    refine r_iconst C dX12_readAtom_109 ic_2 ?_
    obtain ⟨m9, e8, h⟩ := bnd_inv h
    refine r_cVv (As := [.int 2]) (rest := []) C hR mlX12_126 dX12_readAtom_110 (tX12_fails hY n 2  e8) rfl rfl (ly139 hY) rfl (by omega) (nle rfl) (nle rfl) ?_
    have h := Option.some.inj h
    subst h
    exact r_vret C dX12_readAtom_113 hr hE
  · have h := (ite_inv h).2 c7
    refine r_aload_n C dX12_readAtom_75 0 rfl ?_
    refine r_iload_n C dX12_readAtom_76 1 rfl ?_
    obtain ⟨u11, m12, e10, h⟩ := bnd2_inv h
    refine r_cVi (As := [.int x1]) (rest := []) C hR mlX12_143 dX12_readAtom_77 (tX12_goesIn hY n x1  e10) rfl rfl (ly139 hY) rfl (by omega) (nle rfl) (nle rfl) ?_
    refine r_if_ne 84 C dX12_readAtom_80 (by decide) (fun c13 => ?_) (fun c13 => ?_)
    · have h := (ite_inv h).2 c13
      refine r_aload_n C dX12_readAtom_84 0 rfl ?_
      refine r_iload_n C dX12_readAtom_85 1 rfl ?_
      refine r_iconst C dX12_readAtom_86 ic_1 ?_
      refine r_iadd C dX12_readAtom_87 ?_
      obtain ⟨m15, e14, h⟩ := bnd_inv h
      refine r_cVv (As := [.int (x1 + 1)]) (rest := []) C hR mlX12_146 dX12_readAtom_88 (hF3 _ _ _ e14) rfl rfl (ly139 hY) rfl (by omega) (nle rfl) (nle rfl) ?_
      refine r_aload_n C dX12_readAtom_91 0 rfl ?_
      refine r_bipush C dX12_readAtom_92 bp_36 ?_
      obtain ⟨u17, m18, e16, h⟩ := bnd2_inv h
      refine r_cVi (As := [.int 36]) (rest := []) C hR mlX12_149 dX12_readAtom_94 (tX12_eats hY n 36  e16) rfl rfl (ly139 hY) rfl (by omega) (nle rfl) (nle rfl) ?_
      refine r_if_ne 113 C dX12_readAtom_97 (by decide) (fun c19 => ?_) (fun c19 => ?_)
      · have h := (ite_inv h).2 c19
        have h := Option.some.inj h
        subst h
        exact r_vret C dX12_readAtom_113 hr hE
      · have h := (ite_inv h).1 c19
        refine r_aload_n C dX12_readAtom_100 0 rfl ?_
        refine r_iconst C dX12_readAtom_101 ic_2 ?_
        obtain ⟨m21, e20, h⟩ := bnd_inv h
        refine r_cVv (As := [.int 2]) (rest := []) C hR mlX12_126 dX12_readAtom_102 (tX12_fails hY n 2  e20) rfl rfl (ly139 hY) rfl (by omega) (nle rfl) (nle rfl) ?_
        refine r_goto 113 C dX12_readAtom_105 (by decide) ?_
        have h := Option.some.inj h
        subst h
        exact r_vret C dX12_readAtom_113 hr hE
    · have h := (ite_inv h).1 c13
      have h := Option.some.inj h
      subst h
      exact r_vret C dX12_readAtom_83 hr hE
def bX12_readAtom (n : Nat) (F : Nat → Int32 → Mu → Option (Mu)) (x1 : Int32) (μ : Mu) : Option (Mu) := bnd (fX12_is n 23 μ) fun u2 => if u2 = 0 then (if (rI μ 139 11) = 0 then (bnd (fX12_wordOf n (rI μ 139 9) μ) fun u23 => if u23 = (-1) then (jX12_readAtom_66 n F x1 μ) else (bnd (fX12_wordOf n (rI μ 139 9) μ) fun u26 => bnd (fX12_codes n (1000 + u26) μ) fun m28 => bnd (fX12_next n m28) fun m30 => some m30)) else (jX12_readAtom_66 n F x1 μ)) else (bnd (fX12_codes n (rI μ 139 10) μ) fun m32 => bnd (fX12_next n m32) fun m34 => some m34)
set_option maxRecDepth 100000 in
set_option maxHeartbeats 4000000 in
theorem qX12_readAtom {l : Launch} {w : WP} {sh : List Sh} {R : Rf} {μ : Mu} {μ' : Mu} (hY : LY sh R) (n : Nat) (F : Nat → Int32 → Mu → Option (Mu)) (x1 : Int32) (D : Nat) (hD : 9 ≤ D) (hF0 : ∀ (x1 : Int32) (μ μ' : Mu), F 0 x1 μ = some μ' → CM l w yX12_readTruth cX12_readTruth 2 none D 0 0 sh R [.ref (wb w + 139), .int x1] μ none sh R μ') (hF1 : ∀ (x1 : Int32) (μ μ' : Mu), F 1 x1 μ = some μ' → CM l w yX12_readBoth cX12_readBoth 2 none D 0 0 sh R [.ref (wb w + 139), .int x1] μ none sh R μ') (hF2 : ∀ (x1 : Int32) (μ μ' : Mu), F 2 x1 μ = some μ' → CM l w yX12_readUnit cX12_readUnit 3 none D 0 0 sh R [.ref (wb w + 139), .int x1] μ none sh R μ') (hF3 : ∀ (x1 : Int32) (μ μ' : Mu), F 3 x1 μ = some μ' → CM l w yX12_readSum cX12_readSum 3 none D 0 0 sh R [.ref (wb w + 139), .int x1] μ none sh R μ') (hF4 : ∀ (x1 : Int32) (μ μ' : Mu), F 4 x1 μ = some μ' → CM l w yX12_readTerm cX12_readTerm 2 none D 0 0 sh R [.ref (wb w + 139), .int x1] μ none sh R μ') (hF5 : ∀ (x1 : Int32) (μ μ' : Mu), F 5 x1 μ = some μ' → CM l w yX12_readAtom cX12_readAtom 2 none D 0 0 sh R [.ref (wb w + 139), .int x1] μ none sh R μ') (h : bX12_readAtom n F x1 μ = some μ') : CM l w yX12_readAtom cX12_readAtom 2 none (D + 1) 0 0 sh R [.ref (wb w + 139), .int x1] μ none sh R μ' := by
  refine CM.of (plainFor_of_name pf_X12) (Nat.le_of_ble_eq_true rfl) fun Z C hr _ hR hw hl hE => ?_
  subst hw; subst hl
  have C : CX Z cX12_readAtom 2 RX12 := C
  show Wm Z (0, 0, sh, R) μ 0 [(0, .ref (wb (zw Z) + 139)), (1, .int x1)] []
  unfold bX12_readAtom at h
  refine r_aload_n C dX12_readAtom_0 0 rfl ?_
  refine r_bipush C dX12_readAtom_1 bp_23 ?_
  obtain ⟨u2, e1, h⟩ := bnd_inv h
  refine r_cVi (As := [.int 23]) (rest := []) C hR mlX12_120 dX12_readAtom_3 (tX12_is hY n 23  e1) rfl rfl (ly139 hY) rfl (by omega) (nle rfl) (nle rfl) ?_
  refine r_if_eq 24 C dX12_readAtom_6 (by decide) (fun c3 => ?_) (fun c3 => ?_)
  · have h := (ite_inv h).1 c3
    refine r_aload_n C dX12_readAtom_24 0 rfl ?_
    refine r_getI C flX12_114 dX12_readAtom_25 (ly139 hY) rfl ?_
    refine r_if_ne 66 C dX12_readAtom_28 (by decide) (fun c4 => ?_) (fun c4 => ?_)
    · have h := (ite_inv h).2 c4
      exact kX12_readAtom_66 C hR hY n F hD hF0 hF1 hF2 hF3 hF4 hF5 x1 μ h hr hE
    · have h := (ite_inv h).1 c4
      refine r_aload_n C dX12_readAtom_31 0 rfl ?_
      refine r_aload_n C dX12_readAtom_32 0 rfl ?_
      refine r_getI C flX12_96 dX12_readAtom_33 (ly139 hY) rfl ?_
      obtain ⟨u23, e22, h⟩ := bnd_inv h
      refine r_cVi (As := [.int (rI μ 139 9)]) (rest := []) C hR mlX12_140 dX12_readAtom_36 (tX12_wordOf hY n (rI μ 139 9)  e22) rfl rfl (ly139 hY) rfl (by omega) (nle rfl) (nle rfl) ?_
      refine r_iconst C dX12_readAtom_39 ic_m1 ?_
      refine r_icmp_eq 66 C dX12_readAtom_40 (by decide) (fun c24 => ?_) (fun c24 => ?_)
      · have h := (ite_inv h).1 c24
        exact kX12_readAtom_66 C hR hY n F hD hF0 hF1 hF2 hF3 hF4 hF5 x1 μ h hr hE
      · have h := (ite_inv h).2 c24
        refine r_aload_n C dX12_readAtom_43 0 rfl ?_
        refine r_sipush C dX12_readAtom_44 sp_1000 ?_
        refine r_aload_n C dX12_readAtom_47 0 rfl ?_
        refine r_aload_n C dX12_readAtom_48 0 rfl ?_
        refine r_getI C flX12_96 dX12_readAtom_49 (ly139 hY) rfl ?_
        obtain ⟨u26, e25, h⟩ := bnd_inv h
        refine r_cVi (As := [.int (rI μ 139 9)]) (rest := [.int 1000, .ref (wb (zw Z) + 139)]) C hR mlX12_140 dX12_readAtom_52 (tX12_wordOf hY n (rI μ 139 9)  e25) rfl rfl (ly139 hY) rfl (by omega) (nle rfl) (nle rfl) ?_
        refine r_iadd C dX12_readAtom_55 ?_
        obtain ⟨m28, e27, h⟩ := bnd_inv h
        refine r_cVv (As := [.int (1000 + u26)]) (rest := []) C hR mlX12_137 dX12_readAtom_56 (tX12_codes hY n (1000 + u26)  e27) rfl rfl (ly139 hY) rfl (by omega) (nle rfl) (nle rfl) ?_
        refine r_aload_n C dX12_readAtom_59 0 rfl ?_
        obtain ⟨m30, e29, h⟩ := bnd_inv h
        refine r_cVv (As := []) (rest := []) C hR mlX12_123 dX12_readAtom_60 (tX12_next hY n  e29) rfl rfl (ly139 hY) rfl (by omega) (nle rfl) (nle rfl) ?_
        refine r_goto 113 C dX12_readAtom_63 (by decide) ?_
        have h := Option.some.inj h
        subst h
        exact r_vret C dX12_readAtom_113 hr hE
  · have h := (ite_inv h).2 c3
    refine r_aload_n C dX12_readAtom_9 0 rfl ?_
    refine r_aload_n C dX12_readAtom_10 0 rfl ?_
    refine r_getI C flX12_109 dX12_readAtom_11 (ly139 hY) rfl ?_
    obtain ⟨m32, e31, h⟩ := bnd_inv h
    refine r_cVv (As := [.int (rI μ 139 10)]) (rest := []) C hR mlX12_137 dX12_readAtom_14 (tX12_codes hY n (rI μ 139 10)  e31) rfl rfl (ly139 hY) rfl (by omega) (nle rfl) (nle rfl) ?_
    refine r_aload_n C dX12_readAtom_17 0 rfl ?_
    obtain ⟨m34, e33, h⟩ := bnd_inv h
    refine r_cVv (As := []) (rest := []) C hR mlX12_123 dX12_readAtom_18 (tX12_next hY n  e33) rfl rfl (ly139 hY) rfl (by omega) (nle rfl) (nle rfl) ?_
    refine r_goto 113 C dX12_readAtom_21 (by decide) ?_
    have h := Option.some.inj h
    subst h
    exact r_vret C dX12_readAtom_113 hr hE
def fX12_P (n : Nat) : Nat → Nat → Int32 → Mu → Option (Mu)
  | 0 => fun _ _ _ => none
  | d + 1 => fun k x1 μ => match k with
    | 0 => bX12_readTruth n (fX12_P n d) x1 μ
    | 1 => bX12_readBoth n (fX12_P n d) x1 μ
    | 2 => bX12_readUnit n (fX12_P n d) x1 μ
    | 3 => bX12_readSum n (fX12_P n d) x1 μ
    | 4 => bX12_readTerm n (fX12_P n d) x1 μ
    | _ => bX12_readAtom n (fX12_P n d) x1 μ
theorem gX12_P {l : Launch} {w : WP} {sh : List Sh} {R : Rf} (hY : LY sh R) (n : Nat) : ∀ d : Nat, (∀ (x1 : Int32) (μ μ' : Mu), fX12_P n d 0 x1 μ = some μ' → CM l w yX12_readTruth cX12_readTruth 2 none (d + 9) 0 0 sh R [.ref (wb w + 139), .int x1] μ none sh R μ') ∧ (∀ (x1 : Int32) (μ μ' : Mu), fX12_P n d 1 x1 μ = some μ' → CM l w yX12_readBoth cX12_readBoth 2 none (d + 9) 0 0 sh R [.ref (wb w + 139), .int x1] μ none sh R μ') ∧ (∀ (x1 : Int32) (μ μ' : Mu), fX12_P n d 2 x1 μ = some μ' → CM l w yX12_readUnit cX12_readUnit 3 none (d + 9) 0 0 sh R [.ref (wb w + 139), .int x1] μ none sh R μ') ∧ (∀ (x1 : Int32) (μ μ' : Mu), fX12_P n d 3 x1 μ = some μ' → CM l w yX12_readSum cX12_readSum 3 none (d + 9) 0 0 sh R [.ref (wb w + 139), .int x1] μ none sh R μ') ∧ (∀ (x1 : Int32) (μ μ' : Mu), fX12_P n d 4 x1 μ = some μ' → CM l w yX12_readTerm cX12_readTerm 2 none (d + 9) 0 0 sh R [.ref (wb w + 139), .int x1] μ none sh R μ') ∧ (∀ (x1 : Int32) (μ μ' : Mu), fX12_P n d 5 x1 μ = some μ' → CM l w yX12_readAtom cX12_readAtom 2 none (d + 9) 0 0 sh R [.ref (wb w + 139), .int x1] μ none sh R μ') := by
  intro d
  induction d with
  | zero => exact ⟨(fun _ _ _ h => by cases h), (fun _ _ _ h => by cases h), (fun _ _ _ h => by cases h), (fun _ _ _ h => by cases h), (fun _ _ _ h => by cases h), (fun _ _ _ h => by cases h)⟩
  | succ d ih =>
    obtain ⟨h0, h1, h2, h3, h4, h5⟩ := ih
    have e : d + 1 + 9 = d + 9 + 1 := by omega
    rw [e]
    exact ⟨fun v0 _ _ h => qX12_readTruth hY n (fX12_P n d) v0 (d + 9) (by omega) h0 h1 h2 h3 h4 h5 h, fun v0 _ _ h => qX12_readBoth hY n (fX12_P n d) v0 (d + 9) (by omega) h0 h1 h2 h3 h4 h5 h, fun v0 _ _ h => qX12_readUnit hY n (fX12_P n d) v0 (d + 9) (by omega) h0 h1 h2 h3 h4 h5 h, fun v0 _ _ h => qX12_readSum hY n (fX12_P n d) v0 (d + 9) (by omega) h0 h1 h2 h3 h4 h5 h, fun v0 _ _ h => qX12_readTerm hY n (fX12_P n d) v0 (d + 9) (by omega) h0 h1 h2 h3 h4 h5 h, fun v0 _ _ h => qX12_readAtom hY n (fX12_P n d) v0 (d + 9) (by omega) h0 h1 h2 h3 h4 h5 h⟩
def fX12_readTruth (n : Nat) (x1 : Int32) (μ : Mu) : Option (Mu) := fX12_P n 60 0 x1 μ
theorem tX12_readTruth {l : Launch} {w : WP} {sh : List Sh} {R : Rf} {μ : Mu} {μ' : Mu} (hY : LY sh R) (n : Nat) (x1 : Int32) (h : fX12_readTruth n x1 μ = some μ') : CM l w yX12_readTruth cX12_readTruth 2 none 69 0 0 sh R [.ref (wb w + 139), .int x1] μ none sh R μ' := (gX12_P hY n 60).1 _ _ _ h
def fX12_readBoth (n : Nat) (x1 : Int32) (μ : Mu) : Option (Mu) := fX12_P n 60 1 x1 μ
theorem tX12_readBoth {l : Launch} {w : WP} {sh : List Sh} {R : Rf} {μ : Mu} {μ' : Mu} (hY : LY sh R) (n : Nat) (x1 : Int32) (h : fX12_readBoth n x1 μ = some μ') : CM l w yX12_readBoth cX12_readBoth 2 none 69 0 0 sh R [.ref (wb w + 139), .int x1] μ none sh R μ' := (gX12_P hY n 60).2.1 _ _ _ h
def fX12_readUnit (n : Nat) (x1 : Int32) (μ : Mu) : Option (Mu) := fX12_P n 60 2 x1 μ
theorem tX12_readUnit {l : Launch} {w : WP} {sh : List Sh} {R : Rf} {μ : Mu} {μ' : Mu} (hY : LY sh R) (n : Nat) (x1 : Int32) (h : fX12_readUnit n x1 μ = some μ') : CM l w yX12_readUnit cX12_readUnit 3 none 69 0 0 sh R [.ref (wb w + 139), .int x1] μ none sh R μ' := (gX12_P hY n 60).2.2.1 _ _ _ h
def fX12_readSum (n : Nat) (x1 : Int32) (μ : Mu) : Option (Mu) := fX12_P n 60 3 x1 μ
theorem tX12_readSum {l : Launch} {w : WP} {sh : List Sh} {R : Rf} {μ : Mu} {μ' : Mu} (hY : LY sh R) (n : Nat) (x1 : Int32) (h : fX12_readSum n x1 μ = some μ') : CM l w yX12_readSum cX12_readSum 3 none 69 0 0 sh R [.ref (wb w + 139), .int x1] μ none sh R μ' := (gX12_P hY n 60).2.2.2.1 _ _ _ h
def fX12_readTerm (n : Nat) (x1 : Int32) (μ : Mu) : Option (Mu) := fX12_P n 60 4 x1 μ
theorem tX12_readTerm {l : Launch} {w : WP} {sh : List Sh} {R : Rf} {μ : Mu} {μ' : Mu} (hY : LY sh R) (n : Nat) (x1 : Int32) (h : fX12_readTerm n x1 μ = some μ') : CM l w yX12_readTerm cX12_readTerm 2 none 69 0 0 sh R [.ref (wb w + 139), .int x1] μ none sh R μ' := (gX12_P hY n 60).2.2.2.2.1 _ _ _ h
def fX12_readAtom (n : Nat) (x1 : Int32) (μ : Mu) : Option (Mu) := fX12_P n 60 5 x1 μ
theorem tX12_readAtom {l : Launch} {w : WP} {sh : List Sh} {R : Rf} {μ : Mu} {μ' : Mu} (hY : LY sh R) (n : Nat) (x1 : Int32) (h : fX12_readAtom n x1 μ = some μ') : CM l w yX12_readAtom cX12_readAtom 2 none 69 0 0 sh R [.ref (wb w + 139), .int x1] μ none sh R μ' := (gX12_P hY n 60).2.2.2.2.2 _ _ _ h
def jX12_readCurrent_93 (n : Nat) (x1 : Int32) (x2 : Int32) (x3 : Int32) (μ : Mu) : Option (Mu) := bnd2 (fX12_takes n 1 9 μ) fun u19 m20 => if (rI m20 139 11) = 0 then (gd (ib (14 + x1) 2242) (gd (ib (24 + x1) 2242) (gd (ib (34 + x1) 2242) (some (wI (wI (wI (wI m20 143 (ix (14 + x1)) x2) 143 (ix (24 + x1)) x3) 143 (ix (34 + x1)) u19) 143 2 ((rI (wI (wI (wI m20 143 (ix (14 + x1)) x2) 143 (ix (24 + x1)) x3) 143 (ix (34 + x1)) u19) 143 2) + 1)))))) else (some m20)
set_option maxRecDepth 100000 in
set_option maxHeartbeats 4000000 in
theorem kX12_readCurrent_93 {Z : ZC} {sh : List Sh} {R : Rf} {μ' : Mu} (C : CX Z cX12_readCurrent 5 RX12) (hR : zR Z = rm 9 0 0) (hY : LY sh R) (n : Nat) (x1 : Int32) (x2 : Int32) (x3 : Int32) (μ : Mu) (h : jX12_readCurrent_93 n x1 x2 x3 μ = some μ') (hr : (zme Z).sig.returnType = none) (hE : zEnd Z (0, 0, sh, R) μ' none) : Wm Z (0, 0, sh, R) μ 93 [(0, .ref (wb (zw Z) + 139)), (1, .int x1), (2, .int x2), (3, .int x3)] [] := by
  unfold jX12_readCurrent_93 at h
  refine r_aload_n C dX12_readCurrent_93 0 rfl ?_
  refine r_iconst C dX12_readCurrent_94 ic_1 ?_
  refine r_bipush C dX12_readCurrent_95 bp_9 ?_
  obtain ⟨u19, m20, e18, h⟩ := bnd2_inv h
  refine r_cVi (As := [.int 1, .int 9]) (rest := []) C hR mlX12_167 dX12_readCurrent_97 (tX12_takes hY n 1 9  e18) rfl rfl (ly139 hY) rfl (nle rfl) (nle rfl) (nle rfl) ?_
  refine r_istore [(4, .int u19), (0, .ref (wb (zw Z) + 139)), (1, .int x1), (2, .int x2), (3, .int x3)] C dX12_readCurrent_100 (by decide) rfl ?_
  refine r_aload_n C dX12_readCurrent_102 1 rfl ?_
  refine r_getI C flX12_114 dX12_readCurrent_103 (ly139 hY) rfl ?_
  refine r_if_eq 110 C dX12_readCurrent_106 (by decide) (fun c21 => ?_) (fun c21 => ?_)
  · have h := (ite_inv h).1 c21
    refine r_aload_n C dX12_readCurrent_110 1 rfl ?_
    refine r_getR C flX12_24 dX12_readCurrent_111 (ly139 hY) rfl (lr139_4 hY) ?_
    refine r_bipush C dX12_readCurrent_114 bp_14 ?_
    refine r_iload_n C dX12_readCurrent_116 2 rfl ?_
    refine r_iadd C dX12_readCurrent_117 ?_
    refine r_iload_n C dX12_readCurrent_118 3 rfl ?_
    obtain ⟨b22, h⟩ := gd_inv h
    refine r_iast C dX12_readCurrent_119 (ly143 hY) b22 ?_
    refine r_aload_n C dX12_readCurrent_120 1 rfl ?_
    refine r_getR C flX12_24 dX12_readCurrent_121 (ly139 hY) rfl (lr139_4 hY) ?_
    refine r_bipush C dX12_readCurrent_124 bp_24 ?_
    refine r_iload_n C dX12_readCurrent_126 2 rfl ?_
    refine r_iadd C dX12_readCurrent_127 ?_
    refine r_iload_n C dX12_readCurrent_128 4 rfl ?_
    obtain ⟨b23, h⟩ := gd_inv h
    refine r_iast C dX12_readCurrent_129 (ly143 hY) b23 ?_
    refine r_aload_n C dX12_readCurrent_130 1 rfl ?_
    refine r_getR C flX12_24 dX12_readCurrent_131 (ly139 hY) rfl (lr139_4 hY) ?_
    refine r_bipush C dX12_readCurrent_134 bp_34 ?_
    refine r_iload_n C dX12_readCurrent_136 2 rfl ?_
    refine r_iadd C dX12_readCurrent_137 ?_
    refine r_iload C dX12_readCurrent_138 0 rfl ?_
    obtain ⟨b24, h⟩ := gd_inv h
    refine r_iast C dX12_readCurrent_140 (ly143 hY) b24 ?_
    refine r_aload_n C dX12_readCurrent_141 1 rfl ?_
    refine r_getR C flX12_24 dX12_readCurrent_142 (ly139 hY) rfl (lr139_4 hY) ?_
    refine r_iconst C dX12_readCurrent_145 ic_2 ?_
    refine r_dup2 C dX12_readCurrent_146 rfl rfl ?_
    refine r_iald C dX12_readCurrent_147 (ly143 hY) (by decide) ?_
    refine r_iconst C dX12_readCurrent_148 ic_1 ?_
    refine r_iadd C dX12_readCurrent_149 ?_
    refine r_iast C dX12_readCurrent_150 (ly143 hY) (by decide) ?_
    have h := Option.some.inj h
    subst h
    exact r_vret C dX12_readCurrent_151 hr hE
  · have h := (ite_inv h).2 c21
    have h := Option.some.inj h
    subst h
    exact r_vret C dX12_readCurrent_109 hr hE
def jX12_readCurrent_66 (n : Nat) (x1 : Int32) (x2 : Int32) (μ : Mu) : Option (Mu) := bnd2 (fX12_takes n 0 ((rI μ 143 1) - 1) μ) fun u12 m13 => bnd2 (fX12_eats n 2 m13) fun u15 m16 => if u15 = 0 then (bnd (fX12_fails n 2 m16) fun m26 => jX12_readCurrent_93 n x1 x2 u12 m26) else (jX12_readCurrent_93 n x1 x2 u12 m16)
set_option maxRecDepth 100000 in
set_option maxHeartbeats 4000000 in
theorem kX12_readCurrent_66 {Z : ZC} {sh : List Sh} {R : Rf} {μ' : Mu} (C : CX Z cX12_readCurrent 5 RX12) (hR : zR Z = rm 9 0 0) (hY : LY sh R) (n : Nat) (x1 : Int32) (x2 : Int32) (μ : Mu) (h : jX12_readCurrent_66 n x1 x2 μ = some μ') (hr : (zme Z).sig.returnType = none) (hE : zEnd Z (0, 0, sh, R) μ' none) : Wm Z (0, 0, sh, R) μ 66 [(0, .ref (wb (zw Z) + 139)), (1, .int x1), (2, .int x2)] [] := by
  unfold jX12_readCurrent_66 at h
  refine r_aload_n C dX12_readCurrent_66 0 rfl ?_
  refine r_iconst C dX12_readCurrent_67 ic_0 ?_
  refine r_aload_n C dX12_readCurrent_68 0 rfl ?_
  refine r_getR C flX12_24 dX12_readCurrent_69 (ly139 hY) rfl (lr139_4 hY) ?_
  refine r_iconst C dX12_readCurrent_72 ic_1 ?_
  refine r_iald C dX12_readCurrent_73 (ly143 hY) (by decide) ?_
  refine r_iconst C dX12_readCurrent_74 ic_1 ?_
  refine r_isub C dX12_readCurrent_75 ?_
  obtain ⟨u12, m13, e11, h⟩ := bnd2_inv h
  refine r_cVi (As := [.int 0, .int ((rI μ 143 1) - 1)]) (rest := []) C hR mlX12_167 dX12_readCurrent_76 (tX12_takes hY n 0 ((rI μ 143 1) - 1)  e11) rfl rfl (ly139 hY) rfl (nle rfl) (nle rfl) (nle rfl) ?_
  refine r_istore_n [(3, .int u12), (0, .ref (wb (zw Z) + 139)), (1, .int x1), (2, .int x2)] C dX12_readCurrent_79 rfl (by decide) rfl ?_
  refine r_aload_n C dX12_readCurrent_80 1 rfl ?_
  refine r_iconst C dX12_readCurrent_81 ic_2 ?_
  obtain ⟨u15, m16, e14, h⟩ := bnd2_inv h
  refine r_cVi (As := [.int 2]) (rest := []) C hR mlX12_149 dX12_readCurrent_82 (tX12_eats hY n 2  e14) rfl rfl (ly139 hY) rfl (nle rfl) (nle rfl) (nle rfl) ?_
  refine r_if_ne 93 C dX12_readCurrent_85 (by decide) (fun c17 => ?_) (fun c17 => ?_)
  · have h := (ite_inv h).2 c17
    refine r_sub [(0, .ref (wb (zw Z) + 139)), (1, .int x1), (2, .int x2), (3, .int u12)] [1, 2, 3, 0] rfl ?_
    exact kX12_readCurrent_93 C hR hY n   x1 x2 u12 m16 h hr hE
  · have h := (ite_inv h).1 c17
    refine r_aload_n C dX12_readCurrent_88 1 rfl ?_
    refine r_iconst C dX12_readCurrent_89 ic_2 ?_
    obtain ⟨m26, e25, h⟩ := bnd_inv h
    refine r_cVv (As := [.int 2]) (rest := []) C hR mlX12_126 dX12_readCurrent_90 (tX12_fails hY n 2  e25) rfl rfl (ly139 hY) rfl (nle rfl) (nle rfl) (nle rfl) ?_
    refine r_sub [(0, .ref (wb (zw Z) + 139)), (1, .int x1), (2, .int x2), (3, .int u12)] [1, 2, 3, 0] rfl ?_
    exact kX12_readCurrent_93 C hR hY n   x1 x2 u12 m26 h hr hE
def jX12_readCurrent_18 (n : Nat) (x1 : Int32) (μ : Mu) : Option (Mu) := if (rI μ 139 11) = 0 then (bnd (fX12_next n μ) fun m4 => bnd2 (fX12_takes n 0 ((rI m4 143 1) - 1) m4) fun u6 m7 => bnd (fX12_is n 23 m7) fun u9 => if u9 = 0 then (jX12_readCurrent_66 n x1 u6 m7) else (if (rI m7 139 10) = u6 then (bnd (fX12_fails n 3 m7) fun m29 => jX12_readCurrent_66 n x1 u6 m29) else (jX12_readCurrent_66 n x1 u6 m7))) else (some μ)
set_option maxRecDepth 100000 in
set_option maxHeartbeats 4000000 in
theorem kX12_readCurrent_18 {Z : ZC} {sh : List Sh} {R : Rf} {μ' : Mu} (C : CX Z cX12_readCurrent 5 RX12) (hR : zR Z = rm 9 0 0) (hY : LY sh R) (n : Nat) (x1 : Int32) (μ : Mu) (h : jX12_readCurrent_18 n x1 μ = some μ') (hr : (zme Z).sig.returnType = none) (hE : zEnd Z (0, 0, sh, R) μ' none) : Wm Z (0, 0, sh, R) μ 18 [(0, .ref (wb (zw Z) + 139)), (1, .int x1)] [] := by
  unfold jX12_readCurrent_18 at h
  refine r_aload_n C dX12_readCurrent_18 0 rfl ?_
  refine r_getI C flX12_114 dX12_readCurrent_19 (ly139 hY) rfl ?_
  refine r_if_eq 26 C dX12_readCurrent_22 (by decide) (fun c2 => ?_) (fun c2 => ?_)
  · have h := (ite_inv h).1 c2
    refine r_aload_n C dX12_readCurrent_26 0 rfl ?_
    obtain ⟨m4, e3, h⟩ := bnd_inv h
    refine r_cVv (As := []) (rest := []) C hR mlX12_123 dX12_readCurrent_27 (tX12_next hY n  e3) rfl rfl (ly139 hY) rfl (nle rfl) (nle rfl) (nle rfl) ?_
    refine r_aload_n C dX12_readCurrent_30 0 rfl ?_
    refine r_iconst C dX12_readCurrent_31 ic_0 ?_
    refine r_aload_n C dX12_readCurrent_32 0 rfl ?_
    refine r_getR C flX12_24 dX12_readCurrent_33 (ly139 hY) rfl (lr139_4 hY) ?_
    refine r_iconst C dX12_readCurrent_36 ic_1 ?_
    refine r_iald C dX12_readCurrent_37 (ly143 hY) (by decide) ?_
    refine r_iconst C dX12_readCurrent_38 ic_1 ?_
    refine r_isub C dX12_readCurrent_39 ?_
    obtain ⟨u6, m7, e5, h⟩ := bnd2_inv h
    refine r_cVi (As := [.int 0, .int ((rI m4 143 1) - 1)]) (rest := []) C hR mlX12_167 dX12_readCurrent_40 (tX12_takes hY n 0 ((rI m4 143 1) - 1)  e5) rfl rfl (ly139 hY) rfl (nle rfl) (nle rfl) (nle rfl) ?_
    refine r_istore_n [(2, .int u6), (0, .ref (wb (zw Z) + 139)), (1, .int x1)] C dX12_readCurrent_43 rfl (by decide) rfl ?_
    refine r_aload_n C dX12_readCurrent_44 1 rfl ?_
    refine r_bipush C dX12_readCurrent_45 bp_23 ?_
    obtain ⟨u9, e8, h⟩ := bnd_inv h
    refine r_cVi (As := [.int 23]) (rest := []) C hR mlX12_120 dX12_readCurrent_47 (tX12_is hY n 23  e8) rfl rfl (ly139 hY) rfl (nle rfl) (nle rfl) (nle rfl) ?_
    refine r_if_eq 66 C dX12_readCurrent_50 (by decide) (fun c10 => ?_) (fun c10 => ?_)
    · have h := (ite_inv h).1 c10
      refine r_sub [(0, .ref (wb (zw Z) + 139)), (1, .int x1), (2, .int u6)] [1, 2, 0] rfl ?_
      exact kX12_readCurrent_66 C hR hY n   x1 u6 m7 h hr hE
    · have h := (ite_inv h).2 c10
      refine r_aload_n C dX12_readCurrent_53 1 rfl ?_
      refine r_getI C flX12_109 dX12_readCurrent_54 (ly139 hY) rfl ?_
      refine r_iload_n C dX12_readCurrent_57 0 rfl ?_
      refine r_icmp_ne 66 C dX12_readCurrent_58 (by decide) (fun c27 => ?_) (fun c27 => ?_)
      · have h := (ite_inv h).2 c27
        refine r_sub [(0, .ref (wb (zw Z) + 139)), (1, .int x1), (2, .int u6)] [1, 2, 0] rfl ?_
        exact kX12_readCurrent_66 C hR hY n   x1 u6 m7 h hr hE
      · have h := (ite_inv h).1 c27
        refine r_aload_n C dX12_readCurrent_61 1 rfl ?_
        refine r_iconst C dX12_readCurrent_62 ic_3 ?_
        obtain ⟨m29, e28, h⟩ := bnd_inv h
        refine r_cVv (As := [.int 3]) (rest := []) C hR mlX12_126 dX12_readCurrent_63 (tX12_fails hY n 3  e28) rfl rfl (ly139 hY) rfl (nle rfl) (nle rfl) (nle rfl) ?_
        refine r_sub [(0, .ref (wb (zw Z) + 139)), (1, .int x1), (2, .int u6)] [1, 2, 0] rfl ?_
        exact kX12_readCurrent_66 C hR hY n   x1 u6 m29 h hr hE
  · have h := (ite_inv h).2 c2
    have h := Option.some.inj h
    subst h
    exact r_vret C dX12_readCurrent_25 hr hE
def fX12_readCurrent (n : Nat)  (μ : Mu) : Option (Mu) := if (rI μ 143 2) = 10 then (bnd (fX12_fails n 4 μ) fun m31 => jX12_readCurrent_18 n (rI μ 143 2) m31) else (jX12_readCurrent_18 n (rI μ 143 2) μ)
set_option maxRecDepth 100000 in
set_option maxHeartbeats 4000000 in
theorem tX12_readCurrent {l : Launch} {w : WP} {sh : List Sh} {R : Rf} {μ : Mu} {μ' : Mu} (hY : LY sh R) (n : Nat)   (h : fX12_readCurrent n μ = some μ') : CM l w yX12_readCurrent cX12_readCurrent 5 none 9 0 0 sh R [.ref (wb w + 139)] μ none sh R μ' := by
  refine CM.of (plainFor_of_name pf_X12) (Nat.le_of_ble_eq_true rfl) fun Z C hr _ hR hw hl hE => ?_
  subst hw; subst hl
  have C : CX Z cX12_readCurrent 5 RX12 := C
  show Wm Z (0, 0, sh, R) μ 0 [(0, .ref (wb (zw Z) + 139))] []
  unfold fX12_readCurrent at h
  refine r_aload_n C dX12_readCurrent_0 0 rfl ?_
  refine r_getR C flX12_24 dX12_readCurrent_1 (ly139 hY) rfl (lr139_4 hY) ?_
  refine r_iconst C dX12_readCurrent_4 ic_2 ?_
  refine r_iald C dX12_readCurrent_5 (ly143 hY) (by decide) ?_
  refine r_istore_n [(1, .int (rI μ 143 2)), (0, .ref (wb (zw Z) + 139))] C dX12_readCurrent_6 rfl (by decide) rfl ?_
  refine r_iload_n C dX12_readCurrent_7 0 rfl ?_
  refine r_bipush C dX12_readCurrent_8 bp_10 ?_
  refine r_icmp_ne 18 C dX12_readCurrent_10 (by decide) (fun c1 => ?_) (fun c1 => ?_)
  · have h := (ite_inv h).2 c1
    refine r_sub [(0, .ref (wb (zw Z) + 139)), (1, .int (rI μ 143 2))] [1, 0] rfl ?_
    exact kX12_readCurrent_18 C hR hY n   (rI μ 143 2) μ h hr hE
  · have h := (ite_inv h).1 c1
    refine r_aload_n C dX12_readCurrent_13 1 rfl ?_
    refine r_iconst C dX12_readCurrent_14 ic_4 ?_
    obtain ⟨m31, e30, h⟩ := bnd_inv h
    refine r_cVv (As := [.int 4]) (rest := []) C hR mlX12_126 dX12_readCurrent_15 (tX12_fails hY n 4  e30) rfl rfl (ly139 hY) rfl (nle rfl) (nle rfl) (nle rfl) ?_
    refine r_sub [(0, .ref (wb (zw Z) + 139)), (1, .int (rI μ 143 2))] [1, 0] rfl ?_
    exact kX12_readCurrent_18 C hR hY n   (rI μ 143 2) m31 h hr hE
def jX12_readPerson_63 (n : Nat) (x1 : Int32) (μ : Mu) : Option ((Mu) ⊕ (Mu)) := bnd2 (fX12_eats n 4 μ) fun u11 m12 => if u11 = 0 then (bnd2 (fX12_eats n 5 m12) fun u15 m16 => if u15 = 0 then (some (.inl m16)) else (gd (ib (50 + x1) 2242) (some (.inl (wI m16 143 (ix (50 + x1)) 1))))) else (bnd2 (fX12_takes n 0 ((rI m12 143 1) - 1) m12) fun u20 m21 => gd (ib (44 + x1) 2242) (some (.inl (wI m21 143 (ix (44 + x1)) u20))))
set_option maxRecDepth 100000 in
set_option maxHeartbeats 4000000 in
theorem kX12_readPerson_63 {Z : ZC} {sh : List Sh} {R : Rf} {o : (Mu) ⊕ (Mu)} (C : CX Z cX12_readPerson 2 RX12) (hR : zR Z = rm 9 0 0) (hY : LY sh R) (n : Nat) (x1 : Int32) (μ : Mu) (h : jX12_readPerson_63 n x1 μ = some o) (kin : ∀ (μ : Mu), o = .inl μ → Wm Z (0, 0, sh, R) μ 40 [(0, .ref (wb (zw Z) + 139)), (1, .int x1)] []) (kex0 : ∀ (μ : Mu), o = .inr μ → Wm Z (0, 0, sh, R) μ 117 [(0, .ref (wb (zw Z) + 139))] []) : Wm Z (0, 0, sh, R) μ 63 [(0, .ref (wb (zw Z) + 139)), (1, .int x1)] [] := by
  unfold jX12_readPerson_63 at h
  refine r_aload_n C dX12_readPerson_63 0 rfl ?_
  refine r_iconst C dX12_readPerson_64 ic_4 ?_
  obtain ⟨u11, m12, e10, h⟩ := bnd2_inv h
  refine r_cVi (As := [.int 4]) (rest := []) C hR mlX12_149 dX12_readPerson_65 (tX12_eats hY n 4  e10) rfl rfl (ly139 hY) rfl (nle rfl) (nle rfl) (nle rfl) ?_
  refine r_if_eq 96 C dX12_readPerson_68 (by decide) (fun c13 => ?_) (fun c13 => ?_)
  · have h := (ite_inv h).1 c13
    refine r_aload_n C dX12_readPerson_96 0 rfl ?_
    refine r_iconst C dX12_readPerson_97 ic_5 ?_
    obtain ⟨u15, m16, e14, h⟩ := bnd2_inv h
    refine r_cVi (As := [.int 5]) (rest := []) C hR mlX12_149 dX12_readPerson_98 (tX12_eats hY n 5  e14) rfl rfl (ly139 hY) rfl (nle rfl) (nle rfl) (nle rfl) ?_
    refine r_if_eq 40 C dX12_readPerson_101 (by decide) (fun c17 => ?_) (fun c17 => ?_)
    · have h := (ite_inv h).1 c17
      exact kin m16 (Option.some.inj h).symm
    · have h := (ite_inv h).2 c17
      refine r_aload_n C dX12_readPerson_104 0 rfl ?_
      refine r_getR C flX12_24 dX12_readPerson_105 (ly139 hY) rfl (lr139_4 hY) ?_
      refine r_bipush C dX12_readPerson_108 bp_50 ?_
      refine r_iload_n C dX12_readPerson_110 1 rfl ?_
      refine r_iadd C dX12_readPerson_111 ?_
      refine r_iconst C dX12_readPerson_112 ic_1 ?_
      obtain ⟨b18, h⟩ := gd_inv h
      refine r_iast C dX12_readPerson_113 (ly143 hY) b18 ?_
      refine r_goto 40 C dX12_readPerson_114 (by decide) ?_
      exact kin (wI m16 143 (ix (50 + x1)) 1) (Option.some.inj h).symm
  · have h := (ite_inv h).2 c13
    refine r_aload_n C dX12_readPerson_71 0 rfl ?_
    refine r_getR C flX12_24 dX12_readPerson_72 (ly139 hY) rfl (lr139_4 hY) ?_
    refine r_bipush C dX12_readPerson_75 bp_44 ?_
    refine r_iload_n C dX12_readPerson_77 1 rfl ?_
    refine r_iadd C dX12_readPerson_78 ?_
    refine r_aload_n C dX12_readPerson_79 0 rfl ?_
    refine r_iconst C dX12_readPerson_80 ic_0 ?_
    refine r_aload_n C dX12_readPerson_81 0 rfl ?_
    refine r_getR C flX12_24 dX12_readPerson_82 (ly139 hY) rfl (lr139_4 hY) ?_
    refine r_iconst C dX12_readPerson_85 ic_1 ?_
    refine r_iald C dX12_readPerson_86 (ly143 hY) (by decide) ?_
    refine r_iconst C dX12_readPerson_87 ic_1 ?_
    refine r_isub C dX12_readPerson_88 ?_
    obtain ⟨u20, m21, e19, h⟩ := bnd2_inv h
    refine r_cVi (As := [.int 0, .int ((rI m12 143 1) - 1)]) (rest := [.int (44 + x1), .ref (wb (zw Z) + 143)]) C hR mlX12_167 dX12_readPerson_89 (tX12_takes hY n 0 ((rI m12 143 1) - 1)  e19) rfl rfl (ly139 hY) rfl (nle rfl) (nle rfl) (nle rfl) ?_
    obtain ⟨b22, h⟩ := gd_inv h
    refine r_iast C dX12_readPerson_92 (ly143 hY) b22 ?_
    refine r_goto 40 C dX12_readPerson_93 (by decide) ?_
    exact kin (wI m21 143 (ix (44 + x1)) u20) (Option.some.inj h).symm
def sX12_readPerson_40 (n : Nat) (x1 : Int32) : Mu → Option ((Mu) ⊕ (Mu)) := fun q => match q with | μ => if (rI μ 139 11) = 0 then (bnd (fX12_is n 4 μ) fun u8 => if u8 = 0 then (bnd (fX12_is n 5 μ) fun u24 => if u24 = 0 then (some (.inr μ)) else (jX12_readPerson_63 n x1 μ)) else (jX12_readPerson_63 n x1 μ)) else (some (.inr μ))
set_option maxRecDepth 100000 in
set_option maxHeartbeats 4000000 in
theorem lX12_readPerson_40 {Z : ZC} {sh : List Sh} {R : Rf} {o : (Mu) ⊕ (Mu)} (C : CX Z cX12_readPerson 2 RX12) (hR : zR Z = rm 9 0 0) (hY : LY sh R) (n : Nat) (x1 : Int32) (μ : Mu) (h : sX12_readPerson_40 n x1 μ = some o) (kin : ∀ (μ : Mu), o = .inl μ → Wm Z (0, 0, sh, R) μ 40 [(0, .ref (wb (zw Z) + 139)), (1, .int x1)] []) (kex0 : ∀ (μ : Mu), o = .inr μ → Wm Z (0, 0, sh, R) μ 117 [(0, .ref (wb (zw Z) + 139))] []) : Wm Z (0, 0, sh, R) μ 40 [(0, .ref (wb (zw Z) + 139)), (1, .int x1)] [] := by
  unfold sX12_readPerson_40 at h
  refine r_aload_n C dX12_readPerson_40 0 rfl ?_
  refine r_getI C flX12_114 dX12_readPerson_41 (ly139 hY) rfl ?_
  refine r_if_ne 117 C dX12_readPerson_44 (by decide) (fun c6 => ?_) (fun c6 => ?_)
  · have h := (ite_inv h).2 c6
    refine r_sub [(0, .ref (wb (zw Z) + 139))] [0] rfl ?_
    exact kex0 μ (Option.some.inj h).symm
  · have h := (ite_inv h).1 c6
    refine r_aload_n C dX12_readPerson_47 0 rfl ?_
    refine r_iconst C dX12_readPerson_48 ic_4 ?_
    obtain ⟨u8, e7, h⟩ := bnd_inv h
    refine r_cVi (As := [.int 4]) (rest := []) C hR mlX12_120 dX12_readPerson_49 (tX12_is hY n 4  e7) rfl rfl (ly139 hY) rfl (nle rfl) (nle rfl) (nle rfl) ?_
    refine r_if_ne 63 C dX12_readPerson_52 (by decide) (fun c9 => ?_) (fun c9 => ?_)
    · have h := (ite_inv h).2 c9
      exact kX12_readPerson_63 C hR hY n   x1 μ h kin kex0
    · have h := (ite_inv h).1 c9
      refine r_aload_n C dX12_readPerson_55 0 rfl ?_
      refine r_iconst C dX12_readPerson_56 ic_5 ?_
      obtain ⟨u24, e23, h⟩ := bnd_inv h
      refine r_cVi (As := [.int 5]) (rest := []) C hR mlX12_120 dX12_readPerson_57 (tX12_is hY n 5  e23) rfl rfl (ly139 hY) rfl (nle rfl) (nle rfl) (nle rfl) ?_
      refine r_if_eq 117 C dX12_readPerson_60 (by decide) (fun c25 => ?_) (fun c25 => ?_)
      · have h := (ite_inv h).1 c25
        refine r_sub [(0, .ref (wb (zw Z) + 139))] [0] rfl ?_
        exact kex0 μ (Option.some.inj h).symm
      · have h := (ite_inv h).2 c25
        exact kX12_readPerson_63 C hR hY n   x1 μ h kin kex0
def jX12_readPerson_117 (n : Nat)  (μ : Mu) : Option (Mu) := if (rI μ 139 11) = 0 then (some (wI μ 143 3 ((rI μ 143 3) + 1))) else (some μ)
set_option maxRecDepth 100000 in
set_option maxHeartbeats 4000000 in
theorem kX12_readPerson_117 {Z : ZC} {sh : List Sh} {R : Rf} {μ' : Mu} (C : CX Z cX12_readPerson 2 RX12) (hR : zR Z = rm 9 0 0) (hY : LY sh R) (n : Nat)  (μ : Mu) (h : jX12_readPerson_117 n μ = some μ') (hr : (zme Z).sig.returnType = none) (hE : zEnd Z (0, 0, sh, R) μ' none) : Wm Z (0, 0, sh, R) μ 117 [(0, .ref (wb (zw Z) + 139))] [] := by
  unfold jX12_readPerson_117 at h
  refine r_aload_n C dX12_readPerson_117 0 rfl ?_
  refine r_getI C flX12_114 dX12_readPerson_118 (ly139 hY) rfl ?_
  refine r_if_ne 134 C dX12_readPerson_121 (by decide) (fun c28 => ?_) (fun c28 => ?_)
  · have h := (ite_inv h).2 c28
    have h := Option.some.inj h
    subst h
    exact r_vret C dX12_readPerson_134 hr hE
  · have h := (ite_inv h).1 c28
    refine r_aload_n C dX12_readPerson_124 0 rfl ?_
    refine r_getR C flX12_24 dX12_readPerson_125 (ly139 hY) rfl (lr139_4 hY) ?_
    refine r_iconst C dX12_readPerson_128 ic_3 ?_
    refine r_dup2 C dX12_readPerson_129 rfl rfl ?_
    refine r_iald C dX12_readPerson_130 (ly143 hY) (by decide) ?_
    refine r_iconst C dX12_readPerson_131 ic_1 ?_
    refine r_iadd C dX12_readPerson_132 ?_
    refine r_iast C dX12_readPerson_133 (ly143 hY) (by decide) ?_
    have h := Option.some.inj h
    subst h
    exact r_vret C dX12_readPerson_134 hr hE
def jX12_readPerson_18 (n : Nat) (x1 : Int32) (μ : Mu) : Option (Mu) := if (rI μ 139 11) = 0 then (bnd (fX12_next n μ) fun m4 => gd (ib (44 + x1) 2242) (bnd (lp n (sX12_readPerson_40 n x1) (wI m4 143 (ix (44 + x1)) (-1))) fun q => match q with | m26 => jX12_readPerson_117 n m26)) else (some μ)
set_option maxRecDepth 100000 in
set_option maxHeartbeats 4000000 in
theorem kX12_readPerson_18 {Z : ZC} {sh : List Sh} {R : Rf} {μ' : Mu} (C : CX Z cX12_readPerson 2 RX12) (hR : zR Z = rm 9 0 0) (hY : LY sh R) (n : Nat) (x1 : Int32) (μ : Mu) (h : jX12_readPerson_18 n x1 μ = some μ') (hr : (zme Z).sig.returnType = none) (hE : zEnd Z (0, 0, sh, R) μ' none) : Wm Z (0, 0, sh, R) μ 18 [(0, .ref (wb (zw Z) + 139)), (1, .int x1)] [] := by
  unfold jX12_readPerson_18 at h
  refine r_aload_n C dX12_readPerson_18 0 rfl ?_
  refine r_getI C flX12_114 dX12_readPerson_19 (ly139 hY) rfl ?_
  refine r_if_eq 26 C dX12_readPerson_22 (by decide) (fun c2 => ?_) (fun c2 => ?_)
  · have h := (ite_inv h).1 c2
    refine r_aload_n C dX12_readPerson_26 0 rfl ?_
    obtain ⟨m4, e3, h⟩ := bnd_inv h
    refine r_cVv (As := []) (rest := []) C hR mlX12_123 dX12_readPerson_27 (tX12_next hY n  e3) rfl rfl (ly139 hY) rfl (nle rfl) (nle rfl) (nle rfl) ?_
    refine r_aload_n C dX12_readPerson_30 0 rfl ?_
    refine r_getR C flX12_24 dX12_readPerson_31 (ly139 hY) rfl (lr139_4 hY) ?_
    refine r_bipush C dX12_readPerson_34 bp_44 ?_
    refine r_iload_n C dX12_readPerson_36 1 rfl ?_
    refine r_iadd C dX12_readPerson_37 ?_
    refine r_iconst C dX12_readPerson_38 ic_m1 ?_
    obtain ⟨b5, h⟩ := gd_inv h
    refine r_iast C dX12_readPerson_39 (ly143 hY) b5 ?_
    obtain ⟨m26, e27, h⟩ := bnd_inv h
    refine lp_all (sX12_readPerson_40 n x1) (fun q => match q with | ν => Wm Z (0, 0, sh, R) (ν) 40 [(0, .ref (wb (zw Z) + 139)), (1, .int x1)] []) (fun q => match q with | ν => Wm Z (0, 0, sh, R) (ν) 117 [(0, .ref (wb (zw Z) + 139))] []) (fun q o h kin kex => ?_) n (wI m4 143 (ix (44 + x1)) (-1)) m26 e27 ?_
    · exact lX12_readPerson_40 C hR hY n   x1 q h (fun ν e => kin ν e) (fun ν e => kex (ν) e)
    show Wm Z (0, 0, sh, R) m26 117 [(0, .ref (wb (zw Z) + 139))] []
    exact kX12_readPerson_117 C hR hY n   m26 h hr hE
  · have h := (ite_inv h).2 c2
    have h := Option.some.inj h
    subst h
    exact r_vret C dX12_readPerson_25 hr hE
def fX12_readPerson (n : Nat)  (μ : Mu) : Option (Mu) := if (rI μ 143 3) = 6 then (bnd (fX12_fails n 4 μ) fun m30 => jX12_readPerson_18 n (rI μ 143 3) m30) else (jX12_readPerson_18 n (rI μ 143 3) μ)
set_option maxRecDepth 100000 in
set_option maxHeartbeats 4000000 in
theorem tX12_readPerson {l : Launch} {w : WP} {sh : List Sh} {R : Rf} {μ : Mu} {μ' : Mu} (hY : LY sh R) (n : Nat)   (h : fX12_readPerson n μ = some μ') : CM l w yX12_readPerson cX12_readPerson 2 none 9 0 0 sh R [.ref (wb w + 139)] μ none sh R μ' := by
  refine CM.of (plainFor_of_name pf_X12) (Nat.le_of_ble_eq_true rfl) fun Z C hr _ hR hw hl hE => ?_
  subst hw; subst hl
  have C : CX Z cX12_readPerson 2 RX12 := C
  show Wm Z (0, 0, sh, R) μ 0 [(0, .ref (wb (zw Z) + 139))] []
  unfold fX12_readPerson at h
  refine r_aload_n C dX12_readPerson_0 0 rfl ?_
  refine r_getR C flX12_24 dX12_readPerson_1 (ly139 hY) rfl (lr139_4 hY) ?_
  refine r_iconst C dX12_readPerson_4 ic_3 ?_
  refine r_iald C dX12_readPerson_5 (ly143 hY) (by decide) ?_
  refine r_istore_n [(1, .int (rI μ 143 3)), (0, .ref (wb (zw Z) + 139))] C dX12_readPerson_6 rfl (by decide) rfl ?_
  refine r_iload_n C dX12_readPerson_7 0 rfl ?_
  refine r_bipush C dX12_readPerson_8 bp_6 ?_
  refine r_icmp_ne 18 C dX12_readPerson_10 (by decide) (fun c1 => ?_) (fun c1 => ?_)
  · have h := (ite_inv h).2 c1
    refine r_sub [(0, .ref (wb (zw Z) + 139)), (1, .int (rI μ 143 3))] [1, 0] rfl ?_
    exact kX12_readPerson_18 C hR hY n   (rI μ 143 3) μ h hr hE
  · have h := (ite_inv h).1 c1
    refine r_aload_n C dX12_readPerson_13 1 rfl ?_
    refine r_iconst C dX12_readPerson_14 ic_4 ?_
    obtain ⟨m30, e29, h⟩ := bnd_inv h
    refine r_cVv (As := [.int 4]) (rest := []) C hR mlX12_126 dX12_readPerson_15 (tX12_fails hY n 4  e29) rfl rfl (ly139 hY) rfl (nle rfl) (nle rfl) (nle rfl) ?_
    refine r_sub [(0, .ref (wb (zw Z) + 139)), (1, .int (rI μ 143 3))] [1, 0] rfl ?_
    exact kX12_readPerson_18 C hR hY n   (rI μ 143 3) m30 h hr hE
def jX12_readShell_70 (n : Nat) (x1 : Int32) (x2 : Int32) (s0 : Int32) (μ : Mu) : Option (Mu) := if (rI μ 139 11) = 0 then (gd (ib (56 + x1) 2242) (gd (ib (68 + x1) 2242) (some (wI (wI (wI μ 143 (ix (56 + x1)) x2) 143 (ix (68 + x1)) s0) 143 4 ((rI (wI (wI μ 143 (ix (56 + x1)) x2) 143 (ix (68 + x1)) s0) 143 4) + 1))))) else (some μ)
set_option maxRecDepth 100000 in
set_option maxHeartbeats 4000000 in
theorem kX12_readShell_70 {Z : ZC} {sh : List Sh} {R : Rf} {μ' : Mu} (C : CX Z cX12_readShell 4 RX12) (hR : zR Z = rm 9 0 0) (hY : LY sh R) (n : Nat) (x1 : Int32) (x2 : Int32) (s0 : Int32) (μ : Mu) (h : jX12_readShell_70 n x1 x2 s0 μ = some μ') (hr : (zme Z).sig.returnType = none) (hE : zEnd Z (0, 0, sh, R) μ' none) : Wm Z (0, 0, sh, R) μ 70 [(0, .ref (wb (zw Z) + 139)), (1, .int x1), (2, .int x2)] [.int s0] := by
  unfold jX12_readShell_70 at h
  refine r_istore_n [(3, .int s0), (0, .ref (wb (zw Z) + 139)), (1, .int x1), (2, .int x2)] C dX12_readShell_70 rfl (by decide) rfl ?_
  refine r_aload_n C dX12_readShell_71 1 rfl ?_
  refine r_getI C flX12_114 dX12_readShell_72 (ly139 hY) rfl ?_
  refine r_if_eq 79 C dX12_readShell_75 (by decide) (fun c12 => ?_) (fun c12 => ?_)
  · have h := (ite_inv h).1 c12
    refine r_aload_n C dX12_readShell_79 1 rfl ?_
    refine r_getR C flX12_24 dX12_readShell_80 (ly139 hY) rfl (lr139_4 hY) ?_
    refine r_bipush C dX12_readShell_83 bp_56 ?_
    refine r_iload_n C dX12_readShell_85 2 rfl ?_
    refine r_iadd C dX12_readShell_86 ?_
    refine r_iload_n C dX12_readShell_87 3 rfl ?_
    obtain ⟨b13, h⟩ := gd_inv h
    refine r_iast C dX12_readShell_88 (ly143 hY) b13 ?_
    refine r_aload_n C dX12_readShell_89 1 rfl ?_
    refine r_getR C flX12_24 dX12_readShell_90 (ly139 hY) rfl (lr139_4 hY) ?_
    refine r_bipush C dX12_readShell_93 bp_68 ?_
    refine r_iload_n C dX12_readShell_95 2 rfl ?_
    refine r_iadd C dX12_readShell_96 ?_
    refine r_iload_n C dX12_readShell_97 0 rfl ?_
    obtain ⟨b14, h⟩ := gd_inv h
    refine r_iast C dX12_readShell_98 (ly143 hY) b14 ?_
    refine r_aload_n C dX12_readShell_99 1 rfl ?_
    refine r_getR C flX12_24 dX12_readShell_100 (ly139 hY) rfl (lr139_4 hY) ?_
    refine r_iconst C dX12_readShell_103 ic_4 ?_
    refine r_dup2 C dX12_readShell_104 rfl rfl ?_
    refine r_iald C dX12_readShell_105 (ly143 hY) (by decide) ?_
    refine r_iconst C dX12_readShell_106 ic_1 ?_
    refine r_iadd C dX12_readShell_107 ?_
    refine r_iast C dX12_readShell_108 (ly143 hY) (by decide) ?_
    have h := Option.some.inj h
    subst h
    exact r_vret C dX12_readShell_109 hr hE
  · have h := (ite_inv h).2 c12
    have h := Option.some.inj h
    subst h
    exact r_vret C dX12_readShell_78 hr hE
def jX12_readShell_18 (n : Nat) (x1 : Int32) (μ : Mu) : Option (Mu) := if (rI μ 139 11) = 0 then (bnd (fX12_next n μ) fun m4 => bnd2 (fX12_takes n 0 ((rI m4 143 1) - 1) m4) fun u6 m7 => bnd2 (fX12_eats n 7 m7) fun u9 m10 => if u9 = 0 then (jX12_readShell_70 n x1 u6 (-1) m10) else (bnd2 (fX12_takes n 0 ((rI m10 143 3) - 1) m10) fun u16 m17 => jX12_readShell_70 n x1 u6 u16 m17)) else (some μ)
set_option maxRecDepth 100000 in
set_option maxHeartbeats 4000000 in
theorem kX12_readShell_18 {Z : ZC} {sh : List Sh} {R : Rf} {μ' : Mu} (C : CX Z cX12_readShell 4 RX12) (hR : zR Z = rm 9 0 0) (hY : LY sh R) (n : Nat) (x1 : Int32) (μ : Mu) (h : jX12_readShell_18 n x1 μ = some μ') (hr : (zme Z).sig.returnType = none) (hE : zEnd Z (0, 0, sh, R) μ' none) : Wm Z (0, 0, sh, R) μ 18 [(0, .ref (wb (zw Z) + 139)), (1, .int x1)] [] := by
  unfold jX12_readShell_18 at h
  refine r_aload_n C dX12_readShell_18 0 rfl ?_
  refine r_getI C flX12_114 dX12_readShell_19 (ly139 hY) rfl ?_
  refine r_if_eq 26 C dX12_readShell_22 (by decide) (fun c2 => ?_) (fun c2 => ?_)
  · have h := (ite_inv h).1 c2
    refine r_aload_n C dX12_readShell_26 0 rfl ?_
    obtain ⟨m4, e3, h⟩ := bnd_inv h
    refine r_cVv (As := []) (rest := []) C hR mlX12_123 dX12_readShell_27 (tX12_next hY n  e3) rfl rfl (ly139 hY) rfl (nle rfl) (nle rfl) (nle rfl) ?_
    refine r_aload_n C dX12_readShell_30 0 rfl ?_
    refine r_iconst C dX12_readShell_31 ic_0 ?_
    refine r_aload_n C dX12_readShell_32 0 rfl ?_
    refine r_getR C flX12_24 dX12_readShell_33 (ly139 hY) rfl (lr139_4 hY) ?_
    refine r_iconst C dX12_readShell_36 ic_1 ?_
    refine r_iald C dX12_readShell_37 (ly143 hY) (by decide) ?_
    refine r_iconst C dX12_readShell_38 ic_1 ?_
    refine r_isub C dX12_readShell_39 ?_
    obtain ⟨u6, m7, e5, h⟩ := bnd2_inv h
    refine r_cVi (As := [.int 0, .int ((rI m4 143 1) - 1)]) (rest := []) C hR mlX12_167 dX12_readShell_40 (tX12_takes hY n 0 ((rI m4 143 1) - 1)  e5) rfl rfl (ly139 hY) rfl (nle rfl) (nle rfl) (nle rfl) ?_
    refine r_istore_n [(2, .int u6), (0, .ref (wb (zw Z) + 139)), (1, .int x1)] C dX12_readShell_43 rfl (by decide) rfl ?_
    refine r_aload_n C dX12_readShell_44 1 rfl ?_
    refine r_bipush C dX12_readShell_45 bp_7 ?_
    obtain ⟨u9, m10, e8, h⟩ := bnd2_inv h
    refine r_cVi (As := [.int 7]) (rest := []) C hR mlX12_149 dX12_readShell_47 (tX12_eats hY n 7  e8) rfl rfl (ly139 hY) rfl (nle rfl) (nle rfl) (nle rfl) ?_
    refine r_if_eq 69 C dX12_readShell_50 (by decide) (fun c11 => ?_) (fun c11 => ?_)
    · have h := (ite_inv h).1 c11
      refine r_iconst C dX12_readShell_69 ic_m1 ?_
      refine r_sub [(0, .ref (wb (zw Z) + 139)), (1, .int x1), (2, .int u6)] [1, 2, 0] rfl ?_
      exact kX12_readShell_70 C hR hY n   x1 u6 (-1) m10 h hr hE
    · have h := (ite_inv h).2 c11
      refine r_aload_n C dX12_readShell_53 1 rfl ?_
      refine r_iconst C dX12_readShell_54 ic_0 ?_
      refine r_aload_n C dX12_readShell_55 1 rfl ?_
      refine r_getR C flX12_24 dX12_readShell_56 (ly139 hY) rfl (lr139_4 hY) ?_
      refine r_iconst C dX12_readShell_59 ic_3 ?_
      refine r_iald C dX12_readShell_60 (ly143 hY) (by decide) ?_
      refine r_iconst C dX12_readShell_61 ic_1 ?_
      refine r_isub C dX12_readShell_62 ?_
      obtain ⟨u16, m17, e15, h⟩ := bnd2_inv h
      refine r_cVi (As := [.int 0, .int ((rI m10 143 3) - 1)]) (rest := []) C hR mlX12_167 dX12_readShell_63 (tX12_takes hY n 0 ((rI m10 143 3) - 1)  e15) rfl rfl (ly139 hY) rfl (nle rfl) (nle rfl) (nle rfl) ?_
      refine r_goto 70 C dX12_readShell_66 (by decide) ?_
      refine r_sub [(0, .ref (wb (zw Z) + 139)), (1, .int x1), (2, .int u6)] [1, 2, 0] rfl ?_
      exact kX12_readShell_70 C hR hY n   x1 u6 u16 m17 h hr hE
  · have h := (ite_inv h).2 c2
    have h := Option.some.inj h
    subst h
    exact r_vret C dX12_readShell_25 hr hE
def fX12_readShell (n : Nat)  (μ : Mu) : Option (Mu) := if (rI μ 143 4) = 8 then (bnd (fX12_fails n 4 μ) fun m19 => jX12_readShell_18 n (rI μ 143 4) m19) else (jX12_readShell_18 n (rI μ 143 4) μ)
set_option maxRecDepth 100000 in
set_option maxHeartbeats 4000000 in
theorem tX12_readShell {l : Launch} {w : WP} {sh : List Sh} {R : Rf} {μ : Mu} {μ' : Mu} (hY : LY sh R) (n : Nat)   (h : fX12_readShell n μ = some μ') : CM l w yX12_readShell cX12_readShell 4 none 9 0 0 sh R [.ref (wb w + 139)] μ none sh R μ' := by
  refine CM.of (plainFor_of_name pf_X12) (Nat.le_of_ble_eq_true rfl) fun Z C hr _ hR hw hl hE => ?_
  subst hw; subst hl
  have C : CX Z cX12_readShell 4 RX12 := C
  show Wm Z (0, 0, sh, R) μ 0 [(0, .ref (wb (zw Z) + 139))] []
  unfold fX12_readShell at h
  refine r_aload_n C dX12_readShell_0 0 rfl ?_
  refine r_getR C flX12_24 dX12_readShell_1 (ly139 hY) rfl (lr139_4 hY) ?_
  refine r_iconst C dX12_readShell_4 ic_4 ?_
  refine r_iald C dX12_readShell_5 (ly143 hY) (by decide) ?_
  refine r_istore_n [(1, .int (rI μ 143 4)), (0, .ref (wb (zw Z) + 139))] C dX12_readShell_6 rfl (by decide) rfl ?_
  refine r_iload_n C dX12_readShell_7 0 rfl ?_
  refine r_bipush C dX12_readShell_8 bp_8 ?_
  refine r_icmp_ne 18 C dX12_readShell_10 (by decide) (fun c1 => ?_) (fun c1 => ?_)
  · have h := (ite_inv h).2 c1
    refine r_sub [(0, .ref (wb (zw Z) + 139)), (1, .int (rI μ 143 4))] [1, 0] rfl ?_
    exact kX12_readShell_18 C hR hY n   (rI μ 143 4) μ h hr hE
  · have h := (ite_inv h).1 c1
    refine r_aload_n C dX12_readShell_13 1 rfl ?_
    refine r_iconst C dX12_readShell_14 ic_4 ?_
    obtain ⟨m19, e18, h⟩ := bnd_inv h
    refine r_cVv (As := [.int 4]) (rest := []) C hR mlX12_126 dX12_readShell_15 (tX12_fails hY n 4  e18) rfl rfl (ly139 hY) rfl (nle rfl) (nle rfl) (nle rfl) ?_
    refine r_sub [(0, .ref (wb (zw Z) + 139)), (1, .int (rI μ 143 4))] [1, 0] rfl ?_
    exact kX12_readShell_18 C hR hY n   (rI μ 143 4) m19 h hr hE
def jX12_readLaw_49 (n : Nat) (x1 : Int32) (x2 : Int32) (μ : Mu) : Option (Mu) := if (rI μ 139 11) = 0 then (gd (ib (5 + x1) 2242) (gd (ib (8 + x1) 2242) (gd (ib (11 + x1) 2242) (some (wI (wI (wI μ 143 (ix (5 + x1)) 1) 143 (ix (8 + x1)) x2) 143 (ix (11 + x1)) ((rI (wI (wI μ 143 (ix (5 + x1)) 1) 143 (ix (8 + x1)) x2) 143 1341) - x2)))))) else (some μ)
set_option maxRecDepth 100000 in
set_option maxHeartbeats 4000000 in
theorem kX12_readLaw_49 {Z : ZC} {sh : List Sh} {R : Rf} {μ' : Mu} (C : CX Z cX12_readLaw 3 RX12) (hR : zR Z = rm 70 0 0) (hY : LY sh R) (n : Nat) (x1 : Int32) (x2 : Int32) (μ : Mu) (h : jX12_readLaw_49 n x1 x2 μ = some μ') (hr : (zme Z).sig.returnType = none) (hE : zEnd Z (0, 0, sh, R) μ' none) : Wm Z (0, 0, sh, R) μ 49 [(0, .ref (wb (zw Z) + 139)), (1, .int x1), (2, .int x2)] [] := by
  unfold jX12_readLaw_49 at h
  refine r_aload_n C dX12_readLaw_49 0 rfl ?_
  refine r_getI C flX12_114 dX12_readLaw_50 (ly139 hY) rfl ?_
  refine r_if_eq 57 C dX12_readLaw_53 (by decide) (fun c10 => ?_) (fun c10 => ?_)
  · have h := (ite_inv h).1 c10
    refine r_aload_n C dX12_readLaw_57 0 rfl ?_
    refine r_getR C flX12_24 dX12_readLaw_58 (ly139 hY) rfl (lr139_4 hY) ?_
    refine r_iconst C dX12_readLaw_61 ic_5 ?_
    refine r_iload_n C dX12_readLaw_62 1 rfl ?_
    refine r_iadd C dX12_readLaw_63 ?_
    refine r_iconst C dX12_readLaw_64 ic_1 ?_
    obtain ⟨b11, h⟩ := gd_inv h
    refine r_iast C dX12_readLaw_65 (ly143 hY) b11 ?_
    refine r_aload_n C dX12_readLaw_66 0 rfl ?_
    refine r_getR C flX12_24 dX12_readLaw_67 (ly139 hY) rfl (lr139_4 hY) ?_
    refine r_bipush C dX12_readLaw_70 bp_8 ?_
    refine r_iload_n C dX12_readLaw_72 1 rfl ?_
    refine r_iadd C dX12_readLaw_73 ?_
    refine r_iload_n C dX12_readLaw_74 2 rfl ?_
    obtain ⟨b12, h⟩ := gd_inv h
    refine r_iast C dX12_readLaw_75 (ly143 hY) b12 ?_
    refine r_aload_n C dX12_readLaw_76 0 rfl ?_
    refine r_getR C flX12_24 dX12_readLaw_77 (ly139 hY) rfl (lr139_4 hY) ?_
    refine r_bipush C dX12_readLaw_80 bp_11 ?_
    refine r_iload_n C dX12_readLaw_82 1 rfl ?_
    refine r_iadd C dX12_readLaw_83 ?_
    refine r_aload_n C dX12_readLaw_84 0 rfl ?_
    refine r_getR C flX12_24 dX12_readLaw_85 (ly139 hY) rfl (lr139_4 hY) ?_
    refine r_sipush C dX12_readLaw_88 sp_1341 ?_
    refine r_iald C dX12_readLaw_91 (ly143 hY) (by decide) ?_
    refine r_iload_n C dX12_readLaw_92 2 rfl ?_
    refine r_isub C dX12_readLaw_93 ?_
    obtain ⟨b13, h⟩ := gd_inv h
    refine r_iast C dX12_readLaw_94 (ly143 hY) b13 ?_
    have h := Option.some.inj h
    subst h
    exact r_vret C dX12_readLaw_95 hr hE
  · have h := (ite_inv h).2 c10
    have h := Option.some.inj h
    subst h
    exact r_vret C dX12_readLaw_56 hr hE
def jX12_readLaw_18 (n : Nat) (x1 : Int32) (μ : Mu) : Option (Mu) := if x1 = 0 then (bnd (fX12_readSum n 0 (wI μ 139 15 x1)) fun m15 => jX12_readLaw_49 n x1 (rI μ 143 1341) m15) else (bnd (fX12_readTruth n 0 (wI μ 139 15 x1)) fun m9 => jX12_readLaw_49 n x1 (rI μ 143 1341) m9)
set_option maxRecDepth 100000 in
set_option maxHeartbeats 4000000 in
theorem kX12_readLaw_18 {Z : ZC} {sh : List Sh} {R : Rf} {μ' : Mu} (C : CX Z cX12_readLaw 3 RX12) (hR : zR Z = rm 70 0 0) (hY : LY sh R) (n : Nat) (x1 : Int32) (μ : Mu) (h : jX12_readLaw_18 n x1 μ = some μ') (hr : (zme Z).sig.returnType = none) (hE : zEnd Z (0, 0, sh, R) μ' none) : Wm Z (0, 0, sh, R) μ 18 [(0, .ref (wb (zw Z) + 139)), (1, .int x1)] [] := by
  unfold jX12_readLaw_18 at h
  refine r_aload_n C dX12_readLaw_18 0 rfl ?_
  refine r_getR C flX12_24 dX12_readLaw_19 (ly139 hY) rfl (lr139_4 hY) ?_
  refine r_sipush C dX12_readLaw_22 sp_1341 ?_
  refine r_iald C dX12_readLaw_25 (ly143 hY) (by decide) ?_
  refine r_istore_n [(2, .int (rI μ 143 1341)), (0, .ref (wb (zw Z) + 139)), (1, .int x1)] C dX12_readLaw_26 rfl (by decide) rfl ?_
  refine r_aload_n C dX12_readLaw_27 1 rfl ?_
  refine r_iload_n C dX12_readLaw_28 2 rfl ?_
  refine r_putI C fiX12_134 dX12_readLaw_29 (ly139 hY) ?_
  refine r_iload_n C dX12_readLaw_32 2 rfl ?_
  refine r_if_ne 44 C dX12_readLaw_33 (by decide) (fun c7 => ?_) (fun c7 => ?_)
  · have h := (ite_inv h).2 c7
    refine r_aload_n C dX12_readLaw_44 1 rfl ?_
    refine r_iconst C dX12_readLaw_45 ic_0 ?_
    obtain ⟨m9, e8, h⟩ := bnd_inv h
    refine r_cVv (As := [.int 0]) (rest := []) C hR mlX12_161 dX12_readLaw_46 (tX12_readTruth hY n 0  e8) rfl rfl (ly139 hY) rfl (nle rfl) (nle rfl) (nle rfl) ?_
    refine r_sub [(0, .ref (wb (zw Z) + 139)), (1, .int x1), (2, .int (rI μ 143 1341))] [1, 2, 0] rfl ?_
    exact kX12_readLaw_49 C hR hY n   x1 (rI μ 143 1341) m9 h hr hE
  · have h := (ite_inv h).1 c7
    refine r_aload_n C dX12_readLaw_36 1 rfl ?_
    refine r_iconst C dX12_readLaw_37 ic_0 ?_
    obtain ⟨m15, e14, h⟩ := bnd_inv h
    refine r_cVv (As := [.int 0]) (rest := []) C hR mlX12_146 dX12_readLaw_38 (tX12_readSum hY n 0  e14) rfl rfl (ly139 hY) rfl (nle rfl) (nle rfl) (nle rfl) ?_
    refine r_goto 49 C dX12_readLaw_41 (by decide) ?_
    refine r_sub [(0, .ref (wb (zw Z) + 139)), (1, .int x1), (2, .int (rI μ 143 1341))] [1, 2, 0] rfl ?_
    exact kX12_readLaw_49 C hR hY n   x1 (rI μ 143 1341) m15 h hr hE
def fX12_readLaw (n : Nat) (x1 : Int32) (μ : Mu) : Option (Mu) := bnd (fX12_next n μ) fun m2 => bnd2 (fX12_eats n 31 m2) fun u4 m5 => if u4 = 0 then (bnd (fX12_fails n 2 m5) fun m17 => jX12_readLaw_18 n x1 m17) else (jX12_readLaw_18 n x1 m5)
set_option maxRecDepth 100000 in
set_option maxHeartbeats 4000000 in
theorem tX12_readLaw {l : Launch} {w : WP} {sh : List Sh} {R : Rf} {μ : Mu} {μ' : Mu} (hY : LY sh R) (n : Nat) (x1 : Int32)  (h : fX12_readLaw n x1 μ = some μ') : CM l w yX12_readLaw cX12_readLaw 3 none 70 0 0 sh R [.ref (wb w + 139), .int x1] μ none sh R μ' := by
  refine CM.of (plainFor_of_name pf_X12) (Nat.le_of_ble_eq_true rfl) fun Z C hr _ hR hw hl hE => ?_
  subst hw; subst hl
  have C : CX Z cX12_readLaw 3 RX12 := C
  show Wm Z (0, 0, sh, R) μ 0 [(0, .ref (wb (zw Z) + 139)), (1, .int x1)] []
  unfold fX12_readLaw at h
  refine r_aload_n C dX12_readLaw_0 0 rfl ?_
  obtain ⟨m2, e1, h⟩ := bnd_inv h
  refine r_cVv (As := []) (rest := []) C hR mlX12_123 dX12_readLaw_1 (tX12_next hY n  e1) rfl rfl (ly139 hY) rfl (nle rfl) (nle rfl) (nle rfl) ?_
  refine r_aload_n C dX12_readLaw_4 0 rfl ?_
  refine r_bipush C dX12_readLaw_5 bp_31 ?_
  obtain ⟨u4, m5, e3, h⟩ := bnd2_inv h
  refine r_cVi (As := [.int 31]) (rest := []) C hR mlX12_149 dX12_readLaw_7 (tX12_eats hY n 31  e3) rfl rfl (ly139 hY) rfl (nle rfl) (nle rfl) (nle rfl) ?_
  refine r_if_ne 18 C dX12_readLaw_10 (by decide) (fun c6 => ?_) (fun c6 => ?_)
  · have h := (ite_inv h).2 c6
    exact kX12_readLaw_18 C hR hY n   x1 m5 h hr hE
  · have h := (ite_inv h).1 c6
    refine r_aload_n C dX12_readLaw_13 0 rfl ?_
    refine r_iconst C dX12_readLaw_14 ic_2 ?_
    obtain ⟨m17, e16, h⟩ := bnd_inv h
    refine r_cVv (As := [.int 2]) (rest := []) C hR mlX12_126 dX12_readLaw_15 (tX12_fails hY n 2  e16) rfl rfl (ly139 hY) rfl (nle rfl) (nle rfl) (nle rfl) ?_
    exact kX12_readLaw_18 C hR hY n   x1 m17 h hr hE
def fX12_readLine (n : Nat)  (μ : Mu) : Option (Mu) := if (rI μ 139 11) = 0 then (bnd (fX12_is n 1 μ) fun u3 => if u3 = 0 then (bnd (fX12_is n 3 μ) fun u6 => if u6 = 0 then (bnd (fX12_is n 6 μ) fun u9 => if u9 = 0 then (bnd (fX12_within n ((rI μ 139 9).toInt64) 8 10 μ) fun u12 => if u12 = 0 then (bnd2 (fX12_eats n 11 μ) fun u15 m16 => if u15 = 0 then (bnd2 (fX12_eats n 12 m16) fun u19 m20 => if u19 = 0 then (bnd (fX12_fails n 2 m20) fun m23 => some m23) else (bnd2 (fX12_takes n 0 999 m20) fun u25 m26 => some (wI m26 143 64 u25))) else (bnd2 (fX12_takes n 0 99 m16) fun u28 m29 => some (wI m29 143 65 u28))) else (bnd (fX12_readLaw n ((rI μ 139 9) - 8) μ) fun m31 => some m31)) else (bnd (fX12_readShell n μ) fun m33 => some m33)) else (bnd (fX12_readPerson n μ) fun m35 => some m35)) else (bnd (fX12_readCurrent n μ) fun m37 => some m37)) else (some μ)
set_option maxRecDepth 100000 in
set_option maxHeartbeats 4000000 in
theorem tX12_readLine {l : Launch} {w : WP} {sh : List Sh} {R : Rf} {μ : Mu} {μ' : Mu} (hY : LY sh R) (n : Nat)   (h : fX12_readLine n μ = some μ') : CM l w yX12_readLine cX12_readLine 1 none 71 0 0 sh R [.ref (wb w + 139)] μ none sh R μ' := by
  refine CM.of (plainFor_of_name pf_X12) (Nat.le_of_ble_eq_true rfl) fun Z C hr _ hR hw hl hE => ?_
  subst hw; subst hl
  have C : CX Z cX12_readLine 1 RX12 := C
  show Wm Z (0, 0, sh, R) μ 0 [(0, .ref (wb (zw Z) + 139))] []
  unfold fX12_readLine at h
  refine r_aload_n C dX12_readLine_0 0 rfl ?_
  refine r_getI C flX12_114 dX12_readLine_1 (ly139 hY) rfl ?_
  refine r_if_eq 8 C dX12_readLine_4 (by decide) (fun c1 => ?_) (fun c1 => ?_)
  · have h := (ite_inv h).1 c1
    refine r_aload_n C dX12_readLine_8 0 rfl ?_
    refine r_iconst C dX12_readLine_9 ic_1 ?_
    obtain ⟨u3, e2, h⟩ := bnd_inv h
    refine r_cVi (As := [.int 1]) (rest := []) C hR mlX12_120 dX12_readLine_10 (tX12_is hY n 1  e2) rfl rfl (ly139 hY) rfl (nle rfl) (nle rfl) (nle rfl) ?_
    refine r_if_eq 23 C dX12_readLine_13 (by decide) (fun c4 => ?_) (fun c4 => ?_)
    · have h := (ite_inv h).1 c4
      refine r_aload_n C dX12_readLine_23 0 rfl ?_
      refine r_iconst C dX12_readLine_24 ic_3 ?_
      obtain ⟨u6, e5, h⟩ := bnd_inv h
      refine r_cVi (As := [.int 3]) (rest := []) C hR mlX12_120 dX12_readLine_25 (tX12_is hY n 3  e5) rfl rfl (ly139 hY) rfl (nle rfl) (nle rfl) (nle rfl) ?_
      refine r_if_eq 38 C dX12_readLine_28 (by decide) (fun c7 => ?_) (fun c7 => ?_)
      · have h := (ite_inv h).1 c7
        refine r_aload_n C dX12_readLine_38 0 rfl ?_
        refine r_bipush C dX12_readLine_39 bp_6 ?_
        obtain ⟨u9, e8, h⟩ := bnd_inv h
        refine r_cVi (As := [.int 6]) (rest := []) C hR mlX12_120 dX12_readLine_41 (tX12_is hY n 6  e8) rfl rfl (ly139 hY) rfl (nle rfl) (nle rfl) (nle rfl) ?_
        refine r_if_eq 54 C dX12_readLine_44 (by decide) (fun c10 => ?_) (fun c10 => ?_)
        · have h := (ite_inv h).1 c10
          refine r_aload_n C dX12_readLine_54 0 rfl ?_
          refine r_getI C flX12_96 dX12_readLine_55 (ly139 hY) rfl ?_
          refine r_i2l C dX12_readLine_58 ?_
          refine r_ldc2 C dX12_readLine_59 klX12_180 ?_
          refine r_ldc2 C dX12_readLine_62 klX12_182 ?_
          obtain ⟨u12, e11, h⟩ := bnd_inv h
          refine r_cSi (As := [.long ((rI μ 139 9).toInt64), .long 8, .long 10]) (rest := []) C hR mlX12_130 dX12_readLine_65 (tX12_within hY n ((rI μ 139 9).toInt64) 8 10  e11) rfl rfl (nle rfl) (nle rfl) (nle rfl) ?_
          refine r_if_eq 85 C dX12_readLine_68 (by decide) (fun c13 => ?_) (fun c13 => ?_)
          · have h := (ite_inv h).1 c13
            refine r_aload_n C dX12_readLine_85 0 rfl ?_
            refine r_bipush C dX12_readLine_86 bp_11 ?_
            obtain ⟨u15, m16, e14, h⟩ := bnd2_inv h
            refine r_cVi (As := [.int 11]) (rest := []) C hR mlX12_149 dX12_readLine_88 (tX12_eats hY n 11  e14) rfl rfl (ly139 hY) rfl (nle rfl) (nle rfl) (nle rfl) ?_
            refine r_if_eq 111 C dX12_readLine_91 (by decide) (fun c17 => ?_) (fun c17 => ?_)
            · have h := (ite_inv h).1 c17
              refine r_aload_n C dX12_readLine_111 0 rfl ?_
              refine r_bipush C dX12_readLine_112 bp_12 ?_
              obtain ⟨u19, m20, e18, h⟩ := bnd2_inv h
              refine r_cVi (As := [.int 12]) (rest := []) C hR mlX12_149 dX12_readLine_114 (tX12_eats hY n 12  e18) rfl rfl (ly139 hY) rfl (nle rfl) (nle rfl) (nle rfl) ?_
              refine r_if_eq 138 C dX12_readLine_117 (by decide) (fun c21 => ?_) (fun c21 => ?_)
              · have h := (ite_inv h).1 c21
                refine r_aload_n C dX12_readLine_138 0 rfl ?_
                refine r_iconst C dX12_readLine_139 ic_2 ?_
                obtain ⟨m23, e22, h⟩ := bnd_inv h
                refine r_cVv (As := [.int 2]) (rest := []) C hR mlX12_126 dX12_readLine_140 (tX12_fails hY n 2  e22) rfl rfl (ly139 hY) rfl (nle rfl) (nle rfl) (nle rfl) ?_
                have h := Option.some.inj h
                subst h
                exact r_vret C dX12_readLine_143 hr hE
              · have h := (ite_inv h).2 c21
                refine r_aload_n C dX12_readLine_120 0 rfl ?_
                refine r_getR C flX12_24 dX12_readLine_121 (ly139 hY) rfl (lr139_4 hY) ?_
                refine r_bipush C dX12_readLine_124 bp_64 ?_
                refine r_aload_n C dX12_readLine_126 0 rfl ?_
                refine r_iconst C dX12_readLine_127 ic_0 ?_
                refine r_sipush C dX12_readLine_128 sp_999 ?_
                obtain ⟨u25, m26, e24, h⟩ := bnd2_inv h
                refine r_cVi (As := [.int 0, .int 999]) (rest := [.int 64, .ref (wb (zw Z) + 143)]) C hR mlX12_167 dX12_readLine_131 (tX12_takes hY n 0 999  e24) rfl rfl (ly139 hY) rfl (nle rfl) (nle rfl) (nle rfl) ?_
                refine r_iast C dX12_readLine_134 (ly143 hY) (by decide) ?_
                refine r_goto 143 C dX12_readLine_135 (by decide) ?_
                have h := Option.some.inj h
                subst h
                exact r_vret C dX12_readLine_143 hr hE
            · have h := (ite_inv h).2 c17
              refine r_aload_n C dX12_readLine_94 0 rfl ?_
              refine r_getR C flX12_24 dX12_readLine_95 (ly139 hY) rfl (lr139_4 hY) ?_
              refine r_bipush C dX12_readLine_98 bp_65 ?_
              refine r_aload_n C dX12_readLine_100 0 rfl ?_
              refine r_iconst C dX12_readLine_101 ic_0 ?_
              refine r_bipush C dX12_readLine_102 bp_99 ?_
              obtain ⟨u28, m29, e27, h⟩ := bnd2_inv h
              refine r_cVi (As := [.int 0, .int 99]) (rest := [.int 65, .ref (wb (zw Z) + 143)]) C hR mlX12_167 dX12_readLine_104 (tX12_takes hY n 0 99  e27) rfl rfl (ly139 hY) rfl (nle rfl) (nle rfl) (nle rfl) ?_
              refine r_iast C dX12_readLine_107 (ly143 hY) (by decide) ?_
              refine r_goto 143 C dX12_readLine_108 (by decide) ?_
              have h := Option.some.inj h
              subst h
              exact r_vret C dX12_readLine_143 hr hE
          · have h := (ite_inv h).2 c13
            refine r_aload_n C dX12_readLine_71 0 rfl ?_
            refine r_aload_n C dX12_readLine_72 0 rfl ?_
            refine r_getI C flX12_96 dX12_readLine_73 (ly139 hY) rfl ?_
            refine r_bipush C dX12_readLine_76 bp_8 ?_
            refine r_isub C dX12_readLine_78 ?_
            obtain ⟨m31, e30, h⟩ := bnd_inv h
            refine r_cVv (As := [.int ((rI μ 139 9) - 8)]) (rest := []) C hR mlX12_184 dX12_readLine_79 (tX12_readLaw hY n ((rI μ 139 9) - 8)  e30) rfl rfl (ly139 hY) rfl (nle rfl) (nle rfl) (nle rfl) ?_
            refine r_goto 143 C dX12_readLine_82 (by decide) ?_
            have h := Option.some.inj h
            subst h
            exact r_vret C dX12_readLine_143 hr hE
        · have h := (ite_inv h).2 c10
          refine r_aload_n C dX12_readLine_47 0 rfl ?_
          obtain ⟨m33, e32, h⟩ := bnd_inv h
          refine r_cVv (As := []) (rest := []) C hR mlX12_177 dX12_readLine_48 (tX12_readShell hY n  e32) rfl rfl (ly139 hY) rfl (nle rfl) (nle rfl) (nle rfl) ?_
          refine r_goto 143 C dX12_readLine_51 (by decide) ?_
          have h := Option.some.inj h
          subst h
          exact r_vret C dX12_readLine_143 hr hE
      · have h := (ite_inv h).2 c7
        refine r_aload_n C dX12_readLine_31 0 rfl ?_
        obtain ⟨m35, e34, h⟩ := bnd_inv h
        refine r_cVv (As := []) (rest := []) C hR mlX12_174 dX12_readLine_32 (tX12_readPerson hY n  e34) rfl rfl (ly139 hY) rfl (nle rfl) (nle rfl) (nle rfl) ?_
        refine r_goto 143 C dX12_readLine_35 (by decide) ?_
        have h := Option.some.inj h
        subst h
        exact r_vret C dX12_readLine_143 hr hE
    · have h := (ite_inv h).2 c4
      refine r_aload_n C dX12_readLine_16 0 rfl ?_
      obtain ⟨m37, e36, h⟩ := bnd_inv h
      refine r_cVv (As := []) (rest := []) C hR mlX12_171 dX12_readLine_17 (tX12_readCurrent hY n  e36) rfl rfl (ly139 hY) rfl (nle rfl) (nle rfl) (nle rfl) ?_
      refine r_goto 143 C dX12_readLine_20 (by decide) ?_
      have h := Option.some.inj h
      subst h
      exact r_vret C dX12_readLine_143 hr hE
  · have h := (ite_inv h).2 c1
    have h := Option.some.inj h
    subst h
    exact r_vret C dX12_readLine_7 hr hE
def jX12_ends_14 (n : Nat)  (μ : Mu) : Option (Mu) := some (wI μ 143 0 ((rI μ 143 0) + 1))
set_option maxRecDepth 100000 in
set_option maxHeartbeats 4000000 in
theorem kX12_ends_14 {Z : ZC} {sh : List Sh} {R : Rf} {μ' : Mu} (C : CX Z cX12_ends 1 RX12) (hR : zR Z = rm 9 0 0) (hY : LY sh R) (n : Nat)  (μ : Mu) (h : jX12_ends_14 n μ = some μ') (hr : (zme Z).sig.returnType = none) (hE : zEnd Z (0, 0, sh, R) μ' none) : Wm Z (0, 0, sh, R) μ 14 [(0, .ref (wb (zw Z) + 139))] [] := by
  unfold jX12_ends_14 at h
  refine r_aload_n C dX12_ends_14 0 rfl ?_
  refine r_getR C flX12_24 dX12_ends_15 (ly139 hY) rfl (lr139_4 hY) ?_
  refine r_iconst C dX12_ends_18 ic_0 ?_
  refine r_dup2 C dX12_ends_19 rfl rfl ?_
  refine r_iald C dX12_ends_20 (ly143 hY) (by decide) ?_
  refine r_iconst C dX12_ends_21 ic_1 ?_
  refine r_iadd C dX12_ends_22 ?_
  refine r_iast C dX12_ends_23 (ly143 hY) (by decide) ?_
  have h := Option.some.inj h
  subst h
  exact r_vret C dX12_ends_24 hr hE
def fX12_ends (n : Nat)  (μ : Mu) : Option (Mu) := bnd2 (fX12_eats n 30 μ) fun u2 m3 => if u2 = 0 then (bnd (fX12_fails n 2 m3) fun m6 => jX12_ends_14 n m6) else (jX12_ends_14 n m3)
set_option maxRecDepth 100000 in
set_option maxHeartbeats 4000000 in
theorem tX12_ends {l : Launch} {w : WP} {sh : List Sh} {R : Rf} {μ : Mu} {μ' : Mu} (hY : LY sh R) (n : Nat)   (h : fX12_ends n μ = some μ') : CM l w yX12_ends cX12_ends 1 none 9 0 0 sh R [.ref (wb w + 139)] μ none sh R μ' := by
  refine CM.of (plainFor_of_name pf_X12) (Nat.le_of_ble_eq_true rfl) fun Z C hr _ hR hw hl hE => ?_
  subst hw; subst hl
  have C : CX Z cX12_ends 1 RX12 := C
  show Wm Z (0, 0, sh, R) μ 0 [(0, .ref (wb (zw Z) + 139))] []
  unfold fX12_ends at h
  refine r_aload_n C dX12_ends_0 0 rfl ?_
  refine r_bipush C dX12_ends_1 bp_30 ?_
  obtain ⟨u2, m3, e1, h⟩ := bnd2_inv h
  refine r_cVi (As := [.int 30]) (rest := []) C hR mlX12_149 dX12_ends_3 (tX12_eats hY n 30  e1) rfl rfl (ly139 hY) rfl (nle rfl) (nle rfl) (nle rfl) ?_
  refine r_if_ne 14 C dX12_ends_6 (by decide) (fun c4 => ?_) (fun c4 => ?_)
  · have h := (ite_inv h).2 c4
    exact kX12_ends_14 C hR hY n   m3 h hr hE
  · have h := (ite_inv h).1 c4
    refine r_aload_n C dX12_ends_9 0 rfl ?_
    refine r_iconst C dX12_ends_10 ic_2 ?_
    obtain ⟨m6, e5, h⟩ := bnd_inv h
    refine r_cVv (As := [.int 2]) (rest := []) C hR mlX12_126 dX12_ends_11 (tX12_fails hY n 2  e5) rfl rfl (ly139 hY) rfl (nle rfl) (nle rfl) (nle rfl) ?_
    exact kX12_ends_14 C hR hY n   m6 h hr hE
def sX12_sea_83 (n : Nat)  : Mu → Option ((Mu) ⊕ (Mu)) := fun q => match q with | μ => if (rI μ 139 11) = 0 then (if (rI μ 139 9) = 24 then (some (.inr μ)) else (bnd (fX12_readLine n μ) fun m20 => bnd (fX12_ends n m20) fun m22 => some (.inl m22))) else (some (.inr μ))
set_option maxRecDepth 100000 in
set_option maxHeartbeats 4000000 in
theorem lX12_sea_83 {Z : ZC} {sh : List Sh} {R : Rf} {o : (Mu) ⊕ (Mu)} (C : CX Z cX12_sea 3 RX12) (hR : zR Z = rm 72 0 0) (hY : LY sh R) (n : Nat)  (μ : Mu) (h : sX12_sea_83 n μ = some o) (kin : ∀ (μ : Mu), o = .inl μ → Wm Z (0, 0, sh, R) μ 83 [(0, .ref (wb (zw Z) + 139))] []) (kex0 : ∀ (μ : Mu), o = .inr μ → Wm Z (0, 0, sh, R) μ 110 [(0, .ref (wb (zw Z) + 139))] []) : Wm Z (0, 0, sh, R) μ 83 [(0, .ref (wb (zw Z) + 139))] [] := by
  unfold sX12_sea_83 at h
  refine r_aload_n C dX12_sea_83 0 rfl ?_
  refine r_getI C flX12_114 dX12_sea_84 (ly139 hY) rfl ?_
  refine r_if_ne 110 C dX12_sea_87 (by decide) (fun c17 => ?_) (fun c17 => ?_)
  · have h := (ite_inv h).2 c17
    exact kex0 μ (Option.some.inj h).symm
  · have h := (ite_inv h).1 c17
    refine r_aload_n C dX12_sea_90 0 rfl ?_
    refine r_getI C flX12_96 dX12_sea_91 (ly139 hY) rfl ?_
    refine r_bipush C dX12_sea_94 bp_24 ?_
    refine r_icmp_eq 110 C dX12_sea_96 (by decide) (fun c18 => ?_) (fun c18 => ?_)
    · have h := (ite_inv h).1 c18
      exact kex0 μ (Option.some.inj h).symm
    · have h := (ite_inv h).2 c18
      refine r_aload_n C dX12_sea_99 0 rfl ?_
      obtain ⟨m20, e19, h⟩ := bnd_inv h
      refine r_cVv (As := []) (rest := []) C hR mlX12_190 dX12_sea_100 (tX12_readLine hY n  e19) rfl rfl (ly139 hY) rfl (nle rfl) (nle rfl) (nle rfl) ?_
      refine r_aload_n C dX12_sea_103 0 rfl ?_
      obtain ⟨m22, e21, h⟩ := bnd_inv h
      refine r_cVv (As := []) (rest := []) C hR mlX12_187 dX12_sea_104 (tX12_ends hY n  e21) rfl rfl (ly139 hY) rfl (nle rfl) (nle rfl) (nle rfl) ?_
      refine r_goto 83 C dX12_sea_107 (by decide) ?_
      exact kin m22 (Option.some.inj h).symm
def sX12_sea_154 (n : Nat)  : Int32 × Mu → Option ((Int32 × Mu) ⊕ (Mu)) := fun q => match q with | (x2, μ) => if 2242 ≤ x2 then (some (.inr μ)) else (gd (ib x2 2242) (gd (ib x2 6726) (some (.inl (x2 + 1, wI μ 140 (ix x2) (rI μ 143 (ix x2)))))))
set_option maxRecDepth 100000 in
set_option maxHeartbeats 4000000 in
theorem lX12_sea_154 {Z : ZC} {sh : List Sh} {R : Rf} {o : (Int32 × Mu) ⊕ (Mu)} (C : CX Z cX12_sea 3 RX12) (hR : zR Z = rm 72 0 0) (hY : LY sh R) (n : Nat)  (x2 : Int32) (μ : Mu) (h : sX12_sea_154 n (x2, μ) = some o) (kin : ∀ (x2 : Int32) (μ : Mu), o = .inl (x2, μ) → Wm Z (0, 0, sh, R) μ 154 [(0, .ref (wb (zw Z) + 139)), (2, .int x2)] []) (kex0 : ∀ (μ : Mu), o = .inr μ → Wm Z (0, 0, sh, R) μ 179 [(0, .ref (wb (zw Z) + 139))] []) : Wm Z (0, 0, sh, R) μ 154 [(0, .ref (wb (zw Z) + 139)), (2, .int x2)] [] := by
  unfold sX12_sea_154 at h
  refine r_iload_n C dX12_sea_154 1 rfl ?_
  refine r_sipush C dX12_sea_155 sp_2242 ?_
  refine r_icmp_ge 179 C dX12_sea_158 (by decide) (fun c27 => ?_) (fun c27 => ?_)
  · have h := (ite_inv h).1 c27
    refine r_sub [(0, .ref (wb (zw Z) + 139))] [0] rfl ?_
    exact kex0 μ (Option.some.inj h).symm
  · have h := (ite_inv h).2 c27
    refine r_aload_n C dX12_sea_161 0 rfl ?_
    refine r_getR C flX12_13 dX12_sea_162 (ly139 hY) rfl (lr139_1 hY) ?_
    refine r_iload_n C dX12_sea_165 1 rfl ?_
    refine r_aload_n C dX12_sea_166 0 rfl ?_
    refine r_getR C flX12_24 dX12_sea_167 (ly139 hY) rfl (lr139_4 hY) ?_
    refine r_iload_n C dX12_sea_170 1 rfl ?_
    obtain ⟨b28, h⟩ := gd_inv h
    refine r_iald C dX12_sea_171 (ly143 hY) b28 ?_
    obtain ⟨b29, h⟩ := gd_inv h
    refine r_iast C dX12_sea_172 (ly140 hY) b29 ?_
    refine r_iinc [(2, .int (x2 + 1)), (0, .ref (wb (zw Z) + 139))] C dX12_sea_173 1 rfl (in_1 _) (by decide) rfl ?_
    refine r_goto 154 C dX12_sea_176 (by decide) ?_
    refine r_sub [(0, .ref (wb (zw Z) + 139)), (2, .int (x2 + 1))] [1, 0] rfl ?_
    exact kin (x2 + 1) (wI μ 140 (ix x2) (rI μ 143 (ix x2))) (Option.some.inj h).symm
def jX12_sea_110 (n : Nat)  (μ : Mu) : Option (Int32 × Mu) := if (rI (wI (wI μ 139 13 (rI μ 139 11)) 139 14 (if (rI (wI μ 139 13 (rI μ 139 11)) 139 11) = 0 then (-1) else (rI (wI μ 139 13 (rI μ 139 11)) 139 12))) 139 11) = 0 then (bnd (lp n (sX12_sea_154 n) (0, wI (wI μ 139 13 (rI μ 139 11)) 139 14 (if (rI (wI μ 139 13 (rI μ 139 11)) 139 11) = 0 then (-1) else (rI (wI μ 139 13 (rI μ 139 11)) 139 12)))) fun q => match q with | m30 => some (rI m30 140 0, m30)) else (some ((-30) - (rI (wI (wI μ 139 13 (rI μ 139 11)) 139 14 (if (rI (wI μ 139 13 (rI μ 139 11)) 139 11) = 0 then (-1) else (rI (wI μ 139 13 (rI μ 139 11)) 139 12))) 139 11), wI (wI μ 139 13 (rI μ 139 11)) 139 14 (if (rI (wI μ 139 13 (rI μ 139 11)) 139 11) = 0 then (-1) else (rI (wI μ 139 13 (rI μ 139 11)) 139 12))))
set_option maxRecDepth 100000 in
set_option maxHeartbeats 4000000 in
theorem kX12_sea_110 {Z : ZC} {sh : List Sh} {R : Rf} {r : Int32} {μ' : Mu} (C : CX Z cX12_sea 3 RX12) (hR : zR Z = rm 72 0 0) (hY : LY sh R) (n : Nat)  (μ : Mu) (h : jX12_sea_110 n μ = some (r, μ')) (hr : (zme Z).sig.returnType = (some .int)) (hE : zEnd Z (0, 0, sh, R) μ' (some (.int r))) : Wm Z (0, 0, sh, R) μ 110 [(0, .ref (wb (zw Z) + 139))] [] := by
  unfold jX12_sea_110 at h
  refine r_aload_n C dX12_sea_110 0 rfl ?_
  refine r_aload_n C dX12_sea_111 0 rfl ?_
  refine r_getI C flX12_114 dX12_sea_112 (ly139 hY) rfl ?_
  refine r_putI C fiX12_193 dX12_sea_115 (ly139 hY) ?_
  refine r_aload_n C dX12_sea_118 0 rfl ?_
  refine r_aload_n C dX12_sea_119 0 rfl ?_
  refine r_getI C flX12_114 dX12_sea_120 (ly139 hY) rfl ?_
  suffices hj : Wm Z (0, 0, sh, R) (wI μ 139 13 (rI μ 139 11)) 134 [(0, .ref (wb (zw Z) + 139))] [.int (if (rI (wI μ 139 13 (rI μ 139 11)) 139 11) = 0 then (-1) else (rI (wI μ 139 13 (rI μ 139 11)) 139 12)), .ref (wb (zw Z) + 139)] by
    refine r_if_ne 130 C dX12_sea_123 (by decide) (fun c25 => ?_) (fun c25 => ?_)
    · refine r_aload_n C dX12_sea_130 0 rfl ?_
      refine r_getI C flX12_117 dX12_sea_131 (ly139 hY) rfl ?_
      exact sel_f c25 hj
    · refine r_iconst C dX12_sea_126 ic_m1 ?_
      refine r_goto 134 C dX12_sea_127 (by decide) ?_
      exact sel_t c25 hj
  refine r_putI C fiX12_27 dX12_sea_134 (ly139 hY) ?_
  refine r_aload_n C dX12_sea_137 0 rfl ?_
  refine r_getI C flX12_114 dX12_sea_138 (ly139 hY) rfl ?_
  refine r_if_eq 152 C dX12_sea_141 (by decide) (fun c26 => ?_) (fun c26 => ?_)
  · have h := (ite_inv h).1 c26
    refine r_iconst C dX12_sea_152 ic_0 ?_
    refine r_istore_n [(2, .int 0), (0, .ref (wb (zw Z) + 139))] C dX12_sea_153 rfl (by decide) rfl ?_
    refine r_sub [(0, .ref (wb (zw Z) + 139)), (2, .int 0)] [1, 0] rfl ?_
    obtain ⟨m30, e31, h⟩ := bnd_inv h
    refine lp_all (sX12_sea_154 n) (fun q => match q with | (z2, ν) => Wm Z (0, 0, sh, R) (ν) 154 [(0, .ref (wb (zw Z) + 139)), (2, .int z2)] []) (fun q => match q with | ν => Wm Z (0, 0, sh, R) (ν) 179 [(0, .ref (wb (zw Z) + 139))] []) (fun q o h kin kex => ?_) n (0, wI (wI μ 139 13 (rI μ 139 11)) 139 14 (if (rI (wI μ 139 13 (rI μ 139 11)) 139 11) = 0 then (-1) else (rI (wI μ 139 13 (rI μ 139 11)) 139 12))) m30 e31 ?_
    · obtain ⟨z2, ν⟩ := q; exact lX12_sea_154 C hR hY n    z2 ν h (fun z2 ν e => kin (z2, ν) e) (fun ν e => kex (ν) e)
    show Wm Z (0, 0, sh, R) m30 179 [(0, .ref (wb (zw Z) + 139))] []
    refine r_aload_n C dX12_sea_179 0 rfl ?_
    refine r_getR C flX12_13 dX12_sea_180 (ly139 hY) rfl (lr139_1 hY) ?_
    refine r_iconst C dX12_sea_183 ic_0 ?_
    refine r_iald C dX12_sea_184 (ly140 hY) (by decide) ?_
    obtain ⟨h1, h2⟩ := Prod.mk.inj (Option.some.inj h)
    subst h1; subst h2
    exact r_iret C dX12_sea_185 hr hE
  · have h := (ite_inv h).2 c26
    refine r_bipush C dX12_sea_144 bp_m30 ?_
    refine r_aload_n C dX12_sea_146 0 rfl ?_
    refine r_getI C flX12_114 dX12_sea_147 (ly139 hY) rfl ?_
    refine r_isub C dX12_sea_150 ?_
    obtain ⟨h1, h2⟩ := Prod.mk.inj (Option.some.inj h)
    subst h1; subst h2
    exact r_iret C dX12_sea_151 hr hE
def jX12_sea_66 (n : Nat)  (μ : Mu) : Option (Int32 × Mu) := bnd2 (fX12_takes n 1 6 μ) fun u13 m14 => bnd (fX12_ends n (wI m14 143 1 u13)) fun m16 => bnd (lp n (sX12_sea_83 n) m16) fun q => match q with | m23 => jX12_sea_110 n m23
set_option maxRecDepth 100000 in
set_option maxHeartbeats 4000000 in
theorem kX12_sea_66 {Z : ZC} {sh : List Sh} {R : Rf} {r : Int32} {μ' : Mu} (C : CX Z cX12_sea 3 RX12) (hR : zR Z = rm 72 0 0) (hY : LY sh R) (n : Nat)  (μ : Mu) (h : jX12_sea_66 n μ = some (r, μ')) (hr : (zme Z).sig.returnType = (some .int)) (hE : zEnd Z (0, 0, sh, R) μ' (some (.int r))) : Wm Z (0, 0, sh, R) μ 66 [(0, .ref (wb (zw Z) + 139))] [] := by
  unfold jX12_sea_66 at h
  refine r_aload_n C dX12_sea_66 0 rfl ?_
  refine r_getR C flX12_24 dX12_sea_67 (ly139 hY) rfl (lr139_4 hY) ?_
  refine r_iconst C dX12_sea_70 ic_1 ?_
  refine r_aload_n C dX12_sea_71 0 rfl ?_
  refine r_iconst C dX12_sea_72 ic_1 ?_
  refine r_bipush C dX12_sea_73 bp_6 ?_
  obtain ⟨u13, m14, e12, h⟩ := bnd2_inv h
  refine r_cVi (As := [.int 1, .int 6]) (rest := [.int 1, .ref (wb (zw Z) + 143)]) C hR mlX12_167 dX12_sea_75 (tX12_takes hY n 1 6  e12) rfl rfl (ly139 hY) rfl (nle rfl) (nle rfl) (nle rfl) ?_
  refine r_iast C dX12_sea_78 (ly143 hY) (by decide) ?_
  refine r_aload_n C dX12_sea_79 0 rfl ?_
  obtain ⟨m16, e15, h⟩ := bnd_inv h
  refine r_cVv (As := []) (rest := []) C hR mlX12_187 dX12_sea_80 (tX12_ends hY n  e15) rfl rfl (ly139 hY) rfl (nle rfl) (nle rfl) (nle rfl) ?_
  obtain ⟨m23, e24, h⟩ := bnd_inv h
  refine lp_all (sX12_sea_83 n) (fun q => match q with | ν => Wm Z (0, 0, sh, R) (ν) 83 [(0, .ref (wb (zw Z) + 139))] []) (fun q => match q with | ν => Wm Z (0, 0, sh, R) (ν) 110 [(0, .ref (wb (zw Z) + 139))] []) (fun q o h kin kex => ?_) n m16 m23 e24 ?_
  · exact lX12_sea_83 C hR hY n    q h (fun ν e => kin ν e) (fun ν e => kex (ν) e)
  show Wm Z (0, 0, sh, R) m23 110 [(0, .ref (wb (zw Z) + 139))] []
  exact kX12_sea_110 C hR hY n   m23 h hr hE
def fX12_sea (n : Nat) (x1 : Int32) (μ : Mu) : Option (Int32 × Mu) := bnd (fX12_within n (x1.toInt64) 0 ((rI (wI μ 139 0 0) 139 5).toInt64) (wI μ 139 0 0)) fun u2 => if u2 = 0 then (some ((-3), wI μ 139 0 0)) else (bnd (fX12_plain n 143 2242 (wI (wI (wI (wI (wI μ 139 0 0) 139 8 x1) 139 5 0) 139 7 0) 139 11 0)) fun m5 => bnd (fX12_next n m5) fun m7 => bnd2 (fX12_eats n 0 m7) fun u9 m10 => if u9 = 0 then (bnd (fX12_fails n 2 m10) fun m33 => jX12_sea_66 n m33) else (jX12_sea_66 n m10))
set_option maxRecDepth 100000 in
set_option maxHeartbeats 4000000 in
theorem tX12_sea {l : Launch} {w : WP} {sh : List Sh} {R : Rf} {μ : Mu} {r : Int32} {μ' : Mu} (hY : LY sh R) (n : Nat) (x1 : Int32)  (h : fX12_sea n x1 μ = some (r, μ')) : CM l w yX12_sea cX12_sea 3 (some .int) 72 0 0 sh R [.ref (wb w + 139), .int x1] μ (some (.int r)) sh R μ' := by
  refine CM.of (plainFor_of_name pf_X12) (Nat.le_of_ble_eq_true rfl) fun Z C hr _ hR hw hl hE => ?_
  subst hw; subst hl
  have C : CX Z cX12_sea 3 RX12 := C
  show Wm Z (0, 0, sh, R) μ 0 [(0, .ref (wb (zw Z) + 139)), (1, .int x1)] []
  unfold fX12_sea at h
  refine r_aload_n C dX12_sea_0 0 rfl ?_
  refine r_iconst C dX12_sea_1 ic_0 ?_
  refine r_putI C fiX12_1 dX12_sea_2 (ly139 hY) ?_
  refine r_iload_n C dX12_sea_5 1 rfl ?_
  refine r_i2l C dX12_sea_6 ?_
  refine r_lconst C dX12_sea_7 lc_0 ?_
  refine r_aload_n C dX12_sea_8 0 rfl ?_
  refine r_getI C flX12_68 dX12_sea_9 (ly139 hY) rfl ?_
  refine r_i2l C dX12_sea_12 ?_
  obtain ⟨u2, e1, h⟩ := bnd_inv h
  refine r_cSi (As := [.long (x1.toInt64), .long 0, .long ((rI (wI μ 139 0 0) 139 5).toInt64)]) (rest := []) C hR mlX12_130 dX12_sea_13 (tX12_within hY n (x1.toInt64) 0 ((rI (wI μ 139 0 0) 139 5).toInt64)  e1) rfl rfl (nle rfl) (nle rfl) (nle rfl) ?_
  refine r_if_ne 22 C dX12_sea_16 (by decide) (fun c3 => ?_) (fun c3 => ?_)
  · have h := (ite_inv h).2 c3
    refine r_aload_n C dX12_sea_22 0 rfl ?_
    refine r_iload_n C dX12_sea_23 1 rfl ?_
    refine r_putI C fiX12_71 dX12_sea_24 (ly139 hY) ?_
    refine r_aload_n C dX12_sea_27 0 rfl ?_
    refine r_iconst C dX12_sea_28 ic_0 ?_
    refine r_putI C fiX12_68 dX12_sea_29 (ly139 hY) ?_
    refine r_aload_n C dX12_sea_32 0 rfl ?_
    refine r_iconst C dX12_sea_33 ic_0 ?_
    refine r_putI C fiX12_89 dX12_sea_34 (ly139 hY) ?_
    refine r_aload_n C dX12_sea_37 0 rfl ?_
    refine r_iconst C dX12_sea_38 ic_0 ?_
    refine r_putI C fiX12_114 dX12_sea_39 (ly139 hY) ?_
    refine r_aload_n C dX12_sea_42 0 rfl ?_
    refine r_getR C flX12_24 dX12_sea_43 (ly139 hY) rfl (lr139_4 hY) ?_
    obtain ⟨m5, e4, h⟩ := bnd_inv h
    refine r_cSv (As := [.ref (wb (zw Z) + 143)]) (rest := []) C hR mlX12_64 dX12_sea_46 (tX12_plain hY n 143 2242 (ly143 hY) e4) rfl rfl (nle rfl) (nle rfl) (nle rfl) ?_
    refine r_aload_n C dX12_sea_49 0 rfl ?_
    obtain ⟨m7, e6, h⟩ := bnd_inv h
    refine r_cVv (As := []) (rest := []) C hR mlX12_123 dX12_sea_50 (tX12_next hY n  e6) rfl rfl (ly139 hY) rfl (nle rfl) (nle rfl) (nle rfl) ?_
    refine r_aload_n C dX12_sea_53 0 rfl ?_
    refine r_iconst C dX12_sea_54 ic_0 ?_
    obtain ⟨u9, m10, e8, h⟩ := bnd2_inv h
    refine r_cVi (As := [.int 0]) (rest := []) C hR mlX12_149 dX12_sea_55 (tX12_eats hY n 0  e8) rfl rfl (ly139 hY) rfl (nle rfl) (nle rfl) (nle rfl) ?_
    refine r_if_ne 66 C dX12_sea_58 (by decide) (fun c11 => ?_) (fun c11 => ?_)
    · have h := (ite_inv h).2 c11
      refine r_sub [(0, .ref (wb (zw Z) + 139))] [0] rfl ?_
      exact kX12_sea_66 C hR hY n   m10 h hr hE
    · have h := (ite_inv h).1 c11
      refine r_aload_n C dX12_sea_61 0 rfl ?_
      refine r_iconst C dX12_sea_62 ic_2 ?_
      obtain ⟨m33, e32, h⟩ := bnd_inv h
      refine r_cVv (As := [.int 2]) (rest := []) C hR mlX12_126 dX12_sea_63 (tX12_fails hY n 2  e32) rfl rfl (ly139 hY) rfl (nle rfl) (nle rfl) (nle rfl) ?_
      refine r_sub [(0, .ref (wb (zw Z) + 139))] [0] rfl ?_
      exact kX12_sea_66 C hR hY n   m33 h hr hE
  · have h := (ite_inv h).1 c3
    refine r_bipush C dX12_sea_19 bp_m3 ?_
    obtain ⟨h1, h2⟩ := Prod.mk.inj (Option.some.inj h)
    subst h1; subst h2
    exact r_iret C dX12_sea_21 hr hE
