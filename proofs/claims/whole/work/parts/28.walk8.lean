def sX12_widest_19 (n : Nat) (x1 : Int32) : Int32 × Int32 × Mu → Option ((Int32 × Int32 × Mu) ⊕ (Int32 × Mu)) := fun q => match q with | (x2, x3, μ) => if (rI μ 140 1) ≤ x3 then (some (.inr (x2, μ))) else (bnd2 (fX12_hearersOf n x3 0 x1 μ) fun u6 m7 => bnd (fX12_bitsOf n u6 m7) fun u9 => bnd2 (fX12_hearersOf n x2 0 x1 m7) fun u11 m12 => bnd (fX12_bitsOf n u11 m12) fun u14 => if u9 ≤ u14 then (some (.inl (x2, x3 + 1, m12))) else (some (.inl (x3, x3 + 1, m12))))
set_option maxRecDepth 100000 in
set_option maxHeartbeats 4000000 in
theorem lX12_widest_19 {Z : ZC} {sh : List Sh} {R : Rf} {o : (Int32 × Int32 × Mu) ⊕ (Int32 × Mu)} (C : CX Z cX12_widest 4 RX12) (hR : zR Z = rm 8 0 0) (hY : LY sh R) (n : Nat) (x1 : Int32) (x2 : Int32) (x3 : Int32) (μ : Mu) (h : sX12_widest_19 n x1 (x2, x3, μ) = some o) (kin : ∀ (x2 : Int32) (x3 : Int32) (μ : Mu), o = .inl (x2, x3, μ) → Wm Z (0, 0, sh, R) μ 19 [(0, .ref (wb (zw Z) + 139)), (1, .int x1), (2, .int x2), (3, .int x3)] []) (kex0 : ∀ (x2 : Int32) (μ : Mu), o = .inr (x2, μ) → Wm Z (0, 0, sh, R) μ 60 [(2, .int x2)] []) : Wm Z (0, 0, sh, R) μ 19 [(0, .ref (wb (zw Z) + 139)), (1, .int x1), (2, .int x2), (3, .int x3)] [] := by
  unfold sX12_widest_19 at h
  refine r_iload_n C dX12_widest_19 3 rfl ?_
  refine r_aload_n C dX12_widest_20 0 rfl ?_
  refine r_getR C flX12_13 dX12_widest_21 (ly139 hY) rfl (lr139_1 hY) ?_
  refine r_iconst C dX12_widest_24 ic_1 ?_
  refine r_iald C dX12_widest_25 (ly140 hY) (by decide) ?_
  refine r_icmp_ge 60 C dX12_widest_26 (by decide) (fun c4 => ?_) (fun c4 => ?_)
  · have h := (ite_inv h).1 c4
    refine r_sub [(2, .int x2)] [2] rfl ?_
    exact kex0 x2 μ (Option.some.inj h).symm
  · have h := (ite_inv h).2 c4
    refine r_aload_n C dX12_widest_29 0 rfl ?_
    refine r_iload_n C dX12_widest_30 3 rfl ?_
    refine r_iconst C dX12_widest_31 ic_0 ?_
    refine r_iload_n C dX12_widest_32 1 rfl ?_
    obtain ⟨u6, m7, e5, h⟩ := bnd2_inv h
    refine r_cVi (As := [.int x3, .int 0, .int x1]) (rest := []) C hR mlX12_351 dX12_widest_33 (tX12_hearersOf hY n x3 0 x1  e5) rfl rfl (ly139 hY) rfl (nle rfl) (nle rfl) (nle rfl) ?_
    obtain ⟨u9, e8, h⟩ := bnd_inv h
    refine r_cSi (As := [.int u6]) (rest := []) C hR mlX12_339 dX12_widest_36 (tX12_bitsOf hY n u6  e8) rfl rfl (nle rfl) (nle rfl) (nle rfl) ?_
    refine r_aload_n C dX12_widest_39 0 rfl ?_
    refine r_iload_n C dX12_widest_40 2 rfl ?_
    refine r_iconst C dX12_widest_41 ic_0 ?_
    refine r_iload_n C dX12_widest_42 1 rfl ?_
    obtain ⟨u11, m12, e10, h⟩ := bnd2_inv h
    refine r_cVi (As := [.int x2, .int 0, .int x1]) (rest := [.int u9]) C hR mlX12_351 dX12_widest_43 (tX12_hearersOf hY n x2 0 x1  e10) rfl rfl (ly139 hY) rfl (nle rfl) (nle rfl) (nle rfl) ?_
    obtain ⟨u14, e13, h⟩ := bnd_inv h
    refine r_cSi (As := [.int u11]) (rest := [.int u9]) C hR mlX12_339 dX12_widest_46 (tX12_bitsOf hY n u11  e13) rfl rfl (nle rfl) (nle rfl) (nle rfl) ?_
    refine r_icmp_le 54 C dX12_widest_49 (by decide) (fun c15 => ?_) (fun c15 => ?_)
    · have h := (ite_inv h).1 c15
      refine r_iinc [(3, .int (x3 + 1)), (0, .ref (wb (zw Z) + 139)), (1, .int x1), (2, .int x2)] C dX12_widest_54 3 rfl (in_1 _) (by decide) rfl ?_
      refine r_goto 19 C dX12_widest_57 (by decide) ?_
      refine r_sub [(0, .ref (wb (zw Z) + 139)), (1, .int x1), (2, .int x2), (3, .int (x3 + 1))] [1, 2, 3, 0] rfl ?_
      exact kin x2 (x3 + 1) m12 (Option.some.inj h).symm
    · have h := (ite_inv h).2 c15
      refine r_iload_n C dX12_widest_52 3 rfl ?_
      refine r_istore_n [(2, .int x3), (0, .ref (wb (zw Z) + 139)), (1, .int x1), (3, .int x3)] C dX12_widest_53 rfl (by decide) rfl ?_
      refine r_iinc [(3, .int (x3 + 1)), (2, .int x3), (0, .ref (wb (zw Z) + 139)), (1, .int x1)] C dX12_widest_54 3 rfl (in_1 _) (by decide) rfl ?_
      refine r_goto 19 C dX12_widest_57 (by decide) ?_
      refine r_sub [(0, .ref (wb (zw Z) + 139)), (1, .int x1), (2, .int x3), (3, .int (x3 + 1))] [2, 3, 1, 0] rfl ?_
      exact kin x3 (x3 + 1) m12 (Option.some.inj h).symm
def fX12_widest (n : Nat) (x1 : Int32) (μ : Mu) : Option (Int32 × Mu) := bnd (fX12_isSoon n x1 (wI μ 139 0 0)) fun u2 => if u2 = 0 then (some ((-3), wI μ 139 0 0)) else (bnd (lp n (sX12_widest_19 n x1) (0, 1, wI μ 139 0 0)) fun q => match q with | (u16, m17) => some (u16, m17))
set_option maxRecDepth 100000 in
set_option maxHeartbeats 4000000 in
theorem tX12_widest {l : Launch} {w : WP} {sh : List Sh} {R : Rf} {μ : Mu} {r : Int32} {μ' : Mu} (hY : LY sh R) (n : Nat) (x1 : Int32)  (h : fX12_widest n x1 μ = some (r, μ')) : CM l w yX12_widest cX12_widest 4 (some .int) 8 0 0 sh R [.ref (wb w + 139), .int x1] μ (some (.int r)) sh R μ' := by
  refine CM.of (plainFor_of_name pf_X12) (Nat.le_of_ble_eq_true rfl) fun Z C hr _ hR hw hl hE => ?_
  subst hw; subst hl
  have C : CX Z cX12_widest 4 RX12 := C
  show Wm Z (0, 0, sh, R) μ 0 [(0, .ref (wb (zw Z) + 139)), (1, .int x1)] []
  unfold fX12_widest at h
  refine r_aload_n C dX12_widest_0 0 rfl ?_
  refine r_iconst C dX12_widest_1 ic_0 ?_
  refine r_putI C fiX12_1 dX12_widest_2 (ly139 hY) ?_
  refine r_iload_n C dX12_widest_5 1 rfl ?_
  obtain ⟨u2, e1, h⟩ := bnd_inv h
  refine r_cSi (As := [.int x1]) (rest := []) C hR mlX12_348 dX12_widest_6 (tX12_isSoon hY n x1  e1) rfl rfl (nle rfl) (nle rfl) (nle rfl) ?_
  refine r_if_ne 15 C dX12_widest_9 (by decide) (fun c3 => ?_) (fun c3 => ?_)
  · have h := (ite_inv h).2 c3
    refine r_iconst C dX12_widest_15 ic_0 ?_
    refine r_istore_n [(2, .int 0), (0, .ref (wb (zw Z) + 139)), (1, .int x1)] C dX12_widest_16 rfl (by decide) rfl ?_
    refine r_iconst C dX12_widest_17 ic_1 ?_
    refine r_istore_n [(3, .int 1), (2, .int 0), (0, .ref (wb (zw Z) + 139)), (1, .int x1)] C dX12_widest_18 rfl (by decide) rfl ?_
    refine r_sub [(0, .ref (wb (zw Z) + 139)), (1, .int x1), (2, .int 0), (3, .int 1)] [2, 3, 1, 0] rfl ?_
    obtain ⟨⟨u16, m17⟩, e18, h⟩ := bnd_inv h
    refine lp_all (sX12_widest_19 n x1) (fun q => match q with | (z2, z3, ν) => Wm Z (0, 0, sh, R) (ν) 19 [(0, .ref (wb (zw Z) + 139)), (1, .int x1), (2, .int z2), (3, .int z3)] []) (fun q => match q with | (z2, ν) => Wm Z (0, 0, sh, R) (ν) 60 [(2, .int z2)] []) (fun q o h kin kex => ?_) n (0, 1, wI μ 139 0 0) (u16, m17) e18 ?_
    · obtain ⟨z2, z3, ν⟩ := q; exact lX12_widest_19 C hR hY n   x1 z2 z3 ν h (fun z2 z3 ν e => kin (z2, z3, ν) e) (fun z2 ν e => kex (z2, ν) e)
    show Wm Z (0, 0, sh, R) m17 60 [(2, .int u16)] []
    refine r_iload_n C dX12_widest_60 0 rfl ?_
    obtain ⟨h1, h2⟩ := Prod.mk.inj (Option.some.inj h)
    subst h1; subst h2
    exact r_iret C dX12_widest_61 hr hE
  · have h := (ite_inv h).1 c3
    refine r_bipush C dX12_widest_12 bp_m3 ?_
    obtain ⟨h1, h2⟩ := Prod.mk.inj (Option.some.inj h)
    subst h1; subst h2
    exact r_iret C dX12_widest_14 hr hE
def fX12_isHearer (n : Nat) (x1 : Int32) (x2 : Int32) (x3 : Int32) (μ : Mu) : Option (Int32 × Mu) := bnd2 (fX12_hearersOf n x1 0 x3 μ) fun u2 m3 => bnd (fX12_isIn n (u2.toInt64) x2 m3) fun u5 => gd (isb u5) (some (u5, m3))
set_option maxRecDepth 100000 in
set_option maxHeartbeats 4000000 in
theorem tX12_isHearer {l : Launch} {w : WP} {sh : List Sh} {R : Rf} {μ : Mu} {r : Int32} {μ' : Mu} (hY : LY sh R) (n : Nat) (x1 : Int32) (x2 : Int32) (x3 : Int32)  (h : fX12_isHearer n x1 x2 x3 μ = some (r, μ')) : CM l w yX12_isHearer cX12_isHearer 4 (some .boolean) 8 0 0 sh R [.ref (wb w + 139), .int x1, .int x2, .int x3] μ (some (.int r)) sh R μ' := by
  refine CM.of (plainFor_of_name pf_X12) (Nat.le_of_ble_eq_true rfl) fun Z C hr _ hR hw hl hE => ?_
  subst hw; subst hl
  have C : CX Z cX12_isHearer 4 RX12 := C
  show Wm Z (0, 0, sh, R) μ 0 [(0, .ref (wb (zw Z) + 139)), (1, .int x1), (2, .int x2), (3, .int x3)] []
  unfold fX12_isHearer at h
  refine r_aload_n C dX12_isHearer_0 0 rfl ?_
  refine r_iload_n C dX12_isHearer_1 1 rfl ?_
  refine r_iconst C dX12_isHearer_2 ic_0 ?_
  refine r_iload_n C dX12_isHearer_3 3 rfl ?_
  obtain ⟨u2, m3, e1, h⟩ := bnd2_inv h
  refine r_cVi (As := [.int x1, .int 0, .int x3]) (rest := []) C hR mlX12_351 dX12_isHearer_4 (tX12_hearersOf hY n x1 0 x3  e1) rfl rfl (ly139 hY) rfl (nle rfl) (nle rfl) (nle rfl) ?_
  refine r_i2l C dX12_isHearer_7 ?_
  refine r_iload_n C dX12_isHearer_8 2 rfl ?_
  obtain ⟨u5, e4, h⟩ := bnd_inv h
  refine r_cSi (As := [.long (u2.toInt64), .int x2]) (rest := []) C hR mlX12_213 dX12_isHearer_9 (tX12_isIn hY n (u2.toInt64) x2  e4) rfl rfl (nle rfl) (nle rfl) (nle rfl) ?_
  obtain ⟨b6, h⟩ := gd_inv h
  obtain ⟨h1, h2⟩ := Prod.mk.inj (Option.some.inj h)
  subst h1; subst h2
  exact r_zret C dX12_isHearer_12 hr (isb_n b6) hE
def sX12_isWithout_3 (n : Nat) (x1 : Int32) (x2 : Int32) (x3 : Int32) (x4 : Int32) (x5 : Int32) : Int32 × Mu → Option ((Int32 × Mu) ⊕ (Mu)) := fun q => match q with | (x6, μ) => if 8 ≤ x6 then (some (.inr μ)) else (gd (ib (68 + x6) 6726) (gd (ib x6 8) (if x4 = 0 then (some (.inl (x6 + 1, wI μ 147 (ix x6) (rI μ 140 (ix (68 + x6)))))) else (bnd (fX12_isIn n (x5.toInt64) x6 (wI μ 147 (ix x6) (rI μ 140 (ix (68 + x6))))) fun u6 => if u6 = 0 then (some (.inl (x6 + 1, wI μ 147 (ix x6) (rI μ 140 (ix (68 + x6)))))) else (gd (ib (68 + x6) 6726) (some (.inl (x6 + 1, wI (wI μ 147 (ix x6) (rI μ 140 (ix (68 + x6)))) 140 (ix (68 + x6)) (-1)))))))))
set_option maxRecDepth 100000 in
set_option maxHeartbeats 4000000 in
theorem lX12_isWithout_3 {Z : ZC} {sh : List Sh} {R : Rf} {o : (Int32 × Mu) ⊕ (Mu)} (C : CX Z cX12_isWithout 8 RX12) (hR : zR Z = rm 9 0 0) (hY : LY sh R) (n : Nat) (x1 : Int32) (x2 : Int32) (x3 : Int32) (x4 : Int32) (x5 : Int32) (x6 : Int32) (μ : Mu) (h : sX12_isWithout_3 n x1 x2 x3 x4 x5 (x6, μ) = some o) (kin : ∀ (x6 : Int32) (μ : Mu), o = .inl (x6, μ) → Wm Z (0, 0, sh, R) μ 3 [(0, .ref (wb (zw Z) + 139)), (1, .int x1), (2, .int x2), (3, .int x3), (4, .int x4), (5, .int x5), (6, .int x6)] []) (kex0 : ∀ (μ : Mu), o = .inr μ → Wm Z (0, 0, sh, R) μ 60 [(0, .ref (wb (zw Z) + 139)), (1, .int x1), (2, .int x2), (3, .int x3), (4, .int x4), (5, .int x5)] []) : Wm Z (0, 0, sh, R) μ 3 [(0, .ref (wb (zw Z) + 139)), (1, .int x1), (2, .int x2), (3, .int x3), (4, .int x4), (5, .int x5), (6, .int x6)] [] := by
  unfold sX12_isWithout_3 at h
  refine r_iload C dX12_isWithout_3 6 rfl ?_
  refine r_bipush C dX12_isWithout_5 bp_8 ?_
  refine r_icmp_ge 60 C dX12_isWithout_7 (by decide) (fun c1 => ?_) (fun c1 => ?_)
  · have h := (ite_inv h).1 c1
    refine r_sub [(0, .ref (wb (zw Z) + 139)), (1, .int x1), (2, .int x2), (3, .int x3), (4, .int x4), (5, .int x5)] [0, 1, 2, 3, 4, 5] rfl ?_
    exact kex0 μ (Option.some.inj h).symm
  · have h := (ite_inv h).2 c1
    refine r_aload_n C dX12_isWithout_10 0 rfl ?_
    refine r_getR C flX12_39 dX12_isWithout_11 (ly139 hY) rfl (lr139_21 hY) ?_
    refine r_iload C dX12_isWithout_14 6 rfl ?_
    refine r_aload_n C dX12_isWithout_16 0 rfl ?_
    refine r_getR C flX12_13 dX12_isWithout_17 (ly139 hY) rfl (lr139_1 hY) ?_
    refine r_bipush C dX12_isWithout_20 bp_68 ?_
    refine r_iload C dX12_isWithout_22 6 rfl ?_
    refine r_iadd C dX12_isWithout_24 ?_
    obtain ⟨b2, h⟩ := gd_inv h
    refine r_iald C dX12_isWithout_25 (ly140 hY) b2 ?_
    obtain ⟨b3, h⟩ := gd_inv h
    refine r_iast C dX12_isWithout_26 (ly147 hY) b3 ?_
    refine r_iload C dX12_isWithout_27 4 rfl ?_
    refine r_if_eq 54 C dX12_isWithout_29 (by decide) (fun c4 => ?_) (fun c4 => ?_)
    · have h := (ite_inv h).1 c4
      refine r_iinc [(6, .int (x6 + 1)), (0, .ref (wb (zw Z) + 139)), (1, .int x1), (2, .int x2), (3, .int x3), (4, .int x4), (5, .int x5)] C dX12_isWithout_54 6 rfl (in_1 _) (by decide) rfl ?_
      refine r_goto 3 C dX12_isWithout_57 (by decide) ?_
      refine r_sub [(0, .ref (wb (zw Z) + 139)), (1, .int x1), (2, .int x2), (3, .int x3), (4, .int x4), (5, .int x5), (6, .int (x6 + 1))] [1, 2, 3, 4, 5, 6, 0] rfl ?_
      exact kin (x6 + 1) (wI μ 147 (ix x6) (rI μ 140 (ix (68 + x6)))) (Option.some.inj h).symm
    · have h := (ite_inv h).2 c4
      refine r_iload C dX12_isWithout_32 5 rfl ?_
      refine r_i2l C dX12_isWithout_34 ?_
      refine r_iload C dX12_isWithout_35 6 rfl ?_
      obtain ⟨u6, e5, h⟩ := bnd_inv h
      refine r_cSi (As := [.long (x5.toInt64), .int x6]) (rest := []) C hR mlX12_213 dX12_isWithout_37 (tX12_isIn hY n (x5.toInt64) x6  e5) rfl rfl (nle rfl) (nle rfl) (nle rfl) ?_
      refine r_if_eq 54 C dX12_isWithout_40 (by decide) (fun c7 => ?_) (fun c7 => ?_)
      · have h := (ite_inv h).1 c7
        refine r_iinc [(6, .int (x6 + 1)), (0, .ref (wb (zw Z) + 139)), (1, .int x1), (2, .int x2), (3, .int x3), (4, .int x4), (5, .int x5)] C dX12_isWithout_54 6 rfl (in_1 _) (by decide) rfl ?_
        refine r_goto 3 C dX12_isWithout_57 (by decide) ?_
        refine r_sub [(0, .ref (wb (zw Z) + 139)), (1, .int x1), (2, .int x2), (3, .int x3), (4, .int x4), (5, .int x5), (6, .int (x6 + 1))] [1, 2, 3, 4, 5, 6, 0] rfl ?_
        exact kin (x6 + 1) (wI μ 147 (ix x6) (rI μ 140 (ix (68 + x6)))) (Option.some.inj h).symm
      · have h := (ite_inv h).2 c7
        refine r_aload_n C dX12_isWithout_43 0 rfl ?_
        refine r_getR C flX12_13 dX12_isWithout_44 (ly139 hY) rfl (lr139_1 hY) ?_
        refine r_bipush C dX12_isWithout_47 bp_68 ?_
        refine r_iload C dX12_isWithout_49 6 rfl ?_
        refine r_iadd C dX12_isWithout_51 ?_
        refine r_iconst C dX12_isWithout_52 ic_m1 ?_
        obtain ⟨b8, h⟩ := gd_inv h
        refine r_iast C dX12_isWithout_53 (ly140 hY) b8 ?_
        refine r_iinc [(6, .int (x6 + 1)), (0, .ref (wb (zw Z) + 139)), (1, .int x1), (2, .int x2), (3, .int x3), (4, .int x4), (5, .int x5)] C dX12_isWithout_54 6 rfl (in_1 _) (by decide) rfl ?_
        refine r_goto 3 C dX12_isWithout_57 (by decide) ?_
        refine r_sub [(0, .ref (wb (zw Z) + 139)), (1, .int x1), (2, .int x2), (3, .int x3), (4, .int x4), (5, .int x5), (6, .int (x6 + 1))] [1, 2, 3, 4, 5, 6, 0] rfl ?_
        exact kin (x6 + 1) (wI (wI μ 147 (ix x6) (rI μ 140 (ix (68 + x6)))) 140 (ix (68 + x6)) (-1)) (Option.some.inj h).symm
def sX12_isWithout_100 (n : Nat) (x6 : Int32) : Int32 × Mu → Option ((Int32 × Mu) ⊕ (Mu)) := fun q => match q with | (x7, μ) => if 8 ≤ x7 then (some (.inr μ)) else (gd (ib x7 8) (gd (ib (68 + x7) 6726) (some (.inl (x7 + 1, wI μ 140 (ix (68 + x7)) (rI μ 147 (ix x7)))))))
set_option maxRecDepth 100000 in
set_option maxHeartbeats 4000000 in
theorem lX12_isWithout_100 {Z : ZC} {sh : List Sh} {R : Rf} {o : (Int32 × Mu) ⊕ (Mu)} (C : CX Z cX12_isWithout 8 RX12) (hR : zR Z = rm 9 0 0) (hY : LY sh R) (n : Nat) (x6 : Int32) (x7 : Int32) (μ : Mu) (h : sX12_isWithout_100 n x6 (x7, μ) = some o) (kin : ∀ (x7 : Int32) (μ : Mu), o = .inl (x7, μ) → Wm Z (0, 0, sh, R) μ 100 [(0, .ref (wb (zw Z) + 139)), (6, .int x6), (7, .int x7)] []) (kex0 : ∀ (μ : Mu), o = .inr μ → Wm Z (0, 0, sh, R) μ 130 [(6, .int x6)] []) : Wm Z (0, 0, sh, R) μ 100 [(0, .ref (wb (zw Z) + 139)), (6, .int x6), (7, .int x7)] [] := by
  unfold sX12_isWithout_100 at h
  refine r_iload C dX12_isWithout_100 2 rfl ?_
  refine r_bipush C dX12_isWithout_102 bp_8 ?_
  refine r_icmp_ge 130 C dX12_isWithout_104 (by decide) (fun c16 => ?_) (fun c16 => ?_)
  · have h := (ite_inv h).1 c16
    refine r_sub [(6, .int x6)] [1] rfl ?_
    exact kex0 μ (Option.some.inj h).symm
  · have h := (ite_inv h).2 c16
    refine r_aload_n C dX12_isWithout_107 0 rfl ?_
    refine r_getR C flX12_13 dX12_isWithout_108 (ly139 hY) rfl (lr139_1 hY) ?_
    refine r_bipush C dX12_isWithout_111 bp_68 ?_
    refine r_iload C dX12_isWithout_113 2 rfl ?_
    refine r_iadd C dX12_isWithout_115 ?_
    refine r_aload_n C dX12_isWithout_116 0 rfl ?_
    refine r_getR C flX12_39 dX12_isWithout_117 (ly139 hY) rfl (lr139_21 hY) ?_
    refine r_iload C dX12_isWithout_120 2 rfl ?_
    obtain ⟨b17, h⟩ := gd_inv h
    refine r_iald C dX12_isWithout_122 (ly147 hY) b17 ?_
    obtain ⟨b18, h⟩ := gd_inv h
    refine r_iast C dX12_isWithout_123 (ly140 hY) b18 ?_
    refine r_iinc [(7, .int (x7 + 1)), (0, .ref (wb (zw Z) + 139)), (6, .int x6)] C dX12_isWithout_124 2 rfl (in_1 _) (by decide) rfl ?_
    refine r_goto 100 C dX12_isWithout_127 (by decide) ?_
    refine r_sub [(0, .ref (wb (zw Z) + 139)), (6, .int x6), (7, .int (x7 + 1))] [1, 2, 0] rfl ?_
    exact kin (x7 + 1) (wI μ 140 (ix (68 + x7)) (rI μ 147 (ix x7))) (Option.some.inj h).symm
def fX12_isWithout (n : Nat) (x1 : Int32) (x2 : Int32) (x3 : Int32) (x4 : Int32) (x5 : Int32) (μ : Mu) : Option (Int32 × Mu) := bnd (lp n (sX12_isWithout_3 n x1 x2 x3 x4 x5) (0, μ)) fun q => match q with | m9 => bnd2 (fX12_isHearer n x1 x2 x3 (wI m9 139 19 (if x4 = 0 then x5 else 0))) fun u13 m14 => bnd (lp n (sX12_isWithout_100 n (if u13 = 0 then 1 else 0 : Int32)) (0, wI m14 139 19 0)) fun q => match q with | m19 => gd (isb (if u13 = 0 then 1 else 0 : Int32)) (some ((if u13 = 0 then 1 else 0 : Int32), m19))
set_option maxRecDepth 100000 in
set_option maxHeartbeats 4000000 in
theorem tX12_isWithout {l : Launch} {w : WP} {sh : List Sh} {R : Rf} {μ : Mu} {r : Int32} {μ' : Mu} (hY : LY sh R) (n : Nat) (x1 : Int32) (x2 : Int32) (x3 : Int32) (x4 : Int32) (x5 : Int32)  (h : fX12_isWithout n x1 x2 x3 x4 x5 μ = some (r, μ')) : CM l w yX12_isWithout cX12_isWithout 8 (some .boolean) 9 0 0 sh R [.ref (wb w + 139), .int x1, .int x2, .int x3, .int x4, .int x5] μ (some (.int r)) sh R μ' := by
  refine CM.of (plainFor_of_name pf_X12) (Nat.le_of_ble_eq_true rfl) fun Z C hr _ hR hw hl hE => ?_
  subst hw; subst hl
  have C : CX Z cX12_isWithout 8 RX12 := C
  show Wm Z (0, 0, sh, R) μ 0 [(0, .ref (wb (zw Z) + 139)), (1, .int x1), (2, .int x2), (3, .int x3), (4, .int x4), (5, .int x5)] []
  unfold fX12_isWithout at h
  refine r_iconst C dX12_isWithout_0 ic_0 ?_
  refine r_istore [(6, .int 0), (0, .ref (wb (zw Z) + 139)), (1, .int x1), (2, .int x2), (3, .int x3), (4, .int x4), (5, .int x5)] C dX12_isWithout_1 (by decide) rfl ?_
  refine r_sub [(0, .ref (wb (zw Z) + 139)), (1, .int x1), (2, .int x2), (3, .int x3), (4, .int x4), (5, .int x5), (6, .int 0)] [1, 2, 3, 4, 5, 6, 0] rfl ?_
  obtain ⟨m9, e10, h⟩ := bnd_inv h
  refine lp_all (sX12_isWithout_3 n x1 x2 x3 x4 x5) (fun q => match q with | (z6, ν) => Wm Z (0, 0, sh, R) (ν) 3 [(0, .ref (wb (zw Z) + 139)), (1, .int x1), (2, .int x2), (3, .int x3), (4, .int x4), (5, .int x5), (6, .int z6)] []) (fun q => match q with | ν => Wm Z (0, 0, sh, R) (ν) 60 [(0, .ref (wb (zw Z) + 139)), (1, .int x1), (2, .int x2), (3, .int x3), (4, .int x4), (5, .int x5)] []) (fun q o h kin kex => ?_) n (0, μ) m9 e10 ?_
  · obtain ⟨z6, ν⟩ := q; exact lX12_isWithout_3 C hR hY n   x1 x2 x3 x4 x5 z6 ν h (fun z6 ν e => kin (z6, ν) e) (fun ν e => kex (ν) e)
  show Wm Z (0, 0, sh, R) m9 60 [(0, .ref (wb (zw Z) + 139)), (1, .int x1), (2, .int x2), (3, .int x3), (4, .int x4), (5, .int x5)] []
  refine r_aload_n C dX12_isWithout_60 0 rfl ?_
  refine r_iload C dX12_isWithout_61 4 rfl ?_
  suffices hj : Wm Z (0, 0, sh, R) m9 72 [(0, .ref (wb (zw Z) + 139)), (1, .int x1), (2, .int x2), (3, .int x3), (4, .int x4), (5, .int x5)] [.int (if x4 = 0 then x5 else 0), .ref (wb (zw Z) + 139)] by
    refine r_if_eq 70 C dX12_isWithout_63 (by decide) (fun c11 => ?_) (fun c11 => ?_)
    · refine r_iload C dX12_isWithout_70 5 rfl ?_
      exact sel_t c11 hj
    · refine r_iconst C dX12_isWithout_66 ic_0 ?_
      refine r_goto 72 C dX12_isWithout_67 (by decide) ?_
      exact sel_f c11 hj
  refine r_putI C fiX12_252 dX12_isWithout_72 (ly139 hY) ?_
  refine r_aload_n C dX12_isWithout_75 0 rfl ?_
  refine r_iload_n C dX12_isWithout_76 1 rfl ?_
  refine r_iload_n C dX12_isWithout_77 2 rfl ?_
  refine r_iload_n C dX12_isWithout_78 3 rfl ?_
  obtain ⟨u13, m14, e12, h⟩ := bnd2_inv h
  refine r_cVi (As := [.int x1, .int x2, .int x3]) (rest := []) C hR mlX12_358 dX12_isWithout_79 (tX12_isHearer hY n x1 x2 x3  e12) rfl rfl (ly139 hY) rfl (nle rfl) (nle rfl) (nle rfl) ?_
  suffices hj : Wm Z (0, 0, sh, R) m14 90 [(0, .ref (wb (zw Z) + 139)), (1, .int x1), (2, .int x2), (3, .int x3), (4, .int x4), (5, .int x5)] [.int (if u13 = 0 then 1 else 0 : Int32)] by
    refine r_if_ne 89 C dX12_isWithout_82 (by decide) (fun c15 => ?_) (fun c15 => ?_)
    · refine r_iconst C dX12_isWithout_89 ic_0 ?_
      exact sel_f c15 hj
    · refine r_iconst C dX12_isWithout_85 ic_1 ?_
      refine r_goto 90 C dX12_isWithout_86 (by decide) ?_
      exact sel_t c15 hj
  refine r_istore [(6, .int (if u13 = 0 then 1 else 0 : Int32)), (0, .ref (wb (zw Z) + 139)), (1, .int x1), (2, .int x2), (3, .int x3), (4, .int x4), (5, .int x5)] C dX12_isWithout_90 (by decide) rfl ?_
  refine r_aload_n C dX12_isWithout_92 1 rfl ?_
  refine r_iconst C dX12_isWithout_93 ic_0 ?_
  refine r_putI C fiX12_252 dX12_isWithout_94 (ly139 hY) ?_
  refine r_iconst C dX12_isWithout_97 ic_0 ?_
  refine r_istore [(7, .int 0), (6, .int (if u13 = 0 then 1 else 0 : Int32)), (0, .ref (wb (zw Z) + 139)), (1, .int x1), (2, .int x2), (3, .int x3), (4, .int x4), (5, .int x5)] C dX12_isWithout_98 (by decide) rfl ?_
  refine r_sub [(0, .ref (wb (zw Z) + 139)), (6, .int (if u13 = 0 then 1 else 0 : Int32)), (7, .int 0)] [2, 1, 0] rfl ?_
  obtain ⟨m19, e20, h⟩ := bnd_inv h
  refine lp_all (sX12_isWithout_100 n (if u13 = 0 then 1 else 0 : Int32)) (fun q => match q with | (z7, ν) => Wm Z (0, 0, sh, R) (ν) 100 [(0, .ref (wb (zw Z) + 139)), (6, .int (if u13 = 0 then 1 else 0 : Int32)), (7, .int z7)] []) (fun q => match q with | ν => Wm Z (0, 0, sh, R) (ν) 130 [(6, .int (if u13 = 0 then 1 else 0 : Int32))] []) (fun q o h kin kex => ?_) n (0, wI m14 139 19 0) m19 e20 ?_
  · obtain ⟨z7, ν⟩ := q; exact lX12_isWithout_100 C hR hY n   (if u13 = 0 then 1 else 0 : Int32) z7 ν h (fun z7 ν e => kin (z7, ν) e) (fun ν e => kex (ν) e)
  show Wm Z (0, 0, sh, R) m19 130 [(6, .int (if u13 = 0 then 1 else 0 : Int32))] []
  refine r_iload C dX12_isWithout_130 0 rfl ?_
  obtain ⟨b21, h⟩ := gd_inv h
  obtain ⟨h1, h2⟩ := Prod.mk.inj (Option.some.inj h)
  subst h1; subst h2
  exact r_zret C dX12_isWithout_132 hr (isb_n b21) hE
def jX12_fewestFor_55 (n : Nat) (x1 : Int32) (x2 : Int32) (x3 : Int32) (x4 : Int32) (x5 : Int32) (x6 : Int32) (μ : Mu) : Option ((Int32 × Int32 × Mu) ⊕ (Int32 × Mu)) := bnd2 (fX12_isWithout n x1 x2 x3 x4 x6 μ) fun u5 m6 => if u5 = 0 then (some (.inl (x5, x6 + 1, m6))) else (some (.inl (x6, x6 + 1, m6)))
set_option maxRecDepth 100000 in
set_option maxHeartbeats 4000000 in
theorem kX12_fewestFor_55 {Z : ZC} {sh : List Sh} {R : Rf} {o : (Int32 × Int32 × Mu) ⊕ (Int32 × Mu)} (C : CX Z cX12_fewestFor 7 RX12) (hR : zR Z = rm 10 0 0) (hY : LY sh R) (n : Nat) (x1 : Int32) (x2 : Int32) (x3 : Int32) (x4 : Int32) (x5 : Int32) (x6 : Int32) (μ : Mu) (h : jX12_fewestFor_55 n x1 x2 x3 x4 x5 x6 μ = some o) (kin : ∀ (x5 : Int32) (x6 : Int32) (μ : Mu), o = .inl (x5, x6, μ) → Wm Z (0, 0, sh, R) μ 6 [(0, .ref (wb (zw Z) + 139)), (1, .int x1), (2, .int x2), (3, .int x3), (4, .int x4), (5, .int x5), (6, .int x6)] []) (kex0 : ∀ (x5 : Int32) (μ : Mu), o = .inr (x5, μ) → Wm Z (0, 0, sh, R) μ 82 [(5, .int x5)] []) : Wm Z (0, 0, sh, R) μ 55 [(0, .ref (wb (zw Z) + 139)), (1, .int x1), (2, .int x2), (3, .int x3), (4, .int x4), (5, .int x5), (6, .int x6)] [] := by
  unfold jX12_fewestFor_55 at h
  refine r_aload_n C dX12_fewestFor_55 0 rfl ?_
  refine r_iload_n C dX12_fewestFor_56 1 rfl ?_
  refine r_iload_n C dX12_fewestFor_57 2 rfl ?_
  refine r_iload_n C dX12_fewestFor_58 3 rfl ?_
  refine r_iload C dX12_fewestFor_59 4 rfl ?_
  refine r_iload C dX12_fewestFor_61 6 rfl ?_
  obtain ⟨u5, m6, e4, h⟩ := bnd2_inv h
  refine r_cVi (As := [.int x1, .int x2, .int x3, .int x4, .int x6]) (rest := []) C hR mlX12_354 dX12_fewestFor_63 (tX12_isWithout hY n x1 x2 x3 x4 x6  e4) rfl rfl (ly139 hY) rfl (nle rfl) (nle rfl) (nle rfl) ?_
  refine r_if_ne 72 C dX12_fewestFor_66 (by decide) (fun c7 => ?_) (fun c7 => ?_)
  · have h := (ite_inv h).2 c7
    refine r_iload C dX12_fewestFor_72 6 rfl ?_
    refine r_istore [(5, .int x6), (0, .ref (wb (zw Z) + 139)), (1, .int x1), (2, .int x2), (3, .int x3), (4, .int x4), (6, .int x6)] C dX12_fewestFor_74 (by decide) rfl ?_
    refine r_iinc [(6, .int (x6 + 1)), (5, .int x6), (0, .ref (wb (zw Z) + 139)), (1, .int x1), (2, .int x2), (3, .int x3), (4, .int x4)] C dX12_fewestFor_76 6 rfl (in_1 _) (by decide) rfl ?_
    refine r_goto 6 C dX12_fewestFor_79 (by decide) ?_
    refine r_sub [(0, .ref (wb (zw Z) + 139)), (1, .int x1), (2, .int x2), (3, .int x3), (4, .int x4), (5, .int x6), (6, .int (x6 + 1))] [2, 3, 4, 5, 6, 1, 0] rfl ?_
    exact kin x6 (x6 + 1) m6 (Option.some.inj h).symm
  · have h := (ite_inv h).1 c7
    refine r_goto 76 C dX12_fewestFor_69 (by decide) ?_
    refine r_iinc [(6, .int (x6 + 1)), (0, .ref (wb (zw Z) + 139)), (1, .int x1), (2, .int x2), (3, .int x3), (4, .int x4), (5, .int x5)] C dX12_fewestFor_76 6 rfl (in_1 _) (by decide) rfl ?_
    refine r_goto 6 C dX12_fewestFor_79 (by decide) ?_
    refine r_sub [(0, .ref (wb (zw Z) + 139)), (1, .int x1), (2, .int x2), (3, .int x3), (4, .int x4), (5, .int x5), (6, .int (x6 + 1))] [1, 2, 3, 4, 5, 6, 0] rfl ?_
    exact kin x5 (x6 + 1) m6 (Option.some.inj h).symm
def jX12_fewestFor_29 (n : Nat) (x1 : Int32) (x2 : Int32) (x3 : Int32) (x4 : Int32) (x5 : Int32) (x6 : Int32) (s0 : Int32) (s1 : Int32) (s2 : Int32) (μ : Mu) : Option ((Int32 × Int32 × Mu) ⊕ (Int32 × Mu)) := if (shl s1 s0) ≤ s2 then (some (.inr (x5, μ))) else (if x5 = (-1) then (jX12_fewestFor_55 n x1 x2 x3 x4 x5 x6 μ) else (bnd (fX12_bitsOf n x6 μ) fun u9 => bnd (fX12_bitsOf n x5 μ) fun u11 => if u9 < u11 then (jX12_fewestFor_55 n x1 x2 x3 x4 x5 x6 μ) else (some (.inl (x5, x6 + 1, μ)))))
set_option maxRecDepth 100000 in
set_option maxHeartbeats 4000000 in
theorem kX12_fewestFor_29 {Z : ZC} {sh : List Sh} {R : Rf} {o : (Int32 × Int32 × Mu) ⊕ (Int32 × Mu)} (C : CX Z cX12_fewestFor 7 RX12) (hR : zR Z = rm 10 0 0) (hY : LY sh R) (n : Nat) (x1 : Int32) (x2 : Int32) (x3 : Int32) (x4 : Int32) (x5 : Int32) (x6 : Int32) (s0 : Int32) (s1 : Int32) (s2 : Int32) (μ : Mu) (h : jX12_fewestFor_29 n x1 x2 x3 x4 x5 x6 s0 s1 s2 μ = some o) (kin : ∀ (x5 : Int32) (x6 : Int32) (μ : Mu), o = .inl (x5, x6, μ) → Wm Z (0, 0, sh, R) μ 6 [(0, .ref (wb (zw Z) + 139)), (1, .int x1), (2, .int x2), (3, .int x3), (4, .int x4), (5, .int x5), (6, .int x6)] []) (kex0 : ∀ (x5 : Int32) (μ : Mu), o = .inr (x5, μ) → Wm Z (0, 0, sh, R) μ 82 [(5, .int x5)] []) : Wm Z (0, 0, sh, R) μ 29 [(0, .ref (wb (zw Z) + 139)), (1, .int x1), (2, .int x2), (3, .int x3), (4, .int x4), (5, .int x5), (6, .int x6)] [.int s0, .int s1, .int s2] := by
  unfold jX12_fewestFor_29 at h
  refine r_ishl C dX12_fewestFor_29 ?_
  refine r_icmp_ge 82 C dX12_fewestFor_30 (by decide) (fun c2 => ?_) (fun c2 => ?_)
  · have h := (ite_inv h).1 c2
    refine r_sub [(5, .int x5)] [5] rfl ?_
    exact kex0 x5 μ (Option.some.inj h).symm
  · have h := (ite_inv h).2 c2
    refine r_iload C dX12_fewestFor_33 5 rfl ?_
    refine r_iconst C dX12_fewestFor_35 ic_m1 ?_
    refine r_icmp_eq 55 C dX12_fewestFor_36 (by decide) (fun c3 => ?_) (fun c3 => ?_)
    · have h := (ite_inv h).1 c3
      exact kX12_fewestFor_55 C hR hY n   x1 x2 x3 x4 x5 x6 μ h kin kex0
    · have h := (ite_inv h).2 c3
      refine r_iload C dX12_fewestFor_39 6 rfl ?_
      obtain ⟨u9, e8, h⟩ := bnd_inv h
      refine r_cSi (As := [.int x6]) (rest := []) C hR mlX12_339 dX12_fewestFor_41 (tX12_bitsOf hY n x6  e8) rfl rfl (nle rfl) (nle rfl) (nle rfl) ?_
      refine r_iload C dX12_fewestFor_44 5 rfl ?_
      obtain ⟨u11, e10, h⟩ := bnd_inv h
      refine r_cSi (As := [.int x5]) (rest := [.int u9]) C hR mlX12_339 dX12_fewestFor_46 (tX12_bitsOf hY n x5  e10) rfl rfl (nle rfl) (nle rfl) (nle rfl) ?_
      refine r_icmp_lt 55 C dX12_fewestFor_49 (by decide) (fun c12 => ?_) (fun c12 => ?_)
      · have h := (ite_inv h).1 c12
        exact kX12_fewestFor_55 C hR hY n   x1 x2 x3 x4 x5 x6 μ h kin kex0
      · have h := (ite_inv h).2 c12
        refine r_goto 76 C dX12_fewestFor_52 (by decide) ?_
        refine r_iinc [(6, .int (x6 + 1)), (0, .ref (wb (zw Z) + 139)), (1, .int x1), (2, .int x2), (3, .int x3), (4, .int x4), (5, .int x5)] C dX12_fewestFor_76 6 rfl (in_1 _) (by decide) rfl ?_
        refine r_goto 6 C dX12_fewestFor_79 (by decide) ?_
        refine r_sub [(0, .ref (wb (zw Z) + 139)), (1, .int x1), (2, .int x2), (3, .int x3), (4, .int x4), (5, .int x5), (6, .int (x6 + 1))] [1, 2, 3, 4, 5, 6, 0] rfl ?_
        exact kin x5 (x6 + 1) μ (Option.some.inj h).symm
def sX12_fewestFor_6 (n : Nat) (x1 : Int32) (x2 : Int32) (x3 : Int32) (x4 : Int32) : Int32 × Int32 × Mu → Option ((Int32 × Int32 × Mu) ⊕ (Int32 × Mu)) := fun q => match q with | (x5, x6, μ) => if x4 = 0 then (jX12_fewestFor_29 n x1 x2 x3 x4 x5 x6 (rI μ 140 2) 1 x6 μ) else (jX12_fewestFor_29 n x1 x2 x3 x4 x5 x6 (rI μ 140 4) 1 x6 μ)
set_option maxRecDepth 100000 in
set_option maxHeartbeats 4000000 in
theorem lX12_fewestFor_6 {Z : ZC} {sh : List Sh} {R : Rf} {o : (Int32 × Int32 × Mu) ⊕ (Int32 × Mu)} (C : CX Z cX12_fewestFor 7 RX12) (hR : zR Z = rm 10 0 0) (hY : LY sh R) (n : Nat) (x1 : Int32) (x2 : Int32) (x3 : Int32) (x4 : Int32) (x5 : Int32) (x6 : Int32) (μ : Mu) (h : sX12_fewestFor_6 n x1 x2 x3 x4 (x5, x6, μ) = some o) (kin : ∀ (x5 : Int32) (x6 : Int32) (μ : Mu), o = .inl (x5, x6, μ) → Wm Z (0, 0, sh, R) μ 6 [(0, .ref (wb (zw Z) + 139)), (1, .int x1), (2, .int x2), (3, .int x3), (4, .int x4), (5, .int x5), (6, .int x6)] []) (kex0 : ∀ (x5 : Int32) (μ : Mu), o = .inr (x5, μ) → Wm Z (0, 0, sh, R) μ 82 [(5, .int x5)] []) : Wm Z (0, 0, sh, R) μ 6 [(0, .ref (wb (zw Z) + 139)), (1, .int x1), (2, .int x2), (3, .int x3), (4, .int x4), (5, .int x5), (6, .int x6)] [] := by
  unfold sX12_fewestFor_6 at h
  refine r_iload C dX12_fewestFor_6 6 rfl ?_
  refine r_iconst C dX12_fewestFor_8 ic_1 ?_
  refine r_iload C dX12_fewestFor_9 4 rfl ?_
  refine r_if_eq 23 C dX12_fewestFor_11 (by decide) (fun c1 => ?_) (fun c1 => ?_)
  · have h := (ite_inv h).1 c1
    refine r_aload_n C dX12_fewestFor_23 0 rfl ?_
    refine r_getR C flX12_13 dX12_fewestFor_24 (ly139 hY) rfl (lr139_1 hY) ?_
    refine r_iconst C dX12_fewestFor_27 ic_2 ?_
    refine r_iald C dX12_fewestFor_28 (ly140 hY) (by decide) ?_
    exact kX12_fewestFor_29 C hR hY n   x1 x2 x3 x4 x5 x6 (rI μ 140 2) 1 x6 μ h kin kex0
  · have h := (ite_inv h).2 c1
    refine r_aload_n C dX12_fewestFor_14 0 rfl ?_
    refine r_getR C flX12_13 dX12_fewestFor_15 (ly139 hY) rfl (lr139_1 hY) ?_
    refine r_iconst C dX12_fewestFor_18 ic_4 ?_
    refine r_iald C dX12_fewestFor_19 (ly140 hY) (by decide) ?_
    refine r_goto 29 C dX12_fewestFor_20 (by decide) ?_
    exact kX12_fewestFor_29 C hR hY n   x1 x2 x3 x4 x5 x6 (rI μ 140 4) 1 x6 μ h kin kex0
def fX12_fewestFor (n : Nat) (x1 : Int32) (x2 : Int32) (x3 : Int32) (x4 : Int32) (μ : Mu) : Option (Int32 × Mu) := bnd (lp n (sX12_fewestFor_6 n x1 x2 x3 x4) ((-1), 0, μ)) fun q => match q with | (u13, m14) => some (u13, m14)
set_option maxRecDepth 100000 in
set_option maxHeartbeats 4000000 in
theorem tX12_fewestFor {l : Launch} {w : WP} {sh : List Sh} {R : Rf} {μ : Mu} {r : Int32} {μ' : Mu} (hY : LY sh R) (n : Nat) (x1 : Int32) (x2 : Int32) (x3 : Int32) (x4 : Int32)  (h : fX12_fewestFor n x1 x2 x3 x4 μ = some (r, μ')) : CM l w yX12_fewestFor cX12_fewestFor 7 (some .int) 10 0 0 sh R [.ref (wb w + 139), .int x1, .int x2, .int x3, .int x4] μ (some (.int r)) sh R μ' := by
  refine CM.of (plainFor_of_name pf_X12) (Nat.le_of_ble_eq_true rfl) fun Z C hr _ hR hw hl hE => ?_
  subst hw; subst hl
  have C : CX Z cX12_fewestFor 7 RX12 := C
  show Wm Z (0, 0, sh, R) μ 0 [(0, .ref (wb (zw Z) + 139)), (1, .int x1), (2, .int x2), (3, .int x3), (4, .int x4)] []
  unfold fX12_fewestFor at h
  refine r_iconst C dX12_fewestFor_0 ic_m1 ?_
  refine r_istore [(5, .int (-1)), (0, .ref (wb (zw Z) + 139)), (1, .int x1), (2, .int x2), (3, .int x3), (4, .int x4)] C dX12_fewestFor_1 (by decide) rfl ?_
  refine r_iconst C dX12_fewestFor_3 ic_0 ?_
  refine r_istore [(6, .int 0), (5, .int (-1)), (0, .ref (wb (zw Z) + 139)), (1, .int x1), (2, .int x2), (3, .int x3), (4, .int x4)] C dX12_fewestFor_4 (by decide) rfl ?_
  refine r_sub [(0, .ref (wb (zw Z) + 139)), (1, .int x1), (2, .int x2), (3, .int x3), (4, .int x4), (5, .int (-1)), (6, .int 0)] [2, 3, 4, 5, 6, 1, 0] rfl ?_
  obtain ⟨⟨u13, m14⟩, e15, h⟩ := bnd_inv h
  refine lp_all (sX12_fewestFor_6 n x1 x2 x3 x4) (fun q => match q with | (z5, z6, ν) => Wm Z (0, 0, sh, R) (ν) 6 [(0, .ref (wb (zw Z) + 139)), (1, .int x1), (2, .int x2), (3, .int x3), (4, .int x4), (5, .int z5), (6, .int z6)] []) (fun q => match q with | (z5, ν) => Wm Z (0, 0, sh, R) (ν) 82 [(5, .int z5)] []) (fun q o h kin kex => ?_) n ((-1), 0, μ) (u13, m14) e15 ?_
  · obtain ⟨z5, z6, ν⟩ := q; exact lX12_fewestFor_6 C hR hY n   x1 x2 x3 x4 z5 z6 ν h (fun z5 z6 ν e => kin (z5, z6, ν) e) (fun z5 ν e => kex (z5, ν) e)
  show Wm Z (0, 0, sh, R) m14 82 [(5, .int u13)] []
  refine r_iload C dX12_fewestFor_82 0 rfl ?_
  obtain ⟨h1, h2⟩ := Prod.mk.inj (Option.some.inj h)
  subst h1; subst h2
  exact r_iret C dX12_fewestFor_84 hr hE
def fX12_without (n : Nat) (x1 : Int32) (x2 : Int32) (x3 : Int32) (x4 : Int32) (x5 : Int32) (μ : Mu) : Option (Int32 × Mu) := bnd (fX12_isBeach n (x1.toInt64) μ) fun u2 => if u2 = 0 then (some ((-2), μ)) else (bnd (fX12_isPerson n (x2.toInt64) μ) fun u5 => if u5 = 0 then (some ((-2), μ)) else (bnd (fX12_within n (x4.toInt64) 0 1 μ) fun u8 => if u8 = 0 then (some ((-2), μ)) else (bnd (fX12_isSoon n x3 μ) fun u11 => if u11 = 0 then (some ((-3), μ)) else (bnd2 (fX12_fewestFor n x1 x2 x3 x5 μ) fun u14 m15 => if u14 = (-1) then (some (u14, m15)) else (if x4 = 1 then (some (u14, m15)) else (bnd (fX12_bitsOf n u14 m15) fun u19 => some (u19, m15)))))))
set_option maxRecDepth 100000 in
set_option maxHeartbeats 4000000 in
theorem tX12_without {l : Launch} {w : WP} {sh : List Sh} {R : Rf} {μ : Mu} {r : Int32} {μ' : Mu} (hY : LY sh R) (n : Nat) (x1 : Int32) (x2 : Int32) (x3 : Int32) (x4 : Int32) (x5 : Int32)  (h : fX12_without n x1 x2 x3 x4 x5 μ = some (r, μ')) : CM l w yX12_without cX12_without 7 (some .int) 11 0 0 sh R [.ref (wb w + 139), .int x1, .int x2, .int x3, .int x4, .int x5] μ (some (.int r)) sh R μ' := by
  refine CM.of (plainFor_of_name pf_X12) (Nat.le_of_ble_eq_true rfl) fun Z C hr _ hR hw hl hE => ?_
  subst hw; subst hl
  have C : CX Z cX12_without 7 RX12 := C
  show Wm Z (0, 0, sh, R) μ 0 [(0, .ref (wb (zw Z) + 139)), (1, .int x1), (2, .int x2), (3, .int x3), (4, .int x4), (5, .int x5)] []
  unfold fX12_without at h
  refine r_aload_n C dX12_without_0 0 rfl ?_
  refine r_iload_n C dX12_without_1 1 rfl ?_
  refine r_i2l C dX12_without_2 ?_
  obtain ⟨u2, e1, h⟩ := bnd_inv h
  refine r_cVi (As := [.long (x1.toInt64)]) (rest := []) C hR mlX12_244 dX12_without_3 (tX12_isBeach hY n (x1.toInt64)  e1) rfl rfl (ly139 hY) rfl (nle rfl) (nle rfl) (nle rfl) ?_
  refine r_if_eq 29 C dX12_without_6 (by decide) (fun c3 => ?_) (fun c3 => ?_)
  · have h := (ite_inv h).1 c3
    refine r_bipush C dX12_without_29 bp_m2 ?_
    obtain ⟨h1, h2⟩ := Prod.mk.inj (Option.some.inj h)
    subst h1; subst h2
    exact r_iret C dX12_without_31 hr hE
  · have h := (ite_inv h).2 c3
    refine r_aload_n C dX12_without_9 0 rfl ?_
    refine r_iload_n C dX12_without_10 2 rfl ?_
    refine r_i2l C dX12_without_11 ?_
    obtain ⟨u5, e4, h⟩ := bnd_inv h
    refine r_cVi (As := [.long (x2.toInt64)]) (rest := []) C hR mlX12_224 dX12_without_12 (tX12_isPerson hY n (x2.toInt64)  e4) rfl rfl (ly139 hY) rfl (nle rfl) (nle rfl) (nle rfl) ?_
    refine r_if_eq 29 C dX12_without_15 (by decide) (fun c6 => ?_) (fun c6 => ?_)
    · have h := (ite_inv h).1 c6
      refine r_bipush C dX12_without_29 bp_m2 ?_
      obtain ⟨h1, h2⟩ := Prod.mk.inj (Option.some.inj h)
      subst h1; subst h2
      exact r_iret C dX12_without_31 hr hE
    · have h := (ite_inv h).2 c6
      refine r_iload C dX12_without_18 4 rfl ?_
      refine r_i2l C dX12_without_20 ?_
      refine r_lconst C dX12_without_21 lc_0 ?_
      refine r_lconst C dX12_without_22 lc_1 ?_
      obtain ⟨u8, e7, h⟩ := bnd_inv h
      refine r_cSi (As := [.long (x4.toInt64), .long 0, .long 1]) (rest := []) C hR mlX12_130 dX12_without_23 (tX12_within hY n (x4.toInt64) 0 1  e7) rfl rfl (nle rfl) (nle rfl) (nle rfl) ?_
      refine r_if_ne 32 C dX12_without_26 (by decide) (fun c9 => ?_) (fun c9 => ?_)
      · have h := (ite_inv h).2 c9
        refine r_iload_n C dX12_without_32 3 rfl ?_
        obtain ⟨u11, e10, h⟩ := bnd_inv h
        refine r_cSi (As := [.int x3]) (rest := []) C hR mlX12_348 dX12_without_33 (tX12_isSoon hY n x3  e10) rfl rfl (nle rfl) (nle rfl) (nle rfl) ?_
        refine r_if_ne 42 C dX12_without_36 (by decide) (fun c12 => ?_) (fun c12 => ?_)
        · have h := (ite_inv h).2 c12
          refine r_aload_n C dX12_without_42 0 rfl ?_
          refine r_iload_n C dX12_without_43 1 rfl ?_
          refine r_iload_n C dX12_without_44 2 rfl ?_
          refine r_iload_n C dX12_without_45 3 rfl ?_
          refine r_iload C dX12_without_46 5 rfl ?_
          obtain ⟨u14, m15, e13, h⟩ := bnd2_inv h
          refine r_cVi (As := [.int x1, .int x2, .int x3, .int x5]) (rest := []) C hR mlX12_362 dX12_without_48 (tX12_fewestFor hY n x1 x2 x3 x5  e13) rfl rfl (ly139 hY) rfl (nle rfl) (nle rfl) (nle rfl) ?_
          refine r_istore [(6, .int u14), (0, .ref (wb (zw Z) + 139)), (1, .int x1), (2, .int x2), (3, .int x3), (4, .int x4), (5, .int x5)] C dX12_without_51 (by decide) rfl ?_
          refine r_iload C dX12_without_53 0 rfl ?_
          refine r_iconst C dX12_without_55 ic_m1 ?_
          refine r_icmp_eq 65 C dX12_without_56 (by decide) (fun c16 => ?_) (fun c16 => ?_)
          · have h := (ite_inv h).1 c16
            refine r_iload C dX12_without_65 0 rfl ?_
            refine r_goto 75 C dX12_without_67 (by decide) ?_
            obtain ⟨h1, h2⟩ := Prod.mk.inj (Option.some.inj h)
            subst h1; subst h2
            exact r_iret C dX12_without_75 hr hE
          · have h := (ite_inv h).2 c16
            refine r_iload C dX12_without_59 5 rfl ?_
            refine r_iconst C dX12_without_61 ic_1 ?_
            refine r_icmp_ne 70 C dX12_without_62 (by decide) (fun c17 => ?_) (fun c17 => ?_)
            · have h := (ite_inv h).2 c17
              refine r_iload C dX12_without_70 0 rfl ?_
              obtain ⟨u19, e18, h⟩ := bnd_inv h
              refine r_cSi (As := [.int u14]) (rest := []) C hR mlX12_339 dX12_without_72 (tX12_bitsOf hY n u14  e18) rfl rfl (nle rfl) (nle rfl) (nle rfl) ?_
              obtain ⟨h1, h2⟩ := Prod.mk.inj (Option.some.inj h)
              subst h1; subst h2
              exact r_iret C dX12_without_75 hr hE
            · have h := (ite_inv h).1 c17
              refine r_iload C dX12_without_65 0 rfl ?_
              refine r_goto 75 C dX12_without_67 (by decide) ?_
              obtain ⟨h1, h2⟩ := Prod.mk.inj (Option.some.inj h)
              subst h1; subst h2
              exact r_iret C dX12_without_75 hr hE
        · have h := (ite_inv h).1 c12
          refine r_bipush C dX12_without_39 bp_m3 ?_
          obtain ⟨h1, h2⟩ := Prod.mk.inj (Option.some.inj h)
          subst h1; subst h2
          exact r_iret C dX12_without_41 hr hE
      · have h := (ite_inv h).1 c9
        refine r_bipush C dX12_without_29 bp_m2 ?_
        obtain ⟨h1, h2⟩ := Prod.mk.inj (Option.some.inj h)
        subst h1; subst h2
        exact r_iret C dX12_without_31 hr hE
def fX12_shut (n : Nat) (x1 : Int32) (x2 : Int32) (x3 : Int32) (x4 : Int32) (μ : Mu) : Option (Int32 × Mu) := bnd2 (fX12_without n x1 x2 x3 x4 0 (wI μ 139 0 0)) fun u2 m3 => some (u2, m3)
set_option maxRecDepth 100000 in
set_option maxHeartbeats 4000000 in
theorem tX12_shut {l : Launch} {w : WP} {sh : List Sh} {R : Rf} {μ : Mu} {r : Int32} {μ' : Mu} (hY : LY sh R) (n : Nat) (x1 : Int32) (x2 : Int32) (x3 : Int32) (x4 : Int32)  (h : fX12_shut n x1 x2 x3 x4 μ = some (r, μ')) : CM l w yX12_shut cX12_shut 5 (some .int) 12 0 0 sh R [.ref (wb w + 139), .int x1, .int x2, .int x3, .int x4] μ (some (.int r)) sh R μ' := by
  refine CM.of (plainFor_of_name pf_X12) (Nat.le_of_ble_eq_true rfl) fun Z C hr _ hR hw hl hE => ?_
  subst hw; subst hl
  have C : CX Z cX12_shut 5 RX12 := C
  show Wm Z (0, 0, sh, R) μ 0 [(0, .ref (wb (zw Z) + 139)), (1, .int x1), (2, .int x2), (3, .int x3), (4, .int x4)] []
  unfold fX12_shut at h
  refine r_aload_n C dX12_shut_0 0 rfl ?_
  refine r_iconst C dX12_shut_1 ic_0 ?_
  refine r_putI C fiX12_1 dX12_shut_2 (ly139 hY) ?_
  refine r_aload_n C dX12_shut_5 0 rfl ?_
  refine r_iload_n C dX12_shut_6 1 rfl ?_
  refine r_iload_n C dX12_shut_7 2 rfl ?_
  refine r_iload_n C dX12_shut_8 3 rfl ?_
  refine r_iload C dX12_shut_9 4 rfl ?_
  refine r_iconst C dX12_shut_11 ic_0 ?_
  obtain ⟨u2, m3, e1, h⟩ := bnd2_inv h
  refine r_cVi (As := [.int x1, .int x2, .int x3, .int x4, .int 0]) (rest := []) C hR mlX12_366 dX12_shut_12 (tX12_without hY n x1 x2 x3 x4 0  e1) rfl rfl (ly139 hY) rfl (nle rfl) (nle rfl) (nle rfl) ?_
  obtain ⟨h1, h2⟩ := Prod.mk.inj (Option.some.inj h)
  subst h1; subst h2
  exact r_iret C dX12_shut_15 hr hE
def fX12_take (n : Nat) (x1 : Int32) (x2 : Int32) (x3 : Int32) (x4 : Int32) (μ : Mu) : Option (Int32 × Mu) := bnd2 (fX12_without n x1 x2 x3 x4 1 (wI μ 139 0 0)) fun u2 m3 => some (u2, m3)
set_option maxRecDepth 100000 in
set_option maxHeartbeats 4000000 in
theorem tX12_take {l : Launch} {w : WP} {sh : List Sh} {R : Rf} {μ : Mu} {r : Int32} {μ' : Mu} (hY : LY sh R) (n : Nat) (x1 : Int32) (x2 : Int32) (x3 : Int32) (x4 : Int32)  (h : fX12_take n x1 x2 x3 x4 μ = some (r, μ')) : CM l w yX12_take cX12_take 5 (some .int) 12 0 0 sh R [.ref (wb w + 139), .int x1, .int x2, .int x3, .int x4] μ (some (.int r)) sh R μ' := by
  refine CM.of (plainFor_of_name pf_X12) (Nat.le_of_ble_eq_true rfl) fun Z C hr _ hR hw hl hE => ?_
  subst hw; subst hl
  have C : CX Z cX12_take 5 RX12 := C
  show Wm Z (0, 0, sh, R) μ 0 [(0, .ref (wb (zw Z) + 139)), (1, .int x1), (2, .int x2), (3, .int x3), (4, .int x4)] []
  unfold fX12_take at h
  refine r_aload_n C dX12_take_0 0 rfl ?_
  refine r_iconst C dX12_take_1 ic_0 ?_
  refine r_putI C fiX12_1 dX12_take_2 (ly139 hY) ?_
  refine r_aload_n C dX12_take_5 0 rfl ?_
  refine r_iload_n C dX12_take_6 1 rfl ?_
  refine r_iload_n C dX12_take_7 2 rfl ?_
  refine r_iload_n C dX12_take_8 3 rfl ?_
  refine r_iload C dX12_take_9 4 rfl ?_
  refine r_iconst C dX12_take_11 ic_1 ?_
  obtain ⟨u2, m3, e1, h⟩ := bnd2_inv h
  refine r_cVi (As := [.int x1, .int x2, .int x3, .int x4, .int 1]) (rest := []) C hR mlX12_366 dX12_take_12 (tX12_without hY n x1 x2 x3 x4 1  e1) rfl rfl (ly139 hY) rfl (nle rfl) (nle rfl) (nle rfl) ?_
  obtain ⟨h1, h2⟩ := Prod.mk.inj (Option.some.inj h)
  subst h1; subst h2
  exact r_iret C dX12_take_15 hr hE
def sX12_needs_44 (n : Nat) (x1 : Int32) (x2 : Int32) (x3 : Int32) : Int32 × Int32 × Mu → Option ((Int32 × Int32 × Mu) ⊕ (Int32 × Mu)) := fun q => match q with | (x4, x5, μ) => if (rI μ 140 2) ≤ x5 then (some (.inr (x4, μ))) else (bnd2 (fX12_hearersOf n x1 0 x2 (wI μ 139 19 (shl 1 x5))) fun u14 m15 => bnd (fX12_bitsOf n u14 m15) fun u17 => some (.inl (x4 ||| (if x3 ≤ u17 then 0 else (shl 1 x5)), x5 + 1, m15)))
set_option maxRecDepth 100000 in
set_option maxHeartbeats 4000000 in
theorem lX12_needs_44 {Z : ZC} {sh : List Sh} {R : Rf} {o : (Int32 × Int32 × Mu) ⊕ (Int32 × Mu)} (C : CX Z cX12_needs 6 RX12) (hR : zR Z = rm 8 0 0) (hY : LY sh R) (n : Nat) (x1 : Int32) (x2 : Int32) (x3 : Int32) (x4 : Int32) (x5 : Int32) (μ : Mu) (h : sX12_needs_44 n x1 x2 x3 (x4, x5, μ) = some o) (kin : ∀ (x4 : Int32) (x5 : Int32) (μ : Mu), o = .inl (x4, x5, μ) → Wm Z (0, 0, sh, R) μ 44 [(0, .ref (wb (zw Z) + 139)), (1, .int x1), (2, .int x2), (3, .int x3), (4, .int x4), (5, .int x5)] []) (kex0 : ∀ (x4 : Int32) (μ : Mu), o = .inr (x4, μ) → Wm Z (0, 0, sh, R) μ 96 [(0, .ref (wb (zw Z) + 139)), (4, .int x4)] []) : Wm Z (0, 0, sh, R) μ 44 [(0, .ref (wb (zw Z) + 139)), (1, .int x1), (2, .int x2), (3, .int x3), (4, .int x4), (5, .int x5)] [] := by
  unfold sX12_needs_44 at h
  refine r_iload C dX12_needs_44 5 rfl ?_
  refine r_aload_n C dX12_needs_46 0 rfl ?_
  refine r_getR C flX12_13 dX12_needs_47 (ly139 hY) rfl (lr139_1 hY) ?_
  refine r_iconst C dX12_needs_50 ic_2 ?_
  refine r_iald C dX12_needs_51 (ly140 hY) (by decide) ?_
  refine r_icmp_ge 96 C dX12_needs_52 (by decide) (fun c12 => ?_) (fun c12 => ?_)
  · have h := (ite_inv h).1 c12
    refine r_sub [(0, .ref (wb (zw Z) + 139)), (4, .int x4)] [0, 4] rfl ?_
    exact kex0 x4 μ (Option.some.inj h).symm
  · have h := (ite_inv h).2 c12
    refine r_aload_n C dX12_needs_55 0 rfl ?_
    refine r_iconst C dX12_needs_56 ic_1 ?_
    refine r_iload C dX12_needs_57 5 rfl ?_
    refine r_ishl C dX12_needs_59 ?_
    refine r_putI C fiX12_252 dX12_needs_60 (ly139 hY) ?_
    refine r_iload C dX12_needs_63 4 rfl ?_
    refine r_aload_n C dX12_needs_65 0 rfl ?_
    refine r_iload_n C dX12_needs_66 1 rfl ?_
    refine r_iconst C dX12_needs_67 ic_0 ?_
    refine r_iload_n C dX12_needs_68 2 rfl ?_
    obtain ⟨u14, m15, e13, h⟩ := bnd2_inv h
    refine r_cVi (As := [.int x1, .int 0, .int x2]) (rest := [.int x4]) C hR mlX12_351 dX12_needs_69 (tX12_hearersOf hY n x1 0 x2  e13) rfl rfl (ly139 hY) rfl (nle rfl) (nle rfl) (nle rfl) ?_
    obtain ⟨u17, e16, h⟩ := bnd_inv h
    refine r_cSi (As := [.int u14]) (rest := [.int x4]) C hR mlX12_339 dX12_needs_72 (tX12_bitsOf hY n u14  e16) rfl rfl (nle rfl) (nle rfl) (nle rfl) ?_
    refine r_iload_n C dX12_needs_75 3 rfl ?_
    suffices hj : Wm Z (0, 0, sh, R) m15 87 [(0, .ref (wb (zw Z) + 139)), (1, .int x1), (2, .int x2), (3, .int x3), (4, .int x4), (5, .int x5)] [.int (if x3 ≤ u17 then 0 else (shl 1 x5)), .int x4] by
      refine r_icmp_ge 86 C dX12_needs_76 (by decide) (fun c18 => ?_) (fun c18 => ?_)
      · refine r_iconst C dX12_needs_86 ic_0 ?_
        exact sel_t c18 hj
      · refine r_iconst C dX12_needs_79 ic_1 ?_
        refine r_iload C dX12_needs_80 5 rfl ?_
        refine r_ishl C dX12_needs_82 ?_
        refine r_goto 87 C dX12_needs_83 (by decide) ?_
        exact sel_f c18 hj
    refine r_ior C dX12_needs_87 ?_
    refine r_istore [(4, .int (x4 ||| (if x3 ≤ u17 then 0 else (shl 1 x5)))), (0, .ref (wb (zw Z) + 139)), (1, .int x1), (2, .int x2), (3, .int x3), (5, .int x5)] C dX12_needs_88 (by decide) rfl ?_
    refine r_iinc [(5, .int (x5 + 1)), (4, .int (x4 ||| (if x3 ≤ u17 then 0 else (shl 1 x5)))), (0, .ref (wb (zw Z) + 139)), (1, .int x1), (2, .int x2), (3, .int x3)] C dX12_needs_90 5 rfl (in_1 _) (by decide) rfl ?_
    refine r_goto 44 C dX12_needs_93 (by decide) ?_
    refine r_sub [(0, .ref (wb (zw Z) + 139)), (1, .int x1), (2, .int x2), (3, .int x3), (4, .int (x4 ||| (if x3 ≤ u17 then 0 else (shl 1 x5)))), (5, .int (x5 + 1))] [2, 3, 4, 5, 1, 0] rfl ?_
    exact kin (x4 ||| (if x3 ≤ u17 then 0 else (shl 1 x5))) (x5 + 1) m15 (Option.some.inj h).symm
def fX12_needs (n : Nat) (x1 : Int32) (x2 : Int32) (μ : Mu) : Option (Int32 × Mu) := bnd (fX12_isBeach n (x1.toInt64) (wI μ 139 0 0)) fun u2 => if u2 = 0 then (some ((-2), wI μ 139 0 0)) else (bnd (fX12_isSoon n x2 (wI μ 139 0 0)) fun u5 => if u5 = 0 then (some ((-3), wI μ 139 0 0)) else (bnd2 (fX12_hearersOf n x1 0 x2 (wI μ 139 0 0)) fun u8 m9 => bnd (fX12_bitsOf n u8 m9) fun u11 => bnd (lp n (sX12_needs_44 n x1 x2 u11) (0, 0, m9)) fun q => match q with | (u19, m20) => some (u19, wI m20 139 19 0)))
set_option maxRecDepth 100000 in
set_option maxHeartbeats 4000000 in
theorem tX12_needs {l : Launch} {w : WP} {sh : List Sh} {R : Rf} {μ : Mu} {r : Int32} {μ' : Mu} (hY : LY sh R) (n : Nat) (x1 : Int32) (x2 : Int32)  (h : fX12_needs n x1 x2 μ = some (r, μ')) : CM l w yX12_needs cX12_needs 6 (some .int) 8 0 0 sh R [.ref (wb w + 139), .int x1, .int x2] μ (some (.int r)) sh R μ' := by
  refine CM.of (plainFor_of_name pf_X12) (Nat.le_of_ble_eq_true rfl) fun Z C hr _ hR hw hl hE => ?_
  subst hw; subst hl
  have C : CX Z cX12_needs 6 RX12 := C
  show Wm Z (0, 0, sh, R) μ 0 [(0, .ref (wb (zw Z) + 139)), (1, .int x1), (2, .int x2)] []
  unfold fX12_needs at h
  refine r_aload_n C dX12_needs_0 0 rfl ?_
  refine r_iconst C dX12_needs_1 ic_0 ?_
  refine r_putI C fiX12_1 dX12_needs_2 (ly139 hY) ?_
  refine r_aload_n C dX12_needs_5 0 rfl ?_
  refine r_iload_n C dX12_needs_6 1 rfl ?_
  refine r_i2l C dX12_needs_7 ?_
  obtain ⟨u2, e1, h⟩ := bnd_inv h
  refine r_cVi (As := [.long (x1.toInt64)]) (rest := []) C hR mlX12_244 dX12_needs_8 (tX12_isBeach hY n (x1.toInt64)  e1) rfl rfl (ly139 hY) rfl (nle rfl) (nle rfl) (nle rfl) ?_
  refine r_if_ne 17 C dX12_needs_11 (by decide) (fun c3 => ?_) (fun c3 => ?_)
  · have h := (ite_inv h).2 c3
    refine r_iload_n C dX12_needs_17 2 rfl ?_
    obtain ⟨u5, e4, h⟩ := bnd_inv h
    refine r_cSi (As := [.int x2]) (rest := []) C hR mlX12_348 dX12_needs_18 (tX12_isSoon hY n x2  e4) rfl rfl (nle rfl) (nle rfl) (nle rfl) ?_
    refine r_if_ne 27 C dX12_needs_21 (by decide) (fun c6 => ?_) (fun c6 => ?_)
    · have h := (ite_inv h).2 c6
      refine r_aload_n C dX12_needs_27 0 rfl ?_
      refine r_iload_n C dX12_needs_28 1 rfl ?_
      refine r_iconst C dX12_needs_29 ic_0 ?_
      refine r_iload_n C dX12_needs_30 2 rfl ?_
      obtain ⟨u8, m9, e7, h⟩ := bnd2_inv h
      refine r_cVi (As := [.int x1, .int 0, .int x2]) (rest := []) C hR mlX12_351 dX12_needs_31 (tX12_hearersOf hY n x1 0 x2  e7) rfl rfl (ly139 hY) rfl (nle rfl) (nle rfl) (nle rfl) ?_
      obtain ⟨u11, e10, h⟩ := bnd_inv h
      refine r_cSi (As := [.int u8]) (rest := []) C hR mlX12_339 dX12_needs_34 (tX12_bitsOf hY n u8  e10) rfl rfl (nle rfl) (nle rfl) (nle rfl) ?_
      refine r_istore_n [(3, .int u11), (0, .ref (wb (zw Z) + 139)), (1, .int x1), (2, .int x2)] C dX12_needs_37 rfl (by decide) rfl ?_
      refine r_iconst C dX12_needs_38 ic_0 ?_
      refine r_istore [(4, .int 0), (3, .int u11), (0, .ref (wb (zw Z) + 139)), (1, .int x1), (2, .int x2)] C dX12_needs_39 (by decide) rfl ?_
      refine r_iconst C dX12_needs_41 ic_0 ?_
      refine r_istore [(5, .int 0), (4, .int 0), (3, .int u11), (0, .ref (wb (zw Z) + 139)), (1, .int x1), (2, .int x2)] C dX12_needs_42 (by decide) rfl ?_
      refine r_sub [(0, .ref (wb (zw Z) + 139)), (1, .int x1), (2, .int x2), (3, .int u11), (4, .int 0), (5, .int 0)] [3, 4, 5, 2, 1, 0] rfl ?_
      obtain ⟨⟨u19, m20⟩, e21, h⟩ := bnd_inv h
      refine lp_all (sX12_needs_44 n x1 x2 u11) (fun q => match q with | (z4, z5, ν) => Wm Z (0, 0, sh, R) (ν) 44 [(0, .ref (wb (zw Z) + 139)), (1, .int x1), (2, .int x2), (3, .int u11), (4, .int z4), (5, .int z5)] []) (fun q => match q with | (z4, ν) => Wm Z (0, 0, sh, R) (ν) 96 [(0, .ref (wb (zw Z) + 139)), (4, .int z4)] []) (fun q o h kin kex => ?_) n (0, 0, m9) (u19, m20) e21 ?_
      · obtain ⟨z4, z5, ν⟩ := q; exact lX12_needs_44 C hR hY n   x1 x2 u11 z4 z5 ν h (fun z4 z5 ν e => kin (z4, z5, ν) e) (fun z4 ν e => kex (z4, ν) e)
      show Wm Z (0, 0, sh, R) m20 96 [(0, .ref (wb (zw Z) + 139)), (4, .int u19)] []
      refine r_aload_n C dX12_needs_96 0 rfl ?_
      refine r_iconst C dX12_needs_97 ic_0 ?_
      refine r_putI C fiX12_252 dX12_needs_98 (ly139 hY) ?_
      refine r_iload C dX12_needs_101 1 rfl ?_
      obtain ⟨h1, h2⟩ := Prod.mk.inj (Option.some.inj h)
      subst h1; subst h2
      exact r_iret C dX12_needs_103 hr hE
    · have h := (ite_inv h).1 c6
      refine r_bipush C dX12_needs_24 bp_m3 ?_
      obtain ⟨h1, h2⟩ := Prod.mk.inj (Option.some.inj h)
      subst h1; subst h2
      exact r_iret C dX12_needs_26 hr hE
  · have h := (ite_inv h).1 c3
    refine r_bipush C dX12_needs_14 bp_m2 ?_
    obtain ⟨h1, h2⟩ := Prod.mk.inj (Option.some.inj h)
    subst h1; subst h2
    exact r_iret C dX12_needs_16 hr hE
def sX12_laysComes_2 (n : Nat) (x1 : Int32) : Int32 × Mu → Option ((Int32 × Mu) ⊕ (Mu)) := fun q => match q with | (x2, μ) => if (rI μ 140 1) ≤ x2 then (some (.inr μ)) else (bnd (fX12_keeps n μ) fun m3 => bnd (fX12_calls n x2 0 x1 m3) fun m5 => gd (ib x2 6) (bnd (fX12_isAgain n (wI m5 148 (ix x2) (rI m5 140 76))) fun m8 => some (.inl (x2 + 1, m8))))
set_option maxRecDepth 100000 in
set_option maxHeartbeats 4000000 in
theorem lX12_laysComes_2 {Z : ZC} {sh : List Sh} {R : Rf} {o : (Int32 × Mu) ⊕ (Mu)} (C : CX Z cX12_laysComes 3 RX12) (hR : zR Z = rm 7 0 0) (hY : LY sh R) (n : Nat) (x1 : Int32) (x2 : Int32) (μ : Mu) (h : sX12_laysComes_2 n x1 (x2, μ) = some o) (kin : ∀ (x2 : Int32) (μ : Mu), o = .inl (x2, μ) → Wm Z (0, 0, sh, R) μ 2 [(0, .ref (wb (zw Z) + 139)), (1, .int x1), (2, .int x2)] []) (kex0 : ∀ (μ : Mu), o = .inr μ → Wm Z (0, 0, sh, R) μ 46 [] []) : Wm Z (0, 0, sh, R) μ 2 [(0, .ref (wb (zw Z) + 139)), (1, .int x1), (2, .int x2)] [] := by
  unfold sX12_laysComes_2 at h
  refine r_iload_n C dX12_laysComes_2 2 rfl ?_
  refine r_aload_n C dX12_laysComes_3 0 rfl ?_
  refine r_getR C flX12_13 dX12_laysComes_4 (ly139 hY) rfl (lr139_1 hY) ?_
  refine r_iconst C dX12_laysComes_7 ic_1 ?_
  refine r_iald C dX12_laysComes_8 (ly140 hY) (by decide) ?_
  refine r_icmp_ge 46 C dX12_laysComes_9 (by decide) (fun c1 => ?_) (fun c1 => ?_)
  · have h := (ite_inv h).1 c1
    refine r_sub [] [] rfl ?_
    exact kex0 μ (Option.some.inj h).symm
  · have h := (ite_inv h).2 c1
    refine r_aload_n C dX12_laysComes_12 0 rfl ?_
    obtain ⟨m3, e2, h⟩ := bnd_inv h
    refine r_cVv (As := []) (rest := []) C hR mlX12_267 dX12_laysComes_13 (tX12_keeps hY n  e2) rfl rfl (ly139 hY) rfl (nle rfl) (nle rfl) (nle rfl) ?_
    refine r_aload_n C dX12_laysComes_16 0 rfl ?_
    refine r_iload_n C dX12_laysComes_17 2 rfl ?_
    refine r_iconst C dX12_laysComes_18 ic_0 ?_
    refine r_iload_n C dX12_laysComes_19 1 rfl ?_
    obtain ⟨m5, e4, h⟩ := bnd_inv h
    refine r_cVv (As := [.int x2, .int 0, .int x1]) (rest := []) C hR mlX12_342 dX12_laysComes_20 (tX12_calls hY n x2 0 x1  e4) rfl rfl (ly139 hY) rfl (nle rfl) (nle rfl) (nle rfl) ?_
    refine r_aload_n C dX12_laysComes_23 0 rfl ?_
    refine r_getR C flX12_42 dX12_laysComes_24 (ly139 hY) rfl (lr139_22 hY) ?_
    refine r_iload_n C dX12_laysComes_27 2 rfl ?_
    refine r_aload_n C dX12_laysComes_28 0 rfl ?_
    refine r_getR C flX12_13 dX12_laysComes_29 (ly139 hY) rfl (lr139_1 hY) ?_
    refine r_bipush C dX12_laysComes_32 bp_76 ?_
    refine r_iald C dX12_laysComes_34 (ly140 hY) (by decide) ?_
    obtain ⟨b6, h⟩ := gd_inv h
    refine r_iast C dX12_laysComes_35 (ly148 hY) b6 ?_
    refine r_aload_n C dX12_laysComes_36 0 rfl ?_
    obtain ⟨m8, e7, h⟩ := bnd_inv h
    refine r_cVv (As := []) (rest := []) C hR mlX12_324 dX12_laysComes_37 (tX12_isAgain hY n  e7) rfl rfl (ly139 hY) rfl (nle rfl) (nle rfl) (nle rfl) ?_
    refine r_iinc [(2, .int (x2 + 1)), (0, .ref (wb (zw Z) + 139)), (1, .int x1)] C dX12_laysComes_40 2 rfl (in_1 _) (by decide) rfl ?_
    refine r_goto 2 C dX12_laysComes_43 (by decide) ?_
    refine r_sub [(0, .ref (wb (zw Z) + 139)), (1, .int x1), (2, .int (x2 + 1))] [1, 2, 0] rfl ?_
    exact kin (x2 + 1) m8 (Option.some.inj h).symm
def fX12_laysComes (n : Nat) (x1 : Int32) (μ : Mu) : Option (Mu) := bnd (lp n (sX12_laysComes_2 n x1) (0, μ)) fun q => match q with | m9 => some m9
set_option maxRecDepth 100000 in
set_option maxHeartbeats 4000000 in
theorem tX12_laysComes {l : Launch} {w : WP} {sh : List Sh} {R : Rf} {μ : Mu} {μ' : Mu} (hY : LY sh R) (n : Nat) (x1 : Int32)  (h : fX12_laysComes n x1 μ = some μ') : CM l w yX12_laysComes cX12_laysComes 3 none 7 0 0 sh R [.ref (wb w + 139), .int x1] μ none sh R μ' := by
  refine CM.of (plainFor_of_name pf_X12) (Nat.le_of_ble_eq_true rfl) fun Z C hr _ hR hw hl hE => ?_
  subst hw; subst hl
  have C : CX Z cX12_laysComes 3 RX12 := C
  show Wm Z (0, 0, sh, R) μ 0 [(0, .ref (wb (zw Z) + 139)), (1, .int x1)] []
  unfold fX12_laysComes at h
  refine r_iconst C dX12_laysComes_0 ic_0 ?_
  refine r_istore_n [(2, .int 0), (0, .ref (wb (zw Z) + 139)), (1, .int x1)] C dX12_laysComes_1 rfl (by decide) rfl ?_
  refine r_sub [(0, .ref (wb (zw Z) + 139)), (1, .int x1), (2, .int 0)] [1, 2, 0] rfl ?_
  obtain ⟨m9, e10, h⟩ := bnd_inv h
  refine lp_all (sX12_laysComes_2 n x1) (fun q => match q with | (z2, ν) => Wm Z (0, 0, sh, R) (ν) 2 [(0, .ref (wb (zw Z) + 139)), (1, .int x1), (2, .int z2)] []) (fun q => match q with | ν => Wm Z (0, 0, sh, R) (ν) 46 [] []) (fun q o h kin kex => ?_) n (0, μ) m9 e10 ?_
  · obtain ⟨z2, ν⟩ := q; exact lX12_laysComes_2 C hR hY n   x1 z2 ν h (fun z2 ν e => kin (z2, ν) e) (fun ν e => kex (ν) e)
  show Wm Z (0, 0, sh, R) m9 46 [] []
  have h := Option.some.inj h
  subst h
  exact r_vret C dX12_laysComes_46 hr hE
def sX12_seenBy_4 (n : Nat) (x1 : Int32) (μ : Mu) : Int32 × Int32 → Option ((Int32 × Int32) ⊕ (Int32)) := fun q => match q with | (x2, x3) => if (rI μ 140 1) ≤ x3 then (some (.inr x2)) else (gd (ib x3 6) (some (.inl (x2 + (if ((rI μ 148 (ix x3)) &&& x1) = 0 then 0 else 1 : Int32), x3 + 1))))
set_option maxRecDepth 100000 in
set_option maxHeartbeats 4000000 in
theorem lX12_seenBy_4 {Z : ZC} {sh : List Sh} {R : Rf} {o : (Int32 × Int32) ⊕ (Int32)} (C : CX Z cX12_seenBy 4 RX12) (hR : zR Z = rm 0 0 0) (hY : LY sh R) (n : Nat) (x1 : Int32) (μ : Mu) (x2 : Int32) (x3 : Int32) (h : sX12_seenBy_4 n x1 μ (x2, x3) = some o) (kin : ∀ (x2 : Int32) (x3 : Int32), o = .inl (x2, x3) → Wm Z (0, 0, sh, R) μ 4 [(0, .ref (wb (zw Z) + 139)), (1, .int x1), (2, .int x2), (3, .int x3)] []) (kex0 : ∀ (x2 : Int32), o = .inr x2 → Wm Z (0, 0, sh, R) μ 39 [(2, .int x2)] []) : Wm Z (0, 0, sh, R) μ 4 [(0, .ref (wb (zw Z) + 139)), (1, .int x1), (2, .int x2), (3, .int x3)] [] := by
  unfold sX12_seenBy_4 at h
  refine r_iload_n C dX12_seenBy_4 3 rfl ?_
  refine r_aload_n C dX12_seenBy_5 0 rfl ?_
  refine r_getR C flX12_13 dX12_seenBy_6 (ly139 hY) rfl (lr139_1 hY) ?_
  refine r_iconst C dX12_seenBy_9 ic_1 ?_
  refine r_iald C dX12_seenBy_10 (ly140 hY) (by decide) ?_
  refine r_icmp_ge 39 C dX12_seenBy_11 (by decide) (fun c1 => ?_) (fun c1 => ?_)
  · have h := (ite_inv h).1 c1
    refine r_sub [(2, .int x2)] [2] rfl ?_
    exact kex0 x2 (Option.some.inj h).symm
  · have h := (ite_inv h).2 c1
    refine r_iload_n C dX12_seenBy_14 2 rfl ?_
    refine r_aload_n C dX12_seenBy_15 0 rfl ?_
    refine r_getR C flX12_42 dX12_seenBy_16 (ly139 hY) rfl (lr139_22 hY) ?_
    refine r_iload_n C dX12_seenBy_19 3 rfl ?_
    obtain ⟨b2, h⟩ := gd_inv h
    refine r_iald C dX12_seenBy_20 (ly148 hY) b2 ?_
    refine r_iload_n C dX12_seenBy_21 1 rfl ?_
    refine r_iand C dX12_seenBy_22 ?_
    suffices hj : Wm Z (0, 0, sh, R) μ 31 [(0, .ref (wb (zw Z) + 139)), (1, .int x1), (2, .int x2), (3, .int x3)] [.int (if ((rI μ 148 (ix x3)) &&& x1) = 0 then 0 else 1 : Int32), .int x2] by
      refine r_if_ne 30 C dX12_seenBy_23 (by decide) (fun c3 => ?_) (fun c3 => ?_)
      · refine r_iconst C dX12_seenBy_30 ic_1 ?_
        exact sel_f c3 hj
      · refine r_iconst C dX12_seenBy_26 ic_0 ?_
        refine r_goto 31 C dX12_seenBy_27 (by decide) ?_
        exact sel_t c3 hj
    refine r_iadd C dX12_seenBy_31 ?_
    refine r_istore_n [(2, .int (x2 + (if ((rI μ 148 (ix x3)) &&& x1) = 0 then 0 else 1 : Int32))), (0, .ref (wb (zw Z) + 139)), (1, .int x1), (3, .int x3)] C dX12_seenBy_32 rfl (by decide) rfl ?_
    refine r_iinc [(3, .int (x3 + 1)), (2, .int (x2 + (if ((rI μ 148 (ix x3)) &&& x1) = 0 then 0 else 1 : Int32))), (0, .ref (wb (zw Z) + 139)), (1, .int x1)] C dX12_seenBy_33 3 rfl (in_1 _) (by decide) rfl ?_
    refine r_goto 4 C dX12_seenBy_36 (by decide) ?_
    refine r_sub [(0, .ref (wb (zw Z) + 139)), (1, .int x1), (2, .int (x2 + (if ((rI μ 148 (ix x3)) &&& x1) = 0 then 0 else 1 : Int32))), (3, .int (x3 + 1))] [2, 3, 1, 0] rfl ?_
    exact kin (x2 + (if ((rI μ 148 (ix x3)) &&& x1) = 0 then 0 else 1 : Int32)) (x3 + 1) (Option.some.inj h).symm
def fX12_seenBy (n : Nat) (x1 : Int32) (μ : Mu) : Option (Int32) := bnd (lp n (sX12_seenBy_4 n x1 μ) (0, 0)) fun q => match q with | u4 => some u4
set_option maxRecDepth 100000 in
set_option maxHeartbeats 4000000 in
theorem tX12_seenBy {l : Launch} {w : WP} {sh : List Sh} {R : Rf} {μ : Mu} {r : Int32} (hY : LY sh R) (n : Nat) (x1 : Int32)  (h : fX12_seenBy n x1 μ = some r) : CM l w yX12_seenBy cX12_seenBy 4 (some .int) 0 0 0 sh R [.ref (wb w + 139), .int x1] μ (some (.int r)) sh R μ := by
  refine CM.of (plainFor_of_name pf_X12) (Nat.le_of_ble_eq_true rfl) fun Z C hr _ hR hw hl hE => ?_
  subst hw; subst hl
  have C : CX Z cX12_seenBy 4 RX12 := C
  show Wm Z (0, 0, sh, R) μ 0 [(0, .ref (wb (zw Z) + 139)), (1, .int x1)] []
  unfold fX12_seenBy at h
  refine r_iconst C dX12_seenBy_0 ic_0 ?_
  refine r_istore_n [(2, .int 0), (0, .ref (wb (zw Z) + 139)), (1, .int x1)] C dX12_seenBy_1 rfl (by decide) rfl ?_
  refine r_iconst C dX12_seenBy_2 ic_0 ?_
  refine r_istore_n [(3, .int 0), (2, .int 0), (0, .ref (wb (zw Z) + 139)), (1, .int x1)] C dX12_seenBy_3 rfl (by decide) rfl ?_
  refine r_sub [(0, .ref (wb (zw Z) + 139)), (1, .int x1), (2, .int 0), (3, .int 0)] [2, 3, 1, 0] rfl ?_
  obtain ⟨u4, e5, h⟩ := bnd_inv h
  refine lp_all (sX12_seenBy_4 n x1 μ) (fun q => match q with | (z2, z3) => Wm Z (0, 0, sh, R) μ 4 [(0, .ref (wb (zw Z) + 139)), (1, .int x1), (2, .int z2), (3, .int z3)] []) (fun q => match q with | z2 => Wm Z (0, 0, sh, R) μ 39 [(2, .int z2)] []) (fun q o h kin kex => ?_) n (0, 0) u4 e5 ?_
  · obtain ⟨z2, z3⟩ := q; exact lX12_seenBy_4 C hR hY n   x1 μ z2 z3 h (fun z2 z3 e => kin (z2, z3) e) (fun z2 e => kex z2 e)
  show Wm Z (0, 0, sh, R) μ 39 [(2, .int u4)] []
  refine r_iload_n C dX12_seenBy_39 0 rfl ?_
  have h := Option.some.inj h
  subst h
  exact r_iret C dX12_seenBy_40 hr hE
def jX12_bestSpies_42 (n : Nat) (x1 : Int32) (x3 : Int32) (μ : Mu) : Option ((Int32 × Int32) ⊕ (Int32)) := some (.inl (x3, x3 + 1))
set_option maxRecDepth 100000 in
set_option maxHeartbeats 4000000 in
theorem kX12_bestSpies_42 {Z : ZC} {sh : List Sh} {R : Rf} {o : (Int32 × Int32) ⊕ (Int32)} (C : CX Z cX12_bestSpies 4 RX12) (hR : zR Z = rm 1 0 0) (hY : LY sh R) (n : Nat) (x1 : Int32) (x3 : Int32) (μ : Mu) (h : jX12_bestSpies_42 n x1 x3 μ = some o) (kin : ∀ (x2 : Int32) (x3 : Int32), o = .inl (x2, x3) → Wm Z (0, 0, sh, R) μ 4 [(0, .ref (wb (zw Z) + 139)), (1, .int x1), (2, .int x2), (3, .int x3)] []) (kex0 : ∀ (x2 : Int32), o = .inr x2 → Wm Z (0, 0, sh, R) μ 50 [(2, .int x2)] []) : Wm Z (0, 0, sh, R) μ 42 [(0, .ref (wb (zw Z) + 139)), (1, .int x1), (3, .int x3)] [] := by
  unfold jX12_bestSpies_42 at h
  refine r_iload_n C dX12_bestSpies_42 2 rfl ?_
  refine r_istore_n [(2, .int x3), (0, .ref (wb (zw Z) + 139)), (1, .int x1), (3, .int x3)] C dX12_bestSpies_43 rfl (by decide) rfl ?_
  refine r_iinc [(3, .int (x3 + 1)), (2, .int x3), (0, .ref (wb (zw Z) + 139)), (1, .int x1)] C dX12_bestSpies_44 3 rfl (in_1 _) (by decide) rfl ?_
  refine r_goto 4 C dX12_bestSpies_47 (by decide) ?_
  refine r_sub [(0, .ref (wb (zw Z) + 139)), (1, .int x1), (2, .int x3), (3, .int (x3 + 1))] [2, 3, 1, 0] rfl ?_
  exact kin x3 (x3 + 1) (Option.some.inj h).symm
def sX12_bestSpies_4 (n : Nat) (x1 : Int32) (μ : Mu) : Int32 × Int32 → Option ((Int32 × Int32) ⊕ (Int32)) := fun q => match q with | (x2, x3) => if (shl 1 (rI μ 140 1)) ≤ x3 then (some (.inr x2)) else (bnd (fX12_bitsOf n x3 μ) fun u3 => if u3 = x1 then (if x2 = (-1) then (jX12_bestSpies_42 n x1 x3 μ) else (bnd (fX12_seenBy n x3 μ) fun u7 => bnd (fX12_seenBy n x2 μ) fun u9 => if u7 ≤ u9 then (some (.inl (x2, x3 + 1))) else (jX12_bestSpies_42 n x1 x3 μ))) else (some (.inl (x2, x3 + 1))))
set_option maxRecDepth 100000 in
set_option maxHeartbeats 4000000 in
theorem lX12_bestSpies_4 {Z : ZC} {sh : List Sh} {R : Rf} {o : (Int32 × Int32) ⊕ (Int32)} (C : CX Z cX12_bestSpies 4 RX12) (hR : zR Z = rm 1 0 0) (hY : LY sh R) (n : Nat) (x1 : Int32) (μ : Mu) (x2 : Int32) (x3 : Int32) (h : sX12_bestSpies_4 n x1 μ (x2, x3) = some o) (kin : ∀ (x2 : Int32) (x3 : Int32), o = .inl (x2, x3) → Wm Z (0, 0, sh, R) μ 4 [(0, .ref (wb (zw Z) + 139)), (1, .int x1), (2, .int x2), (3, .int x3)] []) (kex0 : ∀ (x2 : Int32), o = .inr x2 → Wm Z (0, 0, sh, R) μ 50 [(2, .int x2)] []) : Wm Z (0, 0, sh, R) μ 4 [(0, .ref (wb (zw Z) + 139)), (1, .int x1), (2, .int x2), (3, .int x3)] [] := by
  unfold sX12_bestSpies_4 at h
  refine r_iload_n C dX12_bestSpies_4 3 rfl ?_
  refine r_iconst C dX12_bestSpies_5 ic_1 ?_
  refine r_aload_n C dX12_bestSpies_6 0 rfl ?_
  refine r_getR C flX12_13 dX12_bestSpies_7 (ly139 hY) rfl (lr139_1 hY) ?_
  refine r_iconst C dX12_bestSpies_10 ic_1 ?_
  refine r_iald C dX12_bestSpies_11 (ly140 hY) (by decide) ?_
  refine r_ishl C dX12_bestSpies_12 ?_
  refine r_icmp_ge 50 C dX12_bestSpies_13 (by decide) (fun c1 => ?_) (fun c1 => ?_)
  · have h := (ite_inv h).1 c1
    refine r_sub [(2, .int x2)] [2] rfl ?_
    exact kex0 x2 (Option.some.inj h).symm
  · have h := (ite_inv h).2 c1
    refine r_iload_n C dX12_bestSpies_16 3 rfl ?_
    obtain ⟨u3, e2, h⟩ := bnd_inv h
    refine r_cSi (As := [.int x3]) (rest := []) C hR mlX12_339 dX12_bestSpies_17 (tX12_bitsOf hY n x3  e2) rfl rfl (nle rfl) (nle rfl) (nle rfl) ?_
    refine r_iload_n C dX12_bestSpies_20 1 rfl ?_
    refine r_icmp_ne 44 C dX12_bestSpies_21 (by decide) (fun c4 => ?_) (fun c4 => ?_)
    · have h := (ite_inv h).2 c4
      refine r_iinc [(3, .int (x3 + 1)), (0, .ref (wb (zw Z) + 139)), (1, .int x1), (2, .int x2)] C dX12_bestSpies_44 3 rfl (in_1 _) (by decide) rfl ?_
      refine r_goto 4 C dX12_bestSpies_47 (by decide) ?_
      refine r_sub [(0, .ref (wb (zw Z) + 139)), (1, .int x1), (2, .int x2), (3, .int (x3 + 1))] [1, 2, 3, 0] rfl ?_
      exact kin x2 (x3 + 1) (Option.some.inj h).symm
    · have h := (ite_inv h).1 c4
      refine r_iload_n C dX12_bestSpies_24 2 rfl ?_
      refine r_iconst C dX12_bestSpies_25 ic_m1 ?_
      refine r_icmp_eq 42 C dX12_bestSpies_26 (by decide) (fun c5 => ?_) (fun c5 => ?_)
      · have h := (ite_inv h).1 c5
        refine r_sub [(0, .ref (wb (zw Z) + 139)), (1, .int x1), (3, .int x3)] [0, 1, 3] rfl ?_
        exact kX12_bestSpies_42 C hR hY n   x1 x3 μ h kin kex0
      · have h := (ite_inv h).2 c5
        refine r_aload_n C dX12_bestSpies_29 0 rfl ?_
        refine r_iload_n C dX12_bestSpies_30 3 rfl ?_
        obtain ⟨u7, e6, h⟩ := bnd_inv h
        refine r_cVi (As := [.int x3]) (rest := []) C hR mlX12_370 dX12_bestSpies_31 (tX12_seenBy hY n x3  e6) rfl rfl (ly139 hY) rfl (nle rfl) (nle rfl) (nle rfl) ?_
        refine r_aload_n C dX12_bestSpies_34 0 rfl ?_
        refine r_iload_n C dX12_bestSpies_35 2 rfl ?_
        obtain ⟨u9, e8, h⟩ := bnd_inv h
        refine r_cVi (As := [.int x2]) (rest := [.int u7]) C hR mlX12_370 dX12_bestSpies_36 (tX12_seenBy hY n x2  e8) rfl rfl (ly139 hY) rfl (nle rfl) (nle rfl) (nle rfl) ?_
        refine r_icmp_le 44 C dX12_bestSpies_39 (by decide) (fun c10 => ?_) (fun c10 => ?_)
        · have h := (ite_inv h).1 c10
          refine r_iinc [(3, .int (x3 + 1)), (0, .ref (wb (zw Z) + 139)), (1, .int x1), (2, .int x2)] C dX12_bestSpies_44 3 rfl (in_1 _) (by decide) rfl ?_
          refine r_goto 4 C dX12_bestSpies_47 (by decide) ?_
          refine r_sub [(0, .ref (wb (zw Z) + 139)), (1, .int x1), (2, .int x2), (3, .int (x3 + 1))] [1, 2, 3, 0] rfl ?_
          exact kin x2 (x3 + 1) (Option.some.inj h).symm
        · have h := (ite_inv h).2 c10
          refine r_sub [(0, .ref (wb (zw Z) + 139)), (1, .int x1), (3, .int x3)] [0, 1, 3] rfl ?_
          exact kX12_bestSpies_42 C hR hY n   x1 x3 μ h kin kex0
def fX12_bestSpies (n : Nat) (x1 : Int32) (μ : Mu) : Option (Int32) := bnd (lp n (sX12_bestSpies_4 n x1 μ) ((-1), 0)) fun q => match q with | u11 => some u11
set_option maxRecDepth 100000 in
set_option maxHeartbeats 4000000 in
theorem tX12_bestSpies {l : Launch} {w : WP} {sh : List Sh} {R : Rf} {μ : Mu} {r : Int32} (hY : LY sh R) (n : Nat) (x1 : Int32)  (h : fX12_bestSpies n x1 μ = some r) : CM l w yX12_bestSpies cX12_bestSpies 4 (some .int) 1 0 0 sh R [.ref (wb w + 139), .int x1] μ (some (.int r)) sh R μ := by
  refine CM.of (plainFor_of_name pf_X12) (Nat.le_of_ble_eq_true rfl) fun Z C hr _ hR hw hl hE => ?_
  subst hw; subst hl
  have C : CX Z cX12_bestSpies 4 RX12 := C
  show Wm Z (0, 0, sh, R) μ 0 [(0, .ref (wb (zw Z) + 139)), (1, .int x1)] []
  unfold fX12_bestSpies at h
  refine r_iconst C dX12_bestSpies_0 ic_m1 ?_
  refine r_istore_n [(2, .int (-1)), (0, .ref (wb (zw Z) + 139)), (1, .int x1)] C dX12_bestSpies_1 rfl (by decide) rfl ?_
  refine r_iconst C dX12_bestSpies_2 ic_0 ?_
  refine r_istore_n [(3, .int 0), (2, .int (-1)), (0, .ref (wb (zw Z) + 139)), (1, .int x1)] C dX12_bestSpies_3 rfl (by decide) rfl ?_
  refine r_sub [(0, .ref (wb (zw Z) + 139)), (1, .int x1), (2, .int (-1)), (3, .int 0)] [2, 3, 1, 0] rfl ?_
  obtain ⟨u11, e12, h⟩ := bnd_inv h
  refine lp_all (sX12_bestSpies_4 n x1 μ) (fun q => match q with | (z2, z3) => Wm Z (0, 0, sh, R) μ 4 [(0, .ref (wb (zw Z) + 139)), (1, .int x1), (2, .int z2), (3, .int z3)] []) (fun q => match q with | z2 => Wm Z (0, 0, sh, R) μ 50 [(2, .int z2)] []) (fun q o h kin kex => ?_) n ((-1), 0) u11 e12 ?_
  · obtain ⟨z2, z3⟩ := q; exact lX12_bestSpies_4 C hR hY n   x1 μ z2 z3 h (fun z2 z3 e => kin (z2, z3) e) (fun z2 e => kex z2 e)
  show Wm Z (0, 0, sh, R) μ 50 [(2, .int u11)] []
  refine r_iload_n C dX12_bestSpies_50 0 rfl ?_
  have h := Option.some.inj h
  subst h
  exact r_iret C dX12_bestSpies_51 hr hE
def fX12_spies (n : Nat) (x1 : Int32) (x2 : Int32) (x3 : Int32) (μ : Mu) : Option (Int32 × Mu) := bnd (fX12_within n (x3.toInt64) 0 1 (wI μ 139 0 0)) fun u2 => if u2 = 0 then (some ((-2), wI μ 139 0 0)) else (bnd (fX12_within n (x1.toInt64) 1 ((rI (wI μ 139 0 0) 140 1).toInt64) (wI μ 139 0 0)) fun u5 => if u5 = 0 then (some ((-3), wI μ 139 0 0)) else (bnd (fX12_isSoon n x2 (wI μ 139 0 0)) fun u8 => if u8 = 0 then (some ((-3), wI μ 139 0 0)) else (bnd (fX12_laysComes n x2 (wI μ 139 0 0)) fun m11 => bnd (fX12_bestSpies n x1 m11) fun u13 => if x3 = 0 then (bnd (fX12_seenBy n u13 m11) fun u16 => some (u16, m11)) else (some (u13, m11)))))
set_option maxRecDepth 100000 in
set_option maxHeartbeats 4000000 in
theorem tX12_spies {l : Launch} {w : WP} {sh : List Sh} {R : Rf} {μ : Mu} {r : Int32} {μ' : Mu} (hY : LY sh R) (n : Nat) (x1 : Int32) (x2 : Int32) (x3 : Int32)  (h : fX12_spies n x1 x2 x3 μ = some (r, μ')) : CM l w yX12_spies cX12_spies 5 (some .int) 8 0 0 sh R [.ref (wb w + 139), .int x1, .int x2, .int x3] μ (some (.int r)) sh R μ' := by
  refine CM.of (plainFor_of_name pf_X12) (Nat.le_of_ble_eq_true rfl) fun Z C hr _ hR hw hl hE => ?_
  subst hw; subst hl
  have C : CX Z cX12_spies 5 RX12 := C
  show Wm Z (0, 0, sh, R) μ 0 [(0, .ref (wb (zw Z) + 139)), (1, .int x1), (2, .int x2), (3, .int x3)] []
  unfold fX12_spies at h
  refine r_aload_n C dX12_spies_0 0 rfl ?_
  refine r_iconst C dX12_spies_1 ic_0 ?_
  refine r_putI C fiX12_1 dX12_spies_2 (ly139 hY) ?_
  refine r_iload_n C dX12_spies_5 3 rfl ?_
  refine r_i2l C dX12_spies_6 ?_
  refine r_lconst C dX12_spies_7 lc_0 ?_
  refine r_lconst C dX12_spies_8 lc_1 ?_
  obtain ⟨u2, e1, h⟩ := bnd_inv h
  refine r_cSi (As := [.long (x3.toInt64), .long 0, .long 1]) (rest := []) C hR mlX12_130 dX12_spies_9 (tX12_within hY n (x3.toInt64) 0 1  e1) rfl rfl (nle rfl) (nle rfl) (nle rfl) ?_
  refine r_if_ne 18 C dX12_spies_12 (by decide) (fun c3 => ?_) (fun c3 => ?_)
  · have h := (ite_inv h).2 c3
    refine r_iload_n C dX12_spies_18 1 rfl ?_
    refine r_i2l C dX12_spies_19 ?_
    refine r_lconst C dX12_spies_20 lc_1 ?_
    refine r_aload_n C dX12_spies_21 0 rfl ?_
    refine r_getR C flX12_13 dX12_spies_22 (ly139 hY) rfl (lr139_1 hY) ?_
    refine r_iconst C dX12_spies_25 ic_1 ?_
    refine r_iald C dX12_spies_26 (ly140 hY) (by decide) ?_
    refine r_i2l C dX12_spies_27 ?_
    obtain ⟨u5, e4, h⟩ := bnd_inv h
    refine r_cSi (As := [.long (x1.toInt64), .long 1, .long ((rI (wI μ 139 0 0) 140 1).toInt64)]) (rest := []) C hR mlX12_130 dX12_spies_28 (tX12_within hY n (x1.toInt64) 1 ((rI (wI μ 139 0 0) 140 1).toInt64)  e4) rfl rfl (nle rfl) (nle rfl) (nle rfl) ?_
    refine r_if_eq 41 C dX12_spies_31 (by decide) (fun c6 => ?_) (fun c6 => ?_)
    · have h := (ite_inv h).1 c6
      refine r_bipush C dX12_spies_41 bp_m3 ?_
      obtain ⟨h1, h2⟩ := Prod.mk.inj (Option.some.inj h)
      subst h1; subst h2
      exact r_iret C dX12_spies_43 hr hE
    · have h := (ite_inv h).2 c6
      refine r_iload_n C dX12_spies_34 2 rfl ?_
      obtain ⟨u8, e7, h⟩ := bnd_inv h
      refine r_cSi (As := [.int x2]) (rest := []) C hR mlX12_348 dX12_spies_35 (tX12_isSoon hY n x2  e7) rfl rfl (nle rfl) (nle rfl) (nle rfl) ?_
      refine r_if_ne 44 C dX12_spies_38 (by decide) (fun c9 => ?_) (fun c9 => ?_)
      · have h := (ite_inv h).2 c9
        refine r_aload_n C dX12_spies_44 0 rfl ?_
        refine r_iload_n C dX12_spies_45 2 rfl ?_
        obtain ⟨m11, e10, h⟩ := bnd_inv h
        refine r_cVv (As := [.int x2]) (rest := []) C hR mlX12_373 dX12_spies_46 (tX12_laysComes hY n x2  e10) rfl rfl (ly139 hY) rfl (nle rfl) (nle rfl) (nle rfl) ?_
        refine r_aload_n C dX12_spies_49 0 rfl ?_
        refine r_iload_n C dX12_spies_50 1 rfl ?_
        obtain ⟨u13, e12, h⟩ := bnd_inv h
        refine r_cVi (As := [.int x1]) (rest := []) C hR mlX12_376 dX12_spies_51 (tX12_bestSpies hY n x1  e12) rfl rfl (ly139 hY) rfl (nle rfl) (nle rfl) (nle rfl) ?_
        refine r_istore [(4, .int u13), (0, .ref (wb (zw Z) + 139)), (1, .int x1), (2, .int x2), (3, .int x3)] C dX12_spies_54 (by decide) rfl ?_
        refine r_iload_n C dX12_spies_56 4 rfl ?_
        refine r_if_ne 69 C dX12_spies_57 (by decide) (fun c14 => ?_) (fun c14 => ?_)
        · have h := (ite_inv h).2 c14
          refine r_iload C dX12_spies_69 0 rfl ?_
          obtain ⟨h1, h2⟩ := Prod.mk.inj (Option.some.inj h)
          subst h1; subst h2
          exact r_iret C dX12_spies_71 hr hE
        · have h := (ite_inv h).1 c14
          refine r_aload_n C dX12_spies_60 1 rfl ?_
          refine r_iload C dX12_spies_61 0 rfl ?_
          obtain ⟨u16, e15, h⟩ := bnd_inv h
          refine r_cVi (As := [.int u13]) (rest := []) C hR mlX12_370 dX12_spies_63 (tX12_seenBy hY n u13  e15) rfl rfl (ly139 hY) rfl (nle rfl) (nle rfl) (nle rfl) ?_
          refine r_goto 71 C dX12_spies_66 (by decide) ?_
          obtain ⟨h1, h2⟩ := Prod.mk.inj (Option.some.inj h)
          subst h1; subst h2
          exact r_iret C dX12_spies_71 hr hE
      · have h := (ite_inv h).1 c9
        refine r_bipush C dX12_spies_41 bp_m3 ?_
        obtain ⟨h1, h2⟩ := Prod.mk.inj (Option.some.inj h)
        subst h1; subst h2
        exact r_iret C dX12_spies_43 hr hE
  · have h := (ite_inv h).1 c3
    refine r_bipush C dX12_spies_15 bp_m2 ?_
    obtain ⟨h1, h2⟩ := Prod.mk.inj (Option.some.inj h)
    subst h1; subst h2
    exact r_iret C dX12_spies_17 hr hE
def sX12_watch_22 (n : Nat) (μ : Mu) : Int32 → Option ((Int32) ⊕ (Int32)) := fun q => match q with | x2 => bnd (fX12_bestSpies n x2 μ) fun u7 => bnd (fX12_seenBy n u7 μ) fun u9 => if (rI μ 140 1) ≤ u9 then (some (.inr x2)) else (some (.inl (x2 + 1)))
set_option maxRecDepth 100000 in
set_option maxHeartbeats 4000000 in
theorem lX12_watch_22 {Z : ZC} {sh : List Sh} {R : Rf} {o : (Int32) ⊕ (Int32)} (C : CX Z cX12_watch 3 RX12) (hR : zR Z = rm 8 0 0) (hY : LY sh R) (n : Nat) (μ : Mu) (x2 : Int32) (h : sX12_watch_22 n μ x2 = some o) (kin : ∀ (x2 : Int32), o = .inl x2 → Wm Z (0, 0, sh, R) μ 22 [(0, .ref (wb (zw Z) + 139)), (2, .int x2)] []) (kex0 : ∀ (x2 : Int32), o = .inr x2 → Wm Z (0, 0, sh, R) μ 46 [(2, .int x2)] []) : Wm Z (0, 0, sh, R) μ 22 [(0, .ref (wb (zw Z) + 139)), (2, .int x2)] [] := by
  unfold sX12_watch_22 at h
  refine r_aload_n C dX12_watch_22 0 rfl ?_
  refine r_aload_n C dX12_watch_23 0 rfl ?_
  refine r_iload_n C dX12_watch_24 1 rfl ?_
  obtain ⟨u7, e6, h⟩ := bnd_inv h
  refine r_cVi (As := [.int x2]) (rest := [.ref (wb (zw Z) + 139)]) C hR mlX12_376 dX12_watch_25 (tX12_bestSpies hY n x2  e6) rfl rfl (ly139 hY) rfl (nle rfl) (nle rfl) (nle rfl) ?_
  obtain ⟨u9, e8, h⟩ := bnd_inv h
  refine r_cVi (As := [.int u7]) (rest := []) C hR mlX12_370 dX12_watch_28 (tX12_seenBy hY n u7  e8) rfl rfl (ly139 hY) rfl (nle rfl) (nle rfl) (nle rfl) ?_
  refine r_aload_n C dX12_watch_31 0 rfl ?_
  refine r_getR C flX12_13 dX12_watch_32 (ly139 hY) rfl (lr139_1 hY) ?_
  refine r_iconst C dX12_watch_35 ic_1 ?_
  refine r_iald C dX12_watch_36 (ly140 hY) (by decide) ?_
  refine r_icmp_ge 46 C dX12_watch_37 (by decide) (fun c10 => ?_) (fun c10 => ?_)
  · have h := (ite_inv h).1 c10
    refine r_sub [(2, .int x2)] [1] rfl ?_
    exact kex0 x2 (Option.some.inj h).symm
  · have h := (ite_inv h).2 c10
    refine r_iinc [(2, .int (x2 + 1)), (0, .ref (wb (zw Z) + 139))] C dX12_watch_40 1 rfl (in_1 _) (by decide) rfl ?_
    refine r_goto 22 C dX12_watch_43 (by decide) ?_
    refine r_sub [(0, .ref (wb (zw Z) + 139)), (2, .int (x2 + 1))] [1, 0] rfl ?_
    exact kin (x2 + 1) (Option.some.inj h).symm
def fX12_watch (n : Nat) (x1 : Int32) (μ : Mu) : Option (Int32 × Mu) := bnd (fX12_isSoon n x1 (wI μ 139 0 0)) fun u2 => if u2 = 0 then (some ((-3), wI μ 139 0 0)) else (bnd (fX12_laysComes n x1 (wI μ 139 0 0)) fun m5 => bnd (lp n (sX12_watch_22 n m5) 1) fun q => match q with | u11 => some (u11, m5))
set_option maxRecDepth 100000 in
set_option maxHeartbeats 4000000 in
theorem tX12_watch {l : Launch} {w : WP} {sh : List Sh} {R : Rf} {μ : Mu} {r : Int32} {μ' : Mu} (hY : LY sh R) (n : Nat) (x1 : Int32)  (h : fX12_watch n x1 μ = some (r, μ')) : CM l w yX12_watch cX12_watch 3 (some .int) 8 0 0 sh R [.ref (wb w + 139), .int x1] μ (some (.int r)) sh R μ' := by
  refine CM.of (plainFor_of_name pf_X12) (Nat.le_of_ble_eq_true rfl) fun Z C hr _ hR hw hl hE => ?_
  subst hw; subst hl
  have C : CX Z cX12_watch 3 RX12 := C
  show Wm Z (0, 0, sh, R) μ 0 [(0, .ref (wb (zw Z) + 139)), (1, .int x1)] []
  unfold fX12_watch at h
  refine r_aload_n C dX12_watch_0 0 rfl ?_
  refine r_iconst C dX12_watch_1 ic_0 ?_
  refine r_putI C fiX12_1 dX12_watch_2 (ly139 hY) ?_
  refine r_iload_n C dX12_watch_5 1 rfl ?_
  obtain ⟨u2, e1, h⟩ := bnd_inv h
  refine r_cSi (As := [.int x1]) (rest := []) C hR mlX12_348 dX12_watch_6 (tX12_isSoon hY n x1  e1) rfl rfl (nle rfl) (nle rfl) (nle rfl) ?_
  refine r_if_ne 15 C dX12_watch_9 (by decide) (fun c3 => ?_) (fun c3 => ?_)
  · have h := (ite_inv h).2 c3
    refine r_aload_n C dX12_watch_15 0 rfl ?_
    refine r_iload_n C dX12_watch_16 1 rfl ?_
    obtain ⟨m5, e4, h⟩ := bnd_inv h
    refine r_cVv (As := [.int x1]) (rest := []) C hR mlX12_373 dX12_watch_17 (tX12_laysComes hY n x1  e4) rfl rfl (ly139 hY) rfl (nle rfl) (nle rfl) (nle rfl) ?_
    refine r_iconst C dX12_watch_20 ic_1 ?_
    refine r_istore_n [(2, .int 1), (0, .ref (wb (zw Z) + 139)), (1, .int x1)] C dX12_watch_21 rfl (by decide) rfl ?_
    refine r_sub [(0, .ref (wb (zw Z) + 139)), (2, .int 1)] [1, 0] rfl ?_
    obtain ⟨u11, e12, h⟩ := bnd_inv h
    refine lp_all (sX12_watch_22 n m5) (fun q => match q with | z2 => Wm Z (0, 0, sh, R) m5 22 [(0, .ref (wb (zw Z) + 139)), (2, .int z2)] []) (fun q => match q with | z2 => Wm Z (0, 0, sh, R) m5 46 [(2, .int z2)] []) (fun q o h kin kex => ?_) n 1 u11 e12 ?_
    · exact lX12_watch_22 C hR hY n   m5 q h (fun z2 e => kin z2 e) (fun z2 e => kex z2 e)
    show Wm Z (0, 0, sh, R) m5 46 [(2, .int u11)] []
    refine r_iload_n C dX12_watch_46 0 rfl ?_
    obtain ⟨h1, h2⟩ := Prod.mk.inj (Option.some.inj h)
    subst h1; subst h2
    exact r_iret C dX12_watch_47 hr hE
  · have h := (ite_inv h).1 c3
    refine r_bipush C dX12_watch_12 bp_m3 ?_
    obtain ⟨h1, h2⟩ := Prod.mk.inj (Option.some.inj h)
    subst h1; subst h2
    exact r_iret C dX12_watch_14 hr hE
def fX12_isHeard (n : Nat) (x1 : Int32) (x2 : Int32) (μ : Mu) : Option (Int32) := if x1 = x2 then (some 0) else (gd (ib (50 + x2) 6726) (if (rI μ 140 (ix (50 + x2))) = 0 then (gd (ib (44 + x1) 6726) (if (rI μ 140 (ix (44 + x1))) = (-1) then (some 0) else (bnd (fX12_hearsAt n x2 μ) fun u7 => gd (ib (44 + x1) 6726) (bnd (fX12_isIn n (u7.toInt64) (rI μ 140 (ix (44 + x1))) μ) fun u10 => if u10 = 0 then (some 0) else (some 1))))) else (some 0)))
set_option maxRecDepth 100000 in
set_option maxHeartbeats 4000000 in
theorem tX12_isHeard {l : Launch} {w : WP} {sh : List Sh} {R : Rf} {μ : Mu} {r : Int32} (hY : LY sh R) (n : Nat) (x1 : Int32) (x2 : Int32)  (h : fX12_isHeard n x1 x2 μ = some r) : CM l w yX12_isHeard cX12_isHeard 3 (some .boolean) 1 0 0 sh R [.ref (wb w + 139), .int x1, .int x2] μ (some (.int r)) sh R μ := by
  refine CM.of (plainFor_of_name pf_X12) (Nat.le_of_ble_eq_true rfl) fun Z C hr _ hR hw hl hE => ?_
  subst hw; subst hl
  have C : CX Z cX12_isHeard 3 RX12 := C
  show Wm Z (0, 0, sh, R) μ 0 [(0, .ref (wb (zw Z) + 139)), (1, .int x1), (2, .int x2)] []
  unfold fX12_isHeard at h
  refine r_iload_n C dX12_isHeard_0 1 rfl ?_
  refine r_iload_n C dX12_isHeard_1 2 rfl ?_
  refine r_icmp_eq 55 C dX12_isHeard_2 (by decide) (fun c1 => ?_) (fun c1 => ?_)
  · have h := (ite_inv h).1 c1
    refine r_iconst C dX12_isHeard_55 ic_0 ?_
    have h := Option.some.inj h
    subst h
    exact r_zret C dX12_isHeard_56 hr rfl hE
  · have h := (ite_inv h).2 c1
    refine r_aload_n C dX12_isHeard_5 0 rfl ?_
    refine r_getR C flX12_13 dX12_isHeard_6 (ly139 hY) rfl (lr139_1 hY) ?_
    refine r_bipush C dX12_isHeard_9 bp_50 ?_
    refine r_iload_n C dX12_isHeard_11 2 rfl ?_
    refine r_iadd C dX12_isHeard_12 ?_
    obtain ⟨b2, h⟩ := gd_inv h
    refine r_iald C dX12_isHeard_13 (ly140 hY) b2 ?_
    refine r_if_ne 55 C dX12_isHeard_14 (by decide) (fun c3 => ?_) (fun c3 => ?_)
    · have h := (ite_inv h).2 c3
      refine r_iconst C dX12_isHeard_55 ic_0 ?_
      have h := Option.some.inj h
      subst h
      exact r_zret C dX12_isHeard_56 hr rfl hE
    · have h := (ite_inv h).1 c3
      refine r_aload_n C dX12_isHeard_17 0 rfl ?_
      refine r_getR C flX12_13 dX12_isHeard_18 (ly139 hY) rfl (lr139_1 hY) ?_
      refine r_bipush C dX12_isHeard_21 bp_44 ?_
      refine r_iload_n C dX12_isHeard_23 1 rfl ?_
      refine r_iadd C dX12_isHeard_24 ?_
      obtain ⟨b4, h⟩ := gd_inv h
      refine r_iald C dX12_isHeard_25 (ly140 hY) b4 ?_
      refine r_iconst C dX12_isHeard_26 ic_m1 ?_
      refine r_icmp_eq 55 C dX12_isHeard_27 (by decide) (fun c5 => ?_) (fun c5 => ?_)
      · have h := (ite_inv h).1 c5
        refine r_iconst C dX12_isHeard_55 ic_0 ?_
        have h := Option.some.inj h
        subst h
        exact r_zret C dX12_isHeard_56 hr rfl hE
      · have h := (ite_inv h).2 c5
        refine r_aload_n C dX12_isHeard_30 0 rfl ?_
        refine r_iload_n C dX12_isHeard_31 2 rfl ?_
        obtain ⟨u7, e6, h⟩ := bnd_inv h
        refine r_cVi (As := [.int x2]) (rest := []) C hR mlX12_255 dX12_isHeard_32 (tX12_hearsAt hY n x2  e6) rfl rfl (ly139 hY) rfl (nle rfl) (nle rfl) (nle rfl) ?_
        refine r_i2l C dX12_isHeard_35 ?_
        refine r_aload_n C dX12_isHeard_36 0 rfl ?_
        refine r_getR C flX12_13 dX12_isHeard_37 (ly139 hY) rfl (lr139_1 hY) ?_
        refine r_bipush C dX12_isHeard_40 bp_44 ?_
        refine r_iload_n C dX12_isHeard_42 1 rfl ?_
        refine r_iadd C dX12_isHeard_43 ?_
        obtain ⟨b8, h⟩ := gd_inv h
        refine r_iald C dX12_isHeard_44 (ly140 hY) b8 ?_
        obtain ⟨u10, e9, h⟩ := bnd_inv h
        refine r_cSi (As := [.long (u7.toInt64), .int (rI μ 140 (ix (44 + x1)))]) (rest := []) C hR mlX12_213 dX12_isHeard_45 (tX12_isIn hY n (u7.toInt64) (rI μ 140 (ix (44 + x1)))  e9) rfl rfl (nle rfl) (nle rfl) (nle rfl) ?_
        refine r_if_eq 55 C dX12_isHeard_48 (by decide) (fun c11 => ?_) (fun c11 => ?_)
        · have h := (ite_inv h).1 c11
          refine r_iconst C dX12_isHeard_55 ic_0 ?_
          have h := Option.some.inj h
          subst h
          exact r_zret C dX12_isHeard_56 hr rfl hE
        · have h := (ite_inv h).2 c11
          refine r_iconst C dX12_isHeard_51 ic_1 ?_
          refine r_goto 56 C dX12_isHeard_52 (by decide) ?_
          have h := Option.some.inj h
          subst h
          exact r_zret C dX12_isHeard_56 hr rfl hE
def jX12_mutualMany_45 (n : Nat) (x2 : Int32) (x3 : Int32) (s0 : Int32) (s1 : Int32) (μ : Mu) : Option ((Int32 × Int32) ⊕ (Int32)) := some (.inl (s1 + s0, x3 + 1))
set_option maxRecDepth 100000 in
set_option maxHeartbeats 4000000 in
theorem kX12_mutualMany_45 {Z : ZC} {sh : List Sh} {R : Rf} {o : (Int32 × Int32) ⊕ (Int32)} (C : CX Z cX12_mutualMany 4 RX12) (hR : zR Z = rm 2 0 0) (hY : LY sh R) (n : Nat) (x2 : Int32) (x3 : Int32) (s0 : Int32) (s1 : Int32) (μ : Mu) (h : jX12_mutualMany_45 n x2 x3 s0 s1 μ = some o) (kin : ∀ (x1 : Int32) (x3 : Int32), o = .inl (x1, x3) → Wm Z (0, 0, sh, R) μ 16 [(0, .ref (wb (zw Z) + 139)), (1, .int x1), (2, .int x2), (3, .int x3)] []) (kex0 : ∀ (x1 : Int32), o = .inr x1 → Wm Z (0, 0, sh, R) μ 53 [(0, .ref (wb (zw Z) + 139)), (1, .int x1), (2, .int x2)] []) : Wm Z (0, 0, sh, R) μ 45 [(0, .ref (wb (zw Z) + 139)), (2, .int x2), (3, .int x3)] [.int s0, .int s1] := by
  unfold jX12_mutualMany_45 at h
  refine r_iadd C dX12_mutualMany_45 ?_
  refine r_istore_n [(1, .int (s1 + s0)), (0, .ref (wb (zw Z) + 139)), (2, .int x2), (3, .int x3)] C dX12_mutualMany_46 rfl (by decide) rfl ?_
  refine r_iinc [(3, .int (x3 + 1)), (1, .int (s1 + s0)), (0, .ref (wb (zw Z) + 139)), (2, .int x2)] C dX12_mutualMany_47 3 rfl (in_1 _) (by decide) rfl ?_
  refine r_goto 16 C dX12_mutualMany_50 (by decide) ?_
  refine r_sub [(0, .ref (wb (zw Z) + 139)), (1, .int (s1 + s0)), (2, .int x2), (3, .int (x3 + 1))] [2, 1, 3, 0] rfl ?_
  exact kin (s1 + s0) (x3 + 1) (Option.some.inj h).symm
def jX12_mutualMany_44 (n : Nat) (x2 : Int32) (x3 : Int32) (s0 : Int32) (μ : Mu) : Option ((Int32 × Int32) ⊕ (Int32)) := jX12_mutualMany_45 n x2 x3 0 s0 μ
set_option maxRecDepth 100000 in
set_option maxHeartbeats 4000000 in
theorem kX12_mutualMany_44 {Z : ZC} {sh : List Sh} {R : Rf} {o : (Int32 × Int32) ⊕ (Int32)} (C : CX Z cX12_mutualMany 4 RX12) (hR : zR Z = rm 2 0 0) (hY : LY sh R) (n : Nat) (x2 : Int32) (x3 : Int32) (s0 : Int32) (μ : Mu) (h : jX12_mutualMany_44 n x2 x3 s0 μ = some o) (kin : ∀ (x1 : Int32) (x3 : Int32), o = .inl (x1, x3) → Wm Z (0, 0, sh, R) μ 16 [(0, .ref (wb (zw Z) + 139)), (1, .int x1), (2, .int x2), (3, .int x3)] []) (kex0 : ∀ (x1 : Int32), o = .inr x1 → Wm Z (0, 0, sh, R) μ 53 [(0, .ref (wb (zw Z) + 139)), (1, .int x1), (2, .int x2)] []) : Wm Z (0, 0, sh, R) μ 44 [(0, .ref (wb (zw Z) + 139)), (2, .int x2), (3, .int x3)] [.int s0] := by
  unfold jX12_mutualMany_44 at h
  refine r_iconst C dX12_mutualMany_44 ic_0 ?_
  exact kX12_mutualMany_45 C hR hY n   x2 x3 0 s0 μ h kin kex0
def sX12_mutualMany_16 (n : Nat) (x2 : Int32) (μ : Mu) : Int32 × Int32 → Option ((Int32 × Int32) ⊕ (Int32)) := fun q => match q with | (x1, x3) => if x2 ≤ x3 then (some (.inr x1)) else (bnd (fX12_isHeard n x2 x3 μ) fun u4 => if u4 = 0 then (jX12_mutualMany_44 n x2 x3 x1 μ) else (bnd (fX12_isHeard n x3 x2 μ) fun u7 => some (.inl (x1 + (if u7 = 0 then 0 else 1 : Int32), x3 + 1))))
set_option maxRecDepth 100000 in
set_option maxHeartbeats 4000000 in
theorem lX12_mutualMany_16 {Z : ZC} {sh : List Sh} {R : Rf} {o : (Int32 × Int32) ⊕ (Int32)} (C : CX Z cX12_mutualMany 4 RX12) (hR : zR Z = rm 2 0 0) (hY : LY sh R) (n : Nat) (x2 : Int32) (μ : Mu) (x1 : Int32) (x3 : Int32) (h : sX12_mutualMany_16 n x2 μ (x1, x3) = some o) (kin : ∀ (x1 : Int32) (x3 : Int32), o = .inl (x1, x3) → Wm Z (0, 0, sh, R) μ 16 [(0, .ref (wb (zw Z) + 139)), (1, .int x1), (2, .int x2), (3, .int x3)] []) (kex0 : ∀ (x1 : Int32), o = .inr x1 → Wm Z (0, 0, sh, R) μ 53 [(0, .ref (wb (zw Z) + 139)), (1, .int x1), (2, .int x2)] []) : Wm Z (0, 0, sh, R) μ 16 [(0, .ref (wb (zw Z) + 139)), (1, .int x1), (2, .int x2), (3, .int x3)] [] := by
  unfold sX12_mutualMany_16 at h
  refine r_iload_n C dX12_mutualMany_16 3 rfl ?_
  refine r_iload_n C dX12_mutualMany_17 2 rfl ?_
  refine r_icmp_ge 53 C dX12_mutualMany_18 (by decide) (fun c2 => ?_) (fun c2 => ?_)
  · have h := (ite_inv h).1 c2
    refine r_sub [(0, .ref (wb (zw Z) + 139)), (1, .int x1), (2, .int x2)] [0, 1, 2] rfl ?_
    exact kex0 x1 (Option.some.inj h).symm
  · have h := (ite_inv h).2 c2
    refine r_iload_n C dX12_mutualMany_21 1 rfl ?_
    refine r_aload_n C dX12_mutualMany_22 0 rfl ?_
    refine r_iload_n C dX12_mutualMany_23 2 rfl ?_
    refine r_iload_n C dX12_mutualMany_24 3 rfl ?_
    obtain ⟨u4, e3, h⟩ := bnd_inv h
    refine r_cVi (As := [.int x2, .int x3]) (rest := [.int x1]) C hR mlX12_379 dX12_mutualMany_25 (tX12_isHeard hY n x2 x3  e3) rfl rfl (ly139 hY) rfl (nle rfl) (nle rfl) (nle rfl) ?_
    refine r_if_eq 44 C dX12_mutualMany_28 (by decide) (fun c5 => ?_) (fun c5 => ?_)
    · have h := (ite_inv h).1 c5
      refine r_sub [(0, .ref (wb (zw Z) + 139)), (2, .int x2), (3, .int x3)] [0, 2, 3] rfl ?_
      exact kX12_mutualMany_44 C hR hY n   x2 x3 x1 μ h kin kex0
    · have h := (ite_inv h).2 c5
      refine r_aload_n C dX12_mutualMany_31 0 rfl ?_
      refine r_iload_n C dX12_mutualMany_32 3 rfl ?_
      refine r_iload_n C dX12_mutualMany_33 2 rfl ?_
      obtain ⟨u7, e6, h⟩ := bnd_inv h
      refine r_cVi (As := [.int x3, .int x2]) (rest := [.int x1]) C hR mlX12_379 dX12_mutualMany_34 (tX12_isHeard hY n x3 x2  e6) rfl rfl (ly139 hY) rfl (nle rfl) (nle rfl) (nle rfl) ?_
      suffices hj : Wm Z (0, 0, sh, R) μ 45 [(0, .ref (wb (zw Z) + 139)), (1, .int x1), (2, .int x2), (3, .int x3)] [.int (if u7 = 0 then 0 else 1 : Int32), .int x1] by
        refine r_if_eq 44 C dX12_mutualMany_37 (by decide) (fun c8 => ?_) (fun c8 => ?_)
        · refine r_iconst C dX12_mutualMany_44 ic_0 ?_
          exact sel_t c8 hj
        · refine r_iconst C dX12_mutualMany_40 ic_1 ?_
          refine r_goto 45 C dX12_mutualMany_41 (by decide) ?_
          exact sel_f c8 hj
      refine r_iadd C dX12_mutualMany_45 ?_
      refine r_istore_n [(1, .int (x1 + (if u7 = 0 then 0 else 1 : Int32))), (0, .ref (wb (zw Z) + 139)), (2, .int x2), (3, .int x3)] C dX12_mutualMany_46 rfl (by decide) rfl ?_
      refine r_iinc [(3, .int (x3 + 1)), (1, .int (x1 + (if u7 = 0 then 0 else 1 : Int32))), (0, .ref (wb (zw Z) + 139)), (2, .int x2)] C dX12_mutualMany_47 3 rfl (in_1 _) (by decide) rfl ?_
      refine r_goto 16 C dX12_mutualMany_50 (by decide) ?_
      refine r_sub [(0, .ref (wb (zw Z) + 139)), (1, .int (x1 + (if u7 = 0 then 0 else 1 : Int32))), (2, .int x2), (3, .int (x3 + 1))] [2, 1, 3, 0] rfl ?_
      exact kin (x1 + (if u7 = 0 then 0 else 1 : Int32)) (x3 + 1) (Option.some.inj h).symm
def sX12_mutualMany_4 (n : Nat) (μ : Mu) : Int32 × Int32 → Option ((Int32 × Int32) ⊕ (Int32)) := fun q => match q with | (x1, x2) => if (rI μ 140 3) ≤ x2 then (some (.inr x1)) else (bnd (lp n (sX12_mutualMany_16 n x2 μ) (x1, 0)) fun q => match q with | u9 => some (.inl (u9, x2 + 1)))
set_option maxRecDepth 100000 in
set_option maxHeartbeats 4000000 in
theorem lX12_mutualMany_4 {Z : ZC} {sh : List Sh} {R : Rf} {o : (Int32 × Int32) ⊕ (Int32)} (C : CX Z cX12_mutualMany 4 RX12) (hR : zR Z = rm 2 0 0) (hY : LY sh R) (n : Nat) (μ : Mu) (x1 : Int32) (x2 : Int32) (h : sX12_mutualMany_4 n μ (x1, x2) = some o) (kin : ∀ (x1 : Int32) (x2 : Int32), o = .inl (x1, x2) → Wm Z (0, 0, sh, R) μ 4 [(0, .ref (wb (zw Z) + 139)), (1, .int x1), (2, .int x2)] []) (kex0 : ∀ (x1 : Int32), o = .inr x1 → Wm Z (0, 0, sh, R) μ 59 [(1, .int x1)] []) : Wm Z (0, 0, sh, R) μ 4 [(0, .ref (wb (zw Z) + 139)), (1, .int x1), (2, .int x2)] [] := by
  unfold sX12_mutualMany_4 at h
  refine r_iload_n C dX12_mutualMany_4 2 rfl ?_
  refine r_aload_n C dX12_mutualMany_5 0 rfl ?_
  refine r_getR C flX12_13 dX12_mutualMany_6 (ly139 hY) rfl (lr139_1 hY) ?_
  refine r_iconst C dX12_mutualMany_9 ic_3 ?_
  refine r_iald C dX12_mutualMany_10 (ly140 hY) (by decide) ?_
  refine r_icmp_ge 59 C dX12_mutualMany_11 (by decide) (fun c1 => ?_) (fun c1 => ?_)
  · have h := (ite_inv h).1 c1
    refine r_sub [(1, .int x1)] [1] rfl ?_
    exact kex0 x1 (Option.some.inj h).symm
  · have h := (ite_inv h).2 c1
    refine r_iconst C dX12_mutualMany_14 ic_0 ?_
    refine r_istore_n [(3, .int 0), (0, .ref (wb (zw Z) + 139)), (1, .int x1), (2, .int x2)] C dX12_mutualMany_15 rfl (by decide) rfl ?_
    refine r_sub [(0, .ref (wb (zw Z) + 139)), (1, .int x1), (2, .int x2), (3, .int 0)] [1, 2, 3, 0] rfl ?_
    obtain ⟨u9, e10, h⟩ := bnd_inv h
    refine lp_all (sX12_mutualMany_16 n x2 μ) (fun q => match q with | (z1, z3) => Wm Z (0, 0, sh, R) μ 16 [(0, .ref (wb (zw Z) + 139)), (1, .int z1), (2, .int x2), (3, .int z3)] []) (fun q => match q with | z1 => Wm Z (0, 0, sh, R) μ 53 [(0, .ref (wb (zw Z) + 139)), (1, .int z1), (2, .int x2)] []) (fun q o h kin kex => ?_) n (x1, 0) u9 e10 ?_
    · obtain ⟨z1, z3⟩ := q; exact lX12_mutualMany_16 C hR hY n   x2 μ z1 z3 h (fun z1 z3 e => kin (z1, z3) e) (fun z1 e => kex z1 e)
    show Wm Z (0, 0, sh, R) μ 53 [(0, .ref (wb (zw Z) + 139)), (1, .int u9), (2, .int x2)] []
    refine r_iinc [(2, .int (x2 + 1)), (0, .ref (wb (zw Z) + 139)), (1, .int u9)] C dX12_mutualMany_53 2 rfl (in_1 _) (by decide) rfl ?_
    refine r_goto 4 C dX12_mutualMany_56 (by decide) ?_
    refine r_sub [(0, .ref (wb (zw Z) + 139)), (1, .int u9), (2, .int (x2 + 1))] [1, 2, 0] rfl ?_
    exact kin u9 (x2 + 1) (Option.some.inj h).symm
def fX12_mutualMany (n : Nat)  (μ : Mu) : Option (Int32) := bnd (lp n (sX12_mutualMany_4 n μ) (0, 0)) fun q => match q with | u11 => some u11
set_option maxRecDepth 100000 in
set_option maxHeartbeats 4000000 in
theorem tX12_mutualMany {l : Launch} {w : WP} {sh : List Sh} {R : Rf} {μ : Mu} {r : Int32} (hY : LY sh R) (n : Nat)   (h : fX12_mutualMany n μ = some r) : CM l w yX12_mutualMany cX12_mutualMany 4 (some .int) 2 0 0 sh R [.ref (wb w + 139)] μ (some (.int r)) sh R μ := by
  refine CM.of (plainFor_of_name pf_X12) (Nat.le_of_ble_eq_true rfl) fun Z C hr _ hR hw hl hE => ?_
  subst hw; subst hl
  have C : CX Z cX12_mutualMany 4 RX12 := C
  show Wm Z (0, 0, sh, R) μ 0 [(0, .ref (wb (zw Z) + 139))] []
  unfold fX12_mutualMany at h
  refine r_iconst C dX12_mutualMany_0 ic_0 ?_
  refine r_istore_n [(1, .int 0), (0, .ref (wb (zw Z) + 139))] C dX12_mutualMany_1 rfl (by decide) rfl ?_
  refine r_iconst C dX12_mutualMany_2 ic_0 ?_
  refine r_istore_n [(2, .int 0), (1, .int 0), (0, .ref (wb (zw Z) + 139))] C dX12_mutualMany_3 rfl (by decide) rfl ?_
  refine r_sub [(0, .ref (wb (zw Z) + 139)), (1, .int 0), (2, .int 0)] [2, 1, 0] rfl ?_
  obtain ⟨u11, e12, h⟩ := bnd_inv h
  refine lp_all (sX12_mutualMany_4 n μ) (fun q => match q with | (z1, z2) => Wm Z (0, 0, sh, R) μ 4 [(0, .ref (wb (zw Z) + 139)), (1, .int z1), (2, .int z2)] []) (fun q => match q with | z1 => Wm Z (0, 0, sh, R) μ 59 [(1, .int z1)] []) (fun q o h kin kex => ?_) n (0, 0) u11 e12 ?_
  · obtain ⟨z1, z2⟩ := q; exact lX12_mutualMany_4 C hR hY n   μ z1 z2 h (fun z1 z2 e => kin (z1, z2) e) (fun z1 e => kex z1 e)
  show Wm Z (0, 0, sh, R) μ 59 [(1, .int u11)] []
  refine r_iload_n C dX12_mutualMany_59 0 rfl ?_
  have h := Option.some.inj h
  subst h
  exact r_iret C dX12_mutualMany_60 hr hE
def sX12_hears_21 (n : Nat) (x1 : Int32) (μ : Mu) : Int32 × Int32 → Option ((Int32 × Int32) ⊕ (Int32)) := fun q => match q with | (x2, x3) => if (rI μ 140 3) ≤ x3 then (some (.inr x2)) else (bnd (fX12_isHeard n x3 x1 μ) fun u6 => some (.inl (x2 ||| (if u6 = 0 then 0 else (shl 1 x3)), x3 + 1)))
set_option maxRecDepth 100000 in
set_option maxHeartbeats 4000000 in
theorem lX12_hears_21 {Z : ZC} {sh : List Sh} {R : Rf} {o : (Int32 × Int32) ⊕ (Int32)} (C : CX Z cX12_hears 4 RX12) (hR : zR Z = rm 2 0 0) (hY : LY sh R) (n : Nat) (x1 : Int32) (μ : Mu) (x2 : Int32) (x3 : Int32) (h : sX12_hears_21 n x1 μ (x2, x3) = some o) (kin : ∀ (x2 : Int32) (x3 : Int32), o = .inl (x2, x3) → Wm Z (0, 0, sh, R) μ 21 [(0, .ref (wb (zw Z) + 139)), (1, .int x1), (2, .int x2), (3, .int x3)] []) (kex0 : ∀ (x2 : Int32), o = .inr x2 → Wm Z (0, 0, sh, R) μ 56 [(2, .int x2)] []) : Wm Z (0, 0, sh, R) μ 21 [(0, .ref (wb (zw Z) + 139)), (1, .int x1), (2, .int x2), (3, .int x3)] [] := by
  unfold sX12_hears_21 at h
  refine r_iload_n C dX12_hears_21 3 rfl ?_
  refine r_aload_n C dX12_hears_22 0 rfl ?_
  refine r_getR C flX12_13 dX12_hears_23 (ly139 hY) rfl (lr139_1 hY) ?_
  refine r_iconst C dX12_hears_26 ic_3 ?_
  refine r_iald C dX12_hears_27 (ly140 hY) (by decide) ?_
  refine r_icmp_ge 56 C dX12_hears_28 (by decide) (fun c4 => ?_) (fun c4 => ?_)
  · have h := (ite_inv h).1 c4
    refine r_sub [(2, .int x2)] [2] rfl ?_
    exact kex0 x2 (Option.some.inj h).symm
  · have h := (ite_inv h).2 c4
    refine r_iload_n C dX12_hears_31 2 rfl ?_
    refine r_aload_n C dX12_hears_32 0 rfl ?_
    refine r_iload_n C dX12_hears_33 3 rfl ?_
    refine r_iload_n C dX12_hears_34 1 rfl ?_
    obtain ⟨u6, e5, h⟩ := bnd_inv h
    refine r_cVi (As := [.int x3, .int x1]) (rest := [.int x2]) C hR mlX12_379 dX12_hears_35 (tX12_isHeard hY n x3 x1  e5) rfl rfl (ly139 hY) rfl (nle rfl) (nle rfl) (nle rfl) ?_
    suffices hj : Wm Z (0, 0, sh, R) μ 48 [(0, .ref (wb (zw Z) + 139)), (1, .int x1), (2, .int x2), (3, .int x3)] [.int (if u6 = 0 then 0 else (shl 1 x3)), .int x2] by
      refine r_if_eq 47 C dX12_hears_38 (by decide) (fun c7 => ?_) (fun c7 => ?_)
      · refine r_iconst C dX12_hears_47 ic_0 ?_
        exact sel_t c7 hj
      · refine r_iconst C dX12_hears_41 ic_1 ?_
        refine r_iload_n C dX12_hears_42 3 rfl ?_
        refine r_ishl C dX12_hears_43 ?_
        refine r_goto 48 C dX12_hears_44 (by decide) ?_
        exact sel_f c7 hj
    refine r_ior C dX12_hears_48 ?_
    refine r_istore_n [(2, .int (x2 ||| (if u6 = 0 then 0 else (shl 1 x3)))), (0, .ref (wb (zw Z) + 139)), (1, .int x1), (3, .int x3)] C dX12_hears_49 rfl (by decide) rfl ?_
    refine r_iinc [(3, .int (x3 + 1)), (2, .int (x2 ||| (if u6 = 0 then 0 else (shl 1 x3)))), (0, .ref (wb (zw Z) + 139)), (1, .int x1)] C dX12_hears_50 3 rfl (in_1 _) (by decide) rfl ?_
    refine r_goto 21 C dX12_hears_53 (by decide) ?_
    refine r_sub [(0, .ref (wb (zw Z) + 139)), (1, .int x1), (2, .int (x2 ||| (if u6 = 0 then 0 else (shl 1 x3)))), (3, .int (x3 + 1))] [2, 3, 1, 0] rfl ?_
    exact kin (x2 ||| (if u6 = 0 then 0 else (shl 1 x3))) (x3 + 1) (Option.some.inj h).symm
def fX12_hears (n : Nat) (x1 : Int32) (μ : Mu) : Option (Int32 × Mu) := bnd (fX12_isPerson n (x1.toInt64) (wI μ 139 0 0)) fun u2 => if u2 = 0 then (some ((-2), wI μ 139 0 0)) else (bnd (lp n (sX12_hears_21 n x1 (wI μ 139 0 0)) (0, 0)) fun q => match q with | u8 => some (u8, wI μ 139 0 0))
set_option maxRecDepth 100000 in
set_option maxHeartbeats 4000000 in
theorem tX12_hears {l : Launch} {w : WP} {sh : List Sh} {R : Rf} {μ : Mu} {r : Int32} {μ' : Mu} (hY : LY sh R) (n : Nat) (x1 : Int32)  (h : fX12_hears n x1 μ = some (r, μ')) : CM l w yX12_hears cX12_hears 4 (some .int) 2 0 0 sh R [.ref (wb w + 139), .int x1] μ (some (.int r)) sh R μ' := by
  refine CM.of (plainFor_of_name pf_X12) (Nat.le_of_ble_eq_true rfl) fun Z C hr _ hR hw hl hE => ?_
  subst hw; subst hl
  have C : CX Z cX12_hears 4 RX12 := C
  show Wm Z (0, 0, sh, R) μ 0 [(0, .ref (wb (zw Z) + 139)), (1, .int x1)] []
  unfold fX12_hears at h
  refine r_aload_n C dX12_hears_0 0 rfl ?_
  refine r_iconst C dX12_hears_1 ic_0 ?_
  refine r_putI C fiX12_1 dX12_hears_2 (ly139 hY) ?_
  refine r_aload_n C dX12_hears_5 0 rfl ?_
  refine r_iload_n C dX12_hears_6 1 rfl ?_
  refine r_i2l C dX12_hears_7 ?_
  obtain ⟨u2, e1, h⟩ := bnd_inv h
  refine r_cVi (As := [.long (x1.toInt64)]) (rest := []) C hR mlX12_224 dX12_hears_8 (tX12_isPerson hY n (x1.toInt64)  e1) rfl rfl (ly139 hY) rfl (nle rfl) (nle rfl) (nle rfl) ?_
  refine r_if_ne 17 C dX12_hears_11 (by decide) (fun c3 => ?_) (fun c3 => ?_)
  · have h := (ite_inv h).2 c3
    refine r_iconst C dX12_hears_17 ic_0 ?_
    refine r_istore_n [(2, .int 0), (0, .ref (wb (zw Z) + 139)), (1, .int x1)] C dX12_hears_18 rfl (by decide) rfl ?_
    refine r_iconst C dX12_hears_19 ic_0 ?_
    refine r_istore_n [(3, .int 0), (2, .int 0), (0, .ref (wb (zw Z) + 139)), (1, .int x1)] C dX12_hears_20 rfl (by decide) rfl ?_
    refine r_sub [(0, .ref (wb (zw Z) + 139)), (1, .int x1), (2, .int 0), (3, .int 0)] [2, 3, 1, 0] rfl ?_
    obtain ⟨u8, e9, h⟩ := bnd_inv h
    refine lp_all (sX12_hears_21 n x1 (wI μ 139 0 0)) (fun q => match q with | (z2, z3) => Wm Z (0, 0, sh, R) (wI μ 139 0 0) 21 [(0, .ref (wb (zw Z) + 139)), (1, .int x1), (2, .int z2), (3, .int z3)] []) (fun q => match q with | z2 => Wm Z (0, 0, sh, R) (wI μ 139 0 0) 56 [(2, .int z2)] []) (fun q o h kin kex => ?_) n (0, 0) u8 e9 ?_
    · obtain ⟨z2, z3⟩ := q; exact lX12_hears_21 C hR hY n   x1 (wI μ 139 0 0) z2 z3 h (fun z2 z3 e => kin (z2, z3) e) (fun z2 e => kex z2 e)
    show Wm Z (0, 0, sh, R) (wI μ 139 0 0) 56 [(2, .int u8)] []
    refine r_iload_n C dX12_hears_56 0 rfl ?_
    obtain ⟨h1, h2⟩ := Prod.mk.inj (Option.some.inj h)
    subst h1; subst h2
    exact r_iret C dX12_hears_57 hr hE
  · have h := (ite_inv h).1 c3
    refine r_bipush C dX12_hears_14 bp_m2 ?_
    obtain ⟨h1, h2⟩ := Prod.mk.inj (Option.some.inj h)
    subst h1; subst h2
    exact r_iret C dX12_hears_16 hr hE
def fX12_mutual (n : Nat)  (μ : Mu) : Option (Int32 × Mu) := bnd (fX12_mutualMany n (wI μ 139 0 0)) fun u2 => some (u2, wI μ 139 0 0)
set_option maxRecDepth 100000 in
set_option maxHeartbeats 4000000 in
theorem tX12_mutual {l : Launch} {w : WP} {sh : List Sh} {R : Rf} {μ : Mu} {r : Int32} {μ' : Mu} (hY : LY sh R) (n : Nat)   (h : fX12_mutual n μ = some (r, μ')) : CM l w yX12_mutual cX12_mutual 1 (some .int) 3 0 0 sh R [.ref (wb w + 139)] μ (some (.int r)) sh R μ' := by
  refine CM.of (plainFor_of_name pf_X12) (Nat.le_of_ble_eq_true rfl) fun Z C hr _ hR hw hl hE => ?_
  subst hw; subst hl
  have C : CX Z cX12_mutual 1 RX12 := C
  show Wm Z (0, 0, sh, R) μ 0 [(0, .ref (wb (zw Z) + 139))] []
  unfold fX12_mutual at h
  refine r_aload_n C dX12_mutual_0 0 rfl ?_
  refine r_iconst C dX12_mutual_1 ic_0 ?_
  refine r_putI C fiX12_1 dX12_mutual_2 (ly139 hY) ?_
  refine r_aload_n C dX12_mutual_5 0 rfl ?_
  obtain ⟨u2, e1, h⟩ := bnd_inv h
  refine r_cVi (As := []) (rest := []) C hR mlX12_383 dX12_mutual_6 (tX12_mutualMany hY n  e1) rfl rfl (ly139 hY) rfl (nle rfl) (nle rfl) (nle rfl) ?_
  obtain ⟨h1, h2⟩ := Prod.mk.inj (Option.some.inj h)
  subst h1; subst h2
  exact r_iret C dX12_mutual_9 hr hE
def sX12_passes_65 (n : Nat) (x2 : Int32) (x3 : Int32) (x4 : Int32) (x6 : Int32) (μ : Mu) : Int32 × Int32 → Option ((Int32 × Int32) ⊕ (Int32)) := fun q => match q with | (x5, x7) => if (rI μ 140 3) ≤ x7 then (some (.inr x5)) else (bnd (fX12_isIn n (x3.toInt64) x6 μ) fun u12 => if u12 = 0 then (some (.inl (x5, x7 + 1))) else (bnd (fX12_isHeard n x6 x7 μ) fun u15 => if u15 = 0 then (some (.inl (x5, x7 + 1))) else (some (.inl (x5 ||| (shl 1 x7), x7 + 1)))))
set_option maxRecDepth 100000 in
set_option maxHeartbeats 4000000 in
theorem lX12_passes_65 {Z : ZC} {sh : List Sh} {R : Rf} {o : (Int32 × Int32) ⊕ (Int32)} (C : CX Z cX12_passes 8 RX12) (hR : zR Z = rm 2 0 0) (hY : LY sh R) (n : Nat) (x2 : Int32) (x3 : Int32) (x4 : Int32) (x6 : Int32) (μ : Mu) (x5 : Int32) (x7 : Int32) (h : sX12_passes_65 n x2 x3 x4 x6 μ (x5, x7) = some o) (kin : ∀ (x5 : Int32) (x7 : Int32), o = .inl (x5, x7) → Wm Z (0, 0, sh, R) μ 65 [(0, .ref (wb (zw Z) + 139)), (2, .int x2), (3, .int x3), (4, .int x4), (5, .int x5), (6, .int x6), (7, .int x7)] []) (kex0 : ∀ (x5 : Int32), o = .inr x5 → Wm Z (0, 0, sh, R) μ 112 [(0, .ref (wb (zw Z) + 139)), (2, .int x2), (3, .int x3), (4, .int x4), (5, .int x5), (6, .int x6)] []) : Wm Z (0, 0, sh, R) μ 65 [(0, .ref (wb (zw Z) + 139)), (2, .int x2), (3, .int x3), (4, .int x4), (5, .int x5), (6, .int x6), (7, .int x7)] [] := by
  unfold sX12_passes_65 at h
  refine r_iload C dX12_passes_65 6 rfl ?_
  refine r_aload_n C dX12_passes_67 0 rfl ?_
  refine r_getR C flX12_13 dX12_passes_68 (ly139 hY) rfl (lr139_1 hY) ?_
  refine r_iconst C dX12_passes_71 ic_3 ?_
  refine r_iald C dX12_passes_72 (ly140 hY) (by decide) ?_
  refine r_icmp_ge 112 C dX12_passes_73 (by decide) (fun c10 => ?_) (fun c10 => ?_)
  · have h := (ite_inv h).1 c10
    refine r_sub [(0, .ref (wb (zw Z) + 139)), (2, .int x2), (3, .int x3), (4, .int x4), (5, .int x5), (6, .int x6)] [0, 1, 2, 3, 4, 5] rfl ?_
    exact kex0 x5 (Option.some.inj h).symm
  · have h := (ite_inv h).2 c10
    refine r_iload_n C dX12_passes_76 2 rfl ?_
    refine r_i2l C dX12_passes_77 ?_
    refine r_iload C dX12_passes_78 5 rfl ?_
    obtain ⟨u12, e11, h⟩ := bnd_inv h
    refine r_cSi (As := [.long (x3.toInt64), .int x6]) (rest := []) C hR mlX12_213 dX12_passes_80 (tX12_isIn hY n (x3.toInt64) x6  e11) rfl rfl (nle rfl) (nle rfl) (nle rfl) ?_
    refine r_if_eq 106 C dX12_passes_83 (by decide) (fun c13 => ?_) (fun c13 => ?_)
    · have h := (ite_inv h).1 c13
      refine r_iinc [(7, .int (x7 + 1)), (0, .ref (wb (zw Z) + 139)), (2, .int x2), (3, .int x3), (4, .int x4), (5, .int x5), (6, .int x6)] C dX12_passes_106 6 rfl (in_1 _) (by decide) rfl ?_
      refine r_goto 65 C dX12_passes_109 (by decide) ?_
      refine r_sub [(0, .ref (wb (zw Z) + 139)), (2, .int x2), (3, .int x3), (4, .int x4), (5, .int x5), (6, .int x6), (7, .int (x7 + 1))] [1, 2, 3, 4, 5, 6, 0] rfl ?_
      exact kin x5 (x7 + 1) (Option.some.inj h).symm
    · have h := (ite_inv h).2 c13
      refine r_aload_n C dX12_passes_86 0 rfl ?_
      refine r_iload C dX12_passes_87 5 rfl ?_
      refine r_iload C dX12_passes_89 6 rfl ?_
      obtain ⟨u15, e14, h⟩ := bnd_inv h
      refine r_cVi (As := [.int x6, .int x7]) (rest := []) C hR mlX12_379 dX12_passes_91 (tX12_isHeard hY n x6 x7  e14) rfl rfl (ly139 hY) rfl (nle rfl) (nle rfl) (nle rfl) ?_
      refine r_if_eq 106 C dX12_passes_94 (by decide) (fun c16 => ?_) (fun c16 => ?_)
      · have h := (ite_inv h).1 c16
        refine r_iinc [(7, .int (x7 + 1)), (0, .ref (wb (zw Z) + 139)), (2, .int x2), (3, .int x3), (4, .int x4), (5, .int x5), (6, .int x6)] C dX12_passes_106 6 rfl (in_1 _) (by decide) rfl ?_
        refine r_goto 65 C dX12_passes_109 (by decide) ?_
        refine r_sub [(0, .ref (wb (zw Z) + 139)), (2, .int x2), (3, .int x3), (4, .int x4), (5, .int x5), (6, .int x6), (7, .int (x7 + 1))] [1, 2, 3, 4, 5, 6, 0] rfl ?_
        exact kin x5 (x7 + 1) (Option.some.inj h).symm
      · have h := (ite_inv h).2 c16
        refine r_iload C dX12_passes_97 4 rfl ?_
        refine r_iconst C dX12_passes_99 ic_1 ?_
        refine r_iload C dX12_passes_100 6 rfl ?_
        refine r_ishl C dX12_passes_102 ?_
        refine r_ior C dX12_passes_103 ?_
        refine r_istore [(5, .int (x5 ||| (shl 1 x7))), (0, .ref (wb (zw Z) + 139)), (2, .int x2), (3, .int x3), (4, .int x4), (6, .int x6), (7, .int x7)] C dX12_passes_104 (by decide) rfl ?_
        refine r_iinc [(7, .int (x7 + 1)), (5, .int (x5 ||| (shl 1 x7))), (0, .ref (wb (zw Z) + 139)), (2, .int x2), (3, .int x3), (4, .int x4), (6, .int x6)] C dX12_passes_106 6 rfl (in_1 _) (by decide) rfl ?_
        refine r_goto 65 C dX12_passes_109 (by decide) ?_
        refine r_sub [(0, .ref (wb (zw Z) + 139)), (2, .int x2), (3, .int x3), (4, .int x4), (5, .int (x5 ||| (shl 1 x7))), (6, .int x6), (7, .int (x7 + 1))] [2, 3, 4, 5, 1, 6, 0] rfl ?_
        exact kin (x5 ||| (shl 1 x7)) (x7 + 1) (Option.some.inj h).symm
def sX12_passes_51 (n : Nat) (x2 : Int32) (x3 : Int32) (x4 : Int32) (μ : Mu) : Int32 × Int32 → Option ((Int32 × Int32) ⊕ (Int32)) := fun q => match q with | (x5, x6) => if (rI μ 140 3) ≤ x6 then (some (.inr x5)) else (bnd (lp n (sX12_passes_65 n x2 x3 x4 x6 μ) (x5, 0)) fun q => match q with | u17 => some (.inl (u17, x6 + 1)))
set_option maxRecDepth 100000 in
set_option maxHeartbeats 4000000 in
theorem lX12_passes_51 {Z : ZC} {sh : List Sh} {R : Rf} {o : (Int32 × Int32) ⊕ (Int32)} (C : CX Z cX12_passes 8 RX12) (hR : zR Z = rm 2 0 0) (hY : LY sh R) (n : Nat) (x2 : Int32) (x3 : Int32) (x4 : Int32) (μ : Mu) (x5 : Int32) (x6 : Int32) (h : sX12_passes_51 n x2 x3 x4 μ (x5, x6) = some o) (kin : ∀ (x5 : Int32) (x6 : Int32), o = .inl (x5, x6) → Wm Z (0, 0, sh, R) μ 51 [(0, .ref (wb (zw Z) + 139)), (2, .int x2), (3, .int x3), (4, .int x4), (5, .int x5), (6, .int x6)] []) (kex0 : ∀ (x5 : Int32), o = .inr x5 → Wm Z (0, 0, sh, R) μ 118 [(0, .ref (wb (zw Z) + 139)), (2, .int x2), (4, .int x4), (5, .int x5)] []) : Wm Z (0, 0, sh, R) μ 51 [(0, .ref (wb (zw Z) + 139)), (2, .int x2), (3, .int x3), (4, .int x4), (5, .int x5), (6, .int x6)] [] := by
  unfold sX12_passes_51 at h
  refine r_iload C dX12_passes_51 5 rfl ?_
  refine r_aload_n C dX12_passes_53 0 rfl ?_
  refine r_getR C flX12_13 dX12_passes_54 (ly139 hY) rfl (lr139_1 hY) ?_
  refine r_iconst C dX12_passes_57 ic_3 ?_
  refine r_iald C dX12_passes_58 (ly140 hY) (by decide) ?_
  refine r_icmp_ge 118 C dX12_passes_59 (by decide) (fun c9 => ?_) (fun c9 => ?_)
  · have h := (ite_inv h).1 c9
    refine r_sub [(0, .ref (wb (zw Z) + 139)), (2, .int x2), (4, .int x4), (5, .int x5)] [0, 1, 3, 4] rfl ?_
    exact kex0 x5 (Option.some.inj h).symm
  · have h := (ite_inv h).2 c9
    refine r_iconst C dX12_passes_62 ic_0 ?_
    refine r_istore [(7, .int 0), (0, .ref (wb (zw Z) + 139)), (2, .int x2), (3, .int x3), (4, .int x4), (5, .int x5), (6, .int x6)] C dX12_passes_63 (by decide) rfl ?_
    refine r_sub [(0, .ref (wb (zw Z) + 139)), (2, .int x2), (3, .int x3), (4, .int x4), (5, .int x5), (6, .int x6), (7, .int 0)] [1, 2, 3, 4, 5, 6, 0] rfl ?_
    obtain ⟨u17, e18, h⟩ := bnd_inv h
    refine lp_all (sX12_passes_65 n x2 x3 x4 x6 μ) (fun q => match q with | (z5, z7) => Wm Z (0, 0, sh, R) μ 65 [(0, .ref (wb (zw Z) + 139)), (2, .int x2), (3, .int x3), (4, .int x4), (5, .int z5), (6, .int x6), (7, .int z7)] []) (fun q => match q with | z5 => Wm Z (0, 0, sh, R) μ 112 [(0, .ref (wb (zw Z) + 139)), (2, .int x2), (3, .int x3), (4, .int x4), (5, .int z5), (6, .int x6)] []) (fun q o h kin kex => ?_) n (x5, 0) u17 e18 ?_
    · obtain ⟨z5, z7⟩ := q; exact lX12_passes_65 C hR hY n   x2 x3 x4 x6 μ z5 z7 h (fun z5 z7 e => kin (z5, z7) e) (fun z5 e => kex z5 e)
    show Wm Z (0, 0, sh, R) μ 112 [(0, .ref (wb (zw Z) + 139)), (2, .int x2), (3, .int x3), (4, .int x4), (5, .int u17), (6, .int x6)] []
    refine r_iinc [(6, .int (x6 + 1)), (0, .ref (wb (zw Z) + 139)), (2, .int x2), (3, .int x3), (4, .int x4), (5, .int u17)] C dX12_passes_112 5 rfl (in_1 _) (by decide) rfl ?_
    refine r_goto 51 C dX12_passes_115 (by decide) ?_
    refine r_sub [(0, .ref (wb (zw Z) + 139)), (2, .int x2), (3, .int x3), (4, .int x4), (5, .int u17), (6, .int (x6 + 1))] [1, 2, 3, 4, 5, 0] rfl ?_
    exact kin u17 (x6 + 1) (Option.some.inj h).symm
def sX12_passes_38 (n : Nat) (x2 : Int32) (μ : Mu) : Int32 × Int32 → Option ((Int32 × Int32) ⊕ ((Int32) ⊕ (Unit))) := fun q => match q with | (x3, x4) => if 6 < x4 then (some (.inr (.inr ()))) else (bnd (lp n (sX12_passes_51 n x2 x3 x4 μ) (x3, 0)) fun q => match q with | u19 => bnd (fX12_isIn n (u19.toInt64) x2 μ) fun u22 => if u22 = 0 then (some (.inl (u19, x4 + 1))) else (some (.inr (.inl x4))))
set_option maxRecDepth 100000 in
set_option maxHeartbeats 4000000 in
theorem lX12_passes_38 {Z : ZC} {sh : List Sh} {R : Rf} {o : (Int32 × Int32) ⊕ ((Int32) ⊕ (Unit))} (C : CX Z cX12_passes 8 RX12) (hR : zR Z = rm 2 0 0) (hY : LY sh R) (n : Nat) (x2 : Int32) (μ : Mu) (x3 : Int32) (x4 : Int32) (h : sX12_passes_38 n x2 μ (x3, x4) = some o) (kin : ∀ (x3 : Int32) (x4 : Int32), o = .inl (x3, x4) → Wm Z (0, 0, sh, R) μ 38 [(0, .ref (wb (zw Z) + 139)), (2, .int x2), (3, .int x3), (4, .int x4)] []) (kex0 : ∀ (x4 : Int32), o = .inr (.inl x4) → Wm Z (0, 0, sh, R) μ 128 [(4, .int x4)] []) (kex1 : o = .inr (.inr ()) → Wm Z (0, 0, sh, R) μ 140 [] []) : Wm Z (0, 0, sh, R) μ 38 [(0, .ref (wb (zw Z) + 139)), (2, .int x2), (3, .int x3), (4, .int x4)] [] := by
  unfold sX12_passes_38 at h
  refine r_iload C dX12_passes_38 3 rfl ?_
  refine r_bipush C dX12_passes_40 bp_6 ?_
  refine r_icmp_gt 140 C dX12_passes_42 (by decide) (fun c8 => ?_) (fun c8 => ?_)
  · have h := (ite_inv h).1 c8
    refine r_sub [] [] rfl ?_
    exact kex1 (Option.some.inj h).symm
  · have h := (ite_inv h).2 c8
    refine r_iload_n C dX12_passes_45 2 rfl ?_
    refine r_istore [(5, .int x3), (0, .ref (wb (zw Z) + 139)), (2, .int x2), (3, .int x3), (4, .int x4)] C dX12_passes_46 (by decide) rfl ?_
    refine r_iconst C dX12_passes_48 ic_0 ?_
    refine r_istore [(6, .int 0), (5, .int x3), (0, .ref (wb (zw Z) + 139)), (2, .int x2), (3, .int x3), (4, .int x4)] C dX12_passes_49 (by decide) rfl ?_
    refine r_sub [(0, .ref (wb (zw Z) + 139)), (2, .int x2), (3, .int x3), (4, .int x4), (5, .int x3), (6, .int 0)] [2, 3, 4, 5, 1, 0] rfl ?_
    obtain ⟨u19, e20, h⟩ := bnd_inv h
    refine lp_all (sX12_passes_51 n x2 x3 x4 μ) (fun q => match q with | (z5, z6) => Wm Z (0, 0, sh, R) μ 51 [(0, .ref (wb (zw Z) + 139)), (2, .int x2), (3, .int x3), (4, .int x4), (5, .int z5), (6, .int z6)] []) (fun q => match q with | z5 => Wm Z (0, 0, sh, R) μ 118 [(0, .ref (wb (zw Z) + 139)), (2, .int x2), (4, .int x4), (5, .int z5)] []) (fun q o h kin kex => ?_) n (x3, 0) u19 e20 ?_
    · obtain ⟨z5, z6⟩ := q; exact lX12_passes_51 C hR hY n   x2 x3 x4 μ z5 z6 h (fun z5 z6 e => kin (z5, z6) e) (fun z5 e => kex z5 e)
    show Wm Z (0, 0, sh, R) μ 118 [(0, .ref (wb (zw Z) + 139)), (2, .int x2), (4, .int x4), (5, .int u19)] []
    refine r_iload C dX12_passes_118 3 rfl ?_
    refine r_i2l C dX12_passes_120 ?_
    refine r_iload_n C dX12_passes_121 1 rfl ?_
    obtain ⟨u22, e21, h⟩ := bnd_inv h
    refine r_cSi (As := [.long (u19.toInt64), .int x2]) (rest := []) C hR mlX12_213 dX12_passes_122 (tX12_isIn hY n (u19.toInt64) x2  e21) rfl rfl (nle rfl) (nle rfl) (nle rfl) ?_
    refine r_if_eq 131 C dX12_passes_125 (by decide) (fun c23 => ?_) (fun c23 => ?_)
    · have h := (ite_inv h).1 c23
      refine r_iload C dX12_passes_131 3 rfl ?_
      refine r_istore_n [(3, .int u19), (0, .ref (wb (zw Z) + 139)), (2, .int x2), (4, .int x4), (5, .int u19)] C dX12_passes_133 rfl (by decide) rfl ?_
      refine r_iinc [(4, .int (x4 + 1)), (3, .int u19), (0, .ref (wb (zw Z) + 139)), (2, .int x2), (5, .int u19)] C dX12_passes_134 3 rfl (in_1 _) (by decide) rfl ?_
      refine r_goto 38 C dX12_passes_137 (by decide) ?_
      refine r_sub [(0, .ref (wb (zw Z) + 139)), (2, .int x2), (3, .int u19), (4, .int (x4 + 1))] [2, 3, 1, 0] rfl ?_
      exact kin u19 (x4 + 1) (Option.some.inj h).symm
    · have h := (ite_inv h).2 c23
      refine r_sub [(4, .int x4)] [2] rfl ?_
      exact kex0 x4 (Option.some.inj h).symm
def fX12_passes (n : Nat) (x1 : Int32) (x2 : Int32) (μ : Mu) : Option (Int32 × Mu) := bnd (fX12_isPerson n (x1.toInt64) (wI μ 139 0 0)) fun u2 => if u2 = 0 then (some ((-2), wI μ 139 0 0)) else (bnd (fX12_isPerson n (x2.toInt64) (wI μ 139 0 0)) fun u5 => if u5 = 0 then (some ((-2), wI μ 139 0 0)) else (if x1 = x2 then (some ((-2), wI μ 139 0 0)) else (bnd (lp n (sX12_passes_38 n x2 (wI μ 139 0 0)) (shl 1 x1, 1)) fun q => match q with | .inl u24 => (some (u24, wI μ 139 0 0)) | .inr () => (some ((-1), wI μ 139 0 0)))))
set_option maxRecDepth 100000 in
set_option maxHeartbeats 4000000 in
theorem tX12_passes {l : Launch} {w : WP} {sh : List Sh} {R : Rf} {μ : Mu} {r : Int32} {μ' : Mu} (hY : LY sh R) (n : Nat) (x1 : Int32) (x2 : Int32)  (h : fX12_passes n x1 x2 μ = some (r, μ')) : CM l w yX12_passes cX12_passes 8 (some .int) 2 0 0 sh R [.ref (wb w + 139), .int x1, .int x2] μ (some (.int r)) sh R μ' := by
  refine CM.of (plainFor_of_name pf_X12) (Nat.le_of_ble_eq_true rfl) fun Z C hr _ hR hw hl hE => ?_
  subst hw; subst hl
  have C : CX Z cX12_passes 8 RX12 := C
  show Wm Z (0, 0, sh, R) μ 0 [(0, .ref (wb (zw Z) + 139)), (1, .int x1), (2, .int x2)] []
  unfold fX12_passes at h
  refine r_aload_n C dX12_passes_0 0 rfl ?_
  refine r_iconst C dX12_passes_1 ic_0 ?_
  refine r_putI C fiX12_1 dX12_passes_2 (ly139 hY) ?_
  refine r_aload_n C dX12_passes_5 0 rfl ?_
  refine r_iload_n C dX12_passes_6 1 rfl ?_
  refine r_i2l C dX12_passes_7 ?_
  obtain ⟨u2, e1, h⟩ := bnd_inv h
  refine r_cVi (As := [.long (x1.toInt64)]) (rest := []) C hR mlX12_224 dX12_passes_8 (tX12_isPerson hY n (x1.toInt64)  e1) rfl rfl (ly139 hY) rfl (nle rfl) (nle rfl) (nle rfl) ?_
  refine r_if_eq 28 C dX12_passes_11 (by decide) (fun c3 => ?_) (fun c3 => ?_)
  · have h := (ite_inv h).1 c3
    refine r_bipush C dX12_passes_28 bp_m2 ?_
    obtain ⟨h1, h2⟩ := Prod.mk.inj (Option.some.inj h)
    subst h1; subst h2
    exact r_iret C dX12_passes_30 hr hE
  · have h := (ite_inv h).2 c3
    refine r_aload_n C dX12_passes_14 0 rfl ?_
    refine r_iload_n C dX12_passes_15 2 rfl ?_
    refine r_i2l C dX12_passes_16 ?_
    obtain ⟨u5, e4, h⟩ := bnd_inv h
    refine r_cVi (As := [.long (x2.toInt64)]) (rest := []) C hR mlX12_224 dX12_passes_17 (tX12_isPerson hY n (x2.toInt64)  e4) rfl rfl (ly139 hY) rfl (nle rfl) (nle rfl) (nle rfl) ?_
    refine r_if_eq 28 C dX12_passes_20 (by decide) (fun c6 => ?_) (fun c6 => ?_)
    · have h := (ite_inv h).1 c6
      refine r_bipush C dX12_passes_28 bp_m2 ?_
      obtain ⟨h1, h2⟩ := Prod.mk.inj (Option.some.inj h)
      subst h1; subst h2
      exact r_iret C dX12_passes_30 hr hE
    · have h := (ite_inv h).2 c6
      refine r_iload_n C dX12_passes_23 1 rfl ?_
      refine r_iload_n C dX12_passes_24 2 rfl ?_
      refine r_icmp_ne 31 C dX12_passes_25 (by decide) (fun c7 => ?_) (fun c7 => ?_)
      · have h := (ite_inv h).2 c7
        refine r_iconst C dX12_passes_31 ic_1 ?_
        refine r_iload_n C dX12_passes_32 1 rfl ?_
        refine r_ishl C dX12_passes_33 ?_
        refine r_istore_n [(3, .int (shl 1 x1)), (0, .ref (wb (zw Z) + 139)), (1, .int x1), (2, .int x2)] C dX12_passes_34 rfl (by decide) rfl ?_
        refine r_iconst C dX12_passes_35 ic_1 ?_
        refine r_istore [(4, .int 1), (3, .int (shl 1 x1)), (0, .ref (wb (zw Z) + 139)), (1, .int x1), (2, .int x2)] C dX12_passes_36 (by decide) rfl ?_
        refine r_sub [(0, .ref (wb (zw Z) + 139)), (2, .int x2), (3, .int (shl 1 x1)), (4, .int 1)] [2, 4, 1, 0] rfl ?_
        obtain ⟨q26, e25, h⟩ := bnd_inv h
        refine lp_all (sX12_passes_38 n x2 (wI μ 139 0 0)) (fun q => match q with | (z3, z4) => Wm Z (0, 0, sh, R) (wI μ 139 0 0) 38 [(0, .ref (wb (zw Z) + 139)), (2, .int x2), (3, .int z3), (4, .int z4)] []) (fun q => match q with | .inl z4 => Wm Z (0, 0, sh, R) (wI μ 139 0 0) 128 [(4, .int z4)] [] | .inr () => Wm Z (0, 0, sh, R) (wI μ 139 0 0) 140 [] []) (fun q o h kin kex => ?_) n (shl 1 x1, 1) q26 e25 ?_
        · obtain ⟨z3, z4⟩ := q; exact lX12_passes_38 C hR hY n   x2 (wI μ 139 0 0) z3 z4 h (fun z3 z4 e => kin (z3, z4) e) (fun z4 e => kex (.inl z4) e) (fun e => kex (.inr ()) e)
        rcases q26 with u24 | ⟨⟩
        · show Wm Z (0, 0, sh, R) (wI μ 139 0 0) 128 [(4, .int u24)] []
          refine r_iload C dX12_passes_128 0 rfl ?_
          obtain ⟨h1, h2⟩ := Prod.mk.inj (Option.some.inj h)
          subst h1; subst h2
          exact r_iret C dX12_passes_130 hr hE
        · show Wm Z (0, 0, sh, R) (wI μ 139 0 0) 140 [] []
          refine r_iconst C dX12_passes_140 ic_m1 ?_
          obtain ⟨h1, h2⟩ := Prod.mk.inj (Option.some.inj h)
          subst h1; subst h2
          exact r_iret C dX12_passes_141 hr hE
      · have h := (ite_inv h).1 c7
        refine r_bipush C dX12_passes_28 bp_m2 ?_
        obtain ⟨h1, h2⟩ := Prod.mk.inj (Option.some.inj h)
        subst h1; subst h2
        exact r_iret C dX12_passes_30 hr hE
def sX12_gift_38 (n : Nat) (x3 : Int32) (x4 : Int32) : Int32 × Int32 × Int32 × Mu → Option ((Int32 × Int32 × Int32 × Mu) ⊕ (Int32 × Int32 × Mu)) := fun q => match q with | (x1, x2, x5, μ) => if (rI μ 140 3) ≤ x5 then (some (.inr (x1, x2, μ))) else (if x5 = x4 then (some (.inl (x1, x2, x5 + 1, μ))) else (gd (ib (68 + x3) 6726) (bnd (fX12_mutualMany n (wI μ 140 (ix (68 + x3)) x5)) fun u9 => if x2 < u9 then (some (.inl ((10 * x3) + x5, u9, x5 + 1, wI μ 140 (ix (68 + x3)) x5))) else (some (.inl (x1, x2, x5 + 1, wI μ 140 (ix (68 + x3)) x5))))))
set_option maxRecDepth 100000 in
set_option maxHeartbeats 4000000 in
theorem lX12_gift_38 {Z : ZC} {sh : List Sh} {R : Rf} {o : (Int32 × Int32 × Int32 × Mu) ⊕ (Int32 × Int32 × Mu)} (C : CX Z cX12_gift 7 RX12) (hR : zR Z = rm 3 0 0) (hY : LY sh R) (n : Nat) (x3 : Int32) (x4 : Int32) (x1 : Int32) (x2 : Int32) (x5 : Int32) (μ : Mu) (h : sX12_gift_38 n x3 x4 (x1, x2, x5, μ) = some o) (kin : ∀ (x1 : Int32) (x2 : Int32) (x5 : Int32) (μ : Mu), o = .inl (x1, x2, x5, μ) → Wm Z (0, 0, sh, R) μ 38 [(0, .ref (wb (zw Z) + 139)), (1, .int x1), (2, .int x2), (3, .int x3), (4, .int x4), (5, .int x5)] []) (kex0 : ∀ (x1 : Int32) (x2 : Int32) (μ : Mu), o = .inr (x1, x2, μ) → Wm Z (0, 0, sh, R) μ 102 [(0, .ref (wb (zw Z) + 139)), (1, .int x1), (2, .int x2), (3, .int x3), (4, .int x4)] []) : Wm Z (0, 0, sh, R) μ 38 [(0, .ref (wb (zw Z) + 139)), (1, .int x1), (2, .int x2), (3, .int x3), (4, .int x4), (5, .int x5)] [] := by
  unfold sX12_gift_38 at h
  refine r_iload C dX12_gift_38 5 rfl ?_
  refine r_aload_n C dX12_gift_40 0 rfl ?_
  refine r_getR C flX12_13 dX12_gift_41 (ly139 hY) rfl (lr139_1 hY) ?_
  refine r_iconst C dX12_gift_44 ic_3 ?_
  refine r_iald C dX12_gift_45 (ly140 hY) (by decide) ?_
  refine r_icmp_ge 102 C dX12_gift_46 (by decide) (fun c5 => ?_) (fun c5 => ?_)
  · have h := (ite_inv h).1 c5
    refine r_sub [(0, .ref (wb (zw Z) + 139)), (1, .int x1), (2, .int x2), (3, .int x3), (4, .int x4)] [0, 1, 2, 3, 4] rfl ?_
    exact kex0 x1 x2 μ (Option.some.inj h).symm
  · have h := (ite_inv h).2 c5
    refine r_iload C dX12_gift_49 5 rfl ?_
    refine r_iload C dX12_gift_51 4 rfl ?_
    refine r_icmp_ne 59 C dX12_gift_53 (by decide) (fun c6 => ?_) (fun c6 => ?_)
    · have h := (ite_inv h).2 c6
      refine r_aload_n C dX12_gift_59 0 rfl ?_
      refine r_getR C flX12_13 dX12_gift_60 (ly139 hY) rfl (lr139_1 hY) ?_
      refine r_bipush C dX12_gift_63 bp_68 ?_
      refine r_iload_n C dX12_gift_65 3 rfl ?_
      refine r_iadd C dX12_gift_66 ?_
      refine r_iload C dX12_gift_67 5 rfl ?_
      obtain ⟨b7, h⟩ := gd_inv h
      refine r_iast C dX12_gift_69 (ly140 hY) b7 ?_
      refine r_aload_n C dX12_gift_70 0 rfl ?_
      obtain ⟨u9, e8, h⟩ := bnd_inv h
      refine r_cVi (As := []) (rest := []) C hR mlX12_383 dX12_gift_71 (tX12_mutualMany hY n  e8) rfl rfl (ly139 hY) rfl (nle rfl) (nle rfl) (nle rfl) ?_
      refine r_istore [(6, .int u9), (0, .ref (wb (zw Z) + 139)), (1, .int x1), (2, .int x2), (3, .int x3), (4, .int x4), (5, .int x5)] C dX12_gift_74 (by decide) rfl ?_
      refine r_iload C dX12_gift_76 0 rfl ?_
      refine r_iload_n C dX12_gift_78 3 rfl ?_
      refine r_icmp_gt 85 C dX12_gift_79 (by decide) (fun c10 => ?_) (fun c10 => ?_)
      · have h := (ite_inv h).1 c10
        refine r_bipush C dX12_gift_85 bp_10 ?_
        refine r_iload_n C dX12_gift_87 4 rfl ?_
        refine r_imul C dX12_gift_88 ?_
        refine r_iload C dX12_gift_89 6 rfl ?_
        refine r_iadd C dX12_gift_91 ?_
        refine r_istore_n [(1, .int ((10 * x3) + x5)), (6, .int u9), (0, .ref (wb (zw Z) + 139)), (2, .int x2), (3, .int x3), (4, .int x4), (5, .int x5)] C dX12_gift_92 rfl (by decide) rfl ?_
        refine r_iload C dX12_gift_93 1 rfl ?_
        refine r_istore_n [(2, .int u9), (1, .int ((10 * x3) + x5)), (6, .int u9), (0, .ref (wb (zw Z) + 139)), (3, .int x3), (4, .int x4), (5, .int x5)] C dX12_gift_95 rfl (by decide) rfl ?_
        refine r_iinc [(5, .int (x5 + 1)), (2, .int u9), (1, .int ((10 * x3) + x5)), (6, .int u9), (0, .ref (wb (zw Z) + 139)), (3, .int x3), (4, .int x4)] C dX12_gift_96 6 rfl (in_1 _) (by decide) rfl ?_
        refine r_goto 38 C dX12_gift_99 (by decide) ?_
        refine r_sub [(0, .ref (wb (zw Z) + 139)), (1, .int ((10 * x3) + x5)), (2, .int u9), (3, .int x3), (4, .int x4), (5, .int (x5 + 1))] [4, 2, 1, 5, 6, 0] rfl ?_
        exact kin ((10 * x3) + x5) u9 (x5 + 1) (wI μ 140 (ix (68 + x3)) x5) (Option.some.inj h).symm
      · have h := (ite_inv h).2 c10
        refine r_goto 96 C dX12_gift_82 (by decide) ?_
        refine r_iinc [(5, .int (x5 + 1)), (6, .int u9), (0, .ref (wb (zw Z) + 139)), (1, .int x1), (2, .int x2), (3, .int x3), (4, .int x4)] C dX12_gift_96 6 rfl (in_1 _) (by decide) rfl ?_
        refine r_goto 38 C dX12_gift_99 (by decide) ?_
        refine r_sub [(0, .ref (wb (zw Z) + 139)), (1, .int x1), (2, .int x2), (3, .int x3), (4, .int x4), (5, .int (x5 + 1))] [2, 3, 4, 5, 6, 0] rfl ?_
        exact kin x1 x2 (x5 + 1) (wI μ 140 (ix (68 + x3)) x5) (Option.some.inj h).symm
    · have h := (ite_inv h).1 c6
      refine r_goto 96 C dX12_gift_56 (by decide) ?_
      refine r_iinc [(5, .int (x5 + 1)), (0, .ref (wb (zw Z) + 139)), (1, .int x1), (2, .int x2), (3, .int x3), (4, .int x4)] C dX12_gift_96 5 rfl (in_1 _) (by decide) rfl ?_
      refine r_goto 38 C dX12_gift_99 (by decide) ?_
      refine r_sub [(0, .ref (wb (zw Z) + 139)), (1, .int x1), (2, .int x2), (3, .int x3), (4, .int x4), (5, .int (x5 + 1))] [1, 2, 3, 4, 5, 0] rfl ?_
      exact kin x1 x2 (x5 + 1) μ (Option.some.inj h).symm
def sX12_gift_14 (n : Nat)  : Int32 × Int32 × Int32 × Mu → Option ((Int32 × Int32 × Int32 × Mu) ⊕ (Int32 × Mu)) := fun q => match q with | (x1, x2, x3, μ) => if (rI μ 140 4) ≤ x3 then (some (.inr (x1, μ))) else (gd (ib (68 + x3) 6726) (bnd (lp n (sX12_gift_38 n x3 (rI μ 140 (ix (68 + x3)))) (x1, x2, 0, μ)) fun q => match q with | (u11, u12, m13) => gd (ib (68 + x3) 6726) (some (.inl (u11, u12, x3 + 1, wI m13 140 (ix (68 + x3)) (rI μ 140 (ix (68 + x3))))))))
set_option maxRecDepth 100000 in
set_option maxHeartbeats 4000000 in
theorem lX12_gift_14 {Z : ZC} {sh : List Sh} {R : Rf} {o : (Int32 × Int32 × Int32 × Mu) ⊕ (Int32 × Mu)} (C : CX Z cX12_gift 7 RX12) (hR : zR Z = rm 3 0 0) (hY : LY sh R) (n : Nat)  (x1 : Int32) (x2 : Int32) (x3 : Int32) (μ : Mu) (h : sX12_gift_14 n (x1, x2, x3, μ) = some o) (kin : ∀ (x1 : Int32) (x2 : Int32) (x3 : Int32) (μ : Mu), o = .inl (x1, x2, x3, μ) → Wm Z (0, 0, sh, R) μ 14 [(0, .ref (wb (zw Z) + 139)), (1, .int x1), (2, .int x2), (3, .int x3)] []) (kex0 : ∀ (x1 : Int32) (μ : Mu), o = .inr (x1, μ) → Wm Z (0, 0, sh, R) μ 119 [(1, .int x1)] []) : Wm Z (0, 0, sh, R) μ 14 [(0, .ref (wb (zw Z) + 139)), (1, .int x1), (2, .int x2), (3, .int x3)] [] := by
  unfold sX12_gift_14 at h
  refine r_iload_n C dX12_gift_14 3 rfl ?_
  refine r_aload_n C dX12_gift_15 0 rfl ?_
  refine r_getR C flX12_13 dX12_gift_16 (ly139 hY) rfl (lr139_1 hY) ?_
  refine r_iconst C dX12_gift_19 ic_4 ?_
  refine r_iald C dX12_gift_20 (ly140 hY) (by decide) ?_
  refine r_icmp_ge 119 C dX12_gift_21 (by decide) (fun c3 => ?_) (fun c3 => ?_)
  · have h := (ite_inv h).1 c3
    refine r_sub [(1, .int x1)] [1] rfl ?_
    exact kex0 x1 μ (Option.some.inj h).symm
  · have h := (ite_inv h).2 c3
    refine r_aload_n C dX12_gift_24 0 rfl ?_
    refine r_getR C flX12_13 dX12_gift_25 (ly139 hY) rfl (lr139_1 hY) ?_
    refine r_bipush C dX12_gift_28 bp_68 ?_
    refine r_iload_n C dX12_gift_30 3 rfl ?_
    refine r_iadd C dX12_gift_31 ?_
    obtain ⟨b4, h⟩ := gd_inv h
    refine r_iald C dX12_gift_32 (ly140 hY) b4 ?_
    refine r_istore [(4, .int (rI μ 140 (ix (68 + x3)))), (0, .ref (wb (zw Z) + 139)), (1, .int x1), (2, .int x2), (3, .int x3)] C dX12_gift_33 (by decide) rfl ?_
    refine r_iconst C dX12_gift_35 ic_0 ?_
    refine r_istore [(5, .int 0), (4, .int (rI μ 140 (ix (68 + x3)))), (0, .ref (wb (zw Z) + 139)), (1, .int x1), (2, .int x2), (3, .int x3)] C dX12_gift_36 (by decide) rfl ?_
    refine r_sub [(0, .ref (wb (zw Z) + 139)), (1, .int x1), (2, .int x2), (3, .int x3), (4, .int (rI μ 140 (ix (68 + x3)))), (5, .int 0)] [2, 3, 4, 5, 1, 0] rfl ?_
    obtain ⟨⟨u11, u12, m13⟩, e14, h⟩ := bnd_inv h
    refine lp_all (sX12_gift_38 n x3 (rI μ 140 (ix (68 + x3)))) (fun q => match q with | (z1, z2, z5, ν) => Wm Z (0, 0, sh, R) (ν) 38 [(0, .ref (wb (zw Z) + 139)), (1, .int z1), (2, .int z2), (3, .int x3), (4, .int (rI μ 140 (ix (68 + x3)))), (5, .int z5)] []) (fun q => match q with | (z1, z2, ν) => Wm Z (0, 0, sh, R) (ν) 102 [(0, .ref (wb (zw Z) + 139)), (1, .int z1), (2, .int z2), (3, .int x3), (4, .int (rI μ 140 (ix (68 + x3))))] []) (fun q o h kin kex => ?_) n (x1, x2, 0, μ) (u11, u12, m13) e14 ?_
    · obtain ⟨z1, z2, z5, ν⟩ := q; exact lX12_gift_38 C hR hY n   x3 (rI μ 140 (ix (68 + x3))) z1 z2 z5 ν h (fun z1 z2 z5 ν e => kin (z1, z2, z5, ν) e) (fun z1 z2 ν e => kex (z1, z2, ν) e)
    show Wm Z (0, 0, sh, R) m13 102 [(0, .ref (wb (zw Z) + 139)), (1, .int u11), (2, .int u12), (3, .int x3), (4, .int (rI μ 140 (ix (68 + x3))))] []
    refine r_aload_n C dX12_gift_102 0 rfl ?_
    refine r_getR C flX12_13 dX12_gift_103 (ly139 hY) rfl (lr139_1 hY) ?_
    refine r_bipush C dX12_gift_106 bp_68 ?_
    refine r_iload_n C dX12_gift_108 3 rfl ?_
    refine r_iadd C dX12_gift_109 ?_
    refine r_iload C dX12_gift_110 4 rfl ?_
    obtain ⟨b15, h⟩ := gd_inv h
    refine r_iast C dX12_gift_112 (ly140 hY) b15 ?_
    refine r_iinc [(3, .int (x3 + 1)), (0, .ref (wb (zw Z) + 139)), (1, .int u11), (2, .int u12), (4, .int (rI μ 140 (ix (68 + x3))))] C dX12_gift_113 3 rfl (in_1 _) (by decide) rfl ?_
    refine r_goto 14 C dX12_gift_116 (by decide) ?_
    refine r_sub [(0, .ref (wb (zw Z) + 139)), (1, .int u11), (2, .int u12), (3, .int (x3 + 1))] [1, 2, 3, 0] rfl ?_
    exact kin u11 u12 (x3 + 1) (wI m13 140 (ix (68 + x3)) (rI μ 140 (ix (68 + x3)))) (Option.some.inj h).symm
def fX12_gift (n : Nat)  (μ : Mu) : Option (Int32 × Mu) := bnd (fX12_mutualMany n (wI μ 139 0 0)) fun u2 => bnd (lp n (sX12_gift_14 n) ((-1), u2, 0, wI μ 139 0 0)) fun q => match q with | (u16, m17) => some (u16, m17)
set_option maxRecDepth 100000 in
set_option maxHeartbeats 4000000 in
theorem tX12_gift {l : Launch} {w : WP} {sh : List Sh} {R : Rf} {μ : Mu} {r : Int32} {μ' : Mu} (hY : LY sh R) (n : Nat)   (h : fX12_gift n μ = some (r, μ')) : CM l w yX12_gift cX12_gift 7 (some .int) 3 0 0 sh R [.ref (wb w + 139)] μ (some (.int r)) sh R μ' := by
  refine CM.of (plainFor_of_name pf_X12) (Nat.le_of_ble_eq_true rfl) fun Z C hr _ hR hw hl hE => ?_
  subst hw; subst hl
  have C : CX Z cX12_gift 7 RX12 := C
  show Wm Z (0, 0, sh, R) μ 0 [(0, .ref (wb (zw Z) + 139))] []
  unfold fX12_gift at h
  refine r_aload_n C dX12_gift_0 0 rfl ?_
  refine r_iconst C dX12_gift_1 ic_0 ?_
  refine r_putI C fiX12_1 dX12_gift_2 (ly139 hY) ?_
  refine r_iconst C dX12_gift_5 ic_m1 ?_
  refine r_istore_n [(1, .int (-1)), (0, .ref (wb (zw Z) + 139))] C dX12_gift_6 rfl (by decide) rfl ?_
  refine r_aload_n C dX12_gift_7 1 rfl ?_
  obtain ⟨u2, e1, h⟩ := bnd_inv h
  refine r_cVi (As := []) (rest := []) C hR mlX12_383 dX12_gift_8 (tX12_mutualMany hY n  e1) rfl rfl (ly139 hY) rfl (nle rfl) (nle rfl) (nle rfl) ?_
  refine r_istore_n [(2, .int u2), (1, .int (-1)), (0, .ref (wb (zw Z) + 139))] C dX12_gift_11 rfl (by decide) rfl ?_
  refine r_iconst C dX12_gift_12 ic_0 ?_
  refine r_istore_n [(3, .int 0), (2, .int u2), (1, .int (-1)), (0, .ref (wb (zw Z) + 139))] C dX12_gift_13 rfl (by decide) rfl ?_
  refine r_sub [(0, .ref (wb (zw Z) + 139)), (1, .int (-1)), (2, .int u2), (3, .int 0)] [3, 2, 1, 0] rfl ?_
  obtain ⟨⟨u16, m17⟩, e18, h⟩ := bnd_inv h
  refine lp_all (sX12_gift_14 n) (fun q => match q with | (z1, z2, z3, ν) => Wm Z (0, 0, sh, R) (ν) 14 [(0, .ref (wb (zw Z) + 139)), (1, .int z1), (2, .int z2), (3, .int z3)] []) (fun q => match q with | (z1, ν) => Wm Z (0, 0, sh, R) (ν) 119 [(1, .int z1)] []) (fun q o h kin kex => ?_) n ((-1), u2, 0, wI μ 139 0 0) (u16, m17) e18 ?_
  · obtain ⟨z1, z2, z3, ν⟩ := q; exact lX12_gift_14 C hR hY n    z1 z2 z3 ν h (fun z1 z2 z3 ν e => kin (z1, z2, z3, ν) e) (fun z1 ν e => kex (z1, ν) e)
  show Wm Z (0, 0, sh, R) m17 119 [(1, .int u16)] []
  refine r_iload_n C dX12_gift_119 0 rfl ?_
  obtain ⟨h1, h2⟩ := Prod.mk.inj (Option.some.inj h)
  subst h1; subst h2
  exact r_iret C dX12_gift_120 hr hE
def fX12_noHeard (n : Nat) (x1 : Int32) (μ : Mu) : Option (Int32) := bnd (fX12_noTray n x1 μ) fun u2 => if u2 = 0 then (gd (ib x1 4) (bnd (fX12_within n ((rI μ 153 (ix x1)).toInt64) 1 24 μ) fun u6 => if u6 = 0 then (some (-4)) else (some 0))) else (some u2)
set_option maxRecDepth 100000 in
set_option maxHeartbeats 4000000 in
theorem tX12_noHeard {l : Launch} {w : WP} {sh : List Sh} {R : Rf} {μ : Mu} {r : Int32} (hY : LY sh R) (n : Nat) (x1 : Int32)  (h : fX12_noHeard n x1 μ = some r) : CM l w yX12_noHeard cX12_noHeard 3 (some .int) 2 0 0 sh R [.ref (wb w + 139), .int x1] μ (some (.int r)) sh R μ := by
  refine CM.of (plainFor_of_name pf_X12) (Nat.le_of_ble_eq_true rfl) fun Z C hr _ hR hw hl hE => ?_
  subst hw; subst hl
  have C : CX Z cX12_noHeard 3 RX12 := C
  show Wm Z (0, 0, sh, R) μ 0 [(0, .ref (wb (zw Z) + 139)), (1, .int x1)] []
  unfold fX12_noHeard at h
  refine r_aload_n C dX12_noHeard_0 0 rfl ?_
  refine r_iload_n C dX12_noHeard_1 1 rfl ?_
  obtain ⟨u2, e1, h⟩ := bnd_inv h
  refine r_cVi (As := [.int x1]) (rest := []) C hR mlX12_315 dX12_noHeard_2 (tX12_noTray hY n x1  e1) rfl rfl (ly139 hY) rfl (nle rfl) (nle rfl) (nle rfl) ?_
  refine r_istore_n [(2, .int u2), (0, .ref (wb (zw Z) + 139)), (1, .int x1)] C dX12_noHeard_5 rfl (by decide) rfl ?_
  refine r_iload_n C dX12_noHeard_6 0 rfl ?_
  refine r_if_eq 14 C dX12_noHeard_7 (by decide) (fun c3 => ?_) (fun c3 => ?_)
  · have h := (ite_inv h).1 c3
    refine r_aload_n C dX12_noHeard_14 1 rfl ?_
    refine r_getR C flX12_57 dX12_noHeard_15 (ly139 hY) rfl (lr139_28 hY) ?_
    refine r_iload_n C dX12_noHeard_18 2 rfl ?_
    obtain ⟨b4, h⟩ := gd_inv h
    refine r_iald C dX12_noHeard_19 (ly153 hY) b4 ?_
    refine r_i2l C dX12_noHeard_20 ?_
    refine r_lconst C dX12_noHeard_21 lc_1 ?_
    refine r_ldc2 C dX12_noHeard_22 klX12_386 ?_
    obtain ⟨u6, e5, h⟩ := bnd_inv h
    refine r_cSi (As := [.long ((rI μ 153 (ix x1)).toInt64), .long 1, .long 24]) (rest := []) C hR mlX12_130 dX12_noHeard_25 (tX12_within hY n ((rI μ 153 (ix x1)).toInt64) 1 24  e5) rfl rfl (nle rfl) (nle rfl) (nle rfl) ?_
    refine r_if_eq 35 C dX12_noHeard_28 (by decide) (fun c7 => ?_) (fun c7 => ?_)
    · have h := (ite_inv h).1 c7
      refine r_bipush C dX12_noHeard_35 bp_m4 ?_
      have h := Option.some.inj h
      subst h
      exact r_iret C dX12_noHeard_37 hr hE
    · have h := (ite_inv h).2 c7
      refine r_iconst C dX12_noHeard_31 ic_0 ?_
      refine r_goto 37 C dX12_noHeard_32 (by decide) ?_
      have h := Option.some.inj h
      subst h
      exact r_iret C dX12_noHeard_37 hr hE
  · have h := (ite_inv h).2 c3
    refine r_iload_n C dX12_noHeard_10 0 rfl ?_
    refine r_goto 37 C dX12_noHeard_11 (by decide) ?_
    have h := Option.some.inj h
    subst h
    exact r_iret C dX12_noHeard_37 hr hE
def jX12_slipsOf_65 (n : Nat) (x1 : Int32) (x2 : Int32) (x4 : Int32) (s0 : Int32) (s1 : Int32) (μ : Mu) : Option ((Int32 × Int32 × Mu) ⊕ (Int32 × Mu)) := some (.inl (s1 + s0, x4 + 1, μ))
set_option maxRecDepth 100000 in
set_option maxHeartbeats 4000000 in
theorem kX12_slipsOf_65 {Z : ZC} {sh : List Sh} {R : Rf} {o : (Int32 × Int32 × Mu) ⊕ (Int32 × Mu)} (C : CX Z cX12_slipsOf 5 RX12) (hR : zR Z = rm 3 0 0) (hY : LY sh R) (n : Nat) (x1 : Int32) (x2 : Int32) (x4 : Int32) (s0 : Int32) (s1 : Int32) (μ : Mu) (h : jX12_slipsOf_65 n x1 x2 x4 s0 s1 μ = some o) (kin : ∀ (x3 : Int32) (x4 : Int32) (μ : Mu), o = .inl (x3, x4, μ) → Wm Z (0, 0, sh, R) μ 5 [(0, .ref (wb (zw Z) + 139)), (1, .int x1), (2, .int x2), (3, .int x3), (4, .int x4)] []) (kex0 : ∀ (x3 : Int32) (μ : Mu), o = .inr (x3, μ) → Wm Z (0, 0, sh, R) μ 73 [(3, .int x3)] []) : Wm Z (0, 0, sh, R) μ 65 [(0, .ref (wb (zw Z) + 139)), (1, .int x1), (2, .int x2), (4, .int x4)] [.int s0, .int s1] := by
  unfold jX12_slipsOf_65 at h
  refine r_iadd C dX12_slipsOf_65 ?_
  refine r_istore_n [(3, .int (s1 + s0)), (0, .ref (wb (zw Z) + 139)), (1, .int x1), (2, .int x2), (4, .int x4)] C dX12_slipsOf_66 rfl (by decide) rfl ?_
  refine r_iinc [(4, .int (x4 + 1)), (3, .int (s1 + s0)), (0, .ref (wb (zw Z) + 139)), (1, .int x1), (2, .int x2)] C dX12_slipsOf_67 4 rfl (in_1 _) (by decide) rfl ?_
  refine r_goto 5 C dX12_slipsOf_70 (by decide) ?_
  refine r_sub [(0, .ref (wb (zw Z) + 139)), (1, .int x1), (2, .int x2), (3, .int (s1 + s0)), (4, .int (x4 + 1))] [2, 3, 4, 1, 0] rfl ?_
  exact kin (s1 + s0) (x4 + 1) μ (Option.some.inj h).symm
def jX12_slipsOf_60 (n : Nat) (x1 : Int32) (x2 : Int32) (x4 : Int32) (s0 : Int32) (μ : Mu) : Option ((Int32 × Int32 × Mu) ⊕ (Int32 × Mu)) := jX12_slipsOf_65 n x1 x2 x4 0 s0 μ
set_option maxRecDepth 100000 in
set_option maxHeartbeats 4000000 in
theorem kX12_slipsOf_60 {Z : ZC} {sh : List Sh} {R : Rf} {o : (Int32 × Int32 × Mu) ⊕ (Int32 × Mu)} (C : CX Z cX12_slipsOf 5 RX12) (hR : zR Z = rm 3 0 0) (hY : LY sh R) (n : Nat) (x1 : Int32) (x2 : Int32) (x4 : Int32) (s0 : Int32) (μ : Mu) (h : jX12_slipsOf_60 n x1 x2 x4 s0 μ = some o) (kin : ∀ (x3 : Int32) (x4 : Int32) (μ : Mu), o = .inl (x3, x4, μ) → Wm Z (0, 0, sh, R) μ 5 [(0, .ref (wb (zw Z) + 139)), (1, .int x1), (2, .int x2), (3, .int x3), (4, .int x4)] []) (kex0 : ∀ (x3 : Int32) (μ : Mu), o = .inr (x3, μ) → Wm Z (0, 0, sh, R) μ 73 [(3, .int x3)] []) : Wm Z (0, 0, sh, R) μ 60 [(0, .ref (wb (zw Z) + 139)), (1, .int x1), (2, .int x2), (4, .int x4)] [.int s0] := by
  unfold jX12_slipsOf_60 at h
  refine r_iconst C dX12_slipsOf_60 ic_0 ?_
  refine r_goto 65 C dX12_slipsOf_61 (by decide) ?_
  exact kX12_slipsOf_65 C hR hY n   x1 x2 x4 0 s0 μ h kin kex0
def sX12_slipsOf_5 (n : Nat) (x1 : Int32) (x2 : Int32) : Int32 × Int32 × Mu → Option ((Int32 × Int32 × Mu) ⊕ (Int32 × Mu)) := fun q => match q with | (x3, x4, μ) => gd (ib x1 4) (if (rI μ 153 (ix x1)) ≤ x4 then (some (.inr (x3, μ))) else (gd (ib ((40 * x1) + x4) 160) (if (lg_cmp (rL μ 154 (ix ((40 * x1) + x4))) (-1)) = 0 then (jX12_slipsOf_60 n x1 x2 x4 x3 μ) else (gd (ib ((40 * x1) + x4) 160) (bnd2 (fX12_soundIn n x2 x4 μ) fun u7 m8 => some (.inl (x3 + (if (lg_cmp (rL μ 154 (ix ((40 * x1) + x4))) (u7.toInt64)) = 0 then 0 else 1 : Int32), x4 + 1, m8)))))))
set_option maxRecDepth 100000 in
set_option maxHeartbeats 4000000 in
theorem lX12_slipsOf_5 {Z : ZC} {sh : List Sh} {R : Rf} {o : (Int32 × Int32 × Mu) ⊕ (Int32 × Mu)} (C : CX Z cX12_slipsOf 5 RX12) (hR : zR Z = rm 3 0 0) (hY : LY sh R) (n : Nat) (x1 : Int32) (x2 : Int32) (x3 : Int32) (x4 : Int32) (μ : Mu) (h : sX12_slipsOf_5 n x1 x2 (x3, x4, μ) = some o) (kin : ∀ (x3 : Int32) (x4 : Int32) (μ : Mu), o = .inl (x3, x4, μ) → Wm Z (0, 0, sh, R) μ 5 [(0, .ref (wb (zw Z) + 139)), (1, .int x1), (2, .int x2), (3, .int x3), (4, .int x4)] []) (kex0 : ∀ (x3 : Int32) (μ : Mu), o = .inr (x3, μ) → Wm Z (0, 0, sh, R) μ 73 [(3, .int x3)] []) : Wm Z (0, 0, sh, R) μ 5 [(0, .ref (wb (zw Z) + 139)), (1, .int x1), (2, .int x2), (3, .int x3), (4, .int x4)] [] := by
  unfold sX12_slipsOf_5 at h
  refine r_iload C dX12_slipsOf_5 4 rfl ?_
  refine r_aload_n C dX12_slipsOf_7 0 rfl ?_
  refine r_getR C flX12_57 dX12_slipsOf_8 (ly139 hY) rfl (lr139_28 hY) ?_
  refine r_iload_n C dX12_slipsOf_11 1 rfl ?_
  obtain ⟨b1, h⟩ := gd_inv h
  refine r_iald C dX12_slipsOf_12 (ly153 hY) b1 ?_
  refine r_icmp_ge 73 C dX12_slipsOf_13 (by decide) (fun c2 => ?_) (fun c2 => ?_)
  · have h := (ite_inv h).1 c2
    refine r_sub [(3, .int x3)] [3] rfl ?_
    exact kex0 x3 μ (Option.some.inj h).symm
  · have h := (ite_inv h).2 c2
    refine r_iload_n C dX12_slipsOf_16 3 rfl ?_
    refine r_aload_n C dX12_slipsOf_17 0 rfl ?_
    refine r_getR C flX12_60 dX12_slipsOf_18 (ly139 hY) rfl (lr139_29 hY) ?_
    refine r_bipush C dX12_slipsOf_21 bp_40 ?_
    refine r_iload_n C dX12_slipsOf_23 1 rfl ?_
    refine r_imul C dX12_slipsOf_24 ?_
    refine r_iload C dX12_slipsOf_25 4 rfl ?_
    refine r_iadd C dX12_slipsOf_27 ?_
    obtain ⟨b3, h⟩ := gd_inv h
    refine r_lald C dX12_slipsOf_28 (ly154 hY) b3 ?_
    refine r_ldc2 C dX12_slipsOf_29 klX12_290 ?_
    refine r_lcmp C dX12_slipsOf_32 ?_
    refine r_if_eq 60 C dX12_slipsOf_33 (by decide) (fun c4 => ?_) (fun c4 => ?_)
    · have h := (ite_inv h).1 c4
      refine r_sub [(0, .ref (wb (zw Z) + 139)), (1, .int x1), (2, .int x2), (4, .int x4)] [0, 1, 2, 4] rfl ?_
      exact kX12_slipsOf_60 C hR hY n   x1 x2 x4 x3 μ h kin kex0
    · have h := (ite_inv h).2 c4
      refine r_aload_n C dX12_slipsOf_36 0 rfl ?_
      refine r_getR C flX12_60 dX12_slipsOf_37 (ly139 hY) rfl (lr139_29 hY) ?_
      refine r_bipush C dX12_slipsOf_40 bp_40 ?_
      refine r_iload_n C dX12_slipsOf_42 1 rfl ?_
      refine r_imul C dX12_slipsOf_43 ?_
      refine r_iload C dX12_slipsOf_44 4 rfl ?_
      refine r_iadd C dX12_slipsOf_46 ?_
      obtain ⟨b5, h⟩ := gd_inv h
      refine r_lald C dX12_slipsOf_47 (ly154 hY) b5 ?_
      refine r_aload_n C dX12_slipsOf_48 0 rfl ?_
      refine r_iload_n C dX12_slipsOf_49 2 rfl ?_
      refine r_iload C dX12_slipsOf_50 4 rfl ?_
      obtain ⟨u7, m8, e6, h⟩ := bnd2_inv h
      refine r_cVi (As := [.int x2, .int x4]) (rest := [.long (rL μ 154 (ix ((40 * x1) + x4))), .int x3]) C hR mlX12_249 dX12_slipsOf_52 (tX12_soundIn hY n x2 x4  e6) rfl rfl (ly139 hY) rfl (nle rfl) (nle rfl) (nle rfl) ?_
      refine r_i2l C dX12_slipsOf_55 ?_
      refine r_lcmp C dX12_slipsOf_56 ?_
      suffices hj : Wm Z (0, 0, sh, R) m8 65 [(0, .ref (wb (zw Z) + 139)), (1, .int x1), (2, .int x2), (3, .int x3), (4, .int x4)] [.int (if (lg_cmp (rL μ 154 (ix ((40 * x1) + x4))) (u7.toInt64)) = 0 then 0 else 1 : Int32), .int x3] by
        refine r_if_ne 64 C dX12_slipsOf_57 (by decide) (fun c9 => ?_) (fun c9 => ?_)
        · refine r_iconst C dX12_slipsOf_64 ic_1 ?_
          exact sel_f c9 hj
        · refine r_iconst C dX12_slipsOf_60 ic_0 ?_
          refine r_goto 65 C dX12_slipsOf_61 (by decide) ?_
          exact sel_t c9 hj
      refine r_iadd C dX12_slipsOf_65 ?_
      refine r_istore_n [(3, .int (x3 + (if (lg_cmp (rL μ 154 (ix ((40 * x1) + x4))) (u7.toInt64)) = 0 then 0 else 1 : Int32))), (0, .ref (wb (zw Z) + 139)), (1, .int x1), (2, .int x2), (4, .int x4)] C dX12_slipsOf_66 rfl (by decide) rfl ?_
      refine r_iinc [(4, .int (x4 + 1)), (3, .int (x3 + (if (lg_cmp (rL μ 154 (ix ((40 * x1) + x4))) (u7.toInt64)) = 0 then 0 else 1 : Int32))), (0, .ref (wb (zw Z) + 139)), (1, .int x1), (2, .int x2)] C dX12_slipsOf_67 4 rfl (in_1 _) (by decide) rfl ?_
      refine r_goto 5 C dX12_slipsOf_70 (by decide) ?_
      refine r_sub [(0, .ref (wb (zw Z) + 139)), (1, .int x1), (2, .int x2), (3, .int (x3 + (if (lg_cmp (rL μ 154 (ix ((40 * x1) + x4))) (u7.toInt64)) = 0 then 0 else 1 : Int32))), (4, .int (x4 + 1))] [2, 3, 4, 1, 0] rfl ?_
      exact kin (x3 + (if (lg_cmp (rL μ 154 (ix ((40 * x1) + x4))) (u7.toInt64)) = 0 then 0 else 1 : Int32)) (x4 + 1) m8 (Option.some.inj h).symm
def fX12_slipsOf (n : Nat) (x1 : Int32) (x2 : Int32) (μ : Mu) : Option (Int32 × Mu) := bnd (lp n (sX12_slipsOf_5 n x1 x2) (0, 0, μ)) fun q => match q with | (u10, m11) => some (u10, m11)
set_option maxRecDepth 100000 in
set_option maxHeartbeats 4000000 in
theorem tX12_slipsOf {l : Launch} {w : WP} {sh : List Sh} {R : Rf} {μ : Mu} {r : Int32} {μ' : Mu} (hY : LY sh R) (n : Nat) (x1 : Int32) (x2 : Int32)  (h : fX12_slipsOf n x1 x2 μ = some (r, μ')) : CM l w yX12_slipsOf cX12_slipsOf 5 (some .int) 3 0 0 sh R [.ref (wb w + 139), .int x1, .int x2] μ (some (.int r)) sh R μ' := by
  refine CM.of (plainFor_of_name pf_X12) (Nat.le_of_ble_eq_true rfl) fun Z C hr _ hR hw hl hE => ?_
  subst hw; subst hl
  have C : CX Z cX12_slipsOf 5 RX12 := C
  show Wm Z (0, 0, sh, R) μ 0 [(0, .ref (wb (zw Z) + 139)), (1, .int x1), (2, .int x2)] []
  unfold fX12_slipsOf at h
  refine r_iconst C dX12_slipsOf_0 ic_0 ?_
  refine r_istore_n [(3, .int 0), (0, .ref (wb (zw Z) + 139)), (1, .int x1), (2, .int x2)] C dX12_slipsOf_1 rfl (by decide) rfl ?_
  refine r_iconst C dX12_slipsOf_2 ic_0 ?_
  refine r_istore [(4, .int 0), (3, .int 0), (0, .ref (wb (zw Z) + 139)), (1, .int x1), (2, .int x2)] C dX12_slipsOf_3 (by decide) rfl ?_
  refine r_sub [(0, .ref (wb (zw Z) + 139)), (1, .int x1), (2, .int x2), (3, .int 0), (4, .int 0)] [2, 3, 4, 1, 0] rfl ?_
  obtain ⟨⟨u10, m11⟩, e12, h⟩ := bnd_inv h
  refine lp_all (sX12_slipsOf_5 n x1 x2) (fun q => match q with | (z3, z4, ν) => Wm Z (0, 0, sh, R) (ν) 5 [(0, .ref (wb (zw Z) + 139)), (1, .int x1), (2, .int x2), (3, .int z3), (4, .int z4)] []) (fun q => match q with | (z3, ν) => Wm Z (0, 0, sh, R) (ν) 73 [(3, .int z3)] []) (fun q o h kin kex => ?_) n (0, 0, μ) (u10, m11) e12 ?_
  · obtain ⟨z3, z4, ν⟩ := q; exact lX12_slipsOf_5 C hR hY n   x1 x2 z3 z4 ν h (fun z3 z4 ν e => kin (z3, z4, ν) e) (fun z3 ν e => kex (z3, ν) e)
  show Wm Z (0, 0, sh, R) m11 73 [(3, .int u10)] []
  refine r_iload_n C dX12_slipsOf_73 0 rfl ?_
  obtain ⟨h1, h2⟩ := Prod.mk.inj (Option.some.inj h)
  subst h1; subst h2
  exact r_iret C dX12_slipsOf_74 hr hE
def sX12_fitting_4 (n : Nat) (x1 : Int32) : Int32 × Int32 × Mu → Option ((Int32 × Int32 × Mu) ⊕ (Int32 × Mu)) := fun q => match q with | (x2, x3, μ) => if (rI μ 140 1) ≤ x3 then (some (.inr (x2, μ))) else (bnd2 (fX12_slipsOf n x1 x3 μ) fun u3 m4 => some (.inl (x2 ||| (if u3 = 0 then (shl 1 x3) else 0), x3 + 1, m4)))
set_option maxRecDepth 100000 in
set_option maxHeartbeats 4000000 in
theorem lX12_fitting_4 {Z : ZC} {sh : List Sh} {R : Rf} {o : (Int32 × Int32 × Mu) ⊕ (Int32 × Mu)} (C : CX Z cX12_fitting 4 RX12) (hR : zR Z = rm 4 0 0) (hY : LY sh R) (n : Nat) (x1 : Int32) (x2 : Int32) (x3 : Int32) (μ : Mu) (h : sX12_fitting_4 n x1 (x2, x3, μ) = some o) (kin : ∀ (x2 : Int32) (x3 : Int32) (μ : Mu), o = .inl (x2, x3, μ) → Wm Z (0, 0, sh, R) μ 4 [(0, .ref (wb (zw Z) + 139)), (1, .int x1), (2, .int x2), (3, .int x3)] []) (kex0 : ∀ (x2 : Int32) (μ : Mu), o = .inr (x2, μ) → Wm Z (0, 0, sh, R) μ 39 [(2, .int x2)] []) : Wm Z (0, 0, sh, R) μ 4 [(0, .ref (wb (zw Z) + 139)), (1, .int x1), (2, .int x2), (3, .int x3)] [] := by
  unfold sX12_fitting_4 at h
  refine r_iload_n C dX12_fitting_4 3 rfl ?_
  refine r_aload_n C dX12_fitting_5 0 rfl ?_
  refine r_getR C flX12_13 dX12_fitting_6 (ly139 hY) rfl (lr139_1 hY) ?_
  refine r_iconst C dX12_fitting_9 ic_1 ?_
  refine r_iald C dX12_fitting_10 (ly140 hY) (by decide) ?_
  refine r_icmp_ge 39 C dX12_fitting_11 (by decide) (fun c1 => ?_) (fun c1 => ?_)
  · have h := (ite_inv h).1 c1
    refine r_sub [(2, .int x2)] [2] rfl ?_
    exact kex0 x2 μ (Option.some.inj h).symm
  · have h := (ite_inv h).2 c1
    refine r_iload_n C dX12_fitting_14 2 rfl ?_
    refine r_aload_n C dX12_fitting_15 0 rfl ?_
    refine r_iload_n C dX12_fitting_16 1 rfl ?_
    refine r_iload_n C dX12_fitting_17 3 rfl ?_
    obtain ⟨u3, m4, e2, h⟩ := bnd2_inv h
    refine r_cVi (As := [.int x1, .int x3]) (rest := [.int x2]) C hR mlX12_388 dX12_fitting_18 (tX12_slipsOf hY n x1 x3  e2) rfl rfl (ly139 hY) rfl (nle rfl) (nle rfl) (nle rfl) ?_
    suffices hj : Wm Z (0, 0, sh, R) m4 31 [(0, .ref (wb (zw Z) + 139)), (1, .int x1), (2, .int x2), (3, .int x3)] [.int (if u3 = 0 then (shl 1 x3) else 0), .int x2] by
      refine r_if_ne 30 C dX12_fitting_21 (by decide) (fun c5 => ?_) (fun c5 => ?_)
      · refine r_iconst C dX12_fitting_30 ic_0 ?_
        exact sel_f c5 hj
      · refine r_iconst C dX12_fitting_24 ic_1 ?_
        refine r_iload_n C dX12_fitting_25 3 rfl ?_
        refine r_ishl C dX12_fitting_26 ?_
        refine r_goto 31 C dX12_fitting_27 (by decide) ?_
        exact sel_t c5 hj
    refine r_ior C dX12_fitting_31 ?_
    refine r_istore_n [(2, .int (x2 ||| (if u3 = 0 then (shl 1 x3) else 0))), (0, .ref (wb (zw Z) + 139)), (1, .int x1), (3, .int x3)] C dX12_fitting_32 rfl (by decide) rfl ?_
    refine r_iinc [(3, .int (x3 + 1)), (2, .int (x2 ||| (if u3 = 0 then (shl 1 x3) else 0))), (0, .ref (wb (zw Z) + 139)), (1, .int x1)] C dX12_fitting_33 3 rfl (in_1 _) (by decide) rfl ?_
    refine r_goto 4 C dX12_fitting_36 (by decide) ?_
    refine r_sub [(0, .ref (wb (zw Z) + 139)), (1, .int x1), (2, .int (x2 ||| (if u3 = 0 then (shl 1 x3) else 0))), (3, .int (x3 + 1))] [2, 3, 1, 0] rfl ?_
    exact kin (x2 ||| (if u3 = 0 then (shl 1 x3) else 0)) (x3 + 1) m4 (Option.some.inj h).symm
def fX12_fitting (n : Nat) (x1 : Int32) (μ : Mu) : Option (Int32 × Mu) := bnd (lp n (sX12_fitting_4 n x1) (0, 0, μ)) fun q => match q with | (u6, m7) => some (u6, m7)
set_option maxRecDepth 100000 in
set_option maxHeartbeats 4000000 in
theorem tX12_fitting {l : Launch} {w : WP} {sh : List Sh} {R : Rf} {μ : Mu} {r : Int32} {μ' : Mu} (hY : LY sh R) (n : Nat) (x1 : Int32)  (h : fX12_fitting n x1 μ = some (r, μ')) : CM l w yX12_fitting cX12_fitting 4 (some .int) 4 0 0 sh R [.ref (wb w + 139), .int x1] μ (some (.int r)) sh R μ' := by
  refine CM.of (plainFor_of_name pf_X12) (Nat.le_of_ble_eq_true rfl) fun Z C hr _ hR hw hl hE => ?_
  subst hw; subst hl
  have C : CX Z cX12_fitting 4 RX12 := C
  show Wm Z (0, 0, sh, R) μ 0 [(0, .ref (wb (zw Z) + 139)), (1, .int x1)] []
  unfold fX12_fitting at h
  refine r_iconst C dX12_fitting_0 ic_0 ?_
  refine r_istore_n [(2, .int 0), (0, .ref (wb (zw Z) + 139)), (1, .int x1)] C dX12_fitting_1 rfl (by decide) rfl ?_
  refine r_iconst C dX12_fitting_2 ic_0 ?_
  refine r_istore_n [(3, .int 0), (2, .int 0), (0, .ref (wb (zw Z) + 139)), (1, .int x1)] C dX12_fitting_3 rfl (by decide) rfl ?_
  refine r_sub [(0, .ref (wb (zw Z) + 139)), (1, .int x1), (2, .int 0), (3, .int 0)] [2, 3, 1, 0] rfl ?_
  obtain ⟨⟨u6, m7⟩, e8, h⟩ := bnd_inv h
  refine lp_all (sX12_fitting_4 n x1) (fun q => match q with | (z2, z3, ν) => Wm Z (0, 0, sh, R) (ν) 4 [(0, .ref (wb (zw Z) + 139)), (1, .int x1), (2, .int z2), (3, .int z3)] []) (fun q => match q with | (z2, ν) => Wm Z (0, 0, sh, R) (ν) 39 [(2, .int z2)] []) (fun q o h kin kex => ?_) n (0, 0, μ) (u6, m7) e8 ?_
  · obtain ⟨z2, z3, ν⟩ := q; exact lX12_fitting_4 C hR hY n   x1 z2 z3 ν h (fun z2 z3 ν e => kin (z2, z3, ν) e) (fun z2 ν e => kex (z2, ν) e)
  show Wm Z (0, 0, sh, R) m7 39 [(2, .int u6)] []
  refine r_iload_n C dX12_fitting_39 0 rfl ?_
  obtain ⟨h1, h2⟩ := Prod.mk.inj (Option.some.inj h)
  subst h1; subst h2
  exact r_iret C dX12_fitting_40 hr hE
def fX12_fits (n : Nat) (x1 : Int32) (μ : Mu) : Option (Int32 × Mu) := bnd (fX12_noHeard n x1 (wI μ 139 0 0)) fun u2 => if u2 = 0 then (bnd2 (fX12_fitting n x1 (wI μ 139 0 0)) fun u5 m6 => some (u5, m6)) else (some (u2, wI μ 139 0 0))
set_option maxRecDepth 100000 in
set_option maxHeartbeats 4000000 in
theorem tX12_fits {l : Launch} {w : WP} {sh : List Sh} {R : Rf} {μ : Mu} {r : Int32} {μ' : Mu} (hY : LY sh R) (n : Nat) (x1 : Int32)  (h : fX12_fits n x1 μ = some (r, μ')) : CM l w yX12_fits cX12_fits 3 (some .int) 5 0 0 sh R [.ref (wb w + 139), .int x1] μ (some (.int r)) sh R μ' := by
  refine CM.of (plainFor_of_name pf_X12) (Nat.le_of_ble_eq_true rfl) fun Z C hr _ hR hw hl hE => ?_
  subst hw; subst hl
  have C : CX Z cX12_fits 3 RX12 := C
  show Wm Z (0, 0, sh, R) μ 0 [(0, .ref (wb (zw Z) + 139)), (1, .int x1)] []
  unfold fX12_fits at h
  refine r_aload_n C dX12_fits_0 0 rfl ?_
  refine r_iconst C dX12_fits_1 ic_0 ?_
  refine r_putI C fiX12_1 dX12_fits_2 (ly139 hY) ?_
  refine r_aload_n C dX12_fits_5 0 rfl ?_
  refine r_iload_n C dX12_fits_6 1 rfl ?_
  obtain ⟨u2, e1, h⟩ := bnd_inv h
  refine r_cVi (As := [.int x1]) (rest := []) C hR mlX12_391 dX12_fits_7 (tX12_noHeard hY n x1  e1) rfl rfl (ly139 hY) rfl (nle rfl) (nle rfl) (nle rfl) ?_
  refine r_istore_n [(2, .int u2), (0, .ref (wb (zw Z) + 139)), (1, .int x1)] C dX12_fits_10 rfl (by decide) rfl ?_
  refine r_iload_n C dX12_fits_11 0 rfl ?_
  refine r_if_eq 19 C dX12_fits_12 (by decide) (fun c3 => ?_) (fun c3 => ?_)
  · have h := (ite_inv h).1 c3
    refine r_aload_n C dX12_fits_19 1 rfl ?_
    refine r_iload_n C dX12_fits_20 2 rfl ?_
    obtain ⟨u5, m6, e4, h⟩ := bnd2_inv h
    refine r_cVi (As := [.int x1]) (rest := []) C hR mlX12_394 dX12_fits_21 (tX12_fitting hY n x1  e4) rfl rfl (ly139 hY) rfl (nle rfl) (nle rfl) (nle rfl) ?_
    obtain ⟨h1, h2⟩ := Prod.mk.inj (Option.some.inj h)
    subst h1; subst h2
    exact r_iret C dX12_fits_24 hr hE
  · have h := (ite_inv h).2 c3
    refine r_iload_n C dX12_fits_15 0 rfl ?_
    refine r_goto 24 C dX12_fits_16 (by decide) ?_
    obtain ⟨h1, h2⟩ := Prod.mk.inj (Option.some.inj h)
    subst h1; subst h2
    exact r_iret C dX12_fits_24 hr hE
def fX12_slips (n : Nat) (x1 : Int32) (x2 : Int32) (μ : Mu) : Option (Int32 × Mu) := bnd (fX12_within n (x1.toInt64) 0 3 (wI μ 139 0 0)) fun u2 => if u2 = 0 then (some ((-2), wI μ 139 0 0)) else (bnd (fX12_isBeach n (x2.toInt64) (wI μ 139 0 0)) fun u5 => if u5 = 0 then (some ((-2), wI μ 139 0 0)) else (bnd (fX12_noHeard n x1 (wI μ 139 0 0)) fun u8 => if u8 = 0 then (bnd2 (fX12_slipsOf n x1 x2 (wI μ 139 0 0)) fun u11 m12 => some (u11, m12)) else (some (u8, wI μ 139 0 0))))
set_option maxRecDepth 100000 in
set_option maxHeartbeats 4000000 in
theorem tX12_slips {l : Launch} {w : WP} {sh : List Sh} {R : Rf} {μ : Mu} {r : Int32} {μ' : Mu} (hY : LY sh R) (n : Nat) (x1 : Int32) (x2 : Int32)  (h : fX12_slips n x1 x2 μ = some (r, μ')) : CM l w yX12_slips cX12_slips 4 (some .int) 4 0 0 sh R [.ref (wb w + 139), .int x1, .int x2] μ (some (.int r)) sh R μ' := by
  refine CM.of (plainFor_of_name pf_X12) (Nat.le_of_ble_eq_true rfl) fun Z C hr _ hR hw hl hE => ?_
  subst hw; subst hl
  have C : CX Z cX12_slips 4 RX12 := C
  show Wm Z (0, 0, sh, R) μ 0 [(0, .ref (wb (zw Z) + 139)), (1, .int x1), (2, .int x2)] []
  unfold fX12_slips at h
  refine r_aload_n C dX12_slips_0 0 rfl ?_
  refine r_iconst C dX12_slips_1 ic_0 ?_
  refine r_putI C fiX12_1 dX12_slips_2 (ly139 hY) ?_
  refine r_iload_n C dX12_slips_5 1 rfl ?_
  refine r_i2l C dX12_slips_6 ?_
  refine r_lconst C dX12_slips_7 lc_0 ?_
  refine r_ldc2 C dX12_slips_8 klX12_313 ?_
  obtain ⟨u2, e1, h⟩ := bnd_inv h
  refine r_cSi (As := [.long (x1.toInt64), .long 0, .long 3]) (rest := []) C hR mlX12_130 dX12_slips_11 (tX12_within hY n (x1.toInt64) 0 3  e1) rfl rfl (nle rfl) (nle rfl) (nle rfl) ?_
  refine r_if_eq 26 C dX12_slips_14 (by decide) (fun c3 => ?_) (fun c3 => ?_)
  · have h := (ite_inv h).1 c3
    refine r_bipush C dX12_slips_26 bp_m2 ?_
    obtain ⟨h1, h2⟩ := Prod.mk.inj (Option.some.inj h)
    subst h1; subst h2
    exact r_iret C dX12_slips_28 hr hE
  · have h := (ite_inv h).2 c3
    refine r_aload_n C dX12_slips_17 0 rfl ?_
    refine r_iload_n C dX12_slips_18 2 rfl ?_
    refine r_i2l C dX12_slips_19 ?_
    obtain ⟨u5, e4, h⟩ := bnd_inv h
    refine r_cVi (As := [.long (x2.toInt64)]) (rest := []) C hR mlX12_244 dX12_slips_20 (tX12_isBeach hY n (x2.toInt64)  e4) rfl rfl (ly139 hY) rfl (nle rfl) (nle rfl) (nle rfl) ?_
    refine r_if_ne 29 C dX12_slips_23 (by decide) (fun c6 => ?_) (fun c6 => ?_)
    · have h := (ite_inv h).2 c6
      refine r_aload_n C dX12_slips_29 0 rfl ?_
      refine r_iload_n C dX12_slips_30 1 rfl ?_
      obtain ⟨u8, e7, h⟩ := bnd_inv h
      refine r_cVi (As := [.int x1]) (rest := []) C hR mlX12_391 dX12_slips_31 (tX12_noHeard hY n x1  e7) rfl rfl (ly139 hY) rfl (nle rfl) (nle rfl) (nle rfl) ?_
      refine r_istore_n [(3, .int u8), (0, .ref (wb (zw Z) + 139)), (1, .int x1), (2, .int x2)] C dX12_slips_34 rfl (by decide) rfl ?_
      refine r_iload_n C dX12_slips_35 0 rfl ?_
      refine r_if_eq 43 C dX12_slips_36 (by decide) (fun c9 => ?_) (fun c9 => ?_)
      · have h := (ite_inv h).1 c9
        refine r_aload_n C dX12_slips_43 1 rfl ?_
        refine r_iload_n C dX12_slips_44 2 rfl ?_
        refine r_iload_n C dX12_slips_45 3 rfl ?_
        obtain ⟨u11, m12, e10, h⟩ := bnd2_inv h
        refine r_cVi (As := [.int x1, .int x2]) (rest := []) C hR mlX12_388 dX12_slips_46 (tX12_slipsOf hY n x1 x2  e10) rfl rfl (ly139 hY) rfl (nle rfl) (nle rfl) (nle rfl) ?_
        obtain ⟨h1, h2⟩ := Prod.mk.inj (Option.some.inj h)
        subst h1; subst h2
        exact r_iret C dX12_slips_49 hr hE
      · have h := (ite_inv h).2 c9
        refine r_iload_n C dX12_slips_39 0 rfl ?_
        refine r_goto 49 C dX12_slips_40 (by decide) ?_
        obtain ⟨h1, h2⟩ := Prod.mk.inj (Option.some.inj h)
        subst h1; subst h2
        exact r_iret C dX12_slips_49 hr hE
    · have h := (ite_inv h).1 c6
      refine r_bipush C dX12_slips_26 bp_m2 ?_
      obtain ⟨h1, h2⟩ := Prod.mk.inj (Option.some.inj h)
      subst h1; subst h2
      exact r_iret C dX12_slips_28 hr hE
def sX12_likeliest_22 (n : Nat) (x1 : Int32) : Int32 × Int32 × Mu → Option ((Int32 × Int32 × Mu) ⊕ (Int32 × Mu)) := fun q => match q with | (x3, x4, μ) => if (rI μ 140 1) ≤ x4 then (some (.inr (x3, μ))) else (bnd2 (fX12_slipsOf n x1 x4 μ) fun u6 m7 => bnd2 (fX12_slipsOf n x1 x3 m7) fun u9 m10 => if u9 ≤ u6 then (some (.inl (x3, x4 + 1, m10))) else (some (.inl (x4, x4 + 1, m10))))
set_option maxRecDepth 100000 in
set_option maxHeartbeats 4000000 in
theorem lX12_likeliest_22 {Z : ZC} {sh : List Sh} {R : Rf} {o : (Int32 × Int32 × Mu) ⊕ (Int32 × Mu)} (C : CX Z cX12_likeliest 5 RX12) (hR : zR Z = rm 4 0 0) (hY : LY sh R) (n : Nat) (x1 : Int32) (x3 : Int32) (x4 : Int32) (μ : Mu) (h : sX12_likeliest_22 n x1 (x3, x4, μ) = some o) (kin : ∀ (x3 : Int32) (x4 : Int32) (μ : Mu), o = .inl (x3, x4, μ) → Wm Z (0, 0, sh, R) μ 22 [(0, .ref (wb (zw Z) + 139)), (1, .int x1), (3, .int x3), (4, .int x4)] []) (kex0 : ∀ (x3 : Int32) (μ : Mu), o = .inr (x3, μ) → Wm Z (0, 0, sh, R) μ 58 [(3, .int x3)] []) : Wm Z (0, 0, sh, R) μ 22 [(0, .ref (wb (zw Z) + 139)), (1, .int x1), (3, .int x3), (4, .int x4)] [] := by
  unfold sX12_likeliest_22 at h
  refine r_iload C dX12_likeliest_22 3 rfl ?_
  refine r_aload_n C dX12_likeliest_24 0 rfl ?_
  refine r_getR C flX12_13 dX12_likeliest_25 (ly139 hY) rfl (lr139_1 hY) ?_
  refine r_iconst C dX12_likeliest_28 ic_1 ?_
  refine r_iald C dX12_likeliest_29 (ly140 hY) (by decide) ?_
  refine r_icmp_ge 58 C dX12_likeliest_30 (by decide) (fun c4 => ?_) (fun c4 => ?_)
  · have h := (ite_inv h).1 c4
    refine r_sub [(3, .int x3)] [2] rfl ?_
    exact kex0 x3 μ (Option.some.inj h).symm
  · have h := (ite_inv h).2 c4
    refine r_aload_n C dX12_likeliest_33 0 rfl ?_
    refine r_iload_n C dX12_likeliest_34 1 rfl ?_
    refine r_iload C dX12_likeliest_35 3 rfl ?_
    obtain ⟨u6, m7, e5, h⟩ := bnd2_inv h
    refine r_cVi (As := [.int x1, .int x4]) (rest := []) C hR mlX12_388 dX12_likeliest_37 (tX12_slipsOf hY n x1 x4  e5) rfl rfl (ly139 hY) rfl (nle rfl) (nle rfl) (nle rfl) ?_
    refine r_aload_n C dX12_likeliest_40 0 rfl ?_
    refine r_iload_n C dX12_likeliest_41 1 rfl ?_
    refine r_iload_n C dX12_likeliest_42 2 rfl ?_
    obtain ⟨u9, m10, e8, h⟩ := bnd2_inv h
    refine r_cVi (As := [.int x1, .int x3]) (rest := [.int u6]) C hR mlX12_388 dX12_likeliest_43 (tX12_slipsOf hY n x1 x3  e8) rfl rfl (ly139 hY) rfl (nle rfl) (nle rfl) (nle rfl) ?_
    refine r_icmp_ge 52 C dX12_likeliest_46 (by decide) (fun c11 => ?_) (fun c11 => ?_)
    · have h := (ite_inv h).1 c11
      refine r_iinc [(4, .int (x4 + 1)), (0, .ref (wb (zw Z) + 139)), (1, .int x1), (3, .int x3)] C dX12_likeliest_52 3 rfl (in_1 _) (by decide) rfl ?_
      refine r_goto 22 C dX12_likeliest_55 (by decide) ?_
      refine r_sub [(0, .ref (wb (zw Z) + 139)), (1, .int x1), (3, .int x3), (4, .int (x4 + 1))] [1, 2, 3, 0] rfl ?_
      exact kin x3 (x4 + 1) m10 (Option.some.inj h).symm
    · have h := (ite_inv h).2 c11
      refine r_iload C dX12_likeliest_49 3 rfl ?_
      refine r_istore_n [(3, .int x4), (0, .ref (wb (zw Z) + 139)), (1, .int x1), (4, .int x4)] C dX12_likeliest_51 rfl (by decide) rfl ?_
      refine r_iinc [(4, .int (x4 + 1)), (3, .int x4), (0, .ref (wb (zw Z) + 139)), (1, .int x1)] C dX12_likeliest_52 3 rfl (in_1 _) (by decide) rfl ?_
      refine r_goto 22 C dX12_likeliest_55 (by decide) ?_
      refine r_sub [(0, .ref (wb (zw Z) + 139)), (1, .int x1), (3, .int x4), (4, .int (x4 + 1))] [2, 3, 1, 0] rfl ?_
      exact kin x4 (x4 + 1) m10 (Option.some.inj h).symm
def fX12_likeliest (n : Nat) (x1 : Int32) (μ : Mu) : Option (Int32 × Mu) := bnd (fX12_noHeard n x1 (wI μ 139 0 0)) fun u2 => if u2 = 0 then (bnd (lp n (sX12_likeliest_22 n x1) (0, 1, wI μ 139 0 0)) fun q => match q with | (u12, m13) => some (u12, m13)) else (some (u2, wI μ 139 0 0))
set_option maxRecDepth 100000 in
set_option maxHeartbeats 4000000 in
theorem tX12_likeliest {l : Launch} {w : WP} {sh : List Sh} {R : Rf} {μ : Mu} {r : Int32} {μ' : Mu} (hY : LY sh R) (n : Nat) (x1 : Int32)  (h : fX12_likeliest n x1 μ = some (r, μ')) : CM l w yX12_likeliest cX12_likeliest 5 (some .int) 4 0 0 sh R [.ref (wb w + 139), .int x1] μ (some (.int r)) sh R μ' := by
  refine CM.of (plainFor_of_name pf_X12) (Nat.le_of_ble_eq_true rfl) fun Z C hr _ hR hw hl hE => ?_
  subst hw; subst hl
  have C : CX Z cX12_likeliest 5 RX12 := C
  show Wm Z (0, 0, sh, R) μ 0 [(0, .ref (wb (zw Z) + 139)), (1, .int x1)] []
  unfold fX12_likeliest at h
  refine r_aload_n C dX12_likeliest_0 0 rfl ?_
  refine r_iconst C dX12_likeliest_1 ic_0 ?_
  refine r_putI C fiX12_1 dX12_likeliest_2 (ly139 hY) ?_
  refine r_aload_n C dX12_likeliest_5 0 rfl ?_
  refine r_iload_n C dX12_likeliest_6 1 rfl ?_
  obtain ⟨u2, e1, h⟩ := bnd_inv h
  refine r_cVi (As := [.int x1]) (rest := []) C hR mlX12_391 dX12_likeliest_7 (tX12_noHeard hY n x1  e1) rfl rfl (ly139 hY) rfl (nle rfl) (nle rfl) (nle rfl) ?_
  refine r_istore_n [(2, .int u2), (0, .ref (wb (zw Z) + 139)), (1, .int x1)] C dX12_likeliest_10 rfl (by decide) rfl ?_
  refine r_iload_n C dX12_likeliest_11 0 rfl ?_
  refine r_if_eq 17 C dX12_likeliest_12 (by decide) (fun c3 => ?_) (fun c3 => ?_)
  · have h := (ite_inv h).1 c3
    refine r_iconst C dX12_likeliest_17 ic_0 ?_
    refine r_istore_n [(3, .int 0), (2, .int u2), (0, .ref (wb (zw Z) + 139)), (1, .int x1)] C dX12_likeliest_18 rfl (by decide) rfl ?_
    refine r_iconst C dX12_likeliest_19 ic_1 ?_
    refine r_istore [(4, .int 1), (3, .int 0), (2, .int u2), (0, .ref (wb (zw Z) + 139)), (1, .int x1)] C dX12_likeliest_20 (by decide) rfl ?_
    refine r_sub [(0, .ref (wb (zw Z) + 139)), (1, .int x1), (3, .int 0), (4, .int 1)] [3, 4, 1, 0] rfl ?_
    obtain ⟨⟨u12, m13⟩, e14, h⟩ := bnd_inv h
    refine lp_all (sX12_likeliest_22 n x1) (fun q => match q with | (z3, z4, ν) => Wm Z (0, 0, sh, R) (ν) 22 [(0, .ref (wb (zw Z) + 139)), (1, .int x1), (3, .int z3), (4, .int z4)] []) (fun q => match q with | (z3, ν) => Wm Z (0, 0, sh, R) (ν) 58 [(3, .int z3)] []) (fun q o h kin kex => ?_) n (0, 1, wI μ 139 0 0) (u12, m13) e14 ?_
    · obtain ⟨z3, z4, ν⟩ := q; exact lX12_likeliest_22 C hR hY n   x1 z3 z4 ν h (fun z3 z4 ν e => kin (z3, z4, ν) e) (fun z3 ν e => kex (z3, ν) e)
    show Wm Z (0, 0, sh, R) m13 58 [(3, .int u12)] []
    refine r_iload_n C dX12_likeliest_58 0 rfl ?_
    obtain ⟨h1, h2⟩ := Prod.mk.inj (Option.some.inj h)
    subst h1; subst h2
    exact r_iret C dX12_likeliest_59 hr hE
  · have h := (ite_inv h).2 c3
    refine r_iload_n C dX12_likeliest_15 0 rfl ?_
    obtain ⟨h1, h2⟩ := Prod.mk.inj (Option.some.inj h)
    subst h1; subst h2
    exact r_iret C dX12_likeliest_16 hr hE
def jX12_mostAlike_80 (n : Nat) (x1 : Int32) (x2 : Int32) (x3 : Int32) (x4 : Int32) (x6 : Int32) (s0 : Int32) (s1 : Int32) (μ : Mu) : Option ((Int32 × Int32 × Mu) ⊕ (Int32 × Mu)) := some (.inl (s1 + s0, x6 + 1, μ))
set_option maxRecDepth 100000 in
set_option maxHeartbeats 4000000 in
theorem kX12_mostAlike_80 {Z : ZC} {sh : List Sh} {R : Rf} {o : (Int32 × Int32 × Mu) ⊕ (Int32 × Mu)} (C : CX Z cX12_mostAlike 7 RX12) (hR : zR Z = rm 3 0 0) (hY : LY sh R) (n : Nat) (x1 : Int32) (x2 : Int32) (x3 : Int32) (x4 : Int32) (x6 : Int32) (s0 : Int32) (s1 : Int32) (μ : Mu) (h : jX12_mostAlike_80 n x1 x2 x3 x4 x6 s0 s1 μ = some o) (kin : ∀ (x5 : Int32) (x6 : Int32) (μ : Mu), o = .inl (x5, x6, μ) → Wm Z (0, 0, sh, R) μ 35 [(0, .ref (wb (zw Z) + 139)), (1, .int x1), (2, .int x2), (3, .int x3), (4, .int x4), (5, .int x5), (6, .int x6)] []) (kex0 : ∀ (x5 : Int32) (μ : Mu), o = .inr (x5, μ) → Wm Z (0, 0, sh, R) μ 89 [(0, .ref (wb (zw Z) + 139)), (1, .int x1), (2, .int x2), (3, .int x3), (4, .int x4), (5, .int x5)] []) : Wm Z (0, 0, sh, R) μ 80 [(0, .ref (wb (zw Z) + 139)), (1, .int x1), (2, .int x2), (3, .int x3), (4, .int x4), (6, .int x6)] [.int s0, .int s1] := by
  unfold jX12_mostAlike_80 at h
  refine r_iadd C dX12_mostAlike_80 ?_
  refine r_istore [(5, .int (s1 + s0)), (0, .ref (wb (zw Z) + 139)), (1, .int x1), (2, .int x2), (3, .int x3), (4, .int x4), (6, .int x6)] C dX12_mostAlike_81 (by decide) rfl ?_
  refine r_iinc [(6, .int (x6 + 1)), (5, .int (s1 + s0)), (0, .ref (wb (zw Z) + 139)), (1, .int x1), (2, .int x2), (3, .int x3), (4, .int x4)] C dX12_mostAlike_83 6 rfl (in_1 _) (by decide) rfl ?_
  refine r_goto 35 C dX12_mostAlike_86 (by decide) ?_
  refine r_sub [(0, .ref (wb (zw Z) + 139)), (1, .int x1), (2, .int x2), (3, .int x3), (4, .int x4), (5, .int (s1 + s0)), (6, .int (x6 + 1))] [2, 3, 4, 5, 6, 1, 0] rfl ?_
  exact kin (s1 + s0) (x6 + 1) μ (Option.some.inj h).symm
def jX12_mostAlike_79 (n : Nat) (x1 : Int32) (x2 : Int32) (x3 : Int32) (x4 : Int32) (x6 : Int32) (s0 : Int32) (μ : Mu) : Option ((Int32 × Int32 × Mu) ⊕ (Int32 × Mu)) := jX12_mostAlike_80 n x1 x2 x3 x4 x6 0 s0 μ
set_option maxRecDepth 100000 in
set_option maxHeartbeats 4000000 in
theorem kX12_mostAlike_79 {Z : ZC} {sh : List Sh} {R : Rf} {o : (Int32 × Int32 × Mu) ⊕ (Int32 × Mu)} (C : CX Z cX12_mostAlike 7 RX12) (hR : zR Z = rm 3 0 0) (hY : LY sh R) (n : Nat) (x1 : Int32) (x2 : Int32) (x3 : Int32) (x4 : Int32) (x6 : Int32) (s0 : Int32) (μ : Mu) (h : jX12_mostAlike_79 n x1 x2 x3 x4 x6 s0 μ = some o) (kin : ∀ (x5 : Int32) (x6 : Int32) (μ : Mu), o = .inl (x5, x6, μ) → Wm Z (0, 0, sh, R) μ 35 [(0, .ref (wb (zw Z) + 139)), (1, .int x1), (2, .int x2), (3, .int x3), (4, .int x4), (5, .int x5), (6, .int x6)] []) (kex0 : ∀ (x5 : Int32) (μ : Mu), o = .inr (x5, μ) → Wm Z (0, 0, sh, R) μ 89 [(0, .ref (wb (zw Z) + 139)), (1, .int x1), (2, .int x2), (3, .int x3), (4, .int x4), (5, .int x5)] []) : Wm Z (0, 0, sh, R) μ 79 [(0, .ref (wb (zw Z) + 139)), (1, .int x1), (2, .int x2), (3, .int x3), (4, .int x4), (6, .int x6)] [.int s0] := by
  unfold jX12_mostAlike_79 at h
  refine r_iconst C dX12_mostAlike_79 ic_0 ?_
  exact kX12_mostAlike_80 C hR hY n   x1 x2 x3 x4 x6 0 s0 μ h kin kex0
def sX12_mostAlike_35 (n : Nat) (x1 : Int32) (x2 : Int32) (x3 : Int32) (x4 : Int32) : Int32 × Int32 × Mu → Option ((Int32 × Int32 × Mu) ⊕ (Int32 × Mu)) := fun q => match q with | (x5, x6, μ) => if (rI μ 140 1) ≤ x6 then (some (.inr (x5, μ))) else (bnd (fX12_isIn n (x1.toInt64) x6 μ) fun u7 => if u7 = 0 then (jX12_mostAlike_79 n x1 x2 x3 x4 x6 x5 μ) else (bnd2 (fX12_soundIn n x6 x2 μ) fun u10 m11 => bnd2 (fX12_soundIn n x4 x2 m11) fun u13 m14 => some (.inl (x5 + (if u10 = u13 then 1 else 0 : Int32), x6 + 1, m14))))
set_option maxRecDepth 100000 in
set_option maxHeartbeats 4000000 in
theorem lX12_mostAlike_35 {Z : ZC} {sh : List Sh} {R : Rf} {o : (Int32 × Int32 × Mu) ⊕ (Int32 × Mu)} (C : CX Z cX12_mostAlike 7 RX12) (hR : zR Z = rm 3 0 0) (hY : LY sh R) (n : Nat) (x1 : Int32) (x2 : Int32) (x3 : Int32) (x4 : Int32) (x5 : Int32) (x6 : Int32) (μ : Mu) (h : sX12_mostAlike_35 n x1 x2 x3 x4 (x5, x6, μ) = some o) (kin : ∀ (x5 : Int32) (x6 : Int32) (μ : Mu), o = .inl (x5, x6, μ) → Wm Z (0, 0, sh, R) μ 35 [(0, .ref (wb (zw Z) + 139)), (1, .int x1), (2, .int x2), (3, .int x3), (4, .int x4), (5, .int x5), (6, .int x6)] []) (kex0 : ∀ (x5 : Int32) (μ : Mu), o = .inr (x5, μ) → Wm Z (0, 0, sh, R) μ 89 [(0, .ref (wb (zw Z) + 139)), (1, .int x1), (2, .int x2), (3, .int x3), (4, .int x4), (5, .int x5)] []) : Wm Z (0, 0, sh, R) μ 35 [(0, .ref (wb (zw Z) + 139)), (1, .int x1), (2, .int x2), (3, .int x3), (4, .int x4), (5, .int x5), (6, .int x6)] [] := by
  unfold sX12_mostAlike_35 at h
  refine r_iload C dX12_mostAlike_35 6 rfl ?_
  refine r_aload_n C dX12_mostAlike_37 0 rfl ?_
  refine r_getR C flX12_13 dX12_mostAlike_38 (ly139 hY) rfl (lr139_1 hY) ?_
  refine r_iconst C dX12_mostAlike_41 ic_1 ?_
  refine r_iald C dX12_mostAlike_42 (ly140 hY) (by decide) ?_
  refine r_icmp_ge 89 C dX12_mostAlike_43 (by decide) (fun c5 => ?_) (fun c5 => ?_)
  · have h := (ite_inv h).1 c5
    refine r_sub [(0, .ref (wb (zw Z) + 139)), (1, .int x1), (2, .int x2), (3, .int x3), (4, .int x4), (5, .int x5)] [0, 1, 2, 3, 4, 5] rfl ?_
    exact kex0 x5 μ (Option.some.inj h).symm
  · have h := (ite_inv h).2 c5
    refine r_iload C dX12_mostAlike_46 5 rfl ?_
    refine r_iload_n C dX12_mostAlike_48 1 rfl ?_
    refine r_i2l C dX12_mostAlike_49 ?_
    refine r_iload C dX12_mostAlike_50 6 rfl ?_
    obtain ⟨u7, e6, h⟩ := bnd_inv h
    refine r_cSi (As := [.long (x1.toInt64), .int x6]) (rest := [.int x5]) C hR mlX12_213 dX12_mostAlike_52 (tX12_isIn hY n (x1.toInt64) x6  e6) rfl rfl (nle rfl) (nle rfl) (nle rfl) ?_
    refine r_if_eq 79 C dX12_mostAlike_55 (by decide) (fun c8 => ?_) (fun c8 => ?_)
    · have h := (ite_inv h).1 c8
      refine r_sub [(0, .ref (wb (zw Z) + 139)), (1, .int x1), (2, .int x2), (3, .int x3), (4, .int x4), (6, .int x6)] [0, 1, 2, 3, 4, 6] rfl ?_
      exact kX12_mostAlike_79 C hR hY n   x1 x2 x3 x4 x6 x5 μ h kin kex0
    · have h := (ite_inv h).2 c8
      refine r_aload_n C dX12_mostAlike_58 0 rfl ?_
      refine r_iload C dX12_mostAlike_59 6 rfl ?_
      refine r_iload_n C dX12_mostAlike_61 2 rfl ?_
      obtain ⟨u10, m11, e9, h⟩ := bnd2_inv h
      refine r_cVi (As := [.int x6, .int x2]) (rest := [.int x5]) C hR mlX12_249 dX12_mostAlike_62 (tX12_soundIn hY n x6 x2  e9) rfl rfl (ly139 hY) rfl (nle rfl) (nle rfl) (nle rfl) ?_
      refine r_aload_n C dX12_mostAlike_65 0 rfl ?_
      refine r_iload C dX12_mostAlike_66 4 rfl ?_
      refine r_iload_n C dX12_mostAlike_68 2 rfl ?_
      obtain ⟨u13, m14, e12, h⟩ := bnd2_inv h
      refine r_cVi (As := [.int x4, .int x2]) (rest := [.int u10, .int x5]) C hR mlX12_249 dX12_mostAlike_69 (tX12_soundIn hY n x4 x2  e12) rfl rfl (ly139 hY) rfl (nle rfl) (nle rfl) (nle rfl) ?_
      suffices hj : Wm Z (0, 0, sh, R) m14 80 [(0, .ref (wb (zw Z) + 139)), (1, .int x1), (2, .int x2), (3, .int x3), (4, .int x4), (5, .int x5), (6, .int x6)] [.int (if u10 = u13 then 1 else 0 : Int32), .int x5] by
        refine r_icmp_ne 79 C dX12_mostAlike_72 (by decide) (fun c15 => ?_) (fun c15 => ?_)
        · refine r_iconst C dX12_mostAlike_79 ic_0 ?_
          exact sel_f c15 hj
        · refine r_iconst C dX12_mostAlike_75 ic_1 ?_
          refine r_goto 80 C dX12_mostAlike_76 (by decide) ?_
          exact sel_t c15 hj
      refine r_iadd C dX12_mostAlike_80 ?_
      refine r_istore [(5, .int (x5 + (if u10 = u13 then 1 else 0 : Int32))), (0, .ref (wb (zw Z) + 139)), (1, .int x1), (2, .int x2), (3, .int x3), (4, .int x4), (6, .int x6)] C dX12_mostAlike_81 (by decide) rfl ?_
      refine r_iinc [(6, .int (x6 + 1)), (5, .int (x5 + (if u10 = u13 then 1 else 0 : Int32))), (0, .ref (wb (zw Z) + 139)), (1, .int x1), (2, .int x2), (3, .int x3), (4, .int x4)] C dX12_mostAlike_83 6 rfl (in_1 _) (by decide) rfl ?_
      refine r_goto 35 C dX12_mostAlike_86 (by decide) ?_
      refine r_sub [(0, .ref (wb (zw Z) + 139)), (1, .int x1), (2, .int x2), (3, .int x3), (4, .int x4), (5, .int (x5 + (if u10 = u13 then 1 else 0 : Int32))), (6, .int (x6 + 1))] [2, 3, 4, 5, 6, 1, 0] rfl ?_
      exact kin (x5 + (if u10 = u13 then 1 else 0 : Int32)) (x6 + 1) m14 (Option.some.inj h).symm
def sX12_mostAlike_5 (n : Nat) (x1 : Int32) (x2 : Int32) : Int32 × Int32 × Mu → Option ((Int32 × Int32 × Mu) ⊕ (Int32 × Mu)) := fun q => match q with | (x3, x4, μ) => if (rI μ 140 1) ≤ x4 then (some (.inr (x3, μ))) else (bnd (fX12_isIn n (x1.toInt64) x4 μ) fun u3 => if u3 = 0 then (some (.inl (x3, x4 + 1, μ))) else (bnd (lp n (sX12_mostAlike_35 n x1 x2 x3 x4) (0, 0, μ)) fun q => match q with | (u16, m17) => some (.inl ((if u16 ≤ x3 then x3 else u16), x4 + 1, m17))))
set_option maxRecDepth 100000 in
set_option maxHeartbeats 4000000 in
theorem lX12_mostAlike_5 {Z : ZC} {sh : List Sh} {R : Rf} {o : (Int32 × Int32 × Mu) ⊕ (Int32 × Mu)} (C : CX Z cX12_mostAlike 7 RX12) (hR : zR Z = rm 3 0 0) (hY : LY sh R) (n : Nat) (x1 : Int32) (x2 : Int32) (x3 : Int32) (x4 : Int32) (μ : Mu) (h : sX12_mostAlike_5 n x1 x2 (x3, x4, μ) = some o) (kin : ∀ (x3 : Int32) (x4 : Int32) (μ : Mu), o = .inl (x3, x4, μ) → Wm Z (0, 0, sh, R) μ 5 [(0, .ref (wb (zw Z) + 139)), (1, .int x1), (2, .int x2), (3, .int x3), (4, .int x4)] []) (kex0 : ∀ (x3 : Int32) (μ : Mu), o = .inr (x3, μ) → Wm Z (0, 0, sh, R) μ 108 [(3, .int x3)] []) : Wm Z (0, 0, sh, R) μ 5 [(0, .ref (wb (zw Z) + 139)), (1, .int x1), (2, .int x2), (3, .int x3), (4, .int x4)] [] := by
  unfold sX12_mostAlike_5 at h
  refine r_iload C dX12_mostAlike_5 4 rfl ?_
  refine r_aload_n C dX12_mostAlike_7 0 rfl ?_
  refine r_getR C flX12_13 dX12_mostAlike_8 (ly139 hY) rfl (lr139_1 hY) ?_
  refine r_iconst C dX12_mostAlike_11 ic_1 ?_
  refine r_iald C dX12_mostAlike_12 (ly140 hY) (by decide) ?_
  refine r_icmp_ge 108 C dX12_mostAlike_13 (by decide) (fun c1 => ?_) (fun c1 => ?_)
  · have h := (ite_inv h).1 c1
    refine r_sub [(3, .int x3)] [3] rfl ?_
    exact kex0 x3 μ (Option.some.inj h).symm
  · have h := (ite_inv h).2 c1
    refine r_iload_n C dX12_mostAlike_16 1 rfl ?_
    refine r_i2l C dX12_mostAlike_17 ?_
    refine r_iload C dX12_mostAlike_18 4 rfl ?_
    obtain ⟨u3, e2, h⟩ := bnd_inv h
    refine r_cSi (As := [.long (x1.toInt64), .int x4]) (rest := []) C hR mlX12_213 dX12_mostAlike_20 (tX12_isIn hY n (x1.toInt64) x4  e2) rfl rfl (nle rfl) (nle rfl) (nle rfl) ?_
    refine r_if_ne 29 C dX12_mostAlike_23 (by decide) (fun c4 => ?_) (fun c4 => ?_)
    · have h := (ite_inv h).2 c4
      refine r_iconst C dX12_mostAlike_29 ic_0 ?_
      refine r_istore [(5, .int 0), (0, .ref (wb (zw Z) + 139)), (1, .int x1), (2, .int x2), (3, .int x3), (4, .int x4)] C dX12_mostAlike_30 (by decide) rfl ?_
      refine r_iconst C dX12_mostAlike_32 ic_0 ?_
      refine r_istore [(6, .int 0), (5, .int 0), (0, .ref (wb (zw Z) + 139)), (1, .int x1), (2, .int x2), (3, .int x3), (4, .int x4)] C dX12_mostAlike_33 (by decide) rfl ?_
      refine r_sub [(0, .ref (wb (zw Z) + 139)), (1, .int x1), (2, .int x2), (3, .int x3), (4, .int x4), (5, .int 0), (6, .int 0)] [2, 3, 4, 5, 6, 1, 0] rfl ?_
      obtain ⟨⟨u16, m17⟩, e18, h⟩ := bnd_inv h
      refine lp_all (sX12_mostAlike_35 n x1 x2 x3 x4) (fun q => match q with | (z5, z6, ν) => Wm Z (0, 0, sh, R) (ν) 35 [(0, .ref (wb (zw Z) + 139)), (1, .int x1), (2, .int x2), (3, .int x3), (4, .int x4), (5, .int z5), (6, .int z6)] []) (fun q => match q with | (z5, ν) => Wm Z (0, 0, sh, R) (ν) 89 [(0, .ref (wb (zw Z) + 139)), (1, .int x1), (2, .int x2), (3, .int x3), (4, .int x4), (5, .int z5)] []) (fun q o h kin kex => ?_) n (0, 0, μ) (u16, m17) e18 ?_
      · obtain ⟨z5, z6, ν⟩ := q; exact lX12_mostAlike_35 C hR hY n   x1 x2 x3 x4 z5 z6 ν h (fun z5 z6 ν e => kin (z5, z6, ν) e) (fun z5 ν e => kex (z5, ν) e)
      show Wm Z (0, 0, sh, R) m17 89 [(0, .ref (wb (zw Z) + 139)), (1, .int x1), (2, .int x2), (3, .int x3), (4, .int x4), (5, .int u16)] []
      refine r_iload C dX12_mostAlike_89 5 rfl ?_
      refine r_iload_n C dX12_mostAlike_91 3 rfl ?_
      suffices hj : Wm Z (0, 0, sh, R) m17 101 [(0, .ref (wb (zw Z) + 139)), (1, .int x1), (2, .int x2), (3, .int x3), (4, .int x4), (5, .int u16)] [.int (if u16 ≤ x3 then x3 else u16)] by
        refine r_icmp_le 100 C dX12_mostAlike_92 (by decide) (fun c19 => ?_) (fun c19 => ?_)
        · refine r_iload_n C dX12_mostAlike_100 3 rfl ?_
          exact sel_t c19 hj
        · refine r_iload C dX12_mostAlike_95 5 rfl ?_
          refine r_goto 101 C dX12_mostAlike_97 (by decide) ?_
          exact sel_f c19 hj
      refine r_istore_n [(3, .int (if u16 ≤ x3 then x3 else u16)), (0, .ref (wb (zw Z) + 139)), (1, .int x1), (2, .int x2), (4, .int x4), (5, .int u16)] C dX12_mostAlike_101 rfl (by decide) rfl ?_
      refine r_iinc [(4, .int (x4 + 1)), (3, .int (if u16 ≤ x3 then x3 else u16)), (0, .ref (wb (zw Z) + 139)), (1, .int x1), (2, .int x2), (5, .int u16)] C dX12_mostAlike_102 4 rfl (in_1 _) (by decide) rfl ?_
      refine r_goto 5 C dX12_mostAlike_105 (by decide) ?_
      refine r_sub [(0, .ref (wb (zw Z) + 139)), (1, .int x1), (2, .int x2), (3, .int (if u16 ≤ x3 then x3 else u16)), (4, .int (x4 + 1))] [2, 3, 4, 1, 0] rfl ?_
      exact kin (if u16 ≤ x3 then x3 else u16) (x4 + 1) m17 (Option.some.inj h).symm
    · have h := (ite_inv h).1 c4
      refine r_goto 102 C dX12_mostAlike_26 (by decide) ?_
      refine r_iinc [(4, .int (x4 + 1)), (0, .ref (wb (zw Z) + 139)), (1, .int x1), (2, .int x2), (3, .int x3)] C dX12_mostAlike_102 4 rfl (in_1 _) (by decide) rfl ?_
      refine r_goto 5 C dX12_mostAlike_105 (by decide) ?_
      refine r_sub [(0, .ref (wb (zw Z) + 139)), (1, .int x1), (2, .int x2), (3, .int x3), (4, .int (x4 + 1))] [1, 2, 3, 4, 0] rfl ?_
      exact kin x3 (x4 + 1) μ (Option.some.inj h).symm
def fX12_mostAlike (n : Nat) (x1 : Int32) (x2 : Int32) (μ : Mu) : Option (Int32 × Mu) := bnd (lp n (sX12_mostAlike_5 n x1 x2) (0, 0, μ)) fun q => match q with | (u20, m21) => some (u20, m21)
set_option maxRecDepth 100000 in
set_option maxHeartbeats 4000000 in
theorem tX12_mostAlike {l : Launch} {w : WP} {sh : List Sh} {R : Rf} {μ : Mu} {r : Int32} {μ' : Mu} (hY : LY sh R) (n : Nat) (x1 : Int32) (x2 : Int32)  (h : fX12_mostAlike n x1 x2 μ = some (r, μ')) : CM l w yX12_mostAlike cX12_mostAlike 7 (some .int) 3 0 0 sh R [.ref (wb w + 139), .int x1, .int x2] μ (some (.int r)) sh R μ' := by
  refine CM.of (plainFor_of_name pf_X12) (Nat.le_of_ble_eq_true rfl) fun Z C hr _ hR hw hl hE => ?_
  subst hw; subst hl
  have C : CX Z cX12_mostAlike 7 RX12 := C
  show Wm Z (0, 0, sh, R) μ 0 [(0, .ref (wb (zw Z) + 139)), (1, .int x1), (2, .int x2)] []
  unfold fX12_mostAlike at h
  refine r_iconst C dX12_mostAlike_0 ic_0 ?_
  refine r_istore_n [(3, .int 0), (0, .ref (wb (zw Z) + 139)), (1, .int x1), (2, .int x2)] C dX12_mostAlike_1 rfl (by decide) rfl ?_
  refine r_iconst C dX12_mostAlike_2 ic_0 ?_
  refine r_istore [(4, .int 0), (3, .int 0), (0, .ref (wb (zw Z) + 139)), (1, .int x1), (2, .int x2)] C dX12_mostAlike_3 (by decide) rfl ?_
  refine r_sub [(0, .ref (wb (zw Z) + 139)), (1, .int x1), (2, .int x2), (3, .int 0), (4, .int 0)] [2, 3, 4, 1, 0] rfl ?_
  obtain ⟨⟨u20, m21⟩, e22, h⟩ := bnd_inv h
  refine lp_all (sX12_mostAlike_5 n x1 x2) (fun q => match q with | (z3, z4, ν) => Wm Z (0, 0, sh, R) (ν) 5 [(0, .ref (wb (zw Z) + 139)), (1, .int x1), (2, .int x2), (3, .int z3), (4, .int z4)] []) (fun q => match q with | (z3, ν) => Wm Z (0, 0, sh, R) (ν) 108 [(3, .int z3)] []) (fun q o h kin kex => ?_) n (0, 0, μ) (u20, m21) e22 ?_
  · obtain ⟨z3, z4, ν⟩ := q; exact lX12_mostAlike_5 C hR hY n   x1 x2 z3 z4 ν h (fun z3 z4 ν e => kin (z3, z4, ν) e) (fun z3 ν e => kex (z3, ν) e)
  show Wm Z (0, 0, sh, R) m21 108 [(3, .int u20)] []
  refine r_iload_n C dX12_mostAlike_108 0 rfl ?_
  obtain ⟨h1, h2⟩ := Prod.mk.inj (Option.some.inj h)
  subst h1; subst h2
  exact r_iret C dX12_mostAlike_109 hr hE
def sX12_look_35 (n : Nat) (x3 : Int32) : Int32 × Int32 × Mu → Option ((Int32 × Int32 × Mu) ⊕ (Int32 × Mu)) := fun q => match q with | (x4, x5, μ) => if 99 < x5 then (some (.inr (x4, μ))) else (bnd2 (fX12_mostAlike n x3 x5 μ) fun u10 m11 => bnd2 (fX12_mostAlike n x3 x4 m11) fun u13 m14 => if u13 ≤ u10 then (some (.inl (x4, x5 + 1, m14))) else (some (.inl (x5, x5 + 1, m14))))
set_option maxRecDepth 100000 in
set_option maxHeartbeats 4000000 in
theorem lX12_look_35 {Z : ZC} {sh : List Sh} {R : Rf} {o : (Int32 × Int32 × Mu) ⊕ (Int32 × Mu)} (C : CX Z cX12_look 6 RX12) (hR : zR Z = rm 5 0 0) (hY : LY sh R) (n : Nat) (x3 : Int32) (x4 : Int32) (x5 : Int32) (μ : Mu) (h : sX12_look_35 n x3 (x4, x5, μ) = some o) (kin : ∀ (x4 : Int32) (x5 : Int32) (μ : Mu), o = .inl (x4, x5, μ) → Wm Z (0, 0, sh, R) μ 35 [(0, .ref (wb (zw Z) + 139)), (3, .int x3), (4, .int x4), (5, .int x5)] []) (kex0 : ∀ (x4 : Int32) (μ : Mu), o = .inr (x4, μ) → Wm Z (0, 0, sh, R) μ 69 [(4, .int x4)] []) : Wm Z (0, 0, sh, R) μ 35 [(0, .ref (wb (zw Z) + 139)), (3, .int x3), (4, .int x4), (5, .int x5)] [] := by
  unfold sX12_look_35 at h
  refine r_iload C dX12_look_35 3 rfl ?_
  refine r_bipush C dX12_look_37 bp_99 ?_
  refine r_icmp_gt 69 C dX12_look_39 (by decide) (fun c8 => ?_) (fun c8 => ?_)
  · have h := (ite_inv h).1 c8
    refine r_sub [(4, .int x4)] [2] rfl ?_
    exact kex0 x4 μ (Option.some.inj h).symm
  · have h := (ite_inv h).2 c8
    refine r_aload_n C dX12_look_42 0 rfl ?_
    refine r_iload_n C dX12_look_43 1 rfl ?_
    refine r_iload C dX12_look_44 3 rfl ?_
    obtain ⟨u10, m11, e9, h⟩ := bnd2_inv h
    refine r_cVi (As := [.int x3, .int x5]) (rest := []) C hR mlX12_397 dX12_look_46 (tX12_mostAlike hY n x3 x5  e9) rfl rfl (ly139 hY) rfl (nle rfl) (nle rfl) (nle rfl) ?_
    refine r_aload_n C dX12_look_49 0 rfl ?_
    refine r_iload_n C dX12_look_50 1 rfl ?_
    refine r_iload C dX12_look_51 2 rfl ?_
    obtain ⟨u13, m14, e12, h⟩ := bnd2_inv h
    refine r_cVi (As := [.int x3, .int x4]) (rest := [.int u10]) C hR mlX12_397 dX12_look_53 (tX12_mostAlike hY n x3 x4  e12) rfl rfl (ly139 hY) rfl (nle rfl) (nle rfl) (nle rfl) ?_
    refine r_icmp_ge 63 C dX12_look_56 (by decide) (fun c15 => ?_) (fun c15 => ?_)
    · have h := (ite_inv h).1 c15
      refine r_iinc [(5, .int (x5 + 1)), (0, .ref (wb (zw Z) + 139)), (3, .int x3), (4, .int x4)] C dX12_look_63 3 rfl (in_1 _) (by decide) rfl ?_
      refine r_goto 35 C dX12_look_66 (by decide) ?_
      refine r_sub [(0, .ref (wb (zw Z) + 139)), (3, .int x3), (4, .int x4), (5, .int (x5 + 1))] [1, 2, 3, 0] rfl ?_
      exact kin x4 (x5 + 1) m14 (Option.some.inj h).symm
    · have h := (ite_inv h).2 c15
      refine r_iload C dX12_look_59 3 rfl ?_
      refine r_istore [(4, .int x5), (0, .ref (wb (zw Z) + 139)), (3, .int x3), (5, .int x5)] C dX12_look_61 (by decide) rfl ?_
      refine r_iinc [(5, .int (x5 + 1)), (4, .int x5), (0, .ref (wb (zw Z) + 139)), (3, .int x3)] C dX12_look_63 3 rfl (in_1 _) (by decide) rfl ?_
      refine r_goto 35 C dX12_look_66 (by decide) ?_
      refine r_sub [(0, .ref (wb (zw Z) + 139)), (3, .int x3), (4, .int x5), (5, .int (x5 + 1))] [2, 3, 1, 0] rfl ?_
      exact kin x5 (x5 + 1) m14 (Option.some.inj h).symm
def fX12_look (n : Nat) (x1 : Int32) (μ : Mu) : Option (Int32 × Mu) := bnd (fX12_noHeard n x1 (wI μ 139 0 0)) fun u2 => if u2 = 0 then (bnd2 (fX12_fitting n x1 (wI μ 139 0 0)) fun u5 m6 => if u5 = 0 then (some ((-1), m6)) else (bnd (lp n (sX12_look_35 n u5) (0, 1, m6)) fun q => match q with | (u16, m17) => some (u16, m17))) else (some (u2, wI μ 139 0 0))
set_option maxRecDepth 100000 in
set_option maxHeartbeats 4000000 in
theorem tX12_look {l : Launch} {w : WP} {sh : List Sh} {R : Rf} {μ : Mu} {r : Int32} {μ' : Mu} (hY : LY sh R) (n : Nat) (x1 : Int32)  (h : fX12_look n x1 μ = some (r, μ')) : CM l w yX12_look cX12_look 6 (some .int) 5 0 0 sh R [.ref (wb w + 139), .int x1] μ (some (.int r)) sh R μ' := by
  refine CM.of (plainFor_of_name pf_X12) (Nat.le_of_ble_eq_true rfl) fun Z C hr _ hR hw hl hE => ?_
  subst hw; subst hl
  have C : CX Z cX12_look 6 RX12 := C
  show Wm Z (0, 0, sh, R) μ 0 [(0, .ref (wb (zw Z) + 139)), (1, .int x1)] []
  unfold fX12_look at h
  refine r_aload_n C dX12_look_0 0 rfl ?_
  refine r_iconst C dX12_look_1 ic_0 ?_
  refine r_putI C fiX12_1 dX12_look_2 (ly139 hY) ?_
  refine r_aload_n C dX12_look_5 0 rfl ?_
  refine r_iload_n C dX12_look_6 1 rfl ?_
  obtain ⟨u2, e1, h⟩ := bnd_inv h
  refine r_cVi (As := [.int x1]) (rest := []) C hR mlX12_391 dX12_look_7 (tX12_noHeard hY n x1  e1) rfl rfl (ly139 hY) rfl (nle rfl) (nle rfl) (nle rfl) ?_
  refine r_istore_n [(2, .int u2), (0, .ref (wb (zw Z) + 139)), (1, .int x1)] C dX12_look_10 rfl (by decide) rfl ?_
  refine r_iload_n C dX12_look_11 0 rfl ?_
  refine r_if_eq 17 C dX12_look_12 (by decide) (fun c3 => ?_) (fun c3 => ?_)
  · have h := (ite_inv h).1 c3
    refine r_aload_n C dX12_look_17 1 rfl ?_
    refine r_iload_n C dX12_look_18 2 rfl ?_
    obtain ⟨u5, m6, e4, h⟩ := bnd2_inv h
    refine r_cVi (As := [.int x1]) (rest := []) C hR mlX12_394 dX12_look_19 (tX12_fitting hY n x1  e4) rfl rfl (ly139 hY) rfl (nle rfl) (nle rfl) (nle rfl) ?_
    refine r_istore_n [(3, .int u5), (2, .int u2), (0, .ref (wb (zw Z) + 139)), (1, .int x1)] C dX12_look_22 rfl (by decide) rfl ?_
    refine r_iload_n C dX12_look_23 0 rfl ?_
    refine r_if_ne 29 C dX12_look_24 (by decide) (fun c7 => ?_) (fun c7 => ?_)
    · have h := (ite_inv h).2 c7
      refine r_iconst C dX12_look_29 ic_0 ?_
      refine r_istore [(4, .int 0), (3, .int u5), (2, .int u2), (0, .ref (wb (zw Z) + 139)), (1, .int x1)] C dX12_look_30 (by decide) rfl ?_
      refine r_iconst C dX12_look_32 ic_1 ?_
      refine r_istore [(5, .int 1), (4, .int 0), (3, .int u5), (2, .int u2), (0, .ref (wb (zw Z) + 139)), (1, .int x1)] C dX12_look_33 (by decide) rfl ?_
      refine r_sub [(0, .ref (wb (zw Z) + 139)), (3, .int u5), (4, .int 0), (5, .int 1)] [4, 2, 1, 0] rfl ?_
      obtain ⟨⟨u16, m17⟩, e18, h⟩ := bnd_inv h
      refine lp_all (sX12_look_35 n u5) (fun q => match q with | (z4, z5, ν) => Wm Z (0, 0, sh, R) (ν) 35 [(0, .ref (wb (zw Z) + 139)), (3, .int u5), (4, .int z4), (5, .int z5)] []) (fun q => match q with | (z4, ν) => Wm Z (0, 0, sh, R) (ν) 69 [(4, .int z4)] []) (fun q o h kin kex => ?_) n (0, 1, m6) (u16, m17) e18 ?_
      · obtain ⟨z4, z5, ν⟩ := q; exact lX12_look_35 C hR hY n   u5 z4 z5 ν h (fun z4 z5 ν e => kin (z4, z5, ν) e) (fun z4 ν e => kex (z4, ν) e)
      show Wm Z (0, 0, sh, R) m17 69 [(4, .int u16)] []
      refine r_iload C dX12_look_69 0 rfl ?_
      obtain ⟨h1, h2⟩ := Prod.mk.inj (Option.some.inj h)
      subst h1; subst h2
      exact r_iret C dX12_look_71 hr hE
    · have h := (ite_inv h).1 c7
      refine r_iconst C dX12_look_27 ic_m1 ?_
      obtain ⟨h1, h2⟩ := Prod.mk.inj (Option.some.inj h)
      subst h1; subst h2
      exact r_iret C dX12_look_28 hr hE
  · have h := (ite_inv h).2 c3
    refine r_iload_n C dX12_look_15 0 rfl ?_
    obtain ⟨h1, h2⟩ := Prod.mk.inj (Option.some.inj h)
    subst h1; subst h2
    exact r_iret C dX12_look_16 hr hE
def sX12_unlikeOf_5 (n : Nat) (x1 : Int32) (x2 : Int32) : Int32 × Int32 × Mu → Option ((Int32 × Int32 × Mu) ⊕ (Int32 × Mu)) := fun q => match q with | (x3, x4, μ) => if 24 ≤ x4 then (some (.inr (x3, μ))) else (bnd2 (fX12_soundIn n x1 x4 μ) fun u3 m4 => bnd2 (fX12_soundIn n x2 x4 m4) fun u6 m7 => some (.inl (x3 + (if u3 = u6 then 0 else 1 : Int32), x4 + 1, m7)))
set_option maxRecDepth 100000 in
set_option maxHeartbeats 4000000 in
theorem lX12_unlikeOf_5 {Z : ZC} {sh : List Sh} {R : Rf} {o : (Int32 × Int32 × Mu) ⊕ (Int32 × Mu)} (C : CX Z cX12_unlikeOf 5 RX12) (hR : zR Z = rm 3 0 0) (hY : LY sh R) (n : Nat) (x1 : Int32) (x2 : Int32) (x3 : Int32) (x4 : Int32) (μ : Mu) (h : sX12_unlikeOf_5 n x1 x2 (x3, x4, μ) = some o) (kin : ∀ (x3 : Int32) (x4 : Int32) (μ : Mu), o = .inl (x3, x4, μ) → Wm Z (0, 0, sh, R) μ 5 [(0, .ref (wb (zw Z) + 139)), (1, .int x1), (2, .int x2), (3, .int x3), (4, .int x4)] []) (kex0 : ∀ (x3 : Int32) (μ : Mu), o = .inr (x3, μ) → Wm Z (0, 0, sh, R) μ 43 [(3, .int x3)] []) : Wm Z (0, 0, sh, R) μ 5 [(0, .ref (wb (zw Z) + 139)), (1, .int x1), (2, .int x2), (3, .int x3), (4, .int x4)] [] := by
  unfold sX12_unlikeOf_5 at h
  refine r_iload C dX12_unlikeOf_5 4 rfl ?_
  refine r_bipush C dX12_unlikeOf_7 bp_24 ?_
  refine r_icmp_ge 43 C dX12_unlikeOf_9 (by decide) (fun c1 => ?_) (fun c1 => ?_)
  · have h := (ite_inv h).1 c1
    refine r_sub [(3, .int x3)] [3] rfl ?_
    exact kex0 x3 μ (Option.some.inj h).symm
  · have h := (ite_inv h).2 c1
    refine r_iload_n C dX12_unlikeOf_12 3 rfl ?_
    refine r_aload_n C dX12_unlikeOf_13 0 rfl ?_
    refine r_iload_n C dX12_unlikeOf_14 1 rfl ?_
    refine r_iload C dX12_unlikeOf_15 4 rfl ?_
    obtain ⟨u3, m4, e2, h⟩ := bnd2_inv h
    refine r_cVi (As := [.int x1, .int x4]) (rest := [.int x3]) C hR mlX12_249 dX12_unlikeOf_17 (tX12_soundIn hY n x1 x4  e2) rfl rfl (ly139 hY) rfl (nle rfl) (nle rfl) (nle rfl) ?_
    refine r_aload_n C dX12_unlikeOf_20 0 rfl ?_
    refine r_iload_n C dX12_unlikeOf_21 2 rfl ?_
    refine r_iload C dX12_unlikeOf_22 4 rfl ?_
    obtain ⟨u6, m7, e5, h⟩ := bnd2_inv h
    refine r_cVi (As := [.int x2, .int x4]) (rest := [.int u3, .int x3]) C hR mlX12_249 dX12_unlikeOf_24 (tX12_soundIn hY n x2 x4  e5) rfl rfl (ly139 hY) rfl (nle rfl) (nle rfl) (nle rfl) ?_
    suffices hj : Wm Z (0, 0, sh, R) m7 35 [(0, .ref (wb (zw Z) + 139)), (1, .int x1), (2, .int x2), (3, .int x3), (4, .int x4)] [.int (if u3 = u6 then 0 else 1 : Int32), .int x3] by
      refine r_icmp_ne 34 C dX12_unlikeOf_27 (by decide) (fun c8 => ?_) (fun c8 => ?_)
      · refine r_iconst C dX12_unlikeOf_34 ic_1 ?_
        exact sel_f c8 hj
      · refine r_iconst C dX12_unlikeOf_30 ic_0 ?_
        refine r_goto 35 C dX12_unlikeOf_31 (by decide) ?_
        exact sel_t c8 hj
    refine r_iadd C dX12_unlikeOf_35 ?_
    refine r_istore_n [(3, .int (x3 + (if u3 = u6 then 0 else 1 : Int32))), (0, .ref (wb (zw Z) + 139)), (1, .int x1), (2, .int x2), (4, .int x4)] C dX12_unlikeOf_36 rfl (by decide) rfl ?_
    refine r_iinc [(4, .int (x4 + 1)), (3, .int (x3 + (if u3 = u6 then 0 else 1 : Int32))), (0, .ref (wb (zw Z) + 139)), (1, .int x1), (2, .int x2)] C dX12_unlikeOf_37 4 rfl (in_1 _) (by decide) rfl ?_
    refine r_goto 5 C dX12_unlikeOf_40 (by decide) ?_
    refine r_sub [(0, .ref (wb (zw Z) + 139)), (1, .int x1), (2, .int x2), (3, .int (x3 + (if u3 = u6 then 0 else 1 : Int32))), (4, .int (x4 + 1))] [2, 3, 4, 1, 0] rfl ?_
    exact kin (x3 + (if u3 = u6 then 0 else 1 : Int32)) (x4 + 1) m7 (Option.some.inj h).symm
def fX12_unlikeOf (n : Nat) (x1 : Int32) (x2 : Int32) (μ : Mu) : Option (Int32 × Mu) := bnd (lp n (sX12_unlikeOf_5 n x1 x2) (0, 0, μ)) fun q => match q with | (u9, m10) => some (u9, m10)
set_option maxRecDepth 100000 in
set_option maxHeartbeats 4000000 in
theorem tX12_unlikeOf {l : Launch} {w : WP} {sh : List Sh} {R : Rf} {μ : Mu} {r : Int32} {μ' : Mu} (hY : LY sh R) (n : Nat) (x1 : Int32) (x2 : Int32)  (h : fX12_unlikeOf n x1 x2 μ = some (r, μ')) : CM l w yX12_unlikeOf cX12_unlikeOf 5 (some .int) 3 0 0 sh R [.ref (wb w + 139), .int x1, .int x2] μ (some (.int r)) sh R μ' := by
  refine CM.of (plainFor_of_name pf_X12) (Nat.le_of_ble_eq_true rfl) fun Z C hr _ hR hw hl hE => ?_
  subst hw; subst hl
  have C : CX Z cX12_unlikeOf 5 RX12 := C
  show Wm Z (0, 0, sh, R) μ 0 [(0, .ref (wb (zw Z) + 139)), (1, .int x1), (2, .int x2)] []
  unfold fX12_unlikeOf at h
  refine r_iconst C dX12_unlikeOf_0 ic_0 ?_
  refine r_istore_n [(3, .int 0), (0, .ref (wb (zw Z) + 139)), (1, .int x1), (2, .int x2)] C dX12_unlikeOf_1 rfl (by decide) rfl ?_
  refine r_iconst C dX12_unlikeOf_2 ic_0 ?_
  refine r_istore [(4, .int 0), (3, .int 0), (0, .ref (wb (zw Z) + 139)), (1, .int x1), (2, .int x2)] C dX12_unlikeOf_3 (by decide) rfl ?_
  refine r_sub [(0, .ref (wb (zw Z) + 139)), (1, .int x1), (2, .int x2), (3, .int 0), (4, .int 0)] [2, 3, 4, 1, 0] rfl ?_
  obtain ⟨⟨u9, m10⟩, e11, h⟩ := bnd_inv h
  refine lp_all (sX12_unlikeOf_5 n x1 x2) (fun q => match q with | (z3, z4, ν) => Wm Z (0, 0, sh, R) (ν) 5 [(0, .ref (wb (zw Z) + 139)), (1, .int x1), (2, .int x2), (3, .int z3), (4, .int z4)] []) (fun q => match q with | (z3, ν) => Wm Z (0, 0, sh, R) (ν) 43 [(3, .int z3)] []) (fun q o h kin kex => ?_) n (0, 0, μ) (u9, m10) e11 ?_
  · obtain ⟨z3, z4, ν⟩ := q; exact lX12_unlikeOf_5 C hR hY n   x1 x2 z3 z4 ν h (fun z3 z4 ν e => kin (z3, z4, ν) e) (fun z3 ν e => kex (z3, ν) e)
  show Wm Z (0, 0, sh, R) m10 43 [(3, .int u9)] []
  refine r_iload_n C dX12_unlikeOf_43 0 rfl ?_
  obtain ⟨h1, h2⟩ := Prod.mk.inj (Option.some.inj h)
  subst h1; subst h2
  exact r_iret C dX12_unlikeOf_44 hr hE
def fX12_unlike (n : Nat) (x1 : Int32) (x2 : Int32) (μ : Mu) : Option (Int32 × Mu) := bnd (fX12_isBeach n (x1.toInt64) (wI μ 139 0 0)) fun u2 => if u2 = 0 then (some ((-2), wI μ 139 0 0)) else (bnd (fX12_isBeach n (x2.toInt64) (wI μ 139 0 0)) fun u5 => if u5 = 0 then (some ((-2), wI μ 139 0 0)) else (bnd2 (fX12_unlikeOf n x1 x2 (wI μ 139 0 0)) fun u8 m9 => some (u8, m9)))
set_option maxRecDepth 100000 in
set_option maxHeartbeats 4000000 in
theorem tX12_unlike {l : Launch} {w : WP} {sh : List Sh} {R : Rf} {μ : Mu} {r : Int32} {μ' : Mu} (hY : LY sh R) (n : Nat) (x1 : Int32) (x2 : Int32)  (h : fX12_unlike n x1 x2 μ = some (r, μ')) : CM l w yX12_unlike cX12_unlike 3 (some .int) 4 0 0 sh R [.ref (wb w + 139), .int x1, .int x2] μ (some (.int r)) sh R μ' := by
  refine CM.of (plainFor_of_name pf_X12) (Nat.le_of_ble_eq_true rfl) fun Z C hr _ hR hw hl hE => ?_
  subst hw; subst hl
  have C : CX Z cX12_unlike 3 RX12 := C
  show Wm Z (0, 0, sh, R) μ 0 [(0, .ref (wb (zw Z) + 139)), (1, .int x1), (2, .int x2)] []
  unfold fX12_unlike at h
  refine r_aload_n C dX12_unlike_0 0 rfl ?_
  refine r_iconst C dX12_unlike_1 ic_0 ?_
  refine r_putI C fiX12_1 dX12_unlike_2 (ly139 hY) ?_
  refine r_aload_n C dX12_unlike_5 0 rfl ?_
  refine r_iload_n C dX12_unlike_6 1 rfl ?_
  refine r_i2l C dX12_unlike_7 ?_
  obtain ⟨u2, e1, h⟩ := bnd_inv h
  refine r_cVi (As := [.long (x1.toInt64)]) (rest := []) C hR mlX12_244 dX12_unlike_8 (tX12_isBeach hY n (x1.toInt64)  e1) rfl rfl (ly139 hY) rfl (nle rfl) (nle rfl) (nle rfl) ?_
  refine r_if_eq 32 C dX12_unlike_11 (by decide) (fun c3 => ?_) (fun c3 => ?_)
  · have h := (ite_inv h).1 c3
    refine r_bipush C dX12_unlike_32 bp_m2 ?_
    obtain ⟨h1, h2⟩ := Prod.mk.inj (Option.some.inj h)
    subst h1; subst h2
    exact r_iret C dX12_unlike_34 hr hE
  · have h := (ite_inv h).2 c3
    refine r_aload_n C dX12_unlike_14 0 rfl ?_
    refine r_iload_n C dX12_unlike_15 2 rfl ?_
    refine r_i2l C dX12_unlike_16 ?_
    obtain ⟨u5, e4, h⟩ := bnd_inv h
    refine r_cVi (As := [.long (x2.toInt64)]) (rest := []) C hR mlX12_244 dX12_unlike_17 (tX12_isBeach hY n (x2.toInt64)  e4) rfl rfl (ly139 hY) rfl (nle rfl) (nle rfl) (nle rfl) ?_
    refine r_if_eq 32 C dX12_unlike_20 (by decide) (fun c6 => ?_) (fun c6 => ?_)
    · have h := (ite_inv h).1 c6
      refine r_bipush C dX12_unlike_32 bp_m2 ?_
      obtain ⟨h1, h2⟩ := Prod.mk.inj (Option.some.inj h)
      subst h1; subst h2
      exact r_iret C dX12_unlike_34 hr hE
    · have h := (ite_inv h).2 c6
      refine r_aload_n C dX12_unlike_23 0 rfl ?_
      refine r_iload_n C dX12_unlike_24 1 rfl ?_
      refine r_iload_n C dX12_unlike_25 2 rfl ?_
      obtain ⟨u8, m9, e7, h⟩ := bnd2_inv h
      refine r_cVi (As := [.int x1, .int x2]) (rest := []) C hR mlX12_400 dX12_unlike_26 (tX12_unlikeOf hY n x1 x2  e7) rfl rfl (ly139 hY) rfl (nle rfl) (nle rfl) (nle rfl) ?_
      refine r_goto 34 C dX12_unlike_29 (by decide) ?_
      obtain ⟨h1, h2⟩ := Prod.mk.inj (Option.some.inj h)
      subst h1; subst h2
      exact r_iret C dX12_unlike_34 hr hE
