def fX11_numberOrSet (n : Nat) (x0 : Int32) (x1 : Int32) (μ : Mu) : Option (Int32) := if x0 = (-1) then (some (-1)) else (if x1 = 0 then (some (bitc x0)) else (some x0))
set_option maxRecDepth 100000 in
set_option maxHeartbeats 4000000 in
theorem tX11_numberOrSet {l : Launch} {w : WP} {sh : List Sh} {R : Rf} {μ : Mu} {r : Int32} (hY : LY sh R) (n : Nat) (x0 : Int32) (x1 : Int32)  (h : fX11_numberOrSet n x0 x1 μ = some r) : CM l w yX11_numberOrSet cX11_numberOrSet 2 (some .int) 1 0 0 sh R [.int x0, .int x1] μ (some (.int r)) sh R μ := by
  refine CM.of (plainFor_of_name pf_X11) (Nat.le_of_ble_eq_true rfl) fun Z C hr _ hR hw hl hE => ?_
  subst hw; subst hl
  have C : CX Z cX11_numberOrSet 2 RX11 := C
  show Wm Z (0, 0, sh, R) μ 0 [(0, .int x0), (1, .int x1)] []
  unfold fX11_numberOrSet at h
  refine r_iload_n C dX11_numberOrSet_0 0 rfl ?_
  refine r_iconst C dX11_numberOrSet_1 ic_m1 ?_
  refine r_icmp_ne 7 C dX11_numberOrSet_2 (by decide) (fun c1 => ?_) (fun c1 => ?_)
  · have h := (ite_inv h).2 c1
    refine r_iload_n C dX11_numberOrSet_7 1 rfl ?_
    refine r_if_ne 18 C dX11_numberOrSet_8 (by decide) (fun c2 => ?_) (fun c2 => ?_)
    · have h := (ite_inv h).2 c2
      refine r_iload_n C dX11_numberOrSet_18 0 rfl ?_
      have h := Option.some.inj h
      subst h
      exact r_iret C dX11_numberOrSet_19 hr hE
    · have h := (ite_inv h).1 c2
      refine r_iload_n C dX11_numberOrSet_11 0 rfl ?_
      refine r_cSi (As := [.int x0]) (rest := []) C hR mlX11_163 dX11_numberOrSet_12 (t_bitc hY) rfl rfl (nle rfl) (nle rfl) (nle rfl) ?_
      refine r_goto 19 C dX11_numberOrSet_15 (by decide) ?_
      have h := Option.some.inj h
      subst h
      exact r_iret C dX11_numberOrSet_19 hr hE
  · have h := (ite_inv h).1 c1
    refine r_iconst C dX11_numberOrSet_5 ic_m1 ?_
    have h := Option.some.inj h
    subst h
    exact r_iret C dX11_numberOrSet_6 hr hE
def fX11_shut (n : Nat) (x1 : Int32) (x2 : Int32) (x3 : Int32) (x4 : Int32) (μ : Mu) : Option (Int32 × Mu) := bnd (fX11_isBeach n x1 μ) fun u2 => if u2 = 0 then (some ((-2), μ)) else (bnd (fX11_isPerson n x2 μ) fun u5 => if u5 = 0 then (some ((-2), μ)) else (bnd (fX11_within n x4 0 1 μ) fun u8 => if u8 = 0 then (some ((-2), μ)) else (bnd (fX11_within n x3 0 48 μ) fun u11 => if u11 = 0 then (some ((-3), μ)) else (bnd (fX0_lookAhead n x3 μ) fun m14 => bnd2 (fX0_fewestToShut n x1 x2 x3 m14) fun u16 m17 => bnd (fX11_numberOrSet n u16 x4 m17) fun u19 => some (u19, m17)))))
set_option maxRecDepth 100000 in
set_option maxHeartbeats 4000000 in
theorem tX11_shut {l : Launch} {w : WP} {sh : List Sh} {R : Rf} {μ : Mu} {r : Int32} {μ' : Mu} (hY : LY sh R) (n : Nat) (x1 : Int32) (x2 : Int32) (x3 : Int32) (x4 : Int32)  (h : fX11_shut n x1 x2 x3 x4 μ = some (r, μ')) : CM l w yX11_shut cX11_shut 5 (some .int) 5 0 0 sh R [.ref (wb w + 0), .int x1, .int x2, .int x3, .int x4] μ (some (.int r)) sh R μ' := by
  refine CM.of (plainFor_of_name pf_X11) (Nat.le_of_ble_eq_true rfl) fun Z C hr _ hR hw hl hE => ?_
  subst hw; subst hl
  have C : CX Z cX11_shut 5 RX11 := C
  show Wm Z (0, 0, sh, R) μ 0 [(0, .ref (wb (zw Z) + 0)), (1, .int x1), (2, .int x2), (3, .int x3), (4, .int x4)] []
  unfold fX11_shut at h
  refine r_aload_n C dX11_shut_0 0 rfl ?_
  refine r_iload_n C dX11_shut_1 1 rfl ?_
  obtain ⟨u2, e1, h⟩ := bnd_inv h
  refine r_cVi (As := [.int x1]) (rest := []) C hR mlX11_194 dX11_shut_2 (tX11_isBeach hY n x1  e1) rfl rfl (ly0 hY) rfl (nle rfl) (nle rfl) (nle rfl) ?_
  refine r_if_eq 26 C dX11_shut_5 (by decide) (fun c3 => ?_) (fun c3 => ?_)
  · have h := (ite_inv h).1 c3
    refine r_bipush C dX11_shut_26 bp_m2 ?_
    obtain ⟨h1, h2⟩ := Prod.mk.inj (Option.some.inj h)
    subst h1; subst h2
    exact r_iret C dX11_shut_28 hr hE
  · have h := (ite_inv h).2 c3
    refine r_aload_n C dX11_shut_8 0 rfl ?_
    refine r_iload_n C dX11_shut_9 2 rfl ?_
    obtain ⟨u5, e4, h⟩ := bnd_inv h
    refine r_cVi (As := [.int x2]) (rest := []) C hR mlX11_146 dX11_shut_10 (tX11_isPerson hY n x2  e4) rfl rfl (ly0 hY) rfl (nle rfl) (nle rfl) (nle rfl) ?_
    refine r_if_eq 26 C dX11_shut_13 (by decide) (fun c6 => ?_) (fun c6 => ?_)
    · have h := (ite_inv h).1 c6
      refine r_bipush C dX11_shut_26 bp_m2 ?_
      obtain ⟨h1, h2⟩ := Prod.mk.inj (Option.some.inj h)
      subst h1; subst h2
      exact r_iret C dX11_shut_28 hr hE
    · have h := (ite_inv h).2 c6
      refine r_iload C dX11_shut_16 4 rfl ?_
      refine r_iconst C dX11_shut_18 ic_0 ?_
      refine r_iconst C dX11_shut_19 ic_1 ?_
      obtain ⟨u8, e7, h⟩ := bnd_inv h
      refine r_cSi (As := [.int x4, .int 0, .int 1]) (rest := []) C hR mlX11_197 dX11_shut_20 (tX11_within hY n x4 0 1  e7) rfl rfl (nle rfl) (nle rfl) (nle rfl) ?_
      refine r_if_ne 29 C dX11_shut_23 (by decide) (fun c9 => ?_) (fun c9 => ?_)
      · have h := (ite_inv h).2 c9
        refine r_iload_n C dX11_shut_29 3 rfl ?_
        refine r_iconst C dX11_shut_30 ic_0 ?_
        refine r_bipush C dX11_shut_31 bp_48 ?_
        obtain ⟨u11, e10, h⟩ := bnd_inv h
        refine r_cSi (As := [.int x3, .int 0, .int 48]) (rest := []) C hR mlX11_197 dX11_shut_33 (tX11_within hY n x3 0 48  e10) rfl rfl (nle rfl) (nle rfl) (nle rfl) ?_
        refine r_if_ne 42 C dX11_shut_36 (by decide) (fun c12 => ?_) (fun c12 => ?_)
        · have h := (ite_inv h).2 c12
          refine r_aload_n C dX11_shut_42 0 rfl ?_
          refine r_getR C flX11_68 dX11_shut_43 (ly0 hY) rfl (lr0_10 hY) ?_
          refine r_iload_n C dX11_shut_46 3 rfl ?_
          obtain ⟨m14, e13, h⟩ := bnd_inv h
          refine r_cVv (As := [.int x3]) (rest := []) C hR mlX11_262 dX11_shut_47 (tX0_lookAhead hY n x3  e13) rfl rfl (ly120 hY) rfl (nle rfl) (nle rfl) (nle rfl) ?_
          refine r_aload_n C dX11_shut_50 0 rfl ?_
          refine r_getR C flX11_68 dX11_shut_51 (ly0 hY) rfl (lr0_10 hY) ?_
          refine r_iload_n C dX11_shut_54 1 rfl ?_
          refine r_iload_n C dX11_shut_55 2 rfl ?_
          refine r_iload_n C dX11_shut_56 3 rfl ?_
          obtain ⟨u16, m17, e15, h⟩ := bnd2_inv h
          refine r_cVi (As := [.int x1, .int x2, .int x3]) (rest := []) C hR mlX11_284 dX11_shut_57 (tX0_fewestToShut hY n x1 x2 x3  e15) rfl rfl (ly120 hY) rfl (nle rfl) (nle rfl) (nle rfl) ?_
          refine r_iload C dX11_shut_60 4 rfl ?_
          obtain ⟨u19, e18, h⟩ := bnd_inv h
          refine r_cSi (As := [.int u16, .int x4]) (rest := []) C hR mlX11_288 dX11_shut_62 (tX11_numberOrSet hY n u16 x4  e18) rfl rfl (nle rfl) (nle rfl) (nle rfl) ?_
          obtain ⟨h1, h2⟩ := Prod.mk.inj (Option.some.inj h)
          subst h1; subst h2
          exact r_iret C dX11_shut_65 hr hE
        · have h := (ite_inv h).1 c12
          refine r_bipush C dX11_shut_39 bp_m3 ?_
          obtain ⟨h1, h2⟩ := Prod.mk.inj (Option.some.inj h)
          subst h1; subst h2
          exact r_iret C dX11_shut_41 hr hE
      · have h := (ite_inv h).1 c9
        refine r_bipush C dX11_shut_26 bp_m2 ?_
        obtain ⟨h1, h2⟩ := Prod.mk.inj (Option.some.inj h)
        subst h1; subst h2
        exact r_iret C dX11_shut_28 hr hE
def fX11_take (n : Nat) (x1 : Int32) (x2 : Int32) (x3 : Int32) (x4 : Int32) (μ : Mu) : Option (Int32 × Mu) := bnd (fX11_isBeach n x1 μ) fun u2 => if u2 = 0 then (some ((-2), μ)) else (bnd (fX11_isPerson n x2 μ) fun u5 => if u5 = 0 then (some ((-2), μ)) else (bnd (fX11_within n x4 0 1 μ) fun u8 => if u8 = 0 then (some ((-2), μ)) else (bnd (fX11_within n x3 0 48 μ) fun u11 => if u11 = 0 then (some ((-3), μ)) else (bnd (fX0_lookAhead n x3 μ) fun m14 => bnd (fX0_send n x1 0 0 m14) fun m16 => bnd (fX0_shellsToTake n x2 x3 m16) fun u18 => bnd (fX11_numberOrSet n u18 x4 m16) fun u20 => some (u20, m16)))))
set_option maxRecDepth 100000 in
set_option maxHeartbeats 4000000 in
theorem tX11_take {l : Launch} {w : WP} {sh : List Sh} {R : Rf} {μ : Mu} {r : Int32} {μ' : Mu} (hY : LY sh R) (n : Nat) (x1 : Int32) (x2 : Int32) (x3 : Int32) (x4 : Int32)  (h : fX11_take n x1 x2 x3 x4 μ = some (r, μ')) : CM l w yX11_take cX11_take 5 (some .int) 5 0 0 sh R [.ref (wb w + 0), .int x1, .int x2, .int x3, .int x4] μ (some (.int r)) sh R μ' := by
  refine CM.of (plainFor_of_name pf_X11) (Nat.le_of_ble_eq_true rfl) fun Z C hr _ hR hw hl hE => ?_
  subst hw; subst hl
  have C : CX Z cX11_take 5 RX11 := C
  show Wm Z (0, 0, sh, R) μ 0 [(0, .ref (wb (zw Z) + 0)), (1, .int x1), (2, .int x2), (3, .int x3), (4, .int x4)] []
  unfold fX11_take at h
  refine r_aload_n C dX11_take_0 0 rfl ?_
  refine r_iload_n C dX11_take_1 1 rfl ?_
  obtain ⟨u2, e1, h⟩ := bnd_inv h
  refine r_cVi (As := [.int x1]) (rest := []) C hR mlX11_194 dX11_take_2 (tX11_isBeach hY n x1  e1) rfl rfl (ly0 hY) rfl (nle rfl) (nle rfl) (nle rfl) ?_
  refine r_if_eq 26 C dX11_take_5 (by decide) (fun c3 => ?_) (fun c3 => ?_)
  · have h := (ite_inv h).1 c3
    refine r_bipush C dX11_take_26 bp_m2 ?_
    obtain ⟨h1, h2⟩ := Prod.mk.inj (Option.some.inj h)
    subst h1; subst h2
    exact r_iret C dX11_take_28 hr hE
  · have h := (ite_inv h).2 c3
    refine r_aload_n C dX11_take_8 0 rfl ?_
    refine r_iload_n C dX11_take_9 2 rfl ?_
    obtain ⟨u5, e4, h⟩ := bnd_inv h
    refine r_cVi (As := [.int x2]) (rest := []) C hR mlX11_146 dX11_take_10 (tX11_isPerson hY n x2  e4) rfl rfl (ly0 hY) rfl (nle rfl) (nle rfl) (nle rfl) ?_
    refine r_if_eq 26 C dX11_take_13 (by decide) (fun c6 => ?_) (fun c6 => ?_)
    · have h := (ite_inv h).1 c6
      refine r_bipush C dX11_take_26 bp_m2 ?_
      obtain ⟨h1, h2⟩ := Prod.mk.inj (Option.some.inj h)
      subst h1; subst h2
      exact r_iret C dX11_take_28 hr hE
    · have h := (ite_inv h).2 c6
      refine r_iload C dX11_take_16 4 rfl ?_
      refine r_iconst C dX11_take_18 ic_0 ?_
      refine r_iconst C dX11_take_19 ic_1 ?_
      obtain ⟨u8, e7, h⟩ := bnd_inv h
      refine r_cSi (As := [.int x4, .int 0, .int 1]) (rest := []) C hR mlX11_197 dX11_take_20 (tX11_within hY n x4 0 1  e7) rfl rfl (nle rfl) (nle rfl) (nle rfl) ?_
      refine r_if_ne 29 C dX11_take_23 (by decide) (fun c9 => ?_) (fun c9 => ?_)
      · have h := (ite_inv h).2 c9
        refine r_iload_n C dX11_take_29 3 rfl ?_
        refine r_iconst C dX11_take_30 ic_0 ?_
        refine r_bipush C dX11_take_31 bp_48 ?_
        obtain ⟨u11, e10, h⟩ := bnd_inv h
        refine r_cSi (As := [.int x3, .int 0, .int 48]) (rest := []) C hR mlX11_197 dX11_take_33 (tX11_within hY n x3 0 48  e10) rfl rfl (nle rfl) (nle rfl) (nle rfl) ?_
        refine r_if_ne 42 C dX11_take_36 (by decide) (fun c12 => ?_) (fun c12 => ?_)
        · have h := (ite_inv h).2 c12
          refine r_aload_n C dX11_take_42 0 rfl ?_
          refine r_getR C flX11_68 dX11_take_43 (ly0 hY) rfl (lr0_10 hY) ?_
          refine r_iload_n C dX11_take_46 3 rfl ?_
          obtain ⟨m14, e13, h⟩ := bnd_inv h
          refine r_cVv (As := [.int x3]) (rest := []) C hR mlX11_262 dX11_take_47 (tX0_lookAhead hY n x3  e13) rfl rfl (ly120 hY) rfl (nle rfl) (nle rfl) (nle rfl) ?_
          refine r_aload_n C dX11_take_50 0 rfl ?_
          refine r_getR C flX11_68 dX11_take_51 (ly0 hY) rfl (lr0_10 hY) ?_
          refine r_iload_n C dX11_take_54 1 rfl ?_
          refine r_iconst C dX11_take_55 ic_0 ?_
          refine r_iconst C dX11_take_56 ic_0 ?_
          obtain ⟨m16, e15, h⟩ := bnd_inv h
          refine r_cVv (As := [.int x1, .int 0, .int 0]) (rest := []) C hR mlX11_265 dX11_take_57 (tX0_send hY n x1 0 0  e15) rfl rfl (ly120 hY) rfl (nle rfl) (nle rfl) (nle rfl) ?_
          refine r_aload_n C dX11_take_60 0 rfl ?_
          refine r_getR C flX11_68 dX11_take_61 (ly0 hY) rfl (lr0_10 hY) ?_
          refine r_iload_n C dX11_take_64 2 rfl ?_
          refine r_iload_n C dX11_take_65 3 rfl ?_
          obtain ⟨u18, e17, h⟩ := bnd_inv h
          refine r_cVi (As := [.int x2, .int x3]) (rest := []) C hR mlX11_291 dX11_take_66 (tX0_shellsToTake hY n x2 x3  e17) rfl rfl (ly120 hY) rfl (nle rfl) (nle rfl) (nle rfl) ?_
          refine r_iload C dX11_take_69 4 rfl ?_
          obtain ⟨u20, e19, h⟩ := bnd_inv h
          refine r_cSi (As := [.int u18, .int x4]) (rest := []) C hR mlX11_288 dX11_take_71 (tX11_numberOrSet hY n u18 x4  e19) rfl rfl (nle rfl) (nle rfl) (nle rfl) ?_
          obtain ⟨h1, h2⟩ := Prod.mk.inj (Option.some.inj h)
          subst h1; subst h2
          exact r_iret C dX11_take_74 hr hE
        · have h := (ite_inv h).1 c12
          refine r_bipush C dX11_take_39 bp_m3 ?_
          obtain ⟨h1, h2⟩ := Prod.mk.inj (Option.some.inj h)
          subst h1; subst h2
          exact r_iret C dX11_take_41 hr hE
      · have h := (ite_inv h).1 c9
        refine r_bipush C dX11_take_26 bp_m2 ?_
        obtain ⟨h1, h2⟩ := Prod.mk.inj (Option.some.inj h)
        subst h1; subst h2
        exact r_iret C dX11_take_28 hr hE
def sX11_needs_60 (n : Nat) (x1 : Int32) (x2 : Int32) (x3 : Int32) : Int32 × Int32 × Mu → Option ((Int32 × Int32 × Mu) ⊕ (Int32 × Mu)) := fun q => match q with | (x4, x5, μ) => if (rI μ 2 1) ≤ x5 then (some (.inr (x4, μ))) else (bnd (fX0_send n x1 0 (shl 1 x5) μ) fun m15 => bnd (fX0_hearersBy n x2 m15) fun u17 => if x3 ≤ (bitc u17) then (some (.inl (x4, x5 + 1, m15))) else (some (.inl (x4 ||| (shl 1 x5), x5 + 1, m15))))
set_option maxRecDepth 100000 in
set_option maxHeartbeats 4000000 in
theorem lX11_needs_60 {Z : ZC} {sh : List Sh} {R : Rf} {o : (Int32 × Int32 × Mu) ⊕ (Int32 × Mu)} (C : CX Z cX11_needs 6 RX11) (hR : zR Z = rm 5 0 0) (hY : LY sh R) (n : Nat) (x1 : Int32) (x2 : Int32) (x3 : Int32) (x4 : Int32) (x5 : Int32) (μ : Mu) (h : sX11_needs_60 n x1 x2 x3 (x4, x5, μ) = some o) (kin : ∀ (x4 : Int32) (x5 : Int32) (μ : Mu), o = .inl (x4, x5, μ) → Wm Z (0, 0, sh, R) μ 60 [(0, .ref (wb (zw Z) + 0)), (1, .int x1), (2, .int x2), (3, .int x3), (4, .int x4), (5, .int x5)] []) (kex0 : ∀ (x4 : Int32) (μ : Mu), o = .inr (x4, μ) → Wm Z (0, 0, sh, R) μ 115 [(4, .int x4)] []) : Wm Z (0, 0, sh, R) μ 60 [(0, .ref (wb (zw Z) + 0)), (1, .int x1), (2, .int x2), (3, .int x3), (4, .int x4), (5, .int x5)] [] := by
  unfold sX11_needs_60 at h
  refine r_iload C dX11_needs_60 5 rfl ?_
  refine r_aload_n C dX11_needs_62 0 rfl ?_
  refine r_getR C flX11_26 dX11_needs_63 (ly0 hY) rfl (lr0_4 hY) ?_
  refine r_getI C flX11_124 dX11_needs_66 (isSea_0 (lySea hY)) rfl ?_
  refine r_icmp_ge 115 C dX11_needs_69 (by decide) (fun c13 => ?_) (fun c13 => ?_)
  · have h := (ite_inv h).1 c13
    refine r_sub [(4, .int x4)] [4] rfl ?_
    exact kex0 x4 μ (Option.some.inj h).symm
  · have h := (ite_inv h).2 c13
    refine r_aload_n C dX11_needs_72 0 rfl ?_
    refine r_getR C flX11_68 dX11_needs_73 (ly0 hY) rfl (lr0_10 hY) ?_
    refine r_iload_n C dX11_needs_76 1 rfl ?_
    refine r_iconst C dX11_needs_77 ic_0 ?_
    refine r_iconst C dX11_needs_78 ic_1 ?_
    refine r_iload C dX11_needs_79 5 rfl ?_
    refine r_ishl C dX11_needs_81 ?_
    obtain ⟨m15, e14, h⟩ := bnd_inv h
    refine r_cVv (As := [.int x1, .int 0, .int (shl 1 x5)]) (rest := []) C hR mlX11_265 dX11_needs_82 (tX0_send hY n x1 0 (shl 1 x5)  e14) rfl rfl (ly120 hY) rfl (nle rfl) (nle rfl) (nle rfl) ?_
    refine r_aload_n C dX11_needs_85 0 rfl ?_
    refine r_getR C flX11_68 dX11_needs_86 (ly0 hY) rfl (lr0_10 hY) ?_
    refine r_iload_n C dX11_needs_89 2 rfl ?_
    obtain ⟨u17, e16, h⟩ := bnd_inv h
    refine r_cVi (As := [.int x2]) (rest := []) C hR mlX11_269 dX11_needs_90 (tX0_hearersBy hY n x2  e16) rfl rfl (ly120 hY) rfl (nle rfl) (nle rfl) (nle rfl) ?_
    refine r_cSi (As := [.int u17]) (rest := []) C hR mlX11_163 dX11_needs_93 (t_bitc hY) rfl rfl (nle rfl) (nle rfl) (nle rfl) ?_
    refine r_iload_n C dX11_needs_96 3 rfl ?_
    refine r_icmp_ge 109 C dX11_needs_97 (by decide) (fun c18 => ?_) (fun c18 => ?_)
    · have h := (ite_inv h).1 c18
      refine r_iinc [(5, .int (x5 + 1)), (0, .ref (wb (zw Z) + 0)), (1, .int x1), (2, .int x2), (3, .int x3), (4, .int x4)] C dX11_needs_109 5 rfl (in_1 _) (by decide) rfl ?_
      refine r_goto 60 C dX11_needs_112 (by decide) ?_
      refine r_sub [(0, .ref (wb (zw Z) + 0)), (1, .int x1), (2, .int x2), (3, .int x3), (4, .int x4), (5, .int (x5 + 1))] [1, 2, 3, 4, 5, 0] rfl ?_
      exact kin x4 (x5 + 1) m15 (Option.some.inj h).symm
    · have h := (ite_inv h).2 c18
      refine r_iload C dX11_needs_100 4 rfl ?_
      refine r_iconst C dX11_needs_102 ic_1 ?_
      refine r_iload C dX11_needs_103 5 rfl ?_
      refine r_ishl C dX11_needs_105 ?_
      refine r_ior C dX11_needs_106 ?_
      refine r_istore [(4, .int (x4 ||| (shl 1 x5))), (0, .ref (wb (zw Z) + 0)), (1, .int x1), (2, .int x2), (3, .int x3), (5, .int x5)] C dX11_needs_107 (by decide) rfl ?_
      refine r_iinc [(5, .int (x5 + 1)), (4, .int (x4 ||| (shl 1 x5))), (0, .ref (wb (zw Z) + 0)), (1, .int x1), (2, .int x2), (3, .int x3)] C dX11_needs_109 5 rfl (in_1 _) (by decide) rfl ?_
      refine r_goto 60 C dX11_needs_112 (by decide) ?_
      refine r_sub [(0, .ref (wb (zw Z) + 0)), (1, .int x1), (2, .int x2), (3, .int x3), (4, .int (x4 ||| (shl 1 x5))), (5, .int (x5 + 1))] [2, 3, 4, 5, 1, 0] rfl ?_
      exact kin (x4 ||| (shl 1 x5)) (x5 + 1) m15 (Option.some.inj h).symm
def fX11_needs (n : Nat) (x1 : Int32) (x2 : Int32) (μ : Mu) : Option (Int32 × Mu) := bnd (fX11_isBeach n x1 μ) fun u2 => if u2 = 0 then (some ((-2), μ)) else (bnd (fX11_within n x2 0 48 μ) fun u5 => if u5 = 0 then (some ((-3), μ)) else (bnd (fX0_lookAhead n x2 μ) fun m8 => bnd (fX0_send n x1 0 0 m8) fun m10 => bnd (fX0_hearersBy n x2 m10) fun u12 => bnd (lp n (sX11_needs_60 n x1 x2 (bitc u12)) (0, 0, m10)) fun q => match q with | (u19, m20) => some (u19, m20)))
set_option maxRecDepth 100000 in
set_option maxHeartbeats 4000000 in
theorem tX11_needs {l : Launch} {w : WP} {sh : List Sh} {R : Rf} {μ : Mu} {r : Int32} {μ' : Mu} (hY : LY sh R) (n : Nat) (x1 : Int32) (x2 : Int32)  (h : fX11_needs n x1 x2 μ = some (r, μ')) : CM l w yX11_needs cX11_needs 6 (some .int) 5 0 0 sh R [.ref (wb w + 0), .int x1, .int x2] μ (some (.int r)) sh R μ' := by
  refine CM.of (plainFor_of_name pf_X11) (Nat.le_of_ble_eq_true rfl) fun Z C hr _ hR hw hl hE => ?_
  subst hw; subst hl
  have C : CX Z cX11_needs 6 RX11 := C
  show Wm Z (0, 0, sh, R) μ 0 [(0, .ref (wb (zw Z) + 0)), (1, .int x1), (2, .int x2)] []
  unfold fX11_needs at h
  refine r_aload_n C dX11_needs_0 0 rfl ?_
  refine r_iload_n C dX11_needs_1 1 rfl ?_
  obtain ⟨u2, e1, h⟩ := bnd_inv h
  refine r_cVi (As := [.int x1]) (rest := []) C hR mlX11_194 dX11_needs_2 (tX11_isBeach hY n x1  e1) rfl rfl (ly0 hY) rfl (nle rfl) (nle rfl) (nle rfl) ?_
  refine r_if_ne 11 C dX11_needs_5 (by decide) (fun c3 => ?_) (fun c3 => ?_)
  · have h := (ite_inv h).2 c3
    refine r_iload_n C dX11_needs_11 2 rfl ?_
    refine r_iconst C dX11_needs_12 ic_0 ?_
    refine r_bipush C dX11_needs_13 bp_48 ?_
    obtain ⟨u5, e4, h⟩ := bnd_inv h
    refine r_cSi (As := [.int x2, .int 0, .int 48]) (rest := []) C hR mlX11_197 dX11_needs_15 (tX11_within hY n x2 0 48  e4) rfl rfl (nle rfl) (nle rfl) (nle rfl) ?_
    refine r_if_ne 24 C dX11_needs_18 (by decide) (fun c6 => ?_) (fun c6 => ?_)
    · have h := (ite_inv h).2 c6
      refine r_aload_n C dX11_needs_24 0 rfl ?_
      refine r_getR C flX11_68 dX11_needs_25 (ly0 hY) rfl (lr0_10 hY) ?_
      refine r_iload_n C dX11_needs_28 2 rfl ?_
      obtain ⟨m8, e7, h⟩ := bnd_inv h
      refine r_cVv (As := [.int x2]) (rest := []) C hR mlX11_262 dX11_needs_29 (tX0_lookAhead hY n x2  e7) rfl rfl (ly120 hY) rfl (nle rfl) (nle rfl) (nle rfl) ?_
      refine r_aload_n C dX11_needs_32 0 rfl ?_
      refine r_getR C flX11_68 dX11_needs_33 (ly0 hY) rfl (lr0_10 hY) ?_
      refine r_iload_n C dX11_needs_36 1 rfl ?_
      refine r_iconst C dX11_needs_37 ic_0 ?_
      refine r_iconst C dX11_needs_38 ic_0 ?_
      obtain ⟨m10, e9, h⟩ := bnd_inv h
      refine r_cVv (As := [.int x1, .int 0, .int 0]) (rest := []) C hR mlX11_265 dX11_needs_39 (tX0_send hY n x1 0 0  e9) rfl rfl (ly120 hY) rfl (nle rfl) (nle rfl) (nle rfl) ?_
      refine r_aload_n C dX11_needs_42 0 rfl ?_
      refine r_getR C flX11_68 dX11_needs_43 (ly0 hY) rfl (lr0_10 hY) ?_
      refine r_iload_n C dX11_needs_46 2 rfl ?_
      obtain ⟨u12, e11, h⟩ := bnd_inv h
      refine r_cVi (As := [.int x2]) (rest := []) C hR mlX11_269 dX11_needs_47 (tX0_hearersBy hY n x2  e11) rfl rfl (ly120 hY) rfl (nle rfl) (nle rfl) (nle rfl) ?_
      refine r_cSi (As := [.int u12]) (rest := []) C hR mlX11_163 dX11_needs_50 (t_bitc hY) rfl rfl (nle rfl) (nle rfl) (nle rfl) ?_
      refine r_istore_n [(3, .int (bitc u12)), (0, .ref (wb (zw Z) + 0)), (1, .int x1), (2, .int x2)] C dX11_needs_53 rfl (by decide) rfl ?_
      refine r_iconst C dX11_needs_54 ic_0 ?_
      refine r_istore [(4, .int 0), (3, .int (bitc u12)), (0, .ref (wb (zw Z) + 0)), (1, .int x1), (2, .int x2)] C dX11_needs_55 (by decide) rfl ?_
      refine r_iconst C dX11_needs_57 ic_0 ?_
      refine r_istore [(5, .int 0), (4, .int 0), (3, .int (bitc u12)), (0, .ref (wb (zw Z) + 0)), (1, .int x1), (2, .int x2)] C dX11_needs_58 (by decide) rfl ?_
      refine r_sub [(0, .ref (wb (zw Z) + 0)), (1, .int x1), (2, .int x2), (3, .int (bitc u12)), (4, .int 0), (5, .int 0)] [3, 4, 5, 2, 1, 0] rfl ?_
      obtain ⟨⟨u19, m20⟩, e21, h⟩ := bnd_inv h
      refine lp_all (sX11_needs_60 n x1 x2 (bitc u12)) (fun q => match q with | (z4, z5, ν) => Wm Z (0, 0, sh, R) (ν) 60 [(0, .ref (wb (zw Z) + 0)), (1, .int x1), (2, .int x2), (3, .int (bitc u12)), (4, .int z4), (5, .int z5)] []) (fun q => match q with | (z4, ν) => Wm Z (0, 0, sh, R) (ν) 115 [(4, .int z4)] []) (fun q o h kin kex => ?_) n (0, 0, m10) (u19, m20) e21 ?_
      · obtain ⟨z4, z5, ν⟩ := q; exact lX11_needs_60 C hR hY n   x1 x2 (bitc u12) z4 z5 ν h (fun z4 z5 ν e => kin (z4, z5, ν) e) (fun z4 ν e => kex (z4, ν) e)
      show Wm Z (0, 0, sh, R) m20 115 [(4, .int u19)] []
      refine r_iload C dX11_needs_115 0 rfl ?_
      obtain ⟨h1, h2⟩ := Prod.mk.inj (Option.some.inj h)
      subst h1; subst h2
      exact r_iret C dX11_needs_117 hr hE
    · have h := (ite_inv h).1 c6
      refine r_bipush C dX11_needs_21 bp_m3 ?_
      obtain ⟨h1, h2⟩ := Prod.mk.inj (Option.some.inj h)
      subst h1; subst h2
      exact r_iret C dX11_needs_23 hr hE
  · have h := (ite_inv h).1 c3
    refine r_bipush C dX11_needs_8 bp_m2 ?_
    obtain ⟨h1, h2⟩ := Prod.mk.inj (Option.some.inj h)
    subst h1; subst h2
    exact r_iret C dX11_needs_10 hr hE
def sX11_findReached_10 (n : Nat) (x1 : Int32) : Int32 × Mu → Option ((Int32 × Mu) ⊕ (Mu)) := fun q => match q with | (x2, μ) => if (rI μ 2 0) ≤ x2 then (some (.inr μ)) else (bnd (fX0_send n x2 0 0 μ) fun m5 => bnd (fX0_beachesBy n x1 m5) fun u7 => gd (ib x2 6) (some (.inl (x2 + 1, wI m5 138 (ix x2) u7))))
set_option maxRecDepth 100000 in
set_option maxHeartbeats 4000000 in
theorem lX11_findReached_10 {Z : ZC} {sh : List Sh} {R : Rf} {o : (Int32 × Mu) ⊕ (Mu)} (C : CX Z cX11_findReached 3 RX11) (hR : zR Z = rm 5 0 0) (hY : LY sh R) (n : Nat) (x1 : Int32) (x2 : Int32) (μ : Mu) (h : sX11_findReached_10 n x1 (x2, μ) = some o) (kin : ∀ (x2 : Int32) (μ : Mu), o = .inl (x2, μ) → Wm Z (0, 0, sh, R) μ 10 [(0, .ref (wb (zw Z) + 0)), (1, .int x1), (2, .int x2)] []) (kex0 : ∀ (μ : Mu), o = .inr μ → Wm Z (0, 0, sh, R) μ 51 [] []) : Wm Z (0, 0, sh, R) μ 10 [(0, .ref (wb (zw Z) + 0)), (1, .int x1), (2, .int x2)] [] := by
  unfold sX11_findReached_10 at h
  refine r_iload_n C dX11_findReached_10 2 rfl ?_
  refine r_aload_n C dX11_findReached_11 0 rfl ?_
  refine r_getR C flX11_26 dX11_findReached_12 (ly0 hY) rfl (lr0_4 hY) ?_
  refine r_getI C flX11_281 dX11_findReached_15 (isSea_0 (lySea hY)) rfl ?_
  refine r_icmp_ge 51 C dX11_findReached_18 (by decide) (fun c3 => ?_) (fun c3 => ?_)
  · have h := (ite_inv h).1 c3
    refine r_sub [] [] rfl ?_
    exact kex0 μ (Option.some.inj h).symm
  · have h := (ite_inv h).2 c3
    refine r_aload_n C dX11_findReached_21 0 rfl ?_
    refine r_getR C flX11_68 dX11_findReached_22 (ly0 hY) rfl (lr0_10 hY) ?_
    refine r_iload_n C dX11_findReached_25 2 rfl ?_
    refine r_iconst C dX11_findReached_26 ic_0 ?_
    refine r_iconst C dX11_findReached_27 ic_0 ?_
    obtain ⟨m5, e4, h⟩ := bnd_inv h
    refine r_cVv (As := [.int x2, .int 0, .int 0]) (rest := []) C hR mlX11_265 dX11_findReached_28 (tX0_send hY n x2 0 0  e4) rfl rfl (ly120 hY) rfl (nle rfl) (nle rfl) (nle rfl) ?_
    refine r_aload_n C dX11_findReached_31 0 rfl ?_
    refine r_getR C flX11_92 dX11_findReached_32 (ly0 hY) rfl (lr0_14 hY) ?_
    refine r_iload_n C dX11_findReached_35 2 rfl ?_
    refine r_aload_n C dX11_findReached_36 0 rfl ?_
    refine r_getR C flX11_68 dX11_findReached_37 (ly0 hY) rfl (lr0_10 hY) ?_
    refine r_iload_n C dX11_findReached_40 1 rfl ?_
    obtain ⟨u7, e6, h⟩ := bnd_inv h
    refine r_cVi (As := [.int x1]) (rest := [.int x2, .ref (wb (zw Z) + 138)]) C hR mlX11_363 dX11_findReached_41 (tX0_beachesBy hY n x1  e6) rfl rfl (ly120 hY) rfl (nle rfl) (nle rfl) (nle rfl) ?_
    obtain ⟨b8, h⟩ := gd_inv h
    refine r_iast C dX11_findReached_44 (ly138 hY) b8 ?_
    refine r_iinc [(2, .int (x2 + 1)), (0, .ref (wb (zw Z) + 0)), (1, .int x1)] C dX11_findReached_45 2 rfl (in_1 _) (by decide) rfl ?_
    refine r_goto 10 C dX11_findReached_48 (by decide) ?_
    refine r_sub [(0, .ref (wb (zw Z) + 0)), (1, .int x1), (2, .int (x2 + 1))] [1, 2, 0] rfl ?_
    exact kin (x2 + 1) (wI m5 138 (ix x2) u7) (Option.some.inj h).symm
def fX11_findReached (n : Nat) (x1 : Int32) (μ : Mu) : Option (Mu) := bnd (fX0_lookAhead n x1 μ) fun m2 => bnd (lp n (sX11_findReached_10 n x1) (0, m2)) fun q => match q with | m9 => some m9
set_option maxRecDepth 100000 in
set_option maxHeartbeats 4000000 in
theorem tX11_findReached {l : Launch} {w : WP} {sh : List Sh} {R : Rf} {μ : Mu} {μ' : Mu} (hY : LY sh R) (n : Nat) (x1 : Int32)  (h : fX11_findReached n x1 μ = some μ') : CM l w yX11_findReached cX11_findReached 3 none 5 0 0 sh R [.ref (wb w + 0), .int x1] μ none sh R μ' := by
  refine CM.of (plainFor_of_name pf_X11) (Nat.le_of_ble_eq_true rfl) fun Z C hr _ hR hw hl hE => ?_
  subst hw; subst hl
  have C : CX Z cX11_findReached 3 RX11 := C
  show Wm Z (0, 0, sh, R) μ 0 [(0, .ref (wb (zw Z) + 0)), (1, .int x1)] []
  unfold fX11_findReached at h
  refine r_aload_n C dX11_findReached_0 0 rfl ?_
  refine r_getR C flX11_68 dX11_findReached_1 (ly0 hY) rfl (lr0_10 hY) ?_
  refine r_iload_n C dX11_findReached_4 1 rfl ?_
  obtain ⟨m2, e1, h⟩ := bnd_inv h
  refine r_cVv (As := [.int x1]) (rest := []) C hR mlX11_262 dX11_findReached_5 (tX0_lookAhead hY n x1  e1) rfl rfl (ly120 hY) rfl (nle rfl) (nle rfl) (nle rfl) ?_
  refine r_iconst C dX11_findReached_8 ic_0 ?_
  refine r_istore_n [(2, .int 0), (0, .ref (wb (zw Z) + 0)), (1, .int x1)] C dX11_findReached_9 rfl (by decide) rfl ?_
  refine r_sub [(0, .ref (wb (zw Z) + 0)), (1, .int x1), (2, .int 0)] [1, 2, 0] rfl ?_
  obtain ⟨m9, e10, h⟩ := bnd_inv h
  refine lp_all (sX11_findReached_10 n x1) (fun q => match q with | (z2, ν) => Wm Z (0, 0, sh, R) (ν) 10 [(0, .ref (wb (zw Z) + 0)), (1, .int x1), (2, .int z2)] []) (fun q => match q with | ν => Wm Z (0, 0, sh, R) (ν) 51 [] []) (fun q o h kin kex => ?_) n (0, m2) m9 e10 ?_
  · obtain ⟨z2, ν⟩ := q; exact lX11_findReached_10 C hR hY n   x1 z2 ν h (fun z2 ν e => kin (z2, ν) e) (fun ν e => kex (ν) e)
  show Wm Z (0, 0, sh, R) m9 51 [] []
  have h := Option.some.inj h
  subst h
  exact r_vret C dX11_findReached_51 hr hE
def sX11_watchedBy_4 (n : Nat) (x1 : Int32) (μ : Mu) : Int32 × Int32 → Option ((Int32 × Int32) ⊕ (Int32)) := fun q => match q with | (x2, x3) => if (rI μ 2 0) ≤ x3 then (some (.inr x2)) else (gd (ib x3 6) (if ((rI μ 138 (ix x3)) &&& x1) = 0 then (some (.inl (x2, x3 + 1))) else (some (.inl (x2 + 1, x3 + 1)))))
set_option maxRecDepth 100000 in
set_option maxHeartbeats 4000000 in
theorem lX11_watchedBy_4 {Z : ZC} {sh : List Sh} {R : Rf} {o : (Int32 × Int32) ⊕ (Int32)} (C : CX Z cX11_watchedBy 4 RX11) (hR : zR Z = rm 0 0 0) (hY : LY sh R) (n : Nat) (x1 : Int32) (μ : Mu) (x2 : Int32) (x3 : Int32) (h : sX11_watchedBy_4 n x1 μ (x2, x3) = some o) (kin : ∀ (x2 : Int32) (x3 : Int32), o = .inl (x2, x3) → Wm Z (0, 0, sh, R) μ 4 [(0, .ref (wb (zw Z) + 0)), (1, .int x1), (2, .int x2), (3, .int x3)] []) (kex0 : ∀ (x2 : Int32), o = .inr x2 → Wm Z (0, 0, sh, R) μ 35 [(2, .int x2)] []) : Wm Z (0, 0, sh, R) μ 4 [(0, .ref (wb (zw Z) + 0)), (1, .int x1), (2, .int x2), (3, .int x3)] [] := by
  unfold sX11_watchedBy_4 at h
  refine r_iload_n C dX11_watchedBy_4 3 rfl ?_
  refine r_aload_n C dX11_watchedBy_5 0 rfl ?_
  refine r_getR C flX11_26 dX11_watchedBy_6 (ly0 hY) rfl (lr0_4 hY) ?_
  refine r_getI C flX11_281 dX11_watchedBy_9 (isSea_0 (lySea hY)) rfl ?_
  refine r_icmp_ge 35 C dX11_watchedBy_12 (by decide) (fun c1 => ?_) (fun c1 => ?_)
  · have h := (ite_inv h).1 c1
    refine r_sub [(2, .int x2)] [2] rfl ?_
    exact kex0 x2 (Option.some.inj h).symm
  · have h := (ite_inv h).2 c1
    refine r_aload_n C dX11_watchedBy_15 0 rfl ?_
    refine r_getR C flX11_92 dX11_watchedBy_16 (ly0 hY) rfl (lr0_14 hY) ?_
    refine r_iload_n C dX11_watchedBy_19 3 rfl ?_
    obtain ⟨b2, h⟩ := gd_inv h
    refine r_iald C dX11_watchedBy_20 (ly138 hY) b2 ?_
    refine r_iload_n C dX11_watchedBy_21 1 rfl ?_
    refine r_iand C dX11_watchedBy_22 ?_
    refine r_if_eq 29 C dX11_watchedBy_23 (by decide) (fun c3 => ?_) (fun c3 => ?_)
    · have h := (ite_inv h).1 c3
      refine r_iinc [(3, .int (x3 + 1)), (0, .ref (wb (zw Z) + 0)), (1, .int x1), (2, .int x2)] C dX11_watchedBy_29 3 rfl (in_1 _) (by decide) rfl ?_
      refine r_goto 4 C dX11_watchedBy_32 (by decide) ?_
      refine r_sub [(0, .ref (wb (zw Z) + 0)), (1, .int x1), (2, .int x2), (3, .int (x3 + 1))] [1, 2, 3, 0] rfl ?_
      exact kin x2 (x3 + 1) (Option.some.inj h).symm
    · have h := (ite_inv h).2 c3
      refine r_iinc [(2, .int (x2 + 1)), (0, .ref (wb (zw Z) + 0)), (1, .int x1), (3, .int x3)] C dX11_watchedBy_26 2 rfl (in_1 _) (by decide) rfl ?_
      refine r_iinc [(3, .int (x3 + 1)), (2, .int (x2 + 1)), (0, .ref (wb (zw Z) + 0)), (1, .int x1)] C dX11_watchedBy_29 3 rfl (in_1 _) (by decide) rfl ?_
      refine r_goto 4 C dX11_watchedBy_32 (by decide) ?_
      refine r_sub [(0, .ref (wb (zw Z) + 0)), (1, .int x1), (2, .int (x2 + 1)), (3, .int (x3 + 1))] [2, 3, 1, 0] rfl ?_
      exact kin (x2 + 1) (x3 + 1) (Option.some.inj h).symm
def fX11_watchedBy (n : Nat) (x1 : Int32) (μ : Mu) : Option (Int32) := bnd (lp n (sX11_watchedBy_4 n x1 μ) (0, 0)) fun q => match q with | u4 => some u4
set_option maxRecDepth 100000 in
set_option maxHeartbeats 4000000 in
theorem tX11_watchedBy {l : Launch} {w : WP} {sh : List Sh} {R : Rf} {μ : Mu} {r : Int32} (hY : LY sh R) (n : Nat) (x1 : Int32)  (h : fX11_watchedBy n x1 μ = some r) : CM l w yX11_watchedBy cX11_watchedBy 4 (some .int) 0 0 0 sh R [.ref (wb w + 0), .int x1] μ (some (.int r)) sh R μ := by
  refine CM.of (plainFor_of_name pf_X11) (Nat.le_of_ble_eq_true rfl) fun Z C hr _ hR hw hl hE => ?_
  subst hw; subst hl
  have C : CX Z cX11_watchedBy 4 RX11 := C
  show Wm Z (0, 0, sh, R) μ 0 [(0, .ref (wb (zw Z) + 0)), (1, .int x1)] []
  unfold fX11_watchedBy at h
  refine r_iconst C dX11_watchedBy_0 ic_0 ?_
  refine r_istore_n [(2, .int 0), (0, .ref (wb (zw Z) + 0)), (1, .int x1)] C dX11_watchedBy_1 rfl (by decide) rfl ?_
  refine r_iconst C dX11_watchedBy_2 ic_0 ?_
  refine r_istore_n [(3, .int 0), (2, .int 0), (0, .ref (wb (zw Z) + 0)), (1, .int x1)] C dX11_watchedBy_3 rfl (by decide) rfl ?_
  refine r_sub [(0, .ref (wb (zw Z) + 0)), (1, .int x1), (2, .int 0), (3, .int 0)] [2, 3, 1, 0] rfl ?_
  obtain ⟨u4, e5, h⟩ := bnd_inv h
  refine lp_all (sX11_watchedBy_4 n x1 μ) (fun q => match q with | (z2, z3) => Wm Z (0, 0, sh, R) μ 4 [(0, .ref (wb (zw Z) + 0)), (1, .int x1), (2, .int z2), (3, .int z3)] []) (fun q => match q with | z2 => Wm Z (0, 0, sh, R) μ 35 [(2, .int z2)] []) (fun q o h kin kex => ?_) n (0, 0) u4 e5 ?_
  · obtain ⟨z2, z3⟩ := q; exact lX11_watchedBy_4 C hR hY n   x1 μ z2 z3 h (fun z2 z3 e => kin (z2, z3) e) (fun z2 e => kex z2 e)
  show Wm Z (0, 0, sh, R) μ 35 [(2, .int u4)] []
  refine r_iload_n C dX11_watchedBy_35 0 rfl ?_
  have h := Option.some.inj h
  subst h
  exact r_iret C dX11_watchedBy_36 hr hE
def sX11_bestSpies_7 (n : Nat) (x1 : Int32) (μ : Mu) : Int32 × Int32 × Int32 → Option ((Int32 × Int32 × Int32) ⊕ (Int32)) := fun q => match q with | (x2, x3, x4) => if (shl 1 (rI μ 2 0)) ≤ x4 then (some (.inr x2)) else (if (bitc x4) = x1 then (bnd (fX11_watchedBy n x4 μ) fun u4 => if u4 ≤ x3 then (some (.inl (x2, x3, x4 + 1))) else (bnd (fX11_watchedBy n x4 μ) fun u7 => some (.inl (x4, u7, x4 + 1)))) else (some (.inl (x2, x3, x4 + 1))))
set_option maxRecDepth 100000 in
set_option maxHeartbeats 4000000 in
theorem lX11_bestSpies_7 {Z : ZC} {sh : List Sh} {R : Rf} {o : (Int32 × Int32 × Int32) ⊕ (Int32)} (C : CX Z cX11_bestSpies 5 RX11) (hR : zR Z = rm 1 0 0) (hY : LY sh R) (n : Nat) (x1 : Int32) (μ : Mu) (x2 : Int32) (x3 : Int32) (x4 : Int32) (h : sX11_bestSpies_7 n x1 μ (x2, x3, x4) = some o) (kin : ∀ (x2 : Int32) (x3 : Int32) (x4 : Int32), o = .inl (x2, x3, x4) → Wm Z (0, 0, sh, R) μ 7 [(0, .ref (wb (zw Z) + 0)), (1, .int x1), (2, .int x2), (3, .int x3), (4, .int x4)] []) (kex0 : ∀ (x2 : Int32), o = .inr x2 → Wm Z (0, 0, sh, R) μ 56 [(2, .int x2)] []) : Wm Z (0, 0, sh, R) μ 7 [(0, .ref (wb (zw Z) + 0)), (1, .int x1), (2, .int x2), (3, .int x3), (4, .int x4)] [] := by
  unfold sX11_bestSpies_7 at h
  refine r_iload C dX11_bestSpies_7 4 rfl ?_
  refine r_iconst C dX11_bestSpies_9 ic_1 ?_
  refine r_aload_n C dX11_bestSpies_10 0 rfl ?_
  refine r_getR C flX11_26 dX11_bestSpies_11 (ly0 hY) rfl (lr0_4 hY) ?_
  refine r_getI C flX11_281 dX11_bestSpies_14 (isSea_0 (lySea hY)) rfl ?_
  refine r_ishl C dX11_bestSpies_17 ?_
  refine r_icmp_ge 56 C dX11_bestSpies_18 (by decide) (fun c1 => ?_) (fun c1 => ?_)
  · have h := (ite_inv h).1 c1
    refine r_sub [(2, .int x2)] [2] rfl ?_
    exact kex0 x2 (Option.some.inj h).symm
  · have h := (ite_inv h).2 c1
    refine r_iload C dX11_bestSpies_21 4 rfl ?_
    refine r_cSi (As := [.int x4]) (rest := []) C hR mlX11_163 dX11_bestSpies_23 (t_bitc hY) rfl rfl (nle rfl) (nle rfl) (nle rfl) ?_
    refine r_iload_n C dX11_bestSpies_26 1 rfl ?_
    refine r_icmp_ne 50 C dX11_bestSpies_27 (by decide) (fun c2 => ?_) (fun c2 => ?_)
    · have h := (ite_inv h).2 c2
      refine r_iinc [(4, .int (x4 + 1)), (0, .ref (wb (zw Z) + 0)), (1, .int x1), (2, .int x2), (3, .int x3)] C dX11_bestSpies_50 4 rfl (in_1 _) (by decide) rfl ?_
      refine r_goto 7 C dX11_bestSpies_53 (by decide) ?_
      refine r_sub [(0, .ref (wb (zw Z) + 0)), (1, .int x1), (2, .int x2), (3, .int x3), (4, .int (x4 + 1))] [1, 2, 3, 4, 0] rfl ?_
      exact kin x2 x3 (x4 + 1) (Option.some.inj h).symm
    · have h := (ite_inv h).1 c2
      refine r_aload_n C dX11_bestSpies_30 0 rfl ?_
      refine r_iload C dX11_bestSpies_31 4 rfl ?_
      obtain ⟨u4, e3, h⟩ := bnd_inv h
      refine r_cVi (As := [.int x4]) (rest := []) C hR mlX11_300 dX11_bestSpies_33 (tX11_watchedBy hY n x4  e3) rfl rfl (ly0 hY) rfl (nle rfl) (nle rfl) (nle rfl) ?_
      refine r_iload_n C dX11_bestSpies_36 3 rfl ?_
      refine r_icmp_le 50 C dX11_bestSpies_37 (by decide) (fun c5 => ?_) (fun c5 => ?_)
      · have h := (ite_inv h).1 c5
        refine r_iinc [(4, .int (x4 + 1)), (0, .ref (wb (zw Z) + 0)), (1, .int x1), (2, .int x2), (3, .int x3)] C dX11_bestSpies_50 4 rfl (in_1 _) (by decide) rfl ?_
        refine r_goto 7 C dX11_bestSpies_53 (by decide) ?_
        refine r_sub [(0, .ref (wb (zw Z) + 0)), (1, .int x1), (2, .int x2), (3, .int x3), (4, .int (x4 + 1))] [1, 2, 3, 4, 0] rfl ?_
        exact kin x2 x3 (x4 + 1) (Option.some.inj h).symm
      · have h := (ite_inv h).2 c5
        refine r_aload_n C dX11_bestSpies_40 0 rfl ?_
        refine r_iload C dX11_bestSpies_41 4 rfl ?_
        obtain ⟨u7, e6, h⟩ := bnd_inv h
        refine r_cVi (As := [.int x4]) (rest := []) C hR mlX11_300 dX11_bestSpies_43 (tX11_watchedBy hY n x4  e6) rfl rfl (ly0 hY) rfl (nle rfl) (nle rfl) (nle rfl) ?_
        refine r_istore_n [(3, .int u7), (0, .ref (wb (zw Z) + 0)), (1, .int x1), (2, .int x2), (4, .int x4)] C dX11_bestSpies_46 rfl (by decide) rfl ?_
        refine r_iload C dX11_bestSpies_47 4 rfl ?_
        refine r_istore_n [(2, .int x4), (3, .int u7), (0, .ref (wb (zw Z) + 0)), (1, .int x1), (4, .int x4)] C dX11_bestSpies_49 rfl (by decide) rfl ?_
        refine r_iinc [(4, .int (x4 + 1)), (2, .int x4), (3, .int u7), (0, .ref (wb (zw Z) + 0)), (1, .int x1)] C dX11_bestSpies_50 4 rfl (in_1 _) (by decide) rfl ?_
        refine r_goto 7 C dX11_bestSpies_53 (by decide) ?_
        refine r_sub [(0, .ref (wb (zw Z) + 0)), (1, .int x1), (2, .int x4), (3, .int u7), (4, .int (x4 + 1))] [3, 4, 1, 2, 0] rfl ?_
        exact kin x4 u7 (x4 + 1) (Option.some.inj h).symm
def fX11_bestSpies (n : Nat) (x1 : Int32) (μ : Mu) : Option (Int32) := bnd (lp n (sX11_bestSpies_7 n x1 μ) (0, (-1), 1)) fun q => match q with | u8 => some u8
set_option maxRecDepth 100000 in
set_option maxHeartbeats 4000000 in
theorem tX11_bestSpies {l : Launch} {w : WP} {sh : List Sh} {R : Rf} {μ : Mu} {r : Int32} (hY : LY sh R) (n : Nat) (x1 : Int32)  (h : fX11_bestSpies n x1 μ = some r) : CM l w yX11_bestSpies cX11_bestSpies 5 (some .int) 1 0 0 sh R [.ref (wb w + 0), .int x1] μ (some (.int r)) sh R μ := by
  refine CM.of (plainFor_of_name pf_X11) (Nat.le_of_ble_eq_true rfl) fun Z C hr _ hR hw hl hE => ?_
  subst hw; subst hl
  have C : CX Z cX11_bestSpies 5 RX11 := C
  show Wm Z (0, 0, sh, R) μ 0 [(0, .ref (wb (zw Z) + 0)), (1, .int x1)] []
  unfold fX11_bestSpies at h
  refine r_iconst C dX11_bestSpies_0 ic_0 ?_
  refine r_istore_n [(2, .int 0), (0, .ref (wb (zw Z) + 0)), (1, .int x1)] C dX11_bestSpies_1 rfl (by decide) rfl ?_
  refine r_iconst C dX11_bestSpies_2 ic_m1 ?_
  refine r_istore_n [(3, .int (-1)), (2, .int 0), (0, .ref (wb (zw Z) + 0)), (1, .int x1)] C dX11_bestSpies_3 rfl (by decide) rfl ?_
  refine r_iconst C dX11_bestSpies_4 ic_1 ?_
  refine r_istore [(4, .int 1), (3, .int (-1)), (2, .int 0), (0, .ref (wb (zw Z) + 0)), (1, .int x1)] C dX11_bestSpies_5 (by decide) rfl ?_
  refine r_sub [(0, .ref (wb (zw Z) + 0)), (1, .int x1), (2, .int 0), (3, .int (-1)), (4, .int 1)] [3, 4, 2, 1, 0] rfl ?_
  obtain ⟨u8, e9, h⟩ := bnd_inv h
  refine lp_all (sX11_bestSpies_7 n x1 μ) (fun q => match q with | (z2, z3, z4) => Wm Z (0, 0, sh, R) μ 7 [(0, .ref (wb (zw Z) + 0)), (1, .int x1), (2, .int z2), (3, .int z3), (4, .int z4)] []) (fun q => match q with | z2 => Wm Z (0, 0, sh, R) μ 56 [(2, .int z2)] []) (fun q o h kin kex => ?_) n (0, (-1), 1) u8 e9 ?_
  · obtain ⟨z2, z3, z4⟩ := q; exact lX11_bestSpies_7 C hR hY n   x1 μ z2 z3 z4 h (fun z2 z3 z4 e => kin (z2, z3, z4) e) (fun z2 e => kex z2 e)
  show Wm Z (0, 0, sh, R) μ 56 [(2, .int u8)] []
  refine r_iload_n C dX11_bestSpies_56 0 rfl ?_
  have h := Option.some.inj h
  subst h
  exact r_iret C dX11_bestSpies_57 hr hE
def fX11_spies (n : Nat) (x1 : Int32) (x2 : Int32) (x3 : Int32) (μ : Mu) : Option (Int32 × Mu) := bnd (fX11_within n x3 0 1 μ) fun u2 => if u2 = 0 then (some ((-2), μ)) else (bnd (fX11_within n x1 1 (rI μ 2 0) μ) fun u5 => if u5 = 0 then (some ((-3), μ)) else (bnd (fX11_within n x2 0 48 μ) fun u8 => if u8 = 0 then (some ((-3), μ)) else (bnd (fX11_findReached n x2 μ) fun m11 => bnd (fX11_bestSpies n x1 m11) fun u13 => if x3 = 0 then (bnd (fX11_watchedBy n u13 m11) fun u16 => some (u16, m11)) else (some (u13, m11)))))
set_option maxRecDepth 100000 in
set_option maxHeartbeats 4000000 in
theorem tX11_spies {l : Launch} {w : WP} {sh : List Sh} {R : Rf} {μ : Mu} {r : Int32} {μ' : Mu} (hY : LY sh R) (n : Nat) (x1 : Int32) (x2 : Int32) (x3 : Int32)  (h : fX11_spies n x1 x2 x3 μ = some (r, μ')) : CM l w yX11_spies cX11_spies 5 (some .int) 6 0 0 sh R [.ref (wb w + 0), .int x1, .int x2, .int x3] μ (some (.int r)) sh R μ' := by
  refine CM.of (plainFor_of_name pf_X11) (Nat.le_of_ble_eq_true rfl) fun Z C hr _ hR hw hl hE => ?_
  subst hw; subst hl
  have C : CX Z cX11_spies 5 RX11 := C
  show Wm Z (0, 0, sh, R) μ 0 [(0, .ref (wb (zw Z) + 0)), (1, .int x1), (2, .int x2), (3, .int x3)] []
  unfold fX11_spies at h
  refine r_iload_n C dX11_spies_0 3 rfl ?_
  refine r_iconst C dX11_spies_1 ic_0 ?_
  refine r_iconst C dX11_spies_2 ic_1 ?_
  obtain ⟨u2, e1, h⟩ := bnd_inv h
  refine r_cSi (As := [.int x3, .int 0, .int 1]) (rest := []) C hR mlX11_197 dX11_spies_3 (tX11_within hY n x3 0 1  e1) rfl rfl (nle rfl) (nle rfl) (nle rfl) ?_
  refine r_if_ne 12 C dX11_spies_6 (by decide) (fun c3 => ?_) (fun c3 => ?_)
  · have h := (ite_inv h).2 c3
    refine r_iload_n C dX11_spies_12 1 rfl ?_
    refine r_iconst C dX11_spies_13 ic_1 ?_
    refine r_aload_n C dX11_spies_14 0 rfl ?_
    refine r_getR C flX11_26 dX11_spies_15 (ly0 hY) rfl (lr0_4 hY) ?_
    refine r_getI C flX11_281 dX11_spies_18 (isSea_0 (lySea hY)) rfl ?_
    obtain ⟨u5, e4, h⟩ := bnd_inv h
    refine r_cSi (As := [.int x1, .int 1, .int (rI μ 2 0)]) (rest := []) C hR mlX11_197 dX11_spies_21 (tX11_within hY n x1 1 (rI μ 2 0)  e4) rfl rfl (nle rfl) (nle rfl) (nle rfl) ?_
    refine r_if_eq 37 C dX11_spies_24 (by decide) (fun c6 => ?_) (fun c6 => ?_)
    · have h := (ite_inv h).1 c6
      refine r_bipush C dX11_spies_37 bp_m3 ?_
      obtain ⟨h1, h2⟩ := Prod.mk.inj (Option.some.inj h)
      subst h1; subst h2
      exact r_iret C dX11_spies_39 hr hE
    · have h := (ite_inv h).2 c6
      refine r_iload_n C dX11_spies_27 2 rfl ?_
      refine r_iconst C dX11_spies_28 ic_0 ?_
      refine r_bipush C dX11_spies_29 bp_48 ?_
      obtain ⟨u8, e7, h⟩ := bnd_inv h
      refine r_cSi (As := [.int x2, .int 0, .int 48]) (rest := []) C hR mlX11_197 dX11_spies_31 (tX11_within hY n x2 0 48  e7) rfl rfl (nle rfl) (nle rfl) (nle rfl) ?_
      refine r_if_ne 40 C dX11_spies_34 (by decide) (fun c9 => ?_) (fun c9 => ?_)
      · have h := (ite_inv h).2 c9
        refine r_aload_n C dX11_spies_40 0 rfl ?_
        refine r_iload_n C dX11_spies_41 2 rfl ?_
        obtain ⟨m11, e10, h⟩ := bnd_inv h
        refine r_cVv (As := [.int x2]) (rest := []) C hR mlX11_294 dX11_spies_42 (tX11_findReached hY n x2  e10) rfl rfl (ly0 hY) rfl (nle rfl) (nle rfl) (nle rfl) ?_
        refine r_aload_n C dX11_spies_45 0 rfl ?_
        refine r_iload_n C dX11_spies_46 1 rfl ?_
        obtain ⟨u13, e12, h⟩ := bnd_inv h
        refine r_cVi (As := [.int x1]) (rest := []) C hR mlX11_297 dX11_spies_47 (tX11_bestSpies hY n x1  e12) rfl rfl (ly0 hY) rfl (nle rfl) (nle rfl) (nle rfl) ?_
        refine r_istore [(4, .int u13), (0, .ref (wb (zw Z) + 0)), (1, .int x1), (2, .int x2), (3, .int x3)] C dX11_spies_50 (by decide) rfl ?_
        refine r_iload_n C dX11_spies_52 4 rfl ?_
        refine r_if_ne 65 C dX11_spies_53 (by decide) (fun c14 => ?_) (fun c14 => ?_)
        · have h := (ite_inv h).2 c14
          refine r_iload C dX11_spies_65 0 rfl ?_
          obtain ⟨h1, h2⟩ := Prod.mk.inj (Option.some.inj h)
          subst h1; subst h2
          exact r_iret C dX11_spies_67 hr hE
        · have h := (ite_inv h).1 c14
          refine r_aload_n C dX11_spies_56 1 rfl ?_
          refine r_iload C dX11_spies_57 0 rfl ?_
          obtain ⟨u16, e15, h⟩ := bnd_inv h
          refine r_cVi (As := [.int u13]) (rest := []) C hR mlX11_300 dX11_spies_59 (tX11_watchedBy hY n u13  e15) rfl rfl (ly0 hY) rfl (nle rfl) (nle rfl) (nle rfl) ?_
          refine r_goto 67 C dX11_spies_62 (by decide) ?_
          obtain ⟨h1, h2⟩ := Prod.mk.inj (Option.some.inj h)
          subst h1; subst h2
          exact r_iret C dX11_spies_67 hr hE
      · have h := (ite_inv h).1 c9
        refine r_bipush C dX11_spies_37 bp_m3 ?_
        obtain ⟨h1, h2⟩ := Prod.mk.inj (Option.some.inj h)
        subst h1; subst h2
        exact r_iret C dX11_spies_39 hr hE
  · have h := (ite_inv h).1 c3
    refine r_bipush C dX11_spies_9 bp_m2 ?_
    obtain ⟨h1, h2⟩ := Prod.mk.inj (Option.some.inj h)
    subst h1; subst h2
    exact r_iret C dX11_spies_11 hr hE
def sX11_watch_20 (n : Nat) (μ : Mu) : Int32 → Option ((Int32) ⊕ ((Int32) ⊕ (Unit))) := fun q => match q with | x2 => if (rI μ 2 0) ≤ x2 then (some (.inr (.inr ()))) else (bnd (fX11_bestSpies n x2 μ) fun u8 => bnd (fX11_watchedBy n u8 μ) fun u10 => if u10 = (rI μ 2 0) then (some (.inr (.inl x2))) else (some (.inl (x2 + 1))))
set_option maxRecDepth 100000 in
set_option maxHeartbeats 4000000 in
theorem lX11_watch_20 {Z : ZC} {sh : List Sh} {R : Rf} {o : (Int32) ⊕ ((Int32) ⊕ (Unit))} (C : CX Z cX11_watch 3 RX11) (hR : zR Z = rm 6 0 0) (hY : LY sh R) (n : Nat) (μ : Mu) (x2 : Int32) (h : sX11_watch_20 n μ x2 = some o) (kin : ∀ (x2 : Int32), o = .inl x2 → Wm Z (0, 0, sh, R) μ 20 [(0, .ref (wb (zw Z) + 0)), (2, .int x2)] []) (kex0 : ∀ (x2 : Int32), o = .inr (.inl x2) → Wm Z (0, 0, sh, R) μ 50 [(2, .int x2)] []) (kex1 : o = .inr (.inr ()) → Wm Z (0, 0, sh, R) μ 58 [(0, .ref (wb (zw Z) + 0))] []) : Wm Z (0, 0, sh, R) μ 20 [(0, .ref (wb (zw Z) + 0)), (2, .int x2)] [] := by
  unfold sX11_watch_20 at h
  refine r_iload_n C dX11_watch_20 1 rfl ?_
  refine r_aload_n C dX11_watch_21 0 rfl ?_
  refine r_getR C flX11_26 dX11_watch_22 (ly0 hY) rfl (lr0_4 hY) ?_
  refine r_getI C flX11_281 dX11_watch_25 (isSea_0 (lySea hY)) rfl ?_
  refine r_icmp_ge 58 C dX11_watch_28 (by decide) (fun c6 => ?_) (fun c6 => ?_)
  · have h := (ite_inv h).1 c6
    refine r_sub [(0, .ref (wb (zw Z) + 0))] [0] rfl ?_
    exact kex1 (Option.some.inj h).symm
  · have h := (ite_inv h).2 c6
    refine r_aload_n C dX11_watch_31 0 rfl ?_
    refine r_aload_n C dX11_watch_32 0 rfl ?_
    refine r_iload_n C dX11_watch_33 1 rfl ?_
    obtain ⟨u8, e7, h⟩ := bnd_inv h
    refine r_cVi (As := [.int x2]) (rest := [.ref (wb (zw Z) + 0)]) C hR mlX11_297 dX11_watch_34 (tX11_bestSpies hY n x2  e7) rfl rfl (ly0 hY) rfl (nle rfl) (nle rfl) (nle rfl) ?_
    obtain ⟨u10, e9, h⟩ := bnd_inv h
    refine r_cVi (As := [.int u8]) (rest := []) C hR mlX11_300 dX11_watch_37 (tX11_watchedBy hY n u8  e9) rfl rfl (ly0 hY) rfl (nle rfl) (nle rfl) (nle rfl) ?_
    refine r_aload_n C dX11_watch_40 0 rfl ?_
    refine r_getR C flX11_26 dX11_watch_41 (ly0 hY) rfl (lr0_4 hY) ?_
    refine r_getI C flX11_281 dX11_watch_44 (isSea_0 (lySea hY)) rfl ?_
    refine r_icmp_ne 52 C dX11_watch_47 (by decide) (fun c11 => ?_) (fun c11 => ?_)
    · have h := (ite_inv h).2 c11
      refine r_iinc [(2, .int (x2 + 1)), (0, .ref (wb (zw Z) + 0))] C dX11_watch_52 1 rfl (in_1 _) (by decide) rfl ?_
      refine r_goto 20 C dX11_watch_55 (by decide) ?_
      refine r_sub [(0, .ref (wb (zw Z) + 0)), (2, .int (x2 + 1))] [1, 0] rfl ?_
      exact kin (x2 + 1) (Option.some.inj h).symm
    · have h := (ite_inv h).1 c11
      refine r_sub [(2, .int x2)] [1] rfl ?_
      exact kex0 x2 (Option.some.inj h).symm
def fX11_watch (n : Nat) (x1 : Int32) (μ : Mu) : Option (Int32 × Mu) := bnd (fX11_within n x1 0 48 μ) fun u2 => if u2 = 0 then (some ((-3), μ)) else (bnd (fX11_findReached n x1 μ) fun m5 => bnd (lp n (sX11_watch_20 n m5) 1) fun q => match q with | .inl u12 => (some (u12, m5)) | .inr () => (some (rI m5 2 0, m5)))
set_option maxRecDepth 100000 in
set_option maxHeartbeats 4000000 in
theorem tX11_watch {l : Launch} {w : WP} {sh : List Sh} {R : Rf} {μ : Mu} {r : Int32} {μ' : Mu} (hY : LY sh R) (n : Nat) (x1 : Int32)  (h : fX11_watch n x1 μ = some (r, μ')) : CM l w yX11_watch cX11_watch 3 (some .int) 6 0 0 sh R [.ref (wb w + 0), .int x1] μ (some (.int r)) sh R μ' := by
  refine CM.of (plainFor_of_name pf_X11) (Nat.le_of_ble_eq_true rfl) fun Z C hr _ hR hw hl hE => ?_
  subst hw; subst hl
  have C : CX Z cX11_watch 3 RX11 := C
  show Wm Z (0, 0, sh, R) μ 0 [(0, .ref (wb (zw Z) + 0)), (1, .int x1)] []
  unfold fX11_watch at h
  refine r_iload_n C dX11_watch_0 1 rfl ?_
  refine r_iconst C dX11_watch_1 ic_0 ?_
  refine r_bipush C dX11_watch_2 bp_48 ?_
  obtain ⟨u2, e1, h⟩ := bnd_inv h
  refine r_cSi (As := [.int x1, .int 0, .int 48]) (rest := []) C hR mlX11_197 dX11_watch_4 (tX11_within hY n x1 0 48  e1) rfl rfl (nle rfl) (nle rfl) (nle rfl) ?_
  refine r_if_ne 13 C dX11_watch_7 (by decide) (fun c3 => ?_) (fun c3 => ?_)
  · have h := (ite_inv h).2 c3
    refine r_aload_n C dX11_watch_13 0 rfl ?_
    refine r_iload_n C dX11_watch_14 1 rfl ?_
    obtain ⟨m5, e4, h⟩ := bnd_inv h
    refine r_cVv (As := [.int x1]) (rest := []) C hR mlX11_294 dX11_watch_15 (tX11_findReached hY n x1  e4) rfl rfl (ly0 hY) rfl (nle rfl) (nle rfl) (nle rfl) ?_
    refine r_iconst C dX11_watch_18 ic_1 ?_
    refine r_istore_n [(2, .int 1), (0, .ref (wb (zw Z) + 0)), (1, .int x1)] C dX11_watch_19 rfl (by decide) rfl ?_
    refine r_sub [(0, .ref (wb (zw Z) + 0)), (2, .int 1)] [1, 0] rfl ?_
    obtain ⟨q14, e13, h⟩ := bnd_inv h
    refine lp_all (sX11_watch_20 n m5) (fun q => match q with | z2 => Wm Z (0, 0, sh, R) m5 20 [(0, .ref (wb (zw Z) + 0)), (2, .int z2)] []) (fun q => match q with | .inl z2 => Wm Z (0, 0, sh, R) m5 50 [(2, .int z2)] [] | .inr () => Wm Z (0, 0, sh, R) m5 58 [(0, .ref (wb (zw Z) + 0))] []) (fun q o h kin kex => ?_) n 1 q14 e13 ?_
    · exact lX11_watch_20 C hR hY n   m5 q h (fun z2 e => kin z2 e) (fun z2 e => kex (.inl z2) e) (fun e => kex (.inr ()) e)
    rcases q14 with u12 | ⟨⟩
    · show Wm Z (0, 0, sh, R) m5 50 [(2, .int u12)] []
      refine r_iload_n C dX11_watch_50 0 rfl ?_
      obtain ⟨h1, h2⟩ := Prod.mk.inj (Option.some.inj h)
      subst h1; subst h2
      exact r_iret C dX11_watch_51 hr hE
    · show Wm Z (0, 0, sh, R) m5 58 [(0, .ref (wb (zw Z) + 0))] []
      refine r_aload_n C dX11_watch_58 0 rfl ?_
      refine r_getR C flX11_26 dX11_watch_59 (ly0 hY) rfl (lr0_4 hY) ?_
      refine r_getI C flX11_281 dX11_watch_62 (isSea_0 (lySea hY)) rfl ?_
      obtain ⟨h1, h2⟩ := Prod.mk.inj (Option.some.inj h)
      subst h1; subst h2
      exact r_iret C dX11_watch_65 hr hE
  · have h := (ite_inv h).1 c3
    refine r_bipush C dX11_watch_10 bp_m3 ?_
    obtain ⟨h1, h2⟩ := Prod.mk.inj (Option.some.inj h)
    subst h1; subst h2
    exact r_iret C dX11_watch_12 hr hE
def fX11_hears (n : Nat) (x1 : Int32) (μ : Mu) : Option (Int32) := bnd (fX11_isPerson n x1 μ) fun u2 => if u2 = 0 then (some (-2)) else (bnd (fX8_hearable n 34 2 x1 μ) fun u5 => some u5)
set_option maxRecDepth 100000 in
set_option maxHeartbeats 4000000 in
theorem tX11_hears {l : Launch} {w : WP} {sh : List Sh} {R : Rf} {μ : Mu} {r : Int32} (hY : LY sh R) (n : Nat) (x1 : Int32)  (h : fX11_hears n x1 μ = some r) : CM l w yX11_hears cX11_hears 2 (some .int) 2 0 0 sh R [.ref (wb w + 0), .int x1] μ (some (.int r)) sh R μ := by
  refine CM.of (plainFor_of_name pf_X11) (Nat.le_of_ble_eq_true rfl) fun Z C hr _ hR hw hl hE => ?_
  subst hw; subst hl
  have C : CX Z cX11_hears 2 RX11 := C
  show Wm Z (0, 0, sh, R) μ 0 [(0, .ref (wb (zw Z) + 0)), (1, .int x1)] []
  unfold fX11_hears at h
  refine r_aload_n C dX11_hears_0 0 rfl ?_
  refine r_iload_n C dX11_hears_1 1 rfl ?_
  obtain ⟨u2, e1, h⟩ := bnd_inv h
  refine r_cVi (As := [.int x1]) (rest := []) C hR mlX11_146 dX11_hears_2 (tX11_isPerson hY n x1  e1) rfl rfl (ly0 hY) rfl (nle rfl) (nle rfl) (nle rfl) ?_
  refine r_if_eq 23 C dX11_hears_5 (by decide) (fun c3 => ?_) (fun c3 => ?_)
  · have h := (ite_inv h).1 c3
    refine r_bipush C dX11_hears_23 bp_m2 ?_
    have h := Option.some.inj h
    subst h
    exact r_iret C dX11_hears_25 hr hE
  · have h := (ite_inv h).2 c3
    refine r_aload_n C dX11_hears_8 0 rfl ?_
    refine r_getR C flX11_49 dX11_hears_9 (ly0 hY) rfl (lr0_7 hY) ?_
    refine r_aload_n C dX11_hears_12 0 rfl ?_
    refine r_getR C flX11_26 dX11_hears_13 (ly0 hY) rfl (lr0_4 hY) ?_
    refine r_iload_n C dX11_hears_16 1 rfl ?_
    obtain ⟨u5, e4, h⟩ := bnd_inv h
    refine r_cVi (As := [.ref (wb (zw Z) + 2), .int x1]) (rest := []) C hR mlX11_303 dX11_hears_17 (tX8_hearable hY n 34 2 x1 (lyNow hY) (lySea hY) e4) rfl rfl (isSt_0 (lyNow hY)) rfl (nle rfl) (nle rfl) (nle rfl) ?_
    refine r_goto 25 C dX11_hears_20 (by decide) ?_
    have h := Option.some.inj h
    subst h
    exact r_iret C dX11_hears_25 hr hE
def fX11_mutual (n : Nat)  (μ : Mu) : Option (Int32) := bnd (fX8_mutualTwos n 34 2 μ) fun u2 => some u2
set_option maxRecDepth 100000 in
set_option maxHeartbeats 4000000 in
theorem tX11_mutual {l : Launch} {w : WP} {sh : List Sh} {R : Rf} {μ : Mu} {r : Int32} (hY : LY sh R) (n : Nat)   (h : fX11_mutual n μ = some r) : CM l w yX11_mutual cX11_mutual 1 (some .int) 3 0 0 sh R [.ref (wb w + 0)] μ (some (.int r)) sh R μ := by
  refine CM.of (plainFor_of_name pf_X11) (Nat.le_of_ble_eq_true rfl) fun Z C hr _ hR hw hl hE => ?_
  subst hw; subst hl
  have C : CX Z cX11_mutual 1 RX11 := C
  show Wm Z (0, 0, sh, R) μ 0 [(0, .ref (wb (zw Z) + 0))] []
  unfold fX11_mutual at h
  refine r_aload_n C dX11_mutual_0 0 rfl ?_
  refine r_getR C flX11_49 dX11_mutual_1 (ly0 hY) rfl (lr0_7 hY) ?_
  refine r_aload_n C dX11_mutual_4 0 rfl ?_
  refine r_getR C flX11_26 dX11_mutual_5 (ly0 hY) rfl (lr0_4 hY) ?_
  obtain ⟨u2, e1, h⟩ := bnd_inv h
  refine r_cVi (As := [.ref (wb (zw Z) + 2)]) (rest := []) C hR mlX11_306 dX11_mutual_8 (tX8_mutualTwos hY n 34 2 (lyNow hY) (lySea hY) e1) rfl rfl (isSt_0 (lyNow hY)) rfl (nle rfl) (nle rfl) (nle rfl) ?_
  have h := Option.some.inj h
  subst h
  exact r_iret C dX11_mutual_11 hr hE
def sX11_passes_49 (n : Nat) (x2 : Int32) (x3 : Int32) (x4 : Int32) (μ : Mu) : Int32 × Int32 → Option ((Int32 × Int32) ⊕ (Int32)) := fun q => match q with | (x5, x6) => if (rI μ 2 2) ≤ x6 then (some (.inr x5)) else (bnd (fX8_hearable n 34 2 x6 μ) fun u11 => if (u11 &&& x3) = 0 then (some (.inl (x5, x6 + 1))) else (some (.inl (x5 ||| (shl 1 x6), x6 + 1))))
set_option maxRecDepth 100000 in
set_option maxHeartbeats 4000000 in
theorem lX11_passes_49 {Z : ZC} {sh : List Sh} {R : Rf} {o : (Int32 × Int32) ⊕ (Int32)} (C : CX Z cX11_passes 7 RX11) (hR : zR Z = rm 2 0 0) (hY : LY sh R) (n : Nat) (x2 : Int32) (x3 : Int32) (x4 : Int32) (μ : Mu) (x5 : Int32) (x6 : Int32) (h : sX11_passes_49 n x2 x3 x4 μ (x5, x6) = some o) (kin : ∀ (x5 : Int32) (x6 : Int32), o = .inl (x5, x6) → Wm Z (0, 0, sh, R) μ 49 [(0, .ref (wb (zw Z) + 0)), (2, .int x2), (3, .int x3), (4, .int x4), (5, .int x5), (6, .int x6)] []) (kex0 : ∀ (x5 : Int32), o = .inr x5 → Wm Z (0, 0, sh, R) μ 94 [(0, .ref (wb (zw Z) + 0)), (2, .int x2), (4, .int x4), (5, .int x5)] []) : Wm Z (0, 0, sh, R) μ 49 [(0, .ref (wb (zw Z) + 0)), (2, .int x2), (3, .int x3), (4, .int x4), (5, .int x5), (6, .int x6)] [] := by
  unfold sX11_passes_49 at h
  refine r_iload C dX11_passes_49 5 rfl ?_
  refine r_aload_n C dX11_passes_51 0 rfl ?_
  refine r_getR C flX11_26 dX11_passes_52 (ly0 hY) rfl (lr0_4 hY) ?_
  refine r_getI C flX11_278 dX11_passes_55 (isSea_0 (lySea hY)) rfl ?_
  refine r_icmp_ge 94 C dX11_passes_58 (by decide) (fun c9 => ?_) (fun c9 => ?_)
  · have h := (ite_inv h).1 c9
    refine r_sub [(0, .ref (wb (zw Z) + 0)), (2, .int x2), (4, .int x4), (5, .int x5)] [0, 1, 3, 4] rfl ?_
    exact kex0 x5 (Option.some.inj h).symm
  · have h := (ite_inv h).2 c9
    refine r_aload_n C dX11_passes_61 0 rfl ?_
    refine r_getR C flX11_49 dX11_passes_62 (ly0 hY) rfl (lr0_7 hY) ?_
    refine r_aload_n C dX11_passes_65 0 rfl ?_
    refine r_getR C flX11_26 dX11_passes_66 (ly0 hY) rfl (lr0_4 hY) ?_
    refine r_iload C dX11_passes_69 5 rfl ?_
    obtain ⟨u11, e10, h⟩ := bnd_inv h
    refine r_cVi (As := [.ref (wb (zw Z) + 2), .int x6]) (rest := []) C hR mlX11_303 dX11_passes_71 (tX8_hearable hY n 34 2 x6 (lyNow hY) (lySea hY) e10) rfl rfl (isSt_0 (lyNow hY)) rfl (nle rfl) (nle rfl) (nle rfl) ?_
    refine r_iload_n C dX11_passes_74 2 rfl ?_
    refine r_iand C dX11_passes_75 ?_
    refine r_if_eq 88 C dX11_passes_76 (by decide) (fun c12 => ?_) (fun c12 => ?_)
    · have h := (ite_inv h).1 c12
      refine r_iinc [(6, .int (x6 + 1)), (0, .ref (wb (zw Z) + 0)), (2, .int x2), (3, .int x3), (4, .int x4), (5, .int x5)] C dX11_passes_88 5 rfl (in_1 _) (by decide) rfl ?_
      refine r_goto 49 C dX11_passes_91 (by decide) ?_
      refine r_sub [(0, .ref (wb (zw Z) + 0)), (2, .int x2), (3, .int x3), (4, .int x4), (5, .int x5), (6, .int (x6 + 1))] [1, 2, 3, 4, 5, 0] rfl ?_
      exact kin x5 (x6 + 1) (Option.some.inj h).symm
    · have h := (ite_inv h).2 c12
      refine r_iload C dX11_passes_79 4 rfl ?_
      refine r_iconst C dX11_passes_81 ic_1 ?_
      refine r_iload C dX11_passes_82 5 rfl ?_
      refine r_ishl C dX11_passes_84 ?_
      refine r_ior C dX11_passes_85 ?_
      refine r_istore [(5, .int (x5 ||| (shl 1 x6))), (0, .ref (wb (zw Z) + 0)), (2, .int x2), (3, .int x3), (4, .int x4), (6, .int x6)] C dX11_passes_86 (by decide) rfl ?_
      refine r_iinc [(6, .int (x6 + 1)), (5, .int (x5 ||| (shl 1 x6))), (0, .ref (wb (zw Z) + 0)), (2, .int x2), (3, .int x3), (4, .int x4)] C dX11_passes_88 5 rfl (in_1 _) (by decide) rfl ?_
      refine r_goto 49 C dX11_passes_91 (by decide) ?_
      refine r_sub [(0, .ref (wb (zw Z) + 0)), (2, .int x2), (3, .int x3), (4, .int x4), (5, .int (x5 ||| (shl 1 x6))), (6, .int (x6 + 1))] [2, 3, 4, 5, 1, 0] rfl ?_
      exact kin (x5 ||| (shl 1 x6)) (x6 + 1) (Option.some.inj h).symm
def sX11_passes_31 (n : Nat) (x2 : Int32) (μ : Mu) : Int32 × Int32 → Option ((Int32 × Int32) ⊕ ((Int32) ⊕ (Unit))) := fun q => match q with | (x3, x4) => if (rI μ 2 2) ≤ x4 then (some (.inr (.inr ()))) else (bnd (lp n (sX11_passes_49 n x2 x3 x4 μ) (x3, 0)) fun q => match q with | u13 => if ((shr u13 x2) &&& 1) = 1 then (some (.inr (.inl x4))) else (some (.inl (u13, x4 + 1))))
set_option maxRecDepth 100000 in
set_option maxHeartbeats 4000000 in
theorem lX11_passes_31 {Z : ZC} {sh : List Sh} {R : Rf} {o : (Int32 × Int32) ⊕ ((Int32) ⊕ (Unit))} (C : CX Z cX11_passes 7 RX11) (hR : zR Z = rm 2 0 0) (hY : LY sh R) (n : Nat) (x2 : Int32) (μ : Mu) (x3 : Int32) (x4 : Int32) (h : sX11_passes_31 n x2 μ (x3, x4) = some o) (kin : ∀ (x3 : Int32) (x4 : Int32), o = .inl (x3, x4) → Wm Z (0, 0, sh, R) μ 31 [(0, .ref (wb (zw Z) + 0)), (2, .int x2), (3, .int x3), (4, .int x4)] []) (kex0 : ∀ (x4 : Int32), o = .inr (.inl x4) → Wm Z (0, 0, sh, R) μ 104 [(4, .int x4)] []) (kex1 : o = .inr (.inr ()) → Wm Z (0, 0, sh, R) μ 116 [] []) : Wm Z (0, 0, sh, R) μ 31 [(0, .ref (wb (zw Z) + 0)), (2, .int x2), (3, .int x3), (4, .int x4)] [] := by
  unfold sX11_passes_31 at h
  refine r_iload C dX11_passes_31 3 rfl ?_
  refine r_aload_n C dX11_passes_33 0 rfl ?_
  refine r_getR C flX11_26 dX11_passes_34 (ly0 hY) rfl (lr0_4 hY) ?_
  refine r_getI C flX11_278 dX11_passes_37 (isSea_0 (lySea hY)) rfl ?_
  refine r_icmp_ge 116 C dX11_passes_40 (by decide) (fun c8 => ?_) (fun c8 => ?_)
  · have h := (ite_inv h).1 c8
    refine r_sub [] [] rfl ?_
    exact kex1 (Option.some.inj h).symm
  · have h := (ite_inv h).2 c8
    refine r_iload_n C dX11_passes_43 2 rfl ?_
    refine r_istore [(5, .int x3), (0, .ref (wb (zw Z) + 0)), (2, .int x2), (3, .int x3), (4, .int x4)] C dX11_passes_44 (by decide) rfl ?_
    refine r_iconst C dX11_passes_46 ic_0 ?_
    refine r_istore [(6, .int 0), (5, .int x3), (0, .ref (wb (zw Z) + 0)), (2, .int x2), (3, .int x3), (4, .int x4)] C dX11_passes_47 (by decide) rfl ?_
    refine r_sub [(0, .ref (wb (zw Z) + 0)), (2, .int x2), (3, .int x3), (4, .int x4), (5, .int x3), (6, .int 0)] [2, 3, 4, 5, 1, 0] rfl ?_
    obtain ⟨u13, e14, h⟩ := bnd_inv h
    refine lp_all (sX11_passes_49 n x2 x3 x4 μ) (fun q => match q with | (z5, z6) => Wm Z (0, 0, sh, R) μ 49 [(0, .ref (wb (zw Z) + 0)), (2, .int x2), (3, .int x3), (4, .int x4), (5, .int z5), (6, .int z6)] []) (fun q => match q with | z5 => Wm Z (0, 0, sh, R) μ 94 [(0, .ref (wb (zw Z) + 0)), (2, .int x2), (4, .int x4), (5, .int z5)] []) (fun q o h kin kex => ?_) n (x3, 0) u13 e14 ?_
    · obtain ⟨z5, z6⟩ := q; exact lX11_passes_49 C hR hY n   x2 x3 x4 μ z5 z6 h (fun z5 z6 e => kin (z5, z6) e) (fun z5 e => kex z5 e)
    show Wm Z (0, 0, sh, R) μ 94 [(0, .ref (wb (zw Z) + 0)), (2, .int x2), (4, .int x4), (5, .int u13)] []
    refine r_iload C dX11_passes_94 3 rfl ?_
    refine r_iload_n C dX11_passes_96 1 rfl ?_
    refine r_ishr C dX11_passes_97 ?_
    refine r_iconst C dX11_passes_98 ic_1 ?_
    refine r_iand C dX11_passes_99 ?_
    refine r_iconst C dX11_passes_100 ic_1 ?_
    refine r_icmp_ne 107 C dX11_passes_101 (by decide) (fun c15 => ?_) (fun c15 => ?_)
    · have h := (ite_inv h).2 c15
      refine r_iload C dX11_passes_107 3 rfl ?_
      refine r_istore_n [(3, .int u13), (0, .ref (wb (zw Z) + 0)), (2, .int x2), (4, .int x4), (5, .int u13)] C dX11_passes_109 rfl (by decide) rfl ?_
      refine r_iinc [(4, .int (x4 + 1)), (3, .int u13), (0, .ref (wb (zw Z) + 0)), (2, .int x2), (5, .int u13)] C dX11_passes_110 3 rfl (in_1 _) (by decide) rfl ?_
      refine r_goto 31 C dX11_passes_113 (by decide) ?_
      refine r_sub [(0, .ref (wb (zw Z) + 0)), (2, .int x2), (3, .int u13), (4, .int (x4 + 1))] [2, 3, 1, 0] rfl ?_
      exact kin u13 (x4 + 1) (Option.some.inj h).symm
    · have h := (ite_inv h).1 c15
      refine r_sub [(4, .int x4)] [2] rfl ?_
      exact kex0 x4 (Option.some.inj h).symm
def fX11_passes (n : Nat) (x1 : Int32) (x2 : Int32) (μ : Mu) : Option (Int32) := bnd (fX11_isPerson n x1 μ) fun u2 => if u2 = 0 then (some (-2)) else (bnd (fX11_isPerson n x2 μ) fun u5 => if u5 = 0 then (some (-2)) else (if x1 = x2 then (some (-2)) else (bnd (lp n (sX11_passes_31 n x2 μ) (shl 1 x1, 1)) fun q => match q with | .inl u16 => (some u16) | .inr () => (some (-1)))))
set_option maxRecDepth 100000 in
set_option maxHeartbeats 4000000 in
theorem tX11_passes {l : Launch} {w : WP} {sh : List Sh} {R : Rf} {μ : Mu} {r : Int32} (hY : LY sh R) (n : Nat) (x1 : Int32) (x2 : Int32)  (h : fX11_passes n x1 x2 μ = some r) : CM l w yX11_passes cX11_passes 7 (some .int) 2 0 0 sh R [.ref (wb w + 0), .int x1, .int x2] μ (some (.int r)) sh R μ := by
  refine CM.of (plainFor_of_name pf_X11) (Nat.le_of_ble_eq_true rfl) fun Z C hr _ hR hw hl hE => ?_
  subst hw; subst hl
  have C : CX Z cX11_passes 7 RX11 := C
  show Wm Z (0, 0, sh, R) μ 0 [(0, .ref (wb (zw Z) + 0)), (1, .int x1), (2, .int x2)] []
  unfold fX11_passes at h
  refine r_aload_n C dX11_passes_0 0 rfl ?_
  refine r_iload_n C dX11_passes_1 1 rfl ?_
  obtain ⟨u2, e1, h⟩ := bnd_inv h
  refine r_cVi (As := [.int x1]) (rest := []) C hR mlX11_146 dX11_passes_2 (tX11_isPerson hY n x1  e1) rfl rfl (ly0 hY) rfl (nle rfl) (nle rfl) (nle rfl) ?_
  refine r_if_eq 21 C dX11_passes_5 (by decide) (fun c3 => ?_) (fun c3 => ?_)
  · have h := (ite_inv h).1 c3
    refine r_bipush C dX11_passes_21 bp_m2 ?_
    have h := Option.some.inj h
    subst h
    exact r_iret C dX11_passes_23 hr hE
  · have h := (ite_inv h).2 c3
    refine r_aload_n C dX11_passes_8 0 rfl ?_
    refine r_iload_n C dX11_passes_9 2 rfl ?_
    obtain ⟨u5, e4, h⟩ := bnd_inv h
    refine r_cVi (As := [.int x2]) (rest := []) C hR mlX11_146 dX11_passes_10 (tX11_isPerson hY n x2  e4) rfl rfl (ly0 hY) rfl (nle rfl) (nle rfl) (nle rfl) ?_
    refine r_if_eq 21 C dX11_passes_13 (by decide) (fun c6 => ?_) (fun c6 => ?_)
    · have h := (ite_inv h).1 c6
      refine r_bipush C dX11_passes_21 bp_m2 ?_
      have h := Option.some.inj h
      subst h
      exact r_iret C dX11_passes_23 hr hE
    · have h := (ite_inv h).2 c6
      refine r_iload_n C dX11_passes_16 1 rfl ?_
      refine r_iload_n C dX11_passes_17 2 rfl ?_
      refine r_icmp_ne 24 C dX11_passes_18 (by decide) (fun c7 => ?_) (fun c7 => ?_)
      · have h := (ite_inv h).2 c7
        refine r_iconst C dX11_passes_24 ic_1 ?_
        refine r_iload_n C dX11_passes_25 1 rfl ?_
        refine r_ishl C dX11_passes_26 ?_
        refine r_istore_n [(3, .int (shl 1 x1)), (0, .ref (wb (zw Z) + 0)), (1, .int x1), (2, .int x2)] C dX11_passes_27 rfl (by decide) rfl ?_
        refine r_iconst C dX11_passes_28 ic_1 ?_
        refine r_istore [(4, .int 1), (3, .int (shl 1 x1)), (0, .ref (wb (zw Z) + 0)), (1, .int x1), (2, .int x2)] C dX11_passes_29 (by decide) rfl ?_
        refine r_sub [(0, .ref (wb (zw Z) + 0)), (2, .int x2), (3, .int (shl 1 x1)), (4, .int 1)] [2, 4, 1, 0] rfl ?_
        obtain ⟨q18, e17, h⟩ := bnd_inv h
        refine lp_all (sX11_passes_31 n x2 μ) (fun q => match q with | (z3, z4) => Wm Z (0, 0, sh, R) μ 31 [(0, .ref (wb (zw Z) + 0)), (2, .int x2), (3, .int z3), (4, .int z4)] []) (fun q => match q with | .inl z4 => Wm Z (0, 0, sh, R) μ 104 [(4, .int z4)] [] | .inr () => Wm Z (0, 0, sh, R) μ 116 [] []) (fun q o h kin kex => ?_) n (shl 1 x1, 1) q18 e17 ?_
        · obtain ⟨z3, z4⟩ := q; exact lX11_passes_31 C hR hY n   x2 μ z3 z4 h (fun z3 z4 e => kin (z3, z4) e) (fun z4 e => kex (.inl z4) e) (fun e => kex (.inr ()) e)
        rcases q18 with u16 | ⟨⟩
        · show Wm Z (0, 0, sh, R) μ 104 [(4, .int u16)] []
          refine r_iload C dX11_passes_104 0 rfl ?_
          have h := Option.some.inj h
          subst h
          exact r_iret C dX11_passes_106 hr hE
        · show Wm Z (0, 0, sh, R) μ 116 [] []
          refine r_iconst C dX11_passes_116 ic_m1 ?_
          have h := Option.some.inj h
          subst h
          exact r_iret C dX11_passes_117 hr hE
      · have h := (ite_inv h).1 c7
        refine r_bipush C dX11_passes_21 bp_m2 ?_
        have h := Option.some.inj h
        subst h
        exact r_iret C dX11_passes_23 hr hE
def sX11_gift_41 (n : Nat) (x3 : Int32) : Int32 × Int32 × Int32 × Mu → Option ((Int32 × Int32 × Int32 × Mu) ⊕ (Int32 × Int32 × Mu)) := fun q => match q with | (x1, x2, x4, μ) => if (rI μ 2 2) ≤ x4 then (some (.inr (x1, x2, μ))) else (gd (ib x3 8) (bnd (fX8_mutualTwos n 41 2 (wI μ 42 (ix x3) x4)) fun u9 => gd (ib x3 8) (if (rI (wI μ 42 (ix x3) x4) 35 (ix x3)) = x4 then (some (.inl (x1, x2, x4 + 1, wI μ 42 (ix x3) x4))) else (if u9 ≤ x1 then (some (.inl (x1, x2, x4 + 1, wI μ 42 (ix x3) x4))) else (some (.inl (u9, (10 * x3) + x4, x4 + 1, wI μ 42 (ix x3) x4)))))))
set_option maxRecDepth 100000 in
set_option maxHeartbeats 4000000 in
theorem lX11_gift_41 {Z : ZC} {sh : List Sh} {R : Rf} {o : (Int32 × Int32 × Int32 × Mu) ⊕ (Int32 × Int32 × Mu)} (C : CX Z cX11_gift 6 RX11) (hR : zR Z = rm 3 0 0) (hY : LY sh R) (n : Nat) (x3 : Int32) (x1 : Int32) (x2 : Int32) (x4 : Int32) (μ : Mu) (h : sX11_gift_41 n x3 (x1, x2, x4, μ) = some o) (kin : ∀ (x1 : Int32) (x2 : Int32) (x4 : Int32) (μ : Mu), o = .inl (x1, x2, x4, μ) → Wm Z (0, 0, sh, R) μ 41 [(0, .ref (wb (zw Z) + 0)), (1, .int x1), (2, .int x2), (3, .int x3), (4, .int x4)] []) (kex0 : ∀ (x1 : Int32) (x2 : Int32) (μ : Mu), o = .inr (x1, x2, μ) → Wm Z (0, 0, sh, R) μ 114 [(0, .ref (wb (zw Z) + 0)), (1, .int x1), (2, .int x2), (3, .int x3)] []) : Wm Z (0, 0, sh, R) μ 41 [(0, .ref (wb (zw Z) + 0)), (1, .int x1), (2, .int x2), (3, .int x3), (4, .int x4)] [] := by
  unfold sX11_gift_41 at h
  refine r_iload C dX11_gift_41 4 rfl ?_
  refine r_aload_n C dX11_gift_43 0 rfl ?_
  refine r_getR C flX11_26 dX11_gift_44 (ly0 hY) rfl (lr0_4 hY) ?_
  refine r_getI C flX11_278 dX11_gift_47 (isSea_0 (lySea hY)) rfl ?_
  refine r_icmp_ge 114 C dX11_gift_50 (by decide) (fun c6 => ?_) (fun c6 => ?_)
  · have h := (ite_inv h).1 c6
    refine r_sub [(0, .ref (wb (zw Z) + 0)), (1, .int x1), (2, .int x2), (3, .int x3)] [0, 1, 2, 3] rfl ?_
    exact kex0 x1 x2 μ (Option.some.inj h).symm
  · have h := (ite_inv h).2 c6
    refine r_aload_n C dX11_gift_53 0 rfl ?_
    refine r_getR C flX11_53 dX11_gift_54 (ly0 hY) rfl (lr0_8 hY) ?_
    refine r_getR C flX11_179 dX11_gift_57 (isSt_0 (lyProbe hY)) rfl (isSt_r4 (lyProbe hY)) ?_
    refine r_iload_n C dX11_gift_60 3 rfl ?_
    refine r_iload C dX11_gift_61 4 rfl ?_
    obtain ⟨b7, h⟩ := gd_inv h
    refine r_iast C dX11_gift_63 (isSt_1 (lyProbe hY)) b7 ?_
    refine r_aload_n C dX11_gift_64 0 rfl ?_
    refine r_getR C flX11_53 dX11_gift_65 (ly0 hY) rfl (lr0_8 hY) ?_
    refine r_aload_n C dX11_gift_68 0 rfl ?_
    refine r_getR C flX11_26 dX11_gift_69 (ly0 hY) rfl (lr0_4 hY) ?_
    obtain ⟨u9, e8, h⟩ := bnd_inv h
    refine r_cVi (As := [.ref (wb (zw Z) + 2)]) (rest := []) C hR mlX11_306 dX11_gift_72 (tX8_mutualTwos hY n 41 2 (lyProbe hY) (lySea hY) e8) rfl rfl (isSt_0 (lyProbe hY)) rfl (nle rfl) (nle rfl) (nle rfl) ?_
    refine r_istore [(5, .int u9), (0, .ref (wb (zw Z) + 0)), (1, .int x1), (2, .int x2), (3, .int x3), (4, .int x4)] C dX11_gift_75 (by decide) rfl ?_
    refine r_aload_n C dX11_gift_77 1 rfl ?_
    refine r_getR C flX11_49 dX11_gift_78 (ly0 hY) rfl (lr0_7 hY) ?_
    refine r_getR C flX11_179 dX11_gift_81 (isSt_0 (lyNow hY)) rfl (isSt_r4 (lyNow hY)) ?_
    refine r_iload_n C dX11_gift_84 4 rfl ?_
    obtain ⟨b10, h⟩ := gd_inv h
    refine r_iald C dX11_gift_85 (isSt_1 (lyNow hY)) b10 ?_
    refine r_iload C dX11_gift_86 5 rfl ?_
    refine r_icmp_eq 108 C dX11_gift_88 (by decide) (fun c11 => ?_) (fun c11 => ?_)
    · have h := (ite_inv h).1 c11
      refine r_iinc [(4, .int (x4 + 1)), (5, .int u9), (0, .ref (wb (zw Z) + 0)), (1, .int x1), (2, .int x2), (3, .int x3)] C dX11_gift_108 5 rfl (in_1 _) (by decide) rfl ?_
      refine r_goto 41 C dX11_gift_111 (by decide) ?_
      refine r_sub [(0, .ref (wb (zw Z) + 0)), (1, .int x1), (2, .int x2), (3, .int x3), (4, .int (x4 + 1))] [2, 3, 4, 5, 0] rfl ?_
      exact kin x1 x2 (x4 + 1) (wI μ 42 (ix x3) x4) (Option.some.inj h).symm
    · have h := (ite_inv h).2 c11
      refine r_iload C dX11_gift_91 0 rfl ?_
      refine r_iload_n C dX11_gift_93 2 rfl ?_
      refine r_icmp_le 108 C dX11_gift_94 (by decide) (fun c12 => ?_) (fun c12 => ?_)
      · have h := (ite_inv h).1 c12
        refine r_iinc [(4, .int (x4 + 1)), (5, .int u9), (0, .ref (wb (zw Z) + 0)), (1, .int x1), (2, .int x2), (3, .int x3)] C dX11_gift_108 5 rfl (in_1 _) (by decide) rfl ?_
        refine r_goto 41 C dX11_gift_111 (by decide) ?_
        refine r_sub [(0, .ref (wb (zw Z) + 0)), (1, .int x1), (2, .int x2), (3, .int x3), (4, .int (x4 + 1))] [2, 3, 4, 5, 0] rfl ?_
        exact kin x1 x2 (x4 + 1) (wI μ 42 (ix x3) x4) (Option.some.inj h).symm
      · have h := (ite_inv h).2 c12
        refine r_iload C dX11_gift_97 0 rfl ?_
        refine r_istore_n [(1, .int u9), (5, .int u9), (0, .ref (wb (zw Z) + 0)), (2, .int x2), (3, .int x3), (4, .int x4)] C dX11_gift_99 rfl (by decide) rfl ?_
        refine r_bipush C dX11_gift_100 bp_10 ?_
        refine r_iload_n C dX11_gift_102 4 rfl ?_
        refine r_imul C dX11_gift_103 ?_
        refine r_iload C dX11_gift_104 5 rfl ?_
        refine r_iadd C dX11_gift_106 ?_
        refine r_istore_n [(2, .int ((10 * x3) + x4)), (1, .int u9), (5, .int u9), (0, .ref (wb (zw Z) + 0)), (3, .int x3), (4, .int x4)] C dX11_gift_107 rfl (by decide) rfl ?_
        refine r_iinc [(4, .int (x4 + 1)), (2, .int ((10 * x3) + x4)), (1, .int u9), (5, .int u9), (0, .ref (wb (zw Z) + 0)), (3, .int x3)] C dX11_gift_108 5 rfl (in_1 _) (by decide) rfl ?_
        refine r_goto 41 C dX11_gift_111 (by decide) ?_
        refine r_sub [(0, .ref (wb (zw Z) + 0)), (1, .int u9), (2, .int ((10 * x3) + x4)), (3, .int x3), (4, .int (x4 + 1))] [4, 2, 1, 5, 0] rfl ?_
        exact kin u9 ((10 * x3) + x4) (x4 + 1) (wI μ 42 (ix x3) x4) (Option.some.inj h).symm
def sX11_gift_27 (n : Nat)  : Int32 × Int32 × Int32 × Mu → Option ((Int32 × Int32 × Int32 × Mu) ⊕ (Int32 × Mu)) := fun q => match q with | (x1, x2, x3, μ) => if (rI μ 2 3) ≤ x3 then (some (.inr (x2, μ))) else (bnd (lp n (sX11_gift_41 n x3) (x1, x2, 0, μ)) fun q => match q with | (u13, u14, m15) => gd (ib x3 8) (gd (ib x3 8) (some (.inl (u13, u14, x3 + 1, wI m15 42 (ix x3) (rI m15 35 (ix x3)))))))
set_option maxRecDepth 100000 in
set_option maxHeartbeats 4000000 in
theorem lX11_gift_27 {Z : ZC} {sh : List Sh} {R : Rf} {o : (Int32 × Int32 × Int32 × Mu) ⊕ (Int32 × Mu)} (C : CX Z cX11_gift 6 RX11) (hR : zR Z = rm 3 0 0) (hY : LY sh R) (n : Nat)  (x1 : Int32) (x2 : Int32) (x3 : Int32) (μ : Mu) (h : sX11_gift_27 n (x1, x2, x3, μ) = some o) (kin : ∀ (x1 : Int32) (x2 : Int32) (x3 : Int32) (μ : Mu), o = .inl (x1, x2, x3, μ) → Wm Z (0, 0, sh, R) μ 27 [(0, .ref (wb (zw Z) + 0)), (1, .int x1), (2, .int x2), (3, .int x3)] []) (kex0 : ∀ (x2 : Int32) (μ : Mu), o = .inr (x2, μ) → Wm Z (0, 0, sh, R) μ 138 [(2, .int x2)] []) : Wm Z (0, 0, sh, R) μ 27 [(0, .ref (wb (zw Z) + 0)), (1, .int x1), (2, .int x2), (3, .int x3)] [] := by
  unfold sX11_gift_27 at h
  refine r_iload_n C dX11_gift_27 3 rfl ?_
  refine r_aload_n C dX11_gift_28 0 rfl ?_
  refine r_getR C flX11_26 dX11_gift_29 (ly0 hY) rfl (lr0_4 hY) ?_
  refine r_getI C flX11_309 dX11_gift_32 (isSea_0 (lySea hY)) rfl ?_
  refine r_icmp_ge 138 C dX11_gift_35 (by decide) (fun c5 => ?_) (fun c5 => ?_)
  · have h := (ite_inv h).1 c5
    refine r_sub [(2, .int x2)] [2] rfl ?_
    exact kex0 x2 μ (Option.some.inj h).symm
  · have h := (ite_inv h).2 c5
    refine r_iconst C dX11_gift_38 ic_0 ?_
    refine r_istore [(4, .int 0), (0, .ref (wb (zw Z) + 0)), (1, .int x1), (2, .int x2), (3, .int x3)] C dX11_gift_39 (by decide) rfl ?_
    refine r_sub [(0, .ref (wb (zw Z) + 0)), (1, .int x1), (2, .int x2), (3, .int x3), (4, .int 0)] [1, 2, 3, 4, 0] rfl ?_
    obtain ⟨⟨u13, u14, m15⟩, e16, h⟩ := bnd_inv h
    refine lp_all (sX11_gift_41 n x3) (fun q => match q with | (z1, z2, z4, ν) => Wm Z (0, 0, sh, R) (ν) 41 [(0, .ref (wb (zw Z) + 0)), (1, .int z1), (2, .int z2), (3, .int x3), (4, .int z4)] []) (fun q => match q with | (z1, z2, ν) => Wm Z (0, 0, sh, R) (ν) 114 [(0, .ref (wb (zw Z) + 0)), (1, .int z1), (2, .int z2), (3, .int x3)] []) (fun q o h kin kex => ?_) n (x1, x2, 0, μ) (u13, u14, m15) e16 ?_
    · obtain ⟨z1, z2, z4, ν⟩ := q; exact lX11_gift_41 C hR hY n   x3 z1 z2 z4 ν h (fun z1 z2 z4 ν e => kin (z1, z2, z4, ν) e) (fun z1 z2 ν e => kex (z1, z2, ν) e)
    show Wm Z (0, 0, sh, R) m15 114 [(0, .ref (wb (zw Z) + 0)), (1, .int u13), (2, .int u14), (3, .int x3)] []
    refine r_aload_n C dX11_gift_114 0 rfl ?_
    refine r_getR C flX11_53 dX11_gift_115 (ly0 hY) rfl (lr0_8 hY) ?_
    refine r_getR C flX11_179 dX11_gift_118 (isSt_0 (lyProbe hY)) rfl (isSt_r4 (lyProbe hY)) ?_
    refine r_iload_n C dX11_gift_121 3 rfl ?_
    refine r_aload_n C dX11_gift_122 0 rfl ?_
    refine r_getR C flX11_49 dX11_gift_123 (ly0 hY) rfl (lr0_7 hY) ?_
    refine r_getR C flX11_179 dX11_gift_126 (isSt_0 (lyNow hY)) rfl (isSt_r4 (lyNow hY)) ?_
    refine r_iload_n C dX11_gift_129 3 rfl ?_
    obtain ⟨b17, h⟩ := gd_inv h
    refine r_iald C dX11_gift_130 (isSt_1 (lyNow hY)) b17 ?_
    obtain ⟨b18, h⟩ := gd_inv h
    refine r_iast C dX11_gift_131 (isSt_1 (lyProbe hY)) b18 ?_
    refine r_iinc [(3, .int (x3 + 1)), (0, .ref (wb (zw Z) + 0)), (1, .int u13), (2, .int u14)] C dX11_gift_132 3 rfl (in_1 _) (by decide) rfl ?_
    refine r_goto 27 C dX11_gift_135 (by decide) ?_
    refine r_sub [(0, .ref (wb (zw Z) + 0)), (1, .int u13), (2, .int u14), (3, .int (x3 + 1))] [1, 2, 3, 0] rfl ?_
    exact kin u13 u14 (x3 + 1) (wI m15 42 (ix x3) (rI m15 35 (ix x3))) (Option.some.inj h).symm
def fX11_gift (n : Nat)  (μ : Mu) : Option (Int32 × Mu) := bnd (fX8_copyFrom n 41 34 μ) fun m2 => bnd (fX8_mutualTwos n 34 2 m2) fun u4 => bnd (lp n (sX11_gift_27 n) (u4, (-1), 0, m2)) fun q => match q with | (u19, m20) => some (u19, m20)
set_option maxRecDepth 100000 in
set_option maxHeartbeats 4000000 in
theorem tX11_gift {l : Launch} {w : WP} {sh : List Sh} {R : Rf} {μ : Mu} {r : Int32} {μ' : Mu} (hY : LY sh R) (n : Nat)   (h : fX11_gift n μ = some (r, μ')) : CM l w yX11_gift cX11_gift 6 (some .int) 3 0 0 sh R [.ref (wb w + 0)] μ (some (.int r)) sh R μ' := by
  refine CM.of (plainFor_of_name pf_X11) (Nat.le_of_ble_eq_true rfl) fun Z C hr _ hR hw hl hE => ?_
  subst hw; subst hl
  have C : CX Z cX11_gift 6 RX11 := C
  show Wm Z (0, 0, sh, R) μ 0 [(0, .ref (wb (zw Z) + 0))] []
  unfold fX11_gift at h
  refine r_aload_n C dX11_gift_0 0 rfl ?_
  refine r_getR C flX11_53 dX11_gift_1 (ly0 hY) rfl (lr0_8 hY) ?_
  refine r_aload_n C dX11_gift_4 0 rfl ?_
  refine r_getR C flX11_49 dX11_gift_5 (ly0 hY) rfl (lr0_7 hY) ?_
  obtain ⟨m2, e1, h⟩ := bnd_inv h
  refine r_cVv (As := [.ref (wb (zw Z) + 34)]) (rest := []) C hR mlX11_236 dX11_gift_8 (tX8_copyFrom hY n 41 34 (lyProbe hY) (lyNow hY) e1) rfl rfl (isSt_0 (lyProbe hY)) rfl (nle rfl) (nle rfl) (nle rfl) ?_
  refine r_aload_n C dX11_gift_11 0 rfl ?_
  refine r_getR C flX11_49 dX11_gift_12 (ly0 hY) rfl (lr0_7 hY) ?_
  refine r_aload_n C dX11_gift_15 0 rfl ?_
  refine r_getR C flX11_26 dX11_gift_16 (ly0 hY) rfl (lr0_4 hY) ?_
  obtain ⟨u4, e3, h⟩ := bnd_inv h
  refine r_cVi (As := [.ref (wb (zw Z) + 2)]) (rest := []) C hR mlX11_306 dX11_gift_19 (tX8_mutualTwos hY n 34 2 (lyNow hY) (lySea hY) e3) rfl rfl (isSt_0 (lyNow hY)) rfl (nle rfl) (nle rfl) (nle rfl) ?_
  refine r_istore_n [(1, .int u4), (0, .ref (wb (zw Z) + 0))] C dX11_gift_22 rfl (by decide) rfl ?_
  refine r_iconst C dX11_gift_23 ic_m1 ?_
  refine r_istore_n [(2, .int (-1)), (1, .int u4), (0, .ref (wb (zw Z) + 0))] C dX11_gift_24 rfl (by decide) rfl ?_
  refine r_iconst C dX11_gift_25 ic_0 ?_
  refine r_istore_n [(3, .int 0), (2, .int (-1)), (1, .int u4), (0, .ref (wb (zw Z) + 0))] C dX11_gift_26 rfl (by decide) rfl ?_
  refine r_sub [(0, .ref (wb (zw Z) + 0)), (1, .int u4), (2, .int (-1)), (3, .int 0)] [3, 2, 1, 0] rfl ?_
  obtain ⟨⟨u19, m20⟩, e21, h⟩ := bnd_inv h
  refine lp_all (sX11_gift_27 n) (fun q => match q with | (z1, z2, z3, ν) => Wm Z (0, 0, sh, R) (ν) 27 [(0, .ref (wb (zw Z) + 0)), (1, .int z1), (2, .int z2), (3, .int z3)] []) (fun q => match q with | (z2, ν) => Wm Z (0, 0, sh, R) (ν) 138 [(2, .int z2)] []) (fun q o h kin kex => ?_) n (u4, (-1), 0, m2) (u19, m20) e21 ?_
  · obtain ⟨z1, z2, z3, ν⟩ := q; exact lX11_gift_27 C hR hY n    z1 z2 z3 ν h (fun z1 z2 z3 ν e => kin (z1, z2, z3, ν) e) (fun z2 ν e => kex (z2, ν) e)
  show Wm Z (0, 0, sh, R) m20 138 [(2, .int u19)] []
  refine r_iload_n C dX11_gift_138 0 rfl ?_
  obtain ⟨h1, h2⟩ := Prod.mk.inj (Option.some.inj h)
  subst h1; subst h2
  exact r_iret C dX11_gift_139 hr hE
def fX11_heardCode (n : Nat) (x1 : Int32) (μ : Mu) : Option (Int32) := bnd (fX11_isTray n x1 μ) fun u2 => if u2 = 0 then (some (-2)) else (gd (ib x1 4) (bnd (fX10_isMissing n (129 + 2 * ix x1) μ) fun u6 => if u6 = 0 then (gd (ib x1 4) (bnd (fX11_within n (rI μ (129 + 2 * ix x1) 1) 1 24 μ) fun u10 => if u10 = 0 then (some (-4)) else (some 0))) else (some (-6))))
set_option maxRecDepth 100000 in
set_option maxHeartbeats 4000000 in
theorem tX11_heardCode {l : Launch} {w : WP} {sh : List Sh} {R : Rf} {μ : Mu} {r : Int32} (hY : LY sh R) (n : Nat) (x1 : Int32)  (h : fX11_heardCode n x1 μ = some r) : CM l w yX11_heardCode cX11_heardCode 2 (some .int) 1 0 0 sh R [.ref (wb w + 0), .int x1] μ (some (.int r)) sh R μ := by
  refine CM.of (plainFor_of_name pf_X11) (Nat.le_of_ble_eq_true rfl) fun Z C hr _ hR hw hl hE => ?_
  subst hw; subst hl
  have C : CX Z cX11_heardCode 2 RX11 := C
  show Wm Z (0, 0, sh, R) μ 0 [(0, .ref (wb (zw Z) + 0)), (1, .int x1)] []
  unfold fX11_heardCode at h
  refine r_aload_n C dX11_heardCode_0 0 rfl ?_
  refine r_iload_n C dX11_heardCode_1 1 rfl ?_
  obtain ⟨u2, e1, h⟩ := bnd_inv h
  refine r_cVi (As := [.int x1]) (rest := []) C hR mlX11_229 dX11_heardCode_2 (tX11_isTray hY n x1  e1) rfl rfl (ly0 hY) rfl (nle rfl) (nle rfl) (nle rfl) ?_
  refine r_if_ne 11 C dX11_heardCode_5 (by decide) (fun c3 => ?_) (fun c3 => ?_)
  · have h := (ite_inv h).2 c3
    refine r_aload_n C dX11_heardCode_11 0 rfl ?_
    refine r_getR C flX11_81 dX11_heardCode_12 (ly0 hY) rfl (lr0_12 hY) ?_
    refine r_iload_n C dX11_heardCode_15 1 rfl ?_
    obtain ⟨b4, h⟩ := gd_inv h
    refine r_aald C dX11_heardCode_16 (ly128 hY) (by decide) rfl rfl b4 (lyTray hY b4).2 ?_
    obtain ⟨u6, e5, h⟩ := bnd_inv h
    refine r_cVi (As := []) (rest := []) C hR mlX11_232 dX11_heardCode_17 (tX10_isMissing hY n (129 + 2 * ix x1) (lyTray hY b4).1 e5) rfl rfl (isTr_0 (lyTray hY b4).1) rfl (nle rfl) (nle rfl) (nle rfl) ?_
    refine r_if_eq 26 C dX11_heardCode_20 (by decide) (fun c7 => ?_) (fun c7 => ?_)
    · have h := (ite_inv h).1 c7
      refine r_aload_n C dX11_heardCode_26 0 rfl ?_
      refine r_getR C flX11_81 dX11_heardCode_27 (ly0 hY) rfl (lr0_12 hY) ?_
      refine r_iload_n C dX11_heardCode_30 1 rfl ?_
      obtain ⟨b8, h⟩ := gd_inv h
      refine r_aald C dX11_heardCode_31 (ly128 hY) (by decide) rfl rfl b8 (lyTray hY b8).2 ?_
      refine r_getI C flX11_242 dX11_heardCode_32 (isTr_0 (lyTray hY b8).1) rfl ?_
      refine r_iconst C dX11_heardCode_35 ic_1 ?_
      refine r_bipush C dX11_heardCode_36 bp_24 ?_
      obtain ⟨u10, e9, h⟩ := bnd_inv h
      refine r_cSi (As := [.int (rI μ (129 + 2 * ix x1) 1), .int 1, .int 24]) (rest := []) C hR mlX11_197 dX11_heardCode_38 (tX11_within hY n (rI μ (129 + 2 * ix x1) 1) 1 24  e9) rfl rfl (nle rfl) (nle rfl) (nle rfl) ?_
      refine r_if_eq 48 C dX11_heardCode_41 (by decide) (fun c11 => ?_) (fun c11 => ?_)
      · have h := (ite_inv h).1 c11
        refine r_bipush C dX11_heardCode_48 bp_m4 ?_
        have h := Option.some.inj h
        subst h
        exact r_iret C dX11_heardCode_50 hr hE
      · have h := (ite_inv h).2 c11
        refine r_iconst C dX11_heardCode_44 ic_0 ?_
        refine r_goto 50 C dX11_heardCode_45 (by decide) ?_
        have h := Option.some.inj h
        subst h
        exact r_iret C dX11_heardCode_50 hr hE
    · have h := (ite_inv h).2 c7
      refine r_bipush C dX11_heardCode_23 bp_m6 ?_
      have h := Option.some.inj h
      subst h
      exact r_iret C dX11_heardCode_25 hr hE
  · have h := (ite_inv h).1 c3
    refine r_bipush C dX11_heardCode_8 bp_m2 ?_
    have h := Option.some.inj h
    subst h
    exact r_iret C dX11_heardCode_10 hr hE
def sX11_slipsOf_5 (n : Nat) (a1 : Nat) (x2 : Int32) : Int32 × Int32 × Mu → Option ((Int32 × Int32 × Mu) ⊕ (Int32 × Mu)) := fun q => match q with | (x3, x4, μ) => if (rI μ a1 1) ≤ x4 then (some (.inr (x3, μ))) else (gd (ib x4 40) (if (lg_cmp (rL μ (a1 + 1) (ix x4)) (-1)) = 0 then (some (.inl (x3, x4 + 1, μ))) else (gd (ib x4 40) (bnd2 (fX11_soundIn n x2 x4 μ) fun u6 m7 => if (lg_cmp (rL μ (a1 + 1) (ix x4)) (u6.toInt64)) = 0 then (some (.inl (x3, x4 + 1, m7))) else (some (.inl (x3 + 1, x4 + 1, m7)))))))
set_option maxRecDepth 100000 in
set_option maxHeartbeats 4000000 in
theorem lX11_slipsOf_5 {Z : ZC} {sh : List Sh} {R : Rf} {o : (Int32 × Int32 × Mu) ⊕ (Int32 × Mu)} (C : CX Z cX11_slipsOf 5 RX11) (hR : zR Z = rm 5 0 0) (hY : LY sh R) (n : Nat) (a1 : Nat) (ha1 : isTr sh R a1) (x2 : Int32) (x3 : Int32) (x4 : Int32) (μ : Mu) (h : sX11_slipsOf_5 n a1 x2 (x3, x4, μ) = some o) (kin : ∀ (x3 : Int32) (x4 : Int32) (μ : Mu), o = .inl (x3, x4, μ) → Wm Z (0, 0, sh, R) μ 5 [(0, .ref (wb (zw Z) + 0)), (1, .ref (wb (zw Z) + a1)), (2, .int x2), (3, .int x3), (4, .int x4)] []) (kex0 : ∀ (x3 : Int32) (μ : Mu), o = .inr (x3, μ) → Wm Z (0, 0, sh, R) μ 56 [(3, .int x3)] []) : Wm Z (0, 0, sh, R) μ 5 [(0, .ref (wb (zw Z) + 0)), (1, .ref (wb (zw Z) + a1)), (2, .int x2), (3, .int x3), (4, .int x4)] [] := by
  unfold sX11_slipsOf_5 at h
  refine r_iload C dX11_slipsOf_5 4 rfl ?_
  refine r_aload_n C dX11_slipsOf_7 1 rfl ?_
  refine r_getI C flX11_242 dX11_slipsOf_8 (isTr_0 ha1) rfl ?_
  refine r_icmp_ge 56 C dX11_slipsOf_11 (by decide) (fun c1 => ?_) (fun c1 => ?_)
  · have h := (ite_inv h).1 c1
    refine r_sub [(3, .int x3)] [3] rfl ?_
    exact kex0 x3 μ (Option.some.inj h).symm
  · have h := (ite_inv h).2 c1
    refine r_aload_n C dX11_slipsOf_14 1 rfl ?_
    refine r_getR C flX11_243 dX11_slipsOf_15 (isTr_0 ha1) rfl (isTr_r0 ha1) ?_
    refine r_iload C dX11_slipsOf_18 4 rfl ?_
    obtain ⟨b2, h⟩ := gd_inv h
    refine r_lald C dX11_slipsOf_20 (isTr_1 ha1) b2 ?_
    refine r_ldc2 C dX11_slipsOf_21 klX11_366 ?_
    refine r_lcmp C dX11_slipsOf_24 ?_
    refine r_if_eq 50 C dX11_slipsOf_25 (by decide) (fun c3 => ?_) (fun c3 => ?_)
    · have h := (ite_inv h).1 c3
      refine r_iinc [(4, .int (x4 + 1)), (0, .ref (wb (zw Z) + 0)), (1, .ref (wb (zw Z) + a1)), (2, .int x2), (3, .int x3)] C dX11_slipsOf_50 4 rfl (in_1 _) (by decide) rfl ?_
      refine r_goto 5 C dX11_slipsOf_53 (by decide) ?_
      refine r_sub [(0, .ref (wb (zw Z) + 0)), (1, .ref (wb (zw Z) + a1)), (2, .int x2), (3, .int x3), (4, .int (x4 + 1))] [1, 2, 3, 4, 0] rfl ?_
      exact kin x3 (x4 + 1) μ (Option.some.inj h).symm
    · have h := (ite_inv h).2 c3
      refine r_aload_n C dX11_slipsOf_28 1 rfl ?_
      refine r_getR C flX11_243 dX11_slipsOf_29 (isTr_0 ha1) rfl (isTr_r0 ha1) ?_
      refine r_iload C dX11_slipsOf_32 4 rfl ?_
      obtain ⟨b4, h⟩ := gd_inv h
      refine r_lald C dX11_slipsOf_34 (isTr_1 ha1) b4 ?_
      refine r_aload_n C dX11_slipsOf_35 0 rfl ?_
      refine r_iload_n C dX11_slipsOf_36 2 rfl ?_
      refine r_iload C dX11_slipsOf_37 4 rfl ?_
      obtain ⟨u6, m7, e5, h⟩ := bnd2_inv h
      refine r_cVi (As := [.int x2, .int x4]) (rest := [.long (rL μ (a1 + 1) (ix x4))]) C hR mlX11_201 dX11_slipsOf_39 (tX11_soundIn hY n x2 x4  e5) rfl rfl (ly0 hY) rfl (nle rfl) (nle rfl) (nle rfl) ?_
      refine r_i2l C dX11_slipsOf_42 ?_
      refine r_lcmp C dX11_slipsOf_43 ?_
      refine r_if_eq 50 C dX11_slipsOf_44 (by decide) (fun c8 => ?_) (fun c8 => ?_)
      · have h := (ite_inv h).1 c8
        refine r_iinc [(4, .int (x4 + 1)), (0, .ref (wb (zw Z) + 0)), (1, .ref (wb (zw Z) + a1)), (2, .int x2), (3, .int x3)] C dX11_slipsOf_50 4 rfl (in_1 _) (by decide) rfl ?_
        refine r_goto 5 C dX11_slipsOf_53 (by decide) ?_
        refine r_sub [(0, .ref (wb (zw Z) + 0)), (1, .ref (wb (zw Z) + a1)), (2, .int x2), (3, .int x3), (4, .int (x4 + 1))] [1, 2, 3, 4, 0] rfl ?_
        exact kin x3 (x4 + 1) m7 (Option.some.inj h).symm
      · have h := (ite_inv h).2 c8
        refine r_iinc [(3, .int (x3 + 1)), (0, .ref (wb (zw Z) + 0)), (1, .ref (wb (zw Z) + a1)), (2, .int x2), (4, .int x4)] C dX11_slipsOf_47 3 rfl (in_1 _) (by decide) rfl ?_
        refine r_iinc [(4, .int (x4 + 1)), (3, .int (x3 + 1)), (0, .ref (wb (zw Z) + 0)), (1, .ref (wb (zw Z) + a1)), (2, .int x2)] C dX11_slipsOf_50 4 rfl (in_1 _) (by decide) rfl ?_
        refine r_goto 5 C dX11_slipsOf_53 (by decide) ?_
        refine r_sub [(0, .ref (wb (zw Z) + 0)), (1, .ref (wb (zw Z) + a1)), (2, .int x2), (3, .int (x3 + 1)), (4, .int (x4 + 1))] [2, 3, 4, 1, 0] rfl ?_
        exact kin (x3 + 1) (x4 + 1) m7 (Option.some.inj h).symm
def fX11_slipsOf (n : Nat) (a1 : Nat) (x2 : Int32) (μ : Mu) : Option (Int32 × Mu) := bnd (lp n (sX11_slipsOf_5 n a1 x2) (0, 0, μ)) fun q => match q with | (u9, m10) => some (u9, m10)
set_option maxRecDepth 100000 in
set_option maxHeartbeats 4000000 in
theorem tX11_slipsOf {l : Launch} {w : WP} {sh : List Sh} {R : Rf} {μ : Mu} {r : Int32} {μ' : Mu} (hY : LY sh R) (n : Nat) (a1 : Nat) (x2 : Int32) (ha1 : isTr sh R a1) (h : fX11_slipsOf n a1 x2 μ = some (r, μ')) : CM l w yX11_slipsOf cX11_slipsOf 5 (some .int) 5 0 0 sh R [.ref (wb w + 0), .ref (wb w + a1), .int x2] μ (some (.int r)) sh R μ' := by
  refine CM.of (plainFor_of_name pf_X11) (Nat.le_of_ble_eq_true rfl) fun Z C hr _ hR hw hl hE => ?_
  subst hw; subst hl
  have C : CX Z cX11_slipsOf 5 RX11 := C
  show Wm Z (0, 0, sh, R) μ 0 [(0, .ref (wb (zw Z) + 0)), (1, .ref (wb (zw Z) + a1)), (2, .int x2)] []
  unfold fX11_slipsOf at h
  refine r_iconst C dX11_slipsOf_0 ic_0 ?_
  refine r_istore_n [(3, .int 0), (0, .ref (wb (zw Z) + 0)), (1, .ref (wb (zw Z) + a1)), (2, .int x2)] C dX11_slipsOf_1 rfl (by decide) rfl ?_
  refine r_iconst C dX11_slipsOf_2 ic_0 ?_
  refine r_istore [(4, .int 0), (3, .int 0), (0, .ref (wb (zw Z) + 0)), (1, .ref (wb (zw Z) + a1)), (2, .int x2)] C dX11_slipsOf_3 (by decide) rfl ?_
  refine r_sub [(0, .ref (wb (zw Z) + 0)), (1, .ref (wb (zw Z) + a1)), (2, .int x2), (3, .int 0), (4, .int 0)] [2, 3, 4, 1, 0] rfl ?_
  obtain ⟨⟨u9, m10⟩, e11, h⟩ := bnd_inv h
  refine lp_all (sX11_slipsOf_5 n a1 x2) (fun q => match q with | (z3, z4, ν) => Wm Z (0, 0, sh, R) (ν) 5 [(0, .ref (wb (zw Z) + 0)), (1, .ref (wb (zw Z) + a1)), (2, .int x2), (3, .int z3), (4, .int z4)] []) (fun q => match q with | (z3, ν) => Wm Z (0, 0, sh, R) (ν) 56 [(3, .int z3)] []) (fun q o h kin kex => ?_) n (0, 0, μ) (u9, m10) e11 ?_
  · obtain ⟨z3, z4, ν⟩ := q; exact lX11_slipsOf_5 C hR hY n a1 ha1 x2 z3 z4 ν h (fun z3 z4 ν e => kin (z3, z4, ν) e) (fun z3 ν e => kex (z3, ν) e)
  show Wm Z (0, 0, sh, R) m10 56 [(3, .int u9)] []
  refine r_iload_n C dX11_slipsOf_56 0 rfl ?_
  obtain ⟨h1, h2⟩ := Prod.mk.inj (Option.some.inj h)
  subst h1; subst h2
  exact r_iret C dX11_slipsOf_57 hr hE
def sX11_fitting_4 (n : Nat) (a1 : Nat) : Int32 × Int32 × Mu → Option ((Int32 × Int32 × Mu) ⊕ (Int32 × Mu)) := fun q => match q with | (x2, x3, μ) => if (rI μ 2 0) ≤ x3 then (some (.inr (x2, μ))) else (bnd2 (fX11_slipsOf n a1 x3 μ) fun u3 m4 => if u3 = 0 then (some (.inl (x2 ||| (shl 1 x3), x3 + 1, m4))) else (some (.inl (x2, x3 + 1, m4))))
set_option maxRecDepth 100000 in
set_option maxHeartbeats 4000000 in
theorem lX11_fitting_4 {Z : ZC} {sh : List Sh} {R : Rf} {o : (Int32 × Int32 × Mu) ⊕ (Int32 × Mu)} (C : CX Z cX11_fitting 4 RX11) (hR : zR Z = rm 6 0 0) (hY : LY sh R) (n : Nat) (a1 : Nat) (ha1 : isTr sh R a1)  (x2 : Int32) (x3 : Int32) (μ : Mu) (h : sX11_fitting_4 n a1 (x2, x3, μ) = some o) (kin : ∀ (x2 : Int32) (x3 : Int32) (μ : Mu), o = .inl (x2, x3, μ) → Wm Z (0, 0, sh, R) μ 4 [(0, .ref (wb (zw Z) + 0)), (1, .ref (wb (zw Z) + a1)), (2, .int x2), (3, .int x3)] []) (kex0 : ∀ (x2 : Int32) (μ : Mu), o = .inr (x2, μ) → Wm Z (0, 0, sh, R) μ 36 [(2, .int x2)] []) : Wm Z (0, 0, sh, R) μ 4 [(0, .ref (wb (zw Z) + 0)), (1, .ref (wb (zw Z) + a1)), (2, .int x2), (3, .int x3)] [] := by
  unfold sX11_fitting_4 at h
  refine r_iload_n C dX11_fitting_4 3 rfl ?_
  refine r_aload_n C dX11_fitting_5 0 rfl ?_
  refine r_getR C flX11_26 dX11_fitting_6 (ly0 hY) rfl (lr0_4 hY) ?_
  refine r_getI C flX11_281 dX11_fitting_9 (isSea_0 (lySea hY)) rfl ?_
  refine r_icmp_ge 36 C dX11_fitting_12 (by decide) (fun c1 => ?_) (fun c1 => ?_)
  · have h := (ite_inv h).1 c1
    refine r_sub [(2, .int x2)] [2] rfl ?_
    exact kex0 x2 μ (Option.some.inj h).symm
  · have h := (ite_inv h).2 c1
    refine r_aload_n C dX11_fitting_15 0 rfl ?_
    refine r_aload_n C dX11_fitting_16 1 rfl ?_
    refine r_iload_n C dX11_fitting_17 3 rfl ?_
    obtain ⟨u3, m4, e2, h⟩ := bnd2_inv h
    refine r_cVi (As := [.ref (wb (zw Z) + a1), .int x3]) (rest := []) C hR mlX11_319 dX11_fitting_18 (tX11_slipsOf hY n a1 x3 ha1 e2) rfl rfl (ly0 hY) rfl (nle rfl) (nle rfl) (nle rfl) ?_
    refine r_if_ne 30 C dX11_fitting_21 (by decide) (fun c5 => ?_) (fun c5 => ?_)
    · have h := (ite_inv h).2 c5
      refine r_iinc [(3, .int (x3 + 1)), (0, .ref (wb (zw Z) + 0)), (1, .ref (wb (zw Z) + a1)), (2, .int x2)] C dX11_fitting_30 3 rfl (in_1 _) (by decide) rfl ?_
      refine r_goto 4 C dX11_fitting_33 (by decide) ?_
      refine r_sub [(0, .ref (wb (zw Z) + 0)), (1, .ref (wb (zw Z) + a1)), (2, .int x2), (3, .int (x3 + 1))] [1, 2, 3, 0] rfl ?_
      exact kin x2 (x3 + 1) m4 (Option.some.inj h).symm
    · have h := (ite_inv h).1 c5
      refine r_iload_n C dX11_fitting_24 2 rfl ?_
      refine r_iconst C dX11_fitting_25 ic_1 ?_
      refine r_iload_n C dX11_fitting_26 3 rfl ?_
      refine r_ishl C dX11_fitting_27 ?_
      refine r_ior C dX11_fitting_28 ?_
      refine r_istore_n [(2, .int (x2 ||| (shl 1 x3))), (0, .ref (wb (zw Z) + 0)), (1, .ref (wb (zw Z) + a1)), (3, .int x3)] C dX11_fitting_29 rfl (by decide) rfl ?_
      refine r_iinc [(3, .int (x3 + 1)), (2, .int (x2 ||| (shl 1 x3))), (0, .ref (wb (zw Z) + 0)), (1, .ref (wb (zw Z) + a1))] C dX11_fitting_30 3 rfl (in_1 _) (by decide) rfl ?_
      refine r_goto 4 C dX11_fitting_33 (by decide) ?_
      refine r_sub [(0, .ref (wb (zw Z) + 0)), (1, .ref (wb (zw Z) + a1)), (2, .int (x2 ||| (shl 1 x3))), (3, .int (x3 + 1))] [2, 3, 1, 0] rfl ?_
      exact kin (x2 ||| (shl 1 x3)) (x3 + 1) m4 (Option.some.inj h).symm
def fX11_fitting (n : Nat) (a1 : Nat) (μ : Mu) : Option (Int32 × Mu) := bnd (lp n (sX11_fitting_4 n a1) (0, 0, μ)) fun q => match q with | (u6, m7) => some (u6, m7)
set_option maxRecDepth 100000 in
set_option maxHeartbeats 4000000 in
theorem tX11_fitting {l : Launch} {w : WP} {sh : List Sh} {R : Rf} {μ : Mu} {r : Int32} {μ' : Mu} (hY : LY sh R) (n : Nat) (a1 : Nat) (ha1 : isTr sh R a1) (h : fX11_fitting n a1 μ = some (r, μ')) : CM l w yX11_fitting cX11_fitting 4 (some .int) 6 0 0 sh R [.ref (wb w + 0), .ref (wb w + a1)] μ (some (.int r)) sh R μ' := by
  refine CM.of (plainFor_of_name pf_X11) (Nat.le_of_ble_eq_true rfl) fun Z C hr _ hR hw hl hE => ?_
  subst hw; subst hl
  have C : CX Z cX11_fitting 4 RX11 := C
  show Wm Z (0, 0, sh, R) μ 0 [(0, .ref (wb (zw Z) + 0)), (1, .ref (wb (zw Z) + a1))] []
  unfold fX11_fitting at h
  refine r_iconst C dX11_fitting_0 ic_0 ?_
  refine r_istore_n [(2, .int 0), (0, .ref (wb (zw Z) + 0)), (1, .ref (wb (zw Z) + a1))] C dX11_fitting_1 rfl (by decide) rfl ?_
  refine r_iconst C dX11_fitting_2 ic_0 ?_
  refine r_istore_n [(3, .int 0), (2, .int 0), (0, .ref (wb (zw Z) + 0)), (1, .ref (wb (zw Z) + a1))] C dX11_fitting_3 rfl (by decide) rfl ?_
  refine r_sub [(0, .ref (wb (zw Z) + 0)), (1, .ref (wb (zw Z) + a1)), (2, .int 0), (3, .int 0)] [2, 3, 1, 0] rfl ?_
  obtain ⟨⟨u6, m7⟩, e8, h⟩ := bnd_inv h
  refine lp_all (sX11_fitting_4 n a1) (fun q => match q with | (z2, z3, ν) => Wm Z (0, 0, sh, R) (ν) 4 [(0, .ref (wb (zw Z) + 0)), (1, .ref (wb (zw Z) + a1)), (2, .int z2), (3, .int z3)] []) (fun q => match q with | (z2, ν) => Wm Z (0, 0, sh, R) (ν) 36 [(2, .int z2)] []) (fun q o h kin kex => ?_) n (0, 0, μ) (u6, m7) e8 ?_
  · obtain ⟨z2, z3, ν⟩ := q; exact lX11_fitting_4 C hR hY n a1 ha1  z2 z3 ν h (fun z2 z3 ν e => kin (z2, z3, ν) e) (fun z2 ν e => kex (z2, ν) e)
  show Wm Z (0, 0, sh, R) m7 36 [(2, .int u6)] []
  refine r_iload_n C dX11_fitting_36 0 rfl ?_
  obtain ⟨h1, h2⟩ := Prod.mk.inj (Option.some.inj h)
  subst h1; subst h2
  exact r_iret C dX11_fitting_37 hr hE
def fX11_fits (n : Nat) (x1 : Int32) (μ : Mu) : Option (Int32 × Mu) := bnd (fX11_heardCode n x1 μ) fun u2 => if u2 = 0 then (gd (ib x1 4) (bnd2 (fX11_fitting n (129 + 2 * ix x1) μ) fun u6 m7 => some (u6, m7))) else (some (u2, μ))
set_option maxRecDepth 100000 in
set_option maxHeartbeats 4000000 in
theorem tX11_fits {l : Launch} {w : WP} {sh : List Sh} {R : Rf} {μ : Mu} {r : Int32} {μ' : Mu} (hY : LY sh R) (n : Nat) (x1 : Int32)  (h : fX11_fits n x1 μ = some (r, μ')) : CM l w yX11_fits cX11_fits 3 (some .int) 7 0 0 sh R [.ref (wb w + 0), .int x1] μ (some (.int r)) sh R μ' := by
  refine CM.of (plainFor_of_name pf_X11) (Nat.le_of_ble_eq_true rfl) fun Z C hr _ hR hw hl hE => ?_
  subst hw; subst hl
  have C : CX Z cX11_fits 3 RX11 := C
  show Wm Z (0, 0, sh, R) μ 0 [(0, .ref (wb (zw Z) + 0)), (1, .int x1)] []
  unfold fX11_fits at h
  refine r_aload_n C dX11_fits_0 0 rfl ?_
  refine r_iload_n C dX11_fits_1 1 rfl ?_
  obtain ⟨u2, e1, h⟩ := bnd_inv h
  refine r_cVi (As := [.int x1]) (rest := []) C hR mlX11_312 dX11_fits_2 (tX11_heardCode hY n x1  e1) rfl rfl (ly0 hY) rfl (nle rfl) (nle rfl) (nle rfl) ?_
  refine r_istore_n [(2, .int u2), (0, .ref (wb (zw Z) + 0)), (1, .int x1)] C dX11_fits_5 rfl (by decide) rfl ?_
  refine r_iload_n C dX11_fits_6 0 rfl ?_
  refine r_if_ne 23 C dX11_fits_7 (by decide) (fun c3 => ?_) (fun c3 => ?_)
  · have h := (ite_inv h).2 c3
    refine r_iload_n C dX11_fits_23 0 rfl ?_
    obtain ⟨h1, h2⟩ := Prod.mk.inj (Option.some.inj h)
    subst h1; subst h2
    exact r_iret C dX11_fits_24 hr hE
  · have h := (ite_inv h).1 c3
    refine r_aload_n C dX11_fits_10 1 rfl ?_
    refine r_aload_n C dX11_fits_11 1 rfl ?_
    refine r_getR C flX11_81 dX11_fits_12 (ly0 hY) rfl (lr0_12 hY) ?_
    refine r_iload_n C dX11_fits_15 2 rfl ?_
    obtain ⟨b4, h⟩ := gd_inv h
    refine r_aald C dX11_fits_16 (ly128 hY) (by decide) rfl rfl b4 (lyTray hY b4).2 ?_
    obtain ⟨u6, m7, e5, h⟩ := bnd2_inv h
    refine r_cVi (As := [.ref (wb (zw Z) + (129 + 2 * ix x1))]) (rest := []) C hR mlX11_315 dX11_fits_17 (tX11_fitting hY n (129 + 2 * ix x1) (lyTray hY b4).1 e5) rfl rfl (ly0 hY) rfl (nle rfl) (nle rfl) (nle rfl) ?_
    refine r_goto 24 C dX11_fits_20 (by decide) ?_
    obtain ⟨h1, h2⟩ := Prod.mk.inj (Option.some.inj h)
    subst h1; subst h2
    exact r_iret C dX11_fits_24 hr hE
def fX11_slips (n : Nat) (x1 : Int32) (x2 : Int32) (μ : Mu) : Option (Int32 × Mu) := bnd (fX11_isBeach n x2 μ) fun u2 => if u2 = 0 then (some ((-2), μ)) else (bnd (fX11_heardCode n x1 μ) fun u5 => if u5 = 0 then (gd (ib x1 4) (bnd2 (fX11_slipsOf n (129 + 2 * ix x1) x2 μ) fun u9 m10 => some (u9, m10))) else (some (u5, μ)))
set_option maxRecDepth 100000 in
set_option maxHeartbeats 4000000 in
theorem tX11_slips {l : Launch} {w : WP} {sh : List Sh} {R : Rf} {μ : Mu} {r : Int32} {μ' : Mu} (hY : LY sh R) (n : Nat) (x1 : Int32) (x2 : Int32)  (h : fX11_slips n x1 x2 μ = some (r, μ')) : CM l w yX11_slips cX11_slips 4 (some .int) 6 0 0 sh R [.ref (wb w + 0), .int x1, .int x2] μ (some (.int r)) sh R μ' := by
  refine CM.of (plainFor_of_name pf_X11) (Nat.le_of_ble_eq_true rfl) fun Z C hr _ hR hw hl hE => ?_
  subst hw; subst hl
  have C : CX Z cX11_slips 4 RX11 := C
  show Wm Z (0, 0, sh, R) μ 0 [(0, .ref (wb (zw Z) + 0)), (1, .int x1), (2, .int x2)] []
  unfold fX11_slips at h
  refine r_aload_n C dX11_slips_0 0 rfl ?_
  refine r_iload_n C dX11_slips_1 2 rfl ?_
  obtain ⟨u2, e1, h⟩ := bnd_inv h
  refine r_cVi (As := [.int x2]) (rest := []) C hR mlX11_194 dX11_slips_2 (tX11_isBeach hY n x2  e1) rfl rfl (ly0 hY) rfl (nle rfl) (nle rfl) (nle rfl) ?_
  refine r_if_ne 11 C dX11_slips_5 (by decide) (fun c3 => ?_) (fun c3 => ?_)
  · have h := (ite_inv h).2 c3
    refine r_aload_n C dX11_slips_11 0 rfl ?_
    refine r_iload_n C dX11_slips_12 1 rfl ?_
    obtain ⟨u5, e4, h⟩ := bnd_inv h
    refine r_cVi (As := [.int x1]) (rest := []) C hR mlX11_312 dX11_slips_13 (tX11_heardCode hY n x1  e4) rfl rfl (ly0 hY) rfl (nle rfl) (nle rfl) (nle rfl) ?_
    refine r_istore_n [(3, .int u5), (0, .ref (wb (zw Z) + 0)), (1, .int x1), (2, .int x2)] C dX11_slips_16 rfl (by decide) rfl ?_
    refine r_iload_n C dX11_slips_17 0 rfl ?_
    refine r_if_ne 35 C dX11_slips_18 (by decide) (fun c6 => ?_) (fun c6 => ?_)
    · have h := (ite_inv h).2 c6
      refine r_iload_n C dX11_slips_35 0 rfl ?_
      obtain ⟨h1, h2⟩ := Prod.mk.inj (Option.some.inj h)
      subst h1; subst h2
      exact r_iret C dX11_slips_36 hr hE
    · have h := (ite_inv h).1 c6
      refine r_aload_n C dX11_slips_21 1 rfl ?_
      refine r_aload_n C dX11_slips_22 1 rfl ?_
      refine r_getR C flX11_81 dX11_slips_23 (ly0 hY) rfl (lr0_12 hY) ?_
      refine r_iload_n C dX11_slips_26 2 rfl ?_
      obtain ⟨b7, h⟩ := gd_inv h
      refine r_aald C dX11_slips_27 (ly128 hY) (by decide) rfl rfl b7 (lyTray hY b7).2 ?_
      refine r_iload_n C dX11_slips_28 3 rfl ?_
      obtain ⟨u9, m10, e8, h⟩ := bnd2_inv h
      refine r_cVi (As := [.ref (wb (zw Z) + (129 + 2 * ix x1)), .int x2]) (rest := []) C hR mlX11_319 dX11_slips_29 (tX11_slipsOf hY n (129 + 2 * ix x1) x2 (lyTray hY b7).1 e8) rfl rfl (ly0 hY) rfl (nle rfl) (nle rfl) (nle rfl) ?_
      refine r_goto 36 C dX11_slips_32 (by decide) ?_
      obtain ⟨h1, h2⟩ := Prod.mk.inj (Option.some.inj h)
      subst h1; subst h2
      exact r_iret C dX11_slips_36 hr hE
  · have h := (ite_inv h).1 c3
    refine r_bipush C dX11_slips_8 bp_m2 ?_
    obtain ⟨h1, h2⟩ := Prod.mk.inj (Option.some.inj h)
    subst h1; subst h2
    exact r_iret C dX11_slips_10 hr hE
def sX11_likeliest_21 (n : Nat) (x1 : Int32) : Int32 × Int32 × Int32 × Mu → Option ((Int32 × Int32 × Int32 × Mu) ⊕ (Int32 × Mu)) := fun q => match q with | (x3, x4, x5, μ) => if (rI μ 2 0) ≤ x5 then (some (.inr (x3, μ))) else (gd (ib x1 4) (bnd2 (fX11_slipsOf n (129 + 2 * ix x1) x5 μ) fun u7 m8 => if x4 ≤ u7 then (some (.inl (x3, x4, x5 + 1, m8))) else (some (.inl (x5, u7, x5 + 1, m8)))))
set_option maxRecDepth 100000 in
set_option maxHeartbeats 4000000 in
theorem lX11_likeliest_21 {Z : ZC} {sh : List Sh} {R : Rf} {o : (Int32 × Int32 × Int32 × Mu) ⊕ (Int32 × Mu)} (C : CX Z cX11_likeliest 7 RX11) (hR : zR Z = rm 6 0 0) (hY : LY sh R) (n : Nat) (x1 : Int32) (x3 : Int32) (x4 : Int32) (x5 : Int32) (μ : Mu) (h : sX11_likeliest_21 n x1 (x3, x4, x5, μ) = some o) (kin : ∀ (x3 : Int32) (x4 : Int32) (x5 : Int32) (μ : Mu), o = .inl (x3, x4, x5, μ) → Wm Z (0, 0, sh, R) μ 21 [(0, .ref (wb (zw Z) + 0)), (1, .int x1), (3, .int x3), (4, .int x4), (5, .int x5)] []) (kex0 : ∀ (x3 : Int32) (μ : Mu), o = .inr (x3, μ) → Wm Z (0, 0, sh, R) μ 67 [(3, .int x3)] []) : Wm Z (0, 0, sh, R) μ 21 [(0, .ref (wb (zw Z) + 0)), (1, .int x1), (3, .int x3), (4, .int x4), (5, .int x5)] [] := by
  unfold sX11_likeliest_21 at h
  refine r_iload C dX11_likeliest_21 4 rfl ?_
  refine r_aload_n C dX11_likeliest_23 0 rfl ?_
  refine r_getR C flX11_26 dX11_likeliest_24 (ly0 hY) rfl (lr0_4 hY) ?_
  refine r_getI C flX11_281 dX11_likeliest_27 (isSea_0 (lySea hY)) rfl ?_
  refine r_icmp_ge 67 C dX11_likeliest_30 (by decide) (fun c4 => ?_) (fun c4 => ?_)
  · have h := (ite_inv h).1 c4
    refine r_sub [(3, .int x3)] [2] rfl ?_
    exact kex0 x3 μ (Option.some.inj h).symm
  · have h := (ite_inv h).2 c4
    refine r_aload_n C dX11_likeliest_33 0 rfl ?_
    refine r_aload_n C dX11_likeliest_34 0 rfl ?_
    refine r_getR C flX11_81 dX11_likeliest_35 (ly0 hY) rfl (lr0_12 hY) ?_
    refine r_iload_n C dX11_likeliest_38 1 rfl ?_
    obtain ⟨b5, h⟩ := gd_inv h
    refine r_aald C dX11_likeliest_39 (ly128 hY) (by decide) rfl rfl b5 (lyTray hY b5).2 ?_
    refine r_iload C dX11_likeliest_40 4 rfl ?_
    obtain ⟨u7, m8, e6, h⟩ := bnd2_inv h
    refine r_cVi (As := [.ref (wb (zw Z) + (129 + 2 * ix x1)), .int x5]) (rest := []) C hR mlX11_319 dX11_likeliest_42 (tX11_slipsOf hY n (129 + 2 * ix x1) x5 (lyTray hY b5).1 e6) rfl rfl (ly0 hY) rfl (nle rfl) (nle rfl) (nle rfl) ?_
    refine r_istore [(6, .int u7), (0, .ref (wb (zw Z) + 0)), (1, .int x1), (3, .int x3), (4, .int x4), (5, .int x5)] C dX11_likeliest_45 (by decide) rfl ?_
    refine r_iload C dX11_likeliest_47 0 rfl ?_
    refine r_iload C dX11_likeliest_49 4 rfl ?_
    refine r_icmp_ge 61 C dX11_likeliest_51 (by decide) (fun c9 => ?_) (fun c9 => ?_)
    · have h := (ite_inv h).1 c9
      refine r_iinc [(5, .int (x5 + 1)), (6, .int u7), (0, .ref (wb (zw Z) + 0)), (1, .int x1), (3, .int x3), (4, .int x4)] C dX11_likeliest_61 5 rfl (in_1 _) (by decide) rfl ?_
      refine r_goto 21 C dX11_likeliest_64 (by decide) ?_
      refine r_sub [(0, .ref (wb (zw Z) + 0)), (1, .int x1), (3, .int x3), (4, .int x4), (5, .int (x5 + 1))] [2, 3, 4, 5, 0] rfl ?_
      exact kin x3 x4 (x5 + 1) m8 (Option.some.inj h).symm
    · have h := (ite_inv h).2 c9
      refine r_iload C dX11_likeliest_54 0 rfl ?_
      refine r_istore [(4, .int u7), (6, .int u7), (0, .ref (wb (zw Z) + 0)), (1, .int x1), (3, .int x3), (5, .int x5)] C dX11_likeliest_56 (by decide) rfl ?_
      refine r_iload C dX11_likeliest_58 5 rfl ?_
      refine r_istore_n [(3, .int x5), (4, .int u7), (6, .int u7), (0, .ref (wb (zw Z) + 0)), (1, .int x1), (5, .int x5)] C dX11_likeliest_60 rfl (by decide) rfl ?_
      refine r_iinc [(5, .int (x5 + 1)), (3, .int x5), (4, .int u7), (6, .int u7), (0, .ref (wb (zw Z) + 0)), (1, .int x1)] C dX11_likeliest_61 5 rfl (in_1 _) (by decide) rfl ?_
      refine r_goto 21 C dX11_likeliest_64 (by decide) ?_
      refine r_sub [(0, .ref (wb (zw Z) + 0)), (1, .int x1), (3, .int x5), (4, .int u7), (5, .int (x5 + 1))] [4, 5, 1, 2, 0] rfl ?_
      exact kin x5 u7 (x5 + 1) m8 (Option.some.inj h).symm
def fX11_likeliest (n : Nat) (x1 : Int32) (μ : Mu) : Option (Int32 × Mu) := bnd (fX11_heardCode n x1 μ) fun u2 => if u2 = 0 then (bnd (lp n (sX11_likeliest_21 n x1) ((-1), 25, 0, μ)) fun q => match q with | (u10, m11) => some (u10, m11)) else (some (u2, μ))
set_option maxRecDepth 100000 in
set_option maxHeartbeats 4000000 in
theorem tX11_likeliest {l : Launch} {w : WP} {sh : List Sh} {R : Rf} {μ : Mu} {r : Int32} {μ' : Mu} (hY : LY sh R) (n : Nat) (x1 : Int32)  (h : fX11_likeliest n x1 μ = some (r, μ')) : CM l w yX11_likeliest cX11_likeliest 7 (some .int) 6 0 0 sh R [.ref (wb w + 0), .int x1] μ (some (.int r)) sh R μ' := by
  refine CM.of (plainFor_of_name pf_X11) (Nat.le_of_ble_eq_true rfl) fun Z C hr _ hR hw hl hE => ?_
  subst hw; subst hl
  have C : CX Z cX11_likeliest 7 RX11 := C
  show Wm Z (0, 0, sh, R) μ 0 [(0, .ref (wb (zw Z) + 0)), (1, .int x1)] []
  unfold fX11_likeliest at h
  refine r_aload_n C dX11_likeliest_0 0 rfl ?_
  refine r_iload_n C dX11_likeliest_1 1 rfl ?_
  obtain ⟨u2, e1, h⟩ := bnd_inv h
  refine r_cVi (As := [.int x1]) (rest := []) C hR mlX11_312 dX11_likeliest_2 (tX11_heardCode hY n x1  e1) rfl rfl (ly0 hY) rfl (nle rfl) (nle rfl) (nle rfl) ?_
  refine r_istore_n [(2, .int u2), (0, .ref (wb (zw Z) + 0)), (1, .int x1)] C dX11_likeliest_5 rfl (by decide) rfl ?_
  refine r_iload_n C dX11_likeliest_6 0 rfl ?_
  refine r_if_eq 12 C dX11_likeliest_7 (by decide) (fun c3 => ?_) (fun c3 => ?_)
  · have h := (ite_inv h).1 c3
    refine r_iconst C dX11_likeliest_12 ic_m1 ?_
    refine r_istore_n [(3, .int (-1)), (2, .int u2), (0, .ref (wb (zw Z) + 0)), (1, .int x1)] C dX11_likeliest_13 rfl (by decide) rfl ?_
    refine r_bipush C dX11_likeliest_14 bp_25 ?_
    refine r_istore [(4, .int 25), (3, .int (-1)), (2, .int u2), (0, .ref (wb (zw Z) + 0)), (1, .int x1)] C dX11_likeliest_16 (by decide) rfl ?_
    refine r_iconst C dX11_likeliest_18 ic_0 ?_
    refine r_istore [(5, .int 0), (4, .int 25), (3, .int (-1)), (2, .int u2), (0, .ref (wb (zw Z) + 0)), (1, .int x1)] C dX11_likeliest_19 (by decide) rfl ?_
    refine r_sub [(0, .ref (wb (zw Z) + 0)), (1, .int x1), (3, .int (-1)), (4, .int 25), (5, .int 0)] [4, 5, 2, 1, 0] rfl ?_
    obtain ⟨⟨u10, m11⟩, e12, h⟩ := bnd_inv h
    refine lp_all (sX11_likeliest_21 n x1) (fun q => match q with | (z3, z4, z5, ν) => Wm Z (0, 0, sh, R) (ν) 21 [(0, .ref (wb (zw Z) + 0)), (1, .int x1), (3, .int z3), (4, .int z4), (5, .int z5)] []) (fun q => match q with | (z3, ν) => Wm Z (0, 0, sh, R) (ν) 67 [(3, .int z3)] []) (fun q o h kin kex => ?_) n ((-1), 25, 0, μ) (u10, m11) e12 ?_
    · obtain ⟨z3, z4, z5, ν⟩ := q; exact lX11_likeliest_21 C hR hY n   x1 z3 z4 z5 ν h (fun z3 z4 z5 ν e => kin (z3, z4, z5, ν) e) (fun z3 ν e => kex (z3, ν) e)
    show Wm Z (0, 0, sh, R) m11 67 [(3, .int u10)] []
    refine r_iload_n C dX11_likeliest_67 0 rfl ?_
    obtain ⟨h1, h2⟩ := Prod.mk.inj (Option.some.inj h)
    subst h1; subst h2
    exact r_iret C dX11_likeliest_68 hr hE
  · have h := (ite_inv h).2 c3
    refine r_iload_n C dX11_likeliest_10 0 rfl ?_
    obtain ⟨h1, h2⟩ := Prod.mk.inj (Option.some.inj h)
    subst h1; subst h2
    exact r_iret C dX11_likeliest_11 hr hE
def sX11_mostAlike_23 (n : Nat) (x1 : Int32) (x2 : Int32) (x3 : Int32) (x4 : Int32) : Int32 × Int32 × Mu → Option ((Int32 × Int32 × Mu) ⊕ (Int32 × Mu)) := fun q => match q with | (x5, x6, μ) => if (rI μ 2 0) ≤ x6 then (some (.inr (x5, μ))) else (if (if (((shr x1 x4) &&& (shr x1 x6)) &&& 1) = 1 then 1 else 0 : Int32) = 0 then (some (.inl (x5, x6 + 1, μ))) else (bnd2 (fX11_soundIn n x4 x2 μ) fun u6 m7 => bnd2 (fX11_soundIn n x6 x2 m7) fun u9 m10 => if u6 = u9 then (some (.inl (x5 + 1, x6 + 1, m10))) else (some (.inl (x5, x6 + 1, m10)))))
set_option maxRecDepth 100000 in
set_option maxHeartbeats 4000000 in
theorem lX11_mostAlike_23 {Z : ZC} {sh : List Sh} {R : Rf} {o : (Int32 × Int32 × Mu) ⊕ (Int32 × Mu)} (C : CX Z cX11_mostAlike 8 RX11) (hR : zR Z = rm 5 0 0) (hY : LY sh R) (n : Nat) (x1 : Int32) (x2 : Int32) (x3 : Int32) (x4 : Int32) (x5 : Int32) (x6 : Int32) (μ : Mu) (h : sX11_mostAlike_23 n x1 x2 x3 x4 (x5, x6, μ) = some o) (kin : ∀ (x5 : Int32) (x6 : Int32) (μ : Mu), o = .inl (x5, x6, μ) → Wm Z (0, 0, sh, R) μ 23 [(0, .ref (wb (zw Z) + 0)), (1, .int x1), (2, .int x2), (3, .int x3), (4, .int x4), (5, .int x5), (6, .int x6)] []) (kex0 : ∀ (x5 : Int32) (μ : Mu), o = .inr (x5, μ) → Wm Z (0, 0, sh, R) μ 88 [(0, .ref (wb (zw Z) + 0)), (1, .int x1), (2, .int x2), (3, .int x3), (4, .int x4), (5, .int x5)] []) : Wm Z (0, 0, sh, R) μ 23 [(0, .ref (wb (zw Z) + 0)), (1, .int x1), (2, .int x2), (3, .int x3), (4, .int x4), (5, .int x5), (6, .int x6)] [] := by
  unfold sX11_mostAlike_23 at h
  refine r_iload C dX11_mostAlike_23 6 rfl ?_
  refine r_aload_n C dX11_mostAlike_25 0 rfl ?_
  refine r_getR C flX11_26 dX11_mostAlike_26 (ly0 hY) rfl (lr0_4 hY) ?_
  refine r_getI C flX11_281 dX11_mostAlike_29 (isSea_0 (lySea hY)) rfl ?_
  refine r_icmp_ge 88 C dX11_mostAlike_32 (by decide) (fun c2 => ?_) (fun c2 => ?_)
  · have h := (ite_inv h).1 c2
    refine r_sub [(0, .ref (wb (zw Z) + 0)), (1, .int x1), (2, .int x2), (3, .int x3), (4, .int x4), (5, .int x5)] [0, 1, 2, 3, 4, 5] rfl ?_
    exact kex0 x5 μ (Option.some.inj h).symm
  · have h := (ite_inv h).2 c2
    refine r_iload_n C dX11_mostAlike_35 1 rfl ?_
    refine r_iload C dX11_mostAlike_36 4 rfl ?_
    refine r_ishr C dX11_mostAlike_38 ?_
    refine r_iload_n C dX11_mostAlike_39 1 rfl ?_
    refine r_iload C dX11_mostAlike_40 6 rfl ?_
    refine r_ishr C dX11_mostAlike_42 ?_
    refine r_iand C dX11_mostAlike_43 ?_
    refine r_iconst C dX11_mostAlike_44 ic_1 ?_
    refine r_iand C dX11_mostAlike_45 ?_
    refine r_iconst C dX11_mostAlike_46 ic_1 ?_
    suffices hj : Wm Z (0, 0, sh, R) μ 55 [(0, .ref (wb (zw Z) + 0)), (1, .int x1), (2, .int x2), (3, .int x3), (4, .int x4), (5, .int x5), (6, .int x6)] [.int (if (((shr x1 x4) &&& (shr x1 x6)) &&& 1) = 1 then 1 else 0 : Int32)] by
      refine r_icmp_ne 54 C dX11_mostAlike_47 (by decide) (fun c3 => ?_) (fun c3 => ?_)
      · refine r_iconst C dX11_mostAlike_54 ic_0 ?_
        exact sel_f c3 hj
      · refine r_iconst C dX11_mostAlike_50 ic_1 ?_
        refine r_goto 55 C dX11_mostAlike_51 (by decide) ?_
        exact sel_t c3 hj
    refine r_istore [(7, .int (if (((shr x1 x4) &&& (shr x1 x6)) &&& 1) = 1 then 1 else 0 : Int32)), (0, .ref (wb (zw Z) + 0)), (1, .int x1), (2, .int x2), (3, .int x3), (4, .int x4), (5, .int x5), (6, .int x6)] C dX11_mostAlike_55 (by decide) rfl ?_
    refine r_iload C dX11_mostAlike_57 0 rfl ?_
    refine r_if_eq 82 C dX11_mostAlike_59 (by decide) (fun c4 => ?_) (fun c4 => ?_)
    · have h := (ite_inv h).1 c4
      refine r_iinc [(6, .int (x6 + 1)), (7, .int (if (((shr x1 x4) &&& (shr x1 x6)) &&& 1) = 1 then 1 else 0 : Int32)), (0, .ref (wb (zw Z) + 0)), (1, .int x1), (2, .int x2), (3, .int x3), (4, .int x4), (5, .int x5)] C dX11_mostAlike_82 7 rfl (in_1 _) (by decide) rfl ?_
      refine r_goto 23 C dX11_mostAlike_85 (by decide) ?_
      refine r_sub [(0, .ref (wb (zw Z) + 0)), (1, .int x1), (2, .int x2), (3, .int x3), (4, .int x4), (5, .int x5), (6, .int (x6 + 1))] [2, 3, 4, 5, 6, 7, 0] rfl ?_
      exact kin x5 (x6 + 1) μ (Option.some.inj h).symm
    · have h := (ite_inv h).2 c4
      refine r_aload_n C dX11_mostAlike_62 1 rfl ?_
      refine r_iload C dX11_mostAlike_63 5 rfl ?_
      refine r_iload_n C dX11_mostAlike_65 3 rfl ?_
      obtain ⟨u6, m7, e5, h⟩ := bnd2_inv h
      refine r_cVi (As := [.int x4, .int x2]) (rest := []) C hR mlX11_201 dX11_mostAlike_66 (tX11_soundIn hY n x4 x2  e5) rfl rfl (ly0 hY) rfl (nle rfl) (nle rfl) (nle rfl) ?_
      refine r_aload_n C dX11_mostAlike_69 1 rfl ?_
      refine r_iload C dX11_mostAlike_70 7 rfl ?_
      refine r_iload_n C dX11_mostAlike_72 3 rfl ?_
      obtain ⟨u9, m10, e8, h⟩ := bnd2_inv h
      refine r_cVi (As := [.int x6, .int x2]) (rest := [.int u6]) C hR mlX11_201 dX11_mostAlike_73 (tX11_soundIn hY n x6 x2  e8) rfl rfl (ly0 hY) rfl (nle rfl) (nle rfl) (nle rfl) ?_
      refine r_icmp_ne 82 C dX11_mostAlike_76 (by decide) (fun c11 => ?_) (fun c11 => ?_)
      · have h := (ite_inv h).2 c11
        refine r_iinc [(6, .int (x6 + 1)), (7, .int (if (((shr x1 x4) &&& (shr x1 x6)) &&& 1) = 1 then 1 else 0 : Int32)), (0, .ref (wb (zw Z) + 0)), (1, .int x1), (2, .int x2), (3, .int x3), (4, .int x4), (5, .int x5)] C dX11_mostAlike_82 7 rfl (in_1 _) (by decide) rfl ?_
        refine r_goto 23 C dX11_mostAlike_85 (by decide) ?_
        refine r_sub [(0, .ref (wb (zw Z) + 0)), (1, .int x1), (2, .int x2), (3, .int x3), (4, .int x4), (5, .int x5), (6, .int (x6 + 1))] [2, 3, 4, 5, 6, 7, 0] rfl ?_
        exact kin x5 (x6 + 1) m10 (Option.some.inj h).symm
      · have h := (ite_inv h).1 c11
        refine r_iinc [(5, .int (x5 + 1)), (7, .int (if (((shr x1 x4) &&& (shr x1 x6)) &&& 1) = 1 then 1 else 0 : Int32)), (0, .ref (wb (zw Z) + 0)), (1, .int x1), (2, .int x2), (3, .int x3), (4, .int x4), (6, .int x6)] C dX11_mostAlike_79 6 rfl (in_1 _) (by decide) rfl ?_
        refine r_iinc [(6, .int (x6 + 1)), (5, .int (x5 + 1)), (7, .int (if (((shr x1 x4) &&& (shr x1 x6)) &&& 1) = 1 then 1 else 0 : Int32)), (0, .ref (wb (zw Z) + 0)), (1, .int x1), (2, .int x2), (3, .int x3), (4, .int x4)] C dX11_mostAlike_82 7 rfl (in_1 _) (by decide) rfl ?_
        refine r_goto 23 C dX11_mostAlike_85 (by decide) ?_
        refine r_sub [(0, .ref (wb (zw Z) + 0)), (1, .int x1), (2, .int x2), (3, .int x3), (4, .int x4), (5, .int (x5 + 1)), (6, .int (x6 + 1))] [3, 4, 5, 6, 7, 1, 0] rfl ?_
        exact kin (x5 + 1) (x6 + 1) m10 (Option.some.inj h).symm
def sX11_mostAlike_5 (n : Nat) (x1 : Int32) (x2 : Int32) : Int32 × Int32 × Mu → Option ((Int32 × Int32 × Mu) ⊕ (Int32 × Mu)) := fun q => match q with | (x3, x4, μ) => if (rI μ 2 0) ≤ x4 then (some (.inr (x3, μ))) else (bnd (lp n (sX11_mostAlike_23 n x1 x2 x3 x4) (0, 0, μ)) fun q => match q with | (u12, m13) => some (.inl (jmax x3 u12, x4 + 1, m13)))
set_option maxRecDepth 100000 in
set_option maxHeartbeats 4000000 in
theorem lX11_mostAlike_5 {Z : ZC} {sh : List Sh} {R : Rf} {o : (Int32 × Int32 × Mu) ⊕ (Int32 × Mu)} (C : CX Z cX11_mostAlike 8 RX11) (hR : zR Z = rm 5 0 0) (hY : LY sh R) (n : Nat) (x1 : Int32) (x2 : Int32) (x3 : Int32) (x4 : Int32) (μ : Mu) (h : sX11_mostAlike_5 n x1 x2 (x3, x4, μ) = some o) (kin : ∀ (x3 : Int32) (x4 : Int32) (μ : Mu), o = .inl (x3, x4, μ) → Wm Z (0, 0, sh, R) μ 5 [(0, .ref (wb (zw Z) + 0)), (1, .int x1), (2, .int x2), (3, .int x3), (4, .int x4)] []) (kex0 : ∀ (x3 : Int32) (μ : Mu), o = .inr (x3, μ) → Wm Z (0, 0, sh, R) μ 101 [(3, .int x3)] []) : Wm Z (0, 0, sh, R) μ 5 [(0, .ref (wb (zw Z) + 0)), (1, .int x1), (2, .int x2), (3, .int x3), (4, .int x4)] [] := by
  unfold sX11_mostAlike_5 at h
  refine r_iload C dX11_mostAlike_5 4 rfl ?_
  refine r_aload_n C dX11_mostAlike_7 0 rfl ?_
  refine r_getR C flX11_26 dX11_mostAlike_8 (ly0 hY) rfl (lr0_4 hY) ?_
  refine r_getI C flX11_281 dX11_mostAlike_11 (isSea_0 (lySea hY)) rfl ?_
  refine r_icmp_ge 101 C dX11_mostAlike_14 (by decide) (fun c1 => ?_) (fun c1 => ?_)
  · have h := (ite_inv h).1 c1
    refine r_sub [(3, .int x3)] [3] rfl ?_
    exact kex0 x3 μ (Option.some.inj h).symm
  · have h := (ite_inv h).2 c1
    refine r_iconst C dX11_mostAlike_17 ic_0 ?_
    refine r_istore [(5, .int 0), (0, .ref (wb (zw Z) + 0)), (1, .int x1), (2, .int x2), (3, .int x3), (4, .int x4)] C dX11_mostAlike_18 (by decide) rfl ?_
    refine r_iconst C dX11_mostAlike_20 ic_0 ?_
    refine r_istore [(6, .int 0), (5, .int 0), (0, .ref (wb (zw Z) + 0)), (1, .int x1), (2, .int x2), (3, .int x3), (4, .int x4)] C dX11_mostAlike_21 (by decide) rfl ?_
    refine r_sub [(0, .ref (wb (zw Z) + 0)), (1, .int x1), (2, .int x2), (3, .int x3), (4, .int x4), (5, .int 0), (6, .int 0)] [2, 3, 4, 5, 6, 1, 0] rfl ?_
    obtain ⟨⟨u12, m13⟩, e14, h⟩ := bnd_inv h
    refine lp_all (sX11_mostAlike_23 n x1 x2 x3 x4) (fun q => match q with | (z5, z6, ν) => Wm Z (0, 0, sh, R) (ν) 23 [(0, .ref (wb (zw Z) + 0)), (1, .int x1), (2, .int x2), (3, .int x3), (4, .int x4), (5, .int z5), (6, .int z6)] []) (fun q => match q with | (z5, ν) => Wm Z (0, 0, sh, R) (ν) 88 [(0, .ref (wb (zw Z) + 0)), (1, .int x1), (2, .int x2), (3, .int x3), (4, .int x4), (5, .int z5)] []) (fun q o h kin kex => ?_) n (0, 0, μ) (u12, m13) e14 ?_
    · obtain ⟨z5, z6, ν⟩ := q; exact lX11_mostAlike_23 C hR hY n   x1 x2 x3 x4 z5 z6 ν h (fun z5 z6 ν e => kin (z5, z6, ν) e) (fun z5 ν e => kex (z5, ν) e)
    show Wm Z (0, 0, sh, R) m13 88 [(0, .ref (wb (zw Z) + 0)), (1, .int x1), (2, .int x2), (3, .int x3), (4, .int x4), (5, .int u12)] []
    refine r_iload_n C dX11_mostAlike_88 3 rfl ?_
    refine r_iload C dX11_mostAlike_89 5 rfl ?_
    refine r_cSi (As := [.int x3, .int u12]) (rest := []) C hR mlX11_368 dX11_mostAlike_91 (t_jmax hY) rfl rfl (nle rfl) (nle rfl) (nle rfl) ?_
    refine r_istore_n [(3, .int (jmax x3 u12)), (0, .ref (wb (zw Z) + 0)), (1, .int x1), (2, .int x2), (4, .int x4), (5, .int u12)] C dX11_mostAlike_94 rfl (by decide) rfl ?_
    refine r_iinc [(4, .int (x4 + 1)), (3, .int (jmax x3 u12)), (0, .ref (wb (zw Z) + 0)), (1, .int x1), (2, .int x2), (5, .int u12)] C dX11_mostAlike_95 4 rfl (in_1 _) (by decide) rfl ?_
    refine r_goto 5 C dX11_mostAlike_98 (by decide) ?_
    refine r_sub [(0, .ref (wb (zw Z) + 0)), (1, .int x1), (2, .int x2), (3, .int (jmax x3 u12)), (4, .int (x4 + 1))] [2, 3, 4, 1, 0] rfl ?_
    exact kin (jmax x3 u12) (x4 + 1) m13 (Option.some.inj h).symm
def fX11_mostAlike (n : Nat) (x1 : Int32) (x2 : Int32) (μ : Mu) : Option (Int32 × Mu) := bnd (lp n (sX11_mostAlike_5 n x1 x2) (0, 0, μ)) fun q => match q with | (u15, m16) => some (u15, m16)
set_option maxRecDepth 100000 in
set_option maxHeartbeats 4000000 in
theorem tX11_mostAlike {l : Launch} {w : WP} {sh : List Sh} {R : Rf} {μ : Mu} {r : Int32} {μ' : Mu} (hY : LY sh R) (n : Nat) (x1 : Int32) (x2 : Int32)  (h : fX11_mostAlike n x1 x2 μ = some (r, μ')) : CM l w yX11_mostAlike cX11_mostAlike 8 (some .int) 5 0 0 sh R [.ref (wb w + 0), .int x1, .int x2] μ (some (.int r)) sh R μ' := by
  refine CM.of (plainFor_of_name pf_X11) (Nat.le_of_ble_eq_true rfl) fun Z C hr _ hR hw hl hE => ?_
  subst hw; subst hl
  have C : CX Z cX11_mostAlike 8 RX11 := C
  show Wm Z (0, 0, sh, R) μ 0 [(0, .ref (wb (zw Z) + 0)), (1, .int x1), (2, .int x2)] []
  unfold fX11_mostAlike at h
  refine r_iconst C dX11_mostAlike_0 ic_0 ?_
  refine r_istore_n [(3, .int 0), (0, .ref (wb (zw Z) + 0)), (1, .int x1), (2, .int x2)] C dX11_mostAlike_1 rfl (by decide) rfl ?_
  refine r_iconst C dX11_mostAlike_2 ic_0 ?_
  refine r_istore [(4, .int 0), (3, .int 0), (0, .ref (wb (zw Z) + 0)), (1, .int x1), (2, .int x2)] C dX11_mostAlike_3 (by decide) rfl ?_
  refine r_sub [(0, .ref (wb (zw Z) + 0)), (1, .int x1), (2, .int x2), (3, .int 0), (4, .int 0)] [2, 3, 4, 1, 0] rfl ?_
  obtain ⟨⟨u15, m16⟩, e17, h⟩ := bnd_inv h
  refine lp_all (sX11_mostAlike_5 n x1 x2) (fun q => match q with | (z3, z4, ν) => Wm Z (0, 0, sh, R) (ν) 5 [(0, .ref (wb (zw Z) + 0)), (1, .int x1), (2, .int x2), (3, .int z3), (4, .int z4)] []) (fun q => match q with | (z3, ν) => Wm Z (0, 0, sh, R) (ν) 101 [(3, .int z3)] []) (fun q o h kin kex => ?_) n (0, 0, μ) (u15, m16) e17 ?_
  · obtain ⟨z3, z4, ν⟩ := q; exact lX11_mostAlike_5 C hR hY n   x1 x2 z3 z4 ν h (fun z3 z4 ν e => kin (z3, z4, ν) e) (fun z3 ν e => kex (z3, ν) e)
  show Wm Z (0, 0, sh, R) m16 101 [(3, .int u15)] []
  refine r_iload_n C dX11_mostAlike_101 0 rfl ?_
  obtain ⟨h1, h2⟩ := Prod.mk.inj (Option.some.inj h)
  subst h1; subst h2
  exact r_iret C dX11_mostAlike_102 hr hE
def sX11_look_39 (n : Nat) (x3 : Int32) : Int32 × Int32 × Int32 × Mu → Option ((Int32 × Int32 × Int32 × Mu) ⊕ (Int32 × Mu)) := fun q => match q with | (x4, x5, x6, μ) => if 99 < x6 then (some (.inr (x4, μ))) else (bnd2 (fX11_mostAlike n x3 x6 μ) fun u11 m12 => if x5 ≤ u11 then (some (.inl (x4, x5, x6 + 1, m12))) else (some (.inl (x6, u11, x6 + 1, m12))))
set_option maxRecDepth 100000 in
set_option maxHeartbeats 4000000 in
theorem lX11_look_39 {Z : ZC} {sh : List Sh} {R : Rf} {o : (Int32 × Int32 × Int32 × Mu) ⊕ (Int32 × Mu)} (C : CX Z cX11_look 8 RX11) (hR : zR Z = rm 7 0 0) (hY : LY sh R) (n : Nat) (x3 : Int32) (x4 : Int32) (x5 : Int32) (x6 : Int32) (μ : Mu) (h : sX11_look_39 n x3 (x4, x5, x6, μ) = some o) (kin : ∀ (x4 : Int32) (x5 : Int32) (x6 : Int32) (μ : Mu), o = .inl (x4, x5, x6, μ) → Wm Z (0, 0, sh, R) μ 39 [(0, .ref (wb (zw Z) + 0)), (3, .int x3), (4, .int x4), (5, .int x5), (6, .int x6)] []) (kex0 : ∀ (x4 : Int32) (μ : Mu), o = .inr (x4, μ) → Wm Z (0, 0, sh, R) μ 76 [(4, .int x4)] []) : Wm Z (0, 0, sh, R) μ 39 [(0, .ref (wb (zw Z) + 0)), (3, .int x3), (4, .int x4), (5, .int x5), (6, .int x6)] [] := by
  unfold sX11_look_39 at h
  refine r_iload C dX11_look_39 4 rfl ?_
  refine r_bipush C dX11_look_41 bp_99 ?_
  refine r_icmp_gt 76 C dX11_look_43 (by decide) (fun c9 => ?_) (fun c9 => ?_)
  · have h := (ite_inv h).1 c9
    refine r_sub [(4, .int x4)] [2] rfl ?_
    exact kex0 x4 μ (Option.some.inj h).symm
  · have h := (ite_inv h).2 c9
    refine r_aload_n C dX11_look_46 0 rfl ?_
    refine r_iload_n C dX11_look_47 1 rfl ?_
    refine r_iload C dX11_look_48 4 rfl ?_
    obtain ⟨u11, m12, e10, h⟩ := bnd2_inv h
    refine r_cVi (As := [.int x3, .int x6]) (rest := []) C hR mlX11_323 dX11_look_50 (tX11_mostAlike hY n x3 x6  e10) rfl rfl (ly0 hY) rfl (nle rfl) (nle rfl) (nle rfl) ?_
    refine r_istore [(7, .int u11), (0, .ref (wb (zw Z) + 0)), (3, .int x3), (4, .int x4), (5, .int x5), (6, .int x6)] C dX11_look_53 (by decide) rfl ?_
    refine r_iload C dX11_look_55 0 rfl ?_
    refine r_iload C dX11_look_57 4 rfl ?_
    refine r_icmp_ge 70 C dX11_look_59 (by decide) (fun c13 => ?_) (fun c13 => ?_)
    · have h := (ite_inv h).1 c13
      refine r_iinc [(6, .int (x6 + 1)), (7, .int u11), (0, .ref (wb (zw Z) + 0)), (3, .int x3), (4, .int x4), (5, .int x5)] C dX11_look_70 5 rfl (in_1 _) (by decide) rfl ?_
      refine r_goto 39 C dX11_look_73 (by decide) ?_
      refine r_sub [(0, .ref (wb (zw Z) + 0)), (3, .int x3), (4, .int x4), (5, .int x5), (6, .int (x6 + 1))] [2, 3, 4, 5, 0] rfl ?_
      exact kin x4 x5 (x6 + 1) m12 (Option.some.inj h).symm
    · have h := (ite_inv h).2 c13
      refine r_iload C dX11_look_62 0 rfl ?_
      refine r_istore [(5, .int u11), (7, .int u11), (0, .ref (wb (zw Z) + 0)), (3, .int x3), (4, .int x4), (6, .int x6)] C dX11_look_64 (by decide) rfl ?_
      refine r_iload C dX11_look_66 5 rfl ?_
      refine r_istore [(4, .int x6), (5, .int u11), (7, .int u11), (0, .ref (wb (zw Z) + 0)), (3, .int x3), (6, .int x6)] C dX11_look_68 (by decide) rfl ?_
      refine r_iinc [(6, .int (x6 + 1)), (4, .int x6), (5, .int u11), (7, .int u11), (0, .ref (wb (zw Z) + 0)), (3, .int x3)] C dX11_look_70 5 rfl (in_1 _) (by decide) rfl ?_
      refine r_goto 39 C dX11_look_73 (by decide) ?_
      refine r_sub [(0, .ref (wb (zw Z) + 0)), (3, .int x3), (4, .int x6), (5, .int u11), (6, .int (x6 + 1))] [4, 5, 1, 2, 0] rfl ?_
      exact kin x6 u11 (x6 + 1) m12 (Option.some.inj h).symm
def fX11_look (n : Nat) (x1 : Int32) (μ : Mu) : Option (Int32 × Mu) := bnd (fX11_heardCode n x1 μ) fun u2 => if u2 = 0 then (gd (ib x1 4) (bnd2 (fX11_fitting n (129 + 2 * ix x1) μ) fun u6 m7 => if u6 = 0 then (some ((-1), m7)) else (bnd (lp n (sX11_look_39 n u6) ((-1), 7, 0, m7)) fun q => match q with | (u14, m15) => some (u14, m15)))) else (some (u2, μ))
set_option maxRecDepth 100000 in
set_option maxHeartbeats 4000000 in
theorem tX11_look {l : Launch} {w : WP} {sh : List Sh} {R : Rf} {μ : Mu} {r : Int32} {μ' : Mu} (hY : LY sh R) (n : Nat) (x1 : Int32)  (h : fX11_look n x1 μ = some (r, μ')) : CM l w yX11_look cX11_look 8 (some .int) 7 0 0 sh R [.ref (wb w + 0), .int x1] μ (some (.int r)) sh R μ' := by
  refine CM.of (plainFor_of_name pf_X11) (Nat.le_of_ble_eq_true rfl) fun Z C hr _ hR hw hl hE => ?_
  subst hw; subst hl
  have C : CX Z cX11_look 8 RX11 := C
  show Wm Z (0, 0, sh, R) μ 0 [(0, .ref (wb (zw Z) + 0)), (1, .int x1)] []
  unfold fX11_look at h
  refine r_aload_n C dX11_look_0 0 rfl ?_
  refine r_iload_n C dX11_look_1 1 rfl ?_
  obtain ⟨u2, e1, h⟩ := bnd_inv h
  refine r_cVi (As := [.int x1]) (rest := []) C hR mlX11_312 dX11_look_2 (tX11_heardCode hY n x1  e1) rfl rfl (ly0 hY) rfl (nle rfl) (nle rfl) (nle rfl) ?_
  refine r_istore_n [(2, .int u2), (0, .ref (wb (zw Z) + 0)), (1, .int x1)] C dX11_look_5 rfl (by decide) rfl ?_
  refine r_iload_n C dX11_look_6 0 rfl ?_
  refine r_if_eq 12 C dX11_look_7 (by decide) (fun c3 => ?_) (fun c3 => ?_)
  · have h := (ite_inv h).1 c3
    refine r_aload_n C dX11_look_12 1 rfl ?_
    refine r_aload_n C dX11_look_13 1 rfl ?_
    refine r_getR C flX11_81 dX11_look_14 (ly0 hY) rfl (lr0_12 hY) ?_
    refine r_iload_n C dX11_look_17 2 rfl ?_
    obtain ⟨b4, h⟩ := gd_inv h
    refine r_aald C dX11_look_18 (ly128 hY) (by decide) rfl rfl b4 (lyTray hY b4).2 ?_
    obtain ⟨u6, m7, e5, h⟩ := bnd2_inv h
    refine r_cVi (As := [.ref (wb (zw Z) + (129 + 2 * ix x1))]) (rest := []) C hR mlX11_315 dX11_look_19 (tX11_fitting hY n (129 + 2 * ix x1) (lyTray hY b4).1 e5) rfl rfl (ly0 hY) rfl (nle rfl) (nle rfl) (nle rfl) ?_
    refine r_istore_n [(3, .int u6), (2, .int u2), (0, .ref (wb (zw Z) + 0)), (1, .int x1)] C dX11_look_22 rfl (by decide) rfl ?_
    refine r_iload_n C dX11_look_23 0 rfl ?_
    refine r_if_ne 29 C dX11_look_24 (by decide) (fun c8 => ?_) (fun c8 => ?_)
    · have h := (ite_inv h).2 c8
      refine r_iconst C dX11_look_29 ic_m1 ?_
      refine r_istore [(4, .int (-1)), (3, .int u6), (2, .int u2), (0, .ref (wb (zw Z) + 0)), (1, .int x1)] C dX11_look_30 (by decide) rfl ?_
      refine r_bipush C dX11_look_32 bp_7 ?_
      refine r_istore [(5, .int 7), (4, .int (-1)), (3, .int u6), (2, .int u2), (0, .ref (wb (zw Z) + 0)), (1, .int x1)] C dX11_look_34 (by decide) rfl ?_
      refine r_iconst C dX11_look_36 ic_0 ?_
      refine r_istore [(6, .int 0), (5, .int 7), (4, .int (-1)), (3, .int u6), (2, .int u2), (0, .ref (wb (zw Z) + 0)), (1, .int x1)] C dX11_look_37 (by decide) rfl ?_
      refine r_sub [(0, .ref (wb (zw Z) + 0)), (3, .int u6), (4, .int (-1)), (5, .int 7), (6, .int 0)] [5, 3, 2, 1, 0] rfl ?_
      obtain ⟨⟨u14, m15⟩, e16, h⟩ := bnd_inv h
      refine lp_all (sX11_look_39 n u6) (fun q => match q with | (z4, z5, z6, ν) => Wm Z (0, 0, sh, R) (ν) 39 [(0, .ref (wb (zw Z) + 0)), (3, .int u6), (4, .int z4), (5, .int z5), (6, .int z6)] []) (fun q => match q with | (z4, ν) => Wm Z (0, 0, sh, R) (ν) 76 [(4, .int z4)] []) (fun q o h kin kex => ?_) n ((-1), 7, 0, m7) (u14, m15) e16 ?_
      · obtain ⟨z4, z5, z6, ν⟩ := q; exact lX11_look_39 C hR hY n   u6 z4 z5 z6 ν h (fun z4 z5 z6 ν e => kin (z4, z5, z6, ν) e) (fun z4 ν e => kex (z4, ν) e)
      show Wm Z (0, 0, sh, R) m15 76 [(4, .int u14)] []
      refine r_iload C dX11_look_76 0 rfl ?_
      obtain ⟨h1, h2⟩ := Prod.mk.inj (Option.some.inj h)
      subst h1; subst h2
      exact r_iret C dX11_look_78 hr hE
    · have h := (ite_inv h).1 c8
      refine r_iconst C dX11_look_27 ic_m1 ?_
      obtain ⟨h1, h2⟩ := Prod.mk.inj (Option.some.inj h)
      subst h1; subst h2
      exact r_iret C dX11_look_28 hr hE
  · have h := (ite_inv h).2 c3
    refine r_iload_n C dX11_look_10 0 rfl ?_
    obtain ⟨h1, h2⟩ := Prod.mk.inj (Option.some.inj h)
    subst h1; subst h2
    exact r_iret C dX11_look_11 hr hE
def sX11_unlikeHours_5 (n : Nat) (x1 : Int32) (x2 : Int32) : Int32 × Int32 × Mu → Option ((Int32 × Int32 × Mu) ⊕ (Int32 × Mu)) := fun q => match q with | (x3, x4, μ) => if 24 ≤ x4 then (some (.inr (x3, μ))) else (bnd2 (fX11_soundIn n x1 x4 μ) fun u3 m4 => bnd2 (fX11_soundIn n x2 x4 m4) fun u6 m7 => if u3 = u6 then (some (.inl (x3, x4 + 1, m7))) else (some (.inl (x3 + 1, x4 + 1, m7))))
set_option maxRecDepth 100000 in
set_option maxHeartbeats 4000000 in
theorem lX11_unlikeHours_5 {Z : ZC} {sh : List Sh} {R : Rf} {o : (Int32 × Int32 × Mu) ⊕ (Int32 × Mu)} (C : CX Z cX11_unlikeHours 5 RX11) (hR : zR Z = rm 5 0 0) (hY : LY sh R) (n : Nat) (x1 : Int32) (x2 : Int32) (x3 : Int32) (x4 : Int32) (μ : Mu) (h : sX11_unlikeHours_5 n x1 x2 (x3, x4, μ) = some o) (kin : ∀ (x3 : Int32) (x4 : Int32) (μ : Mu), o = .inl (x3, x4, μ) → Wm Z (0, 0, sh, R) μ 5 [(0, .ref (wb (zw Z) + 0)), (1, .int x1), (2, .int x2), (3, .int x3), (4, .int x4)] []) (kex0 : ∀ (x3 : Int32) (μ : Mu), o = .inr (x3, μ) → Wm Z (0, 0, sh, R) μ 38 [(3, .int x3)] []) : Wm Z (0, 0, sh, R) μ 5 [(0, .ref (wb (zw Z) + 0)), (1, .int x1), (2, .int x2), (3, .int x3), (4, .int x4)] [] := by
  unfold sX11_unlikeHours_5 at h
  refine r_iload C dX11_unlikeHours_5 4 rfl ?_
  refine r_bipush C dX11_unlikeHours_7 bp_24 ?_
  refine r_icmp_ge 38 C dX11_unlikeHours_9 (by decide) (fun c1 => ?_) (fun c1 => ?_)
  · have h := (ite_inv h).1 c1
    refine r_sub [(3, .int x3)] [3] rfl ?_
    exact kex0 x3 μ (Option.some.inj h).symm
  · have h := (ite_inv h).2 c1
    refine r_aload_n C dX11_unlikeHours_12 0 rfl ?_
    refine r_iload_n C dX11_unlikeHours_13 1 rfl ?_
    refine r_iload C dX11_unlikeHours_14 4 rfl ?_
    obtain ⟨u3, m4, e2, h⟩ := bnd2_inv h
    refine r_cVi (As := [.int x1, .int x4]) (rest := []) C hR mlX11_201 dX11_unlikeHours_16 (tX11_soundIn hY n x1 x4  e2) rfl rfl (ly0 hY) rfl (nle rfl) (nle rfl) (nle rfl) ?_
    refine r_aload_n C dX11_unlikeHours_19 0 rfl ?_
    refine r_iload_n C dX11_unlikeHours_20 2 rfl ?_
    refine r_iload C dX11_unlikeHours_21 4 rfl ?_
    obtain ⟨u6, m7, e5, h⟩ := bnd2_inv h
    refine r_cVi (As := [.int x2, .int x4]) (rest := [.int u3]) C hR mlX11_201 dX11_unlikeHours_23 (tX11_soundIn hY n x2 x4  e5) rfl rfl (ly0 hY) rfl (nle rfl) (nle rfl) (nle rfl) ?_
    refine r_icmp_eq 32 C dX11_unlikeHours_26 (by decide) (fun c8 => ?_) (fun c8 => ?_)
    · have h := (ite_inv h).1 c8
      refine r_iinc [(4, .int (x4 + 1)), (0, .ref (wb (zw Z) + 0)), (1, .int x1), (2, .int x2), (3, .int x3)] C dX11_unlikeHours_32 4 rfl (in_1 _) (by decide) rfl ?_
      refine r_goto 5 C dX11_unlikeHours_35 (by decide) ?_
      refine r_sub [(0, .ref (wb (zw Z) + 0)), (1, .int x1), (2, .int x2), (3, .int x3), (4, .int (x4 + 1))] [1, 2, 3, 4, 0] rfl ?_
      exact kin x3 (x4 + 1) m7 (Option.some.inj h).symm
    · have h := (ite_inv h).2 c8
      refine r_iinc [(3, .int (x3 + 1)), (0, .ref (wb (zw Z) + 0)), (1, .int x1), (2, .int x2), (4, .int x4)] C dX11_unlikeHours_29 3 rfl (in_1 _) (by decide) rfl ?_
      refine r_iinc [(4, .int (x4 + 1)), (3, .int (x3 + 1)), (0, .ref (wb (zw Z) + 0)), (1, .int x1), (2, .int x2)] C dX11_unlikeHours_32 4 rfl (in_1 _) (by decide) rfl ?_
      refine r_goto 5 C dX11_unlikeHours_35 (by decide) ?_
      refine r_sub [(0, .ref (wb (zw Z) + 0)), (1, .int x1), (2, .int x2), (3, .int (x3 + 1)), (4, .int (x4 + 1))] [2, 3, 4, 1, 0] rfl ?_
      exact kin (x3 + 1) (x4 + 1) m7 (Option.some.inj h).symm
def fX11_unlikeHours (n : Nat) (x1 : Int32) (x2 : Int32) (μ : Mu) : Option (Int32 × Mu) := bnd (lp n (sX11_unlikeHours_5 n x1 x2) (0, 0, μ)) fun q => match q with | (u9, m10) => some (u9, m10)
set_option maxRecDepth 100000 in
set_option maxHeartbeats 4000000 in
theorem tX11_unlikeHours {l : Launch} {w : WP} {sh : List Sh} {R : Rf} {μ : Mu} {r : Int32} {μ' : Mu} (hY : LY sh R) (n : Nat) (x1 : Int32) (x2 : Int32)  (h : fX11_unlikeHours n x1 x2 μ = some (r, μ')) : CM l w yX11_unlikeHours cX11_unlikeHours 5 (some .int) 5 0 0 sh R [.ref (wb w + 0), .int x1, .int x2] μ (some (.int r)) sh R μ' := by
  refine CM.of (plainFor_of_name pf_X11) (Nat.le_of_ble_eq_true rfl) fun Z C hr _ hR hw hl hE => ?_
  subst hw; subst hl
  have C : CX Z cX11_unlikeHours 5 RX11 := C
  show Wm Z (0, 0, sh, R) μ 0 [(0, .ref (wb (zw Z) + 0)), (1, .int x1), (2, .int x2)] []
  unfold fX11_unlikeHours at h
  refine r_iconst C dX11_unlikeHours_0 ic_0 ?_
  refine r_istore_n [(3, .int 0), (0, .ref (wb (zw Z) + 0)), (1, .int x1), (2, .int x2)] C dX11_unlikeHours_1 rfl (by decide) rfl ?_
  refine r_iconst C dX11_unlikeHours_2 ic_0 ?_
  refine r_istore [(4, .int 0), (3, .int 0), (0, .ref (wb (zw Z) + 0)), (1, .int x1), (2, .int x2)] C dX11_unlikeHours_3 (by decide) rfl ?_
  refine r_sub [(0, .ref (wb (zw Z) + 0)), (1, .int x1), (2, .int x2), (3, .int 0), (4, .int 0)] [2, 3, 4, 1, 0] rfl ?_
  obtain ⟨⟨u9, m10⟩, e11, h⟩ := bnd_inv h
  refine lp_all (sX11_unlikeHours_5 n x1 x2) (fun q => match q with | (z3, z4, ν) => Wm Z (0, 0, sh, R) (ν) 5 [(0, .ref (wb (zw Z) + 0)), (1, .int x1), (2, .int x2), (3, .int z3), (4, .int z4)] []) (fun q => match q with | (z3, ν) => Wm Z (0, 0, sh, R) (ν) 38 [(3, .int z3)] []) (fun q o h kin kex => ?_) n (0, 0, μ) (u9, m10) e11 ?_
  · obtain ⟨z3, z4, ν⟩ := q; exact lX11_unlikeHours_5 C hR hY n   x1 x2 z3 z4 ν h (fun z3 z4 ν e => kin (z3, z4, ν) e) (fun z3 ν e => kex (z3, ν) e)
  show Wm Z (0, 0, sh, R) m10 38 [(3, .int u9)] []
  refine r_iload_n C dX11_unlikeHours_38 0 rfl ?_
  obtain ⟨h1, h2⟩ := Prod.mk.inj (Option.some.inj h)
  subst h1; subst h2
  exact r_iret C dX11_unlikeHours_39 hr hE
def fX11_unlike (n : Nat) (x1 : Int32) (x2 : Int32) (μ : Mu) : Option (Int32 × Mu) := bnd (fX11_isBeach n x1 μ) fun u2 => if u2 = 0 then (some ((-2), μ)) else (bnd (fX11_isBeach n x2 μ) fun u5 => if u5 = 0 then (some ((-2), μ)) else (bnd2 (fX11_unlikeHours n x1 x2 μ) fun u8 m9 => some (u8, m9)))
set_option maxRecDepth 100000 in
set_option maxHeartbeats 4000000 in
theorem tX11_unlike {l : Launch} {w : WP} {sh : List Sh} {R : Rf} {μ : Mu} {r : Int32} {μ' : Mu} (hY : LY sh R) (n : Nat) (x1 : Int32) (x2 : Int32)  (h : fX11_unlike n x1 x2 μ = some (r, μ')) : CM l w yX11_unlike cX11_unlike 3 (some .int) 6 0 0 sh R [.ref (wb w + 0), .int x1, .int x2] μ (some (.int r)) sh R μ' := by
  refine CM.of (plainFor_of_name pf_X11) (Nat.le_of_ble_eq_true rfl) fun Z C hr _ hR hw hl hE => ?_
  subst hw; subst hl
  have C : CX Z cX11_unlike 3 RX11 := C
  show Wm Z (0, 0, sh, R) μ 0 [(0, .ref (wb (zw Z) + 0)), (1, .int x1), (2, .int x2)] []
  unfold fX11_unlike at h
  refine r_aload_n C dX11_unlike_0 0 rfl ?_
  refine r_iload_n C dX11_unlike_1 1 rfl ?_
  obtain ⟨u2, e1, h⟩ := bnd_inv h
  refine r_cVi (As := [.int x1]) (rest := []) C hR mlX11_194 dX11_unlike_2 (tX11_isBeach hY n x1  e1) rfl rfl (ly0 hY) rfl (nle rfl) (nle rfl) (nle rfl) ?_
  refine r_if_eq 16 C dX11_unlike_5 (by decide) (fun c3 => ?_) (fun c3 => ?_)
  · have h := (ite_inv h).1 c3
    refine r_bipush C dX11_unlike_16 bp_m2 ?_
    obtain ⟨h1, h2⟩ := Prod.mk.inj (Option.some.inj h)
    subst h1; subst h2
    exact r_iret C dX11_unlike_18 hr hE
  · have h := (ite_inv h).2 c3
    refine r_aload_n C dX11_unlike_8 0 rfl ?_
    refine r_iload_n C dX11_unlike_9 2 rfl ?_
    obtain ⟨u5, e4, h⟩ := bnd_inv h
    refine r_cVi (As := [.int x2]) (rest := []) C hR mlX11_194 dX11_unlike_10 (tX11_isBeach hY n x2  e4) rfl rfl (ly0 hY) rfl (nle rfl) (nle rfl) (nle rfl) ?_
    refine r_if_ne 19 C dX11_unlike_13 (by decide) (fun c6 => ?_) (fun c6 => ?_)
    · have h := (ite_inv h).2 c6
      refine r_aload_n C dX11_unlike_19 0 rfl ?_
      refine r_iload_n C dX11_unlike_20 1 rfl ?_
      refine r_iload_n C dX11_unlike_21 2 rfl ?_
      obtain ⟨u8, m9, e7, h⟩ := bnd2_inv h
      refine r_cVi (As := [.int x1, .int x2]) (rest := []) C hR mlX11_326 dX11_unlike_22 (tX11_unlikeHours hY n x1 x2  e7) rfl rfl (ly0 hY) rfl (nle rfl) (nle rfl) (nle rfl) ?_
      obtain ⟨h1, h2⟩ := Prod.mk.inj (Option.some.inj h)
      subst h1; subst h2
      exact r_iret C dX11_unlike_25 hr hE
    · have h := (ite_inv h).1 c6
      refine r_bipush C dX11_unlike_16 bp_m2 ?_
      obtain ⟨h1, h2⟩ := Prod.mk.inj (Option.some.inj h)
      subst h1; subst h2
      exact r_iret C dX11_unlike_18 hr hE
def sX11_pairs_48 (n : Nat) (x1 : Int32) (x2 : Int32) (x3 : Int32) : Int32 × Mu → Option ((Int32 × Mu) ⊕ (Mu)) := fun q => match q with | (x4, μ) => if (rI μ 2 3) ≤ x4 then (some (.inr μ)) else (gd (ib x3 8) (gd (ib x4 8) (bnd2 (fX11_unlikeHours n (rI μ 7 (ix x3)) (rI μ 7 (ix x4)) μ) fun u8 m9 => bnd (fX4_setCost n x3 x4 u8 m9) fun m11 => some (.inl (x4 + 1, m11)))))
set_option maxRecDepth 100000 in
set_option maxHeartbeats 4000000 in
theorem lX11_pairs_48 {Z : ZC} {sh : List Sh} {R : Rf} {o : (Int32 × Mu) ⊕ (Mu)} (C : CX Z cX11_pairs 5 RX11) (hR : zR Z = rm 15 0 0) (hY : LY sh R) (n : Nat) (x1 : Int32) (x2 : Int32) (x3 : Int32) (x4 : Int32) (μ : Mu) (h : sX11_pairs_48 n x1 x2 x3 (x4, μ) = some o) (kin : ∀ (x4 : Int32) (μ : Mu), o = .inl (x4, μ) → Wm Z (0, 0, sh, R) μ 48 [(0, .ref (wb (zw Z) + 0)), (1, .int x1), (2, .int x2), (3, .int x3), (4, .int x4)] []) (kex0 : ∀ (μ : Mu), o = .inr μ → Wm Z (0, 0, sh, R) μ 99 [(0, .ref (wb (zw Z) + 0)), (1, .int x1), (2, .int x2), (3, .int x3)] []) : Wm Z (0, 0, sh, R) μ 48 [(0, .ref (wb (zw Z) + 0)), (1, .int x1), (2, .int x2), (3, .int x3), (4, .int x4)] [] := by
  unfold sX11_pairs_48 at h
  refine r_iload C dX11_pairs_48 4 rfl ?_
  refine r_aload_n C dX11_pairs_50 0 rfl ?_
  refine r_getR C flX11_26 dX11_pairs_51 (ly0 hY) rfl (lr0_4 hY) ?_
  refine r_getI C flX11_309 dX11_pairs_54 (isSea_0 (lySea hY)) rfl ?_
  refine r_icmp_ge 99 C dX11_pairs_57 (by decide) (fun c4 => ?_) (fun c4 => ?_)
  · have h := (ite_inv h).1 c4
    refine r_sub [(0, .ref (wb (zw Z) + 0)), (1, .int x1), (2, .int x2), (3, .int x3)] [0, 1, 2, 3] rfl ?_
    exact kex0 μ (Option.some.inj h).symm
  · have h := (ite_inv h).2 c4
    refine r_aload_n C dX11_pairs_60 0 rfl ?_
    refine r_getR C flX11_75 dX11_pairs_61 (ly0 hY) rfl (lr0_11 hY) ?_
    refine r_iload_n C dX11_pairs_64 3 rfl ?_
    refine r_iload C dX11_pairs_65 4 rfl ?_
    refine r_aload_n C dX11_pairs_67 0 rfl ?_
    refine r_aload_n C dX11_pairs_68 0 rfl ?_
    refine r_getR C flX11_26 dX11_pairs_69 (ly0 hY) rfl (lr0_4 hY) ?_
    refine r_getR C flX11_176 dX11_pairs_72 (isSea_0 (lySea hY)) rfl (isSea_r12 (lySea hY)) ?_
    refine r_iload_n C dX11_pairs_75 3 rfl ?_
    obtain ⟨b5, h⟩ := gd_inv h
    refine r_iald C dX11_pairs_76 (isSea_5 (lySea hY)) b5 ?_
    refine r_aload_n C dX11_pairs_77 0 rfl ?_
    refine r_getR C flX11_26 dX11_pairs_78 (ly0 hY) rfl (lr0_4 hY) ?_
    refine r_getR C flX11_176 dX11_pairs_81 (isSea_0 (lySea hY)) rfl (isSea_r12 (lySea hY)) ?_
    refine r_iload C dX11_pairs_84 4 rfl ?_
    obtain ⟨b6, h⟩ := gd_inv h
    refine r_iald C dX11_pairs_86 (isSea_5 (lySea hY)) b6 ?_
    obtain ⟨u8, m9, e7, h⟩ := bnd2_inv h
    refine r_cVi (As := [.int (rI μ 7 (ix x3)), .int (rI μ 7 (ix x4))]) (rest := [.int x4, .int x3, .ref (wb (zw Z) + 124)]) C hR mlX11_326 dX11_pairs_87 (tX11_unlikeHours hY n (rI μ 7 (ix x3)) (rI μ 7 (ix x4))  e7) rfl rfl (ly0 hY) rfl (nle rfl) (nle rfl) (nle rfl) ?_
    obtain ⟨m11, e10, h⟩ := bnd_inv h
    refine r_cVv (As := [.int x3, .int x4, .int u8]) (rest := []) C hR mlX11_329 dX11_pairs_90 (tX4_setCost hY n x3 x4 u8  e10) rfl rfl (ly124 hY) rfl (nle rfl) (nle rfl) (nle rfl) ?_
    refine r_iinc [(4, .int (x4 + 1)), (0, .ref (wb (zw Z) + 0)), (1, .int x1), (2, .int x2), (3, .int x3)] C dX11_pairs_93 4 rfl (in_1 _) (by decide) rfl ?_
    refine r_goto 48 C dX11_pairs_96 (by decide) ?_
    refine r_sub [(0, .ref (wb (zw Z) + 0)), (1, .int x1), (2, .int x2), (3, .int x3), (4, .int (x4 + 1))] [1, 2, 3, 4, 0] rfl ?_
    exact kin (x4 + 1) m11 (Option.some.inj h).symm
def sX11_pairs_32 (n : Nat) (x1 : Int32) (x2 : Int32) : Int32 × Mu → Option ((Int32 × Mu) ⊕ (Mu)) := fun q => match q with | (x3, μ) => if (rI μ 2 3) ≤ x3 then (some (.inr μ)) else (bnd (lp n (sX11_pairs_48 n x1 x2 x3) (x3 + 1, μ)) fun q => match q with | m12 => some (.inl (x3 + 1, m12)))
set_option maxRecDepth 100000 in
set_option maxHeartbeats 4000000 in
theorem lX11_pairs_32 {Z : ZC} {sh : List Sh} {R : Rf} {o : (Int32 × Mu) ⊕ (Mu)} (C : CX Z cX11_pairs 5 RX11) (hR : zR Z = rm 15 0 0) (hY : LY sh R) (n : Nat) (x1 : Int32) (x2 : Int32) (x3 : Int32) (μ : Mu) (h : sX11_pairs_32 n x1 x2 (x3, μ) = some o) (kin : ∀ (x3 : Int32) (μ : Mu), o = .inl (x3, μ) → Wm Z (0, 0, sh, R) μ 32 [(0, .ref (wb (zw Z) + 0)), (1, .int x1), (2, .int x2), (3, .int x3)] []) (kex0 : ∀ (μ : Mu), o = .inr μ → Wm Z (0, 0, sh, R) μ 105 [(0, .ref (wb (zw Z) + 0)), (1, .int x1), (2, .int x2)] []) : Wm Z (0, 0, sh, R) μ 32 [(0, .ref (wb (zw Z) + 0)), (1, .int x1), (2, .int x2), (3, .int x3)] [] := by
  unfold sX11_pairs_32 at h
  refine r_iload_n C dX11_pairs_32 3 rfl ?_
  refine r_aload_n C dX11_pairs_33 0 rfl ?_
  refine r_getR C flX11_26 dX11_pairs_34 (ly0 hY) rfl (lr0_4 hY) ?_
  refine r_getI C flX11_309 dX11_pairs_37 (isSea_0 (lySea hY)) rfl ?_
  refine r_icmp_ge 105 C dX11_pairs_40 (by decide) (fun c3 => ?_) (fun c3 => ?_)
  · have h := (ite_inv h).1 c3
    refine r_sub [(0, .ref (wb (zw Z) + 0)), (1, .int x1), (2, .int x2)] [0, 1, 2] rfl ?_
    exact kex0 μ (Option.some.inj h).symm
  · have h := (ite_inv h).2 c3
    refine r_iload_n C dX11_pairs_43 3 rfl ?_
    refine r_iconst C dX11_pairs_44 ic_1 ?_
    refine r_iadd C dX11_pairs_45 ?_
    refine r_istore [(4, .int (x3 + 1)), (0, .ref (wb (zw Z) + 0)), (1, .int x1), (2, .int x2), (3, .int x3)] C dX11_pairs_46 (by decide) rfl ?_
    refine r_sub [(0, .ref (wb (zw Z) + 0)), (1, .int x1), (2, .int x2), (3, .int x3), (4, .int (x3 + 1))] [1, 2, 3, 4, 0] rfl ?_
    obtain ⟨m12, e13, h⟩ := bnd_inv h
    refine lp_all (sX11_pairs_48 n x1 x2 x3) (fun q => match q with | (z4, ν) => Wm Z (0, 0, sh, R) (ν) 48 [(0, .ref (wb (zw Z) + 0)), (1, .int x1), (2, .int x2), (3, .int x3), (4, .int z4)] []) (fun q => match q with | ν => Wm Z (0, 0, sh, R) (ν) 99 [(0, .ref (wb (zw Z) + 0)), (1, .int x1), (2, .int x2), (3, .int x3)] []) (fun q o h kin kex => ?_) n (x3 + 1, μ) m12 e13 ?_
    · obtain ⟨z4, ν⟩ := q; exact lX11_pairs_48 C hR hY n   x1 x2 x3 z4 ν h (fun z4 ν e => kin (z4, ν) e) (fun ν e => kex (ν) e)
    show Wm Z (0, 0, sh, R) m12 99 [(0, .ref (wb (zw Z) + 0)), (1, .int x1), (2, .int x2), (3, .int x3)] []
    refine r_iinc [(3, .int (x3 + 1)), (0, .ref (wb (zw Z) + 0)), (1, .int x1), (2, .int x2)] C dX11_pairs_99 3 rfl (in_1 _) (by decide) rfl ?_
    refine r_goto 32 C dX11_pairs_102 (by decide) ?_
    refine r_sub [(0, .ref (wb (zw Z) + 0)), (1, .int x1), (2, .int x2), (3, .int (x3 + 1))] [1, 2, 3, 0] rfl ?_
    exact kin (x3 + 1) m12 (Option.some.inj h).symm
def jX11_pairs_30 (n : Nat) (x1 : Int32) (x2 : Int32) (μ : Mu) : Option (Int32 × Mu) := bnd (lp n (sX11_pairs_32 n x1 x2) (0, μ)) fun q => match q with | m14 => bnd (fX4_solve n (rI m14 2 3) m14) fun m17 => if x1 = 0 then (some (rI m17 124 3, m17)) else (gd (ib x2 8) (some (rI m17 127 (ix x2), m17)))
set_option maxRecDepth 100000 in
set_option maxHeartbeats 4000000 in
theorem kX11_pairs_30 {Z : ZC} {sh : List Sh} {R : Rf} {r : Int32} {μ' : Mu} (C : CX Z cX11_pairs 5 RX11) (hR : zR Z = rm 15 0 0) (hY : LY sh R) (n : Nat) (x1 : Int32) (x2 : Int32) (μ : Mu) (h : jX11_pairs_30 n x1 x2 μ = some (r, μ')) (hr : (zme Z).sig.returnType = (some .int)) (hE : zEnd Z (0, 0, sh, R) μ' (some (.int r))) : Wm Z (0, 0, sh, R) μ 30 [(0, .ref (wb (zw Z) + 0)), (1, .int x1), (2, .int x2)] [] := by
  unfold jX11_pairs_30 at h
  refine r_iconst C dX11_pairs_30 ic_0 ?_
  refine r_istore_n [(3, .int 0), (0, .ref (wb (zw Z) + 0)), (1, .int x1), (2, .int x2)] C dX11_pairs_31 rfl (by decide) rfl ?_
  refine r_sub [(0, .ref (wb (zw Z) + 0)), (1, .int x1), (2, .int x2), (3, .int 0)] [1, 2, 3, 0] rfl ?_
  obtain ⟨m14, e15, h⟩ := bnd_inv h
  refine lp_all (sX11_pairs_32 n x1 x2) (fun q => match q with | (z3, ν) => Wm Z (0, 0, sh, R) (ν) 32 [(0, .ref (wb (zw Z) + 0)), (1, .int x1), (2, .int x2), (3, .int z3)] []) (fun q => match q with | ν => Wm Z (0, 0, sh, R) (ν) 105 [(0, .ref (wb (zw Z) + 0)), (1, .int x1), (2, .int x2)] []) (fun q o h kin kex => ?_) n (0, μ) m14 e15 ?_
  · obtain ⟨z3, ν⟩ := q; exact lX11_pairs_32 C hR hY n   x1 x2 z3 ν h (fun z3 ν e => kin (z3, ν) e) (fun ν e => kex (ν) e)
  show Wm Z (0, 0, sh, R) m14 105 [(0, .ref (wb (zw Z) + 0)), (1, .int x1), (2, .int x2)] []
  refine r_aload_n C dX11_pairs_105 0 rfl ?_
  refine r_getR C flX11_75 dX11_pairs_106 (ly0 hY) rfl (lr0_11 hY) ?_
  refine r_aload_n C dX11_pairs_109 0 rfl ?_
  refine r_getR C flX11_26 dX11_pairs_110 (ly0 hY) rfl (lr0_4 hY) ?_
  refine r_getI C flX11_309 dX11_pairs_113 (isSea_0 (lySea hY)) rfl ?_
  obtain ⟨m17, e16, h⟩ := bnd_inv h
  refine r_cVv (As := [.int (rI m14 2 3)]) (rest := []) C hR mlX11_332 dX11_pairs_116 (tX4_solve hY n (rI m14 2 3)  e16) rfl rfl (ly124 hY) rfl (nle rfl) (nle rfl) (nle rfl) ?_
  refine r_iload_n C dX11_pairs_119 1 rfl ?_
  refine r_if_ne 133 C dX11_pairs_120 (by decide) (fun c18 => ?_) (fun c18 => ?_)
  · have h := (ite_inv h).2 c18
    refine r_aload_n C dX11_pairs_133 0 rfl ?_
    refine r_getR C flX11_75 dX11_pairs_134 (ly0 hY) rfl (lr0_11 hY) ?_
    refine r_getR C flX11_338 dX11_pairs_137 (ly124 hY) rfl (lr124_2 hY) ?_
    refine r_iload_n C dX11_pairs_140 2 rfl ?_
    obtain ⟨b19, h⟩ := gd_inv h
    refine r_iald C dX11_pairs_141 (ly127 hY) b19 ?_
    obtain ⟨h1, h2⟩ := Prod.mk.inj (Option.some.inj h)
    subst h1; subst h2
    exact r_iret C dX11_pairs_142 hr hE
  · have h := (ite_inv h).1 c18
    refine r_aload_n C dX11_pairs_123 0 rfl ?_
    refine r_getR C flX11_75 dX11_pairs_124 (ly0 hY) rfl (lr0_11 hY) ?_
    refine r_getI C flX11_335 dX11_pairs_127 (ly124 hY) rfl ?_
    refine r_goto 142 C dX11_pairs_130 (by decide) ?_
    obtain ⟨h1, h2⟩ := Prod.mk.inj (Option.some.inj h)
    subst h1; subst h2
    exact r_iret C dX11_pairs_142 hr hE
def fX11_pairs (n : Nat) (x1 : Int32) (μ : Mu) : Option (Int32 × Mu) := if x1 = 0 then (jX11_pairs_30 n x1 (if 10 ≤ x1 then (x1 - 10) else (-1)) μ) else (bnd (fX11_isShell n (if 10 ≤ x1 then (x1 - 10) else (-1)) μ) fun u21 => if u21 = 0 then (some ((-2), μ)) else (jX11_pairs_30 n x1 (if 10 ≤ x1 then (x1 - 10) else (-1)) μ))
set_option maxRecDepth 100000 in
set_option maxHeartbeats 4000000 in
theorem tX11_pairs {l : Launch} {w : WP} {sh : List Sh} {R : Rf} {μ : Mu} {r : Int32} {μ' : Mu} (hY : LY sh R) (n : Nat) (x1 : Int32)  (h : fX11_pairs n x1 μ = some (r, μ')) : CM l w yX11_pairs cX11_pairs 5 (some .int) 15 0 0 sh R [.ref (wb w + 0), .int x1] μ (some (.int r)) sh R μ' := by
  refine CM.of (plainFor_of_name pf_X11) (Nat.le_of_ble_eq_true rfl) fun Z C hr _ hR hw hl hE => ?_
  subst hw; subst hl
  have C : CX Z cX11_pairs 5 RX11 := C
  show Wm Z (0, 0, sh, R) μ 0 [(0, .ref (wb (zw Z) + 0)), (1, .int x1)] []
  unfold fX11_pairs at h
  refine r_iload_n C dX11_pairs_0 1 rfl ?_
  refine r_bipush C dX11_pairs_1 bp_10 ?_
  suffices hj : Wm Z (0, 0, sh, R) μ 14 [(0, .ref (wb (zw Z) + 0)), (1, .int x1)] [.int (if 10 ≤ x1 then (x1 - 10) else (-1))] by
    refine r_icmp_ge 10 C dX11_pairs_3 (by decide) (fun c1 => ?_) (fun c1 => ?_)
    · refine r_iload_n C dX11_pairs_10 1 rfl ?_
      refine r_bipush C dX11_pairs_11 bp_10 ?_
      refine r_isub C dX11_pairs_13 ?_
      exact sel_t c1 hj
    · refine r_iconst C dX11_pairs_6 ic_m1 ?_
      refine r_goto 14 C dX11_pairs_7 (by decide) ?_
      exact sel_f c1 hj
  refine r_istore_n [(2, .int (if 10 ≤ x1 then (x1 - 10) else (-1))), (0, .ref (wb (zw Z) + 0)), (1, .int x1)] C dX11_pairs_14 rfl (by decide) rfl ?_
  refine r_iload_n C dX11_pairs_15 2 rfl ?_
  refine r_if_eq 30 C dX11_pairs_16 (by decide) (fun c2 => ?_) (fun c2 => ?_)
  · have h := (ite_inv h).1 c2
    refine r_sub [(0, .ref (wb (zw Z) + 0)), (1, .int x1), (2, .int (if 10 ≤ x1 then (x1 - 10) else (-1)))] [1, 2, 0] rfl ?_
    exact kX11_pairs_30 C hR hY n   x1 (if 10 ≤ x1 then (x1 - 10) else (-1)) μ h hr hE
  · have h := (ite_inv h).2 c2
    refine r_aload_n C dX11_pairs_19 1 rfl ?_
    refine r_iload_n C dX11_pairs_20 0 rfl ?_
    obtain ⟨u21, e20, h⟩ := bnd_inv h
    refine r_cVi (As := [.int (if 10 ≤ x1 then (x1 - 10) else (-1))]) (rest := []) C hR mlX11_173 dX11_pairs_21 (tX11_isShell hY n (if 10 ≤ x1 then (x1 - 10) else (-1))  e20) rfl rfl (ly0 hY) rfl (nle rfl) (nle rfl) (nle rfl) ?_
    refine r_if_ne 30 C dX11_pairs_24 (by decide) (fun c22 => ?_) (fun c22 => ?_)
    · have h := (ite_inv h).2 c22
      refine r_sub [(0, .ref (wb (zw Z) + 0)), (1, .int x1), (2, .int (if 10 ≤ x1 then (x1 - 10) else (-1)))] [1, 2, 0] rfl ?_
      exact kX11_pairs_30 C hR hY n   x1 (if 10 ≤ x1 then (x1 - 10) else (-1)) μ h hr hE
    · have h := (ite_inv h).1 c22
      refine r_bipush C dX11_pairs_27 bp_m2 ?_
      obtain ⟨h1, h2⟩ := Prod.mk.inj (Option.some.inj h)
      subst h1; subst h2
      exact r_iret C dX11_pairs_29 hr hE
def fX11_numbers (n : Nat) (x1 : Int32) (x2 : Int32) (x3 : Int32) (μ : Mu) : Option (Int32 × Mu) := bnd (fX11_isTray n x1 μ) fun u2 => if u2 = 0 then (some ((-2), μ)) else (bnd (fX11_within n x2 0 3 μ) fun u5 => if u5 = 0 then (some ((-2), μ)) else (bnd (fX11_within n x3 0 40 μ) fun u8 => if u8 = 0 then (some ((-3), μ)) else (gd (ib x1 4) (bnd (fX10_begin n (129 + 2 * ix x1) x2 x3 μ) fun m12 => some (0, m12)))))
set_option maxRecDepth 100000 in
set_option maxHeartbeats 4000000 in
theorem tX11_numbers {l : Launch} {w : WP} {sh : List Sh} {R : Rf} {μ : Mu} {r : Int32} {μ' : Mu} (hY : LY sh R) (n : Nat) (x1 : Int32) (x2 : Int32) (x3 : Int32)  (h : fX11_numbers n x1 x2 x3 μ = some (r, μ')) : CM l w yX11_numbers cX11_numbers 4 (some .int) 2 0 0 sh R [.ref (wb w + 0), .int x1, .int x2, .int x3] μ (some (.int r)) sh R μ' := by
  refine CM.of (plainFor_of_name pf_X11) (Nat.le_of_ble_eq_true rfl) fun Z C hr _ hR hw hl hE => ?_
  subst hw; subst hl
  have C : CX Z cX11_numbers 4 RX11 := C
  show Wm Z (0, 0, sh, R) μ 0 [(0, .ref (wb (zw Z) + 0)), (1, .int x1), (2, .int x2), (3, .int x3)] []
  unfold fX11_numbers at h
  refine r_aload_n C dX11_numbers_0 0 rfl ?_
  refine r_iload_n C dX11_numbers_1 1 rfl ?_
  obtain ⟨u2, e1, h⟩ := bnd_inv h
  refine r_cVi (As := [.int x1]) (rest := []) C hR mlX11_229 dX11_numbers_2 (tX11_isTray hY n x1  e1) rfl rfl (ly0 hY) rfl (nle rfl) (nle rfl) (nle rfl) ?_
  refine r_if_eq 17 C dX11_numbers_5 (by decide) (fun c3 => ?_) (fun c3 => ?_)
  · have h := (ite_inv h).1 c3
    refine r_bipush C dX11_numbers_17 bp_m2 ?_
    obtain ⟨h1, h2⟩ := Prod.mk.inj (Option.some.inj h)
    subst h1; subst h2
    exact r_iret C dX11_numbers_19 hr hE
  · have h := (ite_inv h).2 c3
    refine r_iload_n C dX11_numbers_8 2 rfl ?_
    refine r_iconst C dX11_numbers_9 ic_0 ?_
    refine r_iconst C dX11_numbers_10 ic_3 ?_
    obtain ⟨u5, e4, h⟩ := bnd_inv h
    refine r_cSi (As := [.int x2, .int 0, .int 3]) (rest := []) C hR mlX11_197 dX11_numbers_11 (tX11_within hY n x2 0 3  e4) rfl rfl (nle rfl) (nle rfl) (nle rfl) ?_
    refine r_if_ne 20 C dX11_numbers_14 (by decide) (fun c6 => ?_) (fun c6 => ?_)
    · have h := (ite_inv h).2 c6
      refine r_iload_n C dX11_numbers_20 3 rfl ?_
      refine r_iconst C dX11_numbers_21 ic_0 ?_
      refine r_bipush C dX11_numbers_22 bp_40 ?_
      obtain ⟨u8, e7, h⟩ := bnd_inv h
      refine r_cSi (As := [.int x3, .int 0, .int 40]) (rest := []) C hR mlX11_197 dX11_numbers_24 (tX11_within hY n x3 0 40  e7) rfl rfl (nle rfl) (nle rfl) (nle rfl) ?_
      refine r_if_ne 33 C dX11_numbers_27 (by decide) (fun c9 => ?_) (fun c9 => ?_)
      · have h := (ite_inv h).2 c9
        refine r_aload_n C dX11_numbers_33 0 rfl ?_
        refine r_getR C flX11_81 dX11_numbers_34 (ly0 hY) rfl (lr0_12 hY) ?_
        refine r_iload_n C dX11_numbers_37 1 rfl ?_
        obtain ⟨b10, h⟩ := gd_inv h
        refine r_aald C dX11_numbers_38 (ly128 hY) (by decide) rfl rfl b10 (lyTray hY b10).2 ?_
        refine r_iload_n C dX11_numbers_39 2 rfl ?_
        refine r_iload_n C dX11_numbers_40 3 rfl ?_
        obtain ⟨m12, e11, h⟩ := bnd_inv h
        refine r_cVv (As := [.int x2, .int x3]) (rest := []) C hR mlX11_341 dX11_numbers_41 (tX10_begin hY n (129 + 2 * ix x1) x2 x3 (lyTray hY b10).1 e11) rfl rfl (isTr_0 (lyTray hY b10).1) rfl (nle rfl) (nle rfl) (nle rfl) ?_
        refine r_iconst C dX11_numbers_44 ic_0 ?_
        obtain ⟨h1, h2⟩ := Prod.mk.inj (Option.some.inj h)
        subst h1; subst h2
        exact r_iret C dX11_numbers_45 hr hE
      · have h := (ite_inv h).1 c9
        refine r_bipush C dX11_numbers_30 bp_m3 ?_
        obtain ⟨h1, h2⟩ := Prod.mk.inj (Option.some.inj h)
        subst h1; subst h2
        exact r_iret C dX11_numbers_32 hr hE
    · have h := (ite_inv h).1 c6
      refine r_bipush C dX11_numbers_17 bp_m2 ?_
      obtain ⟨h1, h2⟩ := Prod.mk.inj (Option.some.inj h)
      subst h1; subst h2
      exact r_iret C dX11_numbers_19 hr hE
def fX11_write (n : Nat) (x1 : Int32) (x2 : Int32) (y3 : Int64) (μ : Mu) : Option (Int64 × Mu) := bnd (fX11_isTray n x1 μ) fun u2 => if u2 = 0 then (some ((-2), μ)) else (gd (ib x1 4) (bnd (fX10_isMissing n (129 + 2 * ix x1) μ) fun u6 => if u6 = 0 then (gd (ib x1 4) (bnd (fX11_within n x2 0 ((rI μ (129 + 2 * ix x1) 1) - 1) μ) fun u10 => if u10 = 0 then (some ((-7), μ)) else (gd (ib x1 4) (bnd2 (fX10_put n (129 + 2 * ix x1) x2 y3 μ) fun u14 m15 => some (u14, m15))))) else (some ((-6), μ))))
set_option maxRecDepth 100000 in
set_option maxHeartbeats 4000000 in
theorem tX11_write {l : Launch} {w : WP} {sh : List Sh} {R : Rf} {μ : Mu} {r : Int64} {μ' : Mu} (hY : LY sh R) (n : Nat) (x1 : Int32) (x2 : Int32) (y3 : Int64)  (h : fX11_write n x1 x2 y3 μ = some (r, μ')) : CM l w yX11_write cX11_write 5 (some .long) 2 0 0 sh R [.ref (wb w + 0), .int x1, .int x2, .long y3] μ (some (.long r)) sh R μ' := by
  refine CM.of (plainFor_of_name pf_X11) (Nat.le_of_ble_eq_true rfl) fun Z C hr _ hR hw hl hE => ?_
  subst hw; subst hl
  have C : CX Z cX11_write 5 RX11 := C
  show Wm Z (0, 0, sh, R) μ 0 [(0, .ref (wb (zw Z) + 0)), (1, .int x1), (2, .int x2), (3, .long y3)] []
  unfold fX11_write at h
  refine r_aload_n C dX11_write_0 0 rfl ?_
  refine r_iload_n C dX11_write_1 1 rfl ?_
  obtain ⟨u2, e1, h⟩ := bnd_inv h
  refine r_cVi (As := [.int x1]) (rest := []) C hR mlX11_229 dX11_write_2 (tX11_isTray hY n x1  e1) rfl rfl (ly0 hY) rfl (nle rfl) (nle rfl) (nle rfl) ?_
  refine r_if_ne 12 C dX11_write_5 (by decide) (fun c3 => ?_) (fun c3 => ?_)
  · have h := (ite_inv h).2 c3
    refine r_aload_n C dX11_write_12 0 rfl ?_
    refine r_getR C flX11_81 dX11_write_13 (ly0 hY) rfl (lr0_12 hY) ?_
    refine r_iload_n C dX11_write_16 1 rfl ?_
    obtain ⟨b4, h⟩ := gd_inv h
    refine r_aald C dX11_write_17 (ly128 hY) (by decide) rfl rfl b4 (lyTray hY b4).2 ?_
    obtain ⟨u6, e5, h⟩ := bnd_inv h
    refine r_cVi (As := []) (rest := []) C hR mlX11_232 dX11_write_18 (tX10_isMissing hY n (129 + 2 * ix x1) (lyTray hY b4).1 e5) rfl rfl (isTr_0 (lyTray hY b4).1) rfl (nle rfl) (nle rfl) (nle rfl) ?_
    refine r_if_eq 28 C dX11_write_21 (by decide) (fun c7 => ?_) (fun c7 => ?_)
    · have h := (ite_inv h).1 c7
      refine r_iload_n C dX11_write_28 2 rfl ?_
      refine r_iconst C dX11_write_29 ic_0 ?_
      refine r_aload_n C dX11_write_30 0 rfl ?_
      refine r_getR C flX11_81 dX11_write_31 (ly0 hY) rfl (lr0_12 hY) ?_
      refine r_iload_n C dX11_write_34 1 rfl ?_
      obtain ⟨b8, h⟩ := gd_inv h
      refine r_aald C dX11_write_35 (ly128 hY) (by decide) rfl rfl b8 (lyTray hY b8).2 ?_
      refine r_getI C flX11_242 dX11_write_36 (isTr_0 (lyTray hY b8).1) rfl ?_
      refine r_iconst C dX11_write_39 ic_1 ?_
      refine r_isub C dX11_write_40 ?_
      obtain ⟨u10, e9, h⟩ := bnd_inv h
      refine r_cSi (As := [.int x2, .int 0, .int ((rI μ (129 + 2 * ix x1) 1) - 1)]) (rest := []) C hR mlX11_197 dX11_write_41 (tX11_within hY n x2 0 ((rI μ (129 + 2 * ix x1) 1) - 1)  e9) rfl rfl (nle rfl) (nle rfl) (nle rfl) ?_
      refine r_if_ne 51 C dX11_write_44 (by decide) (fun c11 => ?_) (fun c11 => ?_)
      · have h := (ite_inv h).2 c11
        refine r_aload_n C dX11_write_51 0 rfl ?_
        refine r_getR C flX11_81 dX11_write_52 (ly0 hY) rfl (lr0_12 hY) ?_
        refine r_iload_n C dX11_write_55 1 rfl ?_
        obtain ⟨b12, h⟩ := gd_inv h
        refine r_aald C dX11_write_56 (ly128 hY) (by decide) rfl rfl b12 (lyTray hY b12).2 ?_
        refine r_iload_n C dX11_write_57 2 rfl ?_
        refine r_lload_n C dX11_write_58 3 rfl ?_
        obtain ⟨u14, m15, e13, h⟩ := bnd2_inv h
        refine r_cVl (As := [.int x2, .long y3]) (rest := []) C hR mlX11_350 dX11_write_59 (tX10_put hY n (129 + 2 * ix x1) x2 y3 (lyTray hY b12).1 e13) rfl rfl (isTr_0 (lyTray hY b12).1) rfl (nle rfl) (nle rfl) (nle rfl) ?_
        obtain ⟨h1, h2⟩ := Prod.mk.inj (Option.some.inj h)
        subst h1; subst h2
        exact r_lret C dX11_write_62 hr hE
      · have h := (ite_inv h).1 c11
        refine r_ldc2 C dX11_write_47 klX11_348 ?_
        obtain ⟨h1, h2⟩ := Prod.mk.inj (Option.some.inj h)
        subst h1; subst h2
        exact r_lret C dX11_write_50 hr hE
    · have h := (ite_inv h).2 c7
      refine r_ldc2 C dX11_write_24 klX11_346 ?_
      obtain ⟨h1, h2⟩ := Prod.mk.inj (Option.some.inj h)
      subst h1; subst h2
      exact r_lret C dX11_write_27 hr hE
  · have h := (ite_inv h).1 c3
    refine r_ldc2 C dX11_write_8 klX11_344 ?_
    obtain ⟨h1, h2⟩ := Prod.mk.inj (Option.some.inj h)
    subst h1; subst h2
    exact r_lret C dX11_write_11 hr hE
def sX11_lists_47 (n : Nat) (x1 : Int32) (x2 : Int32) (x3 : Int32) : Int32 × Mu → Option ((Int32 × Mu) ⊕ (Mu)) := fun q => match q with | (x4, μ) => if x3 ≤ x4 then (some (.inr μ)) else (gd (ib x1 4) (gd (ib x2 8) (bnd2 (fX11_soundIn n (rI μ 7 (ix x2)) x4 μ) fun u16 m17 => bnd2 (fX10_put n (129 + 2 * ix x1) x4 (u16.toInt64) m17) fun u19 m20 => some (.inl (x4 + 1, m20)))))
set_option maxRecDepth 100000 in
set_option maxHeartbeats 4000000 in
theorem lX11_lists_47 {Z : ZC} {sh : List Sh} {R : Rf} {o : (Int32 × Mu) ⊕ (Mu)} (C : CX Z cX11_lists 5 RX11) (hR : zR Z = rm 5 0 0) (hY : LY sh R) (n : Nat) (x1 : Int32) (x2 : Int32) (x3 : Int32) (x4 : Int32) (μ : Mu) (h : sX11_lists_47 n x1 x2 x3 (x4, μ) = some o) (kin : ∀ (x4 : Int32) (μ : Mu), o = .inl (x4, μ) → Wm Z (0, 0, sh, R) μ 47 [(0, .ref (wb (zw Z) + 0)), (1, .int x1), (2, .int x2), (3, .int x3), (4, .int x4)] []) (kex0 : ∀ (μ : Mu), o = .inr μ → Wm Z (0, 0, sh, R) μ 87 [(3, .int x3)] []) : Wm Z (0, 0, sh, R) μ 47 [(0, .ref (wb (zw Z) + 0)), (1, .int x1), (2, .int x2), (3, .int x3), (4, .int x4)] [] := by
  unfold sX11_lists_47 at h
  refine r_iload C dX11_lists_47 4 rfl ?_
  refine r_iload_n C dX11_lists_49 3 rfl ?_
  refine r_icmp_ge 87 C dX11_lists_50 (by decide) (fun c12 => ?_) (fun c12 => ?_)
  · have h := (ite_inv h).1 c12
    refine r_sub [(3, .int x3)] [3] rfl ?_
    exact kex0 μ (Option.some.inj h).symm
  · have h := (ite_inv h).2 c12
    refine r_aload_n C dX11_lists_53 0 rfl ?_
    refine r_getR C flX11_81 dX11_lists_54 (ly0 hY) rfl (lr0_12 hY) ?_
    refine r_iload_n C dX11_lists_57 1 rfl ?_
    obtain ⟨b13, h⟩ := gd_inv h
    refine r_aald C dX11_lists_58 (ly128 hY) (by decide) rfl rfl b13 (lyTray hY b13).2 ?_
    refine r_iload C dX11_lists_59 4 rfl ?_
    refine r_aload_n C dX11_lists_61 0 rfl ?_
    refine r_aload_n C dX11_lists_62 0 rfl ?_
    refine r_getR C flX11_26 dX11_lists_63 (ly0 hY) rfl (lr0_4 hY) ?_
    refine r_getR C flX11_176 dX11_lists_66 (isSea_0 (lySea hY)) rfl (isSea_r12 (lySea hY)) ?_
    refine r_iload_n C dX11_lists_69 2 rfl ?_
    obtain ⟨b14, h⟩ := gd_inv h
    refine r_iald C dX11_lists_70 (isSea_5 (lySea hY)) b14 ?_
    refine r_iload C dX11_lists_71 4 rfl ?_
    obtain ⟨u16, m17, e15, h⟩ := bnd2_inv h
    refine r_cVi (As := [.int (rI μ 7 (ix x2)), .int x4]) (rest := [.int x4, .ref (wb (zw Z) + (129 + 2 * ix x1))]) C hR mlX11_201 dX11_lists_73 (tX11_soundIn hY n (rI μ 7 (ix x2)) x4  e15) rfl rfl (ly0 hY) rfl (nle rfl) (nle rfl) (nle rfl) ?_
    refine r_i2l C dX11_lists_76 ?_
    obtain ⟨u19, m20, e18, h⟩ := bnd2_inv h
    refine r_cVl (As := [.int x4, .long (u16.toInt64)]) (rest := []) C hR mlX11_350 dX11_lists_77 (tX10_put hY n (129 + 2 * ix x1) x4 (u16.toInt64) (lyTray hY b13).1 e18) rfl rfl (isTr_0 (lyTray hY b13).1) rfl (nle rfl) (nle rfl) (nle rfl) ?_
    refine r_pop2 C dX11_lists_80 rfl ?_
    refine r_iinc [(4, .int (x4 + 1)), (0, .ref (wb (zw Z) + 0)), (1, .int x1), (2, .int x2), (3, .int x3)] C dX11_lists_81 4 rfl (in_1 _) (by decide) rfl ?_
    refine r_goto 47 C dX11_lists_84 (by decide) ?_
    refine r_sub [(0, .ref (wb (zw Z) + 0)), (1, .int x1), (2, .int x2), (3, .int x3), (4, .int (x4 + 1))] [1, 2, 3, 4, 0] rfl ?_
    exact kin (x4 + 1) m20 (Option.some.inj h).symm
def fX11_lists (n : Nat) (x1 : Int32) (x2 : Int32) (μ : Mu) : Option (Int32 × Mu) := bnd (fX11_isTray n x1 μ) fun u2 => if u2 = 0 then (some ((-2), μ)) else (bnd (fX11_isShell n x2 μ) fun u5 => if u5 = 0 then (some ((-2), μ)) else (gd (ib x1 4) (bnd (fX10_isMissing n (129 + 2 * ix x1) μ) fun u9 => if u9 = 0 then (gd (ib x1 4) (bnd (lp n (sX11_lists_47 n x1 x2 (rI μ (129 + 2 * ix x1) 1)) (0, μ)) fun q => match q with | m21 => some (rI μ (129 + 2 * ix x1) 1, m21))) else (some ((-6), μ)))))
set_option maxRecDepth 100000 in
set_option maxHeartbeats 4000000 in
theorem tX11_lists {l : Launch} {w : WP} {sh : List Sh} {R : Rf} {μ : Mu} {r : Int32} {μ' : Mu} (hY : LY sh R) (n : Nat) (x1 : Int32) (x2 : Int32)  (h : fX11_lists n x1 x2 μ = some (r, μ')) : CM l w yX11_lists cX11_lists 5 (some .int) 5 0 0 sh R [.ref (wb w + 0), .int x1, .int x2] μ (some (.int r)) sh R μ' := by
  refine CM.of (plainFor_of_name pf_X11) (Nat.le_of_ble_eq_true rfl) fun Z C hr _ hR hw hl hE => ?_
  subst hw; subst hl
  have C : CX Z cX11_lists 5 RX11 := C
  show Wm Z (0, 0, sh, R) μ 0 [(0, .ref (wb (zw Z) + 0)), (1, .int x1), (2, .int x2)] []
  unfold fX11_lists at h
  refine r_aload_n C dX11_lists_0 0 rfl ?_
  refine r_iload_n C dX11_lists_1 1 rfl ?_
  obtain ⟨u2, e1, h⟩ := bnd_inv h
  refine r_cVi (As := [.int x1]) (rest := []) C hR mlX11_229 dX11_lists_2 (tX11_isTray hY n x1  e1) rfl rfl (ly0 hY) rfl (nle rfl) (nle rfl) (nle rfl) ?_
  refine r_if_eq 16 C dX11_lists_5 (by decide) (fun c3 => ?_) (fun c3 => ?_)
  · have h := (ite_inv h).1 c3
    refine r_bipush C dX11_lists_16 bp_m2 ?_
    obtain ⟨h1, h2⟩ := Prod.mk.inj (Option.some.inj h)
    subst h1; subst h2
    exact r_iret C dX11_lists_18 hr hE
  · have h := (ite_inv h).2 c3
    refine r_aload_n C dX11_lists_8 0 rfl ?_
    refine r_iload_n C dX11_lists_9 2 rfl ?_
    obtain ⟨u5, e4, h⟩ := bnd_inv h
    refine r_cVi (As := [.int x2]) (rest := []) C hR mlX11_173 dX11_lists_10 (tX11_isShell hY n x2  e4) rfl rfl (ly0 hY) rfl (nle rfl) (nle rfl) (nle rfl) ?_
    refine r_if_ne 19 C dX11_lists_13 (by decide) (fun c6 => ?_) (fun c6 => ?_)
    · have h := (ite_inv h).2 c6
      refine r_aload_n C dX11_lists_19 0 rfl ?_
      refine r_getR C flX11_81 dX11_lists_20 (ly0 hY) rfl (lr0_12 hY) ?_
      refine r_iload_n C dX11_lists_23 1 rfl ?_
      obtain ⟨b7, h⟩ := gd_inv h
      refine r_aald C dX11_lists_24 (ly128 hY) (by decide) rfl rfl b7 (lyTray hY b7).2 ?_
      obtain ⟨u9, e8, h⟩ := bnd_inv h
      refine r_cVi (As := []) (rest := []) C hR mlX11_232 dX11_lists_25 (tX10_isMissing hY n (129 + 2 * ix x1) (lyTray hY b7).1 e8) rfl rfl (isTr_0 (lyTray hY b7).1) rfl (nle rfl) (nle rfl) (nle rfl) ?_
      refine r_if_eq 34 C dX11_lists_28 (by decide) (fun c10 => ?_) (fun c10 => ?_)
      · have h := (ite_inv h).1 c10
        refine r_aload_n C dX11_lists_34 0 rfl ?_
        refine r_getR C flX11_81 dX11_lists_35 (ly0 hY) rfl (lr0_12 hY) ?_
        refine r_iload_n C dX11_lists_38 1 rfl ?_
        obtain ⟨b11, h⟩ := gd_inv h
        refine r_aald C dX11_lists_39 (ly128 hY) (by decide) rfl rfl b11 (lyTray hY b11).2 ?_
        refine r_getI C flX11_242 dX11_lists_40 (isTr_0 (lyTray hY b11).1) rfl ?_
        refine r_istore_n [(3, .int (rI μ (129 + 2 * ix x1) 1)), (0, .ref (wb (zw Z) + 0)), (1, .int x1), (2, .int x2)] C dX11_lists_43 rfl (by decide) rfl ?_
        refine r_iconst C dX11_lists_44 ic_0 ?_
        refine r_istore [(4, .int 0), (3, .int (rI μ (129 + 2 * ix x1) 1)), (0, .ref (wb (zw Z) + 0)), (1, .int x1), (2, .int x2)] C dX11_lists_45 (by decide) rfl ?_
        refine r_sub [(0, .ref (wb (zw Z) + 0)), (1, .int x1), (2, .int x2), (3, .int (rI μ (129 + 2 * ix x1) 1)), (4, .int 0)] [2, 3, 4, 1, 0] rfl ?_
        obtain ⟨m21, e22, h⟩ := bnd_inv h
        refine lp_all (sX11_lists_47 n x1 x2 (rI μ (129 + 2 * ix x1) 1)) (fun q => match q with | (z4, ν) => Wm Z (0, 0, sh, R) (ν) 47 [(0, .ref (wb (zw Z) + 0)), (1, .int x1), (2, .int x2), (3, .int (rI μ (129 + 2 * ix x1) 1)), (4, .int z4)] []) (fun q => match q with | ν => Wm Z (0, 0, sh, R) (ν) 87 [(3, .int (rI μ (129 + 2 * ix x1) 1))] []) (fun q o h kin kex => ?_) n (0, μ) m21 e22 ?_
        · obtain ⟨z4, ν⟩ := q; exact lX11_lists_47 C hR hY n   x1 x2 (rI μ (129 + 2 * ix x1) 1) z4 ν h (fun z4 ν e => kin (z4, ν) e) (fun ν e => kex (ν) e)
        show Wm Z (0, 0, sh, R) m21 87 [(3, .int (rI μ (129 + 2 * ix x1) 1))] []
        refine r_iload_n C dX11_lists_87 0 rfl ?_
        obtain ⟨h1, h2⟩ := Prod.mk.inj (Option.some.inj h)
        subst h1; subst h2
        exact r_iret C dX11_lists_88 hr hE
      · have h := (ite_inv h).2 c10
        refine r_bipush C dX11_lists_31 bp_m6 ?_
        obtain ⟨h1, h2⟩ := Prod.mk.inj (Option.some.inj h)
        subst h1; subst h2
        exact r_iret C dX11_lists_33 hr hE
    · have h := (ite_inv h).1 c6
      refine r_bipush C dX11_lists_16 bp_m2 ?_
      obtain ⟨h1, h2⟩ := Prod.mk.inj (Option.some.inj h)
      subst h1; subst h2
      exact r_iret C dX11_lists_18 hr hE
def fX11_count (n : Nat) (x1 : Int32) (μ : Mu) : Option (Int32) := if x1 = 0 then (some (rI μ 2 0)) else (if x1 = 1 then (some (rI μ 2 1)) else (if x1 = 2 then (some (rI μ 2 2)) else (if x1 = 3 then (some (rI μ 2 3)) else (if x1 = 4 then (some (rI μ 34 3)) else (if x1 = 5 then (some (rI μ 34 0)) else (if x1 = 6 then (some (rI μ 34 1)) else (if x1 = 7 then (some (rI μ 48 2)) else (if x1 = 8 then (some (rI μ 0 1)) else (if x1 = 9 then (some (rI μ 2 4)) else (some (-1)))))))))))
set_option maxRecDepth 100000 in
set_option maxHeartbeats 4000000 in
theorem tX11_count {l : Launch} {w : WP} {sh : List Sh} {R : Rf} {μ : Mu} {r : Int32} (hY : LY sh R) (n : Nat) (x1 : Int32)  (h : fX11_count n x1 μ = some r) : CM l w yX11_count cX11_count 2 (some .int) 0 0 0 sh R [.ref (wb w + 0), .int x1] μ (some (.int r)) sh R μ := by
  refine CM.of (plainFor_of_name pf_X11) (Nat.le_of_ble_eq_true rfl) fun Z C hr _ hR hw hl hE => ?_
  subst hw; subst hl
  have C : CX Z cX11_count 2 RX11 := C
  show Wm Z (0, 0, sh, R) μ 0 [(0, .ref (wb (zw Z) + 0)), (1, .int x1)] []
  unfold fX11_count at h
  refine r_iload_n C dX11_count_0 1 rfl ?_
  by_cases c1 : x1 = 0
  · have h := (ite_inv h).1 c1
    refine r_tabIn 56 C dX11_count_1 (by rw [c1, ti_0]; decide) (by rw [c1, ti_0]; decide) (by rw [c1, ti_0]; rfl) (by decide) ?_
    refine r_aload_n C dX11_count_56 0 rfl ?_
    refine r_getR C flX11_26 dX11_count_57 (ly0 hY) rfl (lr0_4 hY) ?_
    refine r_getI C flX11_281 dX11_count_60 (isSea_0 (lySea hY)) rfl ?_
    have h := Option.some.inj h
    subst h
    exact r_iret C dX11_count_63 hr hE
  have h := (ite_inv h).2 c1
  by_cases c2 : x1 = 1
  · have h := (ite_inv h).1 c2
    refine r_tabIn 64 C dX11_count_1 (by rw [c2, ti_1]; decide) (by rw [c2, ti_1]; decide) (by rw [c2, ti_1]; rfl) (by decide) ?_
    refine r_aload_n C dX11_count_64 0 rfl ?_
    refine r_getR C flX11_26 dX11_count_65 (ly0 hY) rfl (lr0_4 hY) ?_
    refine r_getI C flX11_124 dX11_count_68 (isSea_0 (lySea hY)) rfl ?_
    have h := Option.some.inj h
    subst h
    exact r_iret C dX11_count_71 hr hE
  have h := (ite_inv h).2 c2
  by_cases c3 : x1 = 2
  · have h := (ite_inv h).1 c3
    refine r_tabIn 72 C dX11_count_1 (by rw [c3, ti_2]; decide) (by rw [c3, ti_2]; decide) (by rw [c3, ti_2]; rfl) (by decide) ?_
    refine r_aload_n C dX11_count_72 0 rfl ?_
    refine r_getR C flX11_26 dX11_count_73 (ly0 hY) rfl (lr0_4 hY) ?_
    refine r_getI C flX11_278 dX11_count_76 (isSea_0 (lySea hY)) rfl ?_
    have h := Option.some.inj h
    subst h
    exact r_iret C dX11_count_79 hr hE
  have h := (ite_inv h).2 c3
  by_cases c4 : x1 = 3
  · have h := (ite_inv h).1 c4
    refine r_tabIn 80 C dX11_count_1 (by rw [c4, ti_3]; decide) (by rw [c4, ti_3]; decide) (by rw [c4, ti_3]; rfl) (by decide) ?_
    refine r_aload_n C dX11_count_80 0 rfl ?_
    refine r_getR C flX11_26 dX11_count_81 (ly0 hY) rfl (lr0_4 hY) ?_
    refine r_getI C flX11_309 dX11_count_84 (isSea_0 (lySea hY)) rfl ?_
    have h := Option.some.inj h
    subst h
    exact r_iret C dX11_count_87 hr hE
  have h := (ite_inv h).2 c4
  by_cases c5 : x1 = 4
  · have h := (ite_inv h).1 c5
    refine r_tabIn 88 C dX11_count_1 (by rw [c5, ti_4]; decide) (by rw [c5, ti_4]; decide) (by rw [c5, ti_4]; rfl) (by decide) ?_
    refine r_aload_n C dX11_count_88 0 rfl ?_
    refine r_getR C flX11_49 dX11_count_89 (ly0 hY) rfl (lr0_7 hY) ?_
    refine r_getI C flX11_215 dX11_count_92 (isSt_0 (lyNow hY)) rfl ?_
    have h := Option.some.inj h
    subst h
    exact r_iret C dX11_count_95 hr hE
  have h := (ite_inv h).2 c5
  by_cases c6 : x1 = 5
  · have h := (ite_inv h).1 c6
    refine r_tabIn 96 C dX11_count_1 (by rw [c6, ti_5]; decide) (by rw [c6, ti_5]; decide) (by rw [c6, ti_5]; rfl) (by decide) ?_
    refine r_aload_n C dX11_count_96 0 rfl ?_
    refine r_getR C flX11_49 dX11_count_97 (ly0 hY) rfl (lr0_7 hY) ?_
    refine r_getI C flX11_136 dX11_count_100 (isSt_0 (lyNow hY)) rfl ?_
    have h := Option.some.inj h
    subst h
    exact r_iret C dX11_count_103 hr hE
  have h := (ite_inv h).2 c6
  by_cases c7 : x1 = 6
  · have h := (ite_inv h).1 c7
    refine r_tabIn 104 C dX11_count_1 (by rw [c7, ti_6]; decide) (by rw [c7, ti_6]; decide) (by rw [c7, ti_6]; rfl) (by decide) ?_
    refine r_aload_n C dX11_count_104 0 rfl ?_
    refine r_getR C flX11_49 dX11_count_105 (ly0 hY) rfl (lr0_7 hY) ?_
    refine r_getI C flX11_139 dX11_count_108 (isSt_0 (lyNow hY)) rfl ?_
    have h := Option.some.inj h
    subst h
    exact r_iret C dX11_count_111 hr hE
  have h := (ite_inv h).2 c7
  by_cases c8 : x1 = 7
  · have h := (ite_inv h).1 c8
    refine r_tabIn 112 C dX11_count_1 (by rw [c8, ti_7]; decide) (by rw [c8, ti_7]; decide) (by rw [c8, ti_7]; rfl) (by decide) ?_
    refine r_aload_n C dX11_count_112 0 rfl ?_
    refine r_getR C flX11_59 dX11_count_113 (ly0 hY) rfl (lr0_9 hY) ?_
    refine r_getI C flX11_222 dX11_count_116 (ly48 hY) rfl ?_
    have h := Option.some.inj h
    subst h
    exact r_iret C dX11_count_119 hr hE
  have h := (ite_inv h).2 c8
  by_cases c9 : x1 = 8
  · have h := (ite_inv h).1 c9
    refine r_tabIn 120 C dX11_count_1 (by rw [c9, ti_8]; decide) (by rw [c9, ti_8]; decide) (by rw [c9, ti_8]; rfl) (by decide) ?_
    refine r_aload_n C dX11_count_120 0 rfl ?_
    refine r_getI C flX11_13 dX11_count_121 (ly0 hY) rfl ?_
    have h := Option.some.inj h
    subst h
    exact r_iret C dX11_count_124 hr hE
  have h := (ite_inv h).2 c9
  by_cases c10 : x1 = 9
  · have h := (ite_inv h).1 c10
    refine r_tabIn 125 C dX11_count_1 (by rw [c10, ti_9]; decide) (by rw [c10, ti_9]; decide) (by rw [c10, ti_9]; rfl) (by decide) ?_
    refine r_aload_n C dX11_count_125 0 rfl ?_
    refine r_getR C flX11_26 dX11_count_126 (ly0 hY) rfl (lr0_4 hY) ?_
    refine r_getI C flX11_121 dX11_count_129 (isSea_0 (lySea hY)) rfl ?_
    have h := Option.some.inj h
    subst h
    exact r_iret C dX11_count_132 hr hE
  have h := (ite_inv h).2 c10
  suffices hj : Wm Z (0, 0, sh, R) μ 133 [(0, .ref (wb (zw Z) + 0)), (1, .int x1)] [] by
    have q0 := tne c1 ti_0
    have q1 := tne c2 ti_1
    have q2 := tne c3 ti_2
    have q3 := tne c4 ti_3
    have q4 := tne c5 ti_4
    have q5 := tne c6 ti_5
    have q6 := tne c7 ti_6
    have q7 := tne c8 ti_7
    have q8 := tne c9 ti_8
    have q9 := tne c10 ti_9
    exact r_tabOut 133 C dX11_count_1 (by omega) (by decide) hj
  refine r_iconst C dX11_count_133 ic_m1 ?_
  have h := Option.some.inj h
  subst h
  exact r_iret C dX11_count_134 hr hE
def fX12_within (n : Nat) (y0 : Int64) (y2 : Int64) (y4 : Int64) (μ : Mu) : Option (Int32) := if (lg_cmp y0 y2) < 0 then (some 0) else (if 0 < (lg_cmp y0 y4) then (some 0) else (some 1))
set_option maxRecDepth 100000 in
set_option maxHeartbeats 4000000 in
theorem tX12_within {l : Launch} {w : WP} {sh : List Sh} {R : Rf} {μ : Mu} {r : Int32} (hY : LY sh R) (n : Nat) (y0 : Int64) (y2 : Int64) (y4 : Int64)  (h : fX12_within n y0 y2 y4 μ = some r) : CM l w yX12_within cX12_within 6 (some .boolean) 0 0 0 sh R [.long y0, .long y2, .long y4] μ (some (.int r)) sh R μ := by
  refine CM.of (plainFor_of_name pf_X12) (Nat.le_of_ble_eq_true rfl) fun Z C hr _ hR hw hl hE => ?_
  subst hw; subst hl
  have C : CX Z cX12_within 6 RX12 := C
  show Wm Z (0, 0, sh, R) μ 0 [(0, .long y0), (2, .long y2), (4, .long y4)] []
  unfold fX12_within at h
  refine r_lload_n C dX12_within_0 0 rfl ?_
  refine r_lload_n C dX12_within_1 1 rfl ?_
  refine r_lcmp C dX12_within_2 ?_
  refine r_if_lt 17 C dX12_within_3 (by decide) (fun c1 => ?_) (fun c1 => ?_)
  · have h := (ite_inv h).1 c1
    refine r_iconst C dX12_within_17 ic_0 ?_
    have h := Option.some.inj h
    subst h
    exact r_zret C dX12_within_18 hr rfl hE
  · have h := (ite_inv h).2 c1
    refine r_lload_n C dX12_within_6 0 rfl ?_
    refine r_lload C dX12_within_7 2 rfl ?_
    refine r_lcmp C dX12_within_9 ?_
    refine r_if_gt 17 C dX12_within_10 (by decide) (fun c2 => ?_) (fun c2 => ?_)
    · have h := (ite_inv h).1 c2
      refine r_iconst C dX12_within_17 ic_0 ?_
      have h := Option.some.inj h
      subst h
      exact r_zret C dX12_within_18 hr rfl hE
    · have h := (ite_inv h).2 c2
      refine r_iconst C dX12_within_13 ic_1 ?_
      refine r_goto 18 C dX12_within_14 (by decide) ?_
      have h := Option.some.inj h
      subst h
      exact r_zret C dX12_within_18 hr rfl hE
def sX12_plain_2 (n : Nat) (a0 : Nat) (n0 : Nat) : Int32 × Mu → Option ((Int32 × Mu) ⊕ (Mu)) := fun q => match q with | (x1, μ) => if 2242 ≤ x1 then (some (.inr μ)) else (gd (ib x1 n0) (some (.inl (x1 + 1, wI μ a0 (ix x1) 0))))
set_option maxRecDepth 100000 in
set_option maxHeartbeats 4000000 in
theorem lX12_plain_2 {Z : ZC} {sh : List Sh} {R : Rf} {o : (Int32 × Mu) ⊕ (Mu)} (C : CX Z cX12_plain 2 RX12) (hR : zR Z = rm 0 0 0) (hY : LY sh R) (n : Nat) (a0 : Nat) (n0 : Nat) (ha0 : sh[a0]? = some (.inr (0, n0)))  (x1 : Int32) (μ : Mu) (h : sX12_plain_2 n a0 n0 (x1, μ) = some o) (kin : ∀ (x1 : Int32) (μ : Mu), o = .inl (x1, μ) → Wm Z (0, 0, sh, R) μ 2 [(0, .ref (wb (zw Z) + a0)), (1, .int x1)] []) (kex0 : ∀ (μ : Mu), o = .inr μ → Wm Z (0, 0, sh, R) μ 19 [(0, .ref (wb (zw Z) + a0))] []) : Wm Z (0, 0, sh, R) μ 2 [(0, .ref (wb (zw Z) + a0)), (1, .int x1)] [] := by
  unfold sX12_plain_2 at h
  refine r_iload_n C dX12_plain_2 1 rfl ?_
  refine r_sipush C dX12_plain_3 sp_2242 ?_
  refine r_icmp_ge 19 C dX12_plain_6 (by decide) (fun c1 => ?_) (fun c1 => ?_)
  · have h := (ite_inv h).1 c1
    refine r_sub [(0, .ref (wb (zw Z) + a0))] [0] rfl ?_
    exact kex0 μ (Option.some.inj h).symm
  · have h := (ite_inv h).2 c1
    refine r_aload_n C dX12_plain_9 0 rfl ?_
    refine r_iload_n C dX12_plain_10 1 rfl ?_
    refine r_iconst C dX12_plain_11 ic_0 ?_
    obtain ⟨b2, h⟩ := gd_inv h
    refine r_iast C dX12_plain_12 ha0 b2 ?_
    refine r_iinc [(1, .int (x1 + 1)), (0, .ref (wb (zw Z) + a0))] C dX12_plain_13 1 rfl (in_1 _) (by decide) rfl ?_
    refine r_goto 2 C dX12_plain_16 (by decide) ?_
    refine r_sub [(0, .ref (wb (zw Z) + a0)), (1, .int (x1 + 1))] [1, 0] rfl ?_
    exact kin (x1 + 1) (wI μ a0 (ix x1) 0) (Option.some.inj h).symm
def sX12_plain_25 (n : Nat) (a0 : Nat) (n0 : Nat) : Int32 × Mu → Option ((Int32 × Mu) ⊕ (Mu)) := fun q => match q with | (x1, μ) => if 8 ≤ x1 then (some (.inr μ)) else (gd (ib (68 + x1) n0) (some (.inl (x1 + 1, wI μ a0 (ix (68 + x1)) (-1)))))
set_option maxRecDepth 100000 in
set_option maxHeartbeats 4000000 in
theorem lX12_plain_25 {Z : ZC} {sh : List Sh} {R : Rf} {o : (Int32 × Mu) ⊕ (Mu)} (C : CX Z cX12_plain 2 RX12) (hR : zR Z = rm 0 0 0) (hY : LY sh R) (n : Nat) (a0 : Nat) (n0 : Nat) (ha0 : sh[a0]? = some (.inr (0, n0)))  (x1 : Int32) (μ : Mu) (h : sX12_plain_25 n a0 n0 (x1, μ) = some o) (kin : ∀ (x1 : Int32) (μ : Mu), o = .inl (x1, μ) → Wm Z (0, 0, sh, R) μ 25 [(0, .ref (wb (zw Z) + a0)), (1, .int x1)] []) (kex0 : ∀ (μ : Mu), o = .inr μ → Wm Z (0, 0, sh, R) μ 44 [] []) : Wm Z (0, 0, sh, R) μ 25 [(0, .ref (wb (zw Z) + a0)), (1, .int x1)] [] := by
  unfold sX12_plain_25 at h
  refine r_iload_n C dX12_plain_25 1 rfl ?_
  refine r_bipush C dX12_plain_26 bp_8 ?_
  refine r_icmp_ge 44 C dX12_plain_28 (by decide) (fun c6 => ?_) (fun c6 => ?_)
  · have h := (ite_inv h).1 c6
    refine r_sub [] [] rfl ?_
    exact kex0 μ (Option.some.inj h).symm
  · have h := (ite_inv h).2 c6
    refine r_aload_n C dX12_plain_31 0 rfl ?_
    refine r_bipush C dX12_plain_32 bp_68 ?_
    refine r_iload_n C dX12_plain_34 1 rfl ?_
    refine r_iadd C dX12_plain_35 ?_
    refine r_iconst C dX12_plain_36 ic_m1 ?_
    obtain ⟨b7, h⟩ := gd_inv h
    refine r_iast C dX12_plain_37 ha0 b7 ?_
    refine r_iinc [(1, .int (x1 + 1)), (0, .ref (wb (zw Z) + a0))] C dX12_plain_38 1 rfl (in_1 _) (by decide) rfl ?_
    refine r_goto 25 C dX12_plain_41 (by decide) ?_
    refine r_sub [(0, .ref (wb (zw Z) + a0)), (1, .int (x1 + 1))] [1, 0] rfl ?_
    exact kin (x1 + 1) (wI μ a0 (ix (68 + x1)) (-1)) (Option.some.inj h).symm
def fX12_plain (n : Nat) (a0 : Nat) (n0 : Nat) (μ : Mu) : Option (Mu) := bnd (lp n (sX12_plain_2 n a0 n0) (0, μ)) fun q => match q with | m3 => gd (ib 1 n0) (bnd (lp n (sX12_plain_25 n a0 n0) (0, wI m3 a0 1 1)) fun q => match q with | m8 => some m8)
set_option maxRecDepth 100000 in
set_option maxHeartbeats 4000000 in
theorem tX12_plain {l : Launch} {w : WP} {sh : List Sh} {R : Rf} {μ : Mu} {μ' : Mu} (hY : LY sh R) (n : Nat) (a0 : Nat) (n0 : Nat) (ha0 : sh[a0]? = some (.inr (0, n0))) (h : fX12_plain n a0 n0 μ = some μ') : CM l w yX12_plain cX12_plain 2 none 0 0 0 sh R [.ref (wb w + a0)] μ none sh R μ' := by
  refine CM.of (plainFor_of_name pf_X12) (Nat.le_of_ble_eq_true rfl) fun Z C hr _ hR hw hl hE => ?_
  subst hw; subst hl
  have C : CX Z cX12_plain 2 RX12 := C
  show Wm Z (0, 0, sh, R) μ 0 [(0, .ref (wb (zw Z) + a0))] []
  unfold fX12_plain at h
  refine r_iconst C dX12_plain_0 ic_0 ?_
  refine r_istore_n [(1, .int 0), (0, .ref (wb (zw Z) + a0))] C dX12_plain_1 rfl (by decide) rfl ?_
  refine r_sub [(0, .ref (wb (zw Z) + a0)), (1, .int 0)] [1, 0] rfl ?_
  obtain ⟨m3, e4, h⟩ := bnd_inv h
  refine lp_all (sX12_plain_2 n a0 n0) (fun q => match q with | (z1, ν) => Wm Z (0, 0, sh, R) (ν) 2 [(0, .ref (wb (zw Z) + a0)), (1, .int z1)] []) (fun q => match q with | ν => Wm Z (0, 0, sh, R) (ν) 19 [(0, .ref (wb (zw Z) + a0))] []) (fun q o h kin kex => ?_) n (0, μ) m3 e4 ?_
  · obtain ⟨z1, ν⟩ := q; exact lX12_plain_2 C hR hY n a0 n0 ha0  z1 ν h (fun z1 ν e => kin (z1, ν) e) (fun ν e => kex (ν) e)
  show Wm Z (0, 0, sh, R) m3 19 [(0, .ref (wb (zw Z) + a0))] []
  refine r_aload_n C dX12_plain_19 0 rfl ?_
  refine r_iconst C dX12_plain_20 ic_1 ?_
  refine r_iconst C dX12_plain_21 ic_1 ?_
  obtain ⟨b5, h⟩ := gd_inv h
  refine r_iast C dX12_plain_22 ha0 b5 ?_
  refine r_iconst C dX12_plain_23 ic_0 ?_
  refine r_istore_n [(1, .int 0), (0, .ref (wb (zw Z) + a0))] C dX12_plain_24 rfl (by decide) rfl ?_
  refine r_sub [(0, .ref (wb (zw Z) + a0)), (1, .int 0)] [1, 0] rfl ?_
  obtain ⟨m8, e9, h⟩ := bnd_inv h
  refine lp_all (sX12_plain_25 n a0 n0) (fun q => match q with | (z1, ν) => Wm Z (0, 0, sh, R) (ν) 25 [(0, .ref (wb (zw Z) + a0)), (1, .int z1)] []) (fun q => match q with | ν => Wm Z (0, 0, sh, R) (ν) 44 [] []) (fun q o h kin kex => ?_) n (0, wI m3 a0 1 1) m8 e9 ?_
  · obtain ⟨z1, ν⟩ := q; exact lX12_plain_25 C hR hY n a0 n0 ha0  z1 ν h (fun z1 ν e => kin (z1, ν) e) (fun ν e => kex (ν) e)
  show Wm Z (0, 0, sh, R) m8 44 [] []
  have h := Option.some.inj h
  subst h
  exact r_vret C dX12_plain_44 hr hE
def sX12_feed_24 (n : Nat) (x1 : Int32) (x2 : Int32) (x3 : Int32) (x4 : Int32) (x5 : Int32) : Int32 × Mu → Option ((Int32 × Mu) ⊕ (Mu)) := fun q => match q with | (x6, μ) => if 20 ≤ x6 then (some (.inr μ)) else (gd (ib (rI μ 139 5) 900) (some (.inl (x6 + 1, wI (wI μ 142 (ix (rI μ 139 5)) ((shr (if 4 ≤ x6 then (if 8 ≤ x6 then (if 12 ≤ x6 then (if 16 ≤ x6 then x5 else x4) else x3) else x2) else x1) (24 - (8 * (jrem x6 4)))) &&& 255)) 139 5 ((rI (wI μ 142 (ix (rI μ 139 5)) ((shr (if 4 ≤ x6 then (if 8 ≤ x6 then (if 12 ≤ x6 then (if 16 ≤ x6 then x5 else x4) else x3) else x2) else x1) (24 - (8 * (jrem x6 4)))) &&& 255)) 139 5) + 1)))))
set_option maxRecDepth 100000 in
set_option maxHeartbeats 4000000 in
theorem lX12_feed_24 {Z : ZC} {sh : List Sh} {R : Rf} {o : (Int32 × Mu) ⊕ (Mu)} (C : CX Z cX12_feed 8 RX12) (hR : zR Z = rm 0 0 0) (hY : LY sh R) (n : Nat) (x1 : Int32) (x2 : Int32) (x3 : Int32) (x4 : Int32) (x5 : Int32) (x6 : Int32) (μ : Mu) (h : sX12_feed_24 n x1 x2 x3 x4 x5 (x6, μ) = some o) (kin : ∀ (x6 : Int32) (μ : Mu), o = .inl (x6, μ) → Wm Z (0, 0, sh, R) μ 24 [(0, .ref (wb (zw Z) + 139)), (1, .int x1), (2, .int x2), (3, .int x3), (4, .int x4), (5, .int x5), (6, .int x6)] []) (kex0 : ∀ (μ : Mu), o = .inr μ → Wm Z (0, 0, sh, R) μ 121 [(0, .ref (wb (zw Z) + 139))] []) : Wm Z (0, 0, sh, R) μ 24 [(0, .ref (wb (zw Z) + 139)), (1, .int x1), (2, .int x2), (3, .int x3), (4, .int x4), (5, .int x5), (6, .int x6)] [] := by
  unfold sX12_feed_24 at h
  refine r_iload C dX12_feed_24 6 rfl ?_
  refine r_bipush C dX12_feed_26 bp_20 ?_
  refine r_icmp_ge 121 C dX12_feed_28 (by decide) (fun c2 => ?_) (fun c2 => ?_)
  · have h := (ite_inv h).1 c2
    refine r_sub [(0, .ref (wb (zw Z) + 139))] [0] rfl ?_
    exact kex0 μ (Option.some.inj h).symm
  · have h := (ite_inv h).2 c2
    refine r_iload C dX12_feed_31 6 rfl ?_
    refine r_iconst C dX12_feed_33 ic_4 ?_
    suffices hj : Wm Z (0, 0, sh, R) μ 77 [(0, .ref (wb (zw Z) + 139)), (1, .int x1), (2, .int x2), (3, .int x3), (4, .int x4), (5, .int x5), (6, .int x6)] [.int (if 4 ≤ x6 then (if 8 ≤ x6 then (if 12 ≤ x6 then (if 16 ≤ x6 then x5 else x4) else x3) else x2) else x1)] by
      refine r_icmp_ge 41 C dX12_feed_34 (by decide) (fun c3 => ?_) (fun c3 => ?_)
      · refine r_iload C dX12_feed_41 6 rfl ?_
        refine r_bipush C dX12_feed_43 bp_8 ?_
        refine r_icmp_ge 52 C dX12_feed_45 (by decide) (fun c4 => ?_) (fun c4 => ?_)
        · refine r_iload C dX12_feed_52 6 rfl ?_
          refine r_bipush C dX12_feed_54 bp_12 ?_
          refine r_icmp_ge 63 C dX12_feed_56 (by decide) (fun c5 => ?_) (fun c5 => ?_)
          · refine r_iload C dX12_feed_63 6 rfl ?_
            refine r_bipush C dX12_feed_65 bp_16 ?_
            refine r_icmp_ge 75 C dX12_feed_67 (by decide) (fun c6 => ?_) (fun c6 => ?_)
            · refine r_iload C dX12_feed_75 5 rfl ?_
              exact sel_t c6 (sel_t c5 (sel_t c4 (sel_t c3 hj)))
            · refine r_iload C dX12_feed_70 4 rfl ?_
              refine r_goto 77 C dX12_feed_72 (by decide) ?_
              exact sel_f c6 (sel_t c5 (sel_t c4 (sel_t c3 hj)))
          · refine r_iload_n C dX12_feed_59 3 rfl ?_
            refine r_goto 77 C dX12_feed_60 (by decide) ?_
            exact sel_f c5 (sel_t c4 (sel_t c3 hj))
        · refine r_iload_n C dX12_feed_48 2 rfl ?_
          refine r_goto 77 C dX12_feed_49 (by decide) ?_
          exact sel_f c4 (sel_t c3 hj)
      · refine r_iload_n C dX12_feed_37 1 rfl ?_
        refine r_goto 77 C dX12_feed_38 (by decide) ?_
        exact sel_f c3 hj
    refine r_istore [(7, .int (if 4 ≤ x6 then (if 8 ≤ x6 then (if 12 ≤ x6 then (if 16 ≤ x6 then x5 else x4) else x3) else x2) else x1)), (0, .ref (wb (zw Z) + 139)), (1, .int x1), (2, .int x2), (3, .int x3), (4, .int x4), (5, .int x5), (6, .int x6)] C dX12_feed_77 (by decide) rfl ?_
    refine r_aload_n C dX12_feed_79 1 rfl ?_
    refine r_getR C flX12_21 dX12_feed_80 (ly139 hY) rfl (lr139_3 hY) ?_
    refine r_aload_n C dX12_feed_83 1 rfl ?_
    refine r_getI C flX12_68 dX12_feed_84 (ly139 hY) rfl ?_
    refine r_iload C dX12_feed_87 0 rfl ?_
    refine r_bipush C dX12_feed_89 bp_24 ?_
    refine r_bipush C dX12_feed_91 bp_8 ?_
    refine r_iload C dX12_feed_93 7 rfl ?_
    refine r_iconst C dX12_feed_95 ic_4 ?_
    refine r_irem C dX12_feed_96 (by decide) ?_
    refine r_imul C dX12_feed_97 ?_
    refine r_isub C dX12_feed_98 ?_
    refine r_ishr C dX12_feed_99 ?_
    refine r_sipush C dX12_feed_100 sp_255 ?_
    refine r_iand C dX12_feed_103 ?_
    obtain ⟨b7, h⟩ := gd_inv h
    refine r_iast C dX12_feed_104 (ly142 hY) b7 ?_
    refine r_aload_n C dX12_feed_105 1 rfl ?_
    refine r_dup C dX12_feed_106 rfl ?_
    refine r_getI C flX12_68 dX12_feed_107 (ly139 hY) rfl ?_
    refine r_iconst C dX12_feed_110 ic_1 ?_
    refine r_iadd C dX12_feed_111 ?_
    refine r_putI C fiX12_68 dX12_feed_112 (ly139 hY) ?_
    refine r_iinc [(6, .int (x6 + 1)), (7, .int (if 4 ≤ x6 then (if 8 ≤ x6 then (if 12 ≤ x6 then (if 16 ≤ x6 then x5 else x4) else x3) else x2) else x1)), (0, .ref (wb (zw Z) + 139)), (1, .int x1), (2, .int x2), (3, .int x3), (4, .int x4), (5, .int x5)] C dX12_feed_115 7 rfl (in_1 _) (by decide) rfl ?_
    refine r_goto 24 C dX12_feed_118 (by decide) ?_
    refine r_sub [(0, .ref (wb (zw Z) + 139)), (1, .int x1), (2, .int x2), (3, .int x3), (4, .int x4), (5, .int x5), (6, .int (x6 + 1))] [2, 3, 4, 5, 6, 7, 0] rfl ?_
    exact kin (x6 + 1) (wI (wI μ 142 (ix (rI μ 139 5)) ((shr (if 4 ≤ x6 then (if 8 ≤ x6 then (if 12 ≤ x6 then (if 16 ≤ x6 then x5 else x4) else x3) else x2) else x1) (24 - (8 * (jrem x6 4)))) &&& 255)) 139 5 ((rI (wI μ 142 (ix (rI μ 139 5)) ((shr (if 4 ≤ x6 then (if 8 ≤ x6 then (if 12 ≤ x6 then (if 16 ≤ x6 then x5 else x4) else x3) else x2) else x1) (24 - (8 * (jrem x6 4)))) &&& 255)) 139 5) + 1)) (Option.some.inj h).symm
def fX12_feed (n : Nat) (x1 : Int32) (x2 : Int32) (x3 : Int32) (x4 : Int32) (x5 : Int32) (μ : Mu) : Option (Int32 × Mu) := if ((rI (wI μ 139 0 0) 139 5) + 20) ≤ 900 then (bnd (lp n (sX12_feed_24 n x1 x2 x3 x4 x5) (0, wI μ 139 0 0)) fun q => match q with | m8 => some (rI m8 139 5, m8)) else (some ((-5), wI μ 139 0 0))
set_option maxRecDepth 100000 in
set_option maxHeartbeats 4000000 in
theorem tX12_feed {l : Launch} {w : WP} {sh : List Sh} {R : Rf} {μ : Mu} {r : Int32} {μ' : Mu} (hY : LY sh R) (n : Nat) (x1 : Int32) (x2 : Int32) (x3 : Int32) (x4 : Int32) (x5 : Int32)  (h : fX12_feed n x1 x2 x3 x4 x5 μ = some (r, μ')) : CM l w yX12_feed cX12_feed 8 (some .int) 0 0 0 sh R [.ref (wb w + 139), .int x1, .int x2, .int x3, .int x4, .int x5] μ (some (.int r)) sh R μ' := by
  refine CM.of (plainFor_of_name pf_X12) (Nat.le_of_ble_eq_true rfl) fun Z C hr _ hR hw hl hE => ?_
  subst hw; subst hl
  have C : CX Z cX12_feed 8 RX12 := C
  show Wm Z (0, 0, sh, R) μ 0 [(0, .ref (wb (zw Z) + 139)), (1, .int x1), (2, .int x2), (3, .int x3), (4, .int x4), (5, .int x5)] []
  unfold fX12_feed at h
  refine r_aload_n C dX12_feed_0 0 rfl ?_
  refine r_iconst C dX12_feed_1 ic_0 ?_
  refine r_putI C fiX12_1 dX12_feed_2 (ly139 hY) ?_
  refine r_aload_n C dX12_feed_5 0 rfl ?_
  refine r_getI C flX12_68 dX12_feed_6 (ly139 hY) rfl ?_
  refine r_bipush C dX12_feed_9 bp_20 ?_
  refine r_iadd C dX12_feed_11 ?_
  refine r_sipush C dX12_feed_12 sp_900 ?_
  refine r_icmp_le 21 C dX12_feed_15 (by decide) (fun c1 => ?_) (fun c1 => ?_)
  · have h := (ite_inv h).1 c1
    refine r_iconst C dX12_feed_21 ic_0 ?_
    refine r_istore [(6, .int 0), (0, .ref (wb (zw Z) + 139)), (1, .int x1), (2, .int x2), (3, .int x3), (4, .int x4), (5, .int x5)] C dX12_feed_22 (by decide) rfl ?_
    refine r_sub [(0, .ref (wb (zw Z) + 139)), (1, .int x1), (2, .int x2), (3, .int x3), (4, .int x4), (5, .int x5), (6, .int 0)] [1, 2, 3, 4, 5, 6, 0] rfl ?_
    obtain ⟨m8, e9, h⟩ := bnd_inv h
    refine lp_all (sX12_feed_24 n x1 x2 x3 x4 x5) (fun q => match q with | (z6, ν) => Wm Z (0, 0, sh, R) (ν) 24 [(0, .ref (wb (zw Z) + 139)), (1, .int x1), (2, .int x2), (3, .int x3), (4, .int x4), (5, .int x5), (6, .int z6)] []) (fun q => match q with | ν => Wm Z (0, 0, sh, R) (ν) 121 [(0, .ref (wb (zw Z) + 139))] []) (fun q o h kin kex => ?_) n (0, wI μ 139 0 0) m8 e9 ?_
    · obtain ⟨z6, ν⟩ := q; exact lX12_feed_24 C hR hY n   x1 x2 x3 x4 x5 z6 ν h (fun z6 ν e => kin (z6, ν) e) (fun ν e => kex (ν) e)
    show Wm Z (0, 0, sh, R) m8 121 [(0, .ref (wb (zw Z) + 139))] []
    refine r_aload_n C dX12_feed_121 0 rfl ?_
    refine r_getI C flX12_68 dX12_feed_122 (ly139 hY) rfl ?_
    obtain ⟨h1, h2⟩ := Prod.mk.inj (Option.some.inj h)
    subst h1; subst h2
    exact r_iret C dX12_feed_125 hr hE
  · have h := (ite_inv h).2 c1
    refine r_bipush C dX12_feed_18 bp_m5 ?_
    obtain ⟨h1, h2⟩ := Prod.mk.inj (Option.some.inj h)
    subst h1; subst h2
    exact r_iret C dX12_feed_20 hr hE
