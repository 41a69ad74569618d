def fX9_isLetter (n : Nat) (x0 : Int32) (μ : Mu) : Option (Int32) := if x0 < 97 then (some 0) else (if 122 < x0 then (some 0) else (some 1))
set_option maxRecDepth 100000 in
set_option maxHeartbeats 4000000 in
theorem tX9_isLetter {l : Launch} {w : WP} {sh : List Sh} {R : Rf} {μ : Mu} {r : Int32} (hY : LY sh R) (n : Nat) (x0 : Int32)  (h : fX9_isLetter n x0 μ = some r) : CM l w yX9_isLetter cX9_isLetter 1 (some .boolean) 0 0 0 sh R [.int x0] μ (some (.int r)) sh R μ := by
  refine CM.of (plainFor_of_name pf_X9) (Nat.le_of_ble_eq_true rfl) fun Z C hr _ hR hw hl hE => ?_
  subst hw; subst hl
  have C : CX Z cX9_isLetter 1 RX9 := C
  show Wm Z (0, 0, sh, R) μ 0 [(0, .int x0)] []
  unfold fX9_isLetter at h
  refine r_iload_n C dX9_isLetter_0 0 rfl ?_
  refine r_bipush C dX9_isLetter_1 bp_97 ?_
  refine r_icmp_lt 16 C dX9_isLetter_3 (by decide) (fun c1 => ?_) (fun c1 => ?_)
  · have h := (ite_inv h).1 c1
    refine r_iconst C dX9_isLetter_16 ic_0 ?_
    have h := Option.some.inj h
    subst h
    exact r_zret C dX9_isLetter_17 hr rfl hE
  · have h := (ite_inv h).2 c1
    refine r_iload_n C dX9_isLetter_6 0 rfl ?_
    refine r_bipush C dX9_isLetter_7 bp_122 ?_
    refine r_icmp_gt 16 C dX9_isLetter_9 (by decide) (fun c2 => ?_) (fun c2 => ?_)
    · have h := (ite_inv h).1 c2
      refine r_iconst C dX9_isLetter_16 ic_0 ?_
      have h := Option.some.inj h
      subst h
      exact r_zret C dX9_isLetter_17 hr rfl hE
    · have h := (ite_inv h).2 c2
      refine r_iconst C dX9_isLetter_12 ic_1 ?_
      refine r_goto 17 C dX9_isLetter_13 (by decide) ?_
      have h := Option.some.inj h
      subst h
      exact r_zret C dX9_isLetter_17 hr rfl hE
def fX9_isDigit (n : Nat) (x0 : Int32) (μ : Mu) : Option (Int32) := if x0 < 48 then (some 0) else (if 57 < x0 then (some 0) else (some 1))
set_option maxRecDepth 100000 in
set_option maxHeartbeats 4000000 in
theorem tX9_isDigit {l : Launch} {w : WP} {sh : List Sh} {R : Rf} {μ : Mu} {r : Int32} (hY : LY sh R) (n : Nat) (x0 : Int32)  (h : fX9_isDigit n x0 μ = some r) : CM l w yX9_isDigit cX9_isDigit 1 (some .boolean) 0 0 0 sh R [.int x0] μ (some (.int r)) sh R μ := by
  refine CM.of (plainFor_of_name pf_X9) (Nat.le_of_ble_eq_true rfl) fun Z C hr _ hR hw hl hE => ?_
  subst hw; subst hl
  have C : CX Z cX9_isDigit 1 RX9 := C
  show Wm Z (0, 0, sh, R) μ 0 [(0, .int x0)] []
  unfold fX9_isDigit at h
  refine r_iload_n C dX9_isDigit_0 0 rfl ?_
  refine r_bipush C dX9_isDigit_1 bp_48 ?_
  refine r_icmp_lt 16 C dX9_isDigit_3 (by decide) (fun c1 => ?_) (fun c1 => ?_)
  · have h := (ite_inv h).1 c1
    refine r_iconst C dX9_isDigit_16 ic_0 ?_
    have h := Option.some.inj h
    subst h
    exact r_zret C dX9_isDigit_17 hr rfl hE
  · have h := (ite_inv h).2 c1
    refine r_iload_n C dX9_isDigit_6 0 rfl ?_
    refine r_bipush C dX9_isDigit_7 bp_57 ?_
    refine r_icmp_gt 16 C dX9_isDigit_9 (by decide) (fun c2 => ?_) (fun c2 => ?_)
    · have h := (ite_inv h).1 c2
      refine r_iconst C dX9_isDigit_16 ic_0 ?_
      have h := Option.some.inj h
      subst h
      exact r_zret C dX9_isDigit_17 hr rfl hE
    · have h := (ite_inv h).2 c2
      refine r_iconst C dX9_isDigit_12 ic_1 ?_
      refine r_goto 17 C dX9_isDigit_13 (by decide) ?_
      have h := Option.some.inj h
      subst h
      exact r_zret C dX9_isDigit_17 hr rfl hE
def sX9_runEnd_12 (n : Nat) (x2 : Int32) (x3 : Int32) (μ : Mu) : Int32 → Option ((Int32) ⊕ (Int32)) := fun q => match q with | x4 => if x2 ≤ x4 then (some (.inr x4)) else (if x3 = 0 then (gd (ib x4 900) (bnd (fX9_isDigit n (rI μ 1 (ix x4)) μ) fun u8 => if u8 = 0 then (some (.inr x4)) else (some (.inl (x4 + 1))))) else (gd (ib x4 900) (bnd (fX9_isLetter n (rI μ 1 (ix x4)) μ) fun u12 => if u12 = 0 then (some (.inr x4)) else (some (.inl (x4 + 1))))))
set_option maxRecDepth 100000 in
set_option maxHeartbeats 4000000 in
theorem lX9_runEnd_12 {Z : ZC} {sh : List Sh} {R : Rf} {o : (Int32) ⊕ (Int32)} (C : CX Z cX9_runEnd 5 RX9) (hR : zR Z = rm 1 0 0) (hY : LY sh R) (n : Nat) (x2 : Int32) (x3 : Int32) (μ : Mu) (x4 : Int32) (h : sX9_runEnd_12 n x2 x3 μ x4 = some o) (kin : ∀ (x4 : Int32), o = .inl x4 → Wm Z (0, 0, sh, R) μ 12 [(0, .ref (wb (zw Z) + 1)), (2, .int x2), (3, .int x3), (4, .int x4)] []) (kex0 : ∀ (x4 : Int32), o = .inr x4 → Wm Z (0, 0, sh, R) μ 51 [(4, .int x4)] []) : Wm Z (0, 0, sh, R) μ 12 [(0, .ref (wb (zw Z) + 1)), (2, .int x2), (3, .int x3), (4, .int x4)] [] := by
  unfold sX9_runEnd_12 at h
  refine r_iload C dX9_runEnd_12 3 rfl ?_
  refine r_iload_n C dX9_runEnd_14 1 rfl ?_
  refine r_icmp_ge 51 C dX9_runEnd_15 (by decide) (fun c4 => ?_) (fun c4 => ?_)
  · have h := (ite_inv h).1 c4
    refine r_sub [(4, .int x4)] [3] rfl ?_
    exact kex0 x4 (Option.some.inj h).symm
  · have h := (ite_inv h).2 c4
    refine r_iload_n C dX9_runEnd_18 2 rfl ?_
    refine r_if_eq 35 C dX9_runEnd_19 (by decide) (fun c5 => ?_) (fun c5 => ?_)
    · have h := (ite_inv h).1 c5
      refine r_aload_n C dX9_runEnd_35 0 rfl ?_
      refine r_iload C dX9_runEnd_36 3 rfl ?_
      obtain ⟨b6, h⟩ := gd_inv h
      refine r_bald C dX9_runEnd_38 (ly1 hY) b6 ?_
      obtain ⟨u8, e7, h⟩ := bnd_inv h
      refine r_cSi (As := [.int (rI μ 1 (ix x4))]) (rest := []) C hR mlX9_26 dX9_runEnd_39 (tX9_isDigit hY n (rI μ 1 (ix x4))  e7) rfl rfl (nle rfl) (nle rfl) (nle rfl) ?_
      refine r_if_eq 51 C dX9_runEnd_42 (by decide) (fun c9 => ?_) (fun c9 => ?_)
      · have h := (ite_inv h).1 c9
        refine r_sub [(4, .int x4)] [3] rfl ?_
        exact kex0 x4 (Option.some.inj h).symm
      · have h := (ite_inv h).2 c9
        refine r_iinc [(4, .int (x4 + 1)), (0, .ref (wb (zw Z) + 1)), (2, .int x2), (3, .int x3)] C dX9_runEnd_45 3 rfl (in_1 _) (by decide) rfl ?_
        refine r_goto 12 C dX9_runEnd_48 (by decide) ?_
        refine r_sub [(0, .ref (wb (zw Z) + 1)), (2, .int x2), (3, .int x3), (4, .int (x4 + 1))] [1, 2, 3, 0] rfl ?_
        exact kin (x4 + 1) (Option.some.inj h).symm
    · have h := (ite_inv h).2 c5
      refine r_aload_n C dX9_runEnd_22 0 rfl ?_
      refine r_iload C dX9_runEnd_23 3 rfl ?_
      obtain ⟨b10, h⟩ := gd_inv h
      refine r_bald C dX9_runEnd_25 (ly1 hY) b10 ?_
      obtain ⟨u12, e11, h⟩ := bnd_inv h
      refine r_cSi (As := [.int (rI μ 1 (ix x4))]) (rest := []) C hR mlX9_22 dX9_runEnd_26 (tX9_isLetter hY n (rI μ 1 (ix x4))  e11) rfl rfl (nle rfl) (nle rfl) (nle rfl) ?_
      refine r_if_eq 51 C dX9_runEnd_29 (by decide) (fun c13 => ?_) (fun c13 => ?_)
      · have h := (ite_inv h).1 c13
        refine r_sub [(4, .int x4)] [3] rfl ?_
        exact kex0 x4 (Option.some.inj h).symm
      · have h := (ite_inv h).2 c13
        refine r_goto 45 C dX9_runEnd_32 (by decide) ?_
        refine r_iinc [(4, .int (x4 + 1)), (0, .ref (wb (zw Z) + 1)), (2, .int x2), (3, .int x3)] C dX9_runEnd_45 3 rfl (in_1 _) (by decide) rfl ?_
        refine r_goto 12 C dX9_runEnd_48 (by decide) ?_
        refine r_sub [(0, .ref (wb (zw Z) + 1)), (2, .int x2), (3, .int x3), (4, .int (x4 + 1))] [1, 2, 3, 0] rfl ?_
        exact kin (x4 + 1) (Option.some.inj h).symm
def fX9_runEnd (n : Nat) (x1 : Int32) (x2 : Int32) (μ : Mu) : Option (Int32) := gd (ib x1 900) (bnd (fX9_isLetter n (rI μ 1 (ix x1)) μ) fun u3 => bnd (lp n (sX9_runEnd_12 n x2 u3 μ) (x1 + 1)) fun q => match q with | u14 => some u14)
set_option maxRecDepth 100000 in
set_option maxHeartbeats 4000000 in
theorem tX9_runEnd {l : Launch} {w : WP} {sh : List Sh} {R : Rf} {μ : Mu} {r : Int32} (hY : LY sh R) (n : Nat) (x1 : Int32) (x2 : Int32)  (h : fX9_runEnd n x1 x2 μ = some r) : CM l w yX9_runEnd cX9_runEnd 5 (some .int) 1 0 0 sh R [.ref (wb w + 1), .int x1, .int x2] μ (some (.int r)) sh R μ := by
  refine CM.of (plainFor_of_name pf_X9) (Nat.le_of_ble_eq_true rfl) fun Z C hr _ hR hw hl hE => ?_
  subst hw; subst hl
  have C : CX Z cX9_runEnd 5 RX9 := C
  show Wm Z (0, 0, sh, R) μ 0 [(0, .ref (wb (zw Z) + 1)), (1, .int x1), (2, .int x2)] []
  unfold fX9_runEnd at h
  refine r_aload_n C dX9_runEnd_0 0 rfl ?_
  refine r_iload_n C dX9_runEnd_1 1 rfl ?_
  obtain ⟨b1, h⟩ := gd_inv h
  refine r_bald C dX9_runEnd_2 (ly1 hY) b1 ?_
  obtain ⟨u3, e2, h⟩ := bnd_inv h
  refine r_cSi (As := [.int (rI μ 1 (ix x1))]) (rest := []) C hR mlX9_22 dX9_runEnd_3 (tX9_isLetter hY n (rI μ 1 (ix x1))  e2) rfl rfl (nle rfl) (nle rfl) (nle rfl) ?_
  refine r_istore_n [(3, .int u3), (0, .ref (wb (zw Z) + 1)), (1, .int x1), (2, .int x2)] C dX9_runEnd_6 rfl (by decide) rfl ?_
  refine r_iload_n C dX9_runEnd_7 2 rfl ?_
  refine r_iconst C dX9_runEnd_8 ic_1 ?_
  refine r_iadd C dX9_runEnd_9 ?_
  refine r_istore [(4, .int (x1 + 1)), (3, .int u3), (0, .ref (wb (zw Z) + 1)), (1, .int x1), (2, .int x2)] C dX9_runEnd_10 (by decide) rfl ?_
  refine r_sub [(0, .ref (wb (zw Z) + 1)), (2, .int x2), (3, .int u3), (4, .int (x1 + 1))] [2, 4, 1, 0] rfl ?_
  obtain ⟨u14, e15, h⟩ := bnd_inv h
  refine lp_all (sX9_runEnd_12 n x2 u3 μ) (fun q => match q with | z4 => Wm Z (0, 0, sh, R) μ 12 [(0, .ref (wb (zw Z) + 1)), (2, .int x2), (3, .int u3), (4, .int z4)] []) (fun q => match q with | z4 => Wm Z (0, 0, sh, R) μ 51 [(4, .int z4)] []) (fun q o h kin kex => ?_) n (x1 + 1) u14 e15 ?_
  · exact lX9_runEnd_12 C hR hY n   x2 u3 μ q h (fun z4 e => kin z4 e) (fun z4 e => kex z4 e)
  show Wm Z (0, 0, sh, R) μ 51 [(4, .int u14)] []
  refine r_iload C dX9_runEnd_51 0 rfl ?_
  have h := Option.some.inj h
  subst h
  exact r_iret C dX9_runEnd_53 hr hE
def jX9_wordOf_85 (n : Nat) (x1 : Int32) (x2 : Int32) (x3 : Int32) (x6 : Int32) (μ : Mu) : Option ((Int32 × Int32 × Int32 × Int32) ⊕ ((Int32) ⊕ (Unit))) := some (.inl (x3 + 1, x1, 1, x6 + 1))
set_option maxRecDepth 100000 in
set_option maxHeartbeats 4000000 in
theorem kX9_wordOf_85 {Z : ZC} {sh : List Sh} {R : Rf} {o : (Int32 × Int32 × Int32 × Int32) ⊕ ((Int32) ⊕ (Unit))} (C : CX Z cX9_wordOf 8 RX9) (hR : zR Z = rm 6 0 0) (hY : LY sh R) (n : Nat) (x1 : Int32) (x2 : Int32) (x3 : Int32) (x6 : Int32) (μ : Mu) (h : jX9_wordOf_85 n x1 x2 x3 x6 μ = some o) (kin : ∀ (x3 : Int32) (x4 : Int32) (x5 : Int32) (x6 : Int32), o = .inl (x3, x4, x5, x6) → Wm Z (0, 0, sh, R) μ 13 [(0, .ref (wb (zw Z) + 1)), (1, .int x1), (2, .int x2), (3, .int x3), (4, .int x4), (5, .int x5), (6, .int x6)] []) (kex0 : ∀ (x3 : Int32), o = .inr (.inl x3) → Wm Z (0, 0, sh, R) μ 83 [(3, .int x3)] []) (kex1 : o = .inr (.inr ()) → Wm Z (0, 0, sh, R) μ 100 [] []) : Wm Z (0, 0, sh, R) μ 85 [(0, .ref (wb (zw Z) + 1)), (1, .int x1), (2, .int x2), (3, .int x3), (6, .int x6)] [] := by
  unfold jX9_wordOf_85 at h
  refine r_iinc [(3, .int (x3 + 1)), (0, .ref (wb (zw Z) + 1)), (1, .int x1), (2, .int x2), (6, .int x6)] C dX9_wordOf_85 3 rfl (in_1 _) (by decide) rfl ?_
  refine r_iload_n C dX9_wordOf_88 2 rfl ?_
  refine r_istore [(4, .int x1), (3, .int (x3 + 1)), (0, .ref (wb (zw Z) + 1)), (1, .int x1), (2, .int x2), (6, .int x6)] C dX9_wordOf_89 (by decide) rfl ?_
  refine r_iconst C dX9_wordOf_91 ic_1 ?_
  refine r_istore [(5, .int 1), (4, .int x1), (3, .int (x3 + 1)), (0, .ref (wb (zw Z) + 1)), (1, .int x1), (2, .int x2), (6, .int x6)] C dX9_wordOf_92 (by decide) rfl ?_
  refine r_iinc [(6, .int (x6 + 1)), (5, .int 1), (4, .int x1), (3, .int (x3 + 1)), (0, .ref (wb (zw Z) + 1)), (1, .int x1), (2, .int x2)] C dX9_wordOf_94 6 rfl (in_1 _) (by decide) rfl ?_
  refine r_goto 13 C dX9_wordOf_97 (by decide) ?_
  refine r_sub [(0, .ref (wb (zw Z) + 1)), (1, .int x1), (2, .int x2), (3, .int (x3 + 1)), (4, .int x1), (5, .int 1), (6, .int (x6 + 1))] [4, 5, 6, 3, 2, 1, 0] rfl ?_
  exact kin (x3 + 1) x1 1 (x6 + 1) (Option.some.inj h).symm
def jX9_wordOf_64 (n : Nat) (x1 : Int32) (x2 : Int32) (x3 : Int32) (x4 : Int32) (x6 : Int32) (s0 : Int32) (μ : Mu) : Option ((Int32 × Int32 × Int32 × Int32) ⊕ ((Int32) ⊕ (Unit))) := some (.inl (x3, x4 + 1, s0, x6 + 1))
set_option maxRecDepth 100000 in
set_option maxHeartbeats 4000000 in
theorem kX9_wordOf_64 {Z : ZC} {sh : List Sh} {R : Rf} {o : (Int32 × Int32 × Int32 × Int32) ⊕ ((Int32) ⊕ (Unit))} (C : CX Z cX9_wordOf 8 RX9) (hR : zR Z = rm 6 0 0) (hY : LY sh R) (n : Nat) (x1 : Int32) (x2 : Int32) (x3 : Int32) (x4 : Int32) (x6 : Int32) (s0 : Int32) (μ : Mu) (h : jX9_wordOf_64 n x1 x2 x3 x4 x6 s0 μ = some o) (kin : ∀ (x3 : Int32) (x4 : Int32) (x5 : Int32) (x6 : Int32), o = .inl (x3, x4, x5, x6) → Wm Z (0, 0, sh, R) μ 13 [(0, .ref (wb (zw Z) + 1)), (1, .int x1), (2, .int x2), (3, .int x3), (4, .int x4), (5, .int x5), (6, .int x6)] []) (kex0 : ∀ (x3 : Int32), o = .inr (.inl x3) → Wm Z (0, 0, sh, R) μ 83 [(3, .int x3)] []) (kex1 : o = .inr (.inr ()) → Wm Z (0, 0, sh, R) μ 100 [] []) : Wm Z (0, 0, sh, R) μ 64 [(0, .ref (wb (zw Z) + 1)), (1, .int x1), (2, .int x2), (3, .int x3), (4, .int x4), (6, .int x6)] [.int s0] := by
  unfold jX9_wordOf_64 at h
  refine r_istore [(5, .int s0), (0, .ref (wb (zw Z) + 1)), (1, .int x1), (2, .int x2), (3, .int x3), (4, .int x4), (6, .int x6)] C dX9_wordOf_64 (by decide) rfl ?_
  refine r_iinc [(4, .int (x4 + 1)), (5, .int s0), (0, .ref (wb (zw Z) + 1)), (1, .int x1), (2, .int x2), (3, .int x3), (6, .int x6)] C dX9_wordOf_66 5 rfl (in_1 _) (by decide) rfl ?_
  refine r_goto 94 C dX9_wordOf_69 (by decide) ?_
  refine r_iinc [(6, .int (x6 + 1)), (4, .int (x4 + 1)), (5, .int s0), (0, .ref (wb (zw Z) + 1)), (1, .int x1), (2, .int x2), (3, .int x3)] C dX9_wordOf_94 6 rfl (in_1 _) (by decide) rfl ?_
  refine r_goto 13 C dX9_wordOf_97 (by decide) ?_
  refine r_sub [(0, .ref (wb (zw Z) + 1)), (1, .int x1), (2, .int x2), (3, .int x3), (4, .int (x4 + 1)), (5, .int s0), (6, .int (x6 + 1))] [3, 4, 5, 6, 1, 2, 0] rfl ?_
  exact kin x3 (x4 + 1) s0 (x6 + 1) (Option.some.inj h).symm
def jX9_wordOf_63 (n : Nat) (x1 : Int32) (x2 : Int32) (x3 : Int32) (x4 : Int32) (x6 : Int32) (μ : Mu) : Option ((Int32 × Int32 × Int32 × Int32) ⊕ ((Int32) ⊕ (Unit))) := jX9_wordOf_64 n x1 x2 x3 x4 x6 0 μ
set_option maxRecDepth 100000 in
set_option maxHeartbeats 4000000 in
theorem kX9_wordOf_63 {Z : ZC} {sh : List Sh} {R : Rf} {o : (Int32 × Int32 × Int32 × Int32) ⊕ ((Int32) ⊕ (Unit))} (C : CX Z cX9_wordOf 8 RX9) (hR : zR Z = rm 6 0 0) (hY : LY sh R) (n : Nat) (x1 : Int32) (x2 : Int32) (x3 : Int32) (x4 : Int32) (x6 : Int32) (μ : Mu) (h : jX9_wordOf_63 n x1 x2 x3 x4 x6 μ = some o) (kin : ∀ (x3 : Int32) (x4 : Int32) (x5 : Int32) (x6 : Int32), o = .inl (x3, x4, x5, x6) → Wm Z (0, 0, sh, R) μ 13 [(0, .ref (wb (zw Z) + 1)), (1, .int x1), (2, .int x2), (3, .int x3), (4, .int x4), (5, .int x5), (6, .int x6)] []) (kex0 : ∀ (x3 : Int32), o = .inr (.inl x3) → Wm Z (0, 0, sh, R) μ 83 [(3, .int x3)] []) (kex1 : o = .inr (.inr ()) → Wm Z (0, 0, sh, R) μ 100 [] []) : Wm Z (0, 0, sh, R) μ 63 [(0, .ref (wb (zw Z) + 1)), (1, .int x1), (2, .int x2), (3, .int x3), (4, .int x4), (6, .int x6)] [] := by
  unfold jX9_wordOf_63 at h
  refine r_iconst C dX9_wordOf_63 ic_0 ?_
  exact kX9_wordOf_64 C hR hY n   x1 x2 x3 x4 x6 0 μ h kin kex0 kex1
def sX9_wordOf_13 (n : Nat) (x1 : Int32) (x2 : Int32) (μ : Mu) : Int32 × Int32 × Int32 × Int32 → Option ((Int32 × Int32 × Int32 × Int32) ⊕ ((Int32) ⊕ (Unit))) := fun q => match q with | (x3, x4, x5, x6) => if 112 ≤ x6 then (some (.inr (.inr ()))) else (gd (ib x6 112) (if (sch 0 (ix x6)) = 32 then (if x5 = 0 then (jX9_wordOf_85 n x1 x2 x3 x6 μ) else (if x4 = x2 then (some (.inr (.inl x3))) else (jX9_wordOf_85 n x1 x2 x3 x6 μ))) else (if x5 = 0 then (jX9_wordOf_63 n x1 x2 x3 x4 x6 μ) else (if x2 ≤ x4 then (jX9_wordOf_63 n x1 x2 x3 x4 x6 μ) else (gd (ib x4 900) (some (.inl (x3, x4 + 1, (if (rI μ 1 (ix x4)) = (sch 0 (ix x6)) then 1 else 0 : Int32), x6 + 1))))))))
set_option maxRecDepth 100000 in
set_option maxHeartbeats 4000000 in
theorem lX9_wordOf_13 {Z : ZC} {sh : List Sh} {R : Rf} {o : (Int32 × Int32 × Int32 × Int32) ⊕ ((Int32) ⊕ (Unit))} (C : CX Z cX9_wordOf 8 RX9) (hR : zR Z = rm 6 0 0) (hY : LY sh R) (n : Nat) (x1 : Int32) (x2 : Int32) (μ : Mu) (x3 : Int32) (x4 : Int32) (x5 : Int32) (x6 : Int32) (h : sX9_wordOf_13 n x1 x2 μ (x3, x4, x5, x6) = some o) (kin : ∀ (x3 : Int32) (x4 : Int32) (x5 : Int32) (x6 : Int32), o = .inl (x3, x4, x5, x6) → Wm Z (0, 0, sh, R) μ 13 [(0, .ref (wb (zw Z) + 1)), (1, .int x1), (2, .int x2), (3, .int x3), (4, .int x4), (5, .int x5), (6, .int x6)] []) (kex0 : ∀ (x3 : Int32), o = .inr (.inl x3) → Wm Z (0, 0, sh, R) μ 83 [(3, .int x3)] []) (kex1 : o = .inr (.inr ()) → Wm Z (0, 0, sh, R) μ 100 [] []) : Wm Z (0, 0, sh, R) μ 13 [(0, .ref (wb (zw Z) + 1)), (1, .int x1), (2, .int x2), (3, .int x3), (4, .int x4), (5, .int x5), (6, .int x6)] [] := by
  unfold sX9_wordOf_13 at h
  refine r_iload C dX9_wordOf_13 6 rfl ?_
  refine r_ldcS C dX9_wordOf_15 C.2.2.2.2.2.2.1.2.2.1.1 ?_
  refine r_cW (As := []) (rest := [.int x6]) C hR mlX9_53 dX9_wordOf_17 (t_slen0 hY) rfl rfl (nle rfl) (nle rfl) (nle rfl) ?_
  refine r_icmp_ge 100 C dX9_wordOf_20 (by decide) (fun c1 => ?_) (fun c1 => ?_)
  · have h := (ite_inv h).1 c1
    refine r_sub [] [] rfl ?_
    exact kex1 (Option.some.inj h).symm
  · have h := (ite_inv h).2 c1
    refine r_ldcS C dX9_wordOf_23 C.2.2.2.2.2.2.1.2.2.1.1 ?_
    refine r_iload C dX9_wordOf_25 6 rfl ?_
    obtain ⟨b2, h⟩ := gd_inv h
    refine r_cW (As := [.int x6]) (rest := []) C hR mlX9_57 dX9_wordOf_27 (t_scha0 hY b2) rfl rfl (nle rfl) (nle rfl) (nle rfl) ?_
    refine r_istore [(7, .int (sch 0 (ix x6))), (0, .ref (wb (zw Z) + 1)), (1, .int x1), (2, .int x2), (3, .int x3), (4, .int x4), (5, .int x5), (6, .int x6)] C dX9_wordOf_30 (by decide) rfl ?_
    refine r_iload C dX9_wordOf_32 0 rfl ?_
    refine r_bipush C dX9_wordOf_34 bp_32 ?_
    refine r_icmp_eq 72 C dX9_wordOf_36 (by decide) (fun c3 => ?_) (fun c3 => ?_)
    · have h := (ite_inv h).1 c3
      refine r_iload C dX9_wordOf_72 6 rfl ?_
      refine r_if_eq 85 C dX9_wordOf_74 (by decide) (fun c4 => ?_) (fun c4 => ?_)
      · have h := (ite_inv h).1 c4
        refine r_sub [(0, .ref (wb (zw Z) + 1)), (1, .int x1), (2, .int x2), (3, .int x3), (6, .int x6)] [1, 2, 3, 4, 7] rfl ?_
        exact kX9_wordOf_85 C hR hY n   x1 x2 x3 x6 μ h kin kex0 kex1
      · have h := (ite_inv h).2 c4
        refine r_iload C dX9_wordOf_77 5 rfl ?_
        refine r_iload_n C dX9_wordOf_79 3 rfl ?_
        refine r_icmp_ne 85 C dX9_wordOf_80 (by decide) (fun c5 => ?_) (fun c5 => ?_)
        · have h := (ite_inv h).2 c5
          refine r_sub [(0, .ref (wb (zw Z) + 1)), (1, .int x1), (2, .int x2), (3, .int x3), (6, .int x6)] [1, 2, 3, 4, 7] rfl ?_
          exact kX9_wordOf_85 C hR hY n   x1 x2 x3 x6 μ h kin kex0 kex1
        · have h := (ite_inv h).1 c5
          refine r_sub [(3, .int x3)] [4] rfl ?_
          exact kex0 x3 (Option.some.inj h).symm
    · have h := (ite_inv h).2 c3
      refine r_iload C dX9_wordOf_39 6 rfl ?_
      refine r_if_eq 63 C dX9_wordOf_41 (by decide) (fun c6 => ?_) (fun c6 => ?_)
      · have h := (ite_inv h).1 c6
        refine r_sub [(0, .ref (wb (zw Z) + 1)), (1, .int x1), (2, .int x2), (3, .int x3), (4, .int x4), (6, .int x6)] [1, 2, 3, 4, 5, 7] rfl ?_
        exact kX9_wordOf_63 C hR hY n   x1 x2 x3 x4 x6 μ h kin kex0 kex1
      · have h := (ite_inv h).2 c6
        refine r_iload C dX9_wordOf_44 5 rfl ?_
        refine r_iload_n C dX9_wordOf_46 3 rfl ?_
        refine r_icmp_ge 63 C dX9_wordOf_47 (by decide) (fun c7 => ?_) (fun c7 => ?_)
        · have h := (ite_inv h).1 c7
          refine r_sub [(0, .ref (wb (zw Z) + 1)), (1, .int x1), (2, .int x2), (3, .int x3), (4, .int x4), (6, .int x6)] [1, 2, 3, 4, 5, 7] rfl ?_
          exact kX9_wordOf_63 C hR hY n   x1 x2 x3 x4 x6 μ h kin kex0 kex1
        · have h := (ite_inv h).2 c7
          refine r_aload_n C dX9_wordOf_50 1 rfl ?_
          refine r_iload C dX9_wordOf_51 5 rfl ?_
          obtain ⟨b8, h⟩ := gd_inv h
          refine r_bald C dX9_wordOf_53 (ly1 hY) b8 ?_
          refine r_iload C dX9_wordOf_54 0 rfl ?_
          suffices hj : Wm Z (0, 0, sh, R) μ 64 [(7, .int (sch 0 (ix x6))), (0, .ref (wb (zw Z) + 1)), (1, .int x1), (2, .int x2), (3, .int x3), (4, .int x4), (5, .int x5), (6, .int x6)] [.int (if (rI μ 1 (ix x4)) = (sch 0 (ix x6)) then 1 else 0 : Int32)] by
            refine r_icmp_ne 63 C dX9_wordOf_56 (by decide) (fun c9 => ?_) (fun c9 => ?_)
            · refine r_iconst C dX9_wordOf_63 ic_0 ?_
              exact sel_f c9 hj
            · refine r_iconst C dX9_wordOf_59 ic_1 ?_
              refine r_goto 64 C dX9_wordOf_60 (by decide) ?_
              exact sel_t c9 hj
          refine r_istore [(5, .int (if (rI μ 1 (ix x4)) = (sch 0 (ix x6)) then 1 else 0 : Int32)), (7, .int (sch 0 (ix x6))), (0, .ref (wb (zw Z) + 1)), (1, .int x1), (2, .int x2), (3, .int x3), (4, .int x4), (6, .int x6)] C dX9_wordOf_64 (by decide) rfl ?_
          refine r_iinc [(4, .int (x4 + 1)), (5, .int (if (rI μ 1 (ix x4)) = (sch 0 (ix x6)) then 1 else 0 : Int32)), (7, .int (sch 0 (ix x6))), (0, .ref (wb (zw Z) + 1)), (1, .int x1), (2, .int x2), (3, .int x3), (6, .int x6)] C dX9_wordOf_66 6 rfl (in_1 _) (by decide) rfl ?_
          refine r_goto 94 C dX9_wordOf_69 (by decide) ?_
          refine r_iinc [(6, .int (x6 + 1)), (4, .int (x4 + 1)), (5, .int (if (rI μ 1 (ix x4)) = (sch 0 (ix x6)) then 1 else 0 : Int32)), (7, .int (sch 0 (ix x6))), (0, .ref (wb (zw Z) + 1)), (1, .int x1), (2, .int x2), (3, .int x3)] C dX9_wordOf_94 7 rfl (in_1 _) (by decide) rfl ?_
          refine r_goto 13 C dX9_wordOf_97 (by decide) ?_
          refine r_sub [(0, .ref (wb (zw Z) + 1)), (1, .int x1), (2, .int x2), (3, .int x3), (4, .int (x4 + 1)), (5, .int (if (rI μ 1 (ix x4)) = (sch 0 (ix x6)) then 1 else 0 : Int32)), (6, .int (x6 + 1))] [4, 5, 6, 7, 1, 2, 0] rfl ?_
          exact kin x3 (x4 + 1) (if (rI μ 1 (ix x4)) = (sch 0 (ix x6)) then 1 else 0 : Int32) (x6 + 1) (Option.some.inj h).symm
def fX9_wordOf (n : Nat) (x1 : Int32) (x2 : Int32) (μ : Mu) : Option (Int32) := bnd (lp n (sX9_wordOf_13 n x1 x2 μ) (200, x1, 1, 0)) fun q => match q with | .inl u10 => (some u10) | .inr () => (some 2)
set_option maxRecDepth 100000 in
set_option maxHeartbeats 4000000 in
theorem tX9_wordOf {l : Launch} {w : WP} {sh : List Sh} {R : Rf} {μ : Mu} {r : Int32} (hY : LY sh R) (n : Nat) (x1 : Int32) (x2 : Int32)  (h : fX9_wordOf n x1 x2 μ = some r) : CM l w yX9_wordOf cX9_wordOf 8 (some .int) 6 0 0 sh R [.ref (wb w + 1), .int x1, .int x2] μ (some (.int r)) sh R μ := by
  refine CM.of (plainFor_of_name pf_X9) (Nat.le_of_ble_eq_true rfl) fun Z C hr _ hR hw hl hE => ?_
  subst hw; subst hl
  have C : CX Z cX9_wordOf 8 RX9 := C
  show Wm Z (0, 0, sh, R) μ 0 [(0, .ref (wb (zw Z) + 1)), (1, .int x1), (2, .int x2)] []
  unfold fX9_wordOf at h
  refine r_sipush C dX9_wordOf_0 sp_200 ?_
  refine r_istore_n [(3, .int 200), (0, .ref (wb (zw Z) + 1)), (1, .int x1), (2, .int x2)] C dX9_wordOf_3 rfl (by decide) rfl ?_
  refine r_iload_n C dX9_wordOf_4 2 rfl ?_
  refine r_istore [(4, .int x1), (3, .int 200), (0, .ref (wb (zw Z) + 1)), (1, .int x1), (2, .int x2)] C dX9_wordOf_5 (by decide) rfl ?_
  refine r_iconst C dX9_wordOf_7 ic_1 ?_
  refine r_istore [(5, .int 1), (4, .int x1), (3, .int 200), (0, .ref (wb (zw Z) + 1)), (1, .int x1), (2, .int x2)] C dX9_wordOf_8 (by decide) rfl ?_
  refine r_iconst C dX9_wordOf_10 ic_0 ?_
  refine r_istore [(6, .int 0), (5, .int 1), (4, .int x1), (3, .int 200), (0, .ref (wb (zw Z) + 1)), (1, .int x1), (2, .int x2)] C dX9_wordOf_11 (by decide) rfl ?_
  refine r_sub [(0, .ref (wb (zw Z) + 1)), (1, .int x1), (2, .int x2), (3, .int 200), (4, .int x1), (5, .int 1), (6, .int 0)] [4, 5, 6, 3, 2, 1, 0] rfl ?_
  obtain ⟨q12, e11, h⟩ := bnd_inv h
  refine lp_all (sX9_wordOf_13 n x1 x2 μ) (fun q => match q with | (z3, z4, z5, z6) => Wm Z (0, 0, sh, R) μ 13 [(0, .ref (wb (zw Z) + 1)), (1, .int x1), (2, .int x2), (3, .int z3), (4, .int z4), (5, .int z5), (6, .int z6)] []) (fun q => match q with | .inl z3 => Wm Z (0, 0, sh, R) μ 83 [(3, .int z3)] [] | .inr () => Wm Z (0, 0, sh, R) μ 100 [] []) (fun q o h kin kex => ?_) n (200, x1, 1, 0) q12 e11 ?_
  · obtain ⟨z3, z4, z5, z6⟩ := q; exact lX9_wordOf_13 C hR hY n   x1 x2 μ z3 z4 z5 z6 h (fun z3 z4 z5 z6 e => kin (z3, z4, z5, z6) e) (fun z3 e => kex (.inl z3) e) (fun e => kex (.inr ()) e)
  rcases q12 with u10 | ⟨⟩
  · show Wm Z (0, 0, sh, R) μ 83 [(3, .int u10)] []
    refine r_iload_n C dX9_wordOf_83 0 rfl ?_
    have h := Option.some.inj h
    subst h
    exact r_iret C dX9_wordOf_84 hr hE
  · show Wm Z (0, 0, sh, R) μ 100 [] []
    refine r_iconst C dX9_wordOf_100 ic_2 ?_
    have h := Option.some.inj h
    subst h
    exact r_iret C dX9_wordOf_101 hr hE
def sX9_numberOf_14 (n : Nat) (x2 : Int32) (μ : Mu) : Int32 × Int32 → Option ((Int32 × Int32) ⊕ (Int32)) := fun q => match q with | (x3, x4) => if x2 ≤ x4 then (some (.inr x3)) else (gd (ib x4 900) (some (.inl (((x3 * 10) + (rI μ 1 (ix x4))) - 48, x4 + 1))))
set_option maxRecDepth 100000 in
set_option maxHeartbeats 4000000 in
theorem lX9_numberOf_14 {Z : ZC} {sh : List Sh} {R : Rf} {o : (Int32 × Int32) ⊕ (Int32)} (C : CX Z cX9_numberOf 5 RX9) (hR : zR Z = rm 0 0 0) (hY : LY sh R) (n : Nat) (x2 : Int32) (μ : Mu) (x3 : Int32) (x4 : Int32) (h : sX9_numberOf_14 n x2 μ (x3, x4) = some o) (kin : ∀ (x3 : Int32) (x4 : Int32), o = .inl (x3, x4) → Wm Z (0, 0, sh, R) μ 14 [(0, .ref (wb (zw Z) + 1)), (2, .int x2), (3, .int x3), (4, .int x4)] []) (kex0 : ∀ (x3 : Int32), o = .inr x3 → Wm Z (0, 0, sh, R) μ 39 [(3, .int x3)] []) : Wm Z (0, 0, sh, R) μ 14 [(0, .ref (wb (zw Z) + 1)), (2, .int x2), (3, .int x3), (4, .int x4)] [] := by
  unfold sX9_numberOf_14 at h
  refine r_iload C dX9_numberOf_14 3 rfl ?_
  refine r_iload_n C dX9_numberOf_16 1 rfl ?_
  refine r_icmp_ge 39 C dX9_numberOf_17 (by decide) (fun c2 => ?_) (fun c2 => ?_)
  · have h := (ite_inv h).1 c2
    refine r_sub [(3, .int x3)] [2] rfl ?_
    exact kex0 x3 (Option.some.inj h).symm
  · have h := (ite_inv h).2 c2
    refine r_iload_n C dX9_numberOf_20 2 rfl ?_
    refine r_bipush C dX9_numberOf_21 bp_10 ?_
    refine r_imul C dX9_numberOf_23 ?_
    refine r_aload_n C dX9_numberOf_24 0 rfl ?_
    refine r_iload C dX9_numberOf_25 3 rfl ?_
    obtain ⟨b3, h⟩ := gd_inv h
    refine r_bald C dX9_numberOf_27 (ly1 hY) b3 ?_
    refine r_iadd C dX9_numberOf_28 ?_
    refine r_bipush C dX9_numberOf_29 bp_48 ?_
    refine r_isub C dX9_numberOf_31 ?_
    refine r_istore_n [(3, .int (((x3 * 10) + (rI μ 1 (ix x4))) - 48)), (0, .ref (wb (zw Z) + 1)), (2, .int x2), (4, .int x4)] C dX9_numberOf_32 rfl (by decide) rfl ?_
    refine r_iinc [(4, .int (x4 + 1)), (3, .int (((x3 * 10) + (rI μ 1 (ix x4))) - 48)), (0, .ref (wb (zw Z) + 1)), (2, .int x2)] C dX9_numberOf_33 3 rfl (in_1 _) (by decide) rfl ?_
    refine r_goto 14 C dX9_numberOf_36 (by decide) ?_
    refine r_sub [(0, .ref (wb (zw Z) + 1)), (2, .int x2), (3, .int (((x3 * 10) + (rI μ 1 (ix x4))) - 48)), (4, .int (x4 + 1))] [2, 3, 1, 0] rfl ?_
    exact kin (((x3 * 10) + (rI μ 1 (ix x4))) - 48) (x4 + 1) (Option.some.inj h).symm
def fX9_numberOf (n : Nat) (x1 : Int32) (x2 : Int32) (μ : Mu) : Option (Int32) := if (x2 - x1) ≤ 3 then (bnd (lp n (sX9_numberOf_14 n x2 μ) (0, x1)) fun q => match q with | u4 => some (1000 + u4)) else (some 1)
set_option maxRecDepth 100000 in
set_option maxHeartbeats 4000000 in
theorem tX9_numberOf {l : Launch} {w : WP} {sh : List Sh} {R : Rf} {μ : Mu} {r : Int32} (hY : LY sh R) (n : Nat) (x1 : Int32) (x2 : Int32)  (h : fX9_numberOf n x1 x2 μ = some r) : CM l w yX9_numberOf cX9_numberOf 5 (some .int) 0 0 0 sh R [.ref (wb w + 1), .int x1, .int x2] μ (some (.int r)) sh R μ := by
  refine CM.of (plainFor_of_name pf_X9) (Nat.le_of_ble_eq_true rfl) fun Z C hr _ hR hw hl hE => ?_
  subst hw; subst hl
  have C : CX Z cX9_numberOf 5 RX9 := C
  show Wm Z (0, 0, sh, R) μ 0 [(0, .ref (wb (zw Z) + 1)), (1, .int x1), (2, .int x2)] []
  unfold fX9_numberOf at h
  refine r_iload_n C dX9_numberOf_0 2 rfl ?_
  refine r_iload_n C dX9_numberOf_1 1 rfl ?_
  refine r_isub C dX9_numberOf_2 ?_
  refine r_iconst C dX9_numberOf_3 ic_3 ?_
  refine r_icmp_le 9 C dX9_numberOf_4 (by decide) (fun c1 => ?_) (fun c1 => ?_)
  · have h := (ite_inv h).1 c1
    refine r_iconst C dX9_numberOf_9 ic_0 ?_
    refine r_istore_n [(3, .int 0), (0, .ref (wb (zw Z) + 1)), (1, .int x1), (2, .int x2)] C dX9_numberOf_10 rfl (by decide) rfl ?_
    refine r_iload_n C dX9_numberOf_11 2 rfl ?_
    refine r_istore [(4, .int x1), (3, .int 0), (0, .ref (wb (zw Z) + 1)), (1, .int x1), (2, .int x2)] C dX9_numberOf_12 (by decide) rfl ?_
    refine r_sub [(0, .ref (wb (zw Z) + 1)), (2, .int x2), (3, .int 0), (4, .int x1)] [2, 4, 1, 0] rfl ?_
    obtain ⟨u4, e5, h⟩ := bnd_inv h
    refine lp_all (sX9_numberOf_14 n x2 μ) (fun q => match q with | (z3, z4) => Wm Z (0, 0, sh, R) μ 14 [(0, .ref (wb (zw Z) + 1)), (2, .int x2), (3, .int z3), (4, .int z4)] []) (fun q => match q with | z3 => Wm Z (0, 0, sh, R) μ 39 [(3, .int z3)] []) (fun q o h kin kex => ?_) n (0, x1) u4 e5 ?_
    · obtain ⟨z3, z4⟩ := q; exact lX9_numberOf_14 C hR hY n   x2 μ z3 z4 h (fun z3 z4 e => kin (z3, z4) e) (fun z3 e => kex z3 e)
    show Wm Z (0, 0, sh, R) μ 39 [(3, .int u4)] []
    refine r_sipush C dX9_numberOf_39 sp_1000 ?_
    refine r_iload_n C dX9_numberOf_42 0 rfl ?_
    refine r_iadd C dX9_numberOf_43 ?_
    have h := Option.some.inj h
    subst h
    exact r_iret C dX9_numberOf_44 hr hE
  · have h := (ite_inv h).2 c1
    refine r_iconst C dX9_numberOf_7 ic_1 ?_
    have h := Option.some.inj h
    subst h
    exact r_iret C dX9_numberOf_8 hr hE
def fX9_add (n : Nat) (x1 : Int32) (x2 : Int32) (μ : Mu) : Option (Mu) := if 901 ≤ (rI μ 25 2) then (some μ) else (gd (ib (rI μ 25 2) 901) (gd (ib (rI (wI μ 26 (ix (rI μ 25 2)) x1) 25 2) 901) (some (wI (wI (wI μ 26 (ix (rI μ 25 2)) x1) 27 (ix (rI (wI μ 26 (ix (rI μ 25 2)) x1) 25 2)) x2) 25 2 ((rI (wI (wI μ 26 (ix (rI μ 25 2)) x1) 27 (ix (rI (wI μ 26 (ix (rI μ 25 2)) x1) 25 2)) x2) 25 2) + 1)))))
set_option maxRecDepth 100000 in
set_option maxHeartbeats 4000000 in
theorem tX9_add {l : Launch} {w : WP} {sh : List Sh} {R : Rf} {μ : Mu} {μ' : Mu} (hY : LY sh R) (n : Nat) (x1 : Int32) (x2 : Int32)  (h : fX9_add n x1 x2 μ = some μ') : CM l w yX9_add cX9_add 3 none 0 0 0 sh R [.ref (wb w + 25), .int x1, .int x2] μ none sh R μ' := by
  refine CM.of (plainFor_of_name pf_X9) (Nat.le_of_ble_eq_true rfl) fun Z C hr _ hR hw hl hE => ?_
  subst hw; subst hl
  have C : CX Z cX9_add 3 RX9 := C
  show Wm Z (0, 0, sh, R) μ 0 [(0, .ref (wb (zw Z) + 25)), (1, .int x1), (2, .int x2)] []
  unfold fX9_add at h
  refine r_aload_n C dX9_add_0 0 rfl ?_
  refine r_getI C flX9_18 dX9_add_1 (ly25 hY) rfl ?_
  refine r_aload_n C dX9_add_4 0 rfl ?_
  refine r_getR C flX9_9 dX9_add_5 (ly25 hY) rfl (lr25_0 hY) ?_
  refine r_alen (v := 901) C dX9_add_8 (ly26 hY) rfl (by decide) ?_
  refine r_icmp_ge 42 C dX9_add_9 (by decide) (fun c1 => ?_) (fun c1 => ?_)
  · have h := (ite_inv h).1 c1
    have h := Option.some.inj h
    subst h
    exact r_vret C dX9_add_42 hr hE
  · have h := (ite_inv h).2 c1
    refine r_aload_n C dX9_add_12 0 rfl ?_
    refine r_getR C flX9_9 dX9_add_13 (ly25 hY) rfl (lr25_0 hY) ?_
    refine r_aload_n C dX9_add_16 0 rfl ?_
    refine r_getI C flX9_18 dX9_add_17 (ly25 hY) rfl ?_
    refine r_iload_n C dX9_add_20 1 rfl ?_
    obtain ⟨b2, h⟩ := gd_inv h
    refine r_iast C dX9_add_21 (ly26 hY) b2 ?_
    refine r_aload_n C dX9_add_22 0 rfl ?_
    refine r_getR C flX9_15 dX9_add_23 (ly25 hY) rfl (lr25_1 hY) ?_
    refine r_aload_n C dX9_add_26 0 rfl ?_
    refine r_getI C flX9_18 dX9_add_27 (ly25 hY) rfl ?_
    refine r_iload_n C dX9_add_30 2 rfl ?_
    obtain ⟨b3, h⟩ := gd_inv h
    refine r_iast C dX9_add_31 (ly27 hY) b3 ?_
    refine r_aload_n C dX9_add_32 0 rfl ?_
    refine r_dup C dX9_add_33 rfl ?_
    refine r_getI C flX9_18 dX9_add_34 (ly25 hY) rfl ?_
    refine r_iconst C dX9_add_37 ic_1 ?_
    refine r_iadd C dX9_add_38 ?_
    refine r_putI C fiX9_18 dX9_add_39 (ly25 hY) ?_
    have h := Option.some.inj h
    subst h
    exact r_vret C dX9_add_42 hr hE
def jX9_split_153 (n : Nat) (x2 : Int32) (x4 : Int32) (x6 : Int32) (μ : Mu) : Option ((Int32 × Int32 × Mu) ⊕ ((Mu) ⊕ (Mu))) := some (.inl (x6, x4 + 1, μ))
set_option maxRecDepth 100000 in
set_option maxHeartbeats 4000000 in
theorem kX9_split_153 {Z : ZC} {sh : List Sh} {R : Rf} {o : (Int32 × Int32 × Mu) ⊕ ((Mu) ⊕ (Mu))} (C : CX Z cX9_split 7 RX9) (hR : zR Z = rm 7 0 0) (hY : LY sh R) (n : Nat) (x2 : Int32) (x4 : Int32) (x6 : Int32) (μ : Mu) (h : jX9_split_153 n x2 x4 x6 μ = some o) (kin : ∀ (x3 : Int32) (x4 : Int32) (μ : Mu), o = .inl (x3, x4, μ) → Wm Z (0, 0, sh, R) μ 10 [(0, .ref (wb (zw Z) + 25)), (1, .ref (wb (zw Z) + 1)), (2, .int x2), (3, .int x3), (4, .int x4)] []) (kex0 : ∀ (μ : Mu), o = .inr (.inl μ) → Wm Z (0, 0, sh, R) μ 152 [] []) (kex1 : ∀ (μ : Mu), o = .inr (.inr μ) → Wm Z (0, 0, sh, R) μ 162 [(0, .ref (wb (zw Z) + 25)), (2, .int x2)] []) : Wm Z (0, 0, sh, R) μ 153 [(0, .ref (wb (zw Z) + 25)), (1, .ref (wb (zw Z) + 1)), (2, .int x2), (4, .int x4), (6, .int x6)] [] := by
  unfold jX9_split_153 at h
  refine r_iload C dX9_split_153 4 rfl ?_
  refine r_istore_n [(3, .int x6), (0, .ref (wb (zw Z) + 25)), (1, .ref (wb (zw Z) + 1)), (2, .int x2), (4, .int x4), (6, .int x6)] C dX9_split_155 rfl (by decide) rfl ?_
  refine r_iinc [(4, .int (x4 + 1)), (3, .int x6), (0, .ref (wb (zw Z) + 25)), (1, .ref (wb (zw Z) + 1)), (2, .int x2), (6, .int x6)] C dX9_split_156 4 rfl (in_1 _) (by decide) rfl ?_
  refine r_goto 10 C dX9_split_159 (by decide) ?_
  refine r_sub [(0, .ref (wb (zw Z) + 25)), (1, .ref (wb (zw Z) + 1)), (2, .int x2), (3, .int x6), (4, .int (x4 + 1))] [2, 3, 4, 1, 0] rfl ?_
  exact kin x6 (x4 + 1) μ (Option.some.inj h).symm
def jX9_split_130 (n : Nat) (x2 : Int32) (x4 : Int32) (x6 : Int32) (μ : Mu) : Option ((Int32 × Int32 × Mu) ⊕ ((Mu) ⊕ (Mu))) := if (rI μ 25 2) ≤ 0 then (jX9_split_153 n x2 x4 x6 μ) else (gd (ib ((rI μ 25 2) - 1) 901) (if (rI μ 26 (ix ((rI μ 25 2) - 1))) = 1 then (some (.inr (.inl μ))) else (jX9_split_153 n x2 x4 x6 μ)))
set_option maxRecDepth 100000 in
set_option maxHeartbeats 4000000 in
theorem kX9_split_130 {Z : ZC} {sh : List Sh} {R : Rf} {o : (Int32 × Int32 × Mu) ⊕ ((Mu) ⊕ (Mu))} (C : CX Z cX9_split 7 RX9) (hR : zR Z = rm 7 0 0) (hY : LY sh R) (n : Nat) (x2 : Int32) (x4 : Int32) (x6 : Int32) (μ : Mu) (h : jX9_split_130 n x2 x4 x6 μ = some o) (kin : ∀ (x3 : Int32) (x4 : Int32) (μ : Mu), o = .inl (x3, x4, μ) → Wm Z (0, 0, sh, R) μ 10 [(0, .ref (wb (zw Z) + 25)), (1, .ref (wb (zw Z) + 1)), (2, .int x2), (3, .int x3), (4, .int x4)] []) (kex0 : ∀ (μ : Mu), o = .inr (.inl μ) → Wm Z (0, 0, sh, R) μ 152 [] []) (kex1 : ∀ (μ : Mu), o = .inr (.inr μ) → Wm Z (0, 0, sh, R) μ 162 [(0, .ref (wb (zw Z) + 25)), (2, .int x2)] []) : Wm Z (0, 0, sh, R) μ 130 [(0, .ref (wb (zw Z) + 25)), (1, .ref (wb (zw Z) + 1)), (2, .int x2), (4, .int x4), (6, .int x6)] [] := by
  unfold jX9_split_130 at h
  refine r_aload_n C dX9_split_130 0 rfl ?_
  refine r_getI C flX9_18 dX9_split_131 (ly25 hY) rfl ?_
  refine r_if_le 153 C dX9_split_134 (by decide) (fun c16 => ?_) (fun c16 => ?_)
  · have h := (ite_inv h).1 c16
    exact kX9_split_153 C hR hY n   x2 x4 x6 μ h kin kex0 kex1
  · have h := (ite_inv h).2 c16
    refine r_aload_n C dX9_split_137 0 rfl ?_
    refine r_getR C flX9_9 dX9_split_138 (ly25 hY) rfl (lr25_0 hY) ?_
    refine r_aload_n C dX9_split_141 0 rfl ?_
    refine r_getI C flX9_18 dX9_split_142 (ly25 hY) rfl ?_
    refine r_iconst C dX9_split_145 ic_1 ?_
    refine r_isub C dX9_split_146 ?_
    obtain ⟨b17, h⟩ := gd_inv h
    refine r_iald C dX9_split_147 (ly26 hY) b17 ?_
    refine r_iconst C dX9_split_148 ic_1 ?_
    refine r_icmp_ne 153 C dX9_split_149 (by decide) (fun c18 => ?_) (fun c18 => ?_)
    · have h := (ite_inv h).2 c18
      exact kX9_split_153 C hR hY n   x2 x4 x6 μ h kin kex0 kex1
    · have h := (ite_inv h).1 c18
      refine r_sub [] [] rfl ?_
      exact kex0 μ (Option.some.inj h).symm
def jX9_split_87 (n : Nat) (x2 : Int32) (x3 : Int32) (x4 : Int32) (x6 : Int32) (s0 : Int32) (μ : Mu) : Option ((Int32 × Int32 × Mu) ⊕ ((Mu) ⊕ (Mu))) := bnd (fX9_add n s0 x3 μ) fun m15 => jX9_split_130 n x2 x4 x6 m15
set_option maxRecDepth 100000 in
set_option maxHeartbeats 4000000 in
theorem kX9_split_87 {Z : ZC} {sh : List Sh} {R : Rf} {o : (Int32 × Int32 × Mu) ⊕ ((Mu) ⊕ (Mu))} (C : CX Z cX9_split 7 RX9) (hR : zR Z = rm 7 0 0) (hY : LY sh R) (n : Nat) (x2 : Int32) (x3 : Int32) (x4 : Int32) (x6 : Int32) (s0 : Int32) (μ : Mu) (h : jX9_split_87 n x2 x3 x4 x6 s0 μ = some o) (kin : ∀ (x3 : Int32) (x4 : Int32) (μ : Mu), o = .inl (x3, x4, μ) → Wm Z (0, 0, sh, R) μ 10 [(0, .ref (wb (zw Z) + 25)), (1, .ref (wb (zw Z) + 1)), (2, .int x2), (3, .int x3), (4, .int x4)] []) (kex0 : ∀ (μ : Mu), o = .inr (.inl μ) → Wm Z (0, 0, sh, R) μ 152 [] []) (kex1 : ∀ (μ : Mu), o = .inr (.inr μ) → Wm Z (0, 0, sh, R) μ 162 [(0, .ref (wb (zw Z) + 25)), (2, .int x2)] []) : Wm Z (0, 0, sh, R) μ 87 [(0, .ref (wb (zw Z) + 25)), (1, .ref (wb (zw Z) + 1)), (2, .int x2), (3, .int x3), (4, .int x4), (6, .int x6)] [.int s0, .ref (wb (zw Z) + 25)] := by
  unfold jX9_split_87 at h
  refine r_iload_n C dX9_split_87 3 rfl ?_
  obtain ⟨m15, e14, h⟩ := bnd_inv h
  refine r_cVv (As := [.int s0, .int x3]) (rest := []) C hR mlX9_39 dX9_split_88 (tX9_add hY n s0 x3  e14) rfl rfl (ly25 hY) rfl (nle rfl) (nle rfl) (nle rfl) ?_
  refine r_goto 130 C dX9_split_91 (by decide) ?_
  refine r_sub [(0, .ref (wb (zw Z) + 25)), (1, .ref (wb (zw Z) + 1)), (2, .int x2), (4, .int x4), (6, .int x6)] [0, 1, 2, 4, 5] rfl ?_
  exact kX9_split_130 C hR hY n   x2 x4 x6 m15 h kin kex0 kex1
def jX9_split_53 (n : Nat) (x2 : Int32) (x3 : Int32) (x4 : Int32) (x5 : Int32) (μ : Mu) : Option ((Int32 × Int32 × Mu) ⊕ ((Mu) ⊕ (Mu))) := bnd (fX9_runEnd n x3 x2 μ) fun u8 => bnd (fX9_isLetter n x5 μ) fun u10 => if u10 = 0 then (bnd (fX9_numberOf n x3 u8 μ) fun u13 => jX9_split_87 n x2 x3 x4 u8 u13 μ) else (bnd (fX9_wordOf n x3 u8 μ) fun u20 => jX9_split_87 n x2 x3 x4 u8 u20 μ)
set_option maxRecDepth 100000 in
set_option maxHeartbeats 4000000 in
theorem kX9_split_53 {Z : ZC} {sh : List Sh} {R : Rf} {o : (Int32 × Int32 × Mu) ⊕ ((Mu) ⊕ (Mu))} (C : CX Z cX9_split 7 RX9) (hR : zR Z = rm 7 0 0) (hY : LY sh R) (n : Nat) (x2 : Int32) (x3 : Int32) (x4 : Int32) (x5 : Int32) (μ : Mu) (h : jX9_split_53 n x2 x3 x4 x5 μ = some o) (kin : ∀ (x3 : Int32) (x4 : Int32) (μ : Mu), o = .inl (x3, x4, μ) → Wm Z (0, 0, sh, R) μ 10 [(0, .ref (wb (zw Z) + 25)), (1, .ref (wb (zw Z) + 1)), (2, .int x2), (3, .int x3), (4, .int x4)] []) (kex0 : ∀ (μ : Mu), o = .inr (.inl μ) → Wm Z (0, 0, sh, R) μ 152 [] []) (kex1 : ∀ (μ : Mu), o = .inr (.inr μ) → Wm Z (0, 0, sh, R) μ 162 [(0, .ref (wb (zw Z) + 25)), (2, .int x2)] []) : Wm Z (0, 0, sh, R) μ 53 [(0, .ref (wb (zw Z) + 25)), (1, .ref (wb (zw Z) + 1)), (2, .int x2), (3, .int x3), (4, .int x4), (5, .int x5)] [] := by
  unfold jX9_split_53 at h
  refine r_aload_n C dX9_split_53 1 rfl ?_
  refine r_iload_n C dX9_split_54 3 rfl ?_
  refine r_iload_n C dX9_split_55 2 rfl ?_
  obtain ⟨u8, e7, h⟩ := bnd_inv h
  refine r_cSi (As := [.ref (wb (zw Z) + 1), .int x3, .int x2]) (rest := []) C hR mlX9_29 dX9_split_56 (tX9_runEnd hY n x3 x2  e7) rfl rfl (nle rfl) (nle rfl) (nle rfl) ?_
  refine r_istore [(6, .int u8), (0, .ref (wb (zw Z) + 25)), (1, .ref (wb (zw Z) + 1)), (2, .int x2), (3, .int x3), (4, .int x4), (5, .int x5)] C dX9_split_59 (by decide) rfl ?_
  refine r_aload_n C dX9_split_61 1 rfl ?_
  refine r_iload C dX9_split_62 6 rfl ?_
  obtain ⟨u10, e9, h⟩ := bnd_inv h
  refine r_cSi (As := [.int x5]) (rest := [.ref (wb (zw Z) + 25)]) C hR mlX9_22 dX9_split_64 (tX9_isLetter hY n x5  e9) rfl rfl (nle rfl) (nle rfl) (nle rfl) ?_
  refine r_if_eq 80 C dX9_split_67 (by decide) (fun c11 => ?_) (fun c11 => ?_)
  · have h := (ite_inv h).1 c11
    refine r_aload_n C dX9_split_80 2 rfl ?_
    refine r_iload_n C dX9_split_81 4 rfl ?_
    refine r_iload C dX9_split_82 0 rfl ?_
    obtain ⟨u13, e12, h⟩ := bnd_inv h
    refine r_cSi (As := [.ref (wb (zw Z) + 1), .int x3, .int u8]) (rest := [.ref (wb (zw Z) + 25)]) C hR mlX9_36 dX9_split_84 (tX9_numberOf hY n x3 u8  e12) rfl rfl (nle rfl) (nle rfl) (nle rfl) ?_
    refine r_sub [(0, .ref (wb (zw Z) + 25)), (1, .ref (wb (zw Z) + 1)), (2, .int x2), (3, .int x3), (4, .int x4), (6, .int u8)] [1, 2, 3, 4, 5, 0] rfl ?_
    exact kX9_split_87 C hR hY n   x2 x3 x4 u8 u13 μ h kin kex0 kex1
  · have h := (ite_inv h).2 c11
    refine r_aload_n C dX9_split_70 2 rfl ?_
    refine r_iload_n C dX9_split_71 4 rfl ?_
    refine r_iload C dX9_split_72 0 rfl ?_
    obtain ⟨u20, e19, h⟩ := bnd_inv h
    refine r_cSi (As := [.ref (wb (zw Z) + 1), .int x3, .int u8]) (rest := [.ref (wb (zw Z) + 25)]) C hR mlX9_33 dX9_split_74 (tX9_wordOf hY n x3 u8  e19) rfl rfl (nle rfl) (nle rfl) (nle rfl) ?_
    refine r_goto 87 C dX9_split_77 (by decide) ?_
    refine r_sub [(0, .ref (wb (zw Z) + 25)), (1, .ref (wb (zw Z) + 1)), (2, .int x2), (3, .int x3), (4, .int x4), (6, .int u8)] [1, 2, 3, 4, 5, 0] rfl ?_
    exact kX9_split_87 C hR hY n   x2 x3 x4 u8 u20 μ h kin kex0 kex1
def sX9_split_10 (n : Nat) (x2 : Int32) : Int32 × Int32 × Mu → Option ((Int32 × Int32 × Mu) ⊕ ((Mu) ⊕ (Mu))) := fun q => match q with | (x3, x4, μ) => if 900 ≤ x4 then (some (.inr (.inr μ))) else (if x2 ≤ x3 then (some (.inr (.inr μ))) else (gd (ib x3 900) (bnd (fX9_isLetter n ((rI μ 1 (ix x3)) &&& 255) μ) fun u5 => if u5 = 0 then (bnd (fX9_isDigit n ((rI μ 1 (ix x3)) &&& 255) μ) fun u22 => if u22 = 0 then (if ((rI μ 1 (ix x3)) &&& 255) = 10 then (jX9_split_130 n x2 x4 (x3 + 1) μ) else (if ((rI μ 1 (ix x3)) &&& 255) = 32 then (jX9_split_130 n x2 x4 (x3 + 1) μ) else (bnd (fX9_add n (if (six 1 ((((rI μ 1 (ix x3)) &&& 255).toUInt32 % 65536).toInt32)) < 0 then 1 else ((rI μ 1 (ix x3)) &&& 255)) x3 μ) fun m28 => jX9_split_130 n x2 x4 (x3 + 1) m28))) else (jX9_split_53 n x2 x3 x4 ((rI μ 1 (ix x3)) &&& 255) μ)) else (jX9_split_53 n x2 x3 x4 ((rI μ 1 (ix x3)) &&& 255) μ))))
set_option maxRecDepth 100000 in
set_option maxHeartbeats 4000000 in
theorem lX9_split_10 {Z : ZC} {sh : List Sh} {R : Rf} {o : (Int32 × Int32 × Mu) ⊕ ((Mu) ⊕ (Mu))} (C : CX Z cX9_split 7 RX9) (hR : zR Z = rm 7 0 0) (hY : LY sh R) (n : Nat) (x2 : Int32) (x3 : Int32) (x4 : Int32) (μ : Mu) (h : sX9_split_10 n x2 (x3, x4, μ) = some o) (kin : ∀ (x3 : Int32) (x4 : Int32) (μ : Mu), o = .inl (x3, x4, μ) → Wm Z (0, 0, sh, R) μ 10 [(0, .ref (wb (zw Z) + 25)), (1, .ref (wb (zw Z) + 1)), (2, .int x2), (3, .int x3), (4, .int x4)] []) (kex0 : ∀ (μ : Mu), o = .inr (.inl μ) → Wm Z (0, 0, sh, R) μ 152 [] []) (kex1 : ∀ (μ : Mu), o = .inr (.inr μ) → Wm Z (0, 0, sh, R) μ 162 [(0, .ref (wb (zw Z) + 25)), (2, .int x2)] []) : Wm Z (0, 0, sh, R) μ 10 [(0, .ref (wb (zw Z) + 25)), (1, .ref (wb (zw Z) + 1)), (2, .int x2), (3, .int x3), (4, .int x4)] [] := by
  unfold sX9_split_10 at h
  refine r_iload C dX9_split_10 4 rfl ?_
  refine r_sipush C dX9_split_12 sp_900 ?_
  refine r_icmp_ge 162 C dX9_split_15 (by decide) (fun c1 => ?_) (fun c1 => ?_)
  · have h := (ite_inv h).1 c1
    refine r_sub [(0, .ref (wb (zw Z) + 25)), (2, .int x2)] [0, 2] rfl ?_
    exact kex1 μ (Option.some.inj h).symm
  · have h := (ite_inv h).2 c1
    refine r_iload_n C dX9_split_18 3 rfl ?_
    refine r_iload_n C dX9_split_19 2 rfl ?_
    refine r_icmp_ge 162 C dX9_split_20 (by decide) (fun c2 => ?_) (fun c2 => ?_)
    · have h := (ite_inv h).1 c2
      refine r_sub [(0, .ref (wb (zw Z) + 25)), (2, .int x2)] [0, 2] rfl ?_
      exact kex1 μ (Option.some.inj h).symm
    · have h := (ite_inv h).2 c2
      refine r_aload_n C dX9_split_23 1 rfl ?_
      refine r_iload_n C dX9_split_24 3 rfl ?_
      obtain ⟨b3, h⟩ := gd_inv h
      refine r_bald C dX9_split_25 (ly1 hY) b3 ?_
      refine r_sipush C dX9_split_26 sp_255 ?_
      refine r_iand C dX9_split_29 ?_
      refine r_istore [(5, .int ((rI μ 1 (ix x3)) &&& 255)), (0, .ref (wb (zw Z) + 25)), (1, .ref (wb (zw Z) + 1)), (2, .int x2), (3, .int x3), (4, .int x4)] C dX9_split_30 (by decide) rfl ?_
      refine r_iload_n C dX9_split_32 4 rfl ?_
      refine r_iconst C dX9_split_33 ic_1 ?_
      refine r_iadd C dX9_split_34 ?_
      refine r_istore [(6, .int (x3 + 1)), (5, .int ((rI μ 1 (ix x3)) &&& 255)), (0, .ref (wb (zw Z) + 25)), (1, .ref (wb (zw Z) + 1)), (2, .int x2), (3, .int x3), (4, .int x4)] C dX9_split_35 (by decide) rfl ?_
      refine r_iload C dX9_split_37 1 rfl ?_
      obtain ⟨u5, e4, h⟩ := bnd_inv h
      refine r_cSi (As := [.int ((rI μ 1 (ix x3)) &&& 255)]) (rest := []) C hR mlX9_22 dX9_split_39 (tX9_isLetter hY n ((rI μ 1 (ix x3)) &&& 255)  e4) rfl rfl (nle rfl) (nle rfl) (nle rfl) ?_
      refine r_if_ne 53 C dX9_split_42 (by decide) (fun c6 => ?_) (fun c6 => ?_)
      · have h := (ite_inv h).2 c6
        refine r_sub [(0, .ref (wb (zw Z) + 25)), (1, .ref (wb (zw Z) + 1)), (2, .int x2), (3, .int x3), (4, .int x4), (5, .int ((rI μ 1 (ix x3)) &&& 255))] [2, 3, 4, 5, 6, 1] rfl ?_
        exact kX9_split_53 C hR hY n   x2 x3 x4 ((rI μ 1 (ix x3)) &&& 255) μ h kin kex0 kex1
      · have h := (ite_inv h).1 c6
        refine r_iload C dX9_split_45 1 rfl ?_
        obtain ⟨u22, e21, h⟩ := bnd_inv h
        refine r_cSi (As := [.int ((rI μ 1 (ix x3)) &&& 255)]) (rest := []) C hR mlX9_26 dX9_split_47 (tX9_isDigit hY n ((rI μ 1 (ix x3)) &&& 255)  e21) rfl rfl (nle rfl) (nle rfl) (nle rfl) ?_
        refine r_if_eq 94 C dX9_split_50 (by decide) (fun c23 => ?_) (fun c23 => ?_)
        · have h := (ite_inv h).1 c23
          refine r_iload C dX9_split_94 1 rfl ?_
          refine r_bipush C dX9_split_96 bp_10 ?_
          refine r_icmp_eq 130 C dX9_split_98 (by decide) (fun c24 => ?_) (fun c24 => ?_)
          · have h := (ite_inv h).1 c24
            refine r_sub [(0, .ref (wb (zw Z) + 25)), (1, .ref (wb (zw Z) + 1)), (2, .int x2), (4, .int x4), (6, .int (x3 + 1))] [2, 3, 4, 6, 0] rfl ?_
            exact kX9_split_130 C hR hY n   x2 x4 (x3 + 1) μ h kin kex0 kex1
          · have h := (ite_inv h).2 c24
            refine r_iload C dX9_split_101 1 rfl ?_
            refine r_bipush C dX9_split_103 bp_32 ?_
            refine r_icmp_eq 130 C dX9_split_105 (by decide) (fun c25 => ?_) (fun c25 => ?_)
            · have h := (ite_inv h).1 c25
              refine r_sub [(0, .ref (wb (zw Z) + 25)), (1, .ref (wb (zw Z) + 1)), (2, .int x2), (4, .int x4), (6, .int (x3 + 1))] [2, 3, 4, 6, 0] rfl ?_
              exact kX9_split_130 C hR hY n   x2 x4 (x3 + 1) μ h kin kex0 kex1
            · have h := (ite_inv h).2 c25
              refine r_aload_n C dX9_split_108 2 rfl ?_
              refine r_ldcS C dX9_split_109 C.2.2.2.2.2.2.1.2.2.1.2.1 ?_
              refine r_iload C dX9_split_111 1 rfl ?_
              refine r_i2c C dX9_split_113 ?_
              refine r_cW (As := [.int ((((rI μ 1 (ix x3)) &&& 255).toUInt32 % 65536).toInt32)]) (rest := [.ref (wb (zw Z) + 25)]) C hR mlX9_45 dX9_split_114 (t_six1 hY) rfl rfl (nle rfl) (nle rfl) (nle rfl) ?_
              suffices hj : Wm Z (0, 0, sh, R) μ 126 [(6, .int (x3 + 1)), (5, .int ((rI μ 1 (ix x3)) &&& 255)), (0, .ref (wb (zw Z) + 25)), (1, .ref (wb (zw Z) + 1)), (2, .int x2), (3, .int x3), (4, .int x4)] [.int (if (six 1 ((((rI μ 1 (ix x3)) &&& 255).toUInt32 % 65536).toInt32)) < 0 then 1 else ((rI μ 1 (ix x3)) &&& 255)), .ref (wb (zw Z) + 25)] by
                refine r_if_lt 125 C dX9_split_117 (by decide) (fun c26 => ?_) (fun c26 => ?_)
                · refine r_iconst C dX9_split_125 ic_1 ?_
                  exact sel_t c26 hj
                · refine r_iload C dX9_split_120 1 rfl ?_
                  refine r_goto 126 C dX9_split_122 (by decide) ?_
                  exact sel_f c26 hj
              refine r_iload_n C dX9_split_126 5 rfl ?_
              obtain ⟨m28, e27, h⟩ := bnd_inv h
              refine r_cVv (As := [.int (if (six 1 ((((rI μ 1 (ix x3)) &&& 255).toUInt32 % 65536).toInt32)) < 0 then 1 else ((rI μ 1 (ix x3)) &&& 255)), .int x3]) (rest := []) C hR mlX9_39 dX9_split_127 (tX9_add hY n (if (six 1 ((((rI μ 1 (ix x3)) &&& 255).toUInt32 % 65536).toInt32)) < 0 then 1 else ((rI μ 1 (ix x3)) &&& 255)) x3  e27) rfl rfl (ly25 hY) rfl (nle rfl) (nle rfl) (nle rfl) ?_
              refine r_sub [(0, .ref (wb (zw Z) + 25)), (1, .ref (wb (zw Z) + 1)), (2, .int x2), (4, .int x4), (6, .int (x3 + 1))] [2, 3, 4, 6, 0] rfl ?_
              exact kX9_split_130 C hR hY n   x2 x4 (x3 + 1) m28 h kin kex0 kex1
        · have h := (ite_inv h).2 c23
          refine r_sub [(0, .ref (wb (zw Z) + 25)), (1, .ref (wb (zw Z) + 1)), (2, .int x2), (3, .int x3), (4, .int x4), (5, .int ((rI μ 1 (ix x3)) &&& 255))] [2, 3, 4, 5, 6, 1] rfl ?_
          exact kX9_split_53 C hR hY n   x2 x3 x4 ((rI μ 1 (ix x3)) &&& 255) μ h kin kex0 kex1
def jX9_split_162 (n : Nat) (x2 : Int32) (μ : Mu) : Option (Mu) := bnd (fX9_add n 0 x2 μ) fun m34 => some m34
set_option maxRecDepth 100000 in
set_option maxHeartbeats 4000000 in
theorem kX9_split_162 {Z : ZC} {sh : List Sh} {R : Rf} {μ' : Mu} (C : CX Z cX9_split 7 RX9) (hR : zR Z = rm 7 0 0) (hY : LY sh R) (n : Nat) (x2 : Int32) (μ : Mu) (h : jX9_split_162 n x2 μ = some μ') (hr : (zme Z).sig.returnType = none) (hE : zEnd Z (0, 0, sh, R) μ' none) : Wm Z (0, 0, sh, R) μ 162 [(0, .ref (wb (zw Z) + 25)), (2, .int x2)] [] := by
  unfold jX9_split_162 at h
  refine r_aload_n C dX9_split_162 0 rfl ?_
  refine r_iconst C dX9_split_163 ic_0 ?_
  refine r_iload_n C dX9_split_164 1 rfl ?_
  obtain ⟨m34, e33, h⟩ := bnd_inv h
  refine r_cVv (As := [.int 0, .int x2]) (rest := []) C hR mlX9_39 dX9_split_165 (tX9_add hY n 0 x2  e33) rfl rfl (ly25 hY) rfl (nle rfl) (nle rfl) (nle rfl) ?_
  have h := Option.some.inj h
  subst h
  exact r_vret C dX9_split_168 hr hE
def fX9_split (n : Nat) (x2 : Int32) (μ : Mu) : Option (Mu) := bnd (lp n (sX9_split_10 n x2) (0, 0, wI μ 25 2 0)) fun q => match q with | .inl m29 => (some m29) | .inr m30 => (jX9_split_162 n x2 m30)
set_option maxRecDepth 100000 in
set_option maxHeartbeats 4000000 in
theorem tX9_split {l : Launch} {w : WP} {sh : List Sh} {R : Rf} {μ : Mu} {μ' : Mu} (hY : LY sh R) (n : Nat) (x2 : Int32)  (h : fX9_split n x2 μ = some μ') : CM l w yX9_split cX9_split 7 none 7 0 0 sh R [.ref (wb w + 25), .ref (wb w + 1), .int x2] μ none sh R μ' := by
  refine CM.of (plainFor_of_name pf_X9) (Nat.le_of_ble_eq_true rfl) fun Z C hr _ hR hw hl hE => ?_
  subst hw; subst hl
  have C : CX Z cX9_split 7 RX9 := C
  show Wm Z (0, 0, sh, R) μ 0 [(0, .ref (wb (zw Z) + 25)), (1, .ref (wb (zw Z) + 1)), (2, .int x2)] []
  unfold fX9_split at h
  refine r_aload_n C dX9_split_0 0 rfl ?_
  refine r_iconst C dX9_split_1 ic_0 ?_
  refine r_putI C fiX9_18 dX9_split_2 (ly25 hY) ?_
  refine r_iconst C dX9_split_5 ic_0 ?_
  refine r_istore_n [(3, .int 0), (0, .ref (wb (zw Z) + 25)), (1, .ref (wb (zw Z) + 1)), (2, .int x2)] C dX9_split_6 rfl (by decide) rfl ?_
  refine r_iconst C dX9_split_7 ic_0 ?_
  refine r_istore [(4, .int 0), (3, .int 0), (0, .ref (wb (zw Z) + 25)), (1, .ref (wb (zw Z) + 1)), (2, .int x2)] C dX9_split_8 (by decide) rfl ?_
  refine r_sub [(0, .ref (wb (zw Z) + 25)), (1, .ref (wb (zw Z) + 1)), (2, .int x2), (3, .int 0), (4, .int 0)] [2, 3, 4, 1, 0] rfl ?_
  obtain ⟨q32, e31, h⟩ := bnd_inv h
  refine lp_all (sX9_split_10 n x2) (fun q => match q with | (z3, z4, ν) => Wm Z (0, 0, sh, R) (ν) 10 [(0, .ref (wb (zw Z) + 25)), (1, .ref (wb (zw Z) + 1)), (2, .int x2), (3, .int z3), (4, .int z4)] []) (fun q => match q with | .inl (ν) => Wm Z (0, 0, sh, R) (ν) 152 [] [] | .inr (ν) => Wm Z (0, 0, sh, R) (ν) 162 [(0, .ref (wb (zw Z) + 25)), (2, .int x2)] []) (fun q o h kin kex => ?_) n (0, 0, wI μ 25 2 0) q32 e31 ?_
  · obtain ⟨z3, z4, ν⟩ := q; exact lX9_split_10 C hR hY n   x2 z3 z4 ν h (fun z3 z4 ν e => kin (z3, z4, ν) e) (fun ν e => kex (.inl (ν)) e) (fun ν e => kex (.inr (ν)) e)
  rcases q32 with m29 | m30
  · show Wm Z (0, 0, sh, R) m29 152 [] []
    have h := Option.some.inj h
    subst h
    exact r_vret C dX9_split_152 hr hE
  · show Wm Z (0, 0, sh, R) m30 162 [(0, .ref (wb (zw Z) + 25)), (2, .int x2)] []
    exact kX9_split_162 C hR hY n   x2 m30 h hr hE
def fX7_clear (n : Nat) (a0 : Nat) (μ : Mu) : Option (Mu) := bnd (fX3_clear n (a0 + 7) (wI (wI (wI (wI (wI (wI (wI (wI μ a0 0 1) a0 1 0) a0 2 0) a0 3 0) a0 4 0) a0 5 0) a0 6 0) a0 7 0)) fun m2 => some m2
set_option maxRecDepth 100000 in
set_option maxHeartbeats 4000000 in
theorem tX7_clear {l : Launch} {w : WP} {sh : List Sh} {R : Rf} {μ : Mu} {μ' : Mu} (hY : LY sh R) (n : Nat) (a0 : Nat) (ha0 : isSea sh R a0) (h : fX7_clear n a0 μ = some μ') : CM l w yX7_clear cX7_clear 1 none 2 0 0 sh R [.ref (wb w + a0)] μ none sh R μ' := by
  refine CM.of (plainFor_of_name pf_X7) (Nat.le_of_ble_eq_true rfl) fun Z C hr _ hR hw hl hE => ?_
  subst hw; subst hl
  have C : CX Z cX7_clear 1 RX7 := C
  show Wm Z (0, 0, sh, R) μ 0 [(0, .ref (wb (zw Z) + a0))] []
  unfold fX7_clear at h
  refine r_aload_n C dX7_clear_0 0 rfl ?_
  refine r_iconst C dX7_clear_1 ic_1 ?_
  refine r_putI C fiX7_9 dX7_clear_2 (isSea_0 ha0) ?_
  refine r_aload_n C dX7_clear_5 0 rfl ?_
  refine r_iconst C dX7_clear_6 ic_0 ?_
  refine r_putI C fiX7_41 dX7_clear_7 (isSea_0 ha0) ?_
  refine r_aload_n C dX7_clear_10 0 rfl ?_
  refine r_iconst C dX7_clear_11 ic_0 ?_
  refine r_putI C fiX7_44 dX7_clear_12 (isSea_0 ha0) ?_
  refine r_aload_n C dX7_clear_15 0 rfl ?_
  refine r_iconst C dX7_clear_16 ic_0 ?_
  refine r_putI C fiX7_47 dX7_clear_17 (isSea_0 ha0) ?_
  refine r_aload_n C dX7_clear_20 0 rfl ?_
  refine r_iconst C dX7_clear_21 ic_0 ?_
  refine r_putI C fiX7_50 dX7_clear_22 (isSea_0 ha0) ?_
  refine r_aload_n C dX7_clear_25 0 rfl ?_
  refine r_iconst C dX7_clear_26 ic_0 ?_
  refine r_putI C fiX7_53 dX7_clear_27 (isSea_0 ha0) ?_
  refine r_aload_n C dX7_clear_30 0 rfl ?_
  refine r_iconst C dX7_clear_31 ic_0 ?_
  refine r_putI C fiX7_56 dX7_clear_32 (isSea_0 ha0) ?_
  refine r_aload_n C dX7_clear_35 0 rfl ?_
  refine r_iconst C dX7_clear_36 ic_0 ?_
  refine r_putI C fiX7_59 dX7_clear_37 (isSea_0 ha0) ?_
  refine r_aload_n C dX7_clear_40 0 rfl ?_
  refine r_getR C flX7_37 dX7_clear_41 (isSea_0 ha0) rfl (isSea_r14 ha0) ?_
  obtain ⟨m2, e1, h⟩ := bnd_inv h
  refine r_cVv (As := []) (rest := []) C hR mlX7_62 dX7_clear_44 (tX3_clear hY n (a0 + 7) (isSea_law ha0) e1) rfl rfl (isLaw_0 (isSea_law ha0)) rfl (nle rfl) (nle rfl) (nle rfl) ?_
  have h := Option.some.inj h
  subst h
  exact r_vret C dX7_clear_47 hr hE
def fX5_kind (n : Nat)  (μ : Mu) : Option (Int32) := if 901 ≤ (rI μ 13 4) then (some 0) else (gd (ib (rI μ 13 4) 901) (some (rI μ 26 (ix (rI μ 13 4)))))
set_option maxRecDepth 100000 in
set_option maxHeartbeats 4000000 in
theorem tX5_kind {l : Launch} {w : WP} {sh : List Sh} {R : Rf} {μ : Mu} {r : Int32} (hY : LY sh R) (n : Nat)   (h : fX5_kind n μ = some r) : CM l w yX5_kind cX5_kind 1 (some .int) 0 0 0 sh R [.ref (wb w + 13)] μ (some (.int r)) sh R μ := by
  refine CM.of (plainFor_of_name pf_X5) (Nat.le_of_ble_eq_true rfl) fun Z C hr _ hR hw hl hE => ?_
  subst hw; subst hl
  have C : CX Z cX5_kind 1 RX5 := C
  show Wm Z (0, 0, sh, R) μ 0 [(0, .ref (wb (zw Z) + 13))] []
  unfold fX5_kind at h
  refine r_aload_n C dX5_kind_0 0 rfl ?_
  refine r_getI C flX5_32 dX5_kind_1 (ly13 hY) rfl ?_
  refine r_aload_n C dX5_kind_4 0 rfl ?_
  refine r_getR C flX5_21 dX5_kind_5 (ly13 hY) rfl (lr13_3 hY) ?_
  refine r_getR C flX5_60 dX5_kind_8 (ly25 hY) rfl (lr25_0 hY) ?_
  refine r_alen (v := 901) C dX5_kind_11 (ly26 hY) rfl (by decide) ?_
  refine r_icmp_ge 30 C dX5_kind_12 (by decide) (fun c1 => ?_) (fun c1 => ?_)
  · have h := (ite_inv h).1 c1
    refine r_iconst C dX5_kind_30 ic_0 ?_
    have h := Option.some.inj h
    subst h
    exact r_iret C dX5_kind_31 hr hE
  · have h := (ite_inv h).2 c1
    refine r_aload_n C dX5_kind_15 0 rfl ?_
    refine r_getR C flX5_21 dX5_kind_16 (ly13 hY) rfl (lr13_3 hY) ?_
    refine r_getR C flX5_60 dX5_kind_19 (ly25 hY) rfl (lr25_0 hY) ?_
    refine r_aload_n C dX5_kind_22 0 rfl ?_
    refine r_getI C flX5_32 dX5_kind_23 (ly13 hY) rfl ?_
    obtain ⟨b2, h⟩ := gd_inv h
    refine r_iald C dX5_kind_26 (ly26 hY) b2 ?_
    refine r_goto 31 C dX5_kind_27 (by decide) ?_
    have h := Option.some.inj h
    subst h
    exact r_iret C dX5_kind_31 hr hE
def jX5_blame_37 (n : Nat) (s0 : Int32) (μ : Mu) : Option (Int32 × Mu) := some (0, wI μ 13 2 s0)
set_option maxRecDepth 100000 in
set_option maxHeartbeats 4000000 in
theorem kX5_blame_37 {Z : ZC} {sh : List Sh} {R : Rf} {r : Int32} {μ' : Mu} (C : CX Z cX5_blame 2 RX5) (hR : zR Z = rm 0 0 0) (hY : LY sh R) (n : Nat) (s0 : Int32) (μ : Mu) (h : jX5_blame_37 n s0 μ = some (r, μ')) (hr : (zme Z).sig.returnType = (some .boolean)) (hE : zEnd Z (0, 0, sh, R) μ' (some (.int r))) : Wm Z (0, 0, sh, R) μ 37 [] [.int s0, .ref (wb (zw Z) + 13)] := by
  unfold jX5_blame_37 at h
  refine r_putI C fiX5_39 dX5_blame_37 (ly13 hY) ?_
  refine r_iconst C dX5_blame_40 ic_0 ?_
  obtain ⟨h1, h2⟩ := Prod.mk.inj (Option.some.inj h)
  subst h1; subst h2
  exact r_zret C dX5_blame_41 hr rfl hE
def fX5_blame (n : Nat) (x1 : Int32) (μ : Mu) : Option (Int32 × Mu) := if 901 ≤ (rI (wI μ 13 1 x1) 13 4) then (jX5_blame_37 n (-1) (wI μ 13 1 x1)) else (gd (ib (rI (wI μ 13 1 x1) 13 4) 901) (jX5_blame_37 n (rI (wI μ 13 1 x1) 27 (ix (rI (wI μ 13 1 x1) 13 4))) (wI μ 13 1 x1)))
set_option maxRecDepth 100000 in
set_option maxHeartbeats 4000000 in
theorem tX5_blame {l : Launch} {w : WP} {sh : List Sh} {R : Rf} {μ : Mu} {r : Int32} {μ' : Mu} (hY : LY sh R) (n : Nat) (x1 : Int32)  (h : fX5_blame n x1 μ = some (r, μ')) : CM l w yX5_blame cX5_blame 2 (some .boolean) 0 0 0 sh R [.ref (wb w + 13), .int x1] μ (some (.int r)) sh R μ' := by
  refine CM.of (plainFor_of_name pf_X5) (Nat.le_of_ble_eq_true rfl) fun Z C hr _ hR hw hl hE => ?_
  subst hw; subst hl
  have C : CX Z cX5_blame 2 RX5 := C
  show Wm Z (0, 0, sh, R) μ 0 [(0, .ref (wb (zw Z) + 13)), (1, .int x1)] []
  unfold fX5_blame at h
  refine r_aload_n C dX5_blame_0 0 rfl ?_
  refine r_iload_n C dX5_blame_1 1 rfl ?_
  refine r_putI C fiX5_36 dX5_blame_2 (ly13 hY) ?_
  refine r_aload_n C dX5_blame_5 0 rfl ?_
  refine r_aload_n C dX5_blame_6 0 rfl ?_
  refine r_getI C flX5_32 dX5_blame_7 (ly13 hY) rfl ?_
  refine r_aload_n C dX5_blame_10 0 rfl ?_
  refine r_getR C flX5_21 dX5_blame_11 (ly13 hY) rfl (lr13_3 hY) ?_
  refine r_getR C flX5_63 dX5_blame_14 (ly25 hY) rfl (lr25_1 hY) ?_
  refine r_alen (v := 901) C dX5_blame_17 (ly27 hY) rfl (by decide) ?_
  refine r_icmp_ge 36 C dX5_blame_18 (by decide) (fun c1 => ?_) (fun c1 => ?_)
  · have h := (ite_inv h).1 c1
    refine r_iconst C dX5_blame_36 ic_m1 ?_
    refine r_sub [] [] rfl ?_
    exact kX5_blame_37 C hR hY n   (-1) (wI μ 13 1 x1) h hr hE
  · have h := (ite_inv h).2 c1
    refine r_aload_n C dX5_blame_21 0 rfl ?_
    refine r_getR C flX5_21 dX5_blame_22 (ly13 hY) rfl (lr13_3 hY) ?_
    refine r_getR C flX5_63 dX5_blame_25 (ly25 hY) rfl (lr25_1 hY) ?_
    refine r_aload_n C dX5_blame_28 0 rfl ?_
    refine r_getI C flX5_32 dX5_blame_29 (ly13 hY) rfl ?_
    obtain ⟨b2, h⟩ := gd_inv h
    refine r_iald C dX5_blame_32 (ly27 hY) b2 ?_
    refine r_goto 37 C dX5_blame_33 (by decide) ?_
    refine r_sub [] [] rfl ?_
    exact kX5_blame_37 C hR hY n   (rI (wI μ 13 1 x1) 27 (ix (rI (wI μ 13 1 x1) 13 4))) (wI μ 13 1 x1) h hr hE
def fX5_refuse (n : Nat)  (μ : Mu) : Option (Int32 × Mu) := bnd (fX5_kind n μ) fun u2 => bnd2 (fX5_blame n (if u2 = 1 then 1 else 2 : Int32) μ) fun u5 m6 => gd (isb u5) (some (u5, m6))
set_option maxRecDepth 100000 in
set_option maxHeartbeats 4000000 in
theorem tX5_refuse {l : Launch} {w : WP} {sh : List Sh} {R : Rf} {μ : Mu} {r : Int32} {μ' : Mu} (hY : LY sh R) (n : Nat)   (h : fX5_refuse n μ = some (r, μ')) : CM l w yX5_refuse cX5_refuse 1 (some .boolean) 1 0 0 sh R [.ref (wb w + 13)] μ (some (.int r)) sh R μ' := by
  refine CM.of (plainFor_of_name pf_X5) (Nat.le_of_ble_eq_true rfl) fun Z C hr _ hR hw hl hE => ?_
  subst hw; subst hl
  have C : CX Z cX5_refuse 1 RX5 := C
  show Wm Z (0, 0, sh, R) μ 0 [(0, .ref (wb (zw Z) + 13))] []
  unfold fX5_refuse at h
  refine r_aload_n C dX5_refuse_0 0 rfl ?_
  refine r_aload_n C dX5_refuse_1 0 rfl ?_
  obtain ⟨u2, e1, h⟩ := bnd_inv h
  refine r_cVi (As := []) (rest := [.ref (wb (zw Z) + 13)]) C hR mlX5_46 dX5_refuse_2 (tX5_kind hY n  e1) rfl rfl (ly13 hY) rfl (nle rfl) (nle rfl) (nle rfl) ?_
  refine r_iconst C dX5_refuse_5 ic_1 ?_
  suffices hj : Wm Z (0, 0, sh, R) μ 14 [(0, .ref (wb (zw Z) + 13))] [.int (if u2 = 1 then 1 else 2 : Int32), .ref (wb (zw Z) + 13)] by
    refine r_icmp_ne 13 C dX5_refuse_6 (by decide) (fun c3 => ?_) (fun c3 => ?_)
    · refine r_iconst C dX5_refuse_13 ic_2 ?_
      exact sel_f c3 hj
    · refine r_iconst C dX5_refuse_9 ic_1 ?_
      refine r_goto 14 C dX5_refuse_10 (by decide) ?_
      exact sel_t c3 hj
  obtain ⟨u5, m6, e4, h⟩ := bnd2_inv h
  refine r_cVi (As := [.int (if u2 = 1 then 1 else 2 : Int32)]) (rest := []) C hR mlX5_65 dX5_refuse_14 (tX5_blame hY n (if u2 = 1 then 1 else 2 : Int32)  e4) rfl rfl (ly13 hY) rfl (nle rfl) (nle rfl) (nle rfl) ?_
  obtain ⟨b7, h⟩ := gd_inv h
  obtain ⟨h1, h2⟩ := Prod.mk.inj (Option.some.inj h)
  subst h1; subst h2
  exact r_zret C dX5_refuse_17 hr (isb_n b7) hE
def fX5_accept (n : Nat) (x1 : Int32) (μ : Mu) : Option (Int32 × Mu) := bnd (fX5_kind n μ) fun u2 => if u2 = x1 then (some (1, wI μ 13 4 ((rI μ 13 4) + 1))) else (bnd2 (fX5_refuse n μ) fun u5 m6 => gd (isb u5) (some (u5, m6)))
set_option maxRecDepth 100000 in
set_option maxHeartbeats 4000000 in
theorem tX5_accept {l : Launch} {w : WP} {sh : List Sh} {R : Rf} {μ : Mu} {r : Int32} {μ' : Mu} (hY : LY sh R) (n : Nat) (x1 : Int32)  (h : fX5_accept n x1 μ = some (r, μ')) : CM l w yX5_accept cX5_accept 2 (some .boolean) 2 0 0 sh R [.ref (wb w + 13), .int x1] μ (some (.int r)) sh R μ' := by
  refine CM.of (plainFor_of_name pf_X5) (Nat.le_of_ble_eq_true rfl) fun Z C hr _ hR hw hl hE => ?_
  subst hw; subst hl
  have C : CX Z cX5_accept 2 RX5 := C
  show Wm Z (0, 0, sh, R) μ 0 [(0, .ref (wb (zw Z) + 13)), (1, .int x1)] []
  unfold fX5_accept at h
  refine r_aload_n C dX5_accept_0 0 rfl ?_
  obtain ⟨u2, e1, h⟩ := bnd_inv h
  refine r_cVi (As := []) (rest := []) C hR mlX5_46 dX5_accept_1 (tX5_kind hY n  e1) rfl rfl (ly13 hY) rfl (nle rfl) (nle rfl) (nle rfl) ?_
  refine r_iload_n C dX5_accept_4 1 rfl ?_
  refine r_icmp_eq 13 C dX5_accept_5 (by decide) (fun c3 => ?_) (fun c3 => ?_)
  · have h := (ite_inv h).1 c3
    refine r_aload_n C dX5_accept_13 0 rfl ?_
    refine r_dup C dX5_accept_14 rfl ?_
    refine r_getI C flX5_32 dX5_accept_15 (ly13 hY) rfl ?_
    refine r_iconst C dX5_accept_18 ic_1 ?_
    refine r_iadd C dX5_accept_19 ?_
    refine r_putI C fiX5_32 dX5_accept_20 (ly13 hY) ?_
    refine r_iconst C dX5_accept_23 ic_1 ?_
    obtain ⟨h1, h2⟩ := Prod.mk.inj (Option.some.inj h)
    subst h1; subst h2
    exact r_zret C dX5_accept_24 hr rfl hE
  · have h := (ite_inv h).2 c3
    refine r_aload_n C dX5_accept_8 0 rfl ?_
    obtain ⟨u5, m6, e4, h⟩ := bnd2_inv h
    refine r_cVi (As := []) (rest := []) C hR mlX5_68 dX5_accept_9 (tX5_refuse hY n  e4) rfl rfl (ly13 hY) rfl (nle rfl) (nle rfl) (nle rfl) ?_
    obtain ⟨b7, h⟩ := gd_inv h
    obtain ⟨h1, h2⟩ := Prod.mk.inj (Option.some.inj h)
    subst h1; subst h2
    exact r_zret C dX5_accept_12 hr (isb_n b7) hE
def jX5_amount_30 (n : Nat)  (μ : Mu) : Option (Int32 × Mu) := bnd2 (fX5_blame n 3 μ) fun u6 m7 => some ((-1), m7)
set_option maxRecDepth 100000 in
set_option maxHeartbeats 4000000 in
theorem kX5_amount_30 {Z : ZC} {sh : List Sh} {R : Rf} {r : Int32} {μ' : Mu} (C : CX Z cX5_amount 4 RX5) (hR : zR Z = rm 2 0 0) (hY : LY sh R) (n : Nat)  (μ : Mu) (h : jX5_amount_30 n μ = some (r, μ')) (hr : (zme Z).sig.returnType = (some .int)) (hE : zEnd Z (0, 0, sh, R) μ' (some (.int r))) : Wm Z (0, 0, sh, R) μ 30 [(0, .ref (wb (zw Z) + 13))] [] := by
  unfold jX5_amount_30 at h
  refine r_aload_n C dX5_amount_30 0 rfl ?_
  refine r_iconst C dX5_amount_31 ic_3 ?_
  obtain ⟨u6, m7, e5, h⟩ := bnd2_inv h
  refine r_cVi (As := [.int 3]) (rest := []) C hR mlX5_65 dX5_amount_32 (tX5_blame hY n 3  e5) rfl rfl (ly13 hY) rfl (nle rfl) (nle rfl) (nle rfl) ?_
  refine r_pop C dX5_amount_35 rfl ?_
  refine r_iconst C dX5_amount_36 ic_m1 ?_
  obtain ⟨h1, h2⟩ := Prod.mk.inj (Option.some.inj h)
  subst h1; subst h2
  exact r_iret C dX5_amount_37 hr hE
def fX5_amount (n : Nat) (x1 : Int32) (x2 : Int32) (μ : Mu) : Option (Int32 × Mu) := bnd (fX5_kind n μ) fun u2 => if 0 ≤ (u2 - 1000) then (if (u2 - 1000) < x1 then (jX5_amount_30 n μ) else (if (u2 - 1000) ≤ x2 then (some (u2 - 1000, wI μ 13 4 ((rI μ 13 4) + 1))) else (jX5_amount_30 n μ))) else (bnd2 (fX5_refuse n μ) fun u10 m11 => some ((-1), m11))
set_option maxRecDepth 100000 in
set_option maxHeartbeats 4000000 in
theorem tX5_amount {l : Launch} {w : WP} {sh : List Sh} {R : Rf} {μ : Mu} {r : Int32} {μ' : Mu} (hY : LY sh R) (n : Nat) (x1 : Int32) (x2 : Int32)  (h : fX5_amount n x1 x2 μ = some (r, μ')) : CM l w yX5_amount cX5_amount 4 (some .int) 2 0 0 sh R [.ref (wb w + 13), .int x1, .int x2] μ (some (.int r)) sh R μ' := by
  refine CM.of (plainFor_of_name pf_X5) (Nat.le_of_ble_eq_true rfl) fun Z C hr _ hR hw hl hE => ?_
  subst hw; subst hl
  have C : CX Z cX5_amount 4 RX5 := C
  show Wm Z (0, 0, sh, R) μ 0 [(0, .ref (wb (zw Z) + 13)), (1, .int x1), (2, .int x2)] []
  unfold fX5_amount at h
  refine r_aload_n C dX5_amount_0 0 rfl ?_
  obtain ⟨u2, e1, h⟩ := bnd_inv h
  refine r_cVi (As := []) (rest := []) C hR mlX5_46 dX5_amount_1 (tX5_kind hY n  e1) rfl rfl (ly13 hY) rfl (nle rfl) (nle rfl) (nle rfl) ?_
  refine r_sipush C dX5_amount_4 sp_1000 ?_
  refine r_isub C dX5_amount_7 ?_
  refine r_istore_n [(3, .int (u2 - 1000)), (0, .ref (wb (zw Z) + 13)), (1, .int x1), (2, .int x2)] C dX5_amount_8 rfl (by decide) rfl ?_
  refine r_iload_n C dX5_amount_9 0 rfl ?_
  refine r_if_ge 20 C dX5_amount_10 (by decide) (fun c3 => ?_) (fun c3 => ?_)
  · have h := (ite_inv h).1 c3
    refine r_iload_n C dX5_amount_20 0 rfl ?_
    refine r_iload_n C dX5_amount_21 2 rfl ?_
    refine r_icmp_lt 30 C dX5_amount_22 (by decide) (fun c4 => ?_) (fun c4 => ?_)
    · have h := (ite_inv h).1 c4
      refine r_sub [(0, .ref (wb (zw Z) + 13))] [1] rfl ?_
      exact kX5_amount_30 C hR hY n   μ h hr hE
    · have h := (ite_inv h).2 c4
      refine r_iload_n C dX5_amount_25 0 rfl ?_
      refine r_iload_n C dX5_amount_26 3 rfl ?_
      refine r_icmp_le 38 C dX5_amount_27 (by decide) (fun c8 => ?_) (fun c8 => ?_)
      · have h := (ite_inv h).1 c8
        refine r_aload_n C dX5_amount_38 1 rfl ?_
        refine r_dup C dX5_amount_39 rfl ?_
        refine r_getI C flX5_32 dX5_amount_40 (ly13 hY) rfl ?_
        refine r_iconst C dX5_amount_43 ic_1 ?_
        refine r_iadd C dX5_amount_44 ?_
        refine r_putI C fiX5_32 dX5_amount_45 (ly13 hY) ?_
        refine r_iload_n C dX5_amount_48 0 rfl ?_
        obtain ⟨h1, h2⟩ := Prod.mk.inj (Option.some.inj h)
        subst h1; subst h2
        exact r_iret C dX5_amount_49 hr hE
      · have h := (ite_inv h).2 c8
        refine r_sub [(0, .ref (wb (zw Z) + 13))] [1] rfl ?_
        exact kX5_amount_30 C hR hY n   μ h hr hE
  · have h := (ite_inv h).2 c3
    refine r_aload_n C dX5_amount_13 1 rfl ?_
    obtain ⟨u10, m11, e9, h⟩ := bnd2_inv h
    refine r_cVi (As := []) (rest := []) C hR mlX5_68 dX5_amount_14 (tX5_refuse hY n  e9) rfl rfl (ly13 hY) rfl (nle rfl) (nle rfl) (nle rfl) ?_
    refine r_pop C dX5_amount_17 rfl ?_
    refine r_iconst C dX5_amount_18 ic_m1 ?_
    obtain ⟨h1, h2⟩ := Prod.mk.inj (Option.some.inj h)
    subst h1; subst h2
    exact r_iret C dX5_amount_19 hr hE
def fX5_firstLine (n : Nat)  (μ : Mu) : Option (Int32 × Mu) := bnd2 (fX5_accept n 200 μ) fun u2 m3 => if u2 = 0 then (some (0, m3)) else (bnd2 (fX5_amount n 1 6 m3) fun u6 m7 => if u6 = (-1) then (some (0, m7)) else (bnd2 (fX5_accept n 59 m7) fun u10 m11 => if u10 = 0 then (some (0, m11)) else (some (1, wI (wI m11 14 0 u6) 14 4 1))))
set_option maxRecDepth 100000 in
set_option maxHeartbeats 4000000 in
theorem tX5_firstLine {l : Launch} {w : WP} {sh : List Sh} {R : Rf} {μ : Mu} {r : Int32} {μ' : Mu} (hY : LY sh R) (n : Nat)   (h : fX5_firstLine n μ = some (r, μ')) : CM l w yX5_firstLine cX5_firstLine 2 (some .boolean) 3 0 0 sh R [.ref (wb w + 13)] μ (some (.int r)) sh R μ' := by
  refine CM.of (plainFor_of_name pf_X5) (Nat.le_of_ble_eq_true rfl) fun Z C hr _ hR hw hl hE => ?_
  subst hw; subst hl
  have C : CX Z cX5_firstLine 2 RX5 := C
  show Wm Z (0, 0, sh, R) μ 0 [(0, .ref (wb (zw Z) + 13))] []
  unfold fX5_firstLine at h
  refine r_aload_n C dX5_firstLine_0 0 rfl ?_
  refine r_sipush C dX5_firstLine_1 sp_200 ?_
  obtain ⟨u2, m3, e1, h⟩ := bnd2_inv h
  refine r_cVi (As := [.int 200]) (rest := []) C hR mlX5_53 dX5_firstLine_4 (tX5_accept hY n 200  e1) rfl rfl (ly13 hY) rfl (nle rfl) (nle rfl) (nle rfl) ?_
  refine r_if_ne 12 C dX5_firstLine_7 (by decide) (fun c4 => ?_) (fun c4 => ?_)
  · have h := (ite_inv h).2 c4
    refine r_aload_n C dX5_firstLine_12 0 rfl ?_
    refine r_iconst C dX5_firstLine_13 ic_1 ?_
    refine r_bipush C dX5_firstLine_14 bp_6 ?_
    obtain ⟨u6, m7, e5, h⟩ := bnd2_inv h
    refine r_cVi (As := [.int 1, .int 6]) (rest := []) C hR mlX5_71 dX5_firstLine_16 (tX5_amount hY n 1 6  e5) rfl rfl (ly13 hY) rfl (nle rfl) (nle rfl) (nle rfl) ?_
    refine r_istore_n [(1, .int u6), (0, .ref (wb (zw Z) + 13))] C dX5_firstLine_19 rfl (by decide) rfl ?_
    refine r_iload_n C dX5_firstLine_20 0 rfl ?_
    refine r_iconst C dX5_firstLine_21 ic_m1 ?_
    refine r_icmp_eq 34 C dX5_firstLine_22 (by decide) (fun c8 => ?_) (fun c8 => ?_)
    · have h := (ite_inv h).1 c8
      refine r_iconst C dX5_firstLine_34 ic_0 ?_
      obtain ⟨h1, h2⟩ := Prod.mk.inj (Option.some.inj h)
      subst h1; subst h2
      exact r_zret C dX5_firstLine_35 hr rfl hE
    · have h := (ite_inv h).2 c8
      refine r_aload_n C dX5_firstLine_25 1 rfl ?_
      refine r_bipush C dX5_firstLine_26 bp_59 ?_
      obtain ⟨u10, m11, e9, h⟩ := bnd2_inv h
      refine r_cVi (As := [.int 59]) (rest := []) C hR mlX5_53 dX5_firstLine_28 (tX5_accept hY n 59  e9) rfl rfl (ly13 hY) rfl (nle rfl) (nle rfl) (nle rfl) ?_
      refine r_if_ne 36 C dX5_firstLine_31 (by decide) (fun c12 => ?_) (fun c12 => ?_)
      · have h := (ite_inv h).2 c12
        refine r_aload_n C dX5_firstLine_36 1 rfl ?_
        refine r_getR C flX5_12 dX5_firstLine_37 (ly13 hY) rfl (lr13_0 hY) ?_
        refine r_iload_n C dX5_firstLine_40 0 rfl ?_
        refine r_putI C fiX5_75 dX5_firstLine_41 (isSea_0 (lyRSea hY)) ?_
        refine r_aload_n C dX5_firstLine_44 1 rfl ?_
        refine r_getR C flX5_12 dX5_firstLine_45 (ly13 hY) rfl (lr13_0 hY) ?_
        refine r_iconst C dX5_firstLine_48 ic_1 ?_
        refine r_putI C fiX5_57 dX5_firstLine_49 (isSea_0 (lyRSea hY)) ?_
        refine r_iconst C dX5_firstLine_52 ic_1 ?_
        obtain ⟨h1, h2⟩ := Prod.mk.inj (Option.some.inj h)
        subst h1; subst h2
        exact r_zret C dX5_firstLine_53 hr rfl hE
      · have h := (ite_inv h).1 c12
        refine r_iconst C dX5_firstLine_34 ic_0 ?_
        obtain ⟨h1, h2⟩ := Prod.mk.inj (Option.some.inj h)
        subst h1; subst h2
        exact r_zret C dX5_firstLine_35 hr rfl hE
  · have h := (ite_inv h).1 c4
    refine r_iconst C dX5_firstLine_10 ic_0 ?_
    obtain ⟨h1, h2⟩ := Prod.mk.inj (Option.some.inj h)
    subst h1; subst h2
    exact r_zret C dX5_firstLine_11 hr rfl hE
def fX5_currentLine (n : Nat)  (μ : Mu) : Option (Int32 × Mu) := if (rI μ 14 1) < 10 then (bnd2 (fX5_amount n 0 ((rI (wI μ 13 4 ((rI μ 13 4) + 1)) 14 0) - 1) (wI μ 13 4 ((rI μ 13 4) + 1))) fun u3 m4 => gd (ib (rI μ 14 1) 10) (gd (ib (rI μ 14 1) 10) (if (rI (wI m4 15 (ix (rI μ 14 1)) u3) 15 (ix (rI μ 14 1))) = (-1) then (some (0, wI m4 15 (ix (rI μ 14 1)) u3)) else (bnd (fX5_kind n (wI m4 15 (ix (rI μ 14 1)) u3)) fun u9 => gd (ib (rI μ 14 1) 10) (if u9 = (1000 + (rI (wI m4 15 (ix (rI μ 14 1)) u3) 15 (ix (rI μ 14 1)))) then (bnd2 (fX5_blame n 3 (wI m4 15 (ix (rI μ 14 1)) u3)) fun u29 m30 => gd (isb u29) (some (u29, m30))) else (bnd2 (fX5_amount n 0 ((rI (wI m4 15 (ix (rI μ 14 1)) u3) 14 0) - 1) (wI m4 15 (ix (rI μ 14 1)) u3)) fun u13 m14 => gd (ib (rI μ 14 1) 10) (gd (ib (rI μ 14 1) 10) (if (rI (wI m14 16 (ix (rI μ 14 1)) u13) 16 (ix (rI μ 14 1))) = (-1) then (some (0, wI m14 16 (ix (rI μ 14 1)) u13)) else (bnd2 (fX5_accept n 202 (wI m14 16 (ix (rI μ 14 1)) u13)) fun u19 m20 => if u19 = 0 then (some (0, m20)) else (bnd2 (fX5_amount n 1 9 m20) fun u23 m24 => gd (ib (rI μ 14 1) 10) (gd (ib (rI μ 14 1) 10) (if (rI (wI (wI m24 17 (ix (rI μ 14 1)) u23) 14 1 ((rI (wI m24 17 (ix (rI μ 14 1)) u23) 14 1) + 1)) 17 (ix (rI μ 14 1))) = (-1) then (some (0, wI (wI m24 17 (ix (rI μ 14 1)) u23) 14 1 ((rI (wI m24 17 (ix (rI μ 14 1)) u23) 14 1) + 1))) else (some (1, wI (wI m24 17 (ix (rI μ 14 1)) u23) 14 1 ((rI (wI m24 17 (ix (rI μ 14 1)) u23) 14 1) + 1))))))))))))))) else (bnd2 (fX5_blame n 4 μ) fun u33 m34 => gd (isb u33) (some (u33, m34)))
set_option maxRecDepth 100000 in
set_option maxHeartbeats 4000000 in
theorem tX5_currentLine {l : Launch} {w : WP} {sh : List Sh} {R : Rf} {μ : Mu} {r : Int32} {μ' : Mu} (hY : LY sh R) (n : Nat)   (h : fX5_currentLine n μ = some (r, μ')) : CM l w yX5_currentLine cX5_currentLine 2 (some .boolean) 3 0 0 sh R [.ref (wb w + 13)] μ (some (.int r)) sh R μ' := by
  refine CM.of (plainFor_of_name pf_X5) (Nat.le_of_ble_eq_true rfl) fun Z C hr _ hR hw hl hE => ?_
  subst hw; subst hl
  have C : CX Z cX5_currentLine 2 RX5 := C
  show Wm Z (0, 0, sh, R) μ 0 [(0, .ref (wb (zw Z) + 13))] []
  unfold fX5_currentLine at h
  refine r_aload_n C dX5_currentLine_0 0 rfl ?_
  refine r_getR C flX5_12 dX5_currentLine_1 (ly13 hY) rfl (lr13_0 hY) ?_
  refine r_getI C flX5_102 dX5_currentLine_4 (isSea_0 (lyRSea hY)) rfl ?_
  refine r_istore_n [(1, .int (rI μ 14 1)), (0, .ref (wb (zw Z) + 13))] C dX5_currentLine_7 rfl (by decide) rfl ?_
  refine r_iload_n C dX5_currentLine_8 0 rfl ?_
  refine r_bipush C dX5_currentLine_9 bp_10 ?_
  refine r_icmp_lt 20 C dX5_currentLine_11 (by decide) (fun c1 => ?_) (fun c1 => ?_)
  · have h := (ite_inv h).1 c1
    refine r_aload_n C dX5_currentLine_20 1 rfl ?_
    refine r_dup C dX5_currentLine_21 rfl ?_
    refine r_getI C flX5_32 dX5_currentLine_22 (ly13 hY) rfl ?_
    refine r_iconst C dX5_currentLine_25 ic_1 ?_
    refine r_iadd C dX5_currentLine_26 ?_
    refine r_putI C fiX5_32 dX5_currentLine_27 (ly13 hY) ?_
    refine r_aload_n C dX5_currentLine_30 1 rfl ?_
    refine r_getR C flX5_12 dX5_currentLine_31 (ly13 hY) rfl (lr13_0 hY) ?_
    refine r_getR C flX5_105 dX5_currentLine_34 (isSea_0 (lyRSea hY)) rfl (isSea_r8 (lyRSea hY)) ?_
    refine r_iload_n C dX5_currentLine_37 0 rfl ?_
    refine r_aload_n C dX5_currentLine_38 1 rfl ?_
    refine r_iconst C dX5_currentLine_39 ic_0 ?_
    refine r_aload_n C dX5_currentLine_40 1 rfl ?_
    refine r_getR C flX5_12 dX5_currentLine_41 (ly13 hY) rfl (lr13_0 hY) ?_
    refine r_getI C flX5_75 dX5_currentLine_44 (isSea_0 (lyRSea hY)) rfl ?_
    refine r_iconst C dX5_currentLine_47 ic_1 ?_
    refine r_isub C dX5_currentLine_48 ?_
    obtain ⟨u3, m4, e2, h⟩ := bnd2_inv h
    refine r_cVi (As := [.int 0, .int ((rI (wI μ 13 4 ((rI μ 13 4) + 1)) 14 0) - 1)]) (rest := [.int (rI μ 14 1), .ref (wb (zw Z) + 15)]) C hR mlX5_71 dX5_currentLine_49 (tX5_amount hY n 0 ((rI (wI μ 13 4 ((rI μ 13 4) + 1)) 14 0) - 1)  e2) rfl rfl (ly13 hY) rfl (nle rfl) (nle rfl) (nle rfl) ?_
    obtain ⟨b5, h⟩ := gd_inv h
    refine r_iast C dX5_currentLine_52 (isSea_1 (lyRSea hY)) b5 ?_
    refine r_aload_n C dX5_currentLine_53 1 rfl ?_
    refine r_getR C flX5_12 dX5_currentLine_54 (ly13 hY) rfl (lr13_0 hY) ?_
    refine r_getR C flX5_105 dX5_currentLine_57 (isSea_0 (lyRSea hY)) rfl (isSea_r8 (lyRSea hY)) ?_
    refine r_iload_n C dX5_currentLine_60 0 rfl ?_
    obtain ⟨b6, h⟩ := gd_inv h
    refine r_iald C dX5_currentLine_61 (isSea_1 (lyRSea hY)) b6 ?_
    refine r_iconst C dX5_currentLine_62 ic_m1 ?_
    refine r_icmp_ne 68 C dX5_currentLine_63 (by decide) (fun c7 => ?_) (fun c7 => ?_)
    · have h := (ite_inv h).2 c7
      refine r_aload_n C dX5_currentLine_68 1 rfl ?_
      obtain ⟨u9, e8, h⟩ := bnd_inv h
      refine r_cVi (As := []) (rest := []) C hR mlX5_46 dX5_currentLine_69 (tX5_kind hY n  e8) rfl rfl (ly13 hY) rfl (nle rfl) (nle rfl) (nle rfl) ?_
      refine r_sipush C dX5_currentLine_72 sp_1000 ?_
      refine r_aload_n C dX5_currentLine_75 1 rfl ?_
      refine r_getR C flX5_12 dX5_currentLine_76 (ly13 hY) rfl (lr13_0 hY) ?_
      refine r_getR C flX5_105 dX5_currentLine_79 (isSea_0 (lyRSea hY)) rfl (isSea_r8 (lyRSea hY)) ?_
      refine r_iload_n C dX5_currentLine_82 0 rfl ?_
      obtain ⟨b10, h⟩ := gd_inv h
      refine r_iald C dX5_currentLine_83 (isSea_1 (lyRSea hY)) b10 ?_
      refine r_iadd C dX5_currentLine_84 ?_
      refine r_icmp_ne 94 C dX5_currentLine_85 (by decide) (fun c11 => ?_) (fun c11 => ?_)
      · have h := (ite_inv h).2 c11
        refine r_aload_n C dX5_currentLine_94 1 rfl ?_
        refine r_getR C flX5_12 dX5_currentLine_95 (ly13 hY) rfl (lr13_0 hY) ?_
        refine r_getR C flX5_108 dX5_currentLine_98 (isSea_0 (lyRSea hY)) rfl (isSea_r9 (lyRSea hY)) ?_
        refine r_iload_n C dX5_currentLine_101 0 rfl ?_
        refine r_aload_n C dX5_currentLine_102 1 rfl ?_
        refine r_iconst C dX5_currentLine_103 ic_0 ?_
        refine r_aload_n C dX5_currentLine_104 1 rfl ?_
        refine r_getR C flX5_12 dX5_currentLine_105 (ly13 hY) rfl (lr13_0 hY) ?_
        refine r_getI C flX5_75 dX5_currentLine_108 (isSea_0 (lyRSea hY)) rfl ?_
        refine r_iconst C dX5_currentLine_111 ic_1 ?_
        refine r_isub C dX5_currentLine_112 ?_
        obtain ⟨u13, m14, e12, h⟩ := bnd2_inv h
        refine r_cVi (As := [.int 0, .int ((rI (wI m4 15 (ix (rI μ 14 1)) u3) 14 0) - 1)]) (rest := [.int (rI μ 14 1), .ref (wb (zw Z) + 16)]) C hR mlX5_71 dX5_currentLine_113 (tX5_amount hY n 0 ((rI (wI m4 15 (ix (rI μ 14 1)) u3) 14 0) - 1)  e12) rfl rfl (ly13 hY) rfl (nle rfl) (nle rfl) (nle rfl) ?_
        obtain ⟨b15, h⟩ := gd_inv h
        refine r_iast C dX5_currentLine_116 (isSea_2 (lyRSea hY)) b15 ?_
        refine r_aload_n C dX5_currentLine_117 1 rfl ?_
        refine r_getR C flX5_12 dX5_currentLine_118 (ly13 hY) rfl (lr13_0 hY) ?_
        refine r_getR C flX5_108 dX5_currentLine_121 (isSea_0 (lyRSea hY)) rfl (isSea_r9 (lyRSea hY)) ?_
        refine r_iload_n C dX5_currentLine_124 0 rfl ?_
        obtain ⟨b16, h⟩ := gd_inv h
        refine r_iald C dX5_currentLine_125 (isSea_2 (lyRSea hY)) b16 ?_
        refine r_iconst C dX5_currentLine_126 ic_m1 ?_
        refine r_icmp_eq 140 C dX5_currentLine_127 (by decide) (fun c17 => ?_) (fun c17 => ?_)
        · have h := (ite_inv h).1 c17
          refine r_iconst C dX5_currentLine_140 ic_0 ?_
          obtain ⟨h1, h2⟩ := Prod.mk.inj (Option.some.inj h)
          subst h1; subst h2
          exact r_zret C dX5_currentLine_141 hr rfl hE
        · have h := (ite_inv h).2 c17
          refine r_aload_n C dX5_currentLine_130 1 rfl ?_
          refine r_sipush C dX5_currentLine_131 sp_202 ?_
          obtain ⟨u19, m20, e18, h⟩ := bnd2_inv h
          refine r_cVi (As := [.int 202]) (rest := []) C hR mlX5_53 dX5_currentLine_134 (tX5_accept hY n 202  e18) rfl rfl (ly13 hY) rfl (nle rfl) (nle rfl) (nle rfl) ?_
          refine r_if_ne 142 C dX5_currentLine_137 (by decide) (fun c21 => ?_) (fun c21 => ?_)
          · have h := (ite_inv h).2 c21
            refine r_aload_n C dX5_currentLine_142 1 rfl ?_
            refine r_getR C flX5_12 dX5_currentLine_143 (ly13 hY) rfl (lr13_0 hY) ?_
            refine r_getR C flX5_111 dX5_currentLine_146 (isSea_0 (lyRSea hY)) rfl (isSea_r10 (lyRSea hY)) ?_
            refine r_iload_n C dX5_currentLine_149 0 rfl ?_
            refine r_aload_n C dX5_currentLine_150 1 rfl ?_
            refine r_iconst C dX5_currentLine_151 ic_1 ?_
            refine r_bipush C dX5_currentLine_152 bp_9 ?_
            obtain ⟨u23, m24, e22, h⟩ := bnd2_inv h
            refine r_cVi (As := [.int 1, .int 9]) (rest := [.int (rI μ 14 1), .ref (wb (zw Z) + 17)]) C hR mlX5_71 dX5_currentLine_154 (tX5_amount hY n 1 9  e22) rfl rfl (ly13 hY) rfl (nle rfl) (nle rfl) (nle rfl) ?_
            obtain ⟨b25, h⟩ := gd_inv h
            refine r_iast C dX5_currentLine_157 (isSea_3 (lyRSea hY)) b25 ?_
            refine r_aload_n C dX5_currentLine_158 1 rfl ?_
            refine r_getR C flX5_12 dX5_currentLine_159 (ly13 hY) rfl (lr13_0 hY) ?_
            refine r_dup C dX5_currentLine_162 rfl ?_
            refine r_getI C flX5_102 dX5_currentLine_163 (isSea_0 (lyRSea hY)) rfl ?_
            refine r_iconst C dX5_currentLine_166 ic_1 ?_
            refine r_iadd C dX5_currentLine_167 ?_
            refine r_putI C fiX5_102 dX5_currentLine_168 (isSea_0 (lyRSea hY)) ?_
            refine r_aload_n C dX5_currentLine_171 1 rfl ?_
            refine r_getR C flX5_12 dX5_currentLine_172 (ly13 hY) rfl (lr13_0 hY) ?_
            refine r_getR C flX5_111 dX5_currentLine_175 (isSea_0 (lyRSea hY)) rfl (isSea_r10 (lyRSea hY)) ?_
            refine r_iload_n C dX5_currentLine_178 0 rfl ?_
            obtain ⟨b26, h⟩ := gd_inv h
            refine r_iald C dX5_currentLine_179 (isSea_3 (lyRSea hY)) b26 ?_
            refine r_iconst C dX5_currentLine_180 ic_m1 ?_
            refine r_icmp_eq 188 C dX5_currentLine_181 (by decide) (fun c27 => ?_) (fun c27 => ?_)
            · have h := (ite_inv h).1 c27
              refine r_iconst C dX5_currentLine_188 ic_0 ?_
              obtain ⟨h1, h2⟩ := Prod.mk.inj (Option.some.inj h)
              subst h1; subst h2
              exact r_zret C dX5_currentLine_189 hr rfl hE
            · have h := (ite_inv h).2 c27
              refine r_iconst C dX5_currentLine_184 ic_1 ?_
              refine r_goto 189 C dX5_currentLine_185 (by decide) ?_
              obtain ⟨h1, h2⟩ := Prod.mk.inj (Option.some.inj h)
              subst h1; subst h2
              exact r_zret C dX5_currentLine_189 hr rfl hE
          · have h := (ite_inv h).1 c21
            refine r_iconst C dX5_currentLine_140 ic_0 ?_
            obtain ⟨h1, h2⟩ := Prod.mk.inj (Option.some.inj h)
            subst h1; subst h2
            exact r_zret C dX5_currentLine_141 hr rfl hE
      · have h := (ite_inv h).1 c11
        refine r_aload_n C dX5_currentLine_88 1 rfl ?_
        refine r_iconst C dX5_currentLine_89 ic_3 ?_
        obtain ⟨u29, m30, e28, h⟩ := bnd2_inv h
        refine r_cVi (As := [.int 3]) (rest := []) C hR mlX5_65 dX5_currentLine_90 (tX5_blame hY n 3  e28) rfl rfl (ly13 hY) rfl (nle rfl) (nle rfl) (nle rfl) ?_
        obtain ⟨b31, h⟩ := gd_inv h
        obtain ⟨h1, h2⟩ := Prod.mk.inj (Option.some.inj h)
        subst h1; subst h2
        exact r_zret C dX5_currentLine_93 hr (isb_n b31) hE
    · have h := (ite_inv h).1 c7
      refine r_iconst C dX5_currentLine_66 ic_0 ?_
      obtain ⟨h1, h2⟩ := Prod.mk.inj (Option.some.inj h)
      subst h1; subst h2
      exact r_zret C dX5_currentLine_67 hr rfl hE
  · have h := (ite_inv h).2 c1
    refine r_aload_n C dX5_currentLine_14 1 rfl ?_
    refine r_iconst C dX5_currentLine_15 ic_4 ?_
    obtain ⟨u33, m34, e32, h⟩ := bnd2_inv h
    refine r_cVi (As := [.int 4]) (rest := []) C hR mlX5_65 dX5_currentLine_16 (tX5_blame hY n 4  e32) rfl rfl (ly13 hY) rfl (nle rfl) (nle rfl) (nle rfl) ?_
    obtain ⟨b35, h⟩ := gd_inv h
    obtain ⟨h1, h2⟩ := Prod.mk.inj (Option.some.inj h)
    subst h1; subst h2
    exact r_zret C dX5_currentLine_19 hr (isb_n b35) hE
def jX5_personLine_69 (n : Nat) (x1 : Int32) (x2 : Int32) (μ : Mu) : Option ((Int32 × Mu) ⊕ ((Mu) ⊕ (Mu))) := bnd (fX5_kind n μ) fun u8 => if (if u8 = 204 then 1 else 0 : Int32) = 0 then (some (.inl (x2 + 1, wI (wI μ 13 4 ((rI μ 13 4) + 1)) 14 7 ((rI (wI μ 13 4 ((rI μ 13 4) + 1)) 14 7) ||| (shl 1 x1))))) else (bnd2 (fX5_amount n 0 ((rI (wI μ 13 4 ((rI μ 13 4) + 1)) 14 0) - 1) (wI μ 13 4 ((rI μ 13 4) + 1))) fun u12 m13 => gd (ib x1 6) (gd (ib x1 6) (if (rI (wI m13 18 (ix x1) u12) 18 (ix x1)) = (-1) then (some (.inr (.inl (wI m13 18 (ix x1) u12)))) else (some (.inl (x2 + 1, wI m13 18 (ix x1) u12))))))
set_option maxRecDepth 100000 in
set_option maxHeartbeats 4000000 in
theorem kX5_personLine_69 {Z : ZC} {sh : List Sh} {R : Rf} {o : (Int32 × Mu) ⊕ ((Mu) ⊕ (Mu))} (C : CX Z cX5_personLine 4 RX5) (hR : zR Z = rm 3 0 0) (hY : LY sh R) (n : Nat) (x1 : Int32) (x2 : Int32) (μ : Mu) (h : jX5_personLine_69 n x1 x2 μ = some o) (kin : ∀ (x2 : Int32) (μ : Mu), o = .inl (x2, μ) → Wm Z (0, 0, sh, R) μ 42 [(0, .ref (wb (zw Z) + 13)), (1, .int x1), (2, .int x2)] []) (kex0 : ∀ (μ : Mu), o = .inr (.inl μ) → Wm Z (0, 0, sh, R) μ 135 [] []) (kex1 : ∀ (μ : Mu), o = .inr (.inr μ) → Wm Z (0, 0, sh, R) μ 158 [(0, .ref (wb (zw Z) + 13))] []) : Wm Z (0, 0, sh, R) μ 69 [(0, .ref (wb (zw Z) + 13)), (1, .int x1), (2, .int x2)] [] := by
  unfold jX5_personLine_69 at h
  refine r_aload_n C dX5_personLine_69 0 rfl ?_
  obtain ⟨u8, e7, h⟩ := bnd_inv h
  refine r_cVi (As := []) (rest := []) C hR mlX5_46 dX5_personLine_70 (tX5_kind hY n  e7) rfl rfl (ly13 hY) rfl (nle rfl) (nle rfl) (nle rfl) ?_
  refine r_sipush C dX5_personLine_73 sp_204 ?_
  suffices hj : Wm Z (0, 0, sh, R) μ 84 [(0, .ref (wb (zw Z) + 13)), (1, .int x1), (2, .int x2)] [.int (if u8 = 204 then 1 else 0 : Int32)] by
    refine r_icmp_ne 83 C dX5_personLine_76 (by decide) (fun c9 => ?_) (fun c9 => ?_)
    · refine r_iconst C dX5_personLine_83 ic_0 ?_
      exact sel_f c9 hj
    · refine r_iconst C dX5_personLine_79 ic_1 ?_
      refine r_goto 84 C dX5_personLine_80 (by decide) ?_
      exact sel_t c9 hj
  refine r_istore_n [(3, .int (if u8 = 204 then 1 else 0 : Int32)), (0, .ref (wb (zw Z) + 13)), (1, .int x1), (2, .int x2)] C dX5_personLine_84 rfl (by decide) rfl ?_
  refine r_aload_n C dX5_personLine_85 1 rfl ?_
  refine r_dup C dX5_personLine_86 rfl ?_
  refine r_getI C flX5_32 dX5_personLine_87 (ly13 hY) rfl ?_
  refine r_iconst C dX5_personLine_90 ic_1 ?_
  refine r_iadd C dX5_personLine_91 ?_
  refine r_putI C fiX5_32 dX5_personLine_92 (ly13 hY) ?_
  refine r_iload_n C dX5_personLine_95 0 rfl ?_
  refine r_if_eq 137 C dX5_personLine_96 (by decide) (fun c10 => ?_) (fun c10 => ?_)
  · have h := (ite_inv h).1 c10
    refine r_aload_n C dX5_personLine_137 1 rfl ?_
    refine r_getR C flX5_12 dX5_personLine_138 (ly13 hY) rfl (lr13_0 hY) ?_
    refine r_dup C dX5_personLine_141 rfl ?_
    refine r_getI C flX5_120 dX5_personLine_142 (isSea_0 (lyRSea hY)) rfl ?_
    refine r_iconst C dX5_personLine_145 ic_1 ?_
    refine r_iload_n C dX5_personLine_146 2 rfl ?_
    refine r_ishl C dX5_personLine_147 ?_
    refine r_ior C dX5_personLine_148 ?_
    refine r_putI C fiX5_120 dX5_personLine_149 (isSea_0 (lyRSea hY)) ?_
    refine r_iinc [(2, .int (x2 + 1)), (3, .int (if u8 = 204 then 1 else 0 : Int32)), (0, .ref (wb (zw Z) + 13)), (1, .int x1)] C dX5_personLine_152 3 rfl (in_1 _) (by decide) rfl ?_
    refine r_goto 42 C dX5_personLine_155 (by decide) ?_
    refine r_sub [(0, .ref (wb (zw Z) + 13)), (1, .int x1), (2, .int (x2 + 1))] [2, 3, 0] rfl ?_
    exact kin (x2 + 1) (wI (wI μ 13 4 ((rI μ 13 4) + 1)) 14 7 ((rI (wI μ 13 4 ((rI μ 13 4) + 1)) 14 7) ||| (shl 1 x1))) (Option.some.inj h).symm
  · have h := (ite_inv h).2 c10
    refine r_aload_n C dX5_personLine_99 1 rfl ?_
    refine r_getR C flX5_12 dX5_personLine_100 (ly13 hY) rfl (lr13_0 hY) ?_
    refine r_getR C flX5_117 dX5_personLine_103 (isSea_0 (lyRSea hY)) rfl (isSea_r11 (lyRSea hY)) ?_
    refine r_iload_n C dX5_personLine_106 2 rfl ?_
    refine r_aload_n C dX5_personLine_107 1 rfl ?_
    refine r_iconst C dX5_personLine_108 ic_0 ?_
    refine r_aload_n C dX5_personLine_109 1 rfl ?_
    refine r_getR C flX5_12 dX5_personLine_110 (ly13 hY) rfl (lr13_0 hY) ?_
    refine r_getI C flX5_75 dX5_personLine_113 (isSea_0 (lyRSea hY)) rfl ?_
    refine r_iconst C dX5_personLine_116 ic_1 ?_
    refine r_isub C dX5_personLine_117 ?_
    obtain ⟨u12, m13, e11, h⟩ := bnd2_inv h
    refine r_cVi (As := [.int 0, .int ((rI (wI μ 13 4 ((rI μ 13 4) + 1)) 14 0) - 1)]) (rest := [.int x1, .ref (wb (zw Z) + 18)]) C hR mlX5_71 dX5_personLine_118 (tX5_amount hY n 0 ((rI (wI μ 13 4 ((rI μ 13 4) + 1)) 14 0) - 1)  e11) rfl rfl (ly13 hY) rfl (nle rfl) (nle rfl) (nle rfl) ?_
    obtain ⟨b14, h⟩ := gd_inv h
    refine r_iast C dX5_personLine_121 (isSea_4 (lyRSea hY)) b14 ?_
    refine r_aload_n C dX5_personLine_122 1 rfl ?_
    refine r_getR C flX5_12 dX5_personLine_123 (ly13 hY) rfl (lr13_0 hY) ?_
    refine r_getR C flX5_117 dX5_personLine_126 (isSea_0 (lyRSea hY)) rfl (isSea_r11 (lyRSea hY)) ?_
    refine r_iload_n C dX5_personLine_129 2 rfl ?_
    obtain ⟨b15, h⟩ := gd_inv h
    refine r_iald C dX5_personLine_130 (isSea_4 (lyRSea hY)) b15 ?_
    refine r_iconst C dX5_personLine_131 ic_m1 ?_
    refine r_icmp_ne 152 C dX5_personLine_132 (by decide) (fun c16 => ?_) (fun c16 => ?_)
    · have h := (ite_inv h).2 c16
      refine r_iinc [(2, .int (x2 + 1)), (3, .int (if u8 = 204 then 1 else 0 : Int32)), (0, .ref (wb (zw Z) + 13)), (1, .int x1)] C dX5_personLine_152 3 rfl (in_1 _) (by decide) rfl ?_
      refine r_goto 42 C dX5_personLine_155 (by decide) ?_
      refine r_sub [(0, .ref (wb (zw Z) + 13)), (1, .int x1), (2, .int (x2 + 1))] [2, 3, 0] rfl ?_
      exact kin (x2 + 1) (wI m13 18 (ix x1) u12) (Option.some.inj h).symm
    · have h := (ite_inv h).1 c16
      refine r_sub [] [] rfl ?_
      exact kex0 (wI m13 18 (ix x1) u12) (Option.some.inj h).symm
def sX5_personLine_42 (n : Nat) (x1 : Int32) : Int32 × Mu → Option ((Int32 × Mu) ⊕ ((Mu) ⊕ (Mu))) := fun q => match q with | (x2, μ) => if 900 ≤ x2 then (some (.inr (.inr μ))) else (bnd (fX5_kind n μ) fun u5 => if u5 = 204 then (jX5_personLine_69 n x1 x2 μ) else (bnd (fX5_kind n μ) fun u18 => if u18 = 205 then (jX5_personLine_69 n x1 x2 μ) else (some (.inr (.inr μ)))))
set_option maxRecDepth 100000 in
set_option maxHeartbeats 4000000 in
theorem lX5_personLine_42 {Z : ZC} {sh : List Sh} {R : Rf} {o : (Int32 × Mu) ⊕ ((Mu) ⊕ (Mu))} (C : CX Z cX5_personLine 4 RX5) (hR : zR Z = rm 3 0 0) (hY : LY sh R) (n : Nat) (x1 : Int32) (x2 : Int32) (μ : Mu) (h : sX5_personLine_42 n x1 (x2, μ) = some o) (kin : ∀ (x2 : Int32) (μ : Mu), o = .inl (x2, μ) → Wm Z (0, 0, sh, R) μ 42 [(0, .ref (wb (zw Z) + 13)), (1, .int x1), (2, .int x2)] []) (kex0 : ∀ (μ : Mu), o = .inr (.inl μ) → Wm Z (0, 0, sh, R) μ 135 [] []) (kex1 : ∀ (μ : Mu), o = .inr (.inr μ) → Wm Z (0, 0, sh, R) μ 158 [(0, .ref (wb (zw Z) + 13))] []) : Wm Z (0, 0, sh, R) μ 42 [(0, .ref (wb (zw Z) + 13)), (1, .int x1), (2, .int x2)] [] := by
  unfold sX5_personLine_42 at h
  refine r_iload_n C dX5_personLine_42 2 rfl ?_
  refine r_sipush C dX5_personLine_43 sp_900 ?_
  refine r_icmp_ge 158 C dX5_personLine_46 (by decide) (fun c3 => ?_) (fun c3 => ?_)
  · have h := (ite_inv h).1 c3
    refine r_sub [(0, .ref (wb (zw Z) + 13))] [0] rfl ?_
    exact kex1 μ (Option.some.inj h).symm
  · have h := (ite_inv h).2 c3
    refine r_aload_n C dX5_personLine_49 0 rfl ?_
    obtain ⟨u5, e4, h⟩ := bnd_inv h
    refine r_cVi (As := []) (rest := []) C hR mlX5_46 dX5_personLine_50 (tX5_kind hY n  e4) rfl rfl (ly13 hY) rfl (nle rfl) (nle rfl) (nle rfl) ?_
    refine r_sipush C dX5_personLine_53 sp_204 ?_
    refine r_icmp_eq 69 C dX5_personLine_56 (by decide) (fun c6 => ?_) (fun c6 => ?_)
    · have h := (ite_inv h).1 c6
      exact kX5_personLine_69 C hR hY n   x1 x2 μ h kin kex0 kex1
    · have h := (ite_inv h).2 c6
      refine r_aload_n C dX5_personLine_59 0 rfl ?_
      obtain ⟨u18, e17, h⟩ := bnd_inv h
      refine r_cVi (As := []) (rest := []) C hR mlX5_46 dX5_personLine_60 (tX5_kind hY n  e17) rfl rfl (ly13 hY) rfl (nle rfl) (nle rfl) (nle rfl) ?_
      refine r_sipush C dX5_personLine_63 sp_205 ?_
      refine r_icmp_ne 158 C dX5_personLine_66 (by decide) (fun c19 => ?_) (fun c19 => ?_)
      · have h := (ite_inv h).2 c19
        refine r_sub [(0, .ref (wb (zw Z) + 13))] [0] rfl ?_
        exact kex1 μ (Option.some.inj h).symm
      · have h := (ite_inv h).1 c19
        exact kX5_personLine_69 C hR hY n   x1 x2 μ h kin kex0 kex1
def jX5_personLine_158 (n : Nat)  (μ : Mu) : Option (Int32 × Mu) := some (1, wI μ 14 2 ((rI μ 14 2) + 1))
set_option maxRecDepth 100000 in
set_option maxHeartbeats 4000000 in
theorem kX5_personLine_158 {Z : ZC} {sh : List Sh} {R : Rf} {r : Int32} {μ' : Mu} (C : CX Z cX5_personLine 4 RX5) (hR : zR Z = rm 3 0 0) (hY : LY sh R) (n : Nat)  (μ : Mu) (h : jX5_personLine_158 n μ = some (r, μ')) (hr : (zme Z).sig.returnType = (some .boolean)) (hE : zEnd Z (0, 0, sh, R) μ' (some (.int r))) : Wm Z (0, 0, sh, R) μ 158 [(0, .ref (wb (zw Z) + 13))] [] := by
  unfold jX5_personLine_158 at h
  refine r_aload_n C dX5_personLine_158 0 rfl ?_
  refine r_getR C flX5_12 dX5_personLine_159 (ly13 hY) rfl (lr13_0 hY) ?_
  refine r_dup C dX5_personLine_162 rfl ?_
  refine r_getI C flX5_114 dX5_personLine_163 (isSea_0 (lyRSea hY)) rfl ?_
  refine r_iconst C dX5_personLine_166 ic_1 ?_
  refine r_iadd C dX5_personLine_167 ?_
  refine r_putI C fiX5_114 dX5_personLine_168 (isSea_0 (lyRSea hY)) ?_
  refine r_iconst C dX5_personLine_171 ic_1 ?_
  obtain ⟨h1, h2⟩ := Prod.mk.inj (Option.some.inj h)
  subst h1; subst h2
  exact r_zret C dX5_personLine_172 hr rfl hE
def fX5_personLine (n : Nat)  (μ : Mu) : Option (Int32 × Mu) := if (rI μ 14 2) < 6 then (gd (ib (rI μ 14 2) 6) (bnd (lp n (sX5_personLine_42 n (rI μ 14 2)) (0, wI (wI μ 13 4 ((rI μ 13 4) + 1)) 18 (ix (rI μ 14 2)) (-1))) fun q => match q with | .inl m20 => (some (0, m20)) | .inr m21 => (jX5_personLine_158 n m21))) else (bnd2 (fX5_blame n 4 μ) fun u25 m26 => gd (isb u25) (some (u25, m26)))
set_option maxRecDepth 100000 in
set_option maxHeartbeats 4000000 in
theorem tX5_personLine {l : Launch} {w : WP} {sh : List Sh} {R : Rf} {μ : Mu} {r : Int32} {μ' : Mu} (hY : LY sh R) (n : Nat)   (h : fX5_personLine n μ = some (r, μ')) : CM l w yX5_personLine cX5_personLine 4 (some .boolean) 3 0 0 sh R [.ref (wb w + 13)] μ (some (.int r)) sh R μ' := by
  refine CM.of (plainFor_of_name pf_X5) (Nat.le_of_ble_eq_true rfl) fun Z C hr _ hR hw hl hE => ?_
  subst hw; subst hl
  have C : CX Z cX5_personLine 4 RX5 := C
  show Wm Z (0, 0, sh, R) μ 0 [(0, .ref (wb (zw Z) + 13))] []
  unfold fX5_personLine at h
  refine r_aload_n C dX5_personLine_0 0 rfl ?_
  refine r_getR C flX5_12 dX5_personLine_1 (ly13 hY) rfl (lr13_0 hY) ?_
  refine r_getI C flX5_114 dX5_personLine_4 (isSea_0 (lyRSea hY)) rfl ?_
  refine r_istore_n [(1, .int (rI μ 14 2)), (0, .ref (wb (zw Z) + 13))] C dX5_personLine_7 rfl (by decide) rfl ?_
  refine r_iload_n C dX5_personLine_8 0 rfl ?_
  refine r_bipush C dX5_personLine_9 bp_6 ?_
  refine r_icmp_lt 20 C dX5_personLine_11 (by decide) (fun c1 => ?_) (fun c1 => ?_)
  · have h := (ite_inv h).1 c1
    refine r_aload_n C dX5_personLine_20 1 rfl ?_
    refine r_dup C dX5_personLine_21 rfl ?_
    refine r_getI C flX5_32 dX5_personLine_22 (ly13 hY) rfl ?_
    refine r_iconst C dX5_personLine_25 ic_1 ?_
    refine r_iadd C dX5_personLine_26 ?_
    refine r_putI C fiX5_32 dX5_personLine_27 (ly13 hY) ?_
    refine r_aload_n C dX5_personLine_30 1 rfl ?_
    refine r_getR C flX5_12 dX5_personLine_31 (ly13 hY) rfl (lr13_0 hY) ?_
    refine r_getR C flX5_117 dX5_personLine_34 (isSea_0 (lyRSea hY)) rfl (isSea_r11 (lyRSea hY)) ?_
    refine r_iload_n C dX5_personLine_37 0 rfl ?_
    refine r_iconst C dX5_personLine_38 ic_m1 ?_
    obtain ⟨b2, h⟩ := gd_inv h
    refine r_iast C dX5_personLine_39 (isSea_4 (lyRSea hY)) b2 ?_
    refine r_iconst C dX5_personLine_40 ic_0 ?_
    refine r_istore_n [(2, .int 0), (1, .int (rI μ 14 2)), (0, .ref (wb (zw Z) + 13))] C dX5_personLine_41 rfl (by decide) rfl ?_
    refine r_sub [(0, .ref (wb (zw Z) + 13)), (1, .int (rI μ 14 2)), (2, .int 0)] [2, 1, 0] rfl ?_
    obtain ⟨q23, e22, h⟩ := bnd_inv h
    refine lp_all (sX5_personLine_42 n (rI μ 14 2)) (fun q => match q with | (z2, ν) => Wm Z (0, 0, sh, R) (ν) 42 [(0, .ref (wb (zw Z) + 13)), (1, .int (rI μ 14 2)), (2, .int z2)] []) (fun q => match q with | .inl (ν) => Wm Z (0, 0, sh, R) (ν) 135 [] [] | .inr (ν) => Wm Z (0, 0, sh, R) (ν) 158 [(0, .ref (wb (zw Z) + 13))] []) (fun q o h kin kex => ?_) n (0, wI (wI μ 13 4 ((rI μ 13 4) + 1)) 18 (ix (rI μ 14 2)) (-1)) q23 e22 ?_
    · obtain ⟨z2, ν⟩ := q; exact lX5_personLine_42 C hR hY n   (rI μ 14 2) z2 ν h (fun z2 ν e => kin (z2, ν) e) (fun ν e => kex (.inl (ν)) e) (fun ν e => kex (.inr (ν)) e)
    rcases q23 with m20 | m21
    · show Wm Z (0, 0, sh, R) m20 135 [] []
      refine r_iconst C dX5_personLine_135 ic_0 ?_
      obtain ⟨h1, h2⟩ := Prod.mk.inj (Option.some.inj h)
      subst h1; subst h2
      exact r_zret C dX5_personLine_136 hr rfl hE
    · show Wm Z (0, 0, sh, R) m21 158 [(0, .ref (wb (zw Z) + 13))] []
      exact kX5_personLine_158 C hR hY n   m21 h hr hE
  · have h := (ite_inv h).2 c1
    refine r_aload_n C dX5_personLine_14 1 rfl ?_
    refine r_iconst C dX5_personLine_15 ic_4 ?_
    obtain ⟨u25, m26, e24, h⟩ := bnd2_inv h
    refine r_cVi (As := [.int 4]) (rest := []) C hR mlX5_65 dX5_personLine_16 (tX5_blame hY n 4  e24) rfl rfl (ly13 hY) rfl (nle rfl) (nle rfl) (nle rfl) ?_
    obtain ⟨b27, h⟩ := gd_inv h
    obtain ⟨h1, h2⟩ := Prod.mk.inj (Option.some.inj h)
    subst h1; subst h2
    exact r_zret C dX5_personLine_19 hr (isb_n b27) hE
def jX5_shellLine_136 (n : Nat)  (μ : Mu) : Option (Int32 × Mu) := some (1, wI μ 14 3 ((rI μ 14 3) + 1))
set_option maxRecDepth 100000 in
set_option maxHeartbeats 4000000 in
theorem kX5_shellLine_136 {Z : ZC} {sh : List Sh} {R : Rf} {r : Int32} {μ' : Mu} (C : CX Z cX5_shellLine 2 RX5) (hR : zR Z = rm 3 0 0) (hY : LY sh R) (n : Nat)  (μ : Mu) (h : jX5_shellLine_136 n μ = some (r, μ')) (hr : (zme Z).sig.returnType = (some .boolean)) (hE : zEnd Z (0, 0, sh, R) μ' (some (.int r))) : Wm Z (0, 0, sh, R) μ 136 [(0, .ref (wb (zw Z) + 13))] [] := by
  unfold jX5_shellLine_136 at h
  refine r_aload_n C dX5_shellLine_136 0 rfl ?_
  refine r_getR C flX5_12 dX5_shellLine_137 (ly13 hY) rfl (lr13_0 hY) ?_
  refine r_dup C dX5_shellLine_140 rfl ?_
  refine r_getI C flX5_123 dX5_shellLine_141 (isSea_0 (lyRSea hY)) rfl ?_
  refine r_iconst C dX5_shellLine_144 ic_1 ?_
  refine r_iadd C dX5_shellLine_145 ?_
  refine r_putI C fiX5_123 dX5_shellLine_146 (isSea_0 (lyRSea hY)) ?_
  refine r_iconst C dX5_shellLine_149 ic_1 ?_
  obtain ⟨h1, h2⟩ := Prod.mk.inj (Option.some.inj h)
  subst h1; subst h2
  exact r_zret C dX5_shellLine_150 hr rfl hE
def fX5_shellLine (n : Nat)  (μ : Mu) : Option (Int32 × Mu) := if (rI μ 14 3) < 8 then (gd (ib (rI μ 14 3) 8) (bnd2 (fX5_amount n 0 ((rI (wI (wI μ 13 4 ((rI μ 13 4) + 1)) 20 (ix (rI μ 14 3)) (-1)) 14 0) - 1) (wI (wI μ 13 4 ((rI μ 13 4) + 1)) 20 (ix (rI μ 14 3)) (-1))) fun u4 m5 => gd (ib (rI μ 14 3) 8) (gd (ib (rI μ 14 3) 8) (if (rI (wI m5 19 (ix (rI μ 14 3)) u4) 19 (ix (rI μ 14 3))) = (-1) then (some (0, wI m5 19 (ix (rI μ 14 3)) u4)) else (bnd (fX5_kind n (wI m5 19 (ix (rI μ 14 3)) u4)) fun u10 => if u10 = 207 then (bnd2 (fX5_amount n 0 ((rI (wI (wI m5 19 (ix (rI μ 14 3)) u4) 13 4 ((rI (wI m5 19 (ix (rI μ 14 3)) u4) 13 4) + 1)) 14 2) - 1) (wI (wI m5 19 (ix (rI μ 14 3)) u4) 13 4 ((rI (wI m5 19 (ix (rI μ 14 3)) u4) 13 4) + 1))) fun u13 m14 => gd (ib (rI μ 14 3) 8) (gd (ib (rI μ 14 3) 8) (if (rI (wI m14 20 (ix (rI μ 14 3)) u13) 20 (ix (rI μ 14 3))) = (-1) then (some (0, wI m14 20 (ix (rI μ 14 3)) u13)) else (jX5_shellLine_136 n (wI m14 20 (ix (rI μ 14 3)) u13))))) else (jX5_shellLine_136 n (wI m5 19 (ix (rI μ 14 3)) u4))))))) else (bnd2 (fX5_blame n 4 μ) fun u19 m20 => gd (isb u19) (some (u19, m20)))
set_option maxRecDepth 100000 in
set_option maxHeartbeats 4000000 in
theorem tX5_shellLine {l : Launch} {w : WP} {sh : List Sh} {R : Rf} {μ : Mu} {r : Int32} {μ' : Mu} (hY : LY sh R) (n : Nat)   (h : fX5_shellLine n μ = some (r, μ')) : CM l w yX5_shellLine cX5_shellLine 2 (some .boolean) 3 0 0 sh R [.ref (wb w + 13)] μ (some (.int r)) sh R μ' := by
  refine CM.of (plainFor_of_name pf_X5) (Nat.le_of_ble_eq_true rfl) fun Z C hr _ hR hw hl hE => ?_
  subst hw; subst hl
  have C : CX Z cX5_shellLine 2 RX5 := C
  show Wm Z (0, 0, sh, R) μ 0 [(0, .ref (wb (zw Z) + 13))] []
  unfold fX5_shellLine at h
  refine r_aload_n C dX5_shellLine_0 0 rfl ?_
  refine r_getR C flX5_12 dX5_shellLine_1 (ly13 hY) rfl (lr13_0 hY) ?_
  refine r_getI C flX5_123 dX5_shellLine_4 (isSea_0 (lyRSea hY)) rfl ?_
  refine r_istore_n [(1, .int (rI μ 14 3)), (0, .ref (wb (zw Z) + 13))] C dX5_shellLine_7 rfl (by decide) rfl ?_
  refine r_iload_n C dX5_shellLine_8 0 rfl ?_
  refine r_bipush C dX5_shellLine_9 bp_8 ?_
  refine r_icmp_lt 20 C dX5_shellLine_11 (by decide) (fun c1 => ?_) (fun c1 => ?_)
  · have h := (ite_inv h).1 c1
    refine r_aload_n C dX5_shellLine_20 1 rfl ?_
    refine r_dup C dX5_shellLine_21 rfl ?_
    refine r_getI C flX5_32 dX5_shellLine_22 (ly13 hY) rfl ?_
    refine r_iconst C dX5_shellLine_25 ic_1 ?_
    refine r_iadd C dX5_shellLine_26 ?_
    refine r_putI C fiX5_32 dX5_shellLine_27 (ly13 hY) ?_
    refine r_aload_n C dX5_shellLine_30 1 rfl ?_
    refine r_getR C flX5_12 dX5_shellLine_31 (ly13 hY) rfl (lr13_0 hY) ?_
    refine r_getR C flX5_126 dX5_shellLine_34 (isSea_0 (lyRSea hY)) rfl (isSea_r13 (lyRSea hY)) ?_
    refine r_iload_n C dX5_shellLine_37 0 rfl ?_
    refine r_iconst C dX5_shellLine_38 ic_m1 ?_
    obtain ⟨b2, h⟩ := gd_inv h
    refine r_iast C dX5_shellLine_39 (isSea_6 (lyRSea hY)) b2 ?_
    refine r_aload_n C dX5_shellLine_40 1 rfl ?_
    refine r_getR C flX5_12 dX5_shellLine_41 (ly13 hY) rfl (lr13_0 hY) ?_
    refine r_getR C flX5_129 dX5_shellLine_44 (isSea_0 (lyRSea hY)) rfl (isSea_r12 (lyRSea hY)) ?_
    refine r_iload_n C dX5_shellLine_47 0 rfl ?_
    refine r_aload_n C dX5_shellLine_48 1 rfl ?_
    refine r_iconst C dX5_shellLine_49 ic_0 ?_
    refine r_aload_n C dX5_shellLine_50 1 rfl ?_
    refine r_getR C flX5_12 dX5_shellLine_51 (ly13 hY) rfl (lr13_0 hY) ?_
    refine r_getI C flX5_75 dX5_shellLine_54 (isSea_0 (lyRSea hY)) rfl ?_
    refine r_iconst C dX5_shellLine_57 ic_1 ?_
    refine r_isub C dX5_shellLine_58 ?_
    obtain ⟨u4, m5, e3, h⟩ := bnd2_inv h
    refine r_cVi (As := [.int 0, .int ((rI (wI (wI μ 13 4 ((rI μ 13 4) + 1)) 20 (ix (rI μ 14 3)) (-1)) 14 0) - 1)]) (rest := [.int (rI μ 14 3), .ref (wb (zw Z) + 19)]) C hR mlX5_71 dX5_shellLine_59 (tX5_amount hY n 0 ((rI (wI (wI μ 13 4 ((rI μ 13 4) + 1)) 20 (ix (rI μ 14 3)) (-1)) 14 0) - 1)  e3) rfl rfl (ly13 hY) rfl (nle rfl) (nle rfl) (nle rfl) ?_
    obtain ⟨b6, h⟩ := gd_inv h
    refine r_iast C dX5_shellLine_62 (isSea_5 (lyRSea hY)) b6 ?_
    refine r_aload_n C dX5_shellLine_63 1 rfl ?_
    refine r_getR C flX5_12 dX5_shellLine_64 (ly13 hY) rfl (lr13_0 hY) ?_
    refine r_getR C flX5_129 dX5_shellLine_67 (isSea_0 (lyRSea hY)) rfl (isSea_r12 (lyRSea hY)) ?_
    refine r_iload_n C dX5_shellLine_70 0 rfl ?_
    obtain ⟨b7, h⟩ := gd_inv h
    refine r_iald C dX5_shellLine_71 (isSea_5 (lyRSea hY)) b7 ?_
    refine r_iconst C dX5_shellLine_72 ic_m1 ?_
    refine r_icmp_ne 78 C dX5_shellLine_73 (by decide) (fun c8 => ?_) (fun c8 => ?_)
    · have h := (ite_inv h).2 c8
      refine r_aload_n C dX5_shellLine_78 1 rfl ?_
      obtain ⟨u10, e9, h⟩ := bnd_inv h
      refine r_cVi (As := []) (rest := []) C hR mlX5_46 dX5_shellLine_79 (tX5_kind hY n  e9) rfl rfl (ly13 hY) rfl (nle rfl) (nle rfl) (nle rfl) ?_
      refine r_sipush C dX5_shellLine_82 sp_207 ?_
      refine r_icmp_ne 136 C dX5_shellLine_85 (by decide) (fun c11 => ?_) (fun c11 => ?_)
      · have h := (ite_inv h).2 c11
        refine r_sub [(0, .ref (wb (zw Z) + 13))] [1] rfl ?_
        exact kX5_shellLine_136 C hR hY n   (wI m5 19 (ix (rI μ 14 3)) u4) h hr hE
      · have h := (ite_inv h).1 c11
        refine r_aload_n C dX5_shellLine_88 1 rfl ?_
        refine r_dup C dX5_shellLine_89 rfl ?_
        refine r_getI C flX5_32 dX5_shellLine_90 (ly13 hY) rfl ?_
        refine r_iconst C dX5_shellLine_93 ic_1 ?_
        refine r_iadd C dX5_shellLine_94 ?_
        refine r_putI C fiX5_32 dX5_shellLine_95 (ly13 hY) ?_
        refine r_aload_n C dX5_shellLine_98 1 rfl ?_
        refine r_getR C flX5_12 dX5_shellLine_99 (ly13 hY) rfl (lr13_0 hY) ?_
        refine r_getR C flX5_126 dX5_shellLine_102 (isSea_0 (lyRSea hY)) rfl (isSea_r13 (lyRSea hY)) ?_
        refine r_iload_n C dX5_shellLine_105 0 rfl ?_
        refine r_aload_n C dX5_shellLine_106 1 rfl ?_
        refine r_iconst C dX5_shellLine_107 ic_0 ?_
        refine r_aload_n C dX5_shellLine_108 1 rfl ?_
        refine r_getR C flX5_12 dX5_shellLine_109 (ly13 hY) rfl (lr13_0 hY) ?_
        refine r_getI C flX5_114 dX5_shellLine_112 (isSea_0 (lyRSea hY)) rfl ?_
        refine r_iconst C dX5_shellLine_115 ic_1 ?_
        refine r_isub C dX5_shellLine_116 ?_
        obtain ⟨u13, m14, e12, h⟩ := bnd2_inv h
        refine r_cVi (As := [.int 0, .int ((rI (wI (wI m5 19 (ix (rI μ 14 3)) u4) 13 4 ((rI (wI m5 19 (ix (rI μ 14 3)) u4) 13 4) + 1)) 14 2) - 1)]) (rest := [.int (rI μ 14 3), .ref (wb (zw Z) + 20)]) C hR mlX5_71 dX5_shellLine_117 (tX5_amount hY n 0 ((rI (wI (wI m5 19 (ix (rI μ 14 3)) u4) 13 4 ((rI (wI m5 19 (ix (rI μ 14 3)) u4) 13 4) + 1)) 14 2) - 1)  e12) rfl rfl (ly13 hY) rfl (nle rfl) (nle rfl) (nle rfl) ?_
        obtain ⟨b15, h⟩ := gd_inv h
        refine r_iast C dX5_shellLine_120 (isSea_6 (lyRSea hY)) b15 ?_
        refine r_aload_n C dX5_shellLine_121 1 rfl ?_
        refine r_getR C flX5_12 dX5_shellLine_122 (ly13 hY) rfl (lr13_0 hY) ?_
        refine r_getR C flX5_126 dX5_shellLine_125 (isSea_0 (lyRSea hY)) rfl (isSea_r13 (lyRSea hY)) ?_
        refine r_iload_n C dX5_shellLine_128 0 rfl ?_
        obtain ⟨b16, h⟩ := gd_inv h
        refine r_iald C dX5_shellLine_129 (isSea_6 (lyRSea hY)) b16 ?_
        refine r_iconst C dX5_shellLine_130 ic_m1 ?_
        refine r_icmp_ne 136 C dX5_shellLine_131 (by decide) (fun c17 => ?_) (fun c17 => ?_)
        · have h := (ite_inv h).2 c17
          refine r_sub [(0, .ref (wb (zw Z) + 13))] [1] rfl ?_
          exact kX5_shellLine_136 C hR hY n   (wI m14 20 (ix (rI μ 14 3)) u13) h hr hE
        · have h := (ite_inv h).1 c17
          refine r_iconst C dX5_shellLine_134 ic_0 ?_
          obtain ⟨h1, h2⟩ := Prod.mk.inj (Option.some.inj h)
          subst h1; subst h2
          exact r_zret C dX5_shellLine_135 hr rfl hE
    · have h := (ite_inv h).1 c8
      refine r_iconst C dX5_shellLine_76 ic_0 ?_
      obtain ⟨h1, h2⟩ := Prod.mk.inj (Option.some.inj h)
      subst h1; subst h2
      exact r_zret C dX5_shellLine_77 hr rfl hE
  · have h := (ite_inv h).2 c1
    refine r_aload_n C dX5_shellLine_14 1 rfl ?_
    refine r_iconst C dX5_shellLine_15 ic_4 ?_
    obtain ⟨u19, m20, e18, h⟩ := bnd2_inv h
    refine r_cVi (As := [.int 4]) (rest := []) C hR mlX5_65 dX5_shellLine_16 (tX5_blame hY n 4  e18) rfl rfl (ly13 hY) rfl (nle rfl) (nle rfl) (nle rfl) ?_
    obtain ⟨b21, h⟩ := gd_inv h
    obtain ⟨h1, h2⟩ := Prod.mk.inj (Option.some.inj h)
    subst h1; subst h2
    exact r_zret C dX5_shellLine_19 hr (isb_n b21) hE
def fX5_lawLine (n : Nat) (x1 : Int32) (μ : Mu) : Option (Int32 × Mu) := bnd (fX3_begin n 21 x1 (wI (wI μ 13 4 ((rI μ 13 4) + 1)) 13 5 x1)) fun m2 => bnd2 (fX5_accept n 58 m2) fun u4 m5 => gd (isb u4) (some (u4, m5))
set_option maxRecDepth 100000 in
set_option maxHeartbeats 4000000 in
theorem tX5_lawLine {l : Launch} {w : WP} {sh : List Sh} {R : Rf} {μ : Mu} {r : Int32} {μ' : Mu} (hY : LY sh R) (n : Nat) (x1 : Int32)  (h : fX5_lawLine n x1 μ = some (r, μ')) : CM l w yX5_lawLine cX5_lawLine 2 (some .boolean) 3 0 0 sh R [.ref (wb w + 13), .int x1] μ (some (.int r)) sh R μ' := by
  refine CM.of (plainFor_of_name pf_X5) (Nat.le_of_ble_eq_true rfl) fun Z C hr _ hR hw hl hE => ?_
  subst hw; subst hl
  have C : CX Z cX5_lawLine 2 RX5 := C
  show Wm Z (0, 0, sh, R) μ 0 [(0, .ref (wb (zw Z) + 13)), (1, .int x1)] []
  unfold fX5_lawLine at h
  refine r_aload_n C dX5_lawLine_0 0 rfl ?_
  refine r_dup C dX5_lawLine_1 rfl ?_
  refine r_getI C flX5_32 dX5_lawLine_2 (ly13 hY) rfl ?_
  refine r_iconst C dX5_lawLine_5 ic_1 ?_
  refine r_iadd C dX5_lawLine_6 ?_
  refine r_putI C fiX5_32 dX5_lawLine_7 (ly13 hY) ?_
  refine r_aload_n C dX5_lawLine_10 0 rfl ?_
  refine r_iload_n C dX5_lawLine_11 1 rfl ?_
  refine r_putI C fiX5_132 dX5_lawLine_12 (ly13 hY) ?_
  refine r_aload_n C dX5_lawLine_15 0 rfl ?_
  refine r_getR C flX5_12 dX5_lawLine_16 (ly13 hY) rfl (lr13_0 hY) ?_
  refine r_getR C flX5_135 dX5_lawLine_19 (isSea_0 (lyRSea hY)) rfl (isSea_r14 (lyRSea hY)) ?_
  refine r_iload_n C dX5_lawLine_22 1 rfl ?_
  obtain ⟨m2, e1, h⟩ := bnd_inv h
  refine r_cVv (As := [.int x1]) (rest := []) C hR mlX5_139 dX5_lawLine_23 (tX3_begin hY n 21 x1 (isSea_law (lyRSea hY)) e1) rfl rfl (isLaw_0 (isSea_law (lyRSea hY))) rfl (nle rfl) (nle rfl) (nle rfl) ?_
  refine r_aload_n C dX5_lawLine_26 0 rfl ?_
  refine r_bipush C dX5_lawLine_27 bp_58 ?_
  obtain ⟨u4, m5, e3, h⟩ := bnd2_inv h
  refine r_cVi (As := [.int 58]) (rest := []) C hR mlX5_53 dX5_lawLine_29 (tX5_accept hY n 58  e3) rfl rfl (ly13 hY) rfl (nle rfl) (nle rfl) (nle rfl) ?_
  obtain ⟨b6, h⟩ := gd_inv h
  obtain ⟨h1, h2⟩ := Prod.mk.inj (Option.some.inj h)
  subst h1; subst h2
  exact r_zret C dX5_lawLine_32 hr (isb_n b6) hE
def fX5_goesDeeper (n : Nat) (x1 : Int32) (μ : Mu) : Option (Int32 × Mu) := if x1 < 6 then (some (1, wI μ 13 4 ((rI μ 13 4) + 1))) else (bnd2 (fX5_blame n 4 μ) fun u3 m4 => gd (isb u3) (some (u3, m4)))
set_option maxRecDepth 100000 in
set_option maxHeartbeats 4000000 in
theorem tX5_goesDeeper {l : Launch} {w : WP} {sh : List Sh} {R : Rf} {μ : Mu} {r : Int32} {μ' : Mu} (hY : LY sh R) (n : Nat) (x1 : Int32)  (h : fX5_goesDeeper n x1 μ = some (r, μ')) : CM l w yX5_goesDeeper cX5_goesDeeper 2 (some .boolean) 1 0 0 sh R [.ref (wb w + 13), .int x1] μ (some (.int r)) sh R μ' := by
  refine CM.of (plainFor_of_name pf_X5) (Nat.le_of_ble_eq_true rfl) fun Z C hr _ hR hw hl hE => ?_
  subst hw; subst hl
  have C : CX Z cX5_goesDeeper 2 RX5 := C
  show Wm Z (0, 0, sh, R) μ 0 [(0, .ref (wb (zw Z) + 13)), (1, .int x1)] []
  unfold fX5_goesDeeper at h
  refine r_iload_n C dX5_goesDeeper_0 1 rfl ?_
  refine r_bipush C dX5_goesDeeper_1 bp_6 ?_
  refine r_icmp_lt 12 C dX5_goesDeeper_3 (by decide) (fun c1 => ?_) (fun c1 => ?_)
  · have h := (ite_inv h).1 c1
    refine r_aload_n C dX5_goesDeeper_12 0 rfl ?_
    refine r_dup C dX5_goesDeeper_13 rfl ?_
    refine r_getI C flX5_32 dX5_goesDeeper_14 (ly13 hY) rfl ?_
    refine r_iconst C dX5_goesDeeper_17 ic_1 ?_
    refine r_iadd C dX5_goesDeeper_18 ?_
    refine r_putI C fiX5_32 dX5_goesDeeper_19 (ly13 hY) ?_
    refine r_iconst C dX5_goesDeeper_22 ic_1 ?_
    obtain ⟨h1, h2⟩ := Prod.mk.inj (Option.some.inj h)
    subst h1; subst h2
    exact r_zret C dX5_goesDeeper_23 hr rfl hE
  · have h := (ite_inv h).2 c1
    refine r_aload_n C dX5_goesDeeper_6 0 rfl ?_
    refine r_iconst C dX5_goesDeeper_7 ic_4 ?_
    obtain ⟨u3, m4, e2, h⟩ := bnd2_inv h
    refine r_cVi (As := [.int 4]) (rest := []) C hR mlX5_65 dX5_goesDeeper_8 (tX5_blame hY n 4  e2) rfl rfl (ly13 hY) rfl (nle rfl) (nle rfl) (nle rfl) ?_
    obtain ⟨b5, h⟩ := gd_inv h
    obtain ⟨h1, h2⟩ := Prod.mk.inj (Option.some.inj h)
    subst h1; subst h2
    exact r_zret C dX5_goesDeeper_11 hr (isb_n b5) hE
def fX5_comparing (n : Nat) (x0 : Int32) (μ : Mu) : Option (Int32) := if x0 = 60 then (some 1015) else (if x0 = 61 then (some 1014) else (if x0 = 62 then (some 1016) else (some (-1))))
set_option maxRecDepth 100000 in
set_option maxHeartbeats 4000000 in
theorem tX5_comparing {l : Launch} {w : WP} {sh : List Sh} {R : Rf} {μ : Mu} {r : Int32} (hY : LY sh R) (n : Nat) (x0 : Int32)  (h : fX5_comparing n x0 μ = some r) : CM l w yX5_comparing cX5_comparing 1 (some .int) 0 0 0 sh R [.int x0] μ (some (.int r)) sh R μ := by
  refine CM.of (plainFor_of_name pf_X5) (Nat.le_of_ble_eq_true rfl) fun Z C hr _ hR hw hl hE => ?_
  subst hw; subst hl
  have C : CX Z cX5_comparing 1 RX5 := C
  show Wm Z (0, 0, sh, R) μ 0 [(0, .int x0)] []
  unfold fX5_comparing at h
  refine r_iload_n C dX5_comparing_0 0 rfl ?_
  by_cases c1 : x0 = 60
  · have h := (ite_inv h).1 c1
    refine r_tabIn 32 C dX5_comparing_1 (by rw [c1, ti_60]; decide) (by rw [c1, ti_60]; decide) (by rw [c1, ti_60]; rfl) (by decide) ?_
    refine r_sipush C dX5_comparing_32 sp_1015 ?_
    have h := Option.some.inj h
    subst h
    exact r_iret C dX5_comparing_35 hr hE
  have h := (ite_inv h).2 c1
  by_cases c2 : x0 = 61
  · have h := (ite_inv h).1 c2
    refine r_tabIn 28 C dX5_comparing_1 (by rw [c2, ti_61]; decide) (by rw [c2, ti_61]; decide) (by rw [c2, ti_61]; rfl) (by decide) ?_
    refine r_sipush C dX5_comparing_28 sp_1014 ?_
    have h := Option.some.inj h
    subst h
    exact r_iret C dX5_comparing_31 hr hE
  have h := (ite_inv h).2 c2
  by_cases c3 : x0 = 62
  · have h := (ite_inv h).1 c3
    refine r_tabIn 36 C dX5_comparing_1 (by rw [c3, ti_62]; decide) (by rw [c3, ti_62]; decide) (by rw [c3, ti_62]; rfl) (by decide) ?_
    refine r_sipush C dX5_comparing_36 sp_1016 ?_
    have h := Option.some.inj h
    subst h
    exact r_iret C dX5_comparing_39 hr hE
  have h := (ite_inv h).2 c3
  suffices hj : Wm Z (0, 0, sh, R) μ 40 [(0, .int x0)] [] by
    have q0 := tne c1 ti_60
    have q1 := tne c2 ti_61
    have q2 := tne c3 ti_62
    exact r_tabOut 40 C dX5_comparing_1 (by omega) (by decide) hj
  refine r_iconst C dX5_comparing_40 ic_m1 ?_
  have h := Option.some.inj h
  subst h
  exact r_iret C dX5_comparing_41 hr hE
def fX5_givenBy (n : Nat) (x1 : Int32) (μ : Mu) : Option (Int32) := if x1 = 202 then (if (rI μ 13 5) = 1 then (some 1004) else (some (-1))) else (if x1 = 211 then (some 1001) else (if x1 = 212 then (some 1000) else (if x1 = 216 then (if (rI μ 13 5) = 0 then (some 1002) else (some (-1))) else (if x1 = 217 then (if (rI μ 13 5) = 1 then (some 1002) else (some (-1))) else (if x1 = 218 then (if (rI μ 13 5) = 1 then (some 1003) else (some (-1))) else (if x1 = 219 then (if (rI μ 13 5) = 2 then (some 1002) else (some (-1))) else (if x1 = 220 then (if (rI μ 13 5) = 2 then (some 1003) else (some (-1))) else (if x1 = 221 then (if (rI μ 13 5) = 2 then (some 1004) else (some (-1))) else (some (-1))))))))))
set_option maxRecDepth 100000 in
set_option maxHeartbeats 4000000 in
theorem tX5_givenBy {l : Launch} {w : WP} {sh : List Sh} {R : Rf} {μ : Mu} {r : Int32} (hY : LY sh R) (n : Nat) (x1 : Int32)  (h : fX5_givenBy n x1 μ = some r) : CM l w yX5_givenBy cX5_givenBy 2 (some .int) 0 0 0 sh R [.ref (wb w + 13), .int x1] μ (some (.int r)) sh R μ := by
  refine CM.of (plainFor_of_name pf_X5) (Nat.le_of_ble_eq_true rfl) fun Z C hr _ hR hw hl hE => ?_
  subst hw; subst hl
  have C : CX Z cX5_givenBy 2 RX5 := C
  show Wm Z (0, 0, sh, R) μ 0 [(0, .ref (wb (zw Z) + 13)), (1, .int x1)] []
  unfold fX5_givenBy at h
  refine r_iload_n C dX5_givenBy_0 1 rfl ?_
  by_cases c1 : x1 = 202
  · have h := (ite_inv h).1 c1
    refine r_tabIn 151 C dX5_givenBy_1 (by rw [c1, ti_202]; decide) (by rw [c1, ti_202]; decide) (by rw [c1, ti_202]; rfl) (by decide) ?_
    refine r_aload_n C dX5_givenBy_151 0 rfl ?_
    refine r_getI C flX5_132 dX5_givenBy_152 (ly13 hY) rfl ?_
    refine r_iconst C dX5_givenBy_155 ic_1 ?_
    refine r_icmp_ne 165 C dX5_givenBy_156 (by decide) (fun c2 => ?_) (fun c2 => ?_)
    · have h := (ite_inv h).2 c2
      refine r_iconst C dX5_givenBy_165 ic_m1 ?_
      have h := Option.some.inj h
      subst h
      exact r_iret C dX5_givenBy_166 hr hE
    · have h := (ite_inv h).1 c2
      refine r_sipush C dX5_givenBy_159 sp_1004 ?_
      refine r_goto 166 C dX5_givenBy_162 (by decide) ?_
      have h := Option.some.inj h
      subst h
      exact r_iret C dX5_givenBy_166 hr hE
  have h := (ite_inv h).2 c1
  by_cases c3 : x1 = 211
  · have h := (ite_inv h).1 c3
    refine r_tabIn 100 C dX5_givenBy_1 (by rw [c3, ti_211]; decide) (by rw [c3, ti_211]; decide) (by rw [c3, ti_211]; rfl) (by decide) ?_
    refine r_sipush C dX5_givenBy_100 sp_1001 ?_
    have h := Option.some.inj h
    subst h
    exact r_iret C dX5_givenBy_103 hr hE
  have h := (ite_inv h).2 c3
  by_cases c4 : x1 = 212
  · have h := (ite_inv h).1 c4
    refine r_tabIn 96 C dX5_givenBy_1 (by rw [c4, ti_212]; decide) (by rw [c4, ti_212]; decide) (by rw [c4, ti_212]; rfl) (by decide) ?_
    refine r_sipush C dX5_givenBy_96 sp_1000 ?_
    have h := Option.some.inj h
    subst h
    exact r_iret C dX5_givenBy_99 hr hE
  have h := (ite_inv h).2 c4
  by_cases c5 : x1 = 216
  · have h := (ite_inv h).1 c5
    refine r_tabIn 104 C dX5_givenBy_1 (by rw [c5, ti_216]; decide) (by rw [c5, ti_216]; decide) (by rw [c5, ti_216]; rfl) (by decide) ?_
    refine r_aload_n C dX5_givenBy_104 0 rfl ?_
    refine r_getI C flX5_132 dX5_givenBy_105 (ly13 hY) rfl ?_
    refine r_if_ne 117 C dX5_givenBy_108 (by decide) (fun c6 => ?_) (fun c6 => ?_)
    · have h := (ite_inv h).2 c6
      refine r_iconst C dX5_givenBy_117 ic_m1 ?_
      have h := Option.some.inj h
      subst h
      exact r_iret C dX5_givenBy_118 hr hE
    · have h := (ite_inv h).1 c6
      refine r_sipush C dX5_givenBy_111 sp_1002 ?_
      refine r_goto 118 C dX5_givenBy_114 (by decide) ?_
      have h := Option.some.inj h
      subst h
      exact r_iret C dX5_givenBy_118 hr hE
  have h := (ite_inv h).2 c5
  by_cases c7 : x1 = 217
  · have h := (ite_inv h).1 c7
    refine r_tabIn 119 C dX5_givenBy_1 (by rw [c7, ti_217]; decide) (by rw [c7, ti_217]; decide) (by rw [c7, ti_217]; rfl) (by decide) ?_
    refine r_aload_n C dX5_givenBy_119 0 rfl ?_
    refine r_getI C flX5_132 dX5_givenBy_120 (ly13 hY) rfl ?_
    refine r_iconst C dX5_givenBy_123 ic_1 ?_
    refine r_icmp_ne 133 C dX5_givenBy_124 (by decide) (fun c8 => ?_) (fun c8 => ?_)
    · have h := (ite_inv h).2 c8
      refine r_iconst C dX5_givenBy_133 ic_m1 ?_
      have h := Option.some.inj h
      subst h
      exact r_iret C dX5_givenBy_134 hr hE
    · have h := (ite_inv h).1 c8
      refine r_sipush C dX5_givenBy_127 sp_1002 ?_
      refine r_goto 134 C dX5_givenBy_130 (by decide) ?_
      have h := Option.some.inj h
      subst h
      exact r_iret C dX5_givenBy_134 hr hE
  have h := (ite_inv h).2 c7
  by_cases c9 : x1 = 218
  · have h := (ite_inv h).1 c9
    refine r_tabIn 135 C dX5_givenBy_1 (by rw [c9, ti_218]; decide) (by rw [c9, ti_218]; decide) (by rw [c9, ti_218]; rfl) (by decide) ?_
    refine r_aload_n C dX5_givenBy_135 0 rfl ?_
    refine r_getI C flX5_132 dX5_givenBy_136 (ly13 hY) rfl ?_
    refine r_iconst C dX5_givenBy_139 ic_1 ?_
    refine r_icmp_ne 149 C dX5_givenBy_140 (by decide) (fun c10 => ?_) (fun c10 => ?_)
    · have h := (ite_inv h).2 c10
      refine r_iconst C dX5_givenBy_149 ic_m1 ?_
      have h := Option.some.inj h
      subst h
      exact r_iret C dX5_givenBy_150 hr hE
    · have h := (ite_inv h).1 c10
      refine r_sipush C dX5_givenBy_143 sp_1003 ?_
      refine r_goto 150 C dX5_givenBy_146 (by decide) ?_
      have h := Option.some.inj h
      subst h
      exact r_iret C dX5_givenBy_150 hr hE
  have h := (ite_inv h).2 c9
  by_cases c11 : x1 = 219
  · have h := (ite_inv h).1 c11
    refine r_tabIn 167 C dX5_givenBy_1 (by rw [c11, ti_219]; decide) (by rw [c11, ti_219]; decide) (by rw [c11, ti_219]; rfl) (by decide) ?_
    refine r_aload_n C dX5_givenBy_167 0 rfl ?_
    refine r_getI C flX5_132 dX5_givenBy_168 (ly13 hY) rfl ?_
    refine r_iconst C dX5_givenBy_171 ic_2 ?_
    refine r_icmp_ne 181 C dX5_givenBy_172 (by decide) (fun c12 => ?_) (fun c12 => ?_)
    · have h := (ite_inv h).2 c12
      refine r_iconst C dX5_givenBy_181 ic_m1 ?_
      have h := Option.some.inj h
      subst h
      exact r_iret C dX5_givenBy_182 hr hE
    · have h := (ite_inv h).1 c12
      refine r_sipush C dX5_givenBy_175 sp_1002 ?_
      refine r_goto 182 C dX5_givenBy_178 (by decide) ?_
      have h := Option.some.inj h
      subst h
      exact r_iret C dX5_givenBy_182 hr hE
  have h := (ite_inv h).2 c11
  by_cases c13 : x1 = 220
  · have h := (ite_inv h).1 c13
    refine r_tabIn 183 C dX5_givenBy_1 (by rw [c13, ti_220]; decide) (by rw [c13, ti_220]; decide) (by rw [c13, ti_220]; rfl) (by decide) ?_
    refine r_aload_n C dX5_givenBy_183 0 rfl ?_
    refine r_getI C flX5_132 dX5_givenBy_184 (ly13 hY) rfl ?_
    refine r_iconst C dX5_givenBy_187 ic_2 ?_
    refine r_icmp_ne 197 C dX5_givenBy_188 (by decide) (fun c14 => ?_) (fun c14 => ?_)
    · have h := (ite_inv h).2 c14
      refine r_iconst C dX5_givenBy_197 ic_m1 ?_
      have h := Option.some.inj h
      subst h
      exact r_iret C dX5_givenBy_198 hr hE
    · have h := (ite_inv h).1 c14
      refine r_sipush C dX5_givenBy_191 sp_1003 ?_
      refine r_goto 198 C dX5_givenBy_194 (by decide) ?_
      have h := Option.some.inj h
      subst h
      exact r_iret C dX5_givenBy_198 hr hE
  have h := (ite_inv h).2 c13
  by_cases c15 : x1 = 221
  · have h := (ite_inv h).1 c15
    refine r_tabIn 199 C dX5_givenBy_1 (by rw [c15, ti_221]; decide) (by rw [c15, ti_221]; decide) (by rw [c15, ti_221]; rfl) (by decide) ?_
    refine r_aload_n C dX5_givenBy_199 0 rfl ?_
    refine r_getI C flX5_132 dX5_givenBy_200 (ly13 hY) rfl ?_
    refine r_iconst C dX5_givenBy_203 ic_2 ?_
    refine r_icmp_ne 213 C dX5_givenBy_204 (by decide) (fun c16 => ?_) (fun c16 => ?_)
    · have h := (ite_inv h).2 c16
      refine r_iconst C dX5_givenBy_213 ic_m1 ?_
      have h := Option.some.inj h
      subst h
      exact r_iret C dX5_givenBy_214 hr hE
    · have h := (ite_inv h).1 c16
      refine r_sipush C dX5_givenBy_207 sp_1004 ?_
      refine r_goto 214 C dX5_givenBy_210 (by decide) ?_
      have h := Option.some.inj h
      subst h
      exact r_iret C dX5_givenBy_214 hr hE
  have h := (ite_inv h).2 c15
  suffices hj : Wm Z (0, 0, sh, R) μ 215 [(0, .ref (wb (zw Z) + 13)), (1, .int x1)] [] by
    by_cases c17 : x1 = 203
    · exact r_tabIn 215 C dX5_givenBy_1 (by rw [c17, ti_203]; decide) (by rw [c17, ti_203]; decide) (by rw [c17, ti_203]; rfl) (by decide) hj
    by_cases c18 : x1 = 204
    · exact r_tabIn 215 C dX5_givenBy_1 (by rw [c18, ti_204]; decide) (by rw [c18, ti_204]; decide) (by rw [c18, ti_204]; rfl) (by decide) hj
    by_cases c19 : x1 = 205
    · exact r_tabIn 215 C dX5_givenBy_1 (by rw [c19, ti_205]; decide) (by rw [c19, ti_205]; decide) (by rw [c19, ti_205]; rfl) (by decide) hj
    by_cases c20 : x1 = 206
    · exact r_tabIn 215 C dX5_givenBy_1 (by rw [c20, ti_206]; decide) (by rw [c20, ti_206]; decide) (by rw [c20, ti_206]; rfl) (by decide) hj
    by_cases c21 : x1 = 207
    · exact r_tabIn 215 C dX5_givenBy_1 (by rw [c21, ti_207]; decide) (by rw [c21, ti_207]; decide) (by rw [c21, ti_207]; rfl) (by decide) hj
    by_cases c22 : x1 = 208
    · exact r_tabIn 215 C dX5_givenBy_1 (by rw [c22, ti_208]; decide) (by rw [c22, ti_208]; decide) (by rw [c22, ti_208]; rfl) (by decide) hj
    by_cases c23 : x1 = 209
    · exact r_tabIn 215 C dX5_givenBy_1 (by rw [c23, ti_209]; decide) (by rw [c23, ti_209]; decide) (by rw [c23, ti_209]; rfl) (by decide) hj
    by_cases c24 : x1 = 210
    · exact r_tabIn 215 C dX5_givenBy_1 (by rw [c24, ti_210]; decide) (by rw [c24, ti_210]; decide) (by rw [c24, ti_210]; rfl) (by decide) hj
    by_cases c25 : x1 = 213
    · exact r_tabIn 215 C dX5_givenBy_1 (by rw [c25, ti_213]; decide) (by rw [c25, ti_213]; decide) (by rw [c25, ti_213]; rfl) (by decide) hj
    by_cases c26 : x1 = 214
    · exact r_tabIn 215 C dX5_givenBy_1 (by rw [c26, ti_214]; decide) (by rw [c26, ti_214]; decide) (by rw [c26, ti_214]; rfl) (by decide) hj
    by_cases c27 : x1 = 215
    · exact r_tabIn 215 C dX5_givenBy_1 (by rw [c27, ti_215]; decide) (by rw [c27, ti_215]; decide) (by rw [c27, ti_215]; rfl) (by decide) hj
    have q0 := tne c1 ti_202
    have q1 := tne c3 ti_211
    have q2 := tne c4 ti_212
    have q3 := tne c5 ti_216
    have q4 := tne c7 ti_217
    have q5 := tne c9 ti_218
    have q6 := tne c11 ti_219
    have q7 := tne c13 ti_220
    have q8 := tne c15 ti_221
    have q9 := tne c17 ti_203
    have q10 := tne c18 ti_204
    have q11 := tne c19 ti_205
    have q12 := tne c20 ti_206
    have q13 := tne c21 ti_207
    have q14 := tne c22 ti_208
    have q15 := tne c23 ti_209
    have q16 := tne c24 ti_210
    have q17 := tne c25 ti_213
    have q18 := tne c26 ti_214
    have q19 := tne c27 ti_215
    exact r_tabOut 215 C dX5_givenBy_1 (by omega) (by decide) hj
  refine r_iconst C dX5_givenBy_215 ic_m1 ?_
  have h := Option.some.inj h
  subst h
  exact r_iret C dX5_givenBy_216 hr hE
def sX5_truth_12 (n : Nat) (F : Nat → Int32 → Mu → Option (Int32 × Mu)) (x1 : Int32) : Int32 × Mu → Option ((Int32 × Mu) ⊕ ((Mu) ⊕ (Mu))) := fun q => match q with | (x2, μ) => if 900 ≤ x2 then (some (.inr (.inr μ))) else (bnd (fX5_kind n μ) fun u7 => if u7 = 213 then (bnd2 (F 1 x1 (wI μ 13 4 ((rI μ 13 4) + 1))) fun u11 m10 => if u11 = 0 then (some (.inr (.inl m10))) else (bnd (fX3_add n 21 (rI m10 13 5) 1018 m10) fun m14 => some (.inl (x2 + 1, m14)))) else (some (.inr (.inr μ))))
set_option maxRecDepth 100000 in
set_option maxHeartbeats 4000000 in
theorem lX5_truth_12 {Z : ZC} {sh : List Sh} {R : Rf} {D : Nat} {o : (Int32 × Mu) ⊕ ((Mu) ⊕ (Mu))} (C : CX Z cX5_truth 3 RX5) (hR : zR Z = rm (D + 1) 0 0) (hY : LY sh R) (n : Nat) (F : Nat → Int32 → Mu → Option (Int32 × Mu)) (hD : 3 ≤ D) (hF0 : ∀ (x1 : Int32) (μ : Mu) (r : Int32) (μ' : Mu), F 0 x1 μ = some (r, μ') → CM Z.1.2.1 (zw Z) yX5_truth cX5_truth 3 (some .boolean) D 0 0 sh R [.ref (wb (zw Z) + 13), .int x1] μ (some (.int r)) sh R μ') (hF1 : ∀ (x1 : Int32) (μ : Mu) (r : Int32) (μ' : Mu), F 1 x1 μ = some (r, μ') → CM Z.1.2.1 (zw Z) yX5_both cX5_both 3 (some .boolean) D 0 0 sh R [.ref (wb (zw Z) + 13), .int x1] μ (some (.int r)) sh R μ') (hF2 : ∀ (x1 : Int32) (μ : Mu) (r : Int32) (μ' : Mu), F 2 x1 μ = some (r, μ') → CM Z.1.2.1 (zw Z) yX5_unit cX5_unit 3 (some .boolean) D 0 0 sh R [.ref (wb (zw Z) + 13), .int x1] μ (some (.int r)) sh R μ') (hF3 : ∀ (x1 : Int32) (μ : Mu) (r : Int32) (μ' : Mu), F 3 x1 μ = some (r, μ') → CM Z.1.2.1 (zw Z) yX5_sum cX5_sum 4 (some .boolean) D 0 0 sh R [.ref (wb (zw Z) + 13), .int x1] μ (some (.int r)) sh R μ') (hF4 : ∀ (x1 : Int32) (μ : Mu) (r : Int32) (μ' : Mu), F 4 x1 μ = some (r, μ') → CM Z.1.2.1 (zw Z) yX5_term cX5_term 3 (some .boolean) D 0 0 sh R [.ref (wb (zw Z) + 13), .int x1] μ (some (.int r)) sh R μ') (hF5 : ∀ (x1 : Int32) (μ : Mu) (r : Int32) (μ' : Mu), F 5 x1 μ = some (r, μ') → CM Z.1.2.1 (zw Z) yX5_atom cX5_atom 3 (some .boolean) D 0 0 sh R [.ref (wb (zw Z) + 13), .int x1] μ (some (.int r)) sh R μ') (x1 : Int32) (x2 : Int32) (μ : Mu) (h : sX5_truth_12 n F x1 (x2, μ) = some o) (kin : ∀ (x2 : Int32) (μ : Mu), o = .inl (x2, μ) → Wm Z (0, 0, sh, R) μ 12 [(0, .ref (wb (zw Z) + 13)), (1, .int x1), (2, .int x2)] []) (kex0 : ∀ (μ : Mu), o = .inr (.inl μ) → Wm Z (0, 0, sh, R) μ 47 [] []) (kex1 : ∀ (μ : Mu), o = .inr (.inr μ) → Wm Z (0, 0, sh, R) μ 72 [] []) : Wm Z (0, 0, sh, R) μ 12 [(0, .ref (wb (zw Z) + 13)), (1, .int x1), (2, .int x2)] [] := by
  unfold sX5_truth_12 at h
  refine r_iload_n C dX5_truth_12 2 rfl ?_
  refine r_sipush C dX5_truth_13 sp_900 ?_
  refine r_icmp_ge 72 C dX5_truth_16 (by decide) (fun c5 => ?_) (fun c5 => ?_)
  · have h := (ite_inv h).1 c5
    refine r_sub [] [] rfl ?_
    exact kex1 μ (Option.some.inj h).symm
  · have h := (ite_inv h).2 c5
    refine r_aload_n C dX5_truth_19 0 rfl ?_
    obtain ⟨u7, e6, h⟩ := bnd_inv h
    refine r_cVi (As := []) (rest := []) C hR mlX5_46 dX5_truth_20 (tX5_kind hY n  e6) rfl rfl (ly13 hY) rfl (by omega) (nle rfl) (nle rfl) ?_
    refine r_sipush C dX5_truth_23 sp_213 ?_
    refine r_icmp_ne 72 C dX5_truth_26 (by decide) (fun c8 => ?_) (fun c8 => ?_)
    · have h := (ite_inv h).2 c8
      refine r_sub [] [] rfl ?_
      exact kex1 μ (Option.some.inj h).symm
    · have h := (ite_inv h).1 c8
      refine r_aload_n C dX5_truth_29 0 rfl ?_
      refine r_dup C dX5_truth_30 rfl ?_
      refine r_getI C flX5_32 dX5_truth_31 (ly13 hY) rfl ?_
      refine r_iconst C dX5_truth_34 ic_1 ?_
      refine r_iadd C dX5_truth_35 ?_
      refine r_putI C fiX5_32 dX5_truth_36 (ly13 hY) ?_
      refine r_aload_n C dX5_truth_39 0 rfl ?_
      refine r_iload_n C dX5_truth_40 1 rfl ?_
      obtain ⟨u11, m10, e9, h⟩ := bnd2_inv h
      refine r_cVi (As := [.int x1]) (rest := []) C hR mlX5_145 dX5_truth_41 (hF1 _ _ _ _ e9) rfl rfl (ly13 hY) rfl (by omega) (nle rfl) (nle rfl) ?_
      refine r_if_ne 49 C dX5_truth_44 (by decide) (fun c12 => ?_) (fun c12 => ?_)
      · have h := (ite_inv h).2 c12
        refine r_aload_n C dX5_truth_49 0 rfl ?_
        refine r_getR C flX5_12 dX5_truth_50 (ly13 hY) rfl (lr13_0 hY) ?_
        refine r_getR C flX5_135 dX5_truth_53 (isSea_0 (lyRSea hY)) rfl (isSea_r14 (lyRSea hY)) ?_
        refine r_aload_n C dX5_truth_56 0 rfl ?_
        refine r_getI C flX5_132 dX5_truth_57 (ly13 hY) rfl ?_
        refine r_sipush C dX5_truth_60 sp_1018 ?_
        obtain ⟨m14, e13, h⟩ := bnd_inv h
        refine r_cVv (As := [.int (rI m10 13 5), .int 1018]) (rest := []) C hR mlX5_148 dX5_truth_63 (tX3_add hY n 21 (rI m10 13 5) 1018 (isSea_law (lyRSea hY)) e13) rfl rfl (isLaw_0 (isSea_law (lyRSea hY))) rfl (by omega) (nle rfl) (nle rfl) ?_
        refine r_iinc [(2, .int (x2 + 1)), (0, .ref (wb (zw Z) + 13)), (1, .int x1)] C dX5_truth_66 2 rfl (in_1 _) (by decide) rfl ?_
        refine r_goto 12 C dX5_truth_69 (by decide) ?_
        refine r_sub [(0, .ref (wb (zw Z) + 13)), (1, .int x1), (2, .int (x2 + 1))] [1, 2, 0] rfl ?_
        exact kin (x2 + 1) m14 (Option.some.inj h).symm
      · have h := (ite_inv h).1 c12
        refine r_sub [] [] rfl ?_
        exact kex0 m10 (Option.some.inj h).symm
def bX5_truth (n : Nat) (F : Nat → Int32 → Mu → Option (Int32 × Mu)) (x1 : Int32) (μ : Mu) : Option (Int32 × Mu) := bnd2 (F 1 x1 μ) fun u3 m2 => if u3 = 0 then (some (0, m2)) else (bnd (lp n (sX5_truth_12 n F x1) (0, m2)) fun q => match q with | .inl m15 => (some (0, m15)) | .inr m16 => (some (1, m16)))
set_option maxRecDepth 100000 in
set_option maxHeartbeats 4000000 in
theorem qX5_truth {l : Launch} {w : WP} {sh : List Sh} {R : Rf} {μ : Mu} {r : Int32} {μ' : Mu} (hY : LY sh R) (n : Nat) (F : Nat → Int32 → Mu → Option (Int32 × Mu)) (x1 : Int32) (D : Nat) (hD : 3 ≤ D) (hF0 : ∀ (x1 : Int32) (μ : Mu) (r : Int32) (μ' : Mu), F 0 x1 μ = some (r, μ') → CM l w yX5_truth cX5_truth 3 (some .boolean) D 0 0 sh R [.ref (wb w + 13), .int x1] μ (some (.int r)) sh R μ') (hF1 : ∀ (x1 : Int32) (μ : Mu) (r : Int32) (μ' : Mu), F 1 x1 μ = some (r, μ') → CM l w yX5_both cX5_both 3 (some .boolean) D 0 0 sh R [.ref (wb w + 13), .int x1] μ (some (.int r)) sh R μ') (hF2 : ∀ (x1 : Int32) (μ : Mu) (r : Int32) (μ' : Mu), F 2 x1 μ = some (r, μ') → CM l w yX5_unit cX5_unit 3 (some .boolean) D 0 0 sh R [.ref (wb w + 13), .int x1] μ (some (.int r)) sh R μ') (hF3 : ∀ (x1 : Int32) (μ : Mu) (r : Int32) (μ' : Mu), F 3 x1 μ = some (r, μ') → CM l w yX5_sum cX5_sum 4 (some .boolean) D 0 0 sh R [.ref (wb w + 13), .int x1] μ (some (.int r)) sh R μ') (hF4 : ∀ (x1 : Int32) (μ : Mu) (r : Int32) (μ' : Mu), F 4 x1 μ = some (r, μ') → CM l w yX5_term cX5_term 3 (some .boolean) D 0 0 sh R [.ref (wb w + 13), .int x1] μ (some (.int r)) sh R μ') (hF5 : ∀ (x1 : Int32) (μ : Mu) (r : Int32) (μ' : Mu), F 5 x1 μ = some (r, μ') → CM l w yX5_atom cX5_atom 3 (some .boolean) D 0 0 sh R [.ref (wb w + 13), .int x1] μ (some (.int r)) sh R μ') (h : bX5_truth n F x1 μ = some (r, μ')) : CM l w yX5_truth cX5_truth 3 (some .boolean) (D + 1) 0 0 sh R [.ref (wb w + 13), .int x1] μ (some (.int r)) sh R μ' := by
  refine CM.of (plainFor_of_name pf_X5) (Nat.le_of_ble_eq_true rfl) fun Z C hr _ hR hw hl hE => ?_
  subst hw; subst hl
  have C : CX Z cX5_truth 3 RX5 := C
  show Wm Z (0, 0, sh, R) μ 0 [(0, .ref (wb (zw Z) + 13)), (1, .int x1)] []
  unfold bX5_truth at h
  refine r_aload_n C dX5_truth_0 0 rfl ?_
  refine r_iload_n C dX5_truth_1 1 rfl ?_
  obtain ⟨u3, m2, e1, h⟩ := bnd2_inv h
  refine r_cVi (As := [.int x1]) (rest := []) C hR mlX5_145 dX5_truth_2 (hF1 _ _ _ _ e1) rfl rfl (ly13 hY) rfl (by omega) (nle rfl) (nle rfl) ?_
  refine r_if_ne 10 C dX5_truth_5 (by decide) (fun c4 => ?_) (fun c4 => ?_)
  · have h := (ite_inv h).2 c4
    refine r_iconst C dX5_truth_10 ic_0 ?_
    refine r_istore_n [(2, .int 0), (0, .ref (wb (zw Z) + 13)), (1, .int x1)] C dX5_truth_11 rfl (by decide) rfl ?_
    refine r_sub [(0, .ref (wb (zw Z) + 13)), (1, .int x1), (2, .int 0)] [1, 2, 0] rfl ?_
    obtain ⟨q18, e17, h⟩ := bnd_inv h
    refine lp_all (sX5_truth_12 n F x1) (fun q => match q with | (z2, ν) => Wm Z (0, 0, sh, R) (ν) 12 [(0, .ref (wb (zw Z) + 13)), (1, .int x1), (2, .int z2)] []) (fun q => match q with | .inl (ν) => Wm Z (0, 0, sh, R) (ν) 47 [] [] | .inr (ν) => Wm Z (0, 0, sh, R) (ν) 72 [] []) (fun q o h kin kex => ?_) n (0, m2) q18 e17 ?_
    · obtain ⟨z2, ν⟩ := q; exact lX5_truth_12 C hR hY n F hD hF0 hF1 hF2 hF3 hF4 hF5 x1 z2 ν h (fun z2 ν e => kin (z2, ν) e) (fun ν e => kex (.inl (ν)) e) (fun ν e => kex (.inr (ν)) e)
    rcases q18 with m15 | m16
    · show Wm Z (0, 0, sh, R) m15 47 [] []
      refine r_iconst C dX5_truth_47 ic_0 ?_
      obtain ⟨h1, h2⟩ := Prod.mk.inj (Option.some.inj h)
      subst h1; subst h2
      exact r_zret C dX5_truth_48 hr rfl hE
    · show Wm Z (0, 0, sh, R) m16 72 [] []
      refine r_iconst C dX5_truth_72 ic_1 ?_
      obtain ⟨h1, h2⟩ := Prod.mk.inj (Option.some.inj h)
      subst h1; subst h2
      exact r_zret C dX5_truth_73 hr rfl hE
  · have h := (ite_inv h).1 c4
    refine r_iconst C dX5_truth_8 ic_0 ?_
    obtain ⟨h1, h2⟩ := Prod.mk.inj (Option.some.inj h)
    subst h1; subst h2
    exact r_zret C dX5_truth_9 hr rfl hE
def sX5_both_12 (n : Nat) (F : Nat → Int32 → Mu → Option (Int32 × Mu)) (x1 : Int32) : Int32 × Mu → Option ((Int32 × Mu) ⊕ ((Mu) ⊕ (Mu))) := fun q => match q with | (x2, μ) => if 900 ≤ x2 then (some (.inr (.inr μ))) else (bnd (fX5_kind n μ) fun u7 => if u7 = 214 then (bnd2 (F 2 x1 (wI μ 13 4 ((rI μ 13 4) + 1))) fun u11 m10 => if u11 = 0 then (some (.inr (.inl m10))) else (bnd (fX3_add n 21 (rI m10 13 5) 1017 m10) fun m14 => some (.inl (x2 + 1, m14)))) else (some (.inr (.inr μ))))
set_option maxRecDepth 100000 in
set_option maxHeartbeats 4000000 in
theorem lX5_both_12 {Z : ZC} {sh : List Sh} {R : Rf} {D : Nat} {o : (Int32 × Mu) ⊕ ((Mu) ⊕ (Mu))} (C : CX Z cX5_both 3 RX5) (hR : zR Z = rm (D + 1) 0 0) (hY : LY sh R) (n : Nat) (F : Nat → Int32 → Mu → Option (Int32 × Mu)) (hD : 3 ≤ D) (hF0 : ∀ (x1 : Int32) (μ : Mu) (r : Int32) (μ' : Mu), F 0 x1 μ = some (r, μ') → CM Z.1.2.1 (zw Z) yX5_truth cX5_truth 3 (some .boolean) D 0 0 sh R [.ref (wb (zw Z) + 13), .int x1] μ (some (.int r)) sh R μ') (hF1 : ∀ (x1 : Int32) (μ : Mu) (r : Int32) (μ' : Mu), F 1 x1 μ = some (r, μ') → CM Z.1.2.1 (zw Z) yX5_both cX5_both 3 (some .boolean) D 0 0 sh R [.ref (wb (zw Z) + 13), .int x1] μ (some (.int r)) sh R μ') (hF2 : ∀ (x1 : Int32) (μ : Mu) (r : Int32) (μ' : Mu), F 2 x1 μ = some (r, μ') → CM Z.1.2.1 (zw Z) yX5_unit cX5_unit 3 (some .boolean) D 0 0 sh R [.ref (wb (zw Z) + 13), .int x1] μ (some (.int r)) sh R μ') (hF3 : ∀ (x1 : Int32) (μ : Mu) (r : Int32) (μ' : Mu), F 3 x1 μ = some (r, μ') → CM Z.1.2.1 (zw Z) yX5_sum cX5_sum 4 (some .boolean) D 0 0 sh R [.ref (wb (zw Z) + 13), .int x1] μ (some (.int r)) sh R μ') (hF4 : ∀ (x1 : Int32) (μ : Mu) (r : Int32) (μ' : Mu), F 4 x1 μ = some (r, μ') → CM Z.1.2.1 (zw Z) yX5_term cX5_term 3 (some .boolean) D 0 0 sh R [.ref (wb (zw Z) + 13), .int x1] μ (some (.int r)) sh R μ') (hF5 : ∀ (x1 : Int32) (μ : Mu) (r : Int32) (μ' : Mu), F 5 x1 μ = some (r, μ') → CM Z.1.2.1 (zw Z) yX5_atom cX5_atom 3 (some .boolean) D 0 0 sh R [.ref (wb (zw Z) + 13), .int x1] μ (some (.int r)) sh R μ') (x1 : Int32) (x2 : Int32) (μ : Mu) (h : sX5_both_12 n F x1 (x2, μ) = some o) (kin : ∀ (x2 : Int32) (μ : Mu), o = .inl (x2, μ) → Wm Z (0, 0, sh, R) μ 12 [(0, .ref (wb (zw Z) + 13)), (1, .int x1), (2, .int x2)] []) (kex0 : ∀ (μ : Mu), o = .inr (.inl μ) → Wm Z (0, 0, sh, R) μ 47 [] []) (kex1 : ∀ (μ : Mu), o = .inr (.inr μ) → Wm Z (0, 0, sh, R) μ 72 [] []) : Wm Z (0, 0, sh, R) μ 12 [(0, .ref (wb (zw Z) + 13)), (1, .int x1), (2, .int x2)] [] := by
  unfold sX5_both_12 at h
  refine r_iload_n C dX5_both_12 2 rfl ?_
  refine r_sipush C dX5_both_13 sp_900 ?_
  refine r_icmp_ge 72 C dX5_both_16 (by decide) (fun c5 => ?_) (fun c5 => ?_)
  · have h := (ite_inv h).1 c5
    refine r_sub [] [] rfl ?_
    exact kex1 μ (Option.some.inj h).symm
  · have h := (ite_inv h).2 c5
    refine r_aload_n C dX5_both_19 0 rfl ?_
    obtain ⟨u7, e6, h⟩ := bnd_inv h
    refine r_cVi (As := []) (rest := []) C hR mlX5_46 dX5_both_20 (tX5_kind hY n  e6) rfl rfl (ly13 hY) rfl (by omega) (nle rfl) (nle rfl) ?_
    refine r_sipush C dX5_both_23 sp_214 ?_
    refine r_icmp_ne 72 C dX5_both_26 (by decide) (fun c8 => ?_) (fun c8 => ?_)
    · have h := (ite_inv h).2 c8
      refine r_sub [] [] rfl ?_
      exact kex1 μ (Option.some.inj h).symm
    · have h := (ite_inv h).1 c8
      refine r_aload_n C dX5_both_29 0 rfl ?_
      refine r_dup C dX5_both_30 rfl ?_
      refine r_getI C flX5_32 dX5_both_31 (ly13 hY) rfl ?_
      refine r_iconst C dX5_both_34 ic_1 ?_
      refine r_iadd C dX5_both_35 ?_
      refine r_putI C fiX5_32 dX5_both_36 (ly13 hY) ?_
      refine r_aload_n C dX5_both_39 0 rfl ?_
      refine r_iload_n C dX5_both_40 1 rfl ?_
      obtain ⟨u11, m10, e9, h⟩ := bnd2_inv h
      refine r_cVi (As := [.int x1]) (rest := []) C hR mlX5_152 dX5_both_41 (hF2 _ _ _ _ e9) rfl rfl (ly13 hY) rfl (by omega) (nle rfl) (nle rfl) ?_
      refine r_if_ne 49 C dX5_both_44 (by decide) (fun c12 => ?_) (fun c12 => ?_)
      · have h := (ite_inv h).2 c12
        refine r_aload_n C dX5_both_49 0 rfl ?_
        refine r_getR C flX5_12 dX5_both_50 (ly13 hY) rfl (lr13_0 hY) ?_
        refine r_getR C flX5_135 dX5_both_53 (isSea_0 (lyRSea hY)) rfl (isSea_r14 (lyRSea hY)) ?_
        refine r_aload_n C dX5_both_56 0 rfl ?_
        refine r_getI C flX5_132 dX5_both_57 (ly13 hY) rfl ?_
        refine r_sipush C dX5_both_60 sp_1017 ?_
        obtain ⟨m14, e13, h⟩ := bnd_inv h
        refine r_cVv (As := [.int (rI m10 13 5), .int 1017]) (rest := []) C hR mlX5_148 dX5_both_63 (tX3_add hY n 21 (rI m10 13 5) 1017 (isSea_law (lyRSea hY)) e13) rfl rfl (isLaw_0 (isSea_law (lyRSea hY))) rfl (by omega) (nle rfl) (nle rfl) ?_
        refine r_iinc [(2, .int (x2 + 1)), (0, .ref (wb (zw Z) + 13)), (1, .int x1)] C dX5_both_66 2 rfl (in_1 _) (by decide) rfl ?_
        refine r_goto 12 C dX5_both_69 (by decide) ?_
        refine r_sub [(0, .ref (wb (zw Z) + 13)), (1, .int x1), (2, .int (x2 + 1))] [1, 2, 0] rfl ?_
        exact kin (x2 + 1) m14 (Option.some.inj h).symm
      · have h := (ite_inv h).1 c12
        refine r_sub [] [] rfl ?_
        exact kex0 m10 (Option.some.inj h).symm
def bX5_both (n : Nat) (F : Nat → Int32 → Mu → Option (Int32 × Mu)) (x1 : Int32) (μ : Mu) : Option (Int32 × Mu) := bnd2 (F 2 x1 μ) fun u3 m2 => if u3 = 0 then (some (0, m2)) else (bnd (lp n (sX5_both_12 n F x1) (0, m2)) fun q => match q with | .inl m15 => (some (0, m15)) | .inr m16 => (some (1, m16)))
set_option maxRecDepth 100000 in
set_option maxHeartbeats 4000000 in
theorem qX5_both {l : Launch} {w : WP} {sh : List Sh} {R : Rf} {μ : Mu} {r : Int32} {μ' : Mu} (hY : LY sh R) (n : Nat) (F : Nat → Int32 → Mu → Option (Int32 × Mu)) (x1 : Int32) (D : Nat) (hD : 3 ≤ D) (hF0 : ∀ (x1 : Int32) (μ : Mu) (r : Int32) (μ' : Mu), F 0 x1 μ = some (r, μ') → CM l w yX5_truth cX5_truth 3 (some .boolean) D 0 0 sh R [.ref (wb w + 13), .int x1] μ (some (.int r)) sh R μ') (hF1 : ∀ (x1 : Int32) (μ : Mu) (r : Int32) (μ' : Mu), F 1 x1 μ = some (r, μ') → CM l w yX5_both cX5_both 3 (some .boolean) D 0 0 sh R [.ref (wb w + 13), .int x1] μ (some (.int r)) sh R μ') (hF2 : ∀ (x1 : Int32) (μ : Mu) (r : Int32) (μ' : Mu), F 2 x1 μ = some (r, μ') → CM l w yX5_unit cX5_unit 3 (some .boolean) D 0 0 sh R [.ref (wb w + 13), .int x1] μ (some (.int r)) sh R μ') (hF3 : ∀ (x1 : Int32) (μ : Mu) (r : Int32) (μ' : Mu), F 3 x1 μ = some (r, μ') → CM l w yX5_sum cX5_sum 4 (some .boolean) D 0 0 sh R [.ref (wb w + 13), .int x1] μ (some (.int r)) sh R μ') (hF4 : ∀ (x1 : Int32) (μ : Mu) (r : Int32) (μ' : Mu), F 4 x1 μ = some (r, μ') → CM l w yX5_term cX5_term 3 (some .boolean) D 0 0 sh R [.ref (wb w + 13), .int x1] μ (some (.int r)) sh R μ') (hF5 : ∀ (x1 : Int32) (μ : Mu) (r : Int32) (μ' : Mu), F 5 x1 μ = some (r, μ') → CM l w yX5_atom cX5_atom 3 (some .boolean) D 0 0 sh R [.ref (wb w + 13), .int x1] μ (some (.int r)) sh R μ') (h : bX5_both n F x1 μ = some (r, μ')) : CM l w yX5_both cX5_both 3 (some .boolean) (D + 1) 0 0 sh R [.ref (wb w + 13), .int x1] μ (some (.int r)) sh R μ' := by
  refine CM.of (plainFor_of_name pf_X5) (Nat.le_of_ble_eq_true rfl) fun Z C hr _ hR hw hl hE => ?_
  subst hw; subst hl
  have C : CX Z cX5_both 3 RX5 := C
  show Wm Z (0, 0, sh, R) μ 0 [(0, .ref (wb (zw Z) + 13)), (1, .int x1)] []
  unfold bX5_both at h
  refine r_aload_n C dX5_both_0 0 rfl ?_
  refine r_iload_n C dX5_both_1 1 rfl ?_
  obtain ⟨u3, m2, e1, h⟩ := bnd2_inv h
  refine r_cVi (As := [.int x1]) (rest := []) C hR mlX5_152 dX5_both_2 (hF2 _ _ _ _ e1) rfl rfl (ly13 hY) rfl (by omega) (nle rfl) (nle rfl) ?_
  refine r_if_ne 10 C dX5_both_5 (by decide) (fun c4 => ?_) (fun c4 => ?_)
  · have h := (ite_inv h).2 c4
    refine r_iconst C dX5_both_10 ic_0 ?_
    refine r_istore_n [(2, .int 0), (0, .ref (wb (zw Z) + 13)), (1, .int x1)] C dX5_both_11 rfl (by decide) rfl ?_
    refine r_sub [(0, .ref (wb (zw Z) + 13)), (1, .int x1), (2, .int 0)] [1, 2, 0] rfl ?_
    obtain ⟨q18, e17, h⟩ := bnd_inv h
    refine lp_all (sX5_both_12 n F x1) (fun q => match q with | (z2, ν) => Wm Z (0, 0, sh, R) (ν) 12 [(0, .ref (wb (zw Z) + 13)), (1, .int x1), (2, .int z2)] []) (fun q => match q with | .inl (ν) => Wm Z (0, 0, sh, R) (ν) 47 [] [] | .inr (ν) => Wm Z (0, 0, sh, R) (ν) 72 [] []) (fun q o h kin kex => ?_) n (0, m2) q18 e17 ?_
    · obtain ⟨z2, ν⟩ := q; exact lX5_both_12 C hR hY n F hD hF0 hF1 hF2 hF3 hF4 hF5 x1 z2 ν h (fun z2 ν e => kin (z2, ν) e) (fun ν e => kex (.inl (ν)) e) (fun ν e => kex (.inr (ν)) e)
    rcases q18 with m15 | m16
    · show Wm Z (0, 0, sh, R) m15 47 [] []
      refine r_iconst C dX5_both_47 ic_0 ?_
      obtain ⟨h1, h2⟩ := Prod.mk.inj (Option.some.inj h)
      subst h1; subst h2
      exact r_zret C dX5_both_48 hr rfl hE
    · show Wm Z (0, 0, sh, R) m16 72 [] []
      refine r_iconst C dX5_both_72 ic_1 ?_
      obtain ⟨h1, h2⟩ := Prod.mk.inj (Option.some.inj h)
      subst h1; subst h2
      exact r_zret C dX5_both_73 hr rfl hE
  · have h := (ite_inv h).1 c4
    refine r_iconst C dX5_both_8 ic_0 ?_
    obtain ⟨h1, h2⟩ := Prod.mk.inj (Option.some.inj h)
    subst h1; subst h2
    exact r_zret C dX5_both_9 hr rfl hE
def bX5_unit (n : Nat) (F : Nat → Int32 → Mu → Option (Int32 × Mu)) (x1 : Int32) (μ : Mu) : Option (Int32 × Mu) := bnd (fX5_kind n μ) fun u2 => if u2 = 215 then (bnd2 (fX5_goesDeeper n x1 μ) fun u39 m40 => if u39 = 0 then (some (0, m40)) else (bnd2 (F 2 (x1 + 1) m40) fun u44 m43 => if u44 = 0 then (some (0, m43)) else (bnd (fX3_add n 21 (rI m43 13 5) 1010 m43) fun m47 => some (1, m47)))) else (bnd (fX5_kind n μ) fun u5 => if u5 = 91 then (bnd2 (fX5_goesDeeper n x1 μ) fun u27 m28 => if u27 = 0 then (some (0, m28)) else (bnd2 (F 0 (x1 + 1) m28) fun u32 m31 => if u32 = 0 then (some (0, m31)) else (bnd2 (fX5_accept n 93 m31) fun u35 m36 => if u35 = 0 then (some (0, m36)) else (some (1, m36))))) else (bnd2 (F 3 x1 μ) fun u9 m8 => if u9 = 0 then (some (0, m8)) else (bnd (fX5_kind n m8) fun u12 => bnd (fX5_comparing n u12 m8) fun u14 => if u14 = (-1) then (bnd2 (fX5_refuse n m8) fun u23 m24 => gd (isb u23) (some (u23, m24))) else (bnd2 (F 3 x1 (wI m8 13 4 ((rI m8 13 4) + 1))) fun u18 m17 => if u18 = 0 then (some (0, m17)) else (bnd (fX3_add n 21 (rI m17 13 5) u14 m17) fun m21 => some (1, m21))))))
set_option maxRecDepth 100000 in
set_option maxHeartbeats 4000000 in
theorem qX5_unit {l : Launch} {w : WP} {sh : List Sh} {R : Rf} {μ : Mu} {r : Int32} {μ' : Mu} (hY : LY sh R) (n : Nat) (F : Nat → Int32 → Mu → Option (Int32 × Mu)) (x1 : Int32) (D : Nat) (hD : 3 ≤ D) (hF0 : ∀ (x1 : Int32) (μ : Mu) (r : Int32) (μ' : Mu), F 0 x1 μ = some (r, μ') → CM l w yX5_truth cX5_truth 3 (some .boolean) D 0 0 sh R [.ref (wb w + 13), .int x1] μ (some (.int r)) sh R μ') (hF1 : ∀ (x1 : Int32) (μ : Mu) (r : Int32) (μ' : Mu), F 1 x1 μ = some (r, μ') → CM l w yX5_both cX5_both 3 (some .boolean) D 0 0 sh R [.ref (wb w + 13), .int x1] μ (some (.int r)) sh R μ') (hF2 : ∀ (x1 : Int32) (μ : Mu) (r : Int32) (μ' : Mu), F 2 x1 μ = some (r, μ') → CM l w yX5_unit cX5_unit 3 (some .boolean) D 0 0 sh R [.ref (wb w + 13), .int x1] μ (some (.int r)) sh R μ') (hF3 : ∀ (x1 : Int32) (μ : Mu) (r : Int32) (μ' : Mu), F 3 x1 μ = some (r, μ') → CM l w yX5_sum cX5_sum 4 (some .boolean) D 0 0 sh R [.ref (wb w + 13), .int x1] μ (some (.int r)) sh R μ') (hF4 : ∀ (x1 : Int32) (μ : Mu) (r : Int32) (μ' : Mu), F 4 x1 μ = some (r, μ') → CM l w yX5_term cX5_term 3 (some .boolean) D 0 0 sh R [.ref (wb w + 13), .int x1] μ (some (.int r)) sh R μ') (hF5 : ∀ (x1 : Int32) (μ : Mu) (r : Int32) (μ' : Mu), F 5 x1 μ = some (r, μ') → CM l w yX5_atom cX5_atom 3 (some .boolean) D 0 0 sh R [.ref (wb w + 13), .int x1] μ (some (.int r)) sh R μ') (h : bX5_unit n F x1 μ = some (r, μ')) : CM l w yX5_unit cX5_unit 3 (some .boolean) (D + 1) 0 0 sh R [.ref (wb w + 13), .int x1] μ (some (.int r)) sh R μ' := by
  refine CM.of (plainFor_of_name pf_X5) (Nat.le_of_ble_eq_true rfl) fun Z C hr _ hR hw hl hE => ?_
  subst hw; subst hl
  have C : CX Z cX5_unit 3 RX5 := C
  show Wm Z (0, 0, sh, R) μ 0 [(0, .ref (wb (zw Z) + 13)), (1, .int x1)] []
  unfold bX5_unit at h
  refine r_aload_n C dX5_unit_0 0 rfl ?_
  obtain ⟨u2, e1, h⟩ := bnd_inv h
  refine r_cVi (As := []) (rest := []) C hR mlX5_46 dX5_unit_1 (tX5_kind hY n  e1) rfl rfl (ly13 hY) rfl (by omega) (nle rfl) (nle rfl) ?_
  refine r_sipush C dX5_unit_4 sp_215 ?_
  refine r_icmp_ne 49 C dX5_unit_7 (by decide) (fun c3 => ?_) (fun c3 => ?_)
  · have h := (ite_inv h).2 c3
    refine r_aload_n C dX5_unit_49 0 rfl ?_
    obtain ⟨u5, e4, h⟩ := bnd_inv h
    refine r_cVi (As := []) (rest := []) C hR mlX5_46 dX5_unit_50 (tX5_kind hY n  e4) rfl rfl (ly13 hY) rfl (by omega) (nle rfl) (nle rfl) ?_
    refine r_bipush C dX5_unit_53 bp_91 ?_
    refine r_icmp_ne 91 C dX5_unit_55 (by decide) (fun c6 => ?_) (fun c6 => ?_)
    · have h := (ite_inv h).2 c6
      refine r_aload_n C dX5_unit_91 0 rfl ?_
      refine r_iload_n C dX5_unit_92 1 rfl ?_
      obtain ⟨u9, m8, e7, h⟩ := bnd2_inv h
      refine r_cVi (As := [.int x1]) (rest := []) C hR mlX5_90 dX5_unit_93 (hF3 _ _ _ _ e7) rfl rfl (ly13 hY) rfl (by omega) (nle rfl) (nle rfl) ?_
      refine r_if_ne 101 C dX5_unit_96 (by decide) (fun c10 => ?_) (fun c10 => ?_)
      · have h := (ite_inv h).2 c10
        refine r_aload_n C dX5_unit_101 0 rfl ?_
        obtain ⟨u12, e11, h⟩ := bnd_inv h
        refine r_cVi (As := []) (rest := []) C hR mlX5_46 dX5_unit_102 (tX5_kind hY n  e11) rfl rfl (ly13 hY) rfl (by omega) (nle rfl) (nle rfl) ?_
        obtain ⟨u14, e13, h⟩ := bnd_inv h
        refine r_cSi (As := [.int u12]) (rest := []) C hR mlX5_158 dX5_unit_105 (tX5_comparing hY n u12  e13) rfl rfl (by omega) (nle rfl) (nle rfl) ?_
        refine r_istore_n [(2, .int u14), (0, .ref (wb (zw Z) + 13)), (1, .int x1)] C dX5_unit_108 rfl (by decide) rfl ?_
        refine r_iload_n C dX5_unit_109 0 rfl ?_
        refine r_iconst C dX5_unit_110 ic_m1 ?_
        refine r_icmp_ne 119 C dX5_unit_111 (by decide) (fun c15 => ?_) (fun c15 => ?_)
        · have h := (ite_inv h).2 c15
          refine r_aload_n C dX5_unit_119 1 rfl ?_
          refine r_dup C dX5_unit_120 rfl ?_
          refine r_getI C flX5_32 dX5_unit_121 (ly13 hY) rfl ?_
          refine r_iconst C dX5_unit_124 ic_1 ?_
          refine r_iadd C dX5_unit_125 ?_
          refine r_putI C fiX5_32 dX5_unit_126 (ly13 hY) ?_
          refine r_aload_n C dX5_unit_129 1 rfl ?_
          refine r_iload_n C dX5_unit_130 2 rfl ?_
          obtain ⟨u18, m17, e16, h⟩ := bnd2_inv h
          refine r_cVi (As := [.int x1]) (rest := []) C hR mlX5_90 dX5_unit_131 (hF3 _ _ _ _ e16) rfl rfl (ly13 hY) rfl (by omega) (nle rfl) (nle rfl) ?_
          refine r_if_ne 139 C dX5_unit_134 (by decide) (fun c19 => ?_) (fun c19 => ?_)
          · have h := (ite_inv h).2 c19
            refine r_aload_n C dX5_unit_139 1 rfl ?_
            refine r_getR C flX5_12 dX5_unit_140 (ly13 hY) rfl (lr13_0 hY) ?_
            refine r_getR C flX5_135 dX5_unit_143 (isSea_0 (lyRSea hY)) rfl (isSea_r14 (lyRSea hY)) ?_
            refine r_aload_n C dX5_unit_146 1 rfl ?_
            refine r_getI C flX5_132 dX5_unit_147 (ly13 hY) rfl ?_
            refine r_iload_n C dX5_unit_150 0 rfl ?_
            obtain ⟨m21, e20, h⟩ := bnd_inv h
            refine r_cVv (As := [.int (rI m17 13 5), .int u14]) (rest := []) C hR mlX5_148 dX5_unit_151 (tX3_add hY n 21 (rI m17 13 5) u14 (isSea_law (lyRSea hY)) e20) rfl rfl (isLaw_0 (isSea_law (lyRSea hY))) rfl (by omega) (nle rfl) (nle rfl) ?_
            refine r_iconst C dX5_unit_154 ic_1 ?_
            obtain ⟨h1, h2⟩ := Prod.mk.inj (Option.some.inj h)
            subst h1; subst h2
            exact r_zret C dX5_unit_155 hr rfl hE
          · have h := (ite_inv h).1 c19
            refine r_iconst C dX5_unit_137 ic_0 ?_
            obtain ⟨h1, h2⟩ := Prod.mk.inj (Option.some.inj h)
            subst h1; subst h2
            exact r_zret C dX5_unit_138 hr rfl hE
        · have h := (ite_inv h).1 c15
          refine r_aload_n C dX5_unit_114 1 rfl ?_
          obtain ⟨u23, m24, e22, h⟩ := bnd2_inv h
          refine r_cVi (As := []) (rest := []) C hR mlX5_68 dX5_unit_115 (tX5_refuse hY n  e22) rfl rfl (ly13 hY) rfl (by omega) (nle rfl) (nle rfl) ?_
          obtain ⟨b25, h⟩ := gd_inv h
          obtain ⟨h1, h2⟩ := Prod.mk.inj (Option.some.inj h)
          subst h1; subst h2
          exact r_zret C dX5_unit_118 hr (isb_n b25) hE
      · have h := (ite_inv h).1 c10
        refine r_iconst C dX5_unit_99 ic_0 ?_
        obtain ⟨h1, h2⟩ := Prod.mk.inj (Option.some.inj h)
        subst h1; subst h2
        exact r_zret C dX5_unit_100 hr rfl hE
    · have h := (ite_inv h).1 c6
      refine r_aload_n C dX5_unit_58 0 rfl ?_
      refine r_iload_n C dX5_unit_59 1 rfl ?_
      obtain ⟨u27, m28, e26, h⟩ := bnd2_inv h
      refine r_cVi (As := [.int x1]) (rest := []) C hR mlX5_155 dX5_unit_60 (tX5_goesDeeper hY n x1  e26) rfl rfl (ly13 hY) rfl (by omega) (nle rfl) (nle rfl) ?_
      refine r_if_eq 89 C dX5_unit_63 (by decide) (fun c29 => ?_) (fun c29 => ?_)
      · have h := (ite_inv h).1 c29
        refine r_iconst C dX5_unit_89 ic_0 ?_
        obtain ⟨h1, h2⟩ := Prod.mk.inj (Option.some.inj h)
        subst h1; subst h2
        exact r_zret C dX5_unit_90 hr rfl hE
      · have h := (ite_inv h).2 c29
        refine r_aload_n C dX5_unit_66 0 rfl ?_
        refine r_iload_n C dX5_unit_67 1 rfl ?_
        refine r_iconst C dX5_unit_68 ic_1 ?_
        refine r_iadd C dX5_unit_69 ?_
        obtain ⟨u32, m31, e30, h⟩ := bnd2_inv h
        refine r_cVi (As := [.int (x1 + 1)]) (rest := []) C hR mlX5_93 dX5_unit_70 (hF0 _ _ _ _ e30) rfl rfl (ly13 hY) rfl (by omega) (nle rfl) (nle rfl) ?_
        refine r_if_eq 89 C dX5_unit_73 (by decide) (fun c33 => ?_) (fun c33 => ?_)
        · have h := (ite_inv h).1 c33
          refine r_iconst C dX5_unit_89 ic_0 ?_
          obtain ⟨h1, h2⟩ := Prod.mk.inj (Option.some.inj h)
          subst h1; subst h2
          exact r_zret C dX5_unit_90 hr rfl hE
        · have h := (ite_inv h).2 c33
          refine r_aload_n C dX5_unit_76 0 rfl ?_
          refine r_bipush C dX5_unit_77 bp_93 ?_
          obtain ⟨u35, m36, e34, h⟩ := bnd2_inv h
          refine r_cVi (As := [.int 93]) (rest := []) C hR mlX5_53 dX5_unit_79 (tX5_accept hY n 93  e34) rfl rfl (ly13 hY) rfl (by omega) (nle rfl) (nle rfl) ?_
          refine r_if_eq 89 C dX5_unit_82 (by decide) (fun c37 => ?_) (fun c37 => ?_)
          · have h := (ite_inv h).1 c37
            refine r_iconst C dX5_unit_89 ic_0 ?_
            obtain ⟨h1, h2⟩ := Prod.mk.inj (Option.some.inj h)
            subst h1; subst h2
            exact r_zret C dX5_unit_90 hr rfl hE
          · have h := (ite_inv h).2 c37
            refine r_iconst C dX5_unit_85 ic_1 ?_
            refine r_goto 90 C dX5_unit_86 (by decide) ?_
            obtain ⟨h1, h2⟩ := Prod.mk.inj (Option.some.inj h)
            subst h1; subst h2
            exact r_zret C dX5_unit_90 hr rfl hE
  · have h := (ite_inv h).1 c3
    refine r_aload_n C dX5_unit_10 0 rfl ?_
    refine r_iload_n C dX5_unit_11 1 rfl ?_
    obtain ⟨u39, m40, e38, h⟩ := bnd2_inv h
    refine r_cVi (As := [.int x1]) (rest := []) C hR mlX5_155 dX5_unit_12 (tX5_goesDeeper hY n x1  e38) rfl rfl (ly13 hY) rfl (by omega) (nle rfl) (nle rfl) ?_
    refine r_if_eq 28 C dX5_unit_15 (by decide) (fun c41 => ?_) (fun c41 => ?_)
    · have h := (ite_inv h).1 c41
      refine r_iconst C dX5_unit_28 ic_0 ?_
      obtain ⟨h1, h2⟩ := Prod.mk.inj (Option.some.inj h)
      subst h1; subst h2
      exact r_zret C dX5_unit_29 hr rfl hE
    · have h := (ite_inv h).2 c41
      refine r_aload_n C dX5_unit_18 0 rfl ?_
      refine r_iload_n C dX5_unit_19 1 rfl ?_
      refine r_iconst C dX5_unit_20 ic_1 ?_
      refine r_iadd C dX5_unit_21 ?_
      obtain ⟨u44, m43, e42, h⟩ := bnd2_inv h
      refine r_cVi (As := [.int (x1 + 1)]) (rest := []) C hR mlX5_152 dX5_unit_22 (hF2 _ _ _ _ e42) rfl rfl (ly13 hY) rfl (by omega) (nle rfl) (nle rfl) ?_
      refine r_if_ne 30 C dX5_unit_25 (by decide) (fun c45 => ?_) (fun c45 => ?_)
      · have h := (ite_inv h).2 c45
        refine r_aload_n C dX5_unit_30 0 rfl ?_
        refine r_getR C flX5_12 dX5_unit_31 (ly13 hY) rfl (lr13_0 hY) ?_
        refine r_getR C flX5_135 dX5_unit_34 (isSea_0 (lyRSea hY)) rfl (isSea_r14 (lyRSea hY)) ?_
        refine r_aload_n C dX5_unit_37 0 rfl ?_
        refine r_getI C flX5_132 dX5_unit_38 (ly13 hY) rfl ?_
        refine r_sipush C dX5_unit_41 sp_1010 ?_
        obtain ⟨m47, e46, h⟩ := bnd_inv h
        refine r_cVv (As := [.int (rI m43 13 5), .int 1010]) (rest := []) C hR mlX5_148 dX5_unit_44 (tX3_add hY n 21 (rI m43 13 5) 1010 (isSea_law (lyRSea hY)) e46) rfl rfl (isLaw_0 (isSea_law (lyRSea hY))) rfl (by omega) (nle rfl) (nle rfl) ?_
        refine r_iconst C dX5_unit_47 ic_1 ?_
        obtain ⟨h1, h2⟩ := Prod.mk.inj (Option.some.inj h)
        subst h1; subst h2
        exact r_zret C dX5_unit_48 hr rfl hE
      · have h := (ite_inv h).1 c45
        refine r_iconst C dX5_unit_28 ic_0 ?_
        obtain ⟨h1, h2⟩ := Prod.mk.inj (Option.some.inj h)
        subst h1; subst h2
        exact r_zret C dX5_unit_29 hr rfl hE
def jX5_sum_37 (n : Nat) (F : Nat → Int32 → Mu → Option (Int32 × Mu)) (x1 : Int32) (x2 : Int32) (μ : Mu) : Option ((Int32 × Mu) ⊕ ((Mu) ⊕ (Mu))) := bnd (fX5_kind n μ) fun u10 => bnd2 (F 4 x1 (wI μ 13 4 ((rI μ 13 4) + 1))) fun u14 m13 => if u14 = 0 then (some (.inr (.inl m13))) else (bnd (fX3_add n 21 (rI m13 13 5) (if u10 = 43 then 1011 else 1012 : Int32) m13) fun m17 => some (.inl (x2 + 1, m17)))
set_option maxRecDepth 100000 in
set_option maxHeartbeats 4000000 in
theorem kX5_sum_37 {Z : ZC} {sh : List Sh} {R : Rf} {D : Nat} {o : (Int32 × Mu) ⊕ ((Mu) ⊕ (Mu))} (C : CX Z cX5_sum 4 RX5) (hR : zR Z = rm (D + 1) 0 0) (hY : LY sh R) (n : Nat) (F : Nat → Int32 → Mu → Option (Int32 × Mu)) (hD : 3 ≤ D) (hF0 : ∀ (x1 : Int32) (μ : Mu) (r : Int32) (μ' : Mu), F 0 x1 μ = some (r, μ') → CM Z.1.2.1 (zw Z) yX5_truth cX5_truth 3 (some .boolean) D 0 0 sh R [.ref (wb (zw Z) + 13), .int x1] μ (some (.int r)) sh R μ') (hF1 : ∀ (x1 : Int32) (μ : Mu) (r : Int32) (μ' : Mu), F 1 x1 μ = some (r, μ') → CM Z.1.2.1 (zw Z) yX5_both cX5_both 3 (some .boolean) D 0 0 sh R [.ref (wb (zw Z) + 13), .int x1] μ (some (.int r)) sh R μ') (hF2 : ∀ (x1 : Int32) (μ : Mu) (r : Int32) (μ' : Mu), F 2 x1 μ = some (r, μ') → CM Z.1.2.1 (zw Z) yX5_unit cX5_unit 3 (some .boolean) D 0 0 sh R [.ref (wb (zw Z) + 13), .int x1] μ (some (.int r)) sh R μ') (hF3 : ∀ (x1 : Int32) (μ : Mu) (r : Int32) (μ' : Mu), F 3 x1 μ = some (r, μ') → CM Z.1.2.1 (zw Z) yX5_sum cX5_sum 4 (some .boolean) D 0 0 sh R [.ref (wb (zw Z) + 13), .int x1] μ (some (.int r)) sh R μ') (hF4 : ∀ (x1 : Int32) (μ : Mu) (r : Int32) (μ' : Mu), F 4 x1 μ = some (r, μ') → CM Z.1.2.1 (zw Z) yX5_term cX5_term 3 (some .boolean) D 0 0 sh R [.ref (wb (zw Z) + 13), .int x1] μ (some (.int r)) sh R μ') (hF5 : ∀ (x1 : Int32) (μ : Mu) (r : Int32) (μ' : Mu), F 5 x1 μ = some (r, μ') → CM Z.1.2.1 (zw Z) yX5_atom cX5_atom 3 (some .boolean) D 0 0 sh R [.ref (wb (zw Z) + 13), .int x1] μ (some (.int r)) sh R μ') (x1 : Int32) (x2 : Int32) (μ : Mu) (h : jX5_sum_37 n F x1 x2 μ = some o) (kin : ∀ (x2 : Int32) (μ : Mu), o = .inl (x2, μ) → Wm Z (0, 0, sh, R) μ 12 [(0, .ref (wb (zw Z) + 13)), (1, .int x1), (2, .int x2)] []) (kex0 : ∀ (μ : Mu), o = .inr (.inl μ) → Wm Z (0, 0, sh, R) μ 74 [] []) (kex1 : ∀ (μ : Mu), o = .inr (.inr μ) → Wm Z (0, 0, sh, R) μ 97 [] []) : Wm Z (0, 0, sh, R) μ 37 [(0, .ref (wb (zw Z) + 13)), (1, .int x1), (2, .int x2)] [] := by
  unfold jX5_sum_37 at h
  refine r_aload_n C dX5_sum_37 0 rfl ?_
  obtain ⟨u10, e9, h⟩ := bnd_inv h
  refine r_cVi (As := []) (rest := []) C hR mlX5_46 dX5_sum_38 (tX5_kind hY n  e9) rfl rfl (ly13 hY) rfl (by omega) (nle rfl) (nle rfl) ?_
  refine r_bipush C dX5_sum_41 bp_43 ?_
  suffices hj : Wm Z (0, 0, sh, R) μ 55 [(0, .ref (wb (zw Z) + 13)), (1, .int x1), (2, .int x2)] [.int (if u10 = 43 then 1011 else 1012 : Int32)] by
    refine r_icmp_ne 52 C dX5_sum_43 (by decide) (fun c11 => ?_) (fun c11 => ?_)
    · refine r_sipush C dX5_sum_52 sp_1012 ?_
      exact sel_f c11 hj
    · refine r_sipush C dX5_sum_46 sp_1011 ?_
      refine r_goto 55 C dX5_sum_49 (by decide) ?_
      exact sel_t c11 hj
  refine r_istore_n [(3, .int (if u10 = 43 then 1011 else 1012 : Int32)), (0, .ref (wb (zw Z) + 13)), (1, .int x1), (2, .int x2)] C dX5_sum_55 rfl (by decide) rfl ?_
  refine r_aload_n C dX5_sum_56 1 rfl ?_
  refine r_dup C dX5_sum_57 rfl ?_
  refine r_getI C flX5_32 dX5_sum_58 (ly13 hY) rfl ?_
  refine r_iconst C dX5_sum_61 ic_1 ?_
  refine r_iadd C dX5_sum_62 ?_
  refine r_putI C fiX5_32 dX5_sum_63 (ly13 hY) ?_
  refine r_aload_n C dX5_sum_66 1 rfl ?_
  refine r_iload_n C dX5_sum_67 2 rfl ?_
  obtain ⟨u14, m13, e12, h⟩ := bnd2_inv h
  refine r_cVi (As := [.int x1]) (rest := []) C hR mlX5_162 dX5_sum_68 (hF4 _ _ _ _ e12) rfl rfl (ly13 hY) rfl (by omega) (nle rfl) (nle rfl) ?_
  refine r_if_ne 76 C dX5_sum_71 (by decide) (fun c15 => ?_) (fun c15 => ?_)
  · have h := (ite_inv h).2 c15
    refine r_aload_n C dX5_sum_76 1 rfl ?_
    refine r_getR C flX5_12 dX5_sum_77 (ly13 hY) rfl (lr13_0 hY) ?_
    refine r_getR C flX5_135 dX5_sum_80 (isSea_0 (lyRSea hY)) rfl (isSea_r14 (lyRSea hY)) ?_
    refine r_aload_n C dX5_sum_83 1 rfl ?_
    refine r_getI C flX5_132 dX5_sum_84 (ly13 hY) rfl ?_
    refine r_iload_n C dX5_sum_87 0 rfl ?_
    obtain ⟨m17, e16, h⟩ := bnd_inv h
    refine r_cVv (As := [.int (rI m13 13 5), .int (if u10 = 43 then 1011 else 1012 : Int32)]) (rest := []) C hR mlX5_148 dX5_sum_88 (tX3_add hY n 21 (rI m13 13 5) (if u10 = 43 then 1011 else 1012 : Int32) (isSea_law (lyRSea hY)) e16) rfl rfl (isLaw_0 (isSea_law (lyRSea hY))) rfl (by omega) (nle rfl) (nle rfl) ?_
    refine r_iinc [(2, .int (x2 + 1)), (3, .int (if u10 = 43 then 1011 else 1012 : Int32)), (0, .ref (wb (zw Z) + 13)), (1, .int x1)] C dX5_sum_91 3 rfl (in_1 _) (by decide) rfl ?_
    refine r_goto 12 C dX5_sum_94 (by decide) ?_
    refine r_sub [(0, .ref (wb (zw Z) + 13)), (1, .int x1), (2, .int (x2 + 1))] [2, 3, 0] rfl ?_
    exact kin (x2 + 1) m17 (Option.some.inj h).symm
  · have h := (ite_inv h).1 c15
    refine r_sub [] [] rfl ?_
    exact kex0 m13 (Option.some.inj h).symm
def sX5_sum_12 (n : Nat) (F : Nat → Int32 → Mu → Option (Int32 × Mu)) (x1 : Int32) : Int32 × Mu → Option ((Int32 × Mu) ⊕ ((Mu) ⊕ (Mu))) := fun q => match q with | (x2, μ) => if 900 ≤ x2 then (some (.inr (.inr μ))) else (bnd (fX5_kind n μ) fun u7 => if u7 = 43 then (jX5_sum_37 n F x1 x2 μ) else (bnd (fX5_kind n μ) fun u19 => if u19 = 45 then (jX5_sum_37 n F x1 x2 μ) else (some (.inr (.inr μ)))))
set_option maxRecDepth 100000 in
set_option maxHeartbeats 4000000 in
theorem lX5_sum_12 {Z : ZC} {sh : List Sh} {R : Rf} {D : Nat} {o : (Int32 × Mu) ⊕ ((Mu) ⊕ (Mu))} (C : CX Z cX5_sum 4 RX5) (hR : zR Z = rm (D + 1) 0 0) (hY : LY sh R) (n : Nat) (F : Nat → Int32 → Mu → Option (Int32 × Mu)) (hD : 3 ≤ D) (hF0 : ∀ (x1 : Int32) (μ : Mu) (r : Int32) (μ' : Mu), F 0 x1 μ = some (r, μ') → CM Z.1.2.1 (zw Z) yX5_truth cX5_truth 3 (some .boolean) D 0 0 sh R [.ref (wb (zw Z) + 13), .int x1] μ (some (.int r)) sh R μ') (hF1 : ∀ (x1 : Int32) (μ : Mu) (r : Int32) (μ' : Mu), F 1 x1 μ = some (r, μ') → CM Z.1.2.1 (zw Z) yX5_both cX5_both 3 (some .boolean) D 0 0 sh R [.ref (wb (zw Z) + 13), .int x1] μ (some (.int r)) sh R μ') (hF2 : ∀ (x1 : Int32) (μ : Mu) (r : Int32) (μ' : Mu), F 2 x1 μ = some (r, μ') → CM Z.1.2.1 (zw Z) yX5_unit cX5_unit 3 (some .boolean) D 0 0 sh R [.ref (wb (zw Z) + 13), .int x1] μ (some (.int r)) sh R μ') (hF3 : ∀ (x1 : Int32) (μ : Mu) (r : Int32) (μ' : Mu), F 3 x1 μ = some (r, μ') → CM Z.1.2.1 (zw Z) yX5_sum cX5_sum 4 (some .boolean) D 0 0 sh R [.ref (wb (zw Z) + 13), .int x1] μ (some (.int r)) sh R μ') (hF4 : ∀ (x1 : Int32) (μ : Mu) (r : Int32) (μ' : Mu), F 4 x1 μ = some (r, μ') → CM Z.1.2.1 (zw Z) yX5_term cX5_term 3 (some .boolean) D 0 0 sh R [.ref (wb (zw Z) + 13), .int x1] μ (some (.int r)) sh R μ') (hF5 : ∀ (x1 : Int32) (μ : Mu) (r : Int32) (μ' : Mu), F 5 x1 μ = some (r, μ') → CM Z.1.2.1 (zw Z) yX5_atom cX5_atom 3 (some .boolean) D 0 0 sh R [.ref (wb (zw Z) + 13), .int x1] μ (some (.int r)) sh R μ') (x1 : Int32) (x2 : Int32) (μ : Mu) (h : sX5_sum_12 n F x1 (x2, μ) = some o) (kin : ∀ (x2 : Int32) (μ : Mu), o = .inl (x2, μ) → Wm Z (0, 0, sh, R) μ 12 [(0, .ref (wb (zw Z) + 13)), (1, .int x1), (2, .int x2)] []) (kex0 : ∀ (μ : Mu), o = .inr (.inl μ) → Wm Z (0, 0, sh, R) μ 74 [] []) (kex1 : ∀ (μ : Mu), o = .inr (.inr μ) → Wm Z (0, 0, sh, R) μ 97 [] []) : Wm Z (0, 0, sh, R) μ 12 [(0, .ref (wb (zw Z) + 13)), (1, .int x1), (2, .int x2)] [] := by
  unfold sX5_sum_12 at h
  refine r_iload_n C dX5_sum_12 2 rfl ?_
  refine r_sipush C dX5_sum_13 sp_900 ?_
  refine r_icmp_ge 97 C dX5_sum_16 (by decide) (fun c5 => ?_) (fun c5 => ?_)
  · have h := (ite_inv h).1 c5
    refine r_sub [] [] rfl ?_
    exact kex1 μ (Option.some.inj h).symm
  · have h := (ite_inv h).2 c5
    refine r_aload_n C dX5_sum_19 0 rfl ?_
    obtain ⟨u7, e6, h⟩ := bnd_inv h
    refine r_cVi (As := []) (rest := []) C hR mlX5_46 dX5_sum_20 (tX5_kind hY n  e6) rfl rfl (ly13 hY) rfl (by omega) (nle rfl) (nle rfl) ?_
    refine r_bipush C dX5_sum_23 bp_43 ?_
    refine r_icmp_eq 37 C dX5_sum_25 (by decide) (fun c8 => ?_) (fun c8 => ?_)
    · have h := (ite_inv h).1 c8
      exact kX5_sum_37 C hR hY n F hD hF0 hF1 hF2 hF3 hF4 hF5 x1 x2 μ h kin kex0 kex1
    · have h := (ite_inv h).2 c8
      refine r_aload_n C dX5_sum_28 0 rfl ?_
      obtain ⟨u19, e18, h⟩ := bnd_inv h
      refine r_cVi (As := []) (rest := []) C hR mlX5_46 dX5_sum_29 (tX5_kind hY n  e18) rfl rfl (ly13 hY) rfl (by omega) (nle rfl) (nle rfl) ?_
      refine r_bipush C dX5_sum_32 bp_45 ?_
      refine r_icmp_ne 97 C dX5_sum_34 (by decide) (fun c20 => ?_) (fun c20 => ?_)
      · have h := (ite_inv h).2 c20
        refine r_sub [] [] rfl ?_
        exact kex1 μ (Option.some.inj h).symm
      · have h := (ite_inv h).1 c20
        exact kX5_sum_37 C hR hY n F hD hF0 hF1 hF2 hF3 hF4 hF5 x1 x2 μ h kin kex0 kex1
def bX5_sum (n : Nat) (F : Nat → Int32 → Mu → Option (Int32 × Mu)) (x1 : Int32) (μ : Mu) : Option (Int32 × Mu) := bnd2 (F 4 x1 μ) fun u3 m2 => if u3 = 0 then (some (0, m2)) else (bnd (lp n (sX5_sum_12 n F x1) (0, m2)) fun q => match q with | .inl m21 => (some (0, m21)) | .inr m22 => (some (1, m22)))
set_option maxRecDepth 100000 in
set_option maxHeartbeats 4000000 in
theorem qX5_sum {l : Launch} {w : WP} {sh : List Sh} {R : Rf} {μ : Mu} {r : Int32} {μ' : Mu} (hY : LY sh R) (n : Nat) (F : Nat → Int32 → Mu → Option (Int32 × Mu)) (x1 : Int32) (D : Nat) (hD : 3 ≤ D) (hF0 : ∀ (x1 : Int32) (μ : Mu) (r : Int32) (μ' : Mu), F 0 x1 μ = some (r, μ') → CM l w yX5_truth cX5_truth 3 (some .boolean) D 0 0 sh R [.ref (wb w + 13), .int x1] μ (some (.int r)) sh R μ') (hF1 : ∀ (x1 : Int32) (μ : Mu) (r : Int32) (μ' : Mu), F 1 x1 μ = some (r, μ') → CM l w yX5_both cX5_both 3 (some .boolean) D 0 0 sh R [.ref (wb w + 13), .int x1] μ (some (.int r)) sh R μ') (hF2 : ∀ (x1 : Int32) (μ : Mu) (r : Int32) (μ' : Mu), F 2 x1 μ = some (r, μ') → CM l w yX5_unit cX5_unit 3 (some .boolean) D 0 0 sh R [.ref (wb w + 13), .int x1] μ (some (.int r)) sh R μ') (hF3 : ∀ (x1 : Int32) (μ : Mu) (r : Int32) (μ' : Mu), F 3 x1 μ = some (r, μ') → CM l w yX5_sum cX5_sum 4 (some .boolean) D 0 0 sh R [.ref (wb w + 13), .int x1] μ (some (.int r)) sh R μ') (hF4 : ∀ (x1 : Int32) (μ : Mu) (r : Int32) (μ' : Mu), F 4 x1 μ = some (r, μ') → CM l w yX5_term cX5_term 3 (some .boolean) D 0 0 sh R [.ref (wb w + 13), .int x1] μ (some (.int r)) sh R μ') (hF5 : ∀ (x1 : Int32) (μ : Mu) (r : Int32) (μ' : Mu), F 5 x1 μ = some (r, μ') → CM l w yX5_atom cX5_atom 3 (some .boolean) D 0 0 sh R [.ref (wb w + 13), .int x1] μ (some (.int r)) sh R μ') (h : bX5_sum n F x1 μ = some (r, μ')) : CM l w yX5_sum cX5_sum 4 (some .boolean) (D + 1) 0 0 sh R [.ref (wb w + 13), .int x1] μ (some (.int r)) sh R μ' := by
  refine CM.of (plainFor_of_name pf_X5) (Nat.le_of_ble_eq_true rfl) fun Z C hr _ hR hw hl hE => ?_
  subst hw; subst hl
  have C : CX Z cX5_sum 4 RX5 := C
  show Wm Z (0, 0, sh, R) μ 0 [(0, .ref (wb (zw Z) + 13)), (1, .int x1)] []
  unfold bX5_sum at h
  refine r_aload_n C dX5_sum_0 0 rfl ?_
  refine r_iload_n C dX5_sum_1 1 rfl ?_
  obtain ⟨u3, m2, e1, h⟩ := bnd2_inv h
  refine r_cVi (As := [.int x1]) (rest := []) C hR mlX5_162 dX5_sum_2 (hF4 _ _ _ _ e1) rfl rfl (ly13 hY) rfl (by omega) (nle rfl) (nle rfl) ?_
  refine r_if_ne 10 C dX5_sum_5 (by decide) (fun c4 => ?_) (fun c4 => ?_)
  · have h := (ite_inv h).2 c4
    refine r_iconst C dX5_sum_10 ic_0 ?_
    refine r_istore_n [(2, .int 0), (0, .ref (wb (zw Z) + 13)), (1, .int x1)] C dX5_sum_11 rfl (by decide) rfl ?_
    refine r_sub [(0, .ref (wb (zw Z) + 13)), (1, .int x1), (2, .int 0)] [1, 2, 0] rfl ?_
    obtain ⟨q24, e23, h⟩ := bnd_inv h
    refine lp_all (sX5_sum_12 n F x1) (fun q => match q with | (z2, ν) => Wm Z (0, 0, sh, R) (ν) 12 [(0, .ref (wb (zw Z) + 13)), (1, .int x1), (2, .int z2)] []) (fun q => match q with | .inl (ν) => Wm Z (0, 0, sh, R) (ν) 74 [] [] | .inr (ν) => Wm Z (0, 0, sh, R) (ν) 97 [] []) (fun q o h kin kex => ?_) n (0, m2) q24 e23 ?_
    · obtain ⟨z2, ν⟩ := q; exact lX5_sum_12 C hR hY n F hD hF0 hF1 hF2 hF3 hF4 hF5 x1 z2 ν h (fun z2 ν e => kin (z2, ν) e) (fun ν e => kex (.inl (ν)) e) (fun ν e => kex (.inr (ν)) e)
    rcases q24 with m21 | m22
    · show Wm Z (0, 0, sh, R) m21 74 [] []
      refine r_iconst C dX5_sum_74 ic_0 ?_
      obtain ⟨h1, h2⟩ := Prod.mk.inj (Option.some.inj h)
      subst h1; subst h2
      exact r_zret C dX5_sum_75 hr rfl hE
    · show Wm Z (0, 0, sh, R) m22 97 [] []
      refine r_iconst C dX5_sum_97 ic_1 ?_
      obtain ⟨h1, h2⟩ := Prod.mk.inj (Option.some.inj h)
      subst h1; subst h2
      exact r_zret C dX5_sum_98 hr rfl hE
  · have h := (ite_inv h).1 c4
    refine r_iconst C dX5_sum_8 ic_0 ?_
    obtain ⟨h1, h2⟩ := Prod.mk.inj (Option.some.inj h)
    subst h1; subst h2
    exact r_zret C dX5_sum_9 hr rfl hE
def sX5_term_12 (n : Nat) (F : Nat → Int32 → Mu → Option (Int32 × Mu)) (x1 : Int32) : Int32 × Mu → Option ((Int32 × Mu) ⊕ ((Mu) ⊕ (Mu))) := fun q => match q with | (x2, μ) => if 900 ≤ x2 then (some (.inr (.inr μ))) else (bnd (fX5_kind n μ) fun u7 => if u7 = 42 then (bnd2 (F 5 x1 (wI μ 13 4 ((rI μ 13 4) + 1))) fun u11 m10 => if u11 = 0 then (some (.inr (.inl m10))) else (bnd (fX3_add n 21 (rI m10 13 5) 1013 m10) fun m14 => some (.inl (x2 + 1, m14)))) else (some (.inr (.inr μ))))
set_option maxRecDepth 100000 in
set_option maxHeartbeats 4000000 in
theorem lX5_term_12 {Z : ZC} {sh : List Sh} {R : Rf} {D : Nat} {o : (Int32 × Mu) ⊕ ((Mu) ⊕ (Mu))} (C : CX Z cX5_term 3 RX5) (hR : zR Z = rm (D + 1) 0 0) (hY : LY sh R) (n : Nat) (F : Nat → Int32 → Mu → Option (Int32 × Mu)) (hD : 3 ≤ D) (hF0 : ∀ (x1 : Int32) (μ : Mu) (r : Int32) (μ' : Mu), F 0 x1 μ = some (r, μ') → CM Z.1.2.1 (zw Z) yX5_truth cX5_truth 3 (some .boolean) D 0 0 sh R [.ref (wb (zw Z) + 13), .int x1] μ (some (.int r)) sh R μ') (hF1 : ∀ (x1 : Int32) (μ : Mu) (r : Int32) (μ' : Mu), F 1 x1 μ = some (r, μ') → CM Z.1.2.1 (zw Z) yX5_both cX5_both 3 (some .boolean) D 0 0 sh R [.ref (wb (zw Z) + 13), .int x1] μ (some (.int r)) sh R μ') (hF2 : ∀ (x1 : Int32) (μ : Mu) (r : Int32) (μ' : Mu), F 2 x1 μ = some (r, μ') → CM Z.1.2.1 (zw Z) yX5_unit cX5_unit 3 (some .boolean) D 0 0 sh R [.ref (wb (zw Z) + 13), .int x1] μ (some (.int r)) sh R μ') (hF3 : ∀ (x1 : Int32) (μ : Mu) (r : Int32) (μ' : Mu), F 3 x1 μ = some (r, μ') → CM Z.1.2.1 (zw Z) yX5_sum cX5_sum 4 (some .boolean) D 0 0 sh R [.ref (wb (zw Z) + 13), .int x1] μ (some (.int r)) sh R μ') (hF4 : ∀ (x1 : Int32) (μ : Mu) (r : Int32) (μ' : Mu), F 4 x1 μ = some (r, μ') → CM Z.1.2.1 (zw Z) yX5_term cX5_term 3 (some .boolean) D 0 0 sh R [.ref (wb (zw Z) + 13), .int x1] μ (some (.int r)) sh R μ') (hF5 : ∀ (x1 : Int32) (μ : Mu) (r : Int32) (μ' : Mu), F 5 x1 μ = some (r, μ') → CM Z.1.2.1 (zw Z) yX5_atom cX5_atom 3 (some .boolean) D 0 0 sh R [.ref (wb (zw Z) + 13), .int x1] μ (some (.int r)) sh R μ') (x1 : Int32) (x2 : Int32) (μ : Mu) (h : sX5_term_12 n F x1 (x2, μ) = some o) (kin : ∀ (x2 : Int32) (μ : Mu), o = .inl (x2, μ) → Wm Z (0, 0, sh, R) μ 12 [(0, .ref (wb (zw Z) + 13)), (1, .int x1), (2, .int x2)] []) (kex0 : ∀ (μ : Mu), o = .inr (.inl μ) → Wm Z (0, 0, sh, R) μ 46 [] []) (kex1 : ∀ (μ : Mu), o = .inr (.inr μ) → Wm Z (0, 0, sh, R) μ 71 [] []) : Wm Z (0, 0, sh, R) μ 12 [(0, .ref (wb (zw Z) + 13)), (1, .int x1), (2, .int x2)] [] := by
  unfold sX5_term_12 at h
  refine r_iload_n C dX5_term_12 2 rfl ?_
  refine r_sipush C dX5_term_13 sp_900 ?_
  refine r_icmp_ge 71 C dX5_term_16 (by decide) (fun c5 => ?_) (fun c5 => ?_)
  · have h := (ite_inv h).1 c5
    refine r_sub [] [] rfl ?_
    exact kex1 μ (Option.some.inj h).symm
  · have h := (ite_inv h).2 c5
    refine r_aload_n C dX5_term_19 0 rfl ?_
    obtain ⟨u7, e6, h⟩ := bnd_inv h
    refine r_cVi (As := []) (rest := []) C hR mlX5_46 dX5_term_20 (tX5_kind hY n  e6) rfl rfl (ly13 hY) rfl (by omega) (nle rfl) (nle rfl) ?_
    refine r_bipush C dX5_term_23 bp_42 ?_
    refine r_icmp_ne 71 C dX5_term_25 (by decide) (fun c8 => ?_) (fun c8 => ?_)
    · have h := (ite_inv h).2 c8
      refine r_sub [] [] rfl ?_
      exact kex1 μ (Option.some.inj h).symm
    · have h := (ite_inv h).1 c8
      refine r_aload_n C dX5_term_28 0 rfl ?_
      refine r_dup C dX5_term_29 rfl ?_
      refine r_getI C flX5_32 dX5_term_30 (ly13 hY) rfl ?_
      refine r_iconst C dX5_term_33 ic_1 ?_
      refine r_iadd C dX5_term_34 ?_
      refine r_putI C fiX5_32 dX5_term_35 (ly13 hY) ?_
      refine r_aload_n C dX5_term_38 0 rfl ?_
      refine r_iload_n C dX5_term_39 1 rfl ?_
      obtain ⟨u11, m10, e9, h⟩ := bnd2_inv h
      refine r_cVi (As := [.int x1]) (rest := []) C hR mlX5_165 dX5_term_40 (hF5 _ _ _ _ e9) rfl rfl (ly13 hY) rfl (by omega) (nle rfl) (nle rfl) ?_
      refine r_if_ne 48 C dX5_term_43 (by decide) (fun c12 => ?_) (fun c12 => ?_)
      · have h := (ite_inv h).2 c12
        refine r_aload_n C dX5_term_48 0 rfl ?_
        refine r_getR C flX5_12 dX5_term_49 (ly13 hY) rfl (lr13_0 hY) ?_
        refine r_getR C flX5_135 dX5_term_52 (isSea_0 (lyRSea hY)) rfl (isSea_r14 (lyRSea hY)) ?_
        refine r_aload_n C dX5_term_55 0 rfl ?_
        refine r_getI C flX5_132 dX5_term_56 (ly13 hY) rfl ?_
        refine r_sipush C dX5_term_59 sp_1013 ?_
        obtain ⟨m14, e13, h⟩ := bnd_inv h
        refine r_cVv (As := [.int (rI m10 13 5), .int 1013]) (rest := []) C hR mlX5_148 dX5_term_62 (tX3_add hY n 21 (rI m10 13 5) 1013 (isSea_law (lyRSea hY)) e13) rfl rfl (isLaw_0 (isSea_law (lyRSea hY))) rfl (by omega) (nle rfl) (nle rfl) ?_
        refine r_iinc [(2, .int (x2 + 1)), (0, .ref (wb (zw Z) + 13)), (1, .int x1)] C dX5_term_65 2 rfl (in_1 _) (by decide) rfl ?_
        refine r_goto 12 C dX5_term_68 (by decide) ?_
        refine r_sub [(0, .ref (wb (zw Z) + 13)), (1, .int x1), (2, .int (x2 + 1))] [1, 2, 0] rfl ?_
        exact kin (x2 + 1) m14 (Option.some.inj h).symm
      · have h := (ite_inv h).1 c12
        refine r_sub [] [] rfl ?_
        exact kex0 m10 (Option.some.inj h).symm
def bX5_term (n : Nat) (F : Nat → Int32 → Mu → Option (Int32 × Mu)) (x1 : Int32) (μ : Mu) : Option (Int32 × Mu) := bnd2 (F 5 x1 μ) fun u3 m2 => if u3 = 0 then (some (0, m2)) else (bnd (lp n (sX5_term_12 n F x1) (0, m2)) fun q => match q with | .inl m15 => (some (0, m15)) | .inr m16 => (some (1, m16)))
set_option maxRecDepth 100000 in
set_option maxHeartbeats 4000000 in
theorem qX5_term {l : Launch} {w : WP} {sh : List Sh} {R : Rf} {μ : Mu} {r : Int32} {μ' : Mu} (hY : LY sh R) (n : Nat) (F : Nat → Int32 → Mu → Option (Int32 × Mu)) (x1 : Int32) (D : Nat) (hD : 3 ≤ D) (hF0 : ∀ (x1 : Int32) (μ : Mu) (r : Int32) (μ' : Mu), F 0 x1 μ = some (r, μ') → CM l w yX5_truth cX5_truth 3 (some .boolean) D 0 0 sh R [.ref (wb w + 13), .int x1] μ (some (.int r)) sh R μ') (hF1 : ∀ (x1 : Int32) (μ : Mu) (r : Int32) (μ' : Mu), F 1 x1 μ = some (r, μ') → CM l w yX5_both cX5_both 3 (some .boolean) D 0 0 sh R [.ref (wb w + 13), .int x1] μ (some (.int r)) sh R μ') (hF2 : ∀ (x1 : Int32) (μ : Mu) (r : Int32) (μ' : Mu), F 2 x1 μ = some (r, μ') → CM l w yX5_unit cX5_unit 3 (some .boolean) D 0 0 sh R [.ref (wb w + 13), .int x1] μ (some (.int r)) sh R μ') (hF3 : ∀ (x1 : Int32) (μ : Mu) (r : Int32) (μ' : Mu), F 3 x1 μ = some (r, μ') → CM l w yX5_sum cX5_sum 4 (some .boolean) D 0 0 sh R [.ref (wb w + 13), .int x1] μ (some (.int r)) sh R μ') (hF4 : ∀ (x1 : Int32) (μ : Mu) (r : Int32) (μ' : Mu), F 4 x1 μ = some (r, μ') → CM l w yX5_term cX5_term 3 (some .boolean) D 0 0 sh R [.ref (wb w + 13), .int x1] μ (some (.int r)) sh R μ') (hF5 : ∀ (x1 : Int32) (μ : Mu) (r : Int32) (μ' : Mu), F 5 x1 μ = some (r, μ') → CM l w yX5_atom cX5_atom 3 (some .boolean) D 0 0 sh R [.ref (wb w + 13), .int x1] μ (some (.int r)) sh R μ') (h : bX5_term n F x1 μ = some (r, μ')) : CM l w yX5_term cX5_term 3 (some .boolean) (D + 1) 0 0 sh R [.ref (wb w + 13), .int x1] μ (some (.int r)) sh R μ' := by
  refine CM.of (plainFor_of_name pf_X5) (Nat.le_of_ble_eq_true rfl) fun Z C hr _ hR hw hl hE => ?_
  subst hw; subst hl
  have C : CX Z cX5_term 3 RX5 := C
  show Wm Z (0, 0, sh, R) μ 0 [(0, .ref (wb (zw Z) + 13)), (1, .int x1)] []
  unfold bX5_term at h
  refine r_aload_n C dX5_term_0 0 rfl ?_
  refine r_iload_n C dX5_term_1 1 rfl ?_
  obtain ⟨u3, m2, e1, h⟩ := bnd2_inv h
  refine r_cVi (As := [.int x1]) (rest := []) C hR mlX5_165 dX5_term_2 (hF5 _ _ _ _ e1) rfl rfl (ly13 hY) rfl (by omega) (nle rfl) (nle rfl) ?_
  refine r_if_ne 10 C dX5_term_5 (by decide) (fun c4 => ?_) (fun c4 => ?_)
  · have h := (ite_inv h).2 c4
    refine r_iconst C dX5_term_10 ic_0 ?_
    refine r_istore_n [(2, .int 0), (0, .ref (wb (zw Z) + 13)), (1, .int x1)] C dX5_term_11 rfl (by decide) rfl ?_
    refine r_sub [(0, .ref (wb (zw Z) + 13)), (1, .int x1), (2, .int 0)] [1, 2, 0] rfl ?_
    obtain ⟨q18, e17, h⟩ := bnd_inv h
    refine lp_all (sX5_term_12 n F x1) (fun q => match q with | (z2, ν) => Wm Z (0, 0, sh, R) (ν) 12 [(0, .ref (wb (zw Z) + 13)), (1, .int x1), (2, .int z2)] []) (fun q => match q with | .inl (ν) => Wm Z (0, 0, sh, R) (ν) 46 [] [] | .inr (ν) => Wm Z (0, 0, sh, R) (ν) 71 [] []) (fun q o h kin kex => ?_) n (0, m2) q18 e17 ?_
    · obtain ⟨z2, ν⟩ := q; exact lX5_term_12 C hR hY n F hD hF0 hF1 hF2 hF3 hF4 hF5 x1 z2 ν h (fun z2 ν e => kin (z2, ν) e) (fun ν e => kex (.inl (ν)) e) (fun ν e => kex (.inr (ν)) e)
    rcases q18 with m15 | m16
    · show Wm Z (0, 0, sh, R) m15 46 [] []
      refine r_iconst C dX5_term_46 ic_0 ?_
      obtain ⟨h1, h2⟩ := Prod.mk.inj (Option.some.inj h)
      subst h1; subst h2
      exact r_zret C dX5_term_47 hr rfl hE
    · show Wm Z (0, 0, sh, R) m16 71 [] []
      refine r_iconst C dX5_term_71 ic_1 ?_
      obtain ⟨h1, h2⟩ := Prod.mk.inj (Option.some.inj h)
      subst h1; subst h2
      exact r_zret C dX5_term_72 hr rfl hE
  · have h := (ite_inv h).1 c4
    refine r_iconst C dX5_term_8 ic_0 ?_
    obtain ⟨h1, h2⟩ := Prod.mk.inj (Option.some.inj h)
    subst h1; subst h2
    exact r_zret C dX5_term_9 hr rfl hE
def jX5_atom_71 (n : Nat) (F : Nat → Int32 → Mu → Option (Int32 × Mu)) (s0 : Int32) (μ : Mu) : Option (Int32 × Mu) := if s0 = (-1) then (bnd2 (fX5_refuse n μ) fun u15 m16 => gd (isb u15) (some (u15, m16))) else (bnd (fX3_add n 21 (rI (wI μ 13 4 ((rI μ 13 4) + 1)) 13 5) s0 (wI μ 13 4 ((rI μ 13 4) + 1))) fun m13 => some (1, m13))
set_option maxRecDepth 100000 in
set_option maxHeartbeats 4000000 in
theorem kX5_atom_71 {Z : ZC} {sh : List Sh} {R : Rf} {D : Nat} {r : Int32} {μ' : Mu} (C : CX Z cX5_atom 3 RX5) (hR : zR Z = rm (D + 1) 0 0) (hY : LY sh R) (n : Nat) (F : Nat → Int32 → Mu → Option (Int32 × Mu)) (hD : 3 ≤ D) (hF0 : ∀ (x1 : Int32) (μ : Mu) (r : Int32) (μ' : Mu), F 0 x1 μ = some (r, μ') → CM Z.1.2.1 (zw Z) yX5_truth cX5_truth 3 (some .boolean) D 0 0 sh R [.ref (wb (zw Z) + 13), .int x1] μ (some (.int r)) sh R μ') (hF1 : ∀ (x1 : Int32) (μ : Mu) (r : Int32) (μ' : Mu), F 1 x1 μ = some (r, μ') → CM Z.1.2.1 (zw Z) yX5_both cX5_both 3 (some .boolean) D 0 0 sh R [.ref (wb (zw Z) + 13), .int x1] μ (some (.int r)) sh R μ') (hF2 : ∀ (x1 : Int32) (μ : Mu) (r : Int32) (μ' : Mu), F 2 x1 μ = some (r, μ') → CM Z.1.2.1 (zw Z) yX5_unit cX5_unit 3 (some .boolean) D 0 0 sh R [.ref (wb (zw Z) + 13), .int x1] μ (some (.int r)) sh R μ') (hF3 : ∀ (x1 : Int32) (μ : Mu) (r : Int32) (μ' : Mu), F 3 x1 μ = some (r, μ') → CM Z.1.2.1 (zw Z) yX5_sum cX5_sum 4 (some .boolean) D 0 0 sh R [.ref (wb (zw Z) + 13), .int x1] μ (some (.int r)) sh R μ') (hF4 : ∀ (x1 : Int32) (μ : Mu) (r : Int32) (μ' : Mu), F 4 x1 μ = some (r, μ') → CM Z.1.2.1 (zw Z) yX5_term cX5_term 3 (some .boolean) D 0 0 sh R [.ref (wb (zw Z) + 13), .int x1] μ (some (.int r)) sh R μ') (hF5 : ∀ (x1 : Int32) (μ : Mu) (r : Int32) (μ' : Mu), F 5 x1 μ = some (r, μ') → CM Z.1.2.1 (zw Z) yX5_atom cX5_atom 3 (some .boolean) D 0 0 sh R [.ref (wb (zw Z) + 13), .int x1] μ (some (.int r)) sh R μ') (s0 : Int32) (μ : Mu) (h : jX5_atom_71 n F s0 μ = some (r, μ')) (hr : (zme Z).sig.returnType = (some .boolean)) (hE : zEnd Z (0, 0, sh, R) μ' (some (.int r))) : Wm Z (0, 0, sh, R) μ 71 [(0, .ref (wb (zw Z) + 13))] [.int s0] := by
  unfold jX5_atom_71 at h
  refine r_istore_n [(2, .int s0), (0, .ref (wb (zw Z) + 13))] C dX5_atom_71 rfl (by decide) rfl ?_
  refine r_iload_n C dX5_atom_72 0 rfl ?_
  refine r_iconst C dX5_atom_73 ic_m1 ?_
  refine r_icmp_ne 82 C dX5_atom_74 (by decide) (fun c11 => ?_) (fun c11 => ?_)
  · have h := (ite_inv h).2 c11
    refine r_aload_n C dX5_atom_82 1 rfl ?_
    refine r_dup C dX5_atom_83 rfl ?_
    refine r_getI C flX5_32 dX5_atom_84 (ly13 hY) rfl ?_
    refine r_iconst C dX5_atom_87 ic_1 ?_
    refine r_iadd C dX5_atom_88 ?_
    refine r_putI C fiX5_32 dX5_atom_89 (ly13 hY) ?_
    refine r_aload_n C dX5_atom_92 1 rfl ?_
    refine r_getR C flX5_12 dX5_atom_93 (ly13 hY) rfl (lr13_0 hY) ?_
    refine r_getR C flX5_135 dX5_atom_96 (isSea_0 (lyRSea hY)) rfl (isSea_r14 (lyRSea hY)) ?_
    refine r_aload_n C dX5_atom_99 1 rfl ?_
    refine r_getI C flX5_132 dX5_atom_100 (ly13 hY) rfl ?_
    refine r_iload_n C dX5_atom_103 0 rfl ?_
    obtain ⟨m13, e12, h⟩ := bnd_inv h
    refine r_cVv (As := [.int (rI (wI μ 13 4 ((rI μ 13 4) + 1)) 13 5), .int s0]) (rest := []) C hR mlX5_148 dX5_atom_104 (tX3_add hY n 21 (rI (wI μ 13 4 ((rI μ 13 4) + 1)) 13 5) s0 (isSea_law (lyRSea hY)) e12) rfl rfl (isLaw_0 (isSea_law (lyRSea hY))) rfl (by omega) (nle rfl) (nle rfl) ?_
    refine r_iconst C dX5_atom_107 ic_1 ?_
    obtain ⟨h1, h2⟩ := Prod.mk.inj (Option.some.inj h)
    subst h1; subst h2
    exact r_zret C dX5_atom_108 hr rfl hE
  · have h := (ite_inv h).1 c11
    refine r_aload_n C dX5_atom_77 1 rfl ?_
    obtain ⟨u15, m16, e14, h⟩ := bnd2_inv h
    refine r_cVi (As := []) (rest := []) C hR mlX5_68 dX5_atom_78 (tX5_refuse hY n  e14) rfl rfl (ly13 hY) rfl (by omega) (nle rfl) (nle rfl) ?_
    obtain ⟨b17, h⟩ := gd_inv h
    obtain ⟨h1, h2⟩ := Prod.mk.inj (Option.some.inj h)
    subst h1; subst h2
    exact r_zret C dX5_atom_81 hr (isb_n b17) hE
def bX5_atom (n : Nat) (F : Nat → Int32 → Mu → Option (Int32 × Mu)) (x1 : Int32) (μ : Mu) : Option (Int32 × Mu) := bnd (fX5_kind n μ) fun u2 => if u2 = 40 then (bnd2 (fX5_goesDeeper n x1 μ) fun u21 m22 => if u21 = 0 then (some (0, m22)) else (bnd2 (F 3 (x1 + 1) m22) fun u26 m25 => if u26 = 0 then (some (0, m25)) else (bnd2 (fX5_accept n 41 m25) fun u29 m30 => if u29 = 0 then (some (0, m30)) else (some (1, m30))))) else (bnd (fX5_kind n μ) fun u5 => if u5 < 1000 then (bnd (fX5_kind n μ) fun u8 => bnd (fX5_givenBy n u8 μ) fun u10 => jX5_atom_71 n F u10 μ) else (bnd (fX5_kind n μ) fun u19 => jX5_atom_71 n F (u19 - 1000) μ))
set_option maxRecDepth 100000 in
set_option maxHeartbeats 4000000 in
theorem qX5_atom {l : Launch} {w : WP} {sh : List Sh} {R : Rf} {μ : Mu} {r : Int32} {μ' : Mu} (hY : LY sh R) (n : Nat) (F : Nat → Int32 → Mu → Option (Int32 × Mu)) (x1 : Int32) (D : Nat) (hD : 3 ≤ D) (hF0 : ∀ (x1 : Int32) (μ : Mu) (r : Int32) (μ' : Mu), F 0 x1 μ = some (r, μ') → CM l w yX5_truth cX5_truth 3 (some .boolean) D 0 0 sh R [.ref (wb w + 13), .int x1] μ (some (.int r)) sh R μ') (hF1 : ∀ (x1 : Int32) (μ : Mu) (r : Int32) (μ' : Mu), F 1 x1 μ = some (r, μ') → CM l w yX5_both cX5_both 3 (some .boolean) D 0 0 sh R [.ref (wb w + 13), .int x1] μ (some (.int r)) sh R μ') (hF2 : ∀ (x1 : Int32) (μ : Mu) (r : Int32) (μ' : Mu), F 2 x1 μ = some (r, μ') → CM l w yX5_unit cX5_unit 3 (some .boolean) D 0 0 sh R [.ref (wb w + 13), .int x1] μ (some (.int r)) sh R μ') (hF3 : ∀ (x1 : Int32) (μ : Mu) (r : Int32) (μ' : Mu), F 3 x1 μ = some (r, μ') → CM l w yX5_sum cX5_sum 4 (some .boolean) D 0 0 sh R [.ref (wb w + 13), .int x1] μ (some (.int r)) sh R μ') (hF4 : ∀ (x1 : Int32) (μ : Mu) (r : Int32) (μ' : Mu), F 4 x1 μ = some (r, μ') → CM l w yX5_term cX5_term 3 (some .boolean) D 0 0 sh R [.ref (wb w + 13), .int x1] μ (some (.int r)) sh R μ') (hF5 : ∀ (x1 : Int32) (μ : Mu) (r : Int32) (μ' : Mu), F 5 x1 μ = some (r, μ') → CM l w yX5_atom cX5_atom 3 (some .boolean) D 0 0 sh R [.ref (wb w + 13), .int x1] μ (some (.int r)) sh R μ') (h : bX5_atom n F x1 μ = some (r, μ')) : CM l w yX5_atom cX5_atom 3 (some .boolean) (D + 1) 0 0 sh R [.ref (wb w + 13), .int x1] μ (some (.int r)) sh R μ' := by
  refine CM.of (plainFor_of_name pf_X5) (Nat.le_of_ble_eq_true rfl) fun Z C hr _ hR hw hl hE => ?_
  subst hw; subst hl
  have C : CX Z cX5_atom 3 RX5 := C
  show Wm Z (0, 0, sh, R) μ 0 [(0, .ref (wb (zw Z) + 13)), (1, .int x1)] []
  unfold bX5_atom at h
  refine r_aload_n C dX5_atom_0 0 rfl ?_
  obtain ⟨u2, e1, h⟩ := bnd_inv h
  refine r_cVi (As := []) (rest := []) C hR mlX5_46 dX5_atom_1 (tX5_kind hY n  e1) rfl rfl (ly13 hY) rfl (by omega) (nle rfl) (nle rfl) ?_
  refine r_bipush C dX5_atom_4 bp_40 ?_
  refine r_icmp_ne 42 C dX5_atom_6 (by decide) (fun c3 => ?_) (fun c3 => ?_)
  · have h := (ite_inv h).2 c3
    refine r_aload_n C dX5_atom_42 0 rfl ?_
    obtain ⟨u5, e4, h⟩ := bnd_inv h
    refine r_cVi (As := []) (rest := []) C hR mlX5_46 dX5_atom_43 (tX5_kind hY n  e4) rfl rfl (ly13 hY) rfl (by omega) (nle rfl) (nle rfl) ?_
    refine r_sipush C dX5_atom_46 sp_1000 ?_
    refine r_icmp_lt 63 C dX5_atom_49 (by decide) (fun c6 => ?_) (fun c6 => ?_)
    · have h := (ite_inv h).1 c6
      refine r_aload_n C dX5_atom_63 0 rfl ?_
      refine r_aload_n C dX5_atom_64 0 rfl ?_
      obtain ⟨u8, e7, h⟩ := bnd_inv h
      refine r_cVi (As := []) (rest := [.ref (wb (zw Z) + 13)]) C hR mlX5_46 dX5_atom_65 (tX5_kind hY n  e7) rfl rfl (ly13 hY) rfl (by omega) (nle rfl) (nle rfl) ?_
      obtain ⟨u10, e9, h⟩ := bnd_inv h
      refine r_cVi (As := [.int u8]) (rest := []) C hR mlX5_168 dX5_atom_68 (tX5_givenBy hY n u8  e9) rfl rfl (ly13 hY) rfl (by omega) (nle rfl) (nle rfl) ?_
      refine r_sub [(0, .ref (wb (zw Z) + 13))] [0] rfl ?_
      exact kX5_atom_71 C hR hY n F hD hF0 hF1 hF2 hF3 hF4 hF5 u10 μ h hr hE
    · have h := (ite_inv h).2 c6
      refine r_aload_n C dX5_atom_52 0 rfl ?_
      obtain ⟨u19, e18, h⟩ := bnd_inv h
      refine r_cVi (As := []) (rest := []) C hR mlX5_46 dX5_atom_53 (tX5_kind hY n  e18) rfl rfl (ly13 hY) rfl (by omega) (nle rfl) (nle rfl) ?_
      refine r_sipush C dX5_atom_56 sp_1000 ?_
      refine r_isub C dX5_atom_59 ?_
      refine r_goto 71 C dX5_atom_60 (by decide) ?_
      refine r_sub [(0, .ref (wb (zw Z) + 13))] [0] rfl ?_
      exact kX5_atom_71 C hR hY n F hD hF0 hF1 hF2 hF3 hF4 hF5 (u19 - 1000) μ h hr hE
  · have h := (ite_inv h).1 c3
    refine r_aload_n C dX5_atom_9 0 rfl ?_
    refine r_iload_n C dX5_atom_10 1 rfl ?_
    obtain ⟨u21, m22, e20, h⟩ := bnd2_inv h
    refine r_cVi (As := [.int x1]) (rest := []) C hR mlX5_155 dX5_atom_11 (tX5_goesDeeper hY n x1  e20) rfl rfl (ly13 hY) rfl (by omega) (nle rfl) (nle rfl) ?_
    refine r_if_eq 40 C dX5_atom_14 (by decide) (fun c23 => ?_) (fun c23 => ?_)
    · have h := (ite_inv h).1 c23
      refine r_iconst C dX5_atom_40 ic_0 ?_
      obtain ⟨h1, h2⟩ := Prod.mk.inj (Option.some.inj h)
      subst h1; subst h2
      exact r_zret C dX5_atom_41 hr rfl hE
    · have h := (ite_inv h).2 c23
      refine r_aload_n C dX5_atom_17 0 rfl ?_
      refine r_iload_n C dX5_atom_18 1 rfl ?_
      refine r_iconst C dX5_atom_19 ic_1 ?_
      refine r_iadd C dX5_atom_20 ?_
      obtain ⟨u26, m25, e24, h⟩ := bnd2_inv h
      refine r_cVi (As := [.int (x1 + 1)]) (rest := []) C hR mlX5_90 dX5_atom_21 (hF3 _ _ _ _ e24) rfl rfl (ly13 hY) rfl (by omega) (nle rfl) (nle rfl) ?_
      refine r_if_eq 40 C dX5_atom_24 (by decide) (fun c27 => ?_) (fun c27 => ?_)
      · have h := (ite_inv h).1 c27
        refine r_iconst C dX5_atom_40 ic_0 ?_
        obtain ⟨h1, h2⟩ := Prod.mk.inj (Option.some.inj h)
        subst h1; subst h2
        exact r_zret C dX5_atom_41 hr rfl hE
      · have h := (ite_inv h).2 c27
        refine r_aload_n C dX5_atom_27 0 rfl ?_
        refine r_bipush C dX5_atom_28 bp_41 ?_
        obtain ⟨u29, m30, e28, h⟩ := bnd2_inv h
        refine r_cVi (As := [.int 41]) (rest := []) C hR mlX5_53 dX5_atom_30 (tX5_accept hY n 41  e28) rfl rfl (ly13 hY) rfl (by omega) (nle rfl) (nle rfl) ?_
        refine r_if_eq 40 C dX5_atom_33 (by decide) (fun c31 => ?_) (fun c31 => ?_)
        · have h := (ite_inv h).1 c31
          refine r_iconst C dX5_atom_40 ic_0 ?_
          obtain ⟨h1, h2⟩ := Prod.mk.inj (Option.some.inj h)
          subst h1; subst h2
          exact r_zret C dX5_atom_41 hr rfl hE
        · have h := (ite_inv h).2 c31
          refine r_iconst C dX5_atom_36 ic_1 ?_
          refine r_goto 41 C dX5_atom_37 (by decide) ?_
          obtain ⟨h1, h2⟩ := Prod.mk.inj (Option.some.inj h)
          subst h1; subst h2
          exact r_zret C dX5_atom_41 hr rfl hE
def fX5_P (n : Nat) : Nat → Nat → Int32 → Mu → Option (Int32 × Mu)
  | 0 => fun _ _ _ => none
  | d + 1 => fun k x1 μ => match k with
    | 0 => bX5_truth n (fX5_P n d) x1 μ
    | 1 => bX5_both n (fX5_P n d) x1 μ
    | 2 => bX5_unit n (fX5_P n d) x1 μ
    | 3 => bX5_sum n (fX5_P n d) x1 μ
    | 4 => bX5_term n (fX5_P n d) x1 μ
    | _ => bX5_atom n (fX5_P n d) x1 μ
theorem gX5_P {l : Launch} {w : WP} {sh : List Sh} {R : Rf} (hY : LY sh R) (n : Nat) : ∀ d : Nat, (∀ (x1 : Int32) (μ : Mu) (r : Int32) (μ' : Mu), fX5_P n d 0 x1 μ = some (r, μ') → CM l w yX5_truth cX5_truth 3 (some .boolean) (d + 3) 0 0 sh R [.ref (wb w + 13), .int x1] μ (some (.int r)) sh R μ') ∧ (∀ (x1 : Int32) (μ : Mu) (r : Int32) (μ' : Mu), fX5_P n d 1 x1 μ = some (r, μ') → CM l w yX5_both cX5_both 3 (some .boolean) (d + 3) 0 0 sh R [.ref (wb w + 13), .int x1] μ (some (.int r)) sh R μ') ∧ (∀ (x1 : Int32) (μ : Mu) (r : Int32) (μ' : Mu), fX5_P n d 2 x1 μ = some (r, μ') → CM l w yX5_unit cX5_unit 3 (some .boolean) (d + 3) 0 0 sh R [.ref (wb w + 13), .int x1] μ (some (.int r)) sh R μ') ∧ (∀ (x1 : Int32) (μ : Mu) (r : Int32) (μ' : Mu), fX5_P n d 3 x1 μ = some (r, μ') → CM l w yX5_sum cX5_sum 4 (some .boolean) (d + 3) 0 0 sh R [.ref (wb w + 13), .int x1] μ (some (.int r)) sh R μ') ∧ (∀ (x1 : Int32) (μ : Mu) (r : Int32) (μ' : Mu), fX5_P n d 4 x1 μ = some (r, μ') → CM l w yX5_term cX5_term 3 (some .boolean) (d + 3) 0 0 sh R [.ref (wb w + 13), .int x1] μ (some (.int r)) sh R μ') ∧ (∀ (x1 : Int32) (μ : Mu) (r : Int32) (μ' : Mu), fX5_P n d 5 x1 μ = some (r, μ') → CM l w yX5_atom cX5_atom 3 (some .boolean) (d + 3) 0 0 sh R [.ref (wb w + 13), .int x1] μ (some (.int r)) sh R μ') := by
  intro d
  induction d with
  | zero => exact ⟨(fun _ _ _ _ h => by cases h), (fun _ _ _ _ h => by cases h), (fun _ _ _ _ h => by cases h), (fun _ _ _ _ h => by cases h), (fun _ _ _ _ h => by cases h), (fun _ _ _ _ h => by cases h)⟩
  | succ d ih =>
    obtain ⟨h0, h1, h2, h3, h4, h5⟩ := ih
    have e : d + 1 + 3 = d + 3 + 1 := by omega
    rw [e]
    exact ⟨fun v0 _ _ _ h => qX5_truth hY n (fX5_P n d) v0 (d + 3) (by omega) h0 h1 h2 h3 h4 h5 h, fun v0 _ _ _ h => qX5_both hY n (fX5_P n d) v0 (d + 3) (by omega) h0 h1 h2 h3 h4 h5 h, fun v0 _ _ _ h => qX5_unit hY n (fX5_P n d) v0 (d + 3) (by omega) h0 h1 h2 h3 h4 h5 h, fun v0 _ _ _ h => qX5_sum hY n (fX5_P n d) v0 (d + 3) (by omega) h0 h1 h2 h3 h4 h5 h, fun v0 _ _ _ h => qX5_term hY n (fX5_P n d) v0 (d + 3) (by omega) h0 h1 h2 h3 h4 h5 h, fun v0 _ _ _ h => qX5_atom hY n (fX5_P n d) v0 (d + 3) (by omega) h0 h1 h2 h3 h4 h5 h⟩
def fX5_truth (n : Nat) (x1 : Int32) (μ : Mu) : Option (Int32 × Mu) := fX5_P n 60 0 x1 μ
theorem tX5_truth {l : Launch} {w : WP} {sh : List Sh} {R : Rf} {μ : Mu} {r : Int32} {μ' : Mu} (hY : LY sh R) (n : Nat) (x1 : Int32) (h : fX5_truth n x1 μ = some (r, μ')) : CM l w yX5_truth cX5_truth 3 (some .boolean) 63 0 0 sh R [.ref (wb w + 13), .int x1] μ (some (.int r)) sh R μ' := (gX5_P hY n 60).1 _ _ _ _ h
def fX5_both (n : Nat) (x1 : Int32) (μ : Mu) : Option (Int32 × Mu) := fX5_P n 60 1 x1 μ
theorem tX5_both {l : Launch} {w : WP} {sh : List Sh} {R : Rf} {μ : Mu} {r : Int32} {μ' : Mu} (hY : LY sh R) (n : Nat) (x1 : Int32) (h : fX5_both n x1 μ = some (r, μ')) : CM l w yX5_both cX5_both 3 (some .boolean) 63 0 0 sh R [.ref (wb w + 13), .int x1] μ (some (.int r)) sh R μ' := (gX5_P hY n 60).2.1 _ _ _ _ h
def fX5_unit (n : Nat) (x1 : Int32) (μ : Mu) : Option (Int32 × Mu) := fX5_P n 60 2 x1 μ
theorem tX5_unit {l : Launch} {w : WP} {sh : List Sh} {R : Rf} {μ : Mu} {r : Int32} {μ' : Mu} (hY : LY sh R) (n : Nat) (x1 : Int32) (h : fX5_unit n x1 μ = some (r, μ')) : CM l w yX5_unit cX5_unit 3 (some .boolean) 63 0 0 sh R [.ref (wb w + 13), .int x1] μ (some (.int r)) sh R μ' := (gX5_P hY n 60).2.2.1 _ _ _ _ h
def fX5_sum (n : Nat) (x1 : Int32) (μ : Mu) : Option (Int32 × Mu) := fX5_P n 60 3 x1 μ
theorem tX5_sum {l : Launch} {w : WP} {sh : List Sh} {R : Rf} {μ : Mu} {r : Int32} {μ' : Mu} (hY : LY sh R) (n : Nat) (x1 : Int32) (h : fX5_sum n x1 μ = some (r, μ')) : CM l w yX5_sum cX5_sum 4 (some .boolean) 63 0 0 sh R [.ref (wb w + 13), .int x1] μ (some (.int r)) sh R μ' := (gX5_P hY n 60).2.2.2.1 _ _ _ _ h
def fX5_term (n : Nat) (x1 : Int32) (μ : Mu) : Option (Int32 × Mu) := fX5_P n 60 4 x1 μ
theorem tX5_term {l : Launch} {w : WP} {sh : List Sh} {R : Rf} {μ : Mu} {r : Int32} {μ' : Mu} (hY : LY sh R) (n : Nat) (x1 : Int32) (h : fX5_term n x1 μ = some (r, μ')) : CM l w yX5_term cX5_term 3 (some .boolean) 63 0 0 sh R [.ref (wb w + 13), .int x1] μ (some (.int r)) sh R μ' := (gX5_P hY n 60).2.2.2.2.1 _ _ _ _ h
def fX5_atom (n : Nat) (x1 : Int32) (μ : Mu) : Option (Int32 × Mu) := fX5_P n 60 5 x1 μ
theorem tX5_atom {l : Launch} {w : WP} {sh : List Sh} {R : Rf} {μ : Mu} {r : Int32} {μ' : Mu} (hY : LY sh R) (n : Nat) (x1 : Int32) (h : fX5_atom n x1 μ = some (r, μ')) : CM l w yX5_atom cX5_atom 3 (some .boolean) 63 0 0 sh R [.ref (wb w + 13), .int x1] μ (some (.int r)) sh R μ' := (gX5_P hY n 60).2.2.2.2.2 _ _ _ _ h
