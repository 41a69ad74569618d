def sX12_goesPairs_3 (n : Nat) (F : Nat → Int32 → Int32 → Int32 → Mu → Option (Mu)) (x1 : Int32) (x2 : Int32) (x3 : Int32) (μ : Mu) : Int32 → Option ((Int32) ⊕ (Int32)) := fun q => match q with | x4 => if (rI μ 140 4) ≤ x4 then (some (.inr x4)) else (bnd (fX12_isIn n (x1.toInt64) x4 μ) fun u3 => if u3 = 0 then (some (.inr x4)) else (some (.inl (x4 + 1))))
set_option maxRecDepth 100000 in
set_option maxHeartbeats 4000000 in
theorem lX12_goesPairs_3 {Z : ZC} {sh : List Sh} {R : Rf} {D : Nat} {o : (Int32) ⊕ (Int32)} (C : CX Z cX12_goesPairs 6 RX12) (hR : zR Z = rm (D + 1) 0 0) (hY : LY sh R) (n : Nat) (F : Nat → Int32 → Int32 → Int32 → Mu → Option (Mu)) (hD : 1 ≤ D) (hF0 : ∀ (x1 : Int32) (x2 : Int32) (x3 : Int32) (μ μ' : Mu), F 0 x1 x2 x3 μ = some μ' → CM Z.1.2.1 (zw Z) yX12_goesPairs cX12_goesPairs 6 none D 0 0 sh R [.ref (wb (zw Z) + 139), .int x1, .int x2, .int x3] μ none sh R μ') (x1 : Int32) (x2 : Int32) (x3 : Int32) (μ : Mu) (x4 : Int32) (h : sX12_goesPairs_3 n F x1 x2 x3 μ x4 = some o) (kin : ∀ (x4 : Int32), o = .inl x4 → Wm Z (0, 0, sh, R) μ 3 [(0, .ref (wb (zw Z) + 139)), (1, .int x1), (2, .int x2), (3, .int x3), (4, .int x4)] []) (kex0 : ∀ (x4 : Int32), o = .inr x4 → Wm Z (0, 0, sh, R) μ 30 [(0, .ref (wb (zw Z) + 139)), (1, .int x1), (2, .int x2), (3, .int x3), (4, .int x4)] []) : Wm Z (0, 0, sh, R) μ 3 [(0, .ref (wb (zw Z) + 139)), (1, .int x1), (2, .int x2), (3, .int x3), (4, .int x4)] [] := by
  unfold sX12_goesPairs_3 at h
  refine r_iload C dX12_goesPairs_3 4 rfl ?_
  refine r_aload_n C dX12_goesPairs_5 0 rfl ?_
  refine r_getR C flX12_13 dX12_goesPairs_6 (ly139 hY) rfl (lr139_1 hY) ?_
  refine r_iconst C dX12_goesPairs_9 ic_4 ?_
  refine r_iald C dX12_goesPairs_10 (ly140 hY) (by decide) ?_
  refine r_icmp_ge 30 C dX12_goesPairs_11 (by decide) (fun c1 => ?_) (fun c1 => ?_)
  · have h := (ite_inv h).1 c1
    exact kex0 x4 (Option.some.inj h).symm
  · have h := (ite_inv h).2 c1
    refine r_iload_n C dX12_goesPairs_14 1 rfl ?_
    refine r_i2l C dX12_goesPairs_15 ?_
    refine r_iload C dX12_goesPairs_16 4 rfl ?_
    obtain ⟨u3, e2, h⟩ := bnd_inv h
    refine r_cSi (As := [.long (x1.toInt64), .int x4]) (rest := []) C hR mlX12_213 dX12_goesPairs_18 (tX12_isIn hY n (x1.toInt64) x4  e2) rfl rfl (by omega) (nle rfl) (nle rfl) ?_
    refine r_if_eq 30 C dX12_goesPairs_21 (by decide) (fun c4 => ?_) (fun c4 => ?_)
    · have h := (ite_inv h).1 c4
      exact kex0 x4 (Option.some.inj h).symm
    · have h := (ite_inv h).2 c4
      refine r_iinc [(4, .int (x4 + 1)), (0, .ref (wb (zw Z) + 139)), (1, .int x1), (2, .int x2), (3, .int x3)] C dX12_goesPairs_24 4 rfl (in_1 _) (by decide) rfl ?_
      refine r_goto 3 C dX12_goesPairs_27 (by decide) ?_
      refine r_sub [(0, .ref (wb (zw Z) + 139)), (1, .int x1), (2, .int x2), (3, .int x3), (4, .int (x4 + 1))] [1, 2, 3, 4, 0] rfl ?_
      exact kin (x4 + 1) (Option.some.inj h).symm
def sX12_goesPairs_100 (n : Nat) (F : Nat → Int32 → Int32 → Int32 → Mu → Option (Mu)) (x1 : Int32) (x2 : Int32) (x3 : Int32) (x4 : Int32) : Int32 × Mu → Option ((Int32 × Mu) ⊕ (Mu)) := fun q => match q with | (x5, μ) => if (rI μ 140 4) ≤ x5 then (some (.inr μ)) else (bnd (fX12_isIn n (x1.toInt64) x5 μ) fun u10 => if u10 = 0 then (gd (ib x4 8) (gd (ib x5 8) (gd (ib ((8 * x4) + x5) 64) (bnd (F 0 ((x1 ||| (shl 1 x4)) ||| (shl 1 x5)) x2 (x3 + (rI (wI (wI μ 149 (ix x4) x5) 149 (ix x5) x4) 151 (ix ((8 * x4) + x5)))) (wI (wI μ 149 (ix x4) x5) 149 (ix x5) x4)) fun m16 => some (.inl (x5 + 1, m16)))))) else (some (.inl (x5 + 1, μ))))
set_option maxRecDepth 100000 in
set_option maxHeartbeats 4000000 in
theorem lX12_goesPairs_100 {Z : ZC} {sh : List Sh} {R : Rf} {D : Nat} {o : (Int32 × Mu) ⊕ (Mu)} (C : CX Z cX12_goesPairs 6 RX12) (hR : zR Z = rm (D + 1) 0 0) (hY : LY sh R) (n : Nat) (F : Nat → Int32 → Int32 → Int32 → Mu → Option (Mu)) (hD : 1 ≤ D) (hF0 : ∀ (x1 : Int32) (x2 : Int32) (x3 : Int32) (μ μ' : Mu), F 0 x1 x2 x3 μ = some μ' → CM Z.1.2.1 (zw Z) yX12_goesPairs cX12_goesPairs 6 none D 0 0 sh R [.ref (wb (zw Z) + 139), .int x1, .int x2, .int x3] μ none sh R μ') (x1 : Int32) (x2 : Int32) (x3 : Int32) (x4 : Int32) (x5 : Int32) (μ : Mu) (h : sX12_goesPairs_100 n F x1 x2 x3 x4 (x5, μ) = some o) (kin : ∀ (x5 : Int32) (μ : Mu), o = .inl (x5, μ) → Wm Z (0, 0, sh, R) μ 100 [(0, .ref (wb (zw Z) + 139)), (1, .int x1), (2, .int x2), (3, .int x3), (4, .int x4), (5, .int x5)] []) (kex0 : ∀ (μ : Mu), o = .inr μ → Wm Z (0, 0, sh, R) μ 179 [(0, .ref (wb (zw Z) + 139)), (1, .int x1), (2, .int x2), (3, .int x3), (4, .int x4)] []) : Wm Z (0, 0, sh, R) μ 100 [(0, .ref (wb (zw Z) + 139)), (1, .int x1), (2, .int x2), (3, .int x3), (4, .int x4), (5, .int x5)] [] := by
  unfold sX12_goesPairs_100 at h
  refine r_iload C dX12_goesPairs_100 5 rfl ?_
  refine r_aload_n C dX12_goesPairs_102 0 rfl ?_
  refine r_getR C flX12_13 dX12_goesPairs_103 (ly139 hY) rfl (lr139_1 hY) ?_
  refine r_iconst C dX12_goesPairs_106 ic_4 ?_
  refine r_iald C dX12_goesPairs_107 (ly140 hY) (by decide) ?_
  refine r_icmp_ge 179 C dX12_goesPairs_108 (by decide) (fun c8 => ?_) (fun c8 => ?_)
  · have h := (ite_inv h).1 c8
    refine r_sub [(0, .ref (wb (zw Z) + 139)), (1, .int x1), (2, .int x2), (3, .int x3), (4, .int x4)] [0, 1, 2, 3, 4] rfl ?_
    exact kex0 μ (Option.some.inj h).symm
  · have h := (ite_inv h).2 c8
    refine r_iload_n C dX12_goesPairs_111 1 rfl ?_
    refine r_i2l C dX12_goesPairs_112 ?_
    refine r_iload C dX12_goesPairs_113 5 rfl ?_
    obtain ⟨u10, e9, h⟩ := bnd_inv h
    refine r_cSi (As := [.long (x1.toInt64), .int x5]) (rest := []) C hR mlX12_213 dX12_goesPairs_115 (tX12_isIn hY n (x1.toInt64) x5  e9) rfl rfl (by omega) (nle rfl) (nle rfl) ?_
    refine r_if_eq 124 C dX12_goesPairs_118 (by decide) (fun c11 => ?_) (fun c11 => ?_)
    · have h := (ite_inv h).1 c11
      refine r_aload_n C dX12_goesPairs_124 0 rfl ?_
      refine r_getR C flX12_45 dX12_goesPairs_125 (ly139 hY) rfl (lr139_23 hY) ?_
      refine r_iload C dX12_goesPairs_128 4 rfl ?_
      refine r_iload C dX12_goesPairs_130 5 rfl ?_
      obtain ⟨b12, h⟩ := gd_inv h
      refine r_iast C dX12_goesPairs_132 (ly149 hY) b12 ?_
      refine r_aload_n C dX12_goesPairs_133 0 rfl ?_
      refine r_getR C flX12_45 dX12_goesPairs_134 (ly139 hY) rfl (lr139_23 hY) ?_
      refine r_iload C dX12_goesPairs_137 5 rfl ?_
      refine r_iload C dX12_goesPairs_139 4 rfl ?_
      obtain ⟨b13, h⟩ := gd_inv h
      refine r_iast C dX12_goesPairs_141 (ly149 hY) b13 ?_
      refine r_aload_n C dX12_goesPairs_142 0 rfl ?_
      refine r_iload_n C dX12_goesPairs_143 1 rfl ?_
      refine r_iconst C dX12_goesPairs_144 ic_1 ?_
      refine r_iload C dX12_goesPairs_145 4 rfl ?_
      refine r_ishl C dX12_goesPairs_147 ?_
      refine r_ior C dX12_goesPairs_148 ?_
      refine r_iconst C dX12_goesPairs_149 ic_1 ?_
      refine r_iload C dX12_goesPairs_150 5 rfl ?_
      refine r_ishl C dX12_goesPairs_152 ?_
      refine r_ior C dX12_goesPairs_153 ?_
      refine r_iload_n C dX12_goesPairs_154 2 rfl ?_
      refine r_iload_n C dX12_goesPairs_155 3 rfl ?_
      refine r_aload_n C dX12_goesPairs_156 0 rfl ?_
      refine r_getR C flX12_51 dX12_goesPairs_157 (ly139 hY) rfl (lr139_25 hY) ?_
      refine r_bipush C dX12_goesPairs_160 bp_8 ?_
      refine r_iload C dX12_goesPairs_162 4 rfl ?_
      refine r_imul C dX12_goesPairs_164 ?_
      refine r_iload C dX12_goesPairs_165 5 rfl ?_
      refine r_iadd C dX12_goesPairs_167 ?_
      obtain ⟨b14, h⟩ := gd_inv h
      refine r_iald C dX12_goesPairs_168 (ly151 hY) b14 ?_
      refine r_iadd C dX12_goesPairs_169 ?_
      obtain ⟨m16, e15, h⟩ := bnd_inv h
      refine r_cVv (As := [.int ((x1 ||| (shl 1 x4)) ||| (shl 1 x5)), .int x2, .int (x3 + (rI (wI (wI μ 149 (ix x4) x5) 149 (ix x5) x4) 151 (ix ((8 * x4) + x5))))]) (rest := []) C hR mlX12_406 dX12_goesPairs_170 (hF0 _ _ _ _ _ e15) rfl rfl (ly139 hY) rfl (by omega) (nle rfl) (nle rfl) ?_
      refine r_iinc [(5, .int (x5 + 1)), (0, .ref (wb (zw Z) + 139)), (1, .int x1), (2, .int x2), (3, .int x3), (4, .int x4)] C dX12_goesPairs_173 5 rfl (in_1 _) (by decide) rfl ?_
      refine r_goto 100 C dX12_goesPairs_176 (by decide) ?_
      refine r_sub [(0, .ref (wb (zw Z) + 139)), (1, .int x1), (2, .int x2), (3, .int x3), (4, .int x4), (5, .int (x5 + 1))] [1, 2, 3, 4, 5, 0] rfl ?_
      exact kin (x5 + 1) m16 (Option.some.inj h).symm
    · have h := (ite_inv h).2 c11
      refine r_goto 173 C dX12_goesPairs_121 (by decide) ?_
      refine r_iinc [(5, .int (x5 + 1)), (0, .ref (wb (zw Z) + 139)), (1, .int x1), (2, .int x2), (3, .int x3), (4, .int x4)] C dX12_goesPairs_173 5 rfl (in_1 _) (by decide) rfl ?_
      refine r_goto 100 C dX12_goesPairs_176 (by decide) ?_
      refine r_sub [(0, .ref (wb (zw Z) + 139)), (1, .int x1), (2, .int x2), (3, .int x3), (4, .int x4), (5, .int (x5 + 1))] [1, 2, 3, 4, 5, 0] rfl ?_
      exact kin (x5 + 1) μ (Option.some.inj h).symm
def sX12_goesPairs_66 (n : Nat) (F : Nat → Int32 → Int32 → Int32 → Mu → Option (Mu)) : Int32 × Mu → Option ((Int32 × Mu) ⊕ (Mu)) := fun q => match q with | (x5, μ) => if 8 ≤ x5 then (some (.inr μ)) else (gd (ib x5 8) (gd (ib x5 8) (some (.inl (x5 + 1, wI μ 150 (ix x5) (rI μ 149 (ix x5)))))))
set_option maxRecDepth 100000 in
set_option maxHeartbeats 4000000 in
theorem lX12_goesPairs_66 {Z : ZC} {sh : List Sh} {R : Rf} {D : Nat} {o : (Int32 × Mu) ⊕ (Mu)} (C : CX Z cX12_goesPairs 6 RX12) (hR : zR Z = rm (D + 1) 0 0) (hY : LY sh R) (n : Nat) (F : Nat → Int32 → Int32 → Int32 → Mu → Option (Mu)) (hD : 1 ≤ D) (hF0 : ∀ (x1 : Int32) (x2 : Int32) (x3 : Int32) (μ μ' : Mu), F 0 x1 x2 x3 μ = some μ' → CM Z.1.2.1 (zw Z) yX12_goesPairs cX12_goesPairs 6 none D 0 0 sh R [.ref (wb (zw Z) + 139), .int x1, .int x2, .int x3] μ none sh R μ')  (x5 : Int32) (μ : Mu) (h : sX12_goesPairs_66 n F (x5, μ) = some o) (kin : ∀ (x5 : Int32) (μ : Mu), o = .inl (x5, μ) → Wm Z (0, 0, sh, R) μ 66 [(0, .ref (wb (zw Z) + 139)), (5, .int x5)] []) (kex0 : ∀ (μ : Mu), o = .inr μ → Wm Z (0, 0, sh, R) μ 93 [] []) : Wm Z (0, 0, sh, R) μ 66 [(0, .ref (wb (zw Z) + 139)), (5, .int x5)] [] := by
  unfold sX12_goesPairs_66 at h
  refine r_iload C dX12_goesPairs_66 1 rfl ?_
  refine r_bipush C dX12_goesPairs_68 bp_8 ?_
  refine r_icmp_ge 93 C dX12_goesPairs_70 (by decide) (fun c24 => ?_) (fun c24 => ?_)
  · have h := (ite_inv h).1 c24
    refine r_sub [] [] rfl ?_
    exact kex0 μ (Option.some.inj h).symm
  · have h := (ite_inv h).2 c24
    refine r_aload_n C dX12_goesPairs_73 0 rfl ?_
    refine r_getR C flX12_48 dX12_goesPairs_74 (ly139 hY) rfl (lr139_24 hY) ?_
    refine r_iload C dX12_goesPairs_77 1 rfl ?_
    refine r_aload_n C dX12_goesPairs_79 0 rfl ?_
    refine r_getR C flX12_45 dX12_goesPairs_80 (ly139 hY) rfl (lr139_23 hY) ?_
    refine r_iload C dX12_goesPairs_83 1 rfl ?_
    obtain ⟨b25, h⟩ := gd_inv h
    refine r_iald C dX12_goesPairs_85 (ly149 hY) b25 ?_
    obtain ⟨b26, h⟩ := gd_inv h
    refine r_iast C dX12_goesPairs_86 (ly150 hY) b26 ?_
    refine r_iinc [(5, .int (x5 + 1)), (0, .ref (wb (zw Z) + 139))] C dX12_goesPairs_87 1 rfl (in_1 _) (by decide) rfl ?_
    refine r_goto 66 C dX12_goesPairs_90 (by decide) ?_
    refine r_sub [(0, .ref (wb (zw Z) + 139)), (5, .int (x5 + 1))] [1, 0] rfl ?_
    exact kin (x5 + 1) (wI μ 150 (ix x5) (rI μ 149 (ix x5))) (Option.some.inj h).symm
def jX12_goesPairs_58 (n : Nat) (F : Nat → Int32 → Int32 → Int32 → Mu → Option (Mu)) (x3 : Int32) (μ : Mu) : Option (Mu) := bnd (lp n (sX12_goesPairs_66 n F) (0, wI μ 139 26 x3)) fun q => match q with | m27 => some m27
set_option maxRecDepth 100000 in
set_option maxHeartbeats 4000000 in
theorem kX12_goesPairs_58 {Z : ZC} {sh : List Sh} {R : Rf} {D : Nat} {μ' : Mu} (C : CX Z cX12_goesPairs 6 RX12) (hR : zR Z = rm (D + 1) 0 0) (hY : LY sh R) (n : Nat) (F : Nat → Int32 → Int32 → Int32 → Mu → Option (Mu)) (hD : 1 ≤ D) (hF0 : ∀ (x1 : Int32) (x2 : Int32) (x3 : Int32) (μ μ' : Mu), F 0 x1 x2 x3 μ = some μ' → CM Z.1.2.1 (zw Z) yX12_goesPairs cX12_goesPairs 6 none D 0 0 sh R [.ref (wb (zw Z) + 139), .int x1, .int x2, .int x3] μ none sh R μ') (x3 : Int32) (μ : Mu) (h : jX12_goesPairs_58 n F x3 μ = some μ') (hr : (zme Z).sig.returnType = none) (hE : zEnd Z (0, 0, sh, R) μ' none) : Wm Z (0, 0, sh, R) μ 58 [(0, .ref (wb (zw Z) + 139)), (3, .int x3)] [] := by
  unfold jX12_goesPairs_58 at h
  refine r_aload_n C dX12_goesPairs_58 0 rfl ?_
  refine r_iload_n C dX12_goesPairs_59 1 rfl ?_
  refine r_putI C fiX12_403 dX12_goesPairs_60 (ly139 hY) ?_
  refine r_iconst C dX12_goesPairs_63 ic_0 ?_
  refine r_istore [(5, .int 0), (0, .ref (wb (zw Z) + 139)), (3, .int x3)] C dX12_goesPairs_64 (by decide) rfl ?_
  refine r_sub [(0, .ref (wb (zw Z) + 139)), (5, .int 0)] [1, 0] rfl ?_
  obtain ⟨m27, e28, h⟩ := bnd_inv h
  refine lp_all (sX12_goesPairs_66 n F) (fun q => match q with | (z5, ν) => Wm Z (0, 0, sh, R) (ν) 66 [(0, .ref (wb (zw Z) + 139)), (5, .int z5)] []) (fun q => match q with | ν => Wm Z (0, 0, sh, R) (ν) 93 [] []) (fun q o h kin kex => ?_) n (0, wI μ 139 26 x3) m27 e28 ?_
  · obtain ⟨z5, ν⟩ := q; exact lX12_goesPairs_66 C hR hY n F hD hF0  z5 ν h (fun z5 ν e => kin (z5, ν) e) (fun ν e => kex (ν) e)
  show Wm Z (0, 0, sh, R) m27 93 [] []
  have h := Option.some.inj h
  subst h
  exact r_vret C dX12_goesPairs_93 hr hE
def jX12_goesPairs_30 (n : Nat) (F : Nat → Int32 → Int32 → Int32 → Mu → Option (Mu)) (x1 : Int32) (x2 : Int32) (x3 : Int32) (x4 : Int32) (μ : Mu) : Option (Mu) := if x4 = (rI μ 140 4) then (if (rI μ 139 26) = (-1) then (jX12_goesPairs_58 n F x3 μ) else (if x3 < (rI μ 139 26) then (jX12_goesPairs_58 n F x3 μ) else (some μ))) else (bnd (lp n (sX12_goesPairs_100 n F x1 x2 x3 x4) (x4 + 1, μ)) fun q => match q with | m17 => if x2 = 0 then (some m17) else (gd (ib x4 8) (bnd (F 0 (x1 ||| (shl 1 x4)) 0 x3 (wI m17 149 (ix x4) (-1))) fun m22 => some m22)))
set_option maxRecDepth 100000 in
set_option maxHeartbeats 4000000 in
theorem kX12_goesPairs_30 {Z : ZC} {sh : List Sh} {R : Rf} {D : Nat} {μ' : Mu} (C : CX Z cX12_goesPairs 6 RX12) (hR : zR Z = rm (D + 1) 0 0) (hY : LY sh R) (n : Nat) (F : Nat → Int32 → Int32 → Int32 → Mu → Option (Mu)) (hD : 1 ≤ D) (hF0 : ∀ (x1 : Int32) (x2 : Int32) (x3 : Int32) (μ μ' : Mu), F 0 x1 x2 x3 μ = some μ' → CM Z.1.2.1 (zw Z) yX12_goesPairs cX12_goesPairs 6 none D 0 0 sh R [.ref (wb (zw Z) + 139), .int x1, .int x2, .int x3] μ none sh R μ') (x1 : Int32) (x2 : Int32) (x3 : Int32) (x4 : Int32) (μ : Mu) (h : jX12_goesPairs_30 n F x1 x2 x3 x4 μ = some μ') (hr : (zme Z).sig.returnType = none) (hE : zEnd Z (0, 0, sh, R) μ' none) : Wm Z (0, 0, sh, R) μ 30 [(0, .ref (wb (zw Z) + 139)), (1, .int x1), (2, .int x2), (3, .int x3), (4, .int x4)] [] := by
  unfold jX12_goesPairs_30 at h
  refine r_iload C dX12_goesPairs_30 4 rfl ?_
  refine r_aload_n C dX12_goesPairs_32 0 rfl ?_
  refine r_getR C flX12_13 dX12_goesPairs_33 (ly139 hY) rfl (lr139_1 hY) ?_
  refine r_iconst C dX12_goesPairs_36 ic_4 ?_
  refine r_iald C dX12_goesPairs_37 (ly140 hY) (by decide) ?_
  refine r_icmp_ne 94 C dX12_goesPairs_38 (by decide) (fun c7 => ?_) (fun c7 => ?_)
  · have h := (ite_inv h).2 c7
    refine r_iload C dX12_goesPairs_94 4 rfl ?_
    refine r_iconst C dX12_goesPairs_96 ic_1 ?_
    refine r_iadd C dX12_goesPairs_97 ?_
    refine r_istore [(5, .int (x4 + 1)), (0, .ref (wb (zw Z) + 139)), (1, .int x1), (2, .int x2), (3, .int x3), (4, .int x4)] C dX12_goesPairs_98 (by decide) rfl ?_
    refine r_sub [(0, .ref (wb (zw Z) + 139)), (1, .int x1), (2, .int x2), (3, .int x3), (4, .int x4), (5, .int (x4 + 1))] [1, 2, 3, 4, 5, 0] rfl ?_
    obtain ⟨m17, e18, h⟩ := bnd_inv h
    refine lp_all (sX12_goesPairs_100 n F x1 x2 x3 x4) (fun q => match q with | (z5, ν) => Wm Z (0, 0, sh, R) (ν) 100 [(0, .ref (wb (zw Z) + 139)), (1, .int x1), (2, .int x2), (3, .int x3), (4, .int x4), (5, .int z5)] []) (fun q => match q with | ν => Wm Z (0, 0, sh, R) (ν) 179 [(0, .ref (wb (zw Z) + 139)), (1, .int x1), (2, .int x2), (3, .int x3), (4, .int x4)] []) (fun q o h kin kex => ?_) n (x4 + 1, μ) m17 e18 ?_
    · obtain ⟨z5, ν⟩ := q; exact lX12_goesPairs_100 C hR hY n F hD hF0 x1 x2 x3 x4 z5 ν h (fun z5 ν e => kin (z5, ν) e) (fun ν e => kex (ν) e)
    show Wm Z (0, 0, sh, R) m17 179 [(0, .ref (wb (zw Z) + 139)), (1, .int x1), (2, .int x2), (3, .int x3), (4, .int x4)] []
    refine r_iload_n C dX12_goesPairs_179 2 rfl ?_
    refine r_if_ne 184 C dX12_goesPairs_180 (by decide) (fun c19 => ?_) (fun c19 => ?_)
    · have h := (ite_inv h).2 c19
      refine r_aload_n C dX12_goesPairs_184 0 rfl ?_
      refine r_getR C flX12_45 dX12_goesPairs_185 (ly139 hY) rfl (lr139_23 hY) ?_
      refine r_iload C dX12_goesPairs_188 4 rfl ?_
      refine r_iconst C dX12_goesPairs_190 ic_m1 ?_
      obtain ⟨b20, h⟩ := gd_inv h
      refine r_iast C dX12_goesPairs_191 (ly149 hY) b20 ?_
      refine r_aload_n C dX12_goesPairs_192 0 rfl ?_
      refine r_iload_n C dX12_goesPairs_193 1 rfl ?_
      refine r_iconst C dX12_goesPairs_194 ic_1 ?_
      refine r_iload C dX12_goesPairs_195 4 rfl ?_
      refine r_ishl C dX12_goesPairs_197 ?_
      refine r_ior C dX12_goesPairs_198 ?_
      refine r_iconst C dX12_goesPairs_199 ic_0 ?_
      refine r_iload_n C dX12_goesPairs_200 3 rfl ?_
      obtain ⟨m22, e21, h⟩ := bnd_inv h
      refine r_cVv (As := [.int (x1 ||| (shl 1 x4)), .int 0, .int x3]) (rest := []) C hR mlX12_406 dX12_goesPairs_201 (hF0 _ _ _ _ _ e21) rfl rfl (ly139 hY) rfl (by omega) (nle rfl) (nle rfl) ?_
      have h := Option.some.inj h
      subst h
      exact r_vret C dX12_goesPairs_204 hr hE
    · have h := (ite_inv h).1 c19
      have h := Option.some.inj h
      subst h
      exact r_vret C dX12_goesPairs_183 hr hE
  · have h := (ite_inv h).1 c7
    refine r_aload_n C dX12_goesPairs_41 0 rfl ?_
    refine r_getI C flX12_403 dX12_goesPairs_42 (ly139 hY) rfl ?_
    refine r_iconst C dX12_goesPairs_45 ic_m1 ?_
    refine r_icmp_eq 58 C dX12_goesPairs_46 (by decide) (fun c23 => ?_) (fun c23 => ?_)
    · have h := (ite_inv h).1 c23
      refine r_sub [(0, .ref (wb (zw Z) + 139)), (3, .int x3)] [0, 3] rfl ?_
      exact kX12_goesPairs_58 C hR hY n F hD hF0 x3 μ h hr hE
    · have h := (ite_inv h).2 c23
      refine r_iload_n C dX12_goesPairs_49 3 rfl ?_
      refine r_aload_n C dX12_goesPairs_50 0 rfl ?_
      refine r_getI C flX12_403 dX12_goesPairs_51 (ly139 hY) rfl ?_
      refine r_icmp_lt 58 C dX12_goesPairs_54 (by decide) (fun c29 => ?_) (fun c29 => ?_)
      · have h := (ite_inv h).1 c29
        refine r_sub [(0, .ref (wb (zw Z) + 139)), (3, .int x3)] [0, 3] rfl ?_
        exact kX12_goesPairs_58 C hR hY n F hD hF0 x3 μ h hr hE
      · have h := (ite_inv h).2 c29
        have h := Option.some.inj h
        subst h
        exact r_vret C dX12_goesPairs_57 hr hE
def bX12_goesPairs (n : Nat) (F : Nat → Int32 → Int32 → Int32 → Mu → Option (Mu)) (x1 : Int32) (x2 : Int32) (x3 : Int32) (μ : Mu) : Option (Mu) := bnd (lp n (sX12_goesPairs_3 n F x1 x2 x3 μ) 0) fun q => match q with | u5 => jX12_goesPairs_30 n F x1 x2 x3 u5 μ
set_option maxRecDepth 100000 in
set_option maxHeartbeats 4000000 in
theorem qX12_goesPairs {l : Launch} {w : WP} {sh : List Sh} {R : Rf} {μ : Mu} {μ' : Mu} (hY : LY sh R) (n : Nat) (F : Nat → Int32 → Int32 → Int32 → Mu → Option (Mu)) (x1 : Int32) (x2 : Int32) (x3 : Int32) (D : Nat) (hD : 1 ≤ D) (hF0 : ∀ (x1 : Int32) (x2 : Int32) (x3 : Int32) (μ μ' : Mu), F 0 x1 x2 x3 μ = some μ' → CM l w yX12_goesPairs cX12_goesPairs 6 none D 0 0 sh R [.ref (wb w + 139), .int x1, .int x2, .int x3] μ none sh R μ') (h : bX12_goesPairs n F x1 x2 x3 μ = some μ') : CM l w yX12_goesPairs cX12_goesPairs 6 none (D + 1) 0 0 sh R [.ref (wb w + 139), .int x1, .int x2, .int x3] μ none sh R μ' := by
  refine CM.of (plainFor_of_name pf_X12) (Nat.le_of_ble_eq_true rfl) fun Z C hr _ hR hw hl hE => ?_
  subst hw; subst hl
  have C : CX Z cX12_goesPairs 6 RX12 := C
  show Wm Z (0, 0, sh, R) μ 0 [(0, .ref (wb (zw Z) + 139)), (1, .int x1), (2, .int x2), (3, .int x3)] []
  unfold bX12_goesPairs at h
  refine r_iconst C dX12_goesPairs_0 ic_0 ?_
  refine r_istore [(4, .int 0), (0, .ref (wb (zw Z) + 139)), (1, .int x1), (2, .int x2), (3, .int x3)] C dX12_goesPairs_1 (by decide) rfl ?_
  refine r_sub [(0, .ref (wb (zw Z) + 139)), (1, .int x1), (2, .int x2), (3, .int x3), (4, .int 0)] [1, 2, 3, 4, 0] rfl ?_
  obtain ⟨u5, e6, h⟩ := bnd_inv h
  refine lp_all (sX12_goesPairs_3 n F x1 x2 x3 μ) (fun q => match q with | z4 => Wm Z (0, 0, sh, R) μ 3 [(0, .ref (wb (zw Z) + 139)), (1, .int x1), (2, .int x2), (3, .int x3), (4, .int z4)] []) (fun q => match q with | z4 => Wm Z (0, 0, sh, R) μ 30 [(0, .ref (wb (zw Z) + 139)), (1, .int x1), (2, .int x2), (3, .int x3), (4, .int z4)] []) (fun q o h kin kex => ?_) n 0 u5 e6 ?_
  · exact lX12_goesPairs_3 C hR hY n F hD hF0 x1 x2 x3 μ q h (fun z4 e => kin z4 e) (fun z4 e => kex z4 e)
  show Wm Z (0, 0, sh, R) μ 30 [(0, .ref (wb (zw Z) + 139)), (1, .int x1), (2, .int x2), (3, .int x3), (4, .int u5)] []
  exact kX12_goesPairs_30 C hR hY n F hD hF0 x1 x2 x3 u5 μ h hr hE
def fX12_Q (n : Nat) : Nat → Nat → Int32 → Int32 → Int32 → Mu → Option (Mu)
  | 0 => fun _ _ _ _ _ => none
  | d + 1 => fun k x1 x2 x3 μ => match k with
    | _ => bX12_goesPairs n (fX12_Q n d) x1 x2 x3 μ
theorem gX12_Q {l : Launch} {w : WP} {sh : List Sh} {R : Rf} (hY : LY sh R) (n : Nat) : ∀ d : Nat, (∀ (x1 : Int32) (x2 : Int32) (x3 : Int32) (μ μ' : Mu), fX12_Q n d 0 x1 x2 x3 μ = some μ' → CM l w yX12_goesPairs cX12_goesPairs 6 none (d + 1) 0 0 sh R [.ref (wb w + 139), .int x1, .int x2, .int x3] μ none sh R μ') := by
  intro d
  induction d with
  | zero => exact fun _ _ _ _ _ h => by cases h
  | succ d ih =>
    have h0 := ih
    have e : d + 1 + 1 = d + 1 + 1 := by omega
    rw [e]
    exact fun v0 v1 v2 _ _ h => qX12_goesPairs hY n (fX12_Q n d) v0 v1 v2 (d + 1) (by omega) h0 h
def fX12_goesPairs (n : Nat) (x1 : Int32) (x2 : Int32) (x3 : Int32) (μ : Mu) : Option (Mu) := fX12_Q n 12 0 x1 x2 x3 μ
theorem tX12_goesPairs {l : Launch} {w : WP} {sh : List Sh} {R : Rf} {μ : Mu} {μ' : Mu} (hY : LY sh R) (n : Nat) (x1 : Int32) (x2 : Int32) (x3 : Int32) (h : fX12_goesPairs n x1 x2 x3 μ = some μ') : CM l w yX12_goesPairs cX12_goesPairs 6 none 13 0 0 sh R [.ref (wb w + 139), .int x1, .int x2, .int x3] μ none sh R μ' := (gX12_Q hY n 12) _ _ _ _ _ h
def sX12_pairs_47 (n : Nat) (x1 : Int32) (x2 : Int32) : Int32 × Mu → Option ((Int32 × Mu) ⊕ (Mu)) := fun q => match q with | (x3, μ) => if (rI μ 140 4) ≤ x3 then (some (.inr μ)) else (gd (ib (56 + x2) 6726) (gd (ib (56 + x3) 6726) (bnd2 (fX12_unlikeOf n (rI μ 140 (ix (56 + x2))) (rI μ 140 (ix (56 + x3))) μ) fun u7 m8 => gd (ib ((8 * x2) + x3) 64) (some (.inl (x3 + 1, wI m8 151 (ix ((8 * x2) + x3)) u7))))))
set_option maxRecDepth 100000 in
set_option maxHeartbeats 4000000 in
theorem lX12_pairs_47 {Z : ZC} {sh : List Sh} {R : Rf} {o : (Int32 × Mu) ⊕ (Mu)} (C : CX Z cX12_pairs 4 RX12) (hR : zR Z = rm 14 0 0) (hY : LY sh R) (n : Nat) (x1 : Int32) (x2 : Int32) (x3 : Int32) (μ : Mu) (h : sX12_pairs_47 n x1 x2 (x3, μ) = some o) (kin : ∀ (x3 : Int32) (μ : Mu), o = .inl (x3, μ) → Wm Z (0, 0, sh, R) μ 47 [(0, .ref (wb (zw Z) + 139)), (1, .int x1), (2, .int x2), (3, .int x3)] []) (kex0 : ∀ (μ : Mu), o = .inr μ → Wm Z (0, 0, sh, R) μ 96 [(0, .ref (wb (zw Z) + 139)), (1, .int x1), (2, .int x2)] []) : Wm Z (0, 0, sh, R) μ 47 [(0, .ref (wb (zw Z) + 139)), (1, .int x1), (2, .int x2), (3, .int x3)] [] := by
  unfold sX12_pairs_47 at h
  refine r_iload_n C dX12_pairs_47 3 rfl ?_
  refine r_aload_n C dX12_pairs_48 0 rfl ?_
  refine r_getR C flX12_13 dX12_pairs_49 (ly139 hY) rfl (lr139_1 hY) ?_
  refine r_iconst C dX12_pairs_52 ic_4 ?_
  refine r_iald C dX12_pairs_53 (ly140 hY) (by decide) ?_
  refine r_icmp_ge 96 C dX12_pairs_54 (by decide) (fun c3 => ?_) (fun c3 => ?_)
  · have h := (ite_inv h).1 c3
    refine r_sub [(0, .ref (wb (zw Z) + 139)), (1, .int x1), (2, .int x2)] [0, 1, 2] rfl ?_
    exact kex0 μ (Option.some.inj h).symm
  · have h := (ite_inv h).2 c3
    refine r_aload_n C dX12_pairs_57 0 rfl ?_
    refine r_getR C flX12_51 dX12_pairs_58 (ly139 hY) rfl (lr139_25 hY) ?_
    refine r_bipush C dX12_pairs_61 bp_8 ?_
    refine r_iload_n C dX12_pairs_63 2 rfl ?_
    refine r_imul C dX12_pairs_64 ?_
    refine r_iload_n C dX12_pairs_65 3 rfl ?_
    refine r_iadd C dX12_pairs_66 ?_
    refine r_aload_n C dX12_pairs_67 0 rfl ?_
    refine r_aload_n C dX12_pairs_68 0 rfl ?_
    refine r_getR C flX12_13 dX12_pairs_69 (ly139 hY) rfl (lr139_1 hY) ?_
    refine r_bipush C dX12_pairs_72 bp_56 ?_
    refine r_iload_n C dX12_pairs_74 2 rfl ?_
    refine r_iadd C dX12_pairs_75 ?_
    obtain ⟨b4, h⟩ := gd_inv h
    refine r_iald C dX12_pairs_76 (ly140 hY) b4 ?_
    refine r_aload_n C dX12_pairs_77 0 rfl ?_
    refine r_getR C flX12_13 dX12_pairs_78 (ly139 hY) rfl (lr139_1 hY) ?_
    refine r_bipush C dX12_pairs_81 bp_56 ?_
    refine r_iload_n C dX12_pairs_83 3 rfl ?_
    refine r_iadd C dX12_pairs_84 ?_
    obtain ⟨b5, h⟩ := gd_inv h
    refine r_iald C dX12_pairs_85 (ly140 hY) b5 ?_
    obtain ⟨u7, m8, e6, h⟩ := bnd2_inv h
    refine r_cVi (As := [.int (rI μ 140 (ix (56 + x2))), .int (rI μ 140 (ix (56 + x3)))]) (rest := [.int ((8 * x2) + x3), .ref (wb (zw Z) + 151)]) C hR mlX12_400 dX12_pairs_86 (tX12_unlikeOf hY n (rI μ 140 (ix (56 + x2))) (rI μ 140 (ix (56 + x3)))  e6) rfl rfl (ly139 hY) rfl (nle rfl) (nle rfl) (nle rfl) ?_
    obtain ⟨b9, h⟩ := gd_inv h
    refine r_iast C dX12_pairs_89 (ly151 hY) b9 ?_
    refine r_iinc [(3, .int (x3 + 1)), (0, .ref (wb (zw Z) + 139)), (1, .int x1), (2, .int x2)] C dX12_pairs_90 3 rfl (in_1 _) (by decide) rfl ?_
    refine r_goto 47 C dX12_pairs_93 (by decide) ?_
    refine r_sub [(0, .ref (wb (zw Z) + 139)), (1, .int x1), (2, .int x2), (3, .int (x3 + 1))] [1, 2, 3, 0] rfl ?_
    exact kin (x3 + 1) (wI m8 151 (ix ((8 * x2) + x3)) u7) (Option.some.inj h).symm
def sX12_pairs_35 (n : Nat) (x1 : Int32) : Int32 × Mu → Option ((Int32 × Mu) ⊕ (Mu)) := fun q => match q with | (x2, μ) => if (rI μ 140 4) ≤ x2 then (some (.inr μ)) else (bnd (lp n (sX12_pairs_47 n x1 x2) (0, μ)) fun q => match q with | m10 => some (.inl (x2 + 1, m10)))
set_option maxRecDepth 100000 in
set_option maxHeartbeats 4000000 in
theorem lX12_pairs_35 {Z : ZC} {sh : List Sh} {R : Rf} {o : (Int32 × Mu) ⊕ (Mu)} (C : CX Z cX12_pairs 4 RX12) (hR : zR Z = rm 14 0 0) (hY : LY sh R) (n : Nat) (x1 : Int32) (x2 : Int32) (μ : Mu) (h : sX12_pairs_35 n x1 (x2, μ) = some o) (kin : ∀ (x2 : Int32) (μ : Mu), o = .inl (x2, μ) → Wm Z (0, 0, sh, R) μ 35 [(0, .ref (wb (zw Z) + 139)), (1, .int x1), (2, .int x2)] []) (kex0 : ∀ (μ : Mu), o = .inr μ → Wm Z (0, 0, sh, R) μ 102 [(0, .ref (wb (zw Z) + 139)), (1, .int x1)] []) : Wm Z (0, 0, sh, R) μ 35 [(0, .ref (wb (zw Z) + 139)), (1, .int x1), (2, .int x2)] [] := by
  unfold sX12_pairs_35 at h
  refine r_iload_n C dX12_pairs_35 2 rfl ?_
  refine r_aload_n C dX12_pairs_36 0 rfl ?_
  refine r_getR C flX12_13 dX12_pairs_37 (ly139 hY) rfl (lr139_1 hY) ?_
  refine r_iconst C dX12_pairs_40 ic_4 ?_
  refine r_iald C dX12_pairs_41 (ly140 hY) (by decide) ?_
  refine r_icmp_ge 102 C dX12_pairs_42 (by decide) (fun c2 => ?_) (fun c2 => ?_)
  · have h := (ite_inv h).1 c2
    refine r_sub [(0, .ref (wb (zw Z) + 139)), (1, .int x1)] [0, 1] rfl ?_
    exact kex0 μ (Option.some.inj h).symm
  · have h := (ite_inv h).2 c2
    refine r_iconst C dX12_pairs_45 ic_0 ?_
    refine r_istore_n [(3, .int 0), (0, .ref (wb (zw Z) + 139)), (1, .int x1), (2, .int x2)] C dX12_pairs_46 rfl (by decide) rfl ?_
    refine r_sub [(0, .ref (wb (zw Z) + 139)), (1, .int x1), (2, .int x2), (3, .int 0)] [1, 2, 3, 0] rfl ?_
    obtain ⟨m10, e11, h⟩ := bnd_inv h
    refine lp_all (sX12_pairs_47 n x1 x2) (fun q => match q with | (z3, ν) => Wm Z (0, 0, sh, R) (ν) 47 [(0, .ref (wb (zw Z) + 139)), (1, .int x1), (2, .int x2), (3, .int z3)] []) (fun q => match q with | ν => Wm Z (0, 0, sh, R) (ν) 96 [(0, .ref (wb (zw Z) + 139)), (1, .int x1), (2, .int x2)] []) (fun q o h kin kex => ?_) n (0, μ) m10 e11 ?_
    · obtain ⟨z3, ν⟩ := q; exact lX12_pairs_47 C hR hY n   x1 x2 z3 ν h (fun z3 ν e => kin (z3, ν) e) (fun ν e => kex (ν) e)
    show Wm Z (0, 0, sh, R) m10 96 [(0, .ref (wb (zw Z) + 139)), (1, .int x1), (2, .int x2)] []
    refine r_iinc [(2, .int (x2 + 1)), (0, .ref (wb (zw Z) + 139)), (1, .int x1)] C dX12_pairs_96 2 rfl (in_1 _) (by decide) rfl ?_
    refine r_goto 35 C dX12_pairs_99 (by decide) ?_
    refine r_sub [(0, .ref (wb (zw Z) + 139)), (1, .int x1), (2, .int (x2 + 1))] [1, 2, 0] rfl ?_
    exact kin (x2 + 1) m10 (Option.some.inj h).symm
def jX12_pairs_33 (n : Nat) (x1 : Int32) (μ : Mu) : Option (Int32 × Mu) := bnd (lp n (sX12_pairs_35 n x1) (0, μ)) fun q => match q with | m12 => bnd (fX12_goesPairs n 0 (if (jrem (rI (wI m12 139 26 (-1)) 140 4) 2) = 1 then 1 else 0 : Int32) 0 (wI m12 139 26 (-1))) fun m16 => if x1 = 0 then (some (rI m16 139 26, m16)) else (gd (ib (x1 - 10) 8) (some (rI m16 150 (ix (x1 - 10)), m16)))
set_option maxRecDepth 100000 in
set_option maxHeartbeats 4000000 in
theorem kX12_pairs_33 {Z : ZC} {sh : List Sh} {R : Rf} {r : Int32} {μ' : Mu} (C : CX Z cX12_pairs 4 RX12) (hR : zR Z = rm 14 0 0) (hY : LY sh R) (n : Nat) (x1 : Int32) (μ : Mu) (h : jX12_pairs_33 n x1 μ = some (r, μ')) (hr : (zme Z).sig.returnType = (some .int)) (hE : zEnd Z (0, 0, sh, R) μ' (some (.int r))) : Wm Z (0, 0, sh, R) μ 33 [(0, .ref (wb (zw Z) + 139)), (1, .int x1)] [] := by
  unfold jX12_pairs_33 at h
  refine r_iconst C dX12_pairs_33 ic_0 ?_
  refine r_istore_n [(2, .int 0), (0, .ref (wb (zw Z) + 139)), (1, .int x1)] C dX12_pairs_34 rfl (by decide) rfl ?_
  refine r_sub [(0, .ref (wb (zw Z) + 139)), (1, .int x1), (2, .int 0)] [1, 2, 0] rfl ?_
  obtain ⟨m12, e13, h⟩ := bnd_inv h
  refine lp_all (sX12_pairs_35 n x1) (fun q => match q with | (z2, ν) => Wm Z (0, 0, sh, R) (ν) 35 [(0, .ref (wb (zw Z) + 139)), (1, .int x1), (2, .int z2)] []) (fun q => match q with | ν => Wm Z (0, 0, sh, R) (ν) 102 [(0, .ref (wb (zw Z) + 139)), (1, .int x1)] []) (fun q o h kin kex => ?_) n (0, μ) m12 e13 ?_
  · obtain ⟨z2, ν⟩ := q; exact lX12_pairs_35 C hR hY n   x1 z2 ν h (fun z2 ν e => kin (z2, ν) e) (fun ν e => kex (ν) e)
  show Wm Z (0, 0, sh, R) m12 102 [(0, .ref (wb (zw Z) + 139)), (1, .int x1)] []
  refine r_aload_n C dX12_pairs_102 0 rfl ?_
  refine r_iconst C dX12_pairs_103 ic_m1 ?_
  refine r_putI C fiX12_403 dX12_pairs_104 (ly139 hY) ?_
  refine r_aload_n C dX12_pairs_107 0 rfl ?_
  refine r_iconst C dX12_pairs_108 ic_0 ?_
  refine r_aload_n C dX12_pairs_109 0 rfl ?_
  refine r_getR C flX12_13 dX12_pairs_110 (ly139 hY) rfl (lr139_1 hY) ?_
  refine r_iconst C dX12_pairs_113 ic_4 ?_
  refine r_iald C dX12_pairs_114 (ly140 hY) (by decide) ?_
  refine r_iconst C dX12_pairs_115 ic_2 ?_
  refine r_irem C dX12_pairs_116 (by decide) ?_
  refine r_iconst C dX12_pairs_117 ic_1 ?_
  suffices hj : Wm Z (0, 0, sh, R) (wI m12 139 26 (-1)) 126 [(0, .ref (wb (zw Z) + 139)), (1, .int x1)] [.int (if (jrem (rI (wI m12 139 26 (-1)) 140 4) 2) = 1 then 1 else 0 : Int32), .int 0, .ref (wb (zw Z) + 139)] by
    refine r_icmp_ne 125 C dX12_pairs_118 (by decide) (fun c14 => ?_) (fun c14 => ?_)
    · refine r_iconst C dX12_pairs_125 ic_0 ?_
      exact sel_f c14 hj
    · refine r_iconst C dX12_pairs_121 ic_1 ?_
      refine r_goto 126 C dX12_pairs_122 (by decide) ?_
      exact sel_t c14 hj
  refine r_iconst C dX12_pairs_126 ic_0 ?_
  obtain ⟨m16, e15, h⟩ := bnd_inv h
  refine r_cVv (As := [.int 0, .int (if (jrem (rI (wI m12 139 26 (-1)) 140 4) 2) = 1 then 1 else 0 : Int32), .int 0]) (rest := []) C hR mlX12_406 dX12_pairs_127 (tX12_goesPairs hY n 0 (if (jrem (rI (wI m12 139 26 (-1)) 140 4) 2) = 1 then 1 else 0 : Int32) 0  e15) rfl rfl (ly139 hY) rfl (nle rfl) (nle rfl) (nle rfl) ?_
  refine r_iload_n C dX12_pairs_130 1 rfl ?_
  refine r_if_ne 141 C dX12_pairs_131 (by decide) (fun c17 => ?_) (fun c17 => ?_)
  · have h := (ite_inv h).2 c17
    refine r_aload_n C dX12_pairs_141 0 rfl ?_
    refine r_getR C flX12_48 dX12_pairs_142 (ly139 hY) rfl (lr139_24 hY) ?_
    refine r_iload_n C dX12_pairs_145 1 rfl ?_
    refine r_bipush C dX12_pairs_146 bp_10 ?_
    refine r_isub C dX12_pairs_148 ?_
    obtain ⟨b18, h⟩ := gd_inv h
    refine r_iald C dX12_pairs_149 (ly150 hY) b18 ?_
    obtain ⟨h1, h2⟩ := Prod.mk.inj (Option.some.inj h)
    subst h1; subst h2
    exact r_iret C dX12_pairs_150 hr hE
  · have h := (ite_inv h).1 c17
    refine r_aload_n C dX12_pairs_134 0 rfl ?_
    refine r_getI C flX12_403 dX12_pairs_135 (ly139 hY) rfl ?_
    refine r_goto 150 C dX12_pairs_138 (by decide) ?_
    obtain ⟨h1, h2⟩ := Prod.mk.inj (Option.some.inj h)
    subst h1; subst h2
    exact r_iret C dX12_pairs_150 hr hE
def fX12_pairs (n : Nat) (x1 : Int32) (μ : Mu) : Option (Int32 × Mu) := if x1 = 0 then (jX12_pairs_33 n x1 (wI μ 139 0 0)) else (bnd (fX12_within n (x1.toInt64) 10 ((9 + (rI (wI μ 139 0 0) 140 4)).toInt64) (wI μ 139 0 0)) fun u20 => if u20 = 0 then (some ((-2), wI μ 139 0 0)) else (jX12_pairs_33 n x1 (wI μ 139 0 0)))
set_option maxRecDepth 100000 in
set_option maxHeartbeats 4000000 in
theorem tX12_pairs {l : Launch} {w : WP} {sh : List Sh} {R : Rf} {μ : Mu} {r : Int32} {μ' : Mu} (hY : LY sh R) (n : Nat) (x1 : Int32)  (h : fX12_pairs n x1 μ = some (r, μ')) : CM l w yX12_pairs cX12_pairs 4 (some .int) 14 0 0 sh R [.ref (wb w + 139), .int x1] μ (some (.int r)) sh R μ' := by
  refine CM.of (plainFor_of_name pf_X12) (Nat.le_of_ble_eq_true rfl) fun Z C hr _ hR hw hl hE => ?_
  subst hw; subst hl
  have C : CX Z cX12_pairs 4 RX12 := C
  show Wm Z (0, 0, sh, R) μ 0 [(0, .ref (wb (zw Z) + 139)), (1, .int x1)] []
  unfold fX12_pairs at h
  refine r_aload_n C dX12_pairs_0 0 rfl ?_
  refine r_iconst C dX12_pairs_1 ic_0 ?_
  refine r_putI C fiX12_1 dX12_pairs_2 (ly139 hY) ?_
  refine r_iload_n C dX12_pairs_5 1 rfl ?_
  refine r_if_eq 33 C dX12_pairs_6 (by decide) (fun c1 => ?_) (fun c1 => ?_)
  · have h := (ite_inv h).1 c1
    exact kX12_pairs_33 C hR hY n   x1 (wI μ 139 0 0) h hr hE
  · have h := (ite_inv h).2 c1
    refine r_iload_n C dX12_pairs_9 1 rfl ?_
    refine r_i2l C dX12_pairs_10 ?_
    refine r_ldc2 C dX12_pairs_11 klX12_182 ?_
    refine r_bipush C dX12_pairs_14 bp_9 ?_
    refine r_aload_n C dX12_pairs_16 0 rfl ?_
    refine r_getR C flX12_13 dX12_pairs_17 (ly139 hY) rfl (lr139_1 hY) ?_
    refine r_iconst C dX12_pairs_20 ic_4 ?_
    refine r_iald C dX12_pairs_21 (ly140 hY) (by decide) ?_
    refine r_iadd C dX12_pairs_22 ?_
    refine r_i2l C dX12_pairs_23 ?_
    obtain ⟨u20, e19, h⟩ := bnd_inv h
    refine r_cSi (As := [.long (x1.toInt64), .long 10, .long ((9 + (rI (wI μ 139 0 0) 140 4)).toInt64)]) (rest := []) C hR mlX12_130 dX12_pairs_24 (tX12_within hY n (x1.toInt64) 10 ((9 + (rI (wI μ 139 0 0) 140 4)).toInt64)  e19) rfl rfl (nle rfl) (nle rfl) (nle rfl) ?_
    refine r_if_ne 33 C dX12_pairs_27 (by decide) (fun c21 => ?_) (fun c21 => ?_)
    · have h := (ite_inv h).2 c21
      exact kX12_pairs_33 C hR hY n   x1 (wI μ 139 0 0) h hr hE
    · have h := (ite_inv h).1 c21
      refine r_bipush C dX12_pairs_30 bp_m2 ?_
      obtain ⟨h1, h2⟩ := Prod.mk.inj (Option.some.inj h)
      subst h1; subst h2
      exact r_iret C dX12_pairs_32 hr hE
def fX12_cut (n : Nat) (y0 : Int64) (x2 : Int32) (μ : Mu) : Option (Int64) := if x2 = 0 then (some (((y0.toInt32).toInt8.toInt32).toInt64)) else (if x2 = 1 then (some (((y0.toInt32).toInt16.toInt32).toInt64)) else (if x2 = 2 then (some ((y0.toInt32).toInt64)) else (some y0)))
set_option maxRecDepth 100000 in
set_option maxHeartbeats 4000000 in
theorem tX12_cut {l : Launch} {w : WP} {sh : List Sh} {R : Rf} {μ : Mu} {r : Int64} (hY : LY sh R) (n : Nat) (y0 : Int64) (x2 : Int32)  (h : fX12_cut n y0 x2 μ = some r) : CM l w yX12_cut cX12_cut 3 (some .long) 0 0 0 sh R [.long y0, .int x2] μ (some (.long r)) sh R μ := by
  refine CM.of (plainFor_of_name pf_X12) (Nat.le_of_ble_eq_true rfl) fun Z C hr _ hR hw hl hE => ?_
  subst hw; subst hl
  have C : CX Z cX12_cut 3 RX12 := C
  show Wm Z (0, 0, sh, R) μ 0 [(0, .long y0), (2, .int x2)] []
  unfold fX12_cut at h
  refine r_iload_n C dX12_cut_0 1 rfl ?_
  refine r_if_ne 11 C dX12_cut_1 (by decide) (fun c1 => ?_) (fun c1 => ?_)
  · have h := (ite_inv h).2 c1
    refine r_iload_n C dX12_cut_11 1 rfl ?_
    refine r_iconst C dX12_cut_12 ic_1 ?_
    refine r_icmp_ne 23 C dX12_cut_13 (by decide) (fun c2 => ?_) (fun c2 => ?_)
    · have h := (ite_inv h).2 c2
      refine r_iload_n C dX12_cut_23 1 rfl ?_
      refine r_iconst C dX12_cut_24 ic_2 ?_
      refine r_icmp_ne 34 C dX12_cut_25 (by decide) (fun c3 => ?_) (fun c3 => ?_)
      · have h := (ite_inv h).2 c3
        refine r_lload_n C dX12_cut_34 0 rfl ?_
        have h := Option.some.inj h
        subst h
        exact r_lret C dX12_cut_35 hr hE
      · have h := (ite_inv h).1 c3
        refine r_lload_n C dX12_cut_28 0 rfl ?_
        refine r_l2i C dX12_cut_29 ?_
        refine r_i2l C dX12_cut_30 ?_
        refine r_goto 35 C dX12_cut_31 (by decide) ?_
        have h := Option.some.inj h
        subst h
        exact r_lret C dX12_cut_35 hr hE
    · have h := (ite_inv h).1 c2
      refine r_lload_n C dX12_cut_16 0 rfl ?_
      refine r_l2i C dX12_cut_17 ?_
      refine r_i2s C dX12_cut_18 ?_
      refine r_i2l C dX12_cut_19 ?_
      refine r_goto 35 C dX12_cut_20 (by decide) ?_
      have h := Option.some.inj h
      subst h
      exact r_lret C dX12_cut_35 hr hE
  · have h := (ite_inv h).1 c1
    refine r_lload_n C dX12_cut_4 0 rfl ?_
    refine r_l2i C dX12_cut_5 ?_
    refine r_i2b C dX12_cut_6 ?_
    refine r_i2l C dX12_cut_7 ?_
    refine r_goto 35 C dX12_cut_8 (by decide) ?_
    have h := Option.some.inj h
    subst h
    exact r_lret C dX12_cut_35 hr hE
def sX12_numbers_64 (n : Nat) (x1 : Int32) (x3 : Int32) : Int32 × Mu → Option ((Int32 × Mu) ⊕ (Mu)) := fun q => match q with | (x4, μ) => if x3 ≤ x4 then (some (.inr μ)) else (gd (ib ((40 * x1) + x4) 160) (some (.inl (x4 + 1, wL μ 154 (ix ((40 * x1) + x4)) 0))))
set_option maxRecDepth 100000 in
set_option maxHeartbeats 4000000 in
theorem lX12_numbers_64 {Z : ZC} {sh : List Sh} {R : Rf} {o : (Int32 × Mu) ⊕ (Mu)} (C : CX Z cX12_numbers 5 RX12) (hR : zR Z = rm 1 0 0) (hY : LY sh R) (n : Nat) (x1 : Int32) (x3 : Int32) (x4 : Int32) (μ : Mu) (h : sX12_numbers_64 n x1 x3 (x4, μ) = some o) (kin : ∀ (x4 : Int32) (μ : Mu), o = .inl (x4, μ) → Wm Z (0, 0, sh, R) μ 64 [(0, .ref (wb (zw Z) + 139)), (1, .int x1), (3, .int x3), (4, .int x4)] []) (kex0 : ∀ (μ : Mu), o = .inr μ → Wm Z (0, 0, sh, R) μ 89 [] []) : Wm Z (0, 0, sh, R) μ 64 [(0, .ref (wb (zw Z) + 139)), (1, .int x1), (3, .int x3), (4, .int x4)] [] := by
  unfold sX12_numbers_64 at h
  refine r_iload C dX12_numbers_64 3 rfl ?_
  refine r_iload_n C dX12_numbers_66 2 rfl ?_
  refine r_icmp_ge 89 C dX12_numbers_67 (by decide) (fun c12 => ?_) (fun c12 => ?_)
  · have h := (ite_inv h).1 c12
    refine r_sub [] [] rfl ?_
    exact kex0 μ (Option.some.inj h).symm
  · have h := (ite_inv h).2 c12
    refine r_aload_n C dX12_numbers_70 0 rfl ?_
    refine r_getR C flX12_60 dX12_numbers_71 (ly139 hY) rfl (lr139_29 hY) ?_
    refine r_bipush C dX12_numbers_74 bp_40 ?_
    refine r_iload_n C dX12_numbers_76 1 rfl ?_
    refine r_imul C dX12_numbers_77 ?_
    refine r_iload C dX12_numbers_78 3 rfl ?_
    refine r_iadd C dX12_numbers_80 ?_
    refine r_lconst C dX12_numbers_81 lc_0 ?_
    obtain ⟨b13, h⟩ := gd_inv h
    refine r_last C dX12_numbers_82 (ly154 hY) b13 ?_
    refine r_iinc [(4, .int (x4 + 1)), (0, .ref (wb (zw Z) + 139)), (1, .int x1), (3, .int x3)] C dX12_numbers_83 3 rfl (in_1 _) (by decide) rfl ?_
    refine r_goto 64 C dX12_numbers_86 (by decide) ?_
    refine r_sub [(0, .ref (wb (zw Z) + 139)), (1, .int x1), (3, .int x3), (4, .int (x4 + 1))] [1, 2, 3, 0] rfl ?_
    exact kin (x4 + 1) (wL μ 154 (ix ((40 * x1) + x4)) 0) (Option.some.inj h).symm
def fX12_numbers (n : Nat) (x1 : Int32) (x2 : Int32) (x3 : Int32) (μ : Mu) : Option (Int32 × Mu) := bnd (fX12_within n (x1.toInt64) 0 3 (wI μ 139 0 0)) fun u2 => if u2 = 0 then (some ((-2), wI μ 139 0 0)) else (bnd (fX12_within n (x2.toInt64) 0 3 (wI μ 139 0 0)) fun u5 => if u5 = 0 then (some ((-2), wI μ 139 0 0)) else (bnd (fX12_within n (x3.toInt64) 0 40 (wI μ 139 0 0)) fun u8 => if u8 = 0 then (some ((-3), wI μ 139 0 0)) else (gd (ib x1 4) (gd (ib x1 4) (bnd (lp n (sX12_numbers_64 n x1 x3) (0, wI (wI (wI μ 139 0 0) 152 (ix x1) x2) 153 (ix x1) x3)) fun q => match q with | m14 => some (0, m14))))))
set_option maxRecDepth 100000 in
set_option maxHeartbeats 4000000 in
theorem tX12_numbers {l : Launch} {w : WP} {sh : List Sh} {R : Rf} {μ : Mu} {r : Int32} {μ' : Mu} (hY : LY sh R) (n : Nat) (x1 : Int32) (x2 : Int32) (x3 : Int32)  (h : fX12_numbers n x1 x2 x3 μ = some (r, μ')) : CM l w yX12_numbers cX12_numbers 5 (some .int) 1 0 0 sh R [.ref (wb w + 139), .int x1, .int x2, .int x3] μ (some (.int r)) sh R μ' := by
  refine CM.of (plainFor_of_name pf_X12) (Nat.le_of_ble_eq_true rfl) fun Z C hr _ hR hw hl hE => ?_
  subst hw; subst hl
  have C : CX Z cX12_numbers 5 RX12 := C
  show Wm Z (0, 0, sh, R) μ 0 [(0, .ref (wb (zw Z) + 139)), (1, .int x1), (2, .int x2), (3, .int x3)] []
  unfold fX12_numbers at h
  refine r_aload_n C dX12_numbers_0 0 rfl ?_
  refine r_iconst C dX12_numbers_1 ic_0 ?_
  refine r_putI C fiX12_1 dX12_numbers_2 (ly139 hY) ?_
  refine r_iload_n C dX12_numbers_5 1 rfl ?_
  refine r_i2l C dX12_numbers_6 ?_
  refine r_lconst C dX12_numbers_7 lc_0 ?_
  refine r_ldc2 C dX12_numbers_8 klX12_313 ?_
  obtain ⟨u2, e1, h⟩ := bnd_inv h
  refine r_cSi (As := [.long (x1.toInt64), .long 0, .long 3]) (rest := []) C hR mlX12_130 dX12_numbers_11 (tX12_within hY n (x1.toInt64) 0 3  e1) rfl rfl (nle rfl) (nle rfl) (nle rfl) ?_
  refine r_if_eq 29 C dX12_numbers_14 (by decide) (fun c3 => ?_) (fun c3 => ?_)
  · have h := (ite_inv h).1 c3
    refine r_bipush C dX12_numbers_29 bp_m2 ?_
    obtain ⟨h1, h2⟩ := Prod.mk.inj (Option.some.inj h)
    subst h1; subst h2
    exact r_iret C dX12_numbers_31 hr hE
  · have h := (ite_inv h).2 c3
    refine r_iload_n C dX12_numbers_17 2 rfl ?_
    refine r_i2l C dX12_numbers_18 ?_
    refine r_lconst C dX12_numbers_19 lc_0 ?_
    refine r_ldc2 C dX12_numbers_20 klX12_313 ?_
    obtain ⟨u5, e4, h⟩ := bnd_inv h
    refine r_cSi (As := [.long (x2.toInt64), .long 0, .long 3]) (rest := []) C hR mlX12_130 dX12_numbers_23 (tX12_within hY n (x2.toInt64) 0 3  e4) rfl rfl (nle rfl) (nle rfl) (nle rfl) ?_
    refine r_if_ne 32 C dX12_numbers_26 (by decide) (fun c6 => ?_) (fun c6 => ?_)
    · have h := (ite_inv h).2 c6
      refine r_iload_n C dX12_numbers_32 3 rfl ?_
      refine r_i2l C dX12_numbers_33 ?_
      refine r_lconst C dX12_numbers_34 lc_0 ?_
      refine r_ldc2 C dX12_numbers_35 klX12_410 ?_
      obtain ⟨u8, e7, h⟩ := bnd_inv h
      refine r_cSi (As := [.long (x3.toInt64), .long 0, .long 40]) (rest := []) C hR mlX12_130 dX12_numbers_38 (tX12_within hY n (x3.toInt64) 0 40  e7) rfl rfl (nle rfl) (nle rfl) (nle rfl) ?_
      refine r_if_ne 47 C dX12_numbers_41 (by decide) (fun c9 => ?_) (fun c9 => ?_)
      · have h := (ite_inv h).2 c9
        refine r_aload_n C dX12_numbers_47 0 rfl ?_
        refine r_getR C flX12_54 dX12_numbers_48 (ly139 hY) rfl (lr139_27 hY) ?_
        refine r_iload_n C dX12_numbers_51 1 rfl ?_
        refine r_iload_n C dX12_numbers_52 2 rfl ?_
        obtain ⟨b10, h⟩ := gd_inv h
        refine r_iast C dX12_numbers_53 (ly152 hY) b10 ?_
        refine r_aload_n C dX12_numbers_54 0 rfl ?_
        refine r_getR C flX12_57 dX12_numbers_55 (ly139 hY) rfl (lr139_28 hY) ?_
        refine r_iload_n C dX12_numbers_58 1 rfl ?_
        refine r_iload_n C dX12_numbers_59 3 rfl ?_
        obtain ⟨b11, h⟩ := gd_inv h
        refine r_iast C dX12_numbers_60 (ly153 hY) b11 ?_
        refine r_iconst C dX12_numbers_61 ic_0 ?_
        refine r_istore [(4, .int 0), (0, .ref (wb (zw Z) + 139)), (1, .int x1), (2, .int x2), (3, .int x3)] C dX12_numbers_62 (by decide) rfl ?_
        refine r_sub [(0, .ref (wb (zw Z) + 139)), (1, .int x1), (3, .int x3), (4, .int 0)] [1, 2, 4, 0] rfl ?_
        obtain ⟨m14, e15, h⟩ := bnd_inv h
        refine lp_all (sX12_numbers_64 n x1 x3) (fun q => match q with | (z4, ν) => Wm Z (0, 0, sh, R) (ν) 64 [(0, .ref (wb (zw Z) + 139)), (1, .int x1), (3, .int x3), (4, .int z4)] []) (fun q => match q with | ν => Wm Z (0, 0, sh, R) (ν) 89 [] []) (fun q o h kin kex => ?_) n (0, wI (wI (wI μ 139 0 0) 152 (ix x1) x2) 153 (ix x1) x3) m14 e15 ?_
        · obtain ⟨z4, ν⟩ := q; exact lX12_numbers_64 C hR hY n   x1 x3 z4 ν h (fun z4 ν e => kin (z4, ν) e) (fun ν e => kex (ν) e)
        show Wm Z (0, 0, sh, R) m14 89 [] []
        refine r_iconst C dX12_numbers_89 ic_0 ?_
        obtain ⟨h1, h2⟩ := Prod.mk.inj (Option.some.inj h)
        subst h1; subst h2
        exact r_iret C dX12_numbers_90 hr hE
      · have h := (ite_inv h).1 c9
        refine r_bipush C dX12_numbers_44 bp_m3 ?_
        obtain ⟨h1, h2⟩ := Prod.mk.inj (Option.some.inj h)
        subst h1; subst h2
        exact r_iret C dX12_numbers_46 hr hE
    · have h := (ite_inv h).1 c6
      refine r_bipush C dX12_numbers_29 bp_m2 ?_
      obtain ⟨h1, h2⟩ := Prod.mk.inj (Option.some.inj h)
      subst h1; subst h2
      exact r_iret C dX12_numbers_31 hr hE
def fX12_write (n : Nat) (x1 : Int32) (x2 : Int32) (y3 : Int64) (μ : Mu) : Option (Int64 × Mu) := bnd (fX12_noTray n x1 (wI μ 139 0 0)) fun u2 => if u2 = 0 then (gd (ib x1 4) (bnd (fX12_within n (x2.toInt64) 0 (((rI (wI μ 139 0 0) 153 (ix x1)) - 1).toInt64) (wI μ 139 0 0)) fun u6 => if u6 = 0 then (some ((-7), wI μ 139 0 0)) else (gd (ib x1 4) (bnd (fX12_cut n y3 (rI (wI μ 139 0 0) 152 (ix x1)) (wI μ 139 0 0)) fun u10 => gd (ib ((40 * x1) + x2) 160) (gd (ib ((40 * x1) + x2) 160) (some (rL (wL (wI μ 139 0 0) 154 (ix ((40 * x1) + x2)) u10) 154 (ix ((40 * x1) + x2)), wL (wI μ 139 0 0) 154 (ix ((40 * x1) + x2)) u10))))))) else (some (u2.toInt64, wI μ 139 0 0))
set_option maxRecDepth 100000 in
set_option maxHeartbeats 4000000 in
theorem tX12_write {l : Launch} {w : WP} {sh : List Sh} {R : Rf} {μ : Mu} {r : Int64} {μ' : Mu} (hY : LY sh R) (n : Nat) (x1 : Int32) (x2 : Int32) (y3 : Int64)  (h : fX12_write n x1 x2 y3 μ = some (r, μ')) : CM l w yX12_write cX12_write 6 (some .long) 2 0 0 sh R [.ref (wb w + 139), .int x1, .int x2, .long y3] μ (some (.long r)) sh R μ' := by
  refine CM.of (plainFor_of_name pf_X12) (Nat.le_of_ble_eq_true rfl) fun Z C hr _ hR hw hl hE => ?_
  subst hw; subst hl
  have C : CX Z cX12_write 6 RX12 := C
  show Wm Z (0, 0, sh, R) μ 0 [(0, .ref (wb (zw Z) + 139)), (1, .int x1), (2, .int x2), (3, .long y3)] []
  unfold fX12_write at h
  refine r_aload_n C dX12_write_0 0 rfl ?_
  refine r_iconst C dX12_write_1 ic_0 ?_
  refine r_putI C fiX12_1 dX12_write_2 (ly139 hY) ?_
  refine r_aload_n C dX12_write_5 0 rfl ?_
  refine r_iload_n C dX12_write_6 1 rfl ?_
  obtain ⟨u2, e1, h⟩ := bnd_inv h
  refine r_cVi (As := [.int x1]) (rest := []) C hR mlX12_315 dX12_write_7 (tX12_noTray hY n x1  e1) rfl rfl (ly139 hY) rfl (nle rfl) (nle rfl) (nle rfl) ?_
  refine r_istore [(5, .int u2), (0, .ref (wb (zw Z) + 139)), (1, .int x1), (2, .int x2), (3, .long y3)] C dX12_write_10 (by decide) rfl ?_
  refine r_iload C dX12_write_12 0 rfl ?_
  refine r_if_eq 21 C dX12_write_14 (by decide) (fun c3 => ?_) (fun c3 => ?_)
  · have h := (ite_inv h).1 c3
    refine r_iload_n C dX12_write_21 3 rfl ?_
    refine r_i2l C dX12_write_22 ?_
    refine r_lconst C dX12_write_23 lc_0 ?_
    refine r_aload_n C dX12_write_24 1 rfl ?_
    refine r_getR C flX12_57 dX12_write_25 (ly139 hY) rfl (lr139_28 hY) ?_
    refine r_iload_n C dX12_write_28 2 rfl ?_
    obtain ⟨b4, h⟩ := gd_inv h
    refine r_iald C dX12_write_29 (ly153 hY) b4 ?_
    refine r_iconst C dX12_write_30 ic_1 ?_
    refine r_isub C dX12_write_31 ?_
    refine r_i2l C dX12_write_32 ?_
    obtain ⟨u6, e5, h⟩ := bnd_inv h
    refine r_cSi (As := [.long (x2.toInt64), .long 0, .long (((rI (wI μ 139 0 0) 153 (ix x1)) - 1).toInt64)]) (rest := []) C hR mlX12_130 dX12_write_33 (tX12_within hY n (x2.toInt64) 0 (((rI (wI μ 139 0 0) 153 (ix x1)) - 1).toInt64)  e5) rfl rfl (nle rfl) (nle rfl) (nle rfl) ?_
    refine r_if_ne 43 C dX12_write_36 (by decide) (fun c7 => ?_) (fun c7 => ?_)
    · have h := (ite_inv h).2 c7
      refine r_aload_n C dX12_write_43 1 rfl ?_
      refine r_getR C flX12_60 dX12_write_44 (ly139 hY) rfl (lr139_29 hY) ?_
      refine r_bipush C dX12_write_47 bp_40 ?_
      refine r_iload_n C dX12_write_49 2 rfl ?_
      refine r_imul C dX12_write_50 ?_
      refine r_iload_n C dX12_write_51 3 rfl ?_
      refine r_iadd C dX12_write_52 ?_
      refine r_lload_n C dX12_write_53 4 rfl ?_
      refine r_aload_n C dX12_write_54 1 rfl ?_
      refine r_getR C flX12_54 dX12_write_55 (ly139 hY) rfl (lr139_27 hY) ?_
      refine r_iload_n C dX12_write_58 2 rfl ?_
      obtain ⟨b8, h⟩ := gd_inv h
      refine r_iald C dX12_write_59 (ly152 hY) b8 ?_
      obtain ⟨u10, e9, h⟩ := bnd_inv h
      refine r_cSl (As := [.long y3, .int (rI (wI μ 139 0 0) 152 (ix x1))]) (rest := [.int ((40 * x1) + x2), .ref (wb (zw Z) + 154)]) C hR mlX12_414 dX12_write_60 (tX12_cut hY n y3 (rI (wI μ 139 0 0) 152 (ix x1))  e9) rfl rfl (nle rfl) (nle rfl) (nle rfl) ?_
      obtain ⟨b11, h⟩ := gd_inv h
      refine r_last C dX12_write_63 (ly154 hY) b11 ?_
      refine r_aload_n C dX12_write_64 1 rfl ?_
      refine r_getR C flX12_60 dX12_write_65 (ly139 hY) rfl (lr139_29 hY) ?_
      refine r_bipush C dX12_write_68 bp_40 ?_
      refine r_iload_n C dX12_write_70 2 rfl ?_
      refine r_imul C dX12_write_71 ?_
      refine r_iload_n C dX12_write_72 3 rfl ?_
      refine r_iadd C dX12_write_73 ?_
      obtain ⟨b12, h⟩ := gd_inv h
      refine r_lald C dX12_write_74 (ly154 hY) b12 ?_
      obtain ⟨h1, h2⟩ := Prod.mk.inj (Option.some.inj h)
      subst h1; subst h2
      exact r_lret C dX12_write_75 hr hE
    · have h := (ite_inv h).1 c7
      refine r_ldc2 C dX12_write_39 klX12_412 ?_
      obtain ⟨h1, h2⟩ := Prod.mk.inj (Option.some.inj h)
      subst h1; subst h2
      exact r_lret C dX12_write_42 hr hE
  · have h := (ite_inv h).2 c3
    refine r_iload C dX12_write_17 0 rfl ?_
    refine r_i2l C dX12_write_19 ?_
    obtain ⟨h1, h2⟩ := Prod.mk.inj (Option.some.inj h)
    subst h1; subst h2
    exact r_lret C dX12_write_20 hr hE
def sX12_lists_44 (n : Nat) (x1 : Int32) (x2 : Int32) : Int32 × Mu → Option ((Int32 × Mu) ⊕ (Mu)) := fun q => match q with | (x4, μ) => gd (ib x1 4) (if (rI μ 153 (ix x1)) ≤ x4 then (some (.inr μ)) else (gd (ib (56 + x2) 6726) (bnd2 (fX12_soundIn n (rI μ 140 (ix (56 + x2))) x4 μ) fun u14 m15 => gd (ib ((40 * x1) + x4) 160) (some (.inl (x4 + 1, wL m15 154 (ix ((40 * x1) + x4)) (u14.toInt64)))))))
set_option maxRecDepth 100000 in
set_option maxHeartbeats 4000000 in
theorem lX12_lists_44 {Z : ZC} {sh : List Sh} {R : Rf} {o : (Int32 × Mu) ⊕ (Mu)} (C : CX Z cX12_lists 5 RX12) (hR : zR Z = rm 3 0 0) (hY : LY sh R) (n : Nat) (x1 : Int32) (x2 : Int32) (x4 : Int32) (μ : Mu) (h : sX12_lists_44 n x1 x2 (x4, μ) = some o) (kin : ∀ (x4 : Int32) (μ : Mu), o = .inl (x4, μ) → Wm Z (0, 0, sh, R) μ 44 [(0, .ref (wb (zw Z) + 139)), (1, .int x1), (2, .int x2), (4, .int x4)] []) (kex0 : ∀ (μ : Mu), o = .inr μ → Wm Z (0, 0, sh, R) μ 89 [(0, .ref (wb (zw Z) + 139)), (1, .int x1)] []) : Wm Z (0, 0, sh, R) μ 44 [(0, .ref (wb (zw Z) + 139)), (1, .int x1), (2, .int x2), (4, .int x4)] [] := by
  unfold sX12_lists_44 at h
  refine r_iload C dX12_lists_44 3 rfl ?_
  refine r_aload_n C dX12_lists_46 0 rfl ?_
  refine r_getR C flX12_57 dX12_lists_47 (ly139 hY) rfl (lr139_28 hY) ?_
  refine r_iload_n C dX12_lists_50 1 rfl ?_
  obtain ⟨b10, h⟩ := gd_inv h
  refine r_iald C dX12_lists_51 (ly153 hY) b10 ?_
  refine r_icmp_ge 89 C dX12_lists_52 (by decide) (fun c11 => ?_) (fun c11 => ?_)
  · have h := (ite_inv h).1 c11
    refine r_sub [(0, .ref (wb (zw Z) + 139)), (1, .int x1)] [0, 1] rfl ?_
    exact kex0 μ (Option.some.inj h).symm
  · have h := (ite_inv h).2 c11
    refine r_aload_n C dX12_lists_55 0 rfl ?_
    refine r_getR C flX12_60 dX12_lists_56 (ly139 hY) rfl (lr139_29 hY) ?_
    refine r_bipush C dX12_lists_59 bp_40 ?_
    refine r_iload_n C dX12_lists_61 1 rfl ?_
    refine r_imul C dX12_lists_62 ?_
    refine r_iload C dX12_lists_63 3 rfl ?_
    refine r_iadd C dX12_lists_65 ?_
    refine r_aload_n C dX12_lists_66 0 rfl ?_
    refine r_aload_n C dX12_lists_67 0 rfl ?_
    refine r_getR C flX12_13 dX12_lists_68 (ly139 hY) rfl (lr139_1 hY) ?_
    refine r_bipush C dX12_lists_71 bp_56 ?_
    refine r_iload_n C dX12_lists_73 2 rfl ?_
    refine r_iadd C dX12_lists_74 ?_
    obtain ⟨b12, h⟩ := gd_inv h
    refine r_iald C dX12_lists_75 (ly140 hY) b12 ?_
    refine r_iload C dX12_lists_76 3 rfl ?_
    obtain ⟨u14, m15, e13, h⟩ := bnd2_inv h
    refine r_cVi (As := [.int (rI μ 140 (ix (56 + x2))), .int x4]) (rest := [.int ((40 * x1) + x4), .ref (wb (zw Z) + 154)]) C hR mlX12_249 dX12_lists_78 (tX12_soundIn hY n (rI μ 140 (ix (56 + x2))) x4  e13) rfl rfl (ly139 hY) rfl (nle rfl) (nle rfl) (nle rfl) ?_
    refine r_i2l C dX12_lists_81 ?_
    obtain ⟨b16, h⟩ := gd_inv h
    refine r_last C dX12_lists_82 (ly154 hY) b16 ?_
    refine r_iinc [(4, .int (x4 + 1)), (0, .ref (wb (zw Z) + 139)), (1, .int x1), (2, .int x2)] C dX12_lists_83 3 rfl (in_1 _) (by decide) rfl ?_
    refine r_goto 44 C dX12_lists_86 (by decide) ?_
    refine r_sub [(0, .ref (wb (zw Z) + 139)), (1, .int x1), (2, .int x2), (4, .int (x4 + 1))] [1, 2, 3, 0] rfl ?_
    exact kin (x4 + 1) (wL m15 154 (ix ((40 * x1) + x4)) (u14.toInt64)) (Option.some.inj h).symm
def fX12_lists (n : Nat) (x1 : Int32) (x2 : Int32) (μ : Mu) : Option (Int32 × Mu) := bnd (fX12_within n (x1.toInt64) 0 3 (wI μ 139 0 0)) fun u2 => if u2 = 0 then (some ((-2), wI μ 139 0 0)) else (bnd (fX12_isShell n (x2.toInt64) (wI μ 139 0 0)) fun u5 => if u5 = 0 then (some ((-2), wI μ 139 0 0)) else (bnd (fX12_noTray n x1 (wI μ 139 0 0)) fun u8 => if u8 = 0 then (bnd (lp n (sX12_lists_44 n x1 x2) (0, wI μ 139 0 0)) fun q => match q with | m17 => gd (ib x1 4) (some (rI m17 153 (ix x1), m17))) else (some (u8, wI μ 139 0 0))))
set_option maxRecDepth 100000 in
set_option maxHeartbeats 4000000 in
theorem tX12_lists {l : Launch} {w : WP} {sh : List Sh} {R : Rf} {μ : Mu} {r : Int32} {μ' : Mu} (hY : LY sh R) (n : Nat) (x1 : Int32) (x2 : Int32)  (h : fX12_lists n x1 x2 μ = some (r, μ')) : CM l w yX12_lists cX12_lists 5 (some .int) 3 0 0 sh R [.ref (wb w + 139), .int x1, .int x2] μ (some (.int r)) sh R μ' := by
  refine CM.of (plainFor_of_name pf_X12) (Nat.le_of_ble_eq_true rfl) fun Z C hr _ hR hw hl hE => ?_
  subst hw; subst hl
  have C : CX Z cX12_lists 5 RX12 := C
  show Wm Z (0, 0, sh, R) μ 0 [(0, .ref (wb (zw Z) + 139)), (1, .int x1), (2, .int x2)] []
  unfold fX12_lists at h
  refine r_aload_n C dX12_lists_0 0 rfl ?_
  refine r_iconst C dX12_lists_1 ic_0 ?_
  refine r_putI C fiX12_1 dX12_lists_2 (ly139 hY) ?_
  refine r_iload_n C dX12_lists_5 1 rfl ?_
  refine r_i2l C dX12_lists_6 ?_
  refine r_lconst C dX12_lists_7 lc_0 ?_
  refine r_ldc2 C dX12_lists_8 klX12_313 ?_
  obtain ⟨u2, e1, h⟩ := bnd_inv h
  refine r_cSi (As := [.long (x1.toInt64), .long 0, .long 3]) (rest := []) C hR mlX12_130 dX12_lists_11 (tX12_within hY n (x1.toInt64) 0 3  e1) rfl rfl (nle rfl) (nle rfl) (nle rfl) ?_
  refine r_if_eq 26 C dX12_lists_14 (by decide) (fun c3 => ?_) (fun c3 => ?_)
  · have h := (ite_inv h).1 c3
    refine r_bipush C dX12_lists_26 bp_m2 ?_
    obtain ⟨h1, h2⟩ := Prod.mk.inj (Option.some.inj h)
    subst h1; subst h2
    exact r_iret C dX12_lists_28 hr hE
  · have h := (ite_inv h).2 c3
    refine r_aload_n C dX12_lists_17 0 rfl ?_
    refine r_iload_n C dX12_lists_18 2 rfl ?_
    refine r_i2l C dX12_lists_19 ?_
    obtain ⟨u5, e4, h⟩ := bnd_inv h
    refine r_cVi (As := [.long (x2.toInt64)]) (rest := []) C hR mlX12_236 dX12_lists_20 (tX12_isShell hY n (x2.toInt64)  e4) rfl rfl (ly139 hY) rfl (nle rfl) (nle rfl) (nle rfl) ?_
    refine r_if_ne 29 C dX12_lists_23 (by decide) (fun c6 => ?_) (fun c6 => ?_)
    · have h := (ite_inv h).2 c6
      refine r_aload_n C dX12_lists_29 0 rfl ?_
      refine r_iload_n C dX12_lists_30 1 rfl ?_
      obtain ⟨u8, e7, h⟩ := bnd_inv h
      refine r_cVi (As := [.int x1]) (rest := []) C hR mlX12_315 dX12_lists_31 (tX12_noTray hY n x1  e7) rfl rfl (ly139 hY) rfl (nle rfl) (nle rfl) (nle rfl) ?_
      refine r_istore_n [(3, .int u8), (0, .ref (wb (zw Z) + 139)), (1, .int x1), (2, .int x2)] C dX12_lists_34 rfl (by decide) rfl ?_
      refine r_iload_n C dX12_lists_35 0 rfl ?_
      refine r_if_eq 41 C dX12_lists_36 (by decide) (fun c9 => ?_) (fun c9 => ?_)
      · have h := (ite_inv h).1 c9
        refine r_iconst C dX12_lists_41 ic_0 ?_
        refine r_istore [(4, .int 0), (3, .int u8), (0, .ref (wb (zw Z) + 139)), (1, .int x1), (2, .int x2)] C dX12_lists_42 (by decide) rfl ?_
        refine r_sub [(0, .ref (wb (zw Z) + 139)), (1, .int x1), (2, .int x2), (4, .int 0)] [2, 3, 4, 0] rfl ?_
        obtain ⟨m17, e18, h⟩ := bnd_inv h
        refine lp_all (sX12_lists_44 n x1 x2) (fun q => match q with | (z4, ν) => Wm Z (0, 0, sh, R) (ν) 44 [(0, .ref (wb (zw Z) + 139)), (1, .int x1), (2, .int x2), (4, .int z4)] []) (fun q => match q with | ν => Wm Z (0, 0, sh, R) (ν) 89 [(0, .ref (wb (zw Z) + 139)), (1, .int x1)] []) (fun q o h kin kex => ?_) n (0, wI μ 139 0 0) m17 e18 ?_
        · obtain ⟨z4, ν⟩ := q; exact lX12_lists_44 C hR hY n   x1 x2 z4 ν h (fun z4 ν e => kin (z4, ν) e) (fun ν e => kex (ν) e)
        show Wm Z (0, 0, sh, R) m17 89 [(0, .ref (wb (zw Z) + 139)), (1, .int x1)] []
        refine r_aload_n C dX12_lists_89 0 rfl ?_
        refine r_getR C flX12_57 dX12_lists_90 (ly139 hY) rfl (lr139_28 hY) ?_
        refine r_iload_n C dX12_lists_93 1 rfl ?_
        obtain ⟨b19, h⟩ := gd_inv h
        refine r_iald C dX12_lists_94 (ly153 hY) b19 ?_
        obtain ⟨h1, h2⟩ := Prod.mk.inj (Option.some.inj h)
        subst h1; subst h2
        exact r_iret C dX12_lists_95 hr hE
      · have h := (ite_inv h).2 c9
        refine r_iload_n C dX12_lists_39 0 rfl ?_
        obtain ⟨h1, h2⟩ := Prod.mk.inj (Option.some.inj h)
        subst h1; subst h2
        exact r_iret C dX12_lists_40 hr hE
    · have h := (ite_inv h).1 c6
      refine r_bipush C dX12_lists_26 bp_m2 ?_
      obtain ⟨h1, h2⟩ := Prod.mk.inj (Option.some.inj h)
      subst h1; subst h2
      exact r_iret C dX12_lists_28 hr hE
def sX12_image_20 (n : Nat) (x1 : Int32) : Int32 × Mu → Option ((Int32 × Mu) ⊕ (Mu)) := fun q => match q with | (x2, μ) => if 2242 ≤ x2 then (some (.inr μ)) else (gd (ib x2 6726) (gd (ib ((2242 * (x1 + 1)) + x2) 6726) (some (.inl (x2 + 1, wI μ 140 (ix ((2242 * (x1 + 1)) + x2)) (rI μ 140 (ix x2)))))))
set_option maxRecDepth 100000 in
set_option maxHeartbeats 4000000 in
theorem lX12_image_20 {Z : ZC} {sh : List Sh} {R : Rf} {o : (Int32 × Mu) ⊕ (Mu)} (C : CX Z cX12_image 3 RX12) (hR : zR Z = rm 1 0 0) (hY : LY sh R) (n : Nat) (x1 : Int32) (x2 : Int32) (μ : Mu) (h : sX12_image_20 n x1 (x2, μ) = some o) (kin : ∀ (x2 : Int32) (μ : Mu), o = .inl (x2, μ) → Wm Z (0, 0, sh, R) μ 20 [(0, .ref (wb (zw Z) + 139)), (1, .int x1), (2, .int x2)] []) (kex0 : ∀ (μ : Mu), o = .inr μ → Wm Z (0, 0, sh, R) μ 53 [(0, .ref (wb (zw Z) + 139)), (1, .int x1)] []) : Wm Z (0, 0, sh, R) μ 20 [(0, .ref (wb (zw Z) + 139)), (1, .int x1), (2, .int x2)] [] := by
  unfold sX12_image_20 at h
  refine r_iload_n C dX12_image_20 2 rfl ?_
  refine r_sipush C dX12_image_21 sp_2242 ?_
  refine r_icmp_ge 53 C dX12_image_24 (by decide) (fun c4 => ?_) (fun c4 => ?_)
  · have h := (ite_inv h).1 c4
    refine r_sub [(0, .ref (wb (zw Z) + 139)), (1, .int x1)] [0, 1] rfl ?_
    exact kex0 μ (Option.some.inj h).symm
  · have h := (ite_inv h).2 c4
    refine r_aload_n C dX12_image_27 0 rfl ?_
    refine r_getR C flX12_13 dX12_image_28 (ly139 hY) rfl (lr139_1 hY) ?_
    refine r_sipush C dX12_image_31 sp_2242 ?_
    refine r_iload_n C dX12_image_34 1 rfl ?_
    refine r_iconst C dX12_image_35 ic_1 ?_
    refine r_iadd C dX12_image_36 ?_
    refine r_imul C dX12_image_37 ?_
    refine r_iload_n C dX12_image_38 2 rfl ?_
    refine r_iadd C dX12_image_39 ?_
    refine r_aload_n C dX12_image_40 0 rfl ?_
    refine r_getR C flX12_13 dX12_image_41 (ly139 hY) rfl (lr139_1 hY) ?_
    refine r_iload_n C dX12_image_44 2 rfl ?_
    obtain ⟨b5, h⟩ := gd_inv h
    refine r_iald C dX12_image_45 (ly140 hY) b5 ?_
    obtain ⟨b6, h⟩ := gd_inv h
    refine r_iast C dX12_image_46 (ly140 hY) b6 ?_
    refine r_iinc [(2, .int (x2 + 1)), (0, .ref (wb (zw Z) + 139)), (1, .int x1)] C dX12_image_47 2 rfl (in_1 _) (by decide) rfl ?_
    refine r_goto 20 C dX12_image_50 (by decide) ?_
    refine r_sub [(0, .ref (wb (zw Z) + 139)), (1, .int x1), (2, .int (x2 + 1))] [1, 2, 0] rfl ?_
    exact kin (x2 + 1) (wI μ 140 (ix ((2242 * (x1 + 1)) + x2)) (rI μ 140 (ix x2))) (Option.some.inj h).symm
def fX12_image (n : Nat) (x1 : Int32) (μ : Mu) : Option (Int32 × Mu) := bnd (fX12_within n (x1.toInt64) 0 1 (wI μ 139 0 0)) fun u2 => if u2 = 0 then (some ((-2), wI μ 139 0 0)) else (bnd (lp n (sX12_image_20 n x1) (0, wI μ 139 0 0)) fun q => match q with | m7 => gd (ib x1 2) (some (0, wI m7 141 (ix x1) (vp_nar .boolean 1))))
set_option maxRecDepth 100000 in
set_option maxHeartbeats 4000000 in
theorem tX12_image {l : Launch} {w : WP} {sh : List Sh} {R : Rf} {μ : Mu} {r : Int32} {μ' : Mu} (hY : LY sh R) (n : Nat) (x1 : Int32)  (h : fX12_image n x1 μ = some (r, μ')) : CM l w yX12_image cX12_image 3 (some .int) 1 0 0 sh R [.ref (wb w + 139), .int x1] μ (some (.int r)) sh R μ' := by
  refine CM.of (plainFor_of_name pf_X12) (Nat.le_of_ble_eq_true rfl) fun Z C hr _ hR hw hl hE => ?_
  subst hw; subst hl
  have C : CX Z cX12_image 3 RX12 := C
  show Wm Z (0, 0, sh, R) μ 0 [(0, .ref (wb (zw Z) + 139)), (1, .int x1)] []
  unfold fX12_image at h
  refine r_aload_n C dX12_image_0 0 rfl ?_
  refine r_iconst C dX12_image_1 ic_0 ?_
  refine r_putI C fiX12_1 dX12_image_2 (ly139 hY) ?_
  refine r_iload_n C dX12_image_5 1 rfl ?_
  refine r_i2l C dX12_image_6 ?_
  refine r_lconst C dX12_image_7 lc_0 ?_
  refine r_lconst C dX12_image_8 lc_1 ?_
  obtain ⟨u2, e1, h⟩ := bnd_inv h
  refine r_cSi (As := [.long (x1.toInt64), .long 0, .long 1]) (rest := []) C hR mlX12_130 dX12_image_9 (tX12_within hY n (x1.toInt64) 0 1  e1) rfl rfl (nle rfl) (nle rfl) (nle rfl) ?_
  refine r_if_ne 18 C dX12_image_12 (by decide) (fun c3 => ?_) (fun c3 => ?_)
  · have h := (ite_inv h).2 c3
    refine r_iconst C dX12_image_18 ic_0 ?_
    refine r_istore_n [(2, .int 0), (0, .ref (wb (zw Z) + 139)), (1, .int x1)] C dX12_image_19 rfl (by decide) rfl ?_
    refine r_sub [(0, .ref (wb (zw Z) + 139)), (1, .int x1), (2, .int 0)] [1, 2, 0] rfl ?_
    obtain ⟨m7, e8, h⟩ := bnd_inv h
    refine lp_all (sX12_image_20 n x1) (fun q => match q with | (z2, ν) => Wm Z (0, 0, sh, R) (ν) 20 [(0, .ref (wb (zw Z) + 139)), (1, .int x1), (2, .int z2)] []) (fun q => match q with | ν => Wm Z (0, 0, sh, R) (ν) 53 [(0, .ref (wb (zw Z) + 139)), (1, .int x1)] []) (fun q o h kin kex => ?_) n (0, wI μ 139 0 0) m7 e8 ?_
    · obtain ⟨z2, ν⟩ := q; exact lX12_image_20 C hR hY n   x1 z2 ν h (fun z2 ν e => kin (z2, ν) e) (fun ν e => kex (ν) e)
    show Wm Z (0, 0, sh, R) m7 53 [(0, .ref (wb (zw Z) + 139)), (1, .int x1)] []
    refine r_aload_n C dX12_image_53 0 rfl ?_
    refine r_getR C flX12_17 dX12_image_54 (ly139 hY) rfl (lr139_2 hY) ?_
    refine r_iload_n C dX12_image_57 1 rfl ?_
    refine r_iconst C dX12_image_58 ic_1 ?_
    obtain ⟨b9, h⟩ := gd_inv h
    refine r_zast C dX12_image_59 (ly141 hY) b9 ?_
    refine r_iconst C dX12_image_60 ic_0 ?_
    obtain ⟨h1, h2⟩ := Prod.mk.inj (Option.some.inj h)
    subst h1; subst h2
    exact r_iret C dX12_image_61 hr hE
  · have h := (ite_inv h).1 c3
    refine r_bipush C dX12_image_15 bp_m2 ?_
    obtain ⟨h1, h2⟩ := Prod.mk.inj (Option.some.inj h)
    subst h1; subst h2
    exact r_iret C dX12_image_17 hr hE
def sX12_restore_32 (n : Nat) (x1 : Int32) : Int32 × Mu → Option ((Int32 × Mu) ⊕ (Mu)) := fun q => match q with | (x2, μ) => if 2242 ≤ x2 then (some (.inr μ)) else (gd (ib ((2242 * (x1 + 1)) + x2) 6726) (gd (ib x2 6726) (some (.inl (x2 + 1, wI μ 140 (ix x2) (rI μ 140 (ix ((2242 * (x1 + 1)) + x2))))))))
set_option maxRecDepth 100000 in
set_option maxHeartbeats 4000000 in
theorem lX12_restore_32 {Z : ZC} {sh : List Sh} {R : Rf} {o : (Int32 × Mu) ⊕ (Mu)} (C : CX Z cX12_restore 3 RX12) (hR : zR Z = rm 1 0 0) (hY : LY sh R) (n : Nat) (x1 : Int32) (x2 : Int32) (μ : Mu) (h : sX12_restore_32 n x1 (x2, μ) = some o) (kin : ∀ (x2 : Int32) (μ : Mu), o = .inl (x2, μ) → Wm Z (0, 0, sh, R) μ 32 [(0, .ref (wb (zw Z) + 139)), (1, .int x1), (2, .int x2)] []) (kex0 : ∀ (μ : Mu), o = .inr μ → Wm Z (0, 0, sh, R) μ 65 [(0, .ref (wb (zw Z) + 139))] []) : Wm Z (0, 0, sh, R) μ 32 [(0, .ref (wb (zw Z) + 139)), (1, .int x1), (2, .int x2)] [] := by
  unfold sX12_restore_32 at h
  refine r_iload_n C dX12_restore_32 2 rfl ?_
  refine r_sipush C dX12_restore_33 sp_2242 ?_
  refine r_icmp_ge 65 C dX12_restore_36 (by decide) (fun c6 => ?_) (fun c6 => ?_)
  · have h := (ite_inv h).1 c6
    refine r_sub [(0, .ref (wb (zw Z) + 139))] [0] rfl ?_
    exact kex0 μ (Option.some.inj h).symm
  · have h := (ite_inv h).2 c6
    refine r_aload_n C dX12_restore_39 0 rfl ?_
    refine r_getR C flX12_13 dX12_restore_40 (ly139 hY) rfl (lr139_1 hY) ?_
    refine r_iload_n C dX12_restore_43 2 rfl ?_
    refine r_aload_n C dX12_restore_44 0 rfl ?_
    refine r_getR C flX12_13 dX12_restore_45 (ly139 hY) rfl (lr139_1 hY) ?_
    refine r_sipush C dX12_restore_48 sp_2242 ?_
    refine r_iload_n C dX12_restore_51 1 rfl ?_
    refine r_iconst C dX12_restore_52 ic_1 ?_
    refine r_iadd C dX12_restore_53 ?_
    refine r_imul C dX12_restore_54 ?_
    refine r_iload_n C dX12_restore_55 2 rfl ?_
    refine r_iadd C dX12_restore_56 ?_
    obtain ⟨b7, h⟩ := gd_inv h
    refine r_iald C dX12_restore_57 (ly140 hY) b7 ?_
    obtain ⟨b8, h⟩ := gd_inv h
    refine r_iast C dX12_restore_58 (ly140 hY) b8 ?_
    refine r_iinc [(2, .int (x2 + 1)), (0, .ref (wb (zw Z) + 139)), (1, .int x1)] C dX12_restore_59 2 rfl (in_1 _) (by decide) rfl ?_
    refine r_goto 32 C dX12_restore_62 (by decide) ?_
    refine r_sub [(0, .ref (wb (zw Z) + 139)), (1, .int x1), (2, .int (x2 + 1))] [1, 2, 0] rfl ?_
    exact kin (x2 + 1) (wI μ 140 (ix x2) (rI μ 140 (ix ((2242 * (x1 + 1)) + x2)))) (Option.some.inj h).symm
def fX12_restore (n : Nat) (x1 : Int32) (μ : Mu) : Option (Int32 × Mu) := bnd (fX12_within n (x1.toInt64) 0 1 (wI μ 139 0 0)) fun u2 => if u2 = 0 then (some ((-2), wI μ 139 0 0)) else (gd (ib x1 2) (if (rI (wI μ 139 0 0) 141 (ix x1)) = 0 then (some ((-5), wI μ 139 0 0)) else (bnd (lp n (sX12_restore_32 n x1) (0, wI μ 139 0 0)) fun q => match q with | m9 => some (0, wI m9 140 180 0))))
set_option maxRecDepth 100000 in
set_option maxHeartbeats 4000000 in
theorem tX12_restore {l : Launch} {w : WP} {sh : List Sh} {R : Rf} {μ : Mu} {r : Int32} {μ' : Mu} (hY : LY sh R) (n : Nat) (x1 : Int32)  (h : fX12_restore n x1 μ = some (r, μ')) : CM l w yX12_restore cX12_restore 3 (some .int) 1 0 0 sh R [.ref (wb w + 139), .int x1] μ (some (.int r)) sh R μ' := by
  refine CM.of (plainFor_of_name pf_X12) (Nat.le_of_ble_eq_true rfl) fun Z C hr _ hR hw hl hE => ?_
  subst hw; subst hl
  have C : CX Z cX12_restore 3 RX12 := C
  show Wm Z (0, 0, sh, R) μ 0 [(0, .ref (wb (zw Z) + 139)), (1, .int x1)] []
  unfold fX12_restore at h
  refine r_aload_n C dX12_restore_0 0 rfl ?_
  refine r_iconst C dX12_restore_1 ic_0 ?_
  refine r_putI C fiX12_1 dX12_restore_2 (ly139 hY) ?_
  refine r_iload_n C dX12_restore_5 1 rfl ?_
  refine r_i2l C dX12_restore_6 ?_
  refine r_lconst C dX12_restore_7 lc_0 ?_
  refine r_lconst C dX12_restore_8 lc_1 ?_
  obtain ⟨u2, e1, h⟩ := bnd_inv h
  refine r_cSi (As := [.long (x1.toInt64), .long 0, .long 1]) (rest := []) C hR mlX12_130 dX12_restore_9 (tX12_within hY n (x1.toInt64) 0 1  e1) rfl rfl (nle rfl) (nle rfl) (nle rfl) ?_
  refine r_if_ne 18 C dX12_restore_12 (by decide) (fun c3 => ?_) (fun c3 => ?_)
  · have h := (ite_inv h).2 c3
    refine r_aload_n C dX12_restore_18 0 rfl ?_
    refine r_getR C flX12_17 dX12_restore_19 (ly139 hY) rfl (lr139_2 hY) ?_
    refine r_iload_n C dX12_restore_22 1 rfl ?_
    obtain ⟨b4, h⟩ := gd_inv h
    refine r_zald C dX12_restore_23 (ly141 hY) b4 ?_
    refine r_if_ne 30 C dX12_restore_24 (by decide) (fun c5 => ?_) (fun c5 => ?_)
    · have h := (ite_inv h).2 c5
      refine r_iconst C dX12_restore_30 ic_0 ?_
      refine r_istore_n [(2, .int 0), (0, .ref (wb (zw Z) + 139)), (1, .int x1)] C dX12_restore_31 rfl (by decide) rfl ?_
      refine r_sub [(0, .ref (wb (zw Z) + 139)), (1, .int x1), (2, .int 0)] [1, 2, 0] rfl ?_
      obtain ⟨m9, e10, h⟩ := bnd_inv h
      refine lp_all (sX12_restore_32 n x1) (fun q => match q with | (z2, ν) => Wm Z (0, 0, sh, R) (ν) 32 [(0, .ref (wb (zw Z) + 139)), (1, .int x1), (2, .int z2)] []) (fun q => match q with | ν => Wm Z (0, 0, sh, R) (ν) 65 [(0, .ref (wb (zw Z) + 139))] []) (fun q o h kin kex => ?_) n (0, wI μ 139 0 0) m9 e10 ?_
      · obtain ⟨z2, ν⟩ := q; exact lX12_restore_32 C hR hY n   x1 z2 ν h (fun z2 ν e => kin (z2, ν) e) (fun ν e => kex (ν) e)
      show Wm Z (0, 0, sh, R) m9 65 [(0, .ref (wb (zw Z) + 139))] []
      refine r_aload_n C dX12_restore_65 0 rfl ?_
      refine r_getR C flX12_13 dX12_restore_66 (ly139 hY) rfl (lr139_1 hY) ?_
      refine r_sipush C dX12_restore_69 sp_180 ?_
      refine r_iconst C dX12_restore_72 ic_0 ?_
      refine r_iast C dX12_restore_73 (ly140 hY) (by decide) ?_
      refine r_iconst C dX12_restore_74 ic_0 ?_
      obtain ⟨h1, h2⟩ := Prod.mk.inj (Option.some.inj h)
      subst h1; subst h2
      exact r_iret C dX12_restore_75 hr hE
    · have h := (ite_inv h).1 c5
      refine r_bipush C dX12_restore_27 bp_m5 ?_
      obtain ⟨h1, h2⟩ := Prod.mk.inj (Option.some.inj h)
      subst h1; subst h2
      exact r_iret C dX12_restore_29 hr hE
  · have h := (ite_inv h).1 c3
    refine r_bipush C dX12_restore_15 bp_m2 ?_
    obtain ⟨h1, h2⟩ := Prod.mk.inj (Option.some.inj h)
    subst h1; subst h2
    exact r_iret C dX12_restore_17 hr hE
def fX12_count (n : Nat) (x1 : Int32) (μ : Mu) : Option (Int32 × Mu) := if x1 = 0 then (some (rI (wI μ 139 0 0) 140 1, wI μ 139 0 0)) else (if x1 = 1 then (some (rI (wI μ 139 0 0) 140 2, wI μ 139 0 0)) else (if x1 = 2 then (some (rI (wI μ 139 0 0) 140 3, wI μ 139 0 0)) else (if x1 = 3 then (some (rI (wI μ 139 0 0) 140 4, wI μ 139 0 0)) else (if x1 = 4 then (some (rI (wI μ 139 0 0) 140 67, wI μ 139 0 0)) else (if x1 = 5 then (some (rI (wI μ 139 0 0) 140 64, wI μ 139 0 0)) else (if x1 = 6 then (some (rI (wI μ 139 0 0) 140 65, wI μ 139 0 0)) else (if x1 = 7 then (some (rI (wI μ 139 0 0) 140 180, wI μ 139 0 0)) else (if x1 = 8 then (some (rI (wI μ 139 0 0) 139 5, wI μ 139 0 0)) else (if x1 = 9 then (some (rI (wI μ 139 0 0) 140 0, wI μ 139 0 0)) else (some ((-1), wI μ 139 0 0)))))))))))
set_option maxRecDepth 100000 in
set_option maxHeartbeats 4000000 in
theorem tX12_count {l : Launch} {w : WP} {sh : List Sh} {R : Rf} {μ : Mu} {r : Int32} {μ' : Mu} (hY : LY sh R) (n : Nat) (x1 : Int32)  (h : fX12_count n x1 μ = some (r, μ')) : CM l w yX12_count cX12_count 2 (some .int) 0 0 0 sh R [.ref (wb w + 139), .int x1] μ (some (.int r)) sh R μ' := by
  refine CM.of (plainFor_of_name pf_X12) (Nat.le_of_ble_eq_true rfl) fun Z C hr _ hR hw hl hE => ?_
  subst hw; subst hl
  have C : CX Z cX12_count 2 RX12 := C
  show Wm Z (0, 0, sh, R) μ 0 [(0, .ref (wb (zw Z) + 139)), (1, .int x1)] []
  unfold fX12_count at h
  refine r_aload_n C dX12_count_0 0 rfl ?_
  refine r_iconst C dX12_count_1 ic_0 ?_
  refine r_putI C fiX12_1 dX12_count_2 (ly139 hY) ?_
  refine r_iload_n C dX12_count_5 1 rfl ?_
  by_cases c1 : x1 = 0
  · have h := (ite_inv h).1 c1
    refine r_tabIn 60 C dX12_count_6 (by rw [c1, ti_0]; decide) (by rw [c1, ti_0]; decide) (by rw [c1, ti_0]; rfl) (by decide) ?_
    refine r_aload_n C dX12_count_60 0 rfl ?_
    refine r_getR C flX12_13 dX12_count_61 (ly139 hY) rfl (lr139_1 hY) ?_
    refine r_iconst C dX12_count_64 ic_1 ?_
    refine r_iald C dX12_count_65 (ly140 hY) (by decide) ?_
    obtain ⟨h1, h2⟩ := Prod.mk.inj (Option.some.inj h)
    subst h1; subst h2
    exact r_iret C dX12_count_66 hr hE
  have h := (ite_inv h).2 c1
  by_cases c2 : x1 = 1
  · have h := (ite_inv h).1 c2
    refine r_tabIn 67 C dX12_count_6 (by rw [c2, ti_1]; decide) (by rw [c2, ti_1]; decide) (by rw [c2, ti_1]; rfl) (by decide) ?_
    refine r_aload_n C dX12_count_67 0 rfl ?_
    refine r_getR C flX12_13 dX12_count_68 (ly139 hY) rfl (lr139_1 hY) ?_
    refine r_iconst C dX12_count_71 ic_2 ?_
    refine r_iald C dX12_count_72 (ly140 hY) (by decide) ?_
    obtain ⟨h1, h2⟩ := Prod.mk.inj (Option.some.inj h)
    subst h1; subst h2
    exact r_iret C dX12_count_73 hr hE
  have h := (ite_inv h).2 c2
  by_cases c3 : x1 = 2
  · have h := (ite_inv h).1 c3
    refine r_tabIn 74 C dX12_count_6 (by rw [c3, ti_2]; decide) (by rw [c3, ti_2]; decide) (by rw [c3, ti_2]; rfl) (by decide) ?_
    refine r_aload_n C dX12_count_74 0 rfl ?_
    refine r_getR C flX12_13 dX12_count_75 (ly139 hY) rfl (lr139_1 hY) ?_
    refine r_iconst C dX12_count_78 ic_3 ?_
    refine r_iald C dX12_count_79 (ly140 hY) (by decide) ?_
    obtain ⟨h1, h2⟩ := Prod.mk.inj (Option.some.inj h)
    subst h1; subst h2
    exact r_iret C dX12_count_80 hr hE
  have h := (ite_inv h).2 c3
  by_cases c4 : x1 = 3
  · have h := (ite_inv h).1 c4
    refine r_tabIn 81 C dX12_count_6 (by rw [c4, ti_3]; decide) (by rw [c4, ti_3]; decide) (by rw [c4, ti_3]; rfl) (by decide) ?_
    refine r_aload_n C dX12_count_81 0 rfl ?_
    refine r_getR C flX12_13 dX12_count_82 (ly139 hY) rfl (lr139_1 hY) ?_
    refine r_iconst C dX12_count_85 ic_4 ?_
    refine r_iald C dX12_count_86 (ly140 hY) (by decide) ?_
    obtain ⟨h1, h2⟩ := Prod.mk.inj (Option.some.inj h)
    subst h1; subst h2
    exact r_iret C dX12_count_87 hr hE
  have h := (ite_inv h).2 c4
  by_cases c5 : x1 = 4
  · have h := (ite_inv h).1 c5
    refine r_tabIn 88 C dX12_count_6 (by rw [c5, ti_4]; decide) (by rw [c5, ti_4]; decide) (by rw [c5, ti_4]; rfl) (by decide) ?_
    refine r_aload_n C dX12_count_88 0 rfl ?_
    refine r_getR C flX12_13 dX12_count_89 (ly139 hY) rfl (lr139_1 hY) ?_
    refine r_bipush C dX12_count_92 bp_67 ?_
    refine r_iald C dX12_count_94 (ly140 hY) (by decide) ?_
    obtain ⟨h1, h2⟩ := Prod.mk.inj (Option.some.inj h)
    subst h1; subst h2
    exact r_iret C dX12_count_95 hr hE
  have h := (ite_inv h).2 c5
  by_cases c6 : x1 = 5
  · have h := (ite_inv h).1 c6
    refine r_tabIn 96 C dX12_count_6 (by rw [c6, ti_5]; decide) (by rw [c6, ti_5]; decide) (by rw [c6, ti_5]; rfl) (by decide) ?_
    refine r_aload_n C dX12_count_96 0 rfl ?_
    refine r_getR C flX12_13 dX12_count_97 (ly139 hY) rfl (lr139_1 hY) ?_
    refine r_bipush C dX12_count_100 bp_64 ?_
    refine r_iald C dX12_count_102 (ly140 hY) (by decide) ?_
    obtain ⟨h1, h2⟩ := Prod.mk.inj (Option.some.inj h)
    subst h1; subst h2
    exact r_iret C dX12_count_103 hr hE
  have h := (ite_inv h).2 c6
  by_cases c7 : x1 = 6
  · have h := (ite_inv h).1 c7
    refine r_tabIn 104 C dX12_count_6 (by rw [c7, ti_6]; decide) (by rw [c7, ti_6]; decide) (by rw [c7, ti_6]; rfl) (by decide) ?_
    refine r_aload_n C dX12_count_104 0 rfl ?_
    refine r_getR C flX12_13 dX12_count_105 (ly139 hY) rfl (lr139_1 hY) ?_
    refine r_bipush C dX12_count_108 bp_65 ?_
    refine r_iald C dX12_count_110 (ly140 hY) (by decide) ?_
    obtain ⟨h1, h2⟩ := Prod.mk.inj (Option.some.inj h)
    subst h1; subst h2
    exact r_iret C dX12_count_111 hr hE
  have h := (ite_inv h).2 c7
  by_cases c8 : x1 = 7
  · have h := (ite_inv h).1 c8
    refine r_tabIn 112 C dX12_count_6 (by rw [c8, ti_7]; decide) (by rw [c8, ti_7]; decide) (by rw [c8, ti_7]; rfl) (by decide) ?_
    refine r_aload_n C dX12_count_112 0 rfl ?_
    refine r_getR C flX12_13 dX12_count_113 (ly139 hY) rfl (lr139_1 hY) ?_
    refine r_sipush C dX12_count_116 sp_180 ?_
    refine r_iald C dX12_count_119 (ly140 hY) (by decide) ?_
    obtain ⟨h1, h2⟩ := Prod.mk.inj (Option.some.inj h)
    subst h1; subst h2
    exact r_iret C dX12_count_120 hr hE
  have h := (ite_inv h).2 c8
  by_cases c9 : x1 = 8
  · have h := (ite_inv h).1 c9
    refine r_tabIn 121 C dX12_count_6 (by rw [c9, ti_8]; decide) (by rw [c9, ti_8]; decide) (by rw [c9, ti_8]; rfl) (by decide) ?_
    refine r_aload_n C dX12_count_121 0 rfl ?_
    refine r_getI C flX12_68 dX12_count_122 (ly139 hY) rfl ?_
    obtain ⟨h1, h2⟩ := Prod.mk.inj (Option.some.inj h)
    subst h1; subst h2
    exact r_iret C dX12_count_125 hr hE
  have h := (ite_inv h).2 c9
  by_cases c10 : x1 = 9
  · have h := (ite_inv h).1 c10
    refine r_tabIn 126 C dX12_count_6 (by rw [c10, ti_9]; decide) (by rw [c10, ti_9]; decide) (by rw [c10, ti_9]; rfl) (by decide) ?_
    refine r_aload_n C dX12_count_126 0 rfl ?_
    refine r_getR C flX12_13 dX12_count_127 (ly139 hY) rfl (lr139_1 hY) ?_
    refine r_iconst C dX12_count_130 ic_0 ?_
    refine r_iald C dX12_count_131 (ly140 hY) (by decide) ?_
    obtain ⟨h1, h2⟩ := Prod.mk.inj (Option.some.inj h)
    subst h1; subst h2
    exact r_iret C dX12_count_132 hr hE
  have h := (ite_inv h).2 c10
  suffices hj : Wm Z (0, 0, sh, R) (wI μ 139 0 0) 133 [(0, .ref (wb (zw Z) + 139)), (1, .int x1)] [] by
    have q0 := tne c1 ti_0
    have q1 := tne c2 ti_1
    have q2 := tne c3 ti_2
    have q3 := tne c4 ti_3
    have q4 := tne c5 ti_4
    have q5 := tne c6 ti_5
    have q6 := tne c7 ti_6
    have q7 := tne c8 ti_7
    have q8 := tne c9 ti_8
    have q9 := tne c10 ti_9
    exact r_tabOut 133 C dX12_count_6 (by omega) (by decide) hj
  refine r_iconst C dX12_count_133 ic_m1 ?_
  obtain ⟨h1, h2⟩ := Prod.mk.inj (Option.some.inj h)
  subst h1; subst h2
  exact r_iret C dX12_count_134 hr hE
