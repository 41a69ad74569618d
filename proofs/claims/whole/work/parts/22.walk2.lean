def fX5_nextLine (n : Nat)  (μ : Mu) : Option (Int32 × Mu) := bnd (fX5_kind n μ) fun u2 => if u2 = 201 then (bnd2 (fX5_currentLine n μ) fun u5 m6 => gd (isb u5) (some (u5, m6))) else (if u2 = 203 then (bnd2 (fX5_personLine n μ) fun u10 m11 => gd (isb u10) (some (u10, m11))) else (if u2 = 206 then (bnd2 (fX5_shellLine n μ) fun u15 m16 => gd (isb u15) (some (u15, m16))) else (if u2 = 208 then (bnd2 (fX5_lawLine n 0 μ) fun u20 m21 => if u20 = 0 then (some (0, m21)) else (bnd2 (fX5_sum n 0 m21) fun u24 m25 => if u24 = 0 then (some (0, m25)) else (some (1, m25)))) else (if u2 = 209 then (bnd2 (fX5_lawLine n 1 μ) fun u29 m30 => if u29 = 0 then (some (0, m30)) else (bnd2 (fX5_truth n 0 m30) fun u33 m34 => if u33 = 0 then (some (0, m34)) else (some (1, m34)))) else (if u2 = 210 then (bnd2 (fX5_lawLine n 2 μ) fun u38 m39 => if u38 = 0 then (some (0, m39)) else (bnd2 (fX5_truth n 0 m39) fun u42 m43 => if u42 = 0 then (some (0, m43)) else (some (1, m43)))) else (if u2 = 211 then (bnd2 (fX5_amount n 0 99 (wI μ 13 4 ((rI μ 13 4) + 1))) fun u47 m48 => if (rI (wI m48 14 6 u47) 14 6) = (-1) then (some (0, wI m48 14 6 u47)) else (some (1, wI m48 14 6 u47))) else (if u2 = 212 then (bnd2 (fX5_amount n 0 999 (wI μ 13 4 ((rI μ 13 4) + 1))) fun u52 m53 => if (rI (wI m53 14 5 u52) 14 5) = (-1) then (some (0, wI m53 14 5 u52)) else (some (1, wI m53 14 5 u52))) else (bnd2 (fX5_refuse n μ) fun u60 m61 => gd (isb u60) (some (u60, m61))))))))))
set_option maxRecDepth 100000 in
set_option maxHeartbeats 4000000 in
theorem tX5_nextLine {l : Launch} {w : WP} {sh : List Sh} {R : Rf} {μ : Mu} {r : Int32} {μ' : Mu} (hY : LY sh R) (n : Nat)   (h : fX5_nextLine n μ = some (r, μ')) : CM l w yX5_nextLine cX5_nextLine 1 (some .boolean) 64 0 0 sh R [.ref (wb w + 13)] μ (some (.int r)) sh R μ' := by
  refine CM.of (plainFor_of_name pf_X5) (Nat.le_of_ble_eq_true rfl) fun Z C hr _ hR hw hl hE => ?_
  subst hw; subst hl
  have C : CX Z cX5_nextLine 1 RX5 := C
  show Wm Z (0, 0, sh, R) μ 0 [(0, .ref (wb (zw Z) + 13))] []
  unfold fX5_nextLine at h
  refine r_aload_n C dX5_nextLine_0 0 rfl ?_
  obtain ⟨u2, e1, h⟩ := bnd_inv h
  refine r_cVi (As := []) (rest := []) C hR mlX5_46 dX5_nextLine_1 (tX5_kind hY n  e1) rfl rfl (ly13 hY) rfl (nle rfl) (nle rfl) (nle rfl) ?_
  by_cases c3 : u2 = 201
  · have h := (ite_inv h).1 c3
    refine r_tabIn 68 C dX5_nextLine_4 (by rw [c3, ti_201]; decide) (by rw [c3, ti_201]; decide) (by rw [c3, ti_201]; rfl) (by decide) ?_
    refine r_aload_n C dX5_nextLine_68 0 rfl ?_
    obtain ⟨u5, m6, e4, h⟩ := bnd2_inv h
    refine r_cVi (As := []) (rest := []) C hR mlX5_78 dX5_nextLine_69 (tX5_currentLine hY n  e4) rfl rfl (ly13 hY) rfl (nle rfl) (nle rfl) (nle rfl) ?_
    obtain ⟨b7, h⟩ := gd_inv h
    obtain ⟨h1, h2⟩ := Prod.mk.inj (Option.some.inj h)
    subst h1; subst h2
    exact r_zret C dX5_nextLine_72 hr (isb_n b7) hE
  have h := (ite_inv h).2 c3
  by_cases c8 : u2 = 203
  · have h := (ite_inv h).1 c8
    refine r_tabIn 73 C dX5_nextLine_4 (by rw [c8, ti_203]; decide) (by rw [c8, ti_203]; decide) (by rw [c8, ti_203]; rfl) (by decide) ?_
    refine r_aload_n C dX5_nextLine_73 0 rfl ?_
    obtain ⟨u10, m11, e9, h⟩ := bnd2_inv h
    refine r_cVi (As := []) (rest := []) C hR mlX5_81 dX5_nextLine_74 (tX5_personLine hY n  e9) rfl rfl (ly13 hY) rfl (nle rfl) (nle rfl) (nle rfl) ?_
    obtain ⟨b12, h⟩ := gd_inv h
    obtain ⟨h1, h2⟩ := Prod.mk.inj (Option.some.inj h)
    subst h1; subst h2
    exact r_zret C dX5_nextLine_77 hr (isb_n b12) hE
  have h := (ite_inv h).2 c8
  by_cases c13 : u2 = 206
  · have h := (ite_inv h).1 c13
    refine r_tabIn 78 C dX5_nextLine_4 (by rw [c13, ti_206]; decide) (by rw [c13, ti_206]; decide) (by rw [c13, ti_206]; rfl) (by decide) ?_
    refine r_aload_n C dX5_nextLine_78 0 rfl ?_
    obtain ⟨u15, m16, e14, h⟩ := bnd2_inv h
    refine r_cVi (As := []) (rest := []) C hR mlX5_84 dX5_nextLine_79 (tX5_shellLine hY n  e14) rfl rfl (ly13 hY) rfl (nle rfl) (nle rfl) (nle rfl) ?_
    obtain ⟨b17, h⟩ := gd_inv h
    obtain ⟨h1, h2⟩ := Prod.mk.inj (Option.some.inj h)
    subst h1; subst h2
    exact r_zret C dX5_nextLine_82 hr (isb_n b17) hE
  have h := (ite_inv h).2 c13
  by_cases c18 : u2 = 208
  · have h := (ite_inv h).1 c18
    refine r_tabIn 83 C dX5_nextLine_4 (by rw [c18, ti_208]; decide) (by rw [c18, ti_208]; decide) (by rw [c18, ti_208]; rfl) (by decide) ?_
    refine r_aload_n C dX5_nextLine_83 0 rfl ?_
    refine r_iconst C dX5_nextLine_84 ic_0 ?_
    obtain ⟨u20, m21, e19, h⟩ := bnd2_inv h
    refine r_cVi (As := [.int 0]) (rest := []) C hR mlX5_87 dX5_nextLine_85 (tX5_lawLine hY n 0  e19) rfl rfl (ly13 hY) rfl (nle rfl) (nle rfl) (nle rfl) ?_
    refine r_if_eq 103 C dX5_nextLine_88 (by decide) (fun c22 => ?_) (fun c22 => ?_)
    · have h := (ite_inv h).1 c22
      refine r_iconst C dX5_nextLine_103 ic_0 ?_
      obtain ⟨h1, h2⟩ := Prod.mk.inj (Option.some.inj h)
      subst h1; subst h2
      exact r_zret C dX5_nextLine_104 hr rfl hE
    · have h := (ite_inv h).2 c22
      refine r_aload_n C dX5_nextLine_91 0 rfl ?_
      refine r_iconst C dX5_nextLine_92 ic_0 ?_
      obtain ⟨u24, m25, e23, h⟩ := bnd2_inv h
      refine r_cVi (As := [.int 0]) (rest := []) C hR mlX5_90 dX5_nextLine_93 (tX5_sum hY n 0  e23) rfl rfl (ly13 hY) rfl (nle rfl) (nle rfl) (nle rfl) ?_
      refine r_if_eq 103 C dX5_nextLine_96 (by decide) (fun c26 => ?_) (fun c26 => ?_)
      · have h := (ite_inv h).1 c26
        refine r_iconst C dX5_nextLine_103 ic_0 ?_
        obtain ⟨h1, h2⟩ := Prod.mk.inj (Option.some.inj h)
        subst h1; subst h2
        exact r_zret C dX5_nextLine_104 hr rfl hE
      · have h := (ite_inv h).2 c26
        refine r_iconst C dX5_nextLine_99 ic_1 ?_
        refine r_goto 104 C dX5_nextLine_100 (by decide) ?_
        obtain ⟨h1, h2⟩ := Prod.mk.inj (Option.some.inj h)
        subst h1; subst h2
        exact r_zret C dX5_nextLine_104 hr rfl hE
  have h := (ite_inv h).2 c18
  by_cases c27 : u2 = 209
  · have h := (ite_inv h).1 c27
    refine r_tabIn 105 C dX5_nextLine_4 (by rw [c27, ti_209]; decide) (by rw [c27, ti_209]; decide) (by rw [c27, ti_209]; rfl) (by decide) ?_
    refine r_aload_n C dX5_nextLine_105 0 rfl ?_
    refine r_iconst C dX5_nextLine_106 ic_1 ?_
    obtain ⟨u29, m30, e28, h⟩ := bnd2_inv h
    refine r_cVi (As := [.int 1]) (rest := []) C hR mlX5_87 dX5_nextLine_107 (tX5_lawLine hY n 1  e28) rfl rfl (ly13 hY) rfl (nle rfl) (nle rfl) (nle rfl) ?_
    refine r_if_eq 125 C dX5_nextLine_110 (by decide) (fun c31 => ?_) (fun c31 => ?_)
    · have h := (ite_inv h).1 c31
      refine r_iconst C dX5_nextLine_125 ic_0 ?_
      obtain ⟨h1, h2⟩ := Prod.mk.inj (Option.some.inj h)
      subst h1; subst h2
      exact r_zret C dX5_nextLine_126 hr rfl hE
    · have h := (ite_inv h).2 c31
      refine r_aload_n C dX5_nextLine_113 0 rfl ?_
      refine r_iconst C dX5_nextLine_114 ic_0 ?_
      obtain ⟨u33, m34, e32, h⟩ := bnd2_inv h
      refine r_cVi (As := [.int 0]) (rest := []) C hR mlX5_93 dX5_nextLine_115 (tX5_truth hY n 0  e32) rfl rfl (ly13 hY) rfl (nle rfl) (nle rfl) (nle rfl) ?_
      refine r_if_eq 125 C dX5_nextLine_118 (by decide) (fun c35 => ?_) (fun c35 => ?_)
      · have h := (ite_inv h).1 c35
        refine r_iconst C dX5_nextLine_125 ic_0 ?_
        obtain ⟨h1, h2⟩ := Prod.mk.inj (Option.some.inj h)
        subst h1; subst h2
        exact r_zret C dX5_nextLine_126 hr rfl hE
      · have h := (ite_inv h).2 c35
        refine r_iconst C dX5_nextLine_121 ic_1 ?_
        refine r_goto 126 C dX5_nextLine_122 (by decide) ?_
        obtain ⟨h1, h2⟩ := Prod.mk.inj (Option.some.inj h)
        subst h1; subst h2
        exact r_zret C dX5_nextLine_126 hr rfl hE
  have h := (ite_inv h).2 c27
  by_cases c36 : u2 = 210
  · have h := (ite_inv h).1 c36
    refine r_tabIn 127 C dX5_nextLine_4 (by rw [c36, ti_210]; decide) (by rw [c36, ti_210]; decide) (by rw [c36, ti_210]; rfl) (by decide) ?_
    refine r_aload_n C dX5_nextLine_127 0 rfl ?_
    refine r_iconst C dX5_nextLine_128 ic_2 ?_
    obtain ⟨u38, m39, e37, h⟩ := bnd2_inv h
    refine r_cVi (As := [.int 2]) (rest := []) C hR mlX5_87 dX5_nextLine_129 (tX5_lawLine hY n 2  e37) rfl rfl (ly13 hY) rfl (nle rfl) (nle rfl) (nle rfl) ?_
    refine r_if_eq 147 C dX5_nextLine_132 (by decide) (fun c40 => ?_) (fun c40 => ?_)
    · have h := (ite_inv h).1 c40
      refine r_iconst C dX5_nextLine_147 ic_0 ?_
      obtain ⟨h1, h2⟩ := Prod.mk.inj (Option.some.inj h)
      subst h1; subst h2
      exact r_zret C dX5_nextLine_148 hr rfl hE
    · have h := (ite_inv h).2 c40
      refine r_aload_n C dX5_nextLine_135 0 rfl ?_
      refine r_iconst C dX5_nextLine_136 ic_0 ?_
      obtain ⟨u42, m43, e41, h⟩ := bnd2_inv h
      refine r_cVi (As := [.int 0]) (rest := []) C hR mlX5_93 dX5_nextLine_137 (tX5_truth hY n 0  e41) rfl rfl (ly13 hY) rfl (nle rfl) (nle rfl) (nle rfl) ?_
      refine r_if_eq 147 C dX5_nextLine_140 (by decide) (fun c44 => ?_) (fun c44 => ?_)
      · have h := (ite_inv h).1 c44
        refine r_iconst C dX5_nextLine_147 ic_0 ?_
        obtain ⟨h1, h2⟩ := Prod.mk.inj (Option.some.inj h)
        subst h1; subst h2
        exact r_zret C dX5_nextLine_148 hr rfl hE
      · have h := (ite_inv h).2 c44
        refine r_iconst C dX5_nextLine_143 ic_1 ?_
        refine r_goto 148 C dX5_nextLine_144 (by decide) ?_
        obtain ⟨h1, h2⟩ := Prod.mk.inj (Option.some.inj h)
        subst h1; subst h2
        exact r_zret C dX5_nextLine_148 hr rfl hE
  have h := (ite_inv h).2 c36
  by_cases c45 : u2 = 211
  · have h := (ite_inv h).1 c45
    refine r_tabIn 149 C dX5_nextLine_4 (by rw [c45, ti_211]; decide) (by rw [c45, ti_211]; decide) (by rw [c45, ti_211]; rfl) (by decide) ?_
    refine r_aload_n C dX5_nextLine_149 0 rfl ?_
    refine r_dup C dX5_nextLine_150 rfl ?_
    refine r_getI C flX5_32 dX5_nextLine_151 (ly13 hY) rfl ?_
    refine r_iconst C dX5_nextLine_154 ic_1 ?_
    refine r_iadd C dX5_nextLine_155 ?_
    refine r_putI C fiX5_32 dX5_nextLine_156 (ly13 hY) ?_
    refine r_aload_n C dX5_nextLine_159 0 rfl ?_
    refine r_getR C flX5_12 dX5_nextLine_160 (ly13 hY) rfl (lr13_0 hY) ?_
    refine r_aload_n C dX5_nextLine_163 0 rfl ?_
    refine r_iconst C dX5_nextLine_164 ic_0 ?_
    refine r_bipush C dX5_nextLine_165 bp_99 ?_
    obtain ⟨u47, m48, e46, h⟩ := bnd2_inv h
    refine r_cVi (As := [.int 0, .int 99]) (rest := [.ref (wb (zw Z) + 14)]) C hR mlX5_71 dX5_nextLine_167 (tX5_amount hY n 0 99  e46) rfl rfl (ly13 hY) rfl (nle rfl) (nle rfl) (nle rfl) ?_
    refine r_putI C fiX5_96 dX5_nextLine_170 (isSea_0 (lyRSea hY)) ?_
    refine r_aload_n C dX5_nextLine_173 0 rfl ?_
    refine r_getR C flX5_12 dX5_nextLine_174 (ly13 hY) rfl (lr13_0 hY) ?_
    refine r_getI C flX5_96 dX5_nextLine_177 (isSea_0 (lyRSea hY)) rfl ?_
    refine r_iconst C dX5_nextLine_180 ic_m1 ?_
    refine r_icmp_eq 188 C dX5_nextLine_181 (by decide) (fun c49 => ?_) (fun c49 => ?_)
    · have h := (ite_inv h).1 c49
      refine r_iconst C dX5_nextLine_188 ic_0 ?_
      obtain ⟨h1, h2⟩ := Prod.mk.inj (Option.some.inj h)
      subst h1; subst h2
      exact r_zret C dX5_nextLine_189 hr rfl hE
    · have h := (ite_inv h).2 c49
      refine r_iconst C dX5_nextLine_184 ic_1 ?_
      refine r_goto 189 C dX5_nextLine_185 (by decide) ?_
      obtain ⟨h1, h2⟩ := Prod.mk.inj (Option.some.inj h)
      subst h1; subst h2
      exact r_zret C dX5_nextLine_189 hr rfl hE
  have h := (ite_inv h).2 c45
  by_cases c50 : u2 = 212
  · have h := (ite_inv h).1 c50
    refine r_tabIn 190 C dX5_nextLine_4 (by rw [c50, ti_212]; decide) (by rw [c50, ti_212]; decide) (by rw [c50, ti_212]; rfl) (by decide) ?_
    refine r_aload_n C dX5_nextLine_190 0 rfl ?_
    refine r_dup C dX5_nextLine_191 rfl ?_
    refine r_getI C flX5_32 dX5_nextLine_192 (ly13 hY) rfl ?_
    refine r_iconst C dX5_nextLine_195 ic_1 ?_
    refine r_iadd C dX5_nextLine_196 ?_
    refine r_putI C fiX5_32 dX5_nextLine_197 (ly13 hY) ?_
    refine r_aload_n C dX5_nextLine_200 0 rfl ?_
    refine r_getR C flX5_12 dX5_nextLine_201 (ly13 hY) rfl (lr13_0 hY) ?_
    refine r_aload_n C dX5_nextLine_204 0 rfl ?_
    refine r_iconst C dX5_nextLine_205 ic_0 ?_
    refine r_sipush C dX5_nextLine_206 sp_999 ?_
    obtain ⟨u52, m53, e51, h⟩ := bnd2_inv h
    refine r_cVi (As := [.int 0, .int 999]) (rest := [.ref (wb (zw Z) + 14)]) C hR mlX5_71 dX5_nextLine_209 (tX5_amount hY n 0 999  e51) rfl rfl (ly13 hY) rfl (nle rfl) (nle rfl) (nle rfl) ?_
    refine r_putI C fiX5_99 dX5_nextLine_212 (isSea_0 (lyRSea hY)) ?_
    refine r_aload_n C dX5_nextLine_215 0 rfl ?_
    refine r_getR C flX5_12 dX5_nextLine_216 (ly13 hY) rfl (lr13_0 hY) ?_
    refine r_getI C flX5_99 dX5_nextLine_219 (isSea_0 (lyRSea hY)) rfl ?_
    refine r_iconst C dX5_nextLine_222 ic_m1 ?_
    refine r_icmp_eq 230 C dX5_nextLine_223 (by decide) (fun c54 => ?_) (fun c54 => ?_)
    · have h := (ite_inv h).1 c54
      refine r_iconst C dX5_nextLine_230 ic_0 ?_
      obtain ⟨h1, h2⟩ := Prod.mk.inj (Option.some.inj h)
      subst h1; subst h2
      exact r_zret C dX5_nextLine_231 hr rfl hE
    · have h := (ite_inv h).2 c54
      refine r_iconst C dX5_nextLine_226 ic_1 ?_
      refine r_goto 231 C dX5_nextLine_227 (by decide) ?_
      obtain ⟨h1, h2⟩ := Prod.mk.inj (Option.some.inj h)
      subst h1; subst h2
      exact r_zret C dX5_nextLine_231 hr rfl hE
  have h := (ite_inv h).2 c50
  suffices hj : Wm Z (0, 0, sh, R) μ 232 [(0, .ref (wb (zw Z) + 13))] [] by
    by_cases c55 : u2 = 202
    · exact r_tabIn 232 C dX5_nextLine_4 (by rw [c55, ti_202]; decide) (by rw [c55, ti_202]; decide) (by rw [c55, ti_202]; rfl) (by decide) hj
    by_cases c56 : u2 = 204
    · exact r_tabIn 232 C dX5_nextLine_4 (by rw [c56, ti_204]; decide) (by rw [c56, ti_204]; decide) (by rw [c56, ti_204]; rfl) (by decide) hj
    by_cases c57 : u2 = 205
    · exact r_tabIn 232 C dX5_nextLine_4 (by rw [c57, ti_205]; decide) (by rw [c57, ti_205]; decide) (by rw [c57, ti_205]; rfl) (by decide) hj
    by_cases c58 : u2 = 207
    · exact r_tabIn 232 C dX5_nextLine_4 (by rw [c58, ti_207]; decide) (by rw [c58, ti_207]; decide) (by rw [c58, ti_207]; rfl) (by decide) hj
    have q0 := tne c3 ti_201
    have q1 := tne c8 ti_203
    have q2 := tne c13 ti_206
    have q3 := tne c18 ti_208
    have q4 := tne c27 ti_209
    have q5 := tne c36 ti_210
    have q6 := tne c45 ti_211
    have q7 := tne c50 ti_212
    have q8 := tne c55 ti_202
    have q9 := tne c56 ti_204
    have q10 := tne c57 ti_205
    have q11 := tne c58 ti_207
    exact r_tabOut 232 C dX5_nextLine_4 (by omega) (by decide) hj
  refine r_aload_n C dX5_nextLine_232 0 rfl ?_
  obtain ⟨u60, m61, e59, h⟩ := bnd2_inv h
  refine r_cVi (As := []) (rest := []) C hR mlX5_68 dX5_nextLine_233 (tX5_refuse hY n  e59) rfl rfl (ly13 hY) rfl (nle rfl) (nle rfl) (nle rfl) ?_
  obtain ⟨b62, h⟩ := gd_inv h
  obtain ⟨h1, h2⟩ := Prod.mk.inj (Option.some.inj h)
  subst h1; subst h2
  exact r_zret C dX5_nextLine_236 hr (isb_n b62) hE
def jX5_read_79 (n : Nat) (x4 : Int32) (s0 : Int32) (μ : Mu) : Option ((Int32 × Int32 × Mu) ⊕ (Int32 × Mu)) := some (.inl (s0, x4 + 1, wI μ 14 4 ((rI μ 14 4) + 1)))
set_option maxRecDepth 100000 in
set_option maxHeartbeats 4000000 in
theorem kX5_read_79 {Z : ZC} {sh : List Sh} {R : Rf} {o : (Int32 × Int32 × Mu) ⊕ (Int32 × Mu)} (C : CX Z cX5_read 5 RX5) (hR : zR Z = rm 65 0 0) (hY : LY sh R) (n : Nat) (x4 : Int32) (s0 : Int32) (μ : Mu) (h : jX5_read_79 n x4 s0 μ = some o) (kin : ∀ (x3 : Int32) (x4 : Int32) (μ : Mu), o = .inl (x3, x4, μ) → Wm Z (0, 0, sh, R) μ 39 [(0, .ref (wb (zw Z) + 13)), (3, .int x3), (4, .int x4)] []) (kex0 : ∀ (x3 : Int32) (μ : Mu), o = .inr (x3, μ) → Wm Z (0, 0, sh, R) μ 99 [(3, .int x3)] []) : Wm Z (0, 0, sh, R) μ 79 [(0, .ref (wb (zw Z) + 13)), (4, .int x4)] [.int s0] := by
  unfold jX5_read_79 at h
  refine r_istore_n [(3, .int s0), (0, .ref (wb (zw Z) + 13)), (4, .int x4)] C dX5_read_79 rfl (by decide) rfl ?_
  refine r_aload_n C dX5_read_80 1 rfl ?_
  refine r_getR C flX5_12 dX5_read_81 (ly13 hY) rfl (lr13_0 hY) ?_
  refine r_dup C dX5_read_84 rfl ?_
  refine r_getI C flX5_57 dX5_read_85 (isSea_0 (lyRSea hY)) rfl ?_
  refine r_iconst C dX5_read_88 ic_1 ?_
  refine r_iadd C dX5_read_89 ?_
  refine r_putI C fiX5_57 dX5_read_90 (isSea_0 (lyRSea hY)) ?_
  refine r_iinc [(4, .int (x4 + 1)), (3, .int s0), (0, .ref (wb (zw Z) + 13))] C dX5_read_93 2 rfl (in_1 _) (by decide) rfl ?_
  refine r_goto 39 C dX5_read_96 (by decide) ?_
  refine r_sub [(0, .ref (wb (zw Z) + 13)), (3, .int s0), (4, .int (x4 + 1))] [2, 1, 0] rfl ?_
  exact kin s0 (x4 + 1) (wI μ 14 4 ((rI μ 14 4) + 1)) (Option.some.inj h).symm
def jX5_read_78 (n : Nat) (x4 : Int32) (μ : Mu) : Option ((Int32 × Int32 × Mu) ⊕ (Int32 × Mu)) := jX5_read_79 n x4 0 μ
set_option maxRecDepth 100000 in
set_option maxHeartbeats 4000000 in
theorem kX5_read_78 {Z : ZC} {sh : List Sh} {R : Rf} {o : (Int32 × Int32 × Mu) ⊕ (Int32 × Mu)} (C : CX Z cX5_read 5 RX5) (hR : zR Z = rm 65 0 0) (hY : LY sh R) (n : Nat) (x4 : Int32) (μ : Mu) (h : jX5_read_78 n x4 μ = some o) (kin : ∀ (x3 : Int32) (x4 : Int32) (μ : Mu), o = .inl (x3, x4, μ) → Wm Z (0, 0, sh, R) μ 39 [(0, .ref (wb (zw Z) + 13)), (3, .int x3), (4, .int x4)] []) (kex0 : ∀ (x3 : Int32) (μ : Mu), o = .inr (x3, μ) → Wm Z (0, 0, sh, R) μ 99 [(3, .int x3)] []) : Wm Z (0, 0, sh, R) μ 78 [(0, .ref (wb (zw Z) + 13)), (4, .int x4)] [] := by
  unfold jX5_read_78 at h
  refine r_iconst C dX5_read_78 ic_0 ?_
  exact kX5_read_79 C hR hY n   x4 0 μ h kin kex0
def sX5_read_39 (n : Nat)  : Int32 × Int32 × Mu → Option ((Int32 × Int32 × Mu) ⊕ (Int32 × Mu)) := fun q => match q with | (x3, x4, μ) => if 900 ≤ x4 then (some (.inr (x3, μ))) else (if x3 = 0 then (some (.inr (x3, μ))) else (bnd (fX5_kind n μ) fun u11 => if u11 = 0 then (some (.inr (x3, μ))) else (bnd2 (fX5_nextLine n μ) fun u14 m15 => if u14 = 0 then (jX5_read_78 n x4 m15) else (bnd2 (fX5_accept n 59 m15) fun u18 m19 => some (.inl ((if u18 = 0 then 0 else 1 : Int32), x4 + 1, wI m19 14 4 ((rI m19 14 4) + 1)))))))
set_option maxRecDepth 100000 in
set_option maxHeartbeats 4000000 in
theorem lX5_read_39 {Z : ZC} {sh : List Sh} {R : Rf} {o : (Int32 × Int32 × Mu) ⊕ (Int32 × Mu)} (C : CX Z cX5_read 5 RX5) (hR : zR Z = rm 65 0 0) (hY : LY sh R) (n : Nat)  (x3 : Int32) (x4 : Int32) (μ : Mu) (h : sX5_read_39 n (x3, x4, μ) = some o) (kin : ∀ (x3 : Int32) (x4 : Int32) (μ : Mu), o = .inl (x3, x4, μ) → Wm Z (0, 0, sh, R) μ 39 [(0, .ref (wb (zw Z) + 13)), (3, .int x3), (4, .int x4)] []) (kex0 : ∀ (x3 : Int32) (μ : Mu), o = .inr (x3, μ) → Wm Z (0, 0, sh, R) μ 99 [(3, .int x3)] []) : Wm Z (0, 0, sh, R) μ 39 [(0, .ref (wb (zw Z) + 13)), (3, .int x3), (4, .int x4)] [] := by
  unfold sX5_read_39 at h
  refine r_iload C dX5_read_39 2 rfl ?_
  refine r_sipush C dX5_read_41 sp_900 ?_
  refine r_icmp_ge 99 C dX5_read_44 (by decide) (fun c8 => ?_) (fun c8 => ?_)
  · have h := (ite_inv h).1 c8
    refine r_sub [(3, .int x3)] [1] rfl ?_
    exact kex0 x3 μ (Option.some.inj h).symm
  · have h := (ite_inv h).2 c8
    refine r_iload_n C dX5_read_47 1 rfl ?_
    refine r_if_eq 99 C dX5_read_48 (by decide) (fun c9 => ?_) (fun c9 => ?_)
    · have h := (ite_inv h).1 c9
      refine r_sub [(3, .int x3)] [1] rfl ?_
      exact kex0 x3 μ (Option.some.inj h).symm
    · have h := (ite_inv h).2 c9
      refine r_aload_n C dX5_read_51 0 rfl ?_
      obtain ⟨u11, e10, h⟩ := bnd_inv h
      refine r_cVi (As := []) (rest := []) C hR mlX5_46 dX5_read_52 (tX5_kind hY n  e10) rfl rfl (ly13 hY) rfl (nle rfl) (nle rfl) (nle rfl) ?_
      refine r_if_eq 99 C dX5_read_55 (by decide) (fun c12 => ?_) (fun c12 => ?_)
      · have h := (ite_inv h).1 c12
        refine r_sub [(3, .int x3)] [1] rfl ?_
        exact kex0 x3 μ (Option.some.inj h).symm
      · have h := (ite_inv h).2 c12
        refine r_aload_n C dX5_read_58 0 rfl ?_
        obtain ⟨u14, m15, e13, h⟩ := bnd2_inv h
        refine r_cVi (As := []) (rest := []) C hR mlX5_50 dX5_read_59 (tX5_nextLine hY n  e13) rfl rfl (ly13 hY) rfl (nle rfl) (nle rfl) (nle rfl) ?_
        refine r_if_eq 78 C dX5_read_62 (by decide) (fun c16 => ?_) (fun c16 => ?_)
        · have h := (ite_inv h).1 c16
          refine r_sub [(0, .ref (wb (zw Z) + 13)), (4, .int x4)] [0, 2] rfl ?_
          exact kX5_read_78 C hR hY n   x4 m15 h kin kex0
        · have h := (ite_inv h).2 c16
          refine r_aload_n C dX5_read_65 0 rfl ?_
          refine r_bipush C dX5_read_66 bp_59 ?_
          obtain ⟨u18, m19, e17, h⟩ := bnd2_inv h
          refine r_cVi (As := [.int 59]) (rest := []) C hR mlX5_53 dX5_read_68 (tX5_accept hY n 59  e17) rfl rfl (ly13 hY) rfl (nle rfl) (nle rfl) (nle rfl) ?_
          suffices hj : Wm Z (0, 0, sh, R) m19 79 [(0, .ref (wb (zw Z) + 13)), (3, .int x3), (4, .int x4)] [.int (if u18 = 0 then 0 else 1 : Int32)] by
            refine r_if_eq 78 C dX5_read_71 (by decide) (fun c20 => ?_) (fun c20 => ?_)
            · refine r_iconst C dX5_read_78 ic_0 ?_
              exact sel_t c20 hj
            · refine r_iconst C dX5_read_74 ic_1 ?_
              refine r_goto 79 C dX5_read_75 (by decide) ?_
              exact sel_f c20 hj
          refine r_istore_n [(3, .int (if u18 = 0 then 0 else 1 : Int32)), (0, .ref (wb (zw Z) + 13)), (4, .int x4)] C dX5_read_79 rfl (by decide) rfl ?_
          refine r_aload_n C dX5_read_80 1 rfl ?_
          refine r_getR C flX5_12 dX5_read_81 (ly13 hY) rfl (lr13_0 hY) ?_
          refine r_dup C dX5_read_84 rfl ?_
          refine r_getI C flX5_57 dX5_read_85 (isSea_0 (lyRSea hY)) rfl ?_
          refine r_iconst C dX5_read_88 ic_1 ?_
          refine r_iadd C dX5_read_89 ?_
          refine r_putI C fiX5_57 dX5_read_90 (isSea_0 (lyRSea hY)) ?_
          refine r_iinc [(4, .int (x4 + 1)), (3, .int (if u18 = 0 then 0 else 1 : Int32)), (0, .ref (wb (zw Z) + 13))] C dX5_read_93 2 rfl (in_1 _) (by decide) rfl ?_
          refine r_goto 39 C dX5_read_96 (by decide) ?_
          refine r_sub [(0, .ref (wb (zw Z) + 13)), (3, .int (if u18 = 0 then 0 else 1 : Int32)), (4, .int (x4 + 1))] [2, 1, 0] rfl ?_
          exact kin (if u18 = 0 then 0 else 1 : Int32) (x4 + 1) (wI m19 14 4 ((rI m19 14 4) + 1)) (Option.some.inj h).symm
def fX5_read (n : Nat) (x2 : Int32) (μ : Mu) : Option (Int32 × Mu) := bnd (fX9_split n x2 μ) fun m2 => bnd (fX7_clear n 14 m2) fun m4 => bnd2 (fX5_firstLine n (wI (wI (wI m4 13 4 0) 13 1 0) 13 2 (-1))) fun u6 m7 => bnd (lp n (sX5_read_39 n) (u6, 0, m7)) fun q => match q with | (u21, m22) => gd (isb u21) (some (u21, m22))
set_option maxRecDepth 100000 in
set_option maxHeartbeats 4000000 in
theorem tX5_read {l : Launch} {w : WP} {sh : List Sh} {R : Rf} {μ : Mu} {r : Int32} {μ' : Mu} (hY : LY sh R) (n : Nat) (x2 : Int32)  (h : fX5_read n x2 μ = some (r, μ')) : CM l w yX5_read cX5_read 5 (some .boolean) 65 0 0 sh R [.ref (wb w + 13), .ref (wb w + 1), .int x2] μ (some (.int r)) sh R μ' := by
  refine CM.of (plainFor_of_name pf_X5) (Nat.le_of_ble_eq_true rfl) fun Z C hr _ hR hw hl hE => ?_
  subst hw; subst hl
  have C : CX Z cX5_read 5 RX5 := C
  show Wm Z (0, 0, sh, R) μ 0 [(0, .ref (wb (zw Z) + 13)), (1, .ref (wb (zw Z) + 1)), (2, .int x2)] []
  unfold fX5_read at h
  refine r_aload_n C dX5_read_0 0 rfl ?_
  refine r_getR C flX5_21 dX5_read_1 (ly13 hY) rfl (lr13_3 hY) ?_
  refine r_aload_n C dX5_read_4 1 rfl ?_
  refine r_iload_n C dX5_read_5 2 rfl ?_
  obtain ⟨m2, e1, h⟩ := bnd_inv h
  refine r_cVv (As := [.ref (wb (zw Z) + 1), .int x2]) (rest := []) C hR mlX5_25 dX5_read_6 (tX9_split hY n x2  e1) rfl rfl (ly25 hY) rfl (nle rfl) (nle rfl) (nle rfl) ?_
  refine r_aload_n C dX5_read_9 0 rfl ?_
  refine r_getR C flX5_12 dX5_read_10 (ly13 hY) rfl (lr13_0 hY) ?_
  obtain ⟨m4, e3, h⟩ := bnd_inv h
  refine r_cVv (As := []) (rest := []) C hR mlX5_29 dX5_read_13 (tX7_clear hY n 14 (lyRSea hY) e3) rfl rfl (isSea_0 (lyRSea hY)) rfl (nle rfl) (nle rfl) (nle rfl) ?_
  refine r_aload_n C dX5_read_16 0 rfl ?_
  refine r_iconst C dX5_read_17 ic_0 ?_
  refine r_putI C fiX5_32 dX5_read_18 (ly13 hY) ?_
  refine r_aload_n C dX5_read_21 0 rfl ?_
  refine r_iconst C dX5_read_22 ic_0 ?_
  refine r_putI C fiX5_36 dX5_read_23 (ly13 hY) ?_
  refine r_aload_n C dX5_read_26 0 rfl ?_
  refine r_iconst C dX5_read_27 ic_m1 ?_
  refine r_putI C fiX5_39 dX5_read_28 (ly13 hY) ?_
  refine r_aload_n C dX5_read_31 0 rfl ?_
  obtain ⟨u6, m7, e5, h⟩ := bnd2_inv h
  refine r_cVi (As := []) (rest := []) C hR mlX5_42 dX5_read_32 (tX5_firstLine hY n  e5) rfl rfl (ly13 hY) rfl (nle rfl) (nle rfl) (nle rfl) ?_
  refine r_istore_n [(3, .int u6), (0, .ref (wb (zw Z) + 13)), (1, .ref (wb (zw Z) + 1)), (2, .int x2)] C dX5_read_35 rfl (by decide) rfl ?_
  refine r_iconst C dX5_read_36 ic_0 ?_
  refine r_istore [(4, .int 0), (3, .int u6), (0, .ref (wb (zw Z) + 13)), (1, .ref (wb (zw Z) + 1)), (2, .int x2)] C dX5_read_37 (by decide) rfl ?_
  refine r_sub [(0, .ref (wb (zw Z) + 13)), (3, .int u6), (4, .int 0)] [2, 1, 0] rfl ?_
  obtain ⟨⟨u21, m22⟩, e23, h⟩ := bnd_inv h
  refine lp_all (sX5_read_39 n) (fun q => match q with | (z3, z4, ν) => Wm Z (0, 0, sh, R) (ν) 39 [(0, .ref (wb (zw Z) + 13)), (3, .int z3), (4, .int z4)] []) (fun q => match q with | (z3, ν) => Wm Z (0, 0, sh, R) (ν) 99 [(3, .int z3)] []) (fun q o h kin kex => ?_) n (u6, 0, m7) (u21, m22) e23 ?_
  · obtain ⟨z3, z4, ν⟩ := q; exact lX5_read_39 C hR hY n    z3 z4 ν h (fun z3 z4 ν e => kin (z3, z4, ν) e) (fun z3 ν e => kex (z3, ν) e)
  show Wm Z (0, 0, sh, R) m22 99 [(3, .int u21)] []
  refine r_iload_n C dX5_read_99 0 rfl ?_
  obtain ⟨b24, h⟩ := gd_inv h
  obtain ⟨h1, h2⟩ := Prod.mk.inj (Option.some.inj h)
  subst h1; subst h2
  exact r_zret C dX5_read_100 hr (isb_n b24) hE
def fX6_forget (n : Nat)  (μ : Mu) : Option (Mu) := bnd (fJ7_fill_53178 n 29 288 (-1) μ) fun m2 => bnd (fJ7_fill_53178 n 30 48 (-1) m2) fun m4 => bnd (fJ7_fill_53178 n 31 432 (-1) m4) fun m6 => some m6
set_option maxRecDepth 100000 in
set_option maxHeartbeats 4000000 in
theorem tX6_forget {l : Launch} {w : WP} {sh : List Sh} {R : Rf} {μ : Mu} {μ' : Mu} (hY : LY sh R) (n : Nat)   (h : fX6_forget n μ = some μ') : CM l w yX6_forget cX6_forget 1 none 1 0 0 sh R [.ref (wb w + 28)] μ none sh R μ' := by
  refine CM.of (plainFor_of_name pf_X6) (Nat.le_of_ble_eq_true rfl) fun Z C hr _ hR hw hl hE => ?_
  subst hw; subst hl
  have C : CX Z cX6_forget 1 RX6 := C
  show Wm Z (0, 0, sh, R) μ 0 [(0, .ref (wb (zw Z) + 28))] []
  unfold fX6_forget at h
  refine r_aload_n C dX6_forget_0 0 rfl ?_
  refine r_getR C flX6_9 dX6_forget_1 (ly28 hY) rfl (lr28_1 hY) ?_
  refine r_iconst C dX6_forget_4 ic_m1 ?_
  obtain ⟨m2, e1, h⟩ := bnd_inv h
  refine r_cSv (As := [.ref (wb (zw Z) + 29), .int (-1)]) (rest := []) C hR mlX6_31 dX6_forget_5 (tJ7_fill_53178 hY n 29 288 (-1) (ly29 hY) e1) rfl rfl (nle rfl) (nle rfl) (nle rfl) ?_
  refine r_aload_n C dX6_forget_8 0 rfl ?_
  refine r_getR C flX6_15 dX6_forget_9 (ly28 hY) rfl (lr28_2 hY) ?_
  refine r_iconst C dX6_forget_12 ic_m1 ?_
  obtain ⟨m4, e3, h⟩ := bnd_inv h
  refine r_cSv (As := [.ref (wb (zw Z) + 30), .int (-1)]) (rest := []) C hR mlX6_31 dX6_forget_13 (tJ7_fill_53178 hY n 30 48 (-1) (ly30 hY) e3) rfl rfl (nle rfl) (nle rfl) (nle rfl) ?_
  refine r_aload_n C dX6_forget_16 0 rfl ?_
  refine r_getR C flX6_18 dX6_forget_17 (ly28 hY) rfl (lr28_3 hY) ?_
  refine r_iconst C dX6_forget_20 ic_m1 ?_
  obtain ⟨m6, e5, h⟩ := bnd_inv h
  refine r_cSv (As := [.ref (wb (zw Z) + 31), .int (-1)]) (rest := []) C hR mlX6_31 dX6_forget_21 (tJ7_fill_53178 hY n 31 432 (-1) (ly31 hY) e5) rfl rfl (nle rfl) (nle rfl) (nle rfl) ?_
  have h := Option.some.inj h
  subst h
  exact r_vret C dX6_forget_24 hr hE
def jX6_soundOf_105 (n : Nat) (x4 : Int32) (μ : Mu) : Option (Int32 × Mu) := gd (ib x4 288) (some (rI μ 29 (ix x4), μ))
set_option maxRecDepth 100000 in
set_option maxHeartbeats 4000000 in
theorem kX6_soundOf_105 {Z : ZC} {sh : List Sh} {R : Rf} {r : Int32} {μ' : Mu} (C : CX Z cX6_soundOf 6 RX6) (hR : zR Z = rm 3 0 0) (hY : LY sh R) (n : Nat) (x4 : Int32) (μ : Mu) (h : jX6_soundOf_105 n x4 μ = some (r, μ')) (hr : (zme Z).sig.returnType = (some .int)) (hE : zEnd Z (0, 0, sh, R) μ' (some (.int r))) : Wm Z (0, 0, sh, R) μ 105 [(0, .ref (wb (zw Z) + 28)), (4, .int x4)] [] := by
  unfold jX6_soundOf_105 at h
  refine r_aload_n C dX6_soundOf_105 0 rfl ?_
  refine r_getR C flX6_9 dX6_soundOf_106 (ly28 hY) rfl (lr28_1 hY) ?_
  refine r_iload C dX6_soundOf_109 1 rfl ?_
  obtain ⟨b5, h⟩ := gd_inv h
  refine r_iald C dX6_soundOf_111 (ly29 hY) b5 ?_
  obtain ⟨h1, h2⟩ := Prod.mk.inj (Option.some.inj h)
  subst h1; subst h2
  exact r_iret C dX6_soundOf_112 hr hE
def jX6_soundOf_87 (n : Nat) (x4 : Int32) (x5 : Int32) (μ : Mu) : Option (Int32 × Mu) := gd (ib x4 288) (jX6_soundOf_105 n x4 (wI μ 29 (ix x4) (jmax 0 (jmin 99 x5))))
set_option maxRecDepth 100000 in
set_option maxHeartbeats 4000000 in
theorem kX6_soundOf_87 {Z : ZC} {sh : List Sh} {R : Rf} {r : Int32} {μ' : Mu} (C : CX Z cX6_soundOf 6 RX6) (hR : zR Z = rm 3 0 0) (hY : LY sh R) (n : Nat) (x4 : Int32) (x5 : Int32) (μ : Mu) (h : jX6_soundOf_87 n x4 x5 μ = some (r, μ')) (hr : (zme Z).sig.returnType = (some .int)) (hE : zEnd Z (0, 0, sh, R) μ' (some (.int r))) : Wm Z (0, 0, sh, R) μ 87 [(0, .ref (wb (zw Z) + 28)), (4, .int x4), (5, .int x5)] [] := by
  unfold jX6_soundOf_87 at h
  refine r_aload_n C dX6_soundOf_87 0 rfl ?_
  refine r_getR C flX6_9 dX6_soundOf_88 (ly28 hY) rfl (lr28_1 hY) ?_
  refine r_iload C dX6_soundOf_91 1 rfl ?_
  refine r_iconst C dX6_soundOf_93 ic_0 ?_
  refine r_bipush C dX6_soundOf_94 bp_99 ?_
  refine r_iload C dX6_soundOf_96 2 rfl ?_
  refine r_cSi (As := [.int 99, .int x5]) (rest := [.int 0, .int x4, .ref (wb (zw Z) + 29)]) C hR mlX6_61 dX6_soundOf_98 (t_jmin hY) rfl rfl (nle rfl) (nle rfl) (nle rfl) ?_
  refine r_cSi (As := [.int 0, .int (jmin 99 x5)]) (rest := [.int x4, .ref (wb (zw Z) + 29)]) C hR mlX6_67 dX6_soundOf_101 (t_jmax hY) rfl rfl (nle rfl) (nle rfl) (nle rfl) ?_
  obtain ⟨b10, h⟩ := gd_inv h
  refine r_iast C dX6_soundOf_104 (ly29 hY) b10 ?_
  refine r_sub [(0, .ref (wb (zw Z) + 28)), (4, .int x4)] [0, 1] rfl ?_
  exact kX6_soundOf_105 C hR hY n   x4 (wI μ 29 (ix x4) (jmax 0 (jmin 99 x5))) h hr hE
def fX6_soundOf (n : Nat) (x1 : Int32) (x2 : Int32) (x3 : Int32) (μ : Mu) : Option (Int32 × Mu) := bnd (fX6_slotOf n x2 x3 μ) fun u2 => gd (ib ((u2 * 6) + x1) 288) (if (rI μ 29 (ix ((u2 * 6) + x1))) = (-1) then (bnd (fX3_isTold n 9 0 μ) fun u8 => if u8 = 0 then (jX6_soundOf_87 n ((u2 * 6) + x1) ((10 * x1) + (if x3 = 0 then 0 else 1 : Int32)) μ) else (bnd (fX6_giveTime n x2 x3 μ) fun m12 => bnd2 (fX3_valueOf n 9 0 (wI m12 32 2 x1)) fun u14 m15 => jX6_soundOf_87 n ((u2 * 6) + x1) u14 m15)) else (jX6_soundOf_105 n ((u2 * 6) + x1) μ))
set_option maxRecDepth 100000 in
set_option maxHeartbeats 4000000 in
theorem tX6_soundOf {l : Launch} {w : WP} {sh : List Sh} {R : Rf} {μ : Mu} {r : Int32} {μ' : Mu} (hY : LY sh R) (n : Nat) (x1 : Int32) (x2 : Int32) (x3 : Int32)  (h : fX6_soundOf n x1 x2 x3 μ = some (r, μ')) : CM l w yX6_soundOf cX6_soundOf 6 (some .int) 3 0 0 sh R [.ref (wb w + 28), .int x1, .int x2, .int x3] μ (some (.int r)) sh R μ' := by
  refine CM.of (plainFor_of_name pf_X6) (Nat.le_of_ble_eq_true rfl) fun Z C hr _ hR hw hl hE => ?_
  subst hw; subst hl
  have C : CX Z cX6_soundOf 6 RX6 := C
  show Wm Z (0, 0, sh, R) μ 0 [(0, .ref (wb (zw Z) + 28)), (1, .int x1), (2, .int x2), (3, .int x3)] []
  unfold fX6_soundOf at h
  refine r_iload_n C dX6_soundOf_0 2 rfl ?_
  refine r_iload_n C dX6_soundOf_1 3 rfl ?_
  obtain ⟨u2, e1, h⟩ := bnd_inv h
  refine r_cSi (As := [.int x2, .int x3]) (rest := []) C hR mlX6_37 dX6_soundOf_2 (tX6_slotOf hY n x2 x3  e1) rfl rfl (nle rfl) (nle rfl) (nle rfl) ?_
  refine r_bipush C dX6_soundOf_5 bp_6 ?_
  refine r_imul C dX6_soundOf_7 ?_
  refine r_iload_n C dX6_soundOf_8 1 rfl ?_
  refine r_iadd C dX6_soundOf_9 ?_
  refine r_istore [(4, .int ((u2 * 6) + x1)), (0, .ref (wb (zw Z) + 28)), (1, .int x1), (2, .int x2), (3, .int x3)] C dX6_soundOf_10 (by decide) rfl ?_
  refine r_aload_n C dX6_soundOf_12 1 rfl ?_
  refine r_getR C flX6_9 dX6_soundOf_13 (ly28 hY) rfl (lr28_1 hY) ?_
  refine r_iload C dX6_soundOf_16 0 rfl ?_
  obtain ⟨b3, h⟩ := gd_inv h
  refine r_iald C dX6_soundOf_18 (ly29 hY) b3 ?_
  refine r_iconst C dX6_soundOf_19 ic_m1 ?_
  refine r_icmp_ne 105 C dX6_soundOf_20 (by decide) (fun c4 => ?_) (fun c4 => ?_)
  · have h := (ite_inv h).2 c4
    refine r_sub [(0, .ref (wb (zw Z) + 28)), (4, .int ((u2 * 6) + x1))] [1, 0] rfl ?_
    exact kX6_soundOf_105 C hR hY n   ((u2 * 6) + x1) μ h hr hE
  · have h := (ite_inv h).1 c4
    refine r_bipush C dX6_soundOf_23 bp_10 ?_
    refine r_iload_n C dX6_soundOf_25 2 rfl ?_
    refine r_imul C dX6_soundOf_26 ?_
    refine r_iload_n C dX6_soundOf_27 4 rfl ?_
    suffices hj : Wm Z (0, 0, sh, R) μ 36 [(4, .int ((u2 * 6) + x1)), (0, .ref (wb (zw Z) + 28)), (1, .int x1), (2, .int x2), (3, .int x3)] [.int (if x3 = 0 then 0 else 1 : Int32), .int (10 * x1)] by
      refine r_if_eq 35 C dX6_soundOf_28 (by decide) (fun c6 => ?_) (fun c6 => ?_)
      · refine r_iconst C dX6_soundOf_35 ic_0 ?_
        exact sel_t c6 hj
      · refine r_iconst C dX6_soundOf_31 ic_1 ?_
        refine r_goto 36 C dX6_soundOf_32 (by decide) ?_
        exact sel_f c6 hj
    refine r_iadd C dX6_soundOf_36 ?_
    refine r_istore [(5, .int ((10 * x1) + (if x3 = 0 then 0 else 1 : Int32))), (4, .int ((u2 * 6) + x1)), (0, .ref (wb (zw Z) + 28)), (1, .int x1), (2, .int x2), (3, .int x3)] C dX6_soundOf_37 (by decide) rfl ?_
    refine r_aload_n C dX6_soundOf_39 2 rfl ?_
    refine r_getR C flX6_27 dX6_soundOf_40 (ly28 hY) rfl (lr28_0 hY) ?_
    refine r_getR C flX6_41 dX6_soundOf_43 (isSea_0 (lySea hY)) rfl (isSea_r14 (lySea hY)) ?_
    refine r_iconst C dX6_soundOf_46 ic_0 ?_
    obtain ⟨u8, e7, h⟩ := bnd_inv h
    refine r_cVi (As := [.int 0]) (rest := []) C hR mlX6_47 dX6_soundOf_47 (tX3_isTold hY n 9 0 (isSea_law (lySea hY)) e7) rfl rfl (isLaw_0 (isSea_law (lySea hY))) rfl (nle rfl) (nle rfl) (nle rfl) ?_
    refine r_if_eq 87 C dX6_soundOf_50 (by decide) (fun c9 => ?_) (fun c9 => ?_)
    · have h := (ite_inv h).1 c9
      refine r_sub [(0, .ref (wb (zw Z) + 28)), (4, .int ((u2 * 6) + x1)), (5, .int ((10 * x1) + (if x3 = 0 then 0 else 1 : Int32)))] [2, 1, 0] rfl ?_
      exact kX6_soundOf_87 C hR hY n   ((u2 * 6) + x1) ((10 * x1) + (if x3 = 0 then 0 else 1 : Int32)) μ h hr hE
    · have h := (ite_inv h).2 c9
      refine r_aload_n C dX6_soundOf_53 2 rfl ?_
      refine r_iload_n C dX6_soundOf_54 4 rfl ?_
      refine r_iload_n C dX6_soundOf_55 5 rfl ?_
      obtain ⟨m12, e11, h⟩ := bnd_inv h
      refine r_cVv (As := [.int x2, .int x3]) (rest := []) C hR mlX6_53 dX6_soundOf_56 (tX6_giveTime hY n x2 x3  e11) rfl rfl (ly28 hY) rfl (nle rfl) (nle rfl) (nle rfl) ?_
      refine r_aload_n C dX6_soundOf_59 2 rfl ?_
      refine r_getR C flX6_21 dX6_soundOf_60 (ly28 hY) rfl (lr28_4 hY) ?_
      refine r_iconst C dX6_soundOf_63 ic_2 ?_
      refine r_iload_n C dX6_soundOf_64 3 rfl ?_
      refine r_iast C dX6_soundOf_65 (ly32 hY) (by decide) ?_
      refine r_aload_n C dX6_soundOf_66 2 rfl ?_
      refine r_getR C flX6_27 dX6_soundOf_67 (ly28 hY) rfl (lr28_0 hY) ?_
      refine r_getR C flX6_41 dX6_soundOf_70 (isSea_0 (lySea hY)) rfl (isSea_r14 (lySea hY)) ?_
      refine r_iconst C dX6_soundOf_73 ic_0 ?_
      refine r_aload_n C dX6_soundOf_74 2 rfl ?_
      refine r_getR C flX6_21 dX6_soundOf_75 (ly28 hY) rfl (lr28_4 hY) ?_
      refine r_aload_n C dX6_soundOf_78 2 rfl ?_
      refine r_getR C flX6_24 dX6_soundOf_79 (ly28 hY) rfl (lr28_5 hY) ?_
      obtain ⟨u14, m15, e13, h⟩ := bnd2_inv h
      refine r_cVi (As := [.int 0, .ref (wb (zw Z) + 32), .ref (wb (zw Z) + 33)]) (rest := []) C hR mlX6_57 dX6_soundOf_82 (tX3_valueOf hY n 9 0 (isSea_law (lySea hY)) e13) rfl rfl (isLaw_0 (isSea_law (lySea hY))) rfl (nle rfl) (nle rfl) (nle rfl) ?_
      refine r_istore [(5, .int u14), (4, .int ((u2 * 6) + x1)), (0, .ref (wb (zw Z) + 28)), (1, .int x1), (2, .int x2), (3, .int x3)] C dX6_soundOf_85 (by decide) rfl ?_
      refine r_sub [(0, .ref (wb (zw Z) + 28)), (4, .int ((u2 * 6) + x1)), (5, .int u14)] [2, 1, 0] rfl ?_
      exact kX6_soundOf_87 C hR hY n   ((u2 * 6) + x1) u14 m15 h hr hE
def fX7_copyFrom (n : Nat) (a0 : Nat) (a1 : Nat) (μ : Mu) : Option (Mu) := bnd (fX3_copyFrom n (a0 + 7) (a1 + 7) (cpI (cpI (cpI (cpI (cpI (cpI (wI (wI (wI (wI (wI (wI (wI (wI μ a0 0 (rI μ a1 0)) a0 1 (rI (wI μ a0 0 (rI μ a1 0)) a1 1)) a0 2 (rI (wI (wI μ a0 0 (rI μ a1 0)) a0 1 (rI (wI μ a0 0 (rI μ a1 0)) a1 1)) a1 2)) a0 3 (rI (wI (wI (wI μ a0 0 (rI μ a1 0)) a0 1 (rI (wI μ a0 0 (rI μ a1 0)) a1 1)) a0 2 (rI (wI (wI μ a0 0 (rI μ a1 0)) a0 1 (rI (wI μ a0 0 (rI μ a1 0)) a1 1)) a1 2)) a1 3)) a0 4 (rI (wI (wI (wI (wI μ a0 0 (rI μ a1 0)) a0 1 (rI (wI μ a0 0 (rI μ a1 0)) a1 1)) a0 2 (rI (wI (wI μ a0 0 (rI μ a1 0)) a0 1 (rI (wI μ a0 0 (rI μ a1 0)) a1 1)) a1 2)) a0 3 (rI (wI (wI (wI μ a0 0 (rI μ a1 0)) a0 1 (rI (wI μ a0 0 (rI μ a1 0)) a1 1)) a0 2 (rI (wI (wI μ a0 0 (rI μ a1 0)) a0 1 (rI (wI μ a0 0 (rI μ a1 0)) a1 1)) a1 2)) a1 3)) a1 4)) a0 5 (rI (wI (wI (wI (wI (wI μ a0 0 (rI μ a1 0)) a0 1 (rI (wI μ a0 0 (rI μ a1 0)) a1 1)) a0 2 (rI (wI (wI μ a0 0 (rI μ a1 0)) a0 1 (rI (wI μ a0 0 (rI μ a1 0)) a1 1)) a1 2)) a0 3 (rI (wI (wI (wI μ a0 0 (rI μ a1 0)) a0 1 (rI (wI μ a0 0 (rI μ a1 0)) a1 1)) a0 2 (rI (wI (wI μ a0 0 (rI μ a1 0)) a0 1 (rI (wI μ a0 0 (rI μ a1 0)) a1 1)) a1 2)) a1 3)) a0 4 (rI (wI (wI (wI (wI μ a0 0 (rI μ a1 0)) a0 1 (rI (wI μ a0 0 (rI μ a1 0)) a1 1)) a0 2 (rI (wI (wI μ a0 0 (rI μ a1 0)) a0 1 (rI (wI μ a0 0 (rI μ a1 0)) a1 1)) a1 2)) a0 3 (rI (wI (wI (wI μ a0 0 (rI μ a1 0)) a0 1 (rI (wI μ a0 0 (rI μ a1 0)) a1 1)) a0 2 (rI (wI (wI μ a0 0 (rI μ a1 0)) a0 1 (rI (wI μ a0 0 (rI μ a1 0)) a1 1)) a1 2)) a1 3)) a1 4)) a1 5)) a0 6 (rI (wI (wI (wI (wI (wI (wI μ a0 0 (rI μ a1 0)) a0 1 (rI (wI μ a0 0 (rI μ a1 0)) a1 1)) a0 2 (rI (wI (wI μ a0 0 (rI μ a1 0)) a0 1 (rI (wI μ a0 0 (rI μ a1 0)) a1 1)) a1 2)) a0 3 (rI (wI (wI (wI μ a0 0 (rI μ a1 0)) a0 1 (rI (wI μ a0 0 (rI μ a1 0)) a1 1)) a0 2 (rI (wI (wI μ a0 0 (rI μ a1 0)) a0 1 (rI (wI μ a0 0 (rI μ a1 0)) a1 1)) a1 2)) a1 3)) a0 4 (rI (wI (wI (wI (wI μ a0 0 (rI μ a1 0)) a0 1 (rI (wI μ a0 0 (rI μ a1 0)) a1 1)) a0 2 (rI (wI (wI μ a0 0 (rI μ a1 0)) a0 1 (rI (wI μ a0 0 (rI μ a1 0)) a1 1)) a1 2)) a0 3 (rI (wI (wI (wI μ a0 0 (rI μ a1 0)) a0 1 (rI (wI μ a0 0 (rI μ a1 0)) a1 1)) a0 2 (rI (wI (wI μ a0 0 (rI μ a1 0)) a0 1 (rI (wI μ a0 0 (rI μ a1 0)) a1 1)) a1 2)) a1 3)) a1 4)) a0 5 (rI (wI (wI (wI (wI (wI μ a0 0 (rI μ a1 0)) a0 1 (rI (wI μ a0 0 (rI μ a1 0)) a1 1)) a0 2 (rI (wI (wI μ a0 0 (rI μ a1 0)) a0 1 (rI (wI μ a0 0 (rI μ a1 0)) a1 1)) a1 2)) a0 3 (rI (wI (wI (wI μ a0 0 (rI μ a1 0)) a0 1 (rI (wI μ a0 0 (rI μ a1 0)) a1 1)) a0 2 (rI (wI (wI μ a0 0 (rI μ a1 0)) a0 1 (rI (wI μ a0 0 (rI μ a1 0)) a1 1)) a1 2)) a1 3)) a0 4 (rI (wI (wI (wI (wI μ a0 0 (rI μ a1 0)) a0 1 (rI (wI μ a0 0 (rI μ a1 0)) a1 1)) a0 2 (rI (wI (wI μ a0 0 (rI μ a1 0)) a0 1 (rI (wI μ a0 0 (rI μ a1 0)) a1 1)) a1 2)) a0 3 (rI (wI (wI (wI μ a0 0 (rI μ a1 0)) a0 1 (rI (wI μ a0 0 (rI μ a1 0)) a1 1)) a0 2 (rI (wI (wI μ a0 0 (rI μ a1 0)) a0 1 (rI (wI μ a0 0 (rI μ a1 0)) a1 1)) a1 2)) a1 3)) a1 4)) a1 5)) a1 6)) a0 7 (rI (wI (wI (wI (wI (wI (wI (wI μ a0 0 (rI μ a1 0)) a0 1 (rI (wI μ a0 0 (rI μ a1 0)) a1 1)) a0 2 (rI (wI (wI μ a0 0 (rI μ a1 0)) a0 1 (rI (wI μ a0 0 (rI μ a1 0)) a1 1)) a1 2)) a0 3 (rI (wI (wI (wI μ a0 0 (rI μ a1 0)) a0 1 (rI (wI μ a0 0 (rI μ a1 0)) a1 1)) a0 2 (rI (wI (wI μ a0 0 (rI μ a1 0)) a0 1 (rI (wI μ a0 0 (rI μ a1 0)) a1 1)) a1 2)) a1 3)) a0 4 (rI (wI (wI (wI (wI μ a0 0 (rI μ a1 0)) a0 1 (rI (wI μ a0 0 (rI μ a1 0)) a1 1)) a0 2 (rI (wI (wI μ a0 0 (rI μ a1 0)) a0 1 (rI (wI μ a0 0 (rI μ a1 0)) a1 1)) a1 2)) a0 3 (rI (wI (wI (wI μ a0 0 (rI μ a1 0)) a0 1 (rI (wI μ a0 0 (rI μ a1 0)) a1 1)) a0 2 (rI (wI (wI μ a0 0 (rI μ a1 0)) a0 1 (rI (wI μ a0 0 (rI μ a1 0)) a1 1)) a1 2)) a1 3)) a1 4)) a0 5 (rI (wI (wI (wI (wI (wI μ a0 0 (rI μ a1 0)) a0 1 (rI (wI μ a0 0 (rI μ a1 0)) a1 1)) a0 2 (rI (wI (wI μ a0 0 (rI μ a1 0)) a0 1 (rI (wI μ a0 0 (rI μ a1 0)) a1 1)) a1 2)) a0 3 (rI (wI (wI (wI μ a0 0 (rI μ a1 0)) a0 1 (rI (wI μ a0 0 (rI μ a1 0)) a1 1)) a0 2 (rI (wI (wI μ a0 0 (rI μ a1 0)) a0 1 (rI (wI μ a0 0 (rI μ a1 0)) a1 1)) a1 2)) a1 3)) a0 4 (rI (wI (wI (wI (wI μ a0 0 (rI μ a1 0)) a0 1 (rI (wI μ a0 0 (rI μ a1 0)) a1 1)) a0 2 (rI (wI (wI μ a0 0 (rI μ a1 0)) a0 1 (rI (wI μ a0 0 (rI μ a1 0)) a1 1)) a1 2)) a0 3 (rI (wI (wI (wI μ a0 0 (rI μ a1 0)) a0 1 (rI (wI μ a0 0 (rI μ a1 0)) a1 1)) a0 2 (rI (wI (wI μ a0 0 (rI μ a1 0)) a0 1 (rI (wI μ a0 0 (rI μ a1 0)) a1 1)) a1 2)) a1 3)) a1 4)) a1 5)) a0 6 (rI (wI (wI (wI (wI (wI (wI μ a0 0 (rI μ a1 0)) a0 1 (rI (wI μ a0 0 (rI μ a1 0)) a1 1)) a0 2 (rI (wI (wI μ a0 0 (rI μ a1 0)) a0 1 (rI (wI μ a0 0 (rI μ a1 0)) a1 1)) a1 2)) a0 3 (rI (wI (wI (wI μ a0 0 (rI μ a1 0)) a0 1 (rI (wI μ a0 0 (rI μ a1 0)) a1 1)) a0 2 (rI (wI (wI μ a0 0 (rI μ a1 0)) a0 1 (rI (wI μ a0 0 (rI μ a1 0)) a1 1)) a1 2)) a1 3)) a0 4 (rI (wI (wI (wI (wI μ a0 0 (rI μ a1 0)) a0 1 (rI (wI μ a0 0 (rI μ a1 0)) a1 1)) a0 2 (rI (wI (wI μ a0 0 (rI μ a1 0)) a0 1 (rI (wI μ a0 0 (rI μ a1 0)) a1 1)) a1 2)) a0 3 (rI (wI (wI (wI μ a0 0 (rI μ a1 0)) a0 1 (rI (wI μ a0 0 (rI μ a1 0)) a1 1)) a0 2 (rI (wI (wI μ a0 0 (rI μ a1 0)) a0 1 (rI (wI μ a0 0 (rI μ a1 0)) a1 1)) a1 2)) a1 3)) a1 4)) a0 5 (rI (wI (wI (wI (wI (wI μ a0 0 (rI μ a1 0)) a0 1 (rI (wI μ a0 0 (rI μ a1 0)) a1 1)) a0 2 (rI (wI (wI μ a0 0 (rI μ a1 0)) a0 1 (rI (wI μ a0 0 (rI μ a1 0)) a1 1)) a1 2)) a0 3 (rI (wI (wI (wI μ a0 0 (rI μ a1 0)) a0 1 (rI (wI μ a0 0 (rI μ a1 0)) a1 1)) a0 2 (rI (wI (wI μ a0 0 (rI μ a1 0)) a0 1 (rI (wI μ a0 0 (rI μ a1 0)) a1 1)) a1 2)) a1 3)) a0 4 (rI (wI (wI (wI (wI μ a0 0 (rI μ a1 0)) a0 1 (rI (wI μ a0 0 (rI μ a1 0)) a1 1)) a0 2 (rI (wI (wI μ a0 0 (rI μ a1 0)) a0 1 (rI (wI μ a0 0 (rI μ a1 0)) a1 1)) a1 2)) a0 3 (rI (wI (wI (wI μ a0 0 (rI μ a1 0)) a0 1 (rI (wI μ a0 0 (rI μ a1 0)) a1 1)) a0 2 (rI (wI (wI μ a0 0 (rI μ a1 0)) a0 1 (rI (wI μ a0 0 (rI μ a1 0)) a1 1)) a1 2)) a1 3)) a1 4)) a1 5)) a1 6)) a1 7)) (a1 + 1) 0 (a0 + 1) 0 10) (a1 + 2) 0 (a0 + 2) 0 10) (a1 + 3) 0 (a0 + 3) 0 10) (a1 + 4) 0 (a0 + 4) 0 6) (a1 + 5) 0 (a0 + 5) 0 8) (a1 + 6) 0 (a0 + 6) 0 8)) fun m2 => some m2
set_option maxRecDepth 100000 in
set_option maxHeartbeats 4000000 in
theorem tX7_copyFrom {l : Launch} {w : WP} {sh : List Sh} {R : Rf} {μ : Mu} {μ' : Mu} (hY : LY sh R) (n : Nat) (a0 : Nat) (a1 : Nat) (ha0 : isSea sh R a0) (ha1 : isSea sh R a1) (h : fX7_copyFrom n a0 a1 μ = some μ') : CM l w yX7_copyFrom cX7_copyFrom 2 none 2 0 0 sh R [.ref (wb w + a0), .ref (wb w + a1)] μ none sh R μ' := by
  refine CM.of (plainFor_of_name pf_X7) (Nat.le_of_ble_eq_true rfl) fun Z C hr _ hR hw hl hE => ?_
  subst hw; subst hl
  have C : CX Z cX7_copyFrom 2 RX7 := C
  show Wm Z (0, 0, sh, R) μ 0 [(0, .ref (wb (zw Z) + a0)), (1, .ref (wb (zw Z) + a1))] []
  unfold fX7_copyFrom at h
  refine r_aload_n C dX7_copyFrom_0 0 rfl ?_
  refine r_aload_n C dX7_copyFrom_1 1 rfl ?_
  refine r_getI C flX7_9 dX7_copyFrom_2 (isSea_0 ha1) rfl ?_
  refine r_putI C fiX7_9 dX7_copyFrom_5 (isSea_0 ha0) ?_
  refine r_aload_n C dX7_copyFrom_8 0 rfl ?_
  refine r_aload_n C dX7_copyFrom_9 1 rfl ?_
  refine r_getI C flX7_41 dX7_copyFrom_10 (isSea_0 ha1) rfl ?_
  refine r_putI C fiX7_41 dX7_copyFrom_13 (isSea_0 ha0) ?_
  refine r_aload_n C dX7_copyFrom_16 0 rfl ?_
  refine r_aload_n C dX7_copyFrom_17 1 rfl ?_
  refine r_getI C flX7_44 dX7_copyFrom_18 (isSea_0 ha1) rfl ?_
  refine r_putI C fiX7_44 dX7_copyFrom_21 (isSea_0 ha0) ?_
  refine r_aload_n C dX7_copyFrom_24 0 rfl ?_
  refine r_aload_n C dX7_copyFrom_25 1 rfl ?_
  refine r_getI C flX7_47 dX7_copyFrom_26 (isSea_0 ha1) rfl ?_
  refine r_putI C fiX7_47 dX7_copyFrom_29 (isSea_0 ha0) ?_
  refine r_aload_n C dX7_copyFrom_32 0 rfl ?_
  refine r_aload_n C dX7_copyFrom_33 1 rfl ?_
  refine r_getI C flX7_50 dX7_copyFrom_34 (isSea_0 ha1) rfl ?_
  refine r_putI C fiX7_50 dX7_copyFrom_37 (isSea_0 ha0) ?_
  refine r_aload_n C dX7_copyFrom_40 0 rfl ?_
  refine r_aload_n C dX7_copyFrom_41 1 rfl ?_
  refine r_getI C flX7_53 dX7_copyFrom_42 (isSea_0 ha1) rfl ?_
  refine r_putI C fiX7_53 dX7_copyFrom_45 (isSea_0 ha0) ?_
  refine r_aload_n C dX7_copyFrom_48 0 rfl ?_
  refine r_aload_n C dX7_copyFrom_49 1 rfl ?_
  refine r_getI C flX7_56 dX7_copyFrom_50 (isSea_0 ha1) rfl ?_
  refine r_putI C fiX7_56 dX7_copyFrom_53 (isSea_0 ha0) ?_
  refine r_aload_n C dX7_copyFrom_56 0 rfl ?_
  refine r_aload_n C dX7_copyFrom_57 1 rfl ?_
  refine r_getI C flX7_59 dX7_copyFrom_58 (isSea_0 ha1) rfl ?_
  refine r_putI C fiX7_59 dX7_copyFrom_61 (isSea_0 ha0) ?_
  refine r_aload_n C dX7_copyFrom_64 1 rfl ?_
  refine r_getR C flX7_15 dX7_copyFrom_65 (isSea_0 ha1) rfl (isSea_r8 ha1) ?_
  refine r_iconst C dX7_copyFrom_68 ic_0 ?_
  refine r_aload_n C dX7_copyFrom_69 0 rfl ?_
  refine r_getR C flX7_15 dX7_copyFrom_70 (isSea_0 ha0) rfl (isSea_r8 ha0) ?_
  refine r_iconst C dX7_copyFrom_73 ic_0 ?_
  refine r_bipush C dX7_copyFrom_74 bp_10 ?_
  refine r_acopy C acX7_65 dX7_copyFrom_76 (isSea_1 ha1) (isSea_1 ha0) (by decide) (rmA hR (nle rfl)) (nle rfl) acw ?_
  refine r_aload_n C dX7_copyFrom_79 1 rfl ?_
  refine r_getR C flX7_19 dX7_copyFrom_80 (isSea_0 ha1) rfl (isSea_r9 ha1) ?_
  refine r_iconst C dX7_copyFrom_83 ic_0 ?_
  refine r_aload_n C dX7_copyFrom_84 0 rfl ?_
  refine r_getR C flX7_19 dX7_copyFrom_85 (isSea_0 ha0) rfl (isSea_r9 ha0) ?_
  refine r_iconst C dX7_copyFrom_88 ic_0 ?_
  refine r_bipush C dX7_copyFrom_89 bp_10 ?_
  refine r_acopy C acX7_65 dX7_copyFrom_91 (isSea_2 ha1) (isSea_2 ha0) (by decide) (rmA hR (nle rfl)) (nle rfl) acw ?_
  refine r_aload_n C dX7_copyFrom_94 1 rfl ?_
  refine r_getR C flX7_22 dX7_copyFrom_95 (isSea_0 ha1) rfl (isSea_r10 ha1) ?_
  refine r_iconst C dX7_copyFrom_98 ic_0 ?_
  refine r_aload_n C dX7_copyFrom_99 0 rfl ?_
  refine r_getR C flX7_22 dX7_copyFrom_100 (isSea_0 ha0) rfl (isSea_r10 ha0) ?_
  refine r_iconst C dX7_copyFrom_103 ic_0 ?_
  refine r_bipush C dX7_copyFrom_104 bp_10 ?_
  refine r_acopy C acX7_65 dX7_copyFrom_106 (isSea_3 ha1) (isSea_3 ha0) (by decide) (rmA hR (nle rfl)) (nle rfl) acw ?_
  refine r_aload_n C dX7_copyFrom_109 1 rfl ?_
  refine r_getR C flX7_25 dX7_copyFrom_110 (isSea_0 ha1) rfl (isSea_r11 ha1) ?_
  refine r_iconst C dX7_copyFrom_113 ic_0 ?_
  refine r_aload_n C dX7_copyFrom_114 0 rfl ?_
  refine r_getR C flX7_25 dX7_copyFrom_115 (isSea_0 ha0) rfl (isSea_r11 ha0) ?_
  refine r_iconst C dX7_copyFrom_118 ic_0 ?_
  refine r_bipush C dX7_copyFrom_119 bp_6 ?_
  refine r_acopy C acX7_65 dX7_copyFrom_121 (isSea_4 ha1) (isSea_4 ha0) (by decide) (rmA hR (nle rfl)) (nle rfl) acw ?_
  refine r_aload_n C dX7_copyFrom_124 1 rfl ?_
  refine r_getR C flX7_28 dX7_copyFrom_125 (isSea_0 ha1) rfl (isSea_r12 ha1) ?_
  refine r_iconst C dX7_copyFrom_128 ic_0 ?_
  refine r_aload_n C dX7_copyFrom_129 0 rfl ?_
  refine r_getR C flX7_28 dX7_copyFrom_130 (isSea_0 ha0) rfl (isSea_r12 ha0) ?_
  refine r_iconst C dX7_copyFrom_133 ic_0 ?_
  refine r_bipush C dX7_copyFrom_134 bp_8 ?_
  refine r_acopy C acX7_65 dX7_copyFrom_136 (isSea_5 ha1) (isSea_5 ha0) (by decide) (rmA hR (nle rfl)) (nle rfl) acw ?_
  refine r_aload_n C dX7_copyFrom_139 1 rfl ?_
  refine r_getR C flX7_31 dX7_copyFrom_140 (isSea_0 ha1) rfl (isSea_r13 ha1) ?_
  refine r_iconst C dX7_copyFrom_143 ic_0 ?_
  refine r_aload_n C dX7_copyFrom_144 0 rfl ?_
  refine r_getR C flX7_31 dX7_copyFrom_145 (isSea_0 ha0) rfl (isSea_r13 ha0) ?_
  refine r_iconst C dX7_copyFrom_148 ic_0 ?_
  refine r_bipush C dX7_copyFrom_149 bp_8 ?_
  refine r_acopy C acX7_65 dX7_copyFrom_151 (isSea_6 ha1) (isSea_6 ha0) (by decide) (rmA hR (nle rfl)) (nle rfl) acw ?_
  refine r_aload_n C dX7_copyFrom_154 0 rfl ?_
  refine r_getR C flX7_37 dX7_copyFrom_155 (isSea_0 ha0) rfl (isSea_r14 ha0) ?_
  refine r_aload_n C dX7_copyFrom_158 1 rfl ?_
  refine r_getR C flX7_37 dX7_copyFrom_159 (isSea_0 ha1) rfl (isSea_r14 ha1) ?_
  obtain ⟨m2, e1, h⟩ := bnd_inv h
  refine r_cVv (As := [.ref (wb (zw Z) + (a1 + 7))]) (rest := []) C hR mlX7_71 dX7_copyFrom_162 (tX3_copyFrom hY n (a0 + 7) (a1 + 7) (isSea_law ha0) (isSea_law ha1) e1) rfl rfl (isLaw_0 (isSea_law ha0)) rfl (nle rfl) (nle rfl) (nle rfl) ?_
  have h := Option.some.inj h
  subst h
  exact r_vret C dX7_copyFrom_165 hr hE
def fX8_begin (n : Nat) (a0 : Nat) (a1 : Nat) (μ : Mu) : Option (Mu) := bnd (fJ7_fill_53178 n (a0 + 6) 6 0 (cpI (wI (wI (wI (wI μ a0 0 (rI μ a1 5)) a0 1 (rI (wI μ a0 0 (rI μ a1 5)) a1 6)) a0 2 0) a0 3 0) (a1 + 6) 0 (a0 + 1) 0 8)) fun m2 => some m2
set_option maxRecDepth 100000 in
set_option maxHeartbeats 4000000 in
theorem tX8_begin {l : Launch} {w : WP} {sh : List Sh} {R : Rf} {μ : Mu} {μ' : Mu} (hY : LY sh R) (n : Nat) (a0 : Nat) (a1 : Nat) (ha0 : isSt sh R a0) (ha1 : isSea sh R a1) (h : fX8_begin n a0 a1 μ = some μ') : CM l w yX8_begin cX8_begin 2 none 1 0 0 sh R [.ref (wb w + a0), .ref (wb w + a1)] μ none sh R μ' := by
  refine CM.of (plainFor_of_name pf_X8) (Nat.le_of_ble_eq_true rfl) fun Z C hr _ hR hw hl hE => ?_
  subst hw; subst hl
  have C : CX Z cX8_begin 2 RX8 := C
  show Wm Z (0, 0, sh, R) μ 0 [(0, .ref (wb (zw Z) + a0)), (1, .ref (wb (zw Z) + a1))] []
  unfold fX8_begin at h
  refine r_aload_n C dX8_begin_0 0 rfl ?_
  refine r_aload_n C dX8_begin_1 1 rfl ?_
  refine r_getI C flX8_30 dX8_begin_2 (isSea_0 ha1) rfl ?_
  refine r_putI C fiX8_36 dX8_begin_5 (isSt_0 ha0) ?_
  refine r_aload_n C dX8_begin_8 0 rfl ?_
  refine r_aload_n C dX8_begin_9 1 rfl ?_
  refine r_getI C flX8_39 dX8_begin_10 (isSea_0 ha1) rfl ?_
  refine r_putI C fiX8_42 dX8_begin_13 (isSt_0 ha0) ?_
  refine r_aload_n C dX8_begin_16 0 rfl ?_
  refine r_iconst C dX8_begin_17 ic_0 ?_
  refine r_putI C fiX8_45 dX8_begin_18 (isSt_0 ha0) ?_
  refine r_aload_n C dX8_begin_21 0 rfl ?_
  refine r_iconst C dX8_begin_22 ic_0 ?_
  refine r_putI C fiX8_48 dX8_begin_23 (isSt_0 ha0) ?_
  refine r_aload_n C dX8_begin_26 1 rfl ?_
  refine r_getR C flX8_51 dX8_begin_27 (isSea_0 ha1) rfl (isSea_r13 ha1) ?_
  refine r_iconst C dX8_begin_30 ic_0 ?_
  refine r_aload_n C dX8_begin_31 0 rfl ?_
  refine r_getR C flX8_9 dX8_begin_32 (isSt_0 ha0) rfl (isSt_r4 ha0) ?_
  refine r_iconst C dX8_begin_35 ic_0 ?_
  refine r_bipush C dX8_begin_36 bp_8 ?_
  refine r_acopy C acX8_54 dX8_begin_38 (isSea_6 ha1) (isSt_1 ha0) (by decide) (rmA hR (nle rfl)) (nle rfl) acw ?_
  refine r_aload_n C dX8_begin_41 0 rfl ?_
  refine r_getR C flX8_27 dX8_begin_42 (isSt_0 ha0) rfl (isSt_r9 ha0) ?_
  refine r_iconst C dX8_begin_45 ic_0 ?_
  obtain ⟨m2, e1, h⟩ := bnd_inv h
  refine r_cSv (As := [.ref (wb (zw Z) + (a0 + 6)), .int 0]) (rest := []) C hR mlX8_60 dX8_begin_46 (tJ7_fill_53178 hY n (a0 + 6) 6 0 (isSt_6 ha0) e1) rfl rfl (nle rfl) (nle rfl) (nle rfl) ?_
  have h := Option.some.inj h
  subst h
  exact r_vret C dX8_begin_49 hr hE
def sX8_goOut_25 (n : Nat) (a0 : Nat) (a1 : Nat) (x2 : Int32) (x3 : Int32) (x4 : Int32) : Int32 × Mu → Option ((Int32 × Mu) ⊕ (Mu)) := fun q => match q with | (x5, μ) => if (rI μ a1 1) ≤ x5 then (some (.inr μ)) else (if x4 = 0 then (some (.inr μ)) else (gd (ib x3 8) (gd (ib x5 10) (if (((shr x4 x5) &&& (shr (rI μ (a0 + 2) (ix x3)) (rI μ (a1 + 1) (ix x5)))) &&& 1) = 1 then (gd (ib x3 8) (gd (ib x3 8) (gd (ib x3 8) (gd (ib x3 8) (gd (ib x5 10) (gd (ib ((x3 * 10) + x5) 80) (some (.inl (x5 + 1, wI (wI (wI μ (a0 + 3) (ix x3) ((rI μ (a0 + 3) (ix x3)) ||| (shl 1 x5))) (a0 + 4) (ix x3) ((rI (wI μ (a0 + 3) (ix x3) ((rI μ (a0 + 3) (ix x3)) ||| (shl 1 x5))) (a0 + 4) (ix x3)) ||| (shl 1 x5))) (a0 + 5) (ix ((x3 * 10) + x5)) (rI (wI (wI μ (a0 + 3) (ix x3) ((rI μ (a0 + 3) (ix x3)) ||| (shl 1 x5))) (a0 + 4) (ix x3) ((rI (wI μ (a0 + 3) (ix x3) ((rI μ (a0 + 3) (ix x3)) ||| (shl 1 x5))) (a0 + 4) (ix x3)) ||| (shl 1 x5))) (a1 + 3) (ix x5))))))))))) else (some (.inl (x5 + 1, μ)))))))
set_option maxRecDepth 100000 in
set_option maxHeartbeats 4000000 in
theorem lX8_goOut_25 {Z : ZC} {sh : List Sh} {R : Rf} {o : (Int32 × Mu) ⊕ (Mu)} (C : CX Z cX8_goOut 6 RX8) (hR : zR Z = rm 0 0 0) (hY : LY sh R) (n : Nat) (a0 : Nat) (a1 : Nat) (ha0 : isSt sh R a0) (ha1 : isSea sh R a1) (x2 : Int32) (x3 : Int32) (x4 : Int32) (x5 : Int32) (μ : Mu) (h : sX8_goOut_25 n a0 a1 x2 x3 x4 (x5, μ) = some o) (kin : ∀ (x5 : Int32) (μ : Mu), o = .inl (x5, μ) → Wm Z (0, 0, sh, R) μ 25 [(0, .ref (wb (zw Z) + a0)), (1, .ref (wb (zw Z) + a1)), (2, .int x2), (3, .int x3), (4, .int x4), (5, .int x5)] []) (kex0 : ∀ (μ : Mu), o = .inr μ → Wm Z (0, 0, sh, R) μ 116 [(0, .ref (wb (zw Z) + a0)), (1, .ref (wb (zw Z) + a1)), (2, .int x2), (3, .int x3)] []) : Wm Z (0, 0, sh, R) μ 25 [(0, .ref (wb (zw Z) + a0)), (1, .ref (wb (zw Z) + a1)), (2, .int x2), (3, .int x3), (4, .int x4), (5, .int x5)] [] := by
  unfold sX8_goOut_25 at h
  refine r_iload C dX8_goOut_25 5 rfl ?_
  refine r_aload_n C dX8_goOut_27 1 rfl ?_
  refine r_getI C flX8_106 dX8_goOut_28 (isSea_0 ha1) rfl ?_
  refine r_icmp_ge 116 C dX8_goOut_31 (by decide) (fun c3 => ?_) (fun c3 => ?_)
  · have h := (ite_inv h).1 c3
    refine r_sub [(0, .ref (wb (zw Z) + a0)), (1, .ref (wb (zw Z) + a1)), (2, .int x2), (3, .int x3)] [0, 1, 2, 3] rfl ?_
    exact kex0 μ (Option.some.inj h).symm
  · have h := (ite_inv h).2 c3
    refine r_iload C dX8_goOut_34 4 rfl ?_
    refine r_if_eq 116 C dX8_goOut_36 (by decide) (fun c4 => ?_) (fun c4 => ?_)
    · have h := (ite_inv h).1 c4
      refine r_sub [(0, .ref (wb (zw Z) + a0)), (1, .ref (wb (zw Z) + a1)), (2, .int x2), (3, .int x3)] [0, 1, 2, 3] rfl ?_
      exact kex0 μ (Option.some.inj h).symm
    · have h := (ite_inv h).2 c4
      refine r_iload C dX8_goOut_39 4 rfl ?_
      refine r_iload C dX8_goOut_41 5 rfl ?_
      refine r_ishr C dX8_goOut_43 ?_
      refine r_aload_n C dX8_goOut_44 0 rfl ?_
      refine r_getR C flX8_15 dX8_goOut_45 (isSt_0 ha0) rfl (isSt_r5 ha0) ?_
      refine r_iload_n C dX8_goOut_48 3 rfl ?_
      obtain ⟨b5, h⟩ := gd_inv h
      refine r_iald C dX8_goOut_49 (isSt_2 ha0) b5 ?_
      refine r_aload_n C dX8_goOut_50 1 rfl ?_
      refine r_getR C flX8_109 dX8_goOut_51 (isSea_0 ha1) rfl (isSea_r8 ha1) ?_
      refine r_iload C dX8_goOut_54 5 rfl ?_
      obtain ⟨b6, h⟩ := gd_inv h
      refine r_iald C dX8_goOut_56 (isSea_1 ha1) b6 ?_
      refine r_ishr C dX8_goOut_57 ?_
      refine r_iand C dX8_goOut_58 ?_
      refine r_iconst C dX8_goOut_59 ic_1 ?_
      refine r_iand C dX8_goOut_60 ?_
      refine r_iconst C dX8_goOut_61 ic_1 ?_
      refine r_icmp_ne 110 C dX8_goOut_62 (by decide) (fun c7 => ?_) (fun c7 => ?_)
      · have h := (ite_inv h).2 c7
        refine r_iinc [(5, .int (x5 + 1)), (0, .ref (wb (zw Z) + a0)), (1, .ref (wb (zw Z) + a1)), (2, .int x2), (3, .int x3), (4, .int x4)] C dX8_goOut_110 5 rfl (in_1 _) (by decide) rfl ?_
        refine r_goto 25 C dX8_goOut_113 (by decide) ?_
        refine r_sub [(0, .ref (wb (zw Z) + a0)), (1, .ref (wb (zw Z) + a1)), (2, .int x2), (3, .int x3), (4, .int x4), (5, .int (x5 + 1))] [1, 2, 3, 4, 5, 0] rfl ?_
        exact kin (x5 + 1) μ (Option.some.inj h).symm
      · have h := (ite_inv h).1 c7
        refine r_aload_n C dX8_goOut_65 0 rfl ?_
        refine r_getR C flX8_18 dX8_goOut_66 (isSt_0 ha0) rfl (isSt_r6 ha0) ?_
        refine r_iload_n C dX8_goOut_69 3 rfl ?_
        refine r_dup2 C dX8_goOut_70 rfl rfl ?_
        obtain ⟨b8, h⟩ := gd_inv h
        refine r_iald C dX8_goOut_71 (isSt_3 ha0) b8 ?_
        refine r_iconst C dX8_goOut_72 ic_1 ?_
        refine r_iload C dX8_goOut_73 5 rfl ?_
        refine r_ishl C dX8_goOut_75 ?_
        refine r_ior C dX8_goOut_76 ?_
        obtain ⟨b9, h⟩ := gd_inv h
        refine r_iast C dX8_goOut_77 (isSt_3 ha0) b9 ?_
        refine r_aload_n C dX8_goOut_78 0 rfl ?_
        refine r_getR C flX8_21 dX8_goOut_79 (isSt_0 ha0) rfl (isSt_r7 ha0) ?_
        refine r_iload_n C dX8_goOut_82 3 rfl ?_
        refine r_dup2 C dX8_goOut_83 rfl rfl ?_
        obtain ⟨b10, h⟩ := gd_inv h
        refine r_iald C dX8_goOut_84 (isSt_4 ha0) b10 ?_
        refine r_iconst C dX8_goOut_85 ic_1 ?_
        refine r_iload C dX8_goOut_86 5 rfl ?_
        refine r_ishl C dX8_goOut_88 ?_
        refine r_ior C dX8_goOut_89 ?_
        obtain ⟨b11, h⟩ := gd_inv h
        refine r_iast C dX8_goOut_90 (isSt_4 ha0) b11 ?_
        refine r_aload_n C dX8_goOut_91 0 rfl ?_
        refine r_getR C flX8_24 dX8_goOut_92 (isSt_0 ha0) rfl (isSt_r8 ha0) ?_
        refine r_iload_n C dX8_goOut_95 3 rfl ?_
        refine r_bipush C dX8_goOut_96 bp_10 ?_
        refine r_imul C dX8_goOut_98 ?_
        refine r_iload C dX8_goOut_99 5 rfl ?_
        refine r_iadd C dX8_goOut_101 ?_
        refine r_aload_n C dX8_goOut_102 1 rfl ?_
        refine r_getR C flX8_112 dX8_goOut_103 (isSea_0 ha1) rfl (isSea_r10 ha1) ?_
        refine r_iload C dX8_goOut_106 5 rfl ?_
        obtain ⟨b12, h⟩ := gd_inv h
        refine r_iald C dX8_goOut_108 (isSea_3 ha1) b12 ?_
        obtain ⟨b13, h⟩ := gd_inv h
        refine r_iast C dX8_goOut_109 (isSt_5 ha0) b13 ?_
        refine r_iinc [(5, .int (x5 + 1)), (0, .ref (wb (zw Z) + a0)), (1, .ref (wb (zw Z) + a1)), (2, .int x2), (3, .int x3), (4, .int x4)] C dX8_goOut_110 5 rfl (in_1 _) (by decide) rfl ?_
        refine r_goto 25 C dX8_goOut_113 (by decide) ?_
        refine r_sub [(0, .ref (wb (zw Z) + a0)), (1, .ref (wb (zw Z) + a1)), (2, .int x2), (3, .int x3), (4, .int x4), (5, .int (x5 + 1))] [1, 2, 3, 4, 5, 0] rfl ?_
        exact kin (x5 + 1) (wI (wI (wI μ (a0 + 3) (ix x3) ((rI μ (a0 + 3) (ix x3)) ||| (shl 1 x5))) (a0 + 4) (ix x3) ((rI (wI μ (a0 + 3) (ix x3) ((rI μ (a0 + 3) (ix x3)) ||| (shl 1 x5))) (a0 + 4) (ix x3)) ||| (shl 1 x5))) (a0 + 5) (ix ((x3 * 10) + x5)) (rI (wI (wI μ (a0 + 3) (ix x3) ((rI μ (a0 + 3) (ix x3)) ||| (shl 1 x5))) (a0 + 4) (ix x3) ((rI (wI μ (a0 + 3) (ix x3) ((rI μ (a0 + 3) (ix x3)) ||| (shl 1 x5))) (a0 + 4) (ix x3)) ||| (shl 1 x5))) (a1 + 3) (ix x5))) (Option.some.inj h).symm
def sX8_goOut_2 (n : Nat) (a0 : Nat) (a1 : Nat) (x2 : Int32) : Int32 × Mu → Option ((Int32 × Mu) ⊕ (Mu)) := fun q => match q with | (x3, μ) => if (rI μ a0 3) ≤ x3 then (some (.inr μ)) else (gd (ib x3 8) (bnd (lp n (sX8_goOut_25 n a0 a1 x2 x3 (x2 &&& ((rI μ (a0 + 3) (ix x3)) ^^^ (-1)))) (0, μ)) fun q => match q with | m14 => some (.inl (x3 + 1, m14))))
set_option maxRecDepth 100000 in
set_option maxHeartbeats 4000000 in
theorem lX8_goOut_2 {Z : ZC} {sh : List Sh} {R : Rf} {o : (Int32 × Mu) ⊕ (Mu)} (C : CX Z cX8_goOut 6 RX8) (hR : zR Z = rm 0 0 0) (hY : LY sh R) (n : Nat) (a0 : Nat) (a1 : Nat) (ha0 : isSt sh R a0) (ha1 : isSea sh R a1) (x2 : Int32) (x3 : Int32) (μ : Mu) (h : sX8_goOut_2 n a0 a1 x2 (x3, μ) = some o) (kin : ∀ (x3 : Int32) (μ : Mu), o = .inl (x3, μ) → Wm Z (0, 0, sh, R) μ 2 [(0, .ref (wb (zw Z) + a0)), (1, .ref (wb (zw Z) + a1)), (2, .int x2), (3, .int x3)] []) (kex0 : ∀ (μ : Mu), o = .inr μ → Wm Z (0, 0, sh, R) μ 122 [] []) : Wm Z (0, 0, sh, R) μ 2 [(0, .ref (wb (zw Z) + a0)), (1, .ref (wb (zw Z) + a1)), (2, .int x2), (3, .int x3)] [] := by
  unfold sX8_goOut_2 at h
  refine r_iload_n C dX8_goOut_2 3 rfl ?_
  refine r_aload_n C dX8_goOut_3 0 rfl ?_
  refine r_getI C flX8_48 dX8_goOut_4 (isSt_0 ha0) rfl ?_
  refine r_icmp_ge 122 C dX8_goOut_7 (by decide) (fun c1 => ?_) (fun c1 => ?_)
  · have h := (ite_inv h).1 c1
    refine r_sub [] [] rfl ?_
    exact kex0 μ (Option.some.inj h).symm
  · have h := (ite_inv h).2 c1
    refine r_iload_n C dX8_goOut_10 2 rfl ?_
    refine r_aload_n C dX8_goOut_11 0 rfl ?_
    refine r_getR C flX8_18 dX8_goOut_12 (isSt_0 ha0) rfl (isSt_r6 ha0) ?_
    refine r_iload_n C dX8_goOut_15 3 rfl ?_
    obtain ⟨b2, h⟩ := gd_inv h
    refine r_iald C dX8_goOut_16 (isSt_3 ha0) b2 ?_
    refine r_iconst C dX8_goOut_17 ic_m1 ?_
    refine r_ixor C dX8_goOut_18 ?_
    refine r_iand C dX8_goOut_19 ?_
    refine r_istore [(4, .int (x2 &&& ((rI μ (a0 + 3) (ix x3)) ^^^ (-1)))), (0, .ref (wb (zw Z) + a0)), (1, .ref (wb (zw Z) + a1)), (2, .int x2), (3, .int x3)] C dX8_goOut_20 (by decide) rfl ?_
    refine r_iconst C dX8_goOut_22 ic_0 ?_
    refine r_istore [(5, .int 0), (4, .int (x2 &&& ((rI μ (a0 + 3) (ix x3)) ^^^ (-1)))), (0, .ref (wb (zw Z) + a0)), (1, .ref (wb (zw Z) + a1)), (2, .int x2), (3, .int x3)] C dX8_goOut_23 (by decide) rfl ?_
    refine r_sub [(0, .ref (wb (zw Z) + a0)), (1, .ref (wb (zw Z) + a1)), (2, .int x2), (3, .int x3), (4, .int (x2 &&& ((rI μ (a0 + 3) (ix x3)) ^^^ (-1)))), (5, .int 0)] [2, 3, 4, 5, 1, 0] rfl ?_
    obtain ⟨m14, e15, h⟩ := bnd_inv h
    refine lp_all (sX8_goOut_25 n a0 a1 x2 x3 (x2 &&& ((rI μ (a0 + 3) (ix x3)) ^^^ (-1)))) (fun q => match q with | (z5, ν) => Wm Z (0, 0, sh, R) (ν) 25 [(0, .ref (wb (zw Z) + a0)), (1, .ref (wb (zw Z) + a1)), (2, .int x2), (3, .int x3), (4, .int (x2 &&& ((rI μ (a0 + 3) (ix x3)) ^^^ (-1)))), (5, .int z5)] []) (fun q => match q with | ν => Wm Z (0, 0, sh, R) (ν) 116 [(0, .ref (wb (zw Z) + a0)), (1, .ref (wb (zw Z) + a1)), (2, .int x2), (3, .int x3)] []) (fun q o h kin kex => ?_) n (0, μ) m14 e15 ?_
    · obtain ⟨z5, ν⟩ := q; exact lX8_goOut_25 C hR hY n a0 a1 ha0 ha1 x2 x3 (x2 &&& ((rI μ (a0 + 3) (ix x3)) ^^^ (-1))) z5 ν h (fun z5 ν e => kin (z5, ν) e) (fun ν e => kex (ν) e)
    show Wm Z (0, 0, sh, R) m14 116 [(0, .ref (wb (zw Z) + a0)), (1, .ref (wb (zw Z) + a1)), (2, .int x2), (3, .int x3)] []
    refine r_iinc [(3, .int (x3 + 1)), (0, .ref (wb (zw Z) + a0)), (1, .ref (wb (zw Z) + a1)), (2, .int x2)] C dX8_goOut_116 3 rfl (in_1 _) (by decide) rfl ?_
    refine r_goto 2 C dX8_goOut_119 (by decide) ?_
    refine r_sub [(0, .ref (wb (zw Z) + a0)), (1, .ref (wb (zw Z) + a1)), (2, .int x2), (3, .int (x3 + 1))] [1, 2, 3, 0] rfl ?_
    exact kin (x3 + 1) m14 (Option.some.inj h).symm
def fX8_goOut (n : Nat) (a0 : Nat) (a1 : Nat) (x2 : Int32) (μ : Mu) : Option (Mu) := bnd (lp n (sX8_goOut_2 n a0 a1 x2) (0, μ)) fun q => match q with | m16 => some m16
set_option maxRecDepth 100000 in
set_option maxHeartbeats 4000000 in
theorem tX8_goOut {l : Launch} {w : WP} {sh : List Sh} {R : Rf} {μ : Mu} {μ' : Mu} (hY : LY sh R) (n : Nat) (a0 : Nat) (a1 : Nat) (x2 : Int32) (ha0 : isSt sh R a0) (ha1 : isSea sh R a1) (h : fX8_goOut n a0 a1 x2 μ = some μ') : CM l w yX8_goOut cX8_goOut 6 none 0 0 0 sh R [.ref (wb w + a0), .ref (wb w + a1), .int x2] μ none sh R μ' := by
  refine CM.of (plainFor_of_name pf_X8) (Nat.le_of_ble_eq_true rfl) fun Z C hr _ hR hw hl hE => ?_
  subst hw; subst hl
  have C : CX Z cX8_goOut 6 RX8 := C
  show Wm Z (0, 0, sh, R) μ 0 [(0, .ref (wb (zw Z) + a0)), (1, .ref (wb (zw Z) + a1)), (2, .int x2)] []
  unfold fX8_goOut at h
  refine r_iconst C dX8_goOut_0 ic_0 ?_
  refine r_istore_n [(3, .int 0), (0, .ref (wb (zw Z) + a0)), (1, .ref (wb (zw Z) + a1)), (2, .int x2)] C dX8_goOut_1 rfl (by decide) rfl ?_
  refine r_sub [(0, .ref (wb (zw Z) + a0)), (1, .ref (wb (zw Z) + a1)), (2, .int x2), (3, .int 0)] [1, 2, 3, 0] rfl ?_
  obtain ⟨m16, e17, h⟩ := bnd_inv h
  refine lp_all (sX8_goOut_2 n a0 a1 x2) (fun q => match q with | (z3, ν) => Wm Z (0, 0, sh, R) (ν) 2 [(0, .ref (wb (zw Z) + a0)), (1, .ref (wb (zw Z) + a1)), (2, .int x2), (3, .int z3)] []) (fun q => match q with | ν => Wm Z (0, 0, sh, R) (ν) 122 [] []) (fun q o h kin kex => ?_) n (0, μ) m16 e17 ?_
  · obtain ⟨z3, ν⟩ := q; exact lX8_goOut_2 C hR hY n a0 a1 ha0 ha1 x2 z3 ν h (fun z3 ν e => kin (z3, ν) e) (fun ν e => kex (ν) e)
  show Wm Z (0, 0, sh, R) m16 122 [] []
  have h := Option.some.inj h
  subst h
  exact r_vret C dX8_goOut_122 hr hE
def sX8_comeIn_12 (n : Nat) (a0 : Nat) (a1 : Nat) (x2 : Int32) : Int32 × Mu → Option ((Int32 × Mu) ⊕ (Mu)) := fun q => match q with | (x3, μ) => if (rI μ a1 1) ≤ x3 then (some (.inr μ)) else (gd (ib x2 8) (if (rI μ (a0 + 4) (ix x2)) = 0 then (some (.inr μ)) else (gd (ib x2 8) (if ((shr (rI μ (a0 + 4) (ix x2)) x3) &&& 1) = 1 then (gd (ib ((x2 * 10) + x3) 80) (gd (ib ((x2 * 10) + x3) 80) (gd (ib ((x2 * 10) + x3) 80) (if (rI (wI μ (a0 + 5) (ix ((x2 * 10) + x3)) ((rI μ (a0 + 5) (ix ((x2 * 10) + x3))) - 1)) (a0 + 5) (ix ((x2 * 10) + x3))) = 0 then (gd (ib x2 8) (gd (ib x2 8) (gd (ib x2 8) (gd (ib x3 10) (gd (ib x2 8) (some (.inl (x3 + 1, wI (wI (wI μ (a0 + 5) (ix ((x2 * 10) + x3)) ((rI μ (a0 + 5) (ix ((x2 * 10) + x3))) - 1)) (a0 + 4) (ix x2) ((rI (wI μ (a0 + 5) (ix ((x2 * 10) + x3)) ((rI μ (a0 + 5) (ix ((x2 * 10) + x3))) - 1)) (a0 + 4) (ix x2)) ^^^ (shl 1 x3))) (a0 + 2) (ix x2) ((rI (wI (wI μ (a0 + 5) (ix ((x2 * 10) + x3)) ((rI μ (a0 + 5) (ix ((x2 * 10) + x3))) - 1)) (a0 + 4) (ix x2) ((rI (wI μ (a0 + 5) (ix ((x2 * 10) + x3)) ((rI μ (a0 + 5) (ix ((x2 * 10) + x3))) - 1)) (a0 + 4) (ix x2)) ^^^ (shl 1 x3))) (a0 + 2) (ix x2)) ||| (shl 1 (rI (wI (wI μ (a0 + 5) (ix ((x2 * 10) + x3)) ((rI μ (a0 + 5) (ix ((x2 * 10) + x3))) - 1)) (a0 + 4) (ix x2) ((rI (wI μ (a0 + 5) (ix ((x2 * 10) + x3)) ((rI μ (a0 + 5) (ix ((x2 * 10) + x3))) - 1)) (a0 + 4) (ix x2)) ^^^ (shl 1 x3))) (a1 + 2) (ix x3)))))))))))) else (some (.inl (x3 + 1, wI μ (a0 + 5) (ix ((x2 * 10) + x3)) ((rI μ (a0 + 5) (ix ((x2 * 10) + x3))) - 1)))))))) else (some (.inl (x3 + 1, μ)))))))
set_option maxRecDepth 100000 in
set_option maxHeartbeats 4000000 in
theorem lX8_comeIn_12 {Z : ZC} {sh : List Sh} {R : Rf} {o : (Int32 × Mu) ⊕ (Mu)} (C : CX Z cX8_comeIn 4 RX8) (hR : zR Z = rm 0 0 0) (hY : LY sh R) (n : Nat) (a0 : Nat) (a1 : Nat) (ha0 : isSt sh R a0) (ha1 : isSea sh R a1) (x2 : Int32) (x3 : Int32) (μ : Mu) (h : sX8_comeIn_12 n a0 a1 x2 (x3, μ) = some o) (kin : ∀ (x3 : Int32) (μ : Mu), o = .inl (x3, μ) → Wm Z (0, 0, sh, R) μ 12 [(0, .ref (wb (zw Z) + a0)), (1, .ref (wb (zw Z) + a1)), (2, .int x2), (3, .int x3)] []) (kex0 : ∀ (μ : Mu), o = .inr μ → Wm Z (0, 0, sh, R) μ 107 [(0, .ref (wb (zw Z) + a0)), (1, .ref (wb (zw Z) + a1)), (2, .int x2)] []) : Wm Z (0, 0, sh, R) μ 12 [(0, .ref (wb (zw Z) + a0)), (1, .ref (wb (zw Z) + a1)), (2, .int x2), (3, .int x3)] [] := by
  unfold sX8_comeIn_12 at h
  refine r_iload_n C dX8_comeIn_12 3 rfl ?_
  refine r_aload_n C dX8_comeIn_13 1 rfl ?_
  refine r_getI C flX8_106 dX8_comeIn_14 (isSea_0 ha1) rfl ?_
  refine r_icmp_ge 107 C dX8_comeIn_17 (by decide) (fun c2 => ?_) (fun c2 => ?_)
  · have h := (ite_inv h).1 c2
    refine r_sub [(0, .ref (wb (zw Z) + a0)), (1, .ref (wb (zw Z) + a1)), (2, .int x2)] [0, 1, 2] rfl ?_
    exact kex0 μ (Option.some.inj h).symm
  · have h := (ite_inv h).2 c2
    refine r_aload_n C dX8_comeIn_20 0 rfl ?_
    refine r_getR C flX8_21 dX8_comeIn_21 (isSt_0 ha0) rfl (isSt_r7 ha0) ?_
    refine r_iload_n C dX8_comeIn_24 2 rfl ?_
    obtain ⟨b3, h⟩ := gd_inv h
    refine r_iald C dX8_comeIn_25 (isSt_4 ha0) b3 ?_
    refine r_if_eq 107 C dX8_comeIn_26 (by decide) (fun c4 => ?_) (fun c4 => ?_)
    · have h := (ite_inv h).1 c4
      refine r_sub [(0, .ref (wb (zw Z) + a0)), (1, .ref (wb (zw Z) + a1)), (2, .int x2)] [0, 1, 2] rfl ?_
      exact kex0 μ (Option.some.inj h).symm
    · have h := (ite_inv h).2 c4
      refine r_aload_n C dX8_comeIn_29 0 rfl ?_
      refine r_getR C flX8_21 dX8_comeIn_30 (isSt_0 ha0) rfl (isSt_r7 ha0) ?_
      refine r_iload_n C dX8_comeIn_33 2 rfl ?_
      obtain ⟨b5, h⟩ := gd_inv h
      refine r_iald C dX8_comeIn_34 (isSt_4 ha0) b5 ?_
      refine r_iload_n C dX8_comeIn_35 3 rfl ?_
      refine r_ishr C dX8_comeIn_36 ?_
      refine r_iconst C dX8_comeIn_37 ic_1 ?_
      refine r_iand C dX8_comeIn_38 ?_
      refine r_iconst C dX8_comeIn_39 ic_1 ?_
      refine r_icmp_ne 101 C dX8_comeIn_40 (by decide) (fun c6 => ?_) (fun c6 => ?_)
      · have h := (ite_inv h).2 c6
        refine r_iinc [(3, .int (x3 + 1)), (0, .ref (wb (zw Z) + a0)), (1, .ref (wb (zw Z) + a1)), (2, .int x2)] C dX8_comeIn_101 3 rfl (in_1 _) (by decide) rfl ?_
        refine r_goto 12 C dX8_comeIn_104 (by decide) ?_
        refine r_sub [(0, .ref (wb (zw Z) + a0)), (1, .ref (wb (zw Z) + a1)), (2, .int x2), (3, .int (x3 + 1))] [1, 2, 3, 0] rfl ?_
        exact kin (x3 + 1) μ (Option.some.inj h).symm
      · have h := (ite_inv h).1 c6
        refine r_aload_n C dX8_comeIn_43 0 rfl ?_
        refine r_getR C flX8_24 dX8_comeIn_44 (isSt_0 ha0) rfl (isSt_r8 ha0) ?_
        refine r_iload_n C dX8_comeIn_47 2 rfl ?_
        refine r_bipush C dX8_comeIn_48 bp_10 ?_
        refine r_imul C dX8_comeIn_50 ?_
        refine r_iload_n C dX8_comeIn_51 3 rfl ?_
        refine r_iadd C dX8_comeIn_52 ?_
        refine r_dup2 C dX8_comeIn_53 rfl rfl ?_
        obtain ⟨b7, h⟩ := gd_inv h
        refine r_iald C dX8_comeIn_54 (isSt_5 ha0) b7 ?_
        refine r_iconst C dX8_comeIn_55 ic_1 ?_
        refine r_isub C dX8_comeIn_56 ?_
        obtain ⟨b8, h⟩ := gd_inv h
        refine r_iast C dX8_comeIn_57 (isSt_5 ha0) b8 ?_
        refine r_aload_n C dX8_comeIn_58 0 rfl ?_
        refine r_getR C flX8_24 dX8_comeIn_59 (isSt_0 ha0) rfl (isSt_r8 ha0) ?_
        refine r_iload_n C dX8_comeIn_62 2 rfl ?_
        refine r_bipush C dX8_comeIn_63 bp_10 ?_
        refine r_imul C dX8_comeIn_65 ?_
        refine r_iload_n C dX8_comeIn_66 3 rfl ?_
        refine r_iadd C dX8_comeIn_67 ?_
        obtain ⟨b9, h⟩ := gd_inv h
        refine r_iald C dX8_comeIn_68 (isSt_5 ha0) b9 ?_
        refine r_if_ne 101 C dX8_comeIn_69 (by decide) (fun c10 => ?_) (fun c10 => ?_)
        · have h := (ite_inv h).2 c10
          refine r_iinc [(3, .int (x3 + 1)), (0, .ref (wb (zw Z) + a0)), (1, .ref (wb (zw Z) + a1)), (2, .int x2)] C dX8_comeIn_101 3 rfl (in_1 _) (by decide) rfl ?_
          refine r_goto 12 C dX8_comeIn_104 (by decide) ?_
          refine r_sub [(0, .ref (wb (zw Z) + a0)), (1, .ref (wb (zw Z) + a1)), (2, .int x2), (3, .int (x3 + 1))] [1, 2, 3, 0] rfl ?_
          exact kin (x3 + 1) (wI μ (a0 + 5) (ix ((x2 * 10) + x3)) ((rI μ (a0 + 5) (ix ((x2 * 10) + x3))) - 1)) (Option.some.inj h).symm
        · have h := (ite_inv h).1 c10
          refine r_aload_n C dX8_comeIn_72 0 rfl ?_
          refine r_getR C flX8_21 dX8_comeIn_73 (isSt_0 ha0) rfl (isSt_r7 ha0) ?_
          refine r_iload_n C dX8_comeIn_76 2 rfl ?_
          refine r_dup2 C dX8_comeIn_77 rfl rfl ?_
          obtain ⟨b11, h⟩ := gd_inv h
          refine r_iald C dX8_comeIn_78 (isSt_4 ha0) b11 ?_
          refine r_iconst C dX8_comeIn_79 ic_1 ?_
          refine r_iload_n C dX8_comeIn_80 3 rfl ?_
          refine r_ishl C dX8_comeIn_81 ?_
          refine r_ixor C dX8_comeIn_82 ?_
          obtain ⟨b12, h⟩ := gd_inv h
          refine r_iast C dX8_comeIn_83 (isSt_4 ha0) b12 ?_
          refine r_aload_n C dX8_comeIn_84 0 rfl ?_
          refine r_getR C flX8_15 dX8_comeIn_85 (isSt_0 ha0) rfl (isSt_r5 ha0) ?_
          refine r_iload_n C dX8_comeIn_88 2 rfl ?_
          refine r_dup2 C dX8_comeIn_89 rfl rfl ?_
          obtain ⟨b13, h⟩ := gd_inv h
          refine r_iald C dX8_comeIn_90 (isSt_2 ha0) b13 ?_
          refine r_iconst C dX8_comeIn_91 ic_1 ?_
          refine r_aload_n C dX8_comeIn_92 1 rfl ?_
          refine r_getR C flX8_115 dX8_comeIn_93 (isSea_0 ha1) rfl (isSea_r9 ha1) ?_
          refine r_iload_n C dX8_comeIn_96 3 rfl ?_
          obtain ⟨b14, h⟩ := gd_inv h
          refine r_iald C dX8_comeIn_97 (isSea_2 ha1) b14 ?_
          refine r_ishl C dX8_comeIn_98 ?_
          refine r_ior C dX8_comeIn_99 ?_
          obtain ⟨b15, h⟩ := gd_inv h
          refine r_iast C dX8_comeIn_100 (isSt_2 ha0) b15 ?_
          refine r_iinc [(3, .int (x3 + 1)), (0, .ref (wb (zw Z) + a0)), (1, .ref (wb (zw Z) + a1)), (2, .int x2)] C dX8_comeIn_101 3 rfl (in_1 _) (by decide) rfl ?_
          refine r_goto 12 C dX8_comeIn_104 (by decide) ?_
          refine r_sub [(0, .ref (wb (zw Z) + a0)), (1, .ref (wb (zw Z) + a1)), (2, .int x2), (3, .int (x3 + 1))] [1, 2, 3, 0] rfl ?_
          exact kin (x3 + 1) (wI (wI (wI μ (a0 + 5) (ix ((x2 * 10) + x3)) ((rI μ (a0 + 5) (ix ((x2 * 10) + x3))) - 1)) (a0 + 4) (ix x2) ((rI (wI μ (a0 + 5) (ix ((x2 * 10) + x3)) ((rI μ (a0 + 5) (ix ((x2 * 10) + x3))) - 1)) (a0 + 4) (ix x2)) ^^^ (shl 1 x3))) (a0 + 2) (ix x2) ((rI (wI (wI μ (a0 + 5) (ix ((x2 * 10) + x3)) ((rI μ (a0 + 5) (ix ((x2 * 10) + x3))) - 1)) (a0 + 4) (ix x2) ((rI (wI μ (a0 + 5) (ix ((x2 * 10) + x3)) ((rI μ (a0 + 5) (ix ((x2 * 10) + x3))) - 1)) (a0 + 4) (ix x2)) ^^^ (shl 1 x3))) (a0 + 2) (ix x2)) ||| (shl 1 (rI (wI (wI μ (a0 + 5) (ix ((x2 * 10) + x3)) ((rI μ (a0 + 5) (ix ((x2 * 10) + x3))) - 1)) (a0 + 4) (ix x2) ((rI (wI μ (a0 + 5) (ix ((x2 * 10) + x3)) ((rI μ (a0 + 5) (ix ((x2 * 10) + x3))) - 1)) (a0 + 4) (ix x2)) ^^^ (shl 1 x3))) (a1 + 2) (ix x3))))) (Option.some.inj h).symm
def sX8_comeIn_2 (n : Nat) (a0 : Nat) (a1 : Nat) : Int32 × Mu → Option ((Int32 × Mu) ⊕ (Mu)) := fun q => match q with | (x2, μ) => if (rI μ a0 3) ≤ x2 then (some (.inr μ)) else (bnd (lp n (sX8_comeIn_12 n a0 a1 x2) (0, μ)) fun q => match q with | m16 => some (.inl (x2 + 1, m16)))
set_option maxRecDepth 100000 in
set_option maxHeartbeats 4000000 in
theorem lX8_comeIn_2 {Z : ZC} {sh : List Sh} {R : Rf} {o : (Int32 × Mu) ⊕ (Mu)} (C : CX Z cX8_comeIn 4 RX8) (hR : zR Z = rm 0 0 0) (hY : LY sh R) (n : Nat) (a0 : Nat) (a1 : Nat) (ha0 : isSt sh R a0) (ha1 : isSea sh R a1)  (x2 : Int32) (μ : Mu) (h : sX8_comeIn_2 n a0 a1 (x2, μ) = some o) (kin : ∀ (x2 : Int32) (μ : Mu), o = .inl (x2, μ) → Wm Z (0, 0, sh, R) μ 2 [(0, .ref (wb (zw Z) + a0)), (1, .ref (wb (zw Z) + a1)), (2, .int x2)] []) (kex0 : ∀ (μ : Mu), o = .inr μ → Wm Z (0, 0, sh, R) μ 113 [] []) : Wm Z (0, 0, sh, R) μ 2 [(0, .ref (wb (zw Z) + a0)), (1, .ref (wb (zw Z) + a1)), (2, .int x2)] [] := by
  unfold sX8_comeIn_2 at h
  refine r_iload_n C dX8_comeIn_2 2 rfl ?_
  refine r_aload_n C dX8_comeIn_3 0 rfl ?_
  refine r_getI C flX8_48 dX8_comeIn_4 (isSt_0 ha0) rfl ?_
  refine r_icmp_ge 113 C dX8_comeIn_7 (by decide) (fun c1 => ?_) (fun c1 => ?_)
  · have h := (ite_inv h).1 c1
    refine r_sub [] [] rfl ?_
    exact kex0 μ (Option.some.inj h).symm
  · have h := (ite_inv h).2 c1
    refine r_iconst C dX8_comeIn_10 ic_0 ?_
    refine r_istore_n [(3, .int 0), (0, .ref (wb (zw Z) + a0)), (1, .ref (wb (zw Z) + a1)), (2, .int x2)] C dX8_comeIn_11 rfl (by decide) rfl ?_
    refine r_sub [(0, .ref (wb (zw Z) + a0)), (1, .ref (wb (zw Z) + a1)), (2, .int x2), (3, .int 0)] [1, 2, 3, 0] rfl ?_
    obtain ⟨m16, e17, h⟩ := bnd_inv h
    refine lp_all (sX8_comeIn_12 n a0 a1 x2) (fun q => match q with | (z3, ν) => Wm Z (0, 0, sh, R) (ν) 12 [(0, .ref (wb (zw Z) + a0)), (1, .ref (wb (zw Z) + a1)), (2, .int x2), (3, .int z3)] []) (fun q => match q with | ν => Wm Z (0, 0, sh, R) (ν) 107 [(0, .ref (wb (zw Z) + a0)), (1, .ref (wb (zw Z) + a1)), (2, .int x2)] []) (fun q o h kin kex => ?_) n (0, μ) m16 e17 ?_
    · obtain ⟨z3, ν⟩ := q; exact lX8_comeIn_12 C hR hY n a0 a1 ha0 ha1 x2 z3 ν h (fun z3 ν e => kin (z3, ν) e) (fun ν e => kex (ν) e)
    show Wm Z (0, 0, sh, R) m16 107 [(0, .ref (wb (zw Z) + a0)), (1, .ref (wb (zw Z) + a1)), (2, .int x2)] []
    refine r_iinc [(2, .int (x2 + 1)), (0, .ref (wb (zw Z) + a0)), (1, .ref (wb (zw Z) + a1))] C dX8_comeIn_107 2 rfl (in_1 _) (by decide) rfl ?_
    refine r_goto 2 C dX8_comeIn_110 (by decide) ?_
    refine r_sub [(0, .ref (wb (zw Z) + a0)), (1, .ref (wb (zw Z) + a1)), (2, .int (x2 + 1))] [1, 2, 0] rfl ?_
    exact kin (x2 + 1) m16 (Option.some.inj h).symm
def fX8_comeIn (n : Nat) (a0 : Nat) (a1 : Nat) (μ : Mu) : Option (Mu) := bnd (lp n (sX8_comeIn_2 n a0 a1) (0, μ)) fun q => match q with | m18 => some m18
set_option maxRecDepth 100000 in
set_option maxHeartbeats 4000000 in
theorem tX8_comeIn {l : Launch} {w : WP} {sh : List Sh} {R : Rf} {μ : Mu} {μ' : Mu} (hY : LY sh R) (n : Nat) (a0 : Nat) (a1 : Nat) (ha0 : isSt sh R a0) (ha1 : isSea sh R a1) (h : fX8_comeIn n a0 a1 μ = some μ') : CM l w yX8_comeIn cX8_comeIn 4 none 0 0 0 sh R [.ref (wb w + a0), .ref (wb w + a1)] μ none sh R μ' := by
  refine CM.of (plainFor_of_name pf_X8) (Nat.le_of_ble_eq_true rfl) fun Z C hr _ hR hw hl hE => ?_
  subst hw; subst hl
  have C : CX Z cX8_comeIn 4 RX8 := C
  show Wm Z (0, 0, sh, R) μ 0 [(0, .ref (wb (zw Z) + a0)), (1, .ref (wb (zw Z) + a1))] []
  unfold fX8_comeIn at h
  refine r_iconst C dX8_comeIn_0 ic_0 ?_
  refine r_istore_n [(2, .int 0), (0, .ref (wb (zw Z) + a0)), (1, .ref (wb (zw Z) + a1))] C dX8_comeIn_1 rfl (by decide) rfl ?_
  refine r_sub [(0, .ref (wb (zw Z) + a0)), (1, .ref (wb (zw Z) + a1)), (2, .int 0)] [1, 2, 0] rfl ?_
  obtain ⟨m18, e19, h⟩ := bnd_inv h
  refine lp_all (sX8_comeIn_2 n a0 a1) (fun q => match q with | (z2, ν) => Wm Z (0, 0, sh, R) (ν) 2 [(0, .ref (wb (zw Z) + a0)), (1, .ref (wb (zw Z) + a1)), (2, .int z2)] []) (fun q => match q with | ν => Wm Z (0, 0, sh, R) (ν) 113 [] []) (fun q o h kin kex => ?_) n (0, μ) m18 e19 ?_
  · obtain ⟨z2, ν⟩ := q; exact lX8_comeIn_2 C hR hY n a0 a1 ha0 ha1  z2 ν h (fun z2 ν e => kin (z2, ν) e) (fun ν e => kex (ν) e)
  show Wm Z (0, 0, sh, R) m18 113 [] []
  have h := Option.some.inj h
  subst h
  exact r_vret C dX8_comeIn_113 hr hE
def sX8_wordsAt_4 (n : Nat) (a0 : Nat) (x1 : Int32) (μ : Mu) : Int32 × Int32 → Option ((Int32 × Int32) ⊕ (Int32)) := fun q => match q with | (x2, x3) => if (rI μ a0 3) ≤ x3 then (some (.inr x2)) else (gd (ib x3 8) (if ((rI μ (a0 + 2) (ix x3)) &&& x1) = 0 then (some (.inl (x2, x3 + 1))) else (some (.inl (x2 ||| (shl 1 x3), x3 + 1)))))
set_option maxRecDepth 100000 in
set_option maxHeartbeats 4000000 in
theorem lX8_wordsAt_4 {Z : ZC} {sh : List Sh} {R : Rf} {o : (Int32 × Int32) ⊕ (Int32)} (C : CX Z cX8_wordsAt 4 RX8) (hR : zR Z = rm 0 0 0) (hY : LY sh R) (n : Nat) (a0 : Nat) (ha0 : isSt sh R a0) (x1 : Int32) (μ : Mu) (x2 : Int32) (x3 : Int32) (h : sX8_wordsAt_4 n a0 x1 μ (x2, x3) = some o) (kin : ∀ (x2 : Int32) (x3 : Int32), o = .inl (x2, x3) → Wm Z (0, 0, sh, R) μ 4 [(0, .ref (wb (zw Z) + a0)), (1, .int x1), (2, .int x2), (3, .int x3)] []) (kex0 : ∀ (x2 : Int32), o = .inr x2 → Wm Z (0, 0, sh, R) μ 35 [(2, .int x2)] []) : Wm Z (0, 0, sh, R) μ 4 [(0, .ref (wb (zw Z) + a0)), (1, .int x1), (2, .int x2), (3, .int x3)] [] := by
  unfold sX8_wordsAt_4 at h
  refine r_iload_n C dX8_wordsAt_4 3 rfl ?_
  refine r_aload_n C dX8_wordsAt_5 0 rfl ?_
  refine r_getI C flX8_48 dX8_wordsAt_6 (isSt_0 ha0) rfl ?_
  refine r_icmp_ge 35 C dX8_wordsAt_9 (by decide) (fun c1 => ?_) (fun c1 => ?_)
  · have h := (ite_inv h).1 c1
    refine r_sub [(2, .int x2)] [2] rfl ?_
    exact kex0 x2 (Option.some.inj h).symm
  · have h := (ite_inv h).2 c1
    refine r_aload_n C dX8_wordsAt_12 0 rfl ?_
    refine r_getR C flX8_15 dX8_wordsAt_13 (isSt_0 ha0) rfl (isSt_r5 ha0) ?_
    refine r_iload_n C dX8_wordsAt_16 3 rfl ?_
    obtain ⟨b2, h⟩ := gd_inv h
    refine r_iald C dX8_wordsAt_17 (isSt_2 ha0) b2 ?_
    refine r_iload_n C dX8_wordsAt_18 1 rfl ?_
    refine r_iand C dX8_wordsAt_19 ?_
    refine r_if_eq 29 C dX8_wordsAt_20 (by decide) (fun c3 => ?_) (fun c3 => ?_)
    · have h := (ite_inv h).1 c3
      refine r_iinc [(3, .int (x3 + 1)), (0, .ref (wb (zw Z) + a0)), (1, .int x1), (2, .int x2)] C dX8_wordsAt_29 3 rfl (in_1 _) (by decide) rfl ?_
      refine r_goto 4 C dX8_wordsAt_32 (by decide) ?_
      refine r_sub [(0, .ref (wb (zw Z) + a0)), (1, .int x1), (2, .int x2), (3, .int (x3 + 1))] [1, 2, 3, 0] rfl ?_
      exact kin x2 (x3 + 1) (Option.some.inj h).symm
    · have h := (ite_inv h).2 c3
      refine r_iload_n C dX8_wordsAt_23 2 rfl ?_
      refine r_iconst C dX8_wordsAt_24 ic_1 ?_
      refine r_iload_n C dX8_wordsAt_25 3 rfl ?_
      refine r_ishl C dX8_wordsAt_26 ?_
      refine r_ior C dX8_wordsAt_27 ?_
      refine r_istore_n [(2, .int (x2 ||| (shl 1 x3))), (0, .ref (wb (zw Z) + a0)), (1, .int x1), (3, .int x3)] C dX8_wordsAt_28 rfl (by decide) rfl ?_
      refine r_iinc [(3, .int (x3 + 1)), (2, .int (x2 ||| (shl 1 x3))), (0, .ref (wb (zw Z) + a0)), (1, .int x1)] C dX8_wordsAt_29 3 rfl (in_1 _) (by decide) rfl ?_
      refine r_goto 4 C dX8_wordsAt_32 (by decide) ?_
      refine r_sub [(0, .ref (wb (zw Z) + a0)), (1, .int x1), (2, .int (x2 ||| (shl 1 x3))), (3, .int (x3 + 1))] [2, 3, 1, 0] rfl ?_
      exact kin (x2 ||| (shl 1 x3)) (x3 + 1) (Option.some.inj h).symm
def fX8_wordsAt (n : Nat) (a0 : Nat) (x1 : Int32) (μ : Mu) : Option (Int32) := bnd (lp n (sX8_wordsAt_4 n a0 x1 μ) (0, 0)) fun q => match q with | u4 => some u4
set_option maxRecDepth 100000 in
set_option maxHeartbeats 4000000 in
theorem tX8_wordsAt {l : Launch} {w : WP} {sh : List Sh} {R : Rf} {μ : Mu} {r : Int32} (hY : LY sh R) (n : Nat) (a0 : Nat) (x1 : Int32) (ha0 : isSt sh R a0) (h : fX8_wordsAt n a0 x1 μ = some r) : CM l w yX8_wordsAt cX8_wordsAt 4 (some .int) 0 0 0 sh R [.ref (wb w + a0), .int x1] μ (some (.int r)) sh R μ := by
  refine CM.of (plainFor_of_name pf_X8) (Nat.le_of_ble_eq_true rfl) fun Z C hr _ hR hw hl hE => ?_
  subst hw; subst hl
  have C : CX Z cX8_wordsAt 4 RX8 := C
  show Wm Z (0, 0, sh, R) μ 0 [(0, .ref (wb (zw Z) + a0)), (1, .int x1)] []
  unfold fX8_wordsAt at h
  refine r_iconst C dX8_wordsAt_0 ic_0 ?_
  refine r_istore_n [(2, .int 0), (0, .ref (wb (zw Z) + a0)), (1, .int x1)] C dX8_wordsAt_1 rfl (by decide) rfl ?_
  refine r_iconst C dX8_wordsAt_2 ic_0 ?_
  refine r_istore_n [(3, .int 0), (2, .int 0), (0, .ref (wb (zw Z) + a0)), (1, .int x1)] C dX8_wordsAt_3 rfl (by decide) rfl ?_
  refine r_sub [(0, .ref (wb (zw Z) + a0)), (1, .int x1), (2, .int 0), (3, .int 0)] [2, 3, 1, 0] rfl ?_
  obtain ⟨u4, e5, h⟩ := bnd_inv h
  refine lp_all (sX8_wordsAt_4 n a0 x1 μ) (fun q => match q with | (z2, z3) => Wm Z (0, 0, sh, R) μ 4 [(0, .ref (wb (zw Z) + a0)), (1, .int x1), (2, .int z2), (3, .int z3)] []) (fun q => match q with | z2 => Wm Z (0, 0, sh, R) μ 35 [(2, .int z2)] []) (fun q o h kin kex => ?_) n (0, 0) u4 e5 ?_
  · obtain ⟨z2, z3⟩ := q; exact lX8_wordsAt_4 C hR hY n a0 ha0 x1 μ z2 z3 h (fun z2 z3 e => kin (z2, z3) e) (fun z2 e => kex z2 e)
  show Wm Z (0, 0, sh, R) μ 35 [(2, .int u4)] []
  refine r_iload_n C dX8_wordsAt_35 0 rfl ?_
  have h := Option.some.inj h
  subst h
  exact r_iret C dX8_wordsAt_36 hr hE
def sX8_passHour_59 (n : Nat) (a0 : Nat) (a1 : Nat) : Int32 × Int32 × Mu → Option ((Int32 × Int32 × Mu) ⊕ (Int32 × Mu)) := fun q => match q with | (x3, x4, μ) => if (rI μ a1 2) ≤ x4 then (some (.inr (x3, μ))) else (gd (ib x4 6) (if (rI μ a0 3) ≤ (bitc (rI μ (a0 + 6) (ix x4))) then (some (.inl (x3, x4 + 1, μ))) else (bnd2 (fX6_listeners n (rI μ a0 0) (if (rI μ a0 1) ≤ 0 then 0 else 1 : Int32) (bitc (rI μ (a0 + 6) (ix x4))) μ) fun u14 m15 => if ((shr u14 x4) &&& 1) = 1 then (gd (ib x4 6) (bnd (fX8_audible n a0 a1 x4 m15) fun u19 => bnd (fX8_wordsAt n a0 u19 m15) fun u21 => gd (ib x4 6) (gd (ib x4 6) (some (.inl (x3 + ((bitc (rI (wI m15 (a0 + 6) (ix x4) ((rI m15 (a0 + 6) (ix x4)) ||| u21)) (a0 + 6) (ix x4))) - (bitc (rI μ (a0 + 6) (ix x4)))), x4 + 1, wI m15 (a0 + 6) (ix x4) ((rI m15 (a0 + 6) (ix x4)) ||| u21))))))) else (some (.inl (x3, x4 + 1, m15))))))
set_option maxRecDepth 100000 in
set_option maxHeartbeats 4000000 in
theorem lX8_passHour_59 {Z : ZC} {sh : List Sh} {R : Rf} {o : (Int32 × Int32 × Mu) ⊕ (Int32 × Mu)} (C : CX Z cX8_passHour 6 RX8) (hR : zR Z = rm 4 0 0) (hY : LY sh R) (n : Nat) (a0 : Nat) (a1 : Nat) (ha0 : isSt sh R a0) (ha1 : isSea sh R a1)  (x3 : Int32) (x4 : Int32) (μ : Mu) (h : sX8_passHour_59 n a0 a1 (x3, x4, μ) = some o) (kin : ∀ (x3 : Int32) (x4 : Int32) (μ : Mu), o = .inl (x3, x4, μ) → Wm Z (0, 0, sh, R) μ 59 [(0, .ref (wb (zw Z) + a0)), (1, .ref (wb (zw Z) + a1)), (2, .ref (wb (zw Z) + 28)), (3, .int x3), (4, .int x4)] []) (kex0 : ∀ (x3 : Int32) (μ : Mu), o = .inr (x3, μ) → Wm Z (0, 0, sh, R) μ 163 [(3, .int x3)] []) : Wm Z (0, 0, sh, R) μ 59 [(0, .ref (wb (zw Z) + a0)), (1, .ref (wb (zw Z) + a1)), (2, .ref (wb (zw Z) + 28)), (3, .int x3), (4, .int x4)] [] := by
  unfold sX8_passHour_59 at h
  refine r_iload C dX8_passHour_59 4 rfl ?_
  refine r_aload_n C dX8_passHour_61 1 rfl ?_
  refine r_getI C flX8_86 dX8_passHour_62 (isSea_0 ha1) rfl ?_
  refine r_icmp_ge 163 C dX8_passHour_65 (by decide) (fun c9 => ?_) (fun c9 => ?_)
  · have h := (ite_inv h).1 c9
    refine r_sub [(3, .int x3)] [3] rfl ?_
    exact kex0 x3 μ (Option.some.inj h).symm
  · have h := (ite_inv h).2 c9
    refine r_aload_n C dX8_passHour_68 0 rfl ?_
    refine r_getR C flX8_27 dX8_passHour_69 (isSt_0 ha0) rfl (isSt_r9 ha0) ?_
    refine r_iload C dX8_passHour_72 4 rfl ?_
    obtain ⟨b10, h⟩ := gd_inv h
    refine r_iald C dX8_passHour_74 (isSt_6 ha0) b10 ?_
    refine r_cSi (As := [.int (rI μ (a0 + 6) (ix x4))]) (rest := []) C hR mlX8_89 dX8_passHour_75 (t_bitc hY) rfl rfl (nle rfl) (nle rfl) (nle rfl) ?_
    refine r_istore [(5, .int (bitc (rI μ (a0 + 6) (ix x4)))), (0, .ref (wb (zw Z) + a0)), (1, .ref (wb (zw Z) + a1)), (2, .ref (wb (zw Z) + 28)), (3, .int x3), (4, .int x4)] C dX8_passHour_78 (by decide) rfl ?_
    refine r_iload C dX8_passHour_80 0 rfl ?_
    refine r_aload_n C dX8_passHour_82 1 rfl ?_
    refine r_getI C flX8_48 dX8_passHour_83 (isSt_0 ha0) rfl ?_
    refine r_icmp_ge 157 C dX8_passHour_86 (by decide) (fun c11 => ?_) (fun c11 => ?_)
    · have h := (ite_inv h).1 c11
      refine r_iinc [(4, .int (x4 + 1)), (5, .int (bitc (rI μ (a0 + 6) (ix x4)))), (0, .ref (wb (zw Z) + a0)), (1, .ref (wb (zw Z) + a1)), (2, .ref (wb (zw Z) + 28)), (3, .int x3)] C dX8_passHour_157 5 rfl (in_1 _) (by decide) rfl ?_
      refine r_goto 59 C dX8_passHour_160 (by decide) ?_
      refine r_sub [(0, .ref (wb (zw Z) + a0)), (1, .ref (wb (zw Z) + a1)), (2, .ref (wb (zw Z) + 28)), (3, .int x3), (4, .int (x4 + 1))] [2, 3, 4, 5, 0] rfl ?_
      exact kin x3 (x4 + 1) μ (Option.some.inj h).symm
    · have h := (ite_inv h).2 c11
      refine r_aload_n C dX8_passHour_89 3 rfl ?_
      refine r_aload_n C dX8_passHour_90 1 rfl ?_
      refine r_getI C flX8_36 dX8_passHour_91 (isSt_0 ha0) rfl ?_
      refine r_aload_n C dX8_passHour_94 1 rfl ?_
      refine r_getI C flX8_42 dX8_passHour_95 (isSt_0 ha0) rfl ?_
      suffices hj : Wm Z (0, 0, sh, R) μ 106 [(5, .int (bitc (rI μ (a0 + 6) (ix x4)))), (0, .ref (wb (zw Z) + a0)), (1, .ref (wb (zw Z) + a1)), (2, .ref (wb (zw Z) + 28)), (3, .int x3), (4, .int x4)] [.int (if (rI μ a0 1) ≤ 0 then 0 else 1 : Int32), .int (rI μ a0 0), .ref (wb (zw Z) + 28)] by
        refine r_if_le 105 C dX8_passHour_98 (by decide) (fun c12 => ?_) (fun c12 => ?_)
        · refine r_iconst C dX8_passHour_105 ic_0 ?_
          exact sel_t c12 hj
        · refine r_iconst C dX8_passHour_101 ic_1 ?_
          refine r_goto 106 C dX8_passHour_102 (by decide) ?_
          exact sel_f c12 hj
      refine r_iload C dX8_passHour_106 0 rfl ?_
      obtain ⟨u14, m15, e13, h⟩ := bnd2_inv h
      refine r_cVi (As := [.int (rI μ a0 0), .int (if (rI μ a0 1) ≤ 0 then 0 else 1 : Int32), .int (bitc (rI μ (a0 + 6) (ix x4)))]) (rest := []) C hR mlX8_95 dX8_passHour_108 (tX6_listeners hY n (rI μ a0 0) (if (rI μ a0 1) ≤ 0 then 0 else 1 : Int32) (bitc (rI μ (a0 + 6) (ix x4)))  e13) rfl rfl (ly28 hY) rfl (nle rfl) (nle rfl) (nle rfl) ?_
      refine r_iload C dX8_passHour_111 5 rfl ?_
      refine r_ishr C dX8_passHour_113 ?_
      refine r_iconst C dX8_passHour_114 ic_1 ?_
      refine r_iand C dX8_passHour_115 ?_
      refine r_iconst C dX8_passHour_116 ic_1 ?_
      refine r_icmp_ne 157 C dX8_passHour_117 (by decide) (fun c16 => ?_) (fun c16 => ?_)
      · have h := (ite_inv h).2 c16
        refine r_iinc [(4, .int (x4 + 1)), (5, .int (bitc (rI μ (a0 + 6) (ix x4)))), (0, .ref (wb (zw Z) + a0)), (1, .ref (wb (zw Z) + a1)), (2, .ref (wb (zw Z) + 28)), (3, .int x3)] C dX8_passHour_157 5 rfl (in_1 _) (by decide) rfl ?_
        refine r_goto 59 C dX8_passHour_160 (by decide) ?_
        refine r_sub [(0, .ref (wb (zw Z) + a0)), (1, .ref (wb (zw Z) + a1)), (2, .ref (wb (zw Z) + 28)), (3, .int x3), (4, .int (x4 + 1))] [2, 3, 4, 5, 0] rfl ?_
        exact kin x3 (x4 + 1) m15 (Option.some.inj h).symm
      · have h := (ite_inv h).1 c16
        refine r_aload_n C dX8_passHour_120 1 rfl ?_
        refine r_getR C flX8_27 dX8_passHour_121 (isSt_0 ha0) rfl (isSt_r9 ha0) ?_
        refine r_iload C dX8_passHour_124 5 rfl ?_
        refine r_dup2 C dX8_passHour_126 rfl rfl ?_
        obtain ⟨b17, h⟩ := gd_inv h
        refine r_iald C dX8_passHour_127 (isSt_6 ha0) b17 ?_
        refine r_aload_n C dX8_passHour_128 1 rfl ?_
        refine r_aload_n C dX8_passHour_129 1 rfl ?_
        refine r_aload_n C dX8_passHour_130 2 rfl ?_
        refine r_iload C dX8_passHour_131 5 rfl ?_
        obtain ⟨u19, e18, h⟩ := bnd_inv h
        refine r_cVi (As := [.ref (wb (zw Z) + a1), .int x4]) (rest := [.ref (wb (zw Z) + a0), .int (rI m15 (a0 + 6) (ix x4)), .int x4, .ref (wb (zw Z) + (a0 + 6))]) C hR mlX8_99 dX8_passHour_133 (tX8_audible hY n a0 a1 x4 ha0 ha1 e18) rfl rfl (isSt_0 ha0) rfl (nle rfl) (nle rfl) (nle rfl) ?_
        obtain ⟨u21, e20, h⟩ := bnd_inv h
        refine r_cVi (As := [.int u19]) (rest := [.int (rI m15 (a0 + 6) (ix x4)), .int x4, .ref (wb (zw Z) + (a0 + 6))]) C hR mlX8_103 dX8_passHour_136 (tX8_wordsAt hY n a0 u19 ha0 e20) rfl rfl (isSt_0 ha0) rfl (nle rfl) (nle rfl) (nle rfl) ?_
        refine r_ior C dX8_passHour_139 ?_
        obtain ⟨b22, h⟩ := gd_inv h
        refine r_iast C dX8_passHour_140 (isSt_6 ha0) b22 ?_
        refine r_iload_n C dX8_passHour_141 4 rfl ?_
        refine r_aload_n C dX8_passHour_142 1 rfl ?_
        refine r_getR C flX8_27 dX8_passHour_143 (isSt_0 ha0) rfl (isSt_r9 ha0) ?_
        refine r_iload C dX8_passHour_146 5 rfl ?_
        obtain ⟨b23, h⟩ := gd_inv h
        refine r_iald C dX8_passHour_148 (isSt_6 ha0) b23 ?_
        refine r_cSi (As := [.int (rI (wI m15 (a0 + 6) (ix x4) ((rI m15 (a0 + 6) (ix x4)) ||| u21)) (a0 + 6) (ix x4))]) (rest := [.int x3]) C hR mlX8_89 dX8_passHour_149 (t_bitc hY) rfl rfl (nle rfl) (nle rfl) (nle rfl) ?_
        refine r_iload C dX8_passHour_152 0 rfl ?_
        refine r_isub C dX8_passHour_154 ?_
        refine r_iadd C dX8_passHour_155 ?_
        refine r_istore_n [(3, .int (x3 + ((bitc (rI (wI m15 (a0 + 6) (ix x4) ((rI m15 (a0 + 6) (ix x4)) ||| u21)) (a0 + 6) (ix x4))) - (bitc (rI μ (a0 + 6) (ix x4)))))), (5, .int (bitc (rI μ (a0 + 6) (ix x4)))), (0, .ref (wb (zw Z) + a0)), (1, .ref (wb (zw Z) + a1)), (2, .ref (wb (zw Z) + 28)), (4, .int x4)] C dX8_passHour_156 rfl (by decide) rfl ?_
        refine r_iinc [(4, .int (x4 + 1)), (3, .int (x3 + ((bitc (rI (wI m15 (a0 + 6) (ix x4) ((rI m15 (a0 + 6) (ix x4)) ||| u21)) (a0 + 6) (ix x4))) - (bitc (rI μ (a0 + 6) (ix x4)))))), (5, .int (bitc (rI μ (a0 + 6) (ix x4)))), (0, .ref (wb (zw Z) + a0)), (1, .ref (wb (zw Z) + a1)), (2, .ref (wb (zw Z) + 28))] C dX8_passHour_157 5 rfl (in_1 _) (by decide) rfl ?_
        refine r_goto 59 C dX8_passHour_160 (by decide) ?_
        refine r_sub [(0, .ref (wb (zw Z) + a0)), (1, .ref (wb (zw Z) + a1)), (2, .ref (wb (zw Z) + 28)), (3, .int (x3 + ((bitc (rI (wI m15 (a0 + 6) (ix x4) ((rI m15 (a0 + 6) (ix x4)) ||| u21)) (a0 + 6) (ix x4))) - (bitc (rI μ (a0 + 6) (ix x4)))))), (4, .int (x4 + 1))] [3, 4, 5, 1, 0] rfl ?_
        exact kin (x3 + ((bitc (rI (wI m15 (a0 + 6) (ix x4) ((rI m15 (a0 + 6) (ix x4)) ||| u21)) (a0 + 6) (ix x4))) - (bitc (rI μ (a0 + 6) (ix x4))))) (x4 + 1) (wI m15 (a0 + 6) (ix x4) ((rI m15 (a0 + 6) (ix x4)) ||| u21)) (Option.some.inj h).symm
def fX8_passHour (n : Nat) (a0 : Nat) (a1 : Nat) (μ : Mu) : Option (Int32 × Mu) := bnd2 (fX6_openCurrents n (rI μ a0 0) (if (rI μ a0 1) ≤ 0 then 0 else 1 : Int32) μ) fun u3 m4 => bnd (fX8_goOut n a0 a1 u3 m4) fun m6 => bnd (fX8_comeIn n a0 a1 (wI (wI m6 a0 0 ((rI m6 a0 0) + 1)) a0 1 (jmax 0 ((rI (wI m6 a0 0 ((rI m6 a0 0) + 1)) a0 1) - 1)))) fun m8 => bnd (lp n (sX8_passHour_59 n a0 a1) (0, 0, m8)) fun q => match q with | (u24, m25) => some (u24, m25)
set_option maxRecDepth 100000 in
set_option maxHeartbeats 4000000 in
theorem tX8_passHour {l : Launch} {w : WP} {sh : List Sh} {R : Rf} {μ : Mu} {r : Int32} {μ' : Mu} (hY : LY sh R) (n : Nat) (a0 : Nat) (a1 : Nat) (ha0 : isSt sh R a0) (ha1 : isSea sh R a1) (h : fX8_passHour n a0 a1 μ = some (r, μ')) : CM l w yX8_passHour cX8_passHour 6 (some .int) 4 0 0 sh R [.ref (wb w + a0), .ref (wb w + a1), .ref (wb w + 28)] μ (some (.int r)) sh R μ' := by
  refine CM.of (plainFor_of_name pf_X8) (Nat.le_of_ble_eq_true rfl) fun Z C hr _ hR hw hl hE => ?_
  subst hw; subst hl
  have C : CX Z cX8_passHour 6 RX8 := C
  show Wm Z (0, 0, sh, R) μ 0 [(0, .ref (wb (zw Z) + a0)), (1, .ref (wb (zw Z) + a1)), (2, .ref (wb (zw Z) + 28))] []
  unfold fX8_passHour at h
  refine r_aload_n C dX8_passHour_0 0 rfl ?_
  refine r_aload_n C dX8_passHour_1 1 rfl ?_
  refine r_aload_n C dX8_passHour_2 2 rfl ?_
  refine r_aload_n C dX8_passHour_3 0 rfl ?_
  refine r_getI C flX8_36 dX8_passHour_4 (isSt_0 ha0) rfl ?_
  refine r_aload_n C dX8_passHour_7 0 rfl ?_
  refine r_getI C flX8_42 dX8_passHour_8 (isSt_0 ha0) rfl ?_
  suffices hj : Wm Z (0, 0, sh, R) μ 19 [(0, .ref (wb (zw Z) + a0)), (1, .ref (wb (zw Z) + a1)), (2, .ref (wb (zw Z) + 28))] [.int (if (rI μ a0 1) ≤ 0 then 0 else 1 : Int32), .int (rI μ a0 0), .ref (wb (zw Z) + 28), .ref (wb (zw Z) + a1), .ref (wb (zw Z) + a0)] by
    refine r_if_le 18 C dX8_passHour_11 (by decide) (fun c1 => ?_) (fun c1 => ?_)
    · refine r_iconst C dX8_passHour_18 ic_0 ?_
      exact sel_t c1 hj
    · refine r_iconst C dX8_passHour_14 ic_1 ?_
      refine r_goto 19 C dX8_passHour_15 (by decide) ?_
      exact sel_f c1 hj
  obtain ⟨u3, m4, e2, h⟩ := bnd2_inv h
  refine r_cVi (As := [.int (rI μ a0 0), .int (if (rI μ a0 1) ≤ 0 then 0 else 1 : Int32)]) (rest := [.ref (wb (zw Z) + a1), .ref (wb (zw Z) + a0)]) C hR mlX8_66 dX8_passHour_19 (tX6_openCurrents hY n (rI μ a0 0) (if (rI μ a0 1) ≤ 0 then 0 else 1 : Int32)  e2) rfl rfl (ly28 hY) rfl (nle rfl) (nle rfl) (nle rfl) ?_
  obtain ⟨m6, e5, h⟩ := bnd_inv h
  refine r_cVv (As := [.ref (wb (zw Z) + a1), .int u3]) (rest := []) C hR mlX8_72 dX8_passHour_22 (tX8_goOut hY n a0 a1 u3 ha0 ha1 e5) rfl rfl (isSt_0 ha0) rfl (nle rfl) (nle rfl) (nle rfl) ?_
  refine r_aload_n C dX8_passHour_25 0 rfl ?_
  refine r_dup C dX8_passHour_26 rfl ?_
  refine r_getI C flX8_36 dX8_passHour_27 (isSt_0 ha0) rfl ?_
  refine r_iconst C dX8_passHour_30 ic_1 ?_
  refine r_iadd C dX8_passHour_31 ?_
  refine r_putI C fiX8_36 dX8_passHour_32 (isSt_0 ha0) ?_
  refine r_aload_n C dX8_passHour_35 0 rfl ?_
  refine r_iconst C dX8_passHour_36 ic_0 ?_
  refine r_aload_n C dX8_passHour_37 0 rfl ?_
  refine r_getI C flX8_42 dX8_passHour_38 (isSt_0 ha0) rfl ?_
  refine r_iconst C dX8_passHour_41 ic_1 ?_
  refine r_isub C dX8_passHour_42 ?_
  refine r_cSi (As := [.int 0, .int ((rI (wI m6 a0 0 ((rI m6 a0 0) + 1)) a0 1) - 1)]) (rest := [.ref (wb (zw Z) + a0)]) C hR mlX8_76 dX8_passHour_43 (t_jmax hY) rfl rfl (nle rfl) (nle rfl) (nle rfl) ?_
  refine r_putI C fiX8_42 dX8_passHour_46 (isSt_0 ha0) ?_
  refine r_aload_n C dX8_passHour_49 0 rfl ?_
  refine r_aload_n C dX8_passHour_50 1 rfl ?_
  obtain ⟨m8, e7, h⟩ := bnd_inv h
  refine r_cVv (As := [.ref (wb (zw Z) + a1)]) (rest := []) C hR mlX8_82 dX8_passHour_51 (tX8_comeIn hY n a0 a1 ha0 ha1 e7) rfl rfl (isSt_0 ha0) rfl (nle rfl) (nle rfl) (nle rfl) ?_
  refine r_iconst C dX8_passHour_54 ic_0 ?_
  refine r_istore_n [(3, .int 0), (0, .ref (wb (zw Z) + a0)), (1, .ref (wb (zw Z) + a1)), (2, .ref (wb (zw Z) + 28))] C dX8_passHour_55 rfl (by decide) rfl ?_
  refine r_iconst C dX8_passHour_56 ic_0 ?_
  refine r_istore [(4, .int 0), (3, .int 0), (0, .ref (wb (zw Z) + a0)), (1, .ref (wb (zw Z) + a1)), (2, .ref (wb (zw Z) + 28))] C dX8_passHour_57 (by decide) rfl ?_
  refine r_sub [(0, .ref (wb (zw Z) + a0)), (1, .ref (wb (zw Z) + a1)), (2, .ref (wb (zw Z) + 28)), (3, .int 0), (4, .int 0)] [2, 3, 4, 1, 0] rfl ?_
  obtain ⟨⟨u24, m25⟩, e26, h⟩ := bnd_inv h
  refine lp_all (sX8_passHour_59 n a0 a1) (fun q => match q with | (z3, z4, ν) => Wm Z (0, 0, sh, R) (ν) 59 [(0, .ref (wb (zw Z) + a0)), (1, .ref (wb (zw Z) + a1)), (2, .ref (wb (zw Z) + 28)), (3, .int z3), (4, .int z4)] []) (fun q => match q with | (z3, ν) => Wm Z (0, 0, sh, R) (ν) 163 [(3, .int z3)] []) (fun q o h kin kex => ?_) n (0, 0, m8) (u24, m25) e26 ?_
  · obtain ⟨z3, z4, ν⟩ := q; exact lX8_passHour_59 C hR hY n a0 a1 ha0 ha1  z3 z4 ν h (fun z3 z4 ν e => kin (z3, z4, ν) e) (fun z3 ν e => kex (z3, ν) e)
  show Wm Z (0, 0, sh, R) m25 163 [(3, .int u24)] []
  refine r_iload_n C dX8_passHour_163 0 rfl ?_
  obtain ⟨h1, h2⟩ := Prod.mk.inj (Option.some.inj h)
  subst h1; subst h2
  exact r_iret C dX8_passHour_164 hr hE
def fX8_whisperAt (n : Nat) (a0 : Nat) (x1 : Int32) (a2 : Nat) (μ : Mu) : Option (Int32 × Mu) := if x1 < (rI μ a2 0) then (if (rI μ a0 3) < 8 then (gd (ib (rI μ a0 3) 8) (gd (ib (rI (wI μ (a0 + 2) (ix (rI μ a0 3)) (shl 1 x1)) a0 3) 8) (gd (ib (rI (wI (wI μ (a0 + 2) (ix (rI μ a0 3)) (shl 1 x1)) (a0 + 3) (ix (rI (wI μ (a0 + 2) (ix (rI μ a0 3)) (shl 1 x1)) a0 3)) 0) a0 3) 8) (some (0, wI (wI (wI (wI μ (a0 + 2) (ix (rI μ a0 3)) (shl 1 x1)) (a0 + 3) (ix (rI (wI μ (a0 + 2) (ix (rI μ a0 3)) (shl 1 x1)) a0 3)) 0) (a0 + 4) (ix (rI (wI (wI μ (a0 + 2) (ix (rI μ a0 3)) (shl 1 x1)) (a0 + 3) (ix (rI (wI μ (a0 + 2) (ix (rI μ a0 3)) (shl 1 x1)) a0 3)) 0) a0 3)) 0) a0 3 ((rI (wI (wI (wI μ (a0 + 2) (ix (rI μ a0 3)) (shl 1 x1)) (a0 + 3) (ix (rI (wI μ (a0 + 2) (ix (rI μ a0 3)) (shl 1 x1)) a0 3)) 0) (a0 + 4) (ix (rI (wI (wI μ (a0 + 2) (ix (rI μ a0 3)) (shl 1 x1)) (a0 + 3) (ix (rI (wI μ (a0 + 2) (ix (rI μ a0 3)) (shl 1 x1)) a0 3)) 0) a0 3)) 0) a0 3) + 1)))))) else (some (2, μ))) else (some (1, μ))
set_option maxRecDepth 100000 in
set_option maxHeartbeats 4000000 in
theorem tX8_whisperAt {l : Launch} {w : WP} {sh : List Sh} {R : Rf} {μ : Mu} {r : Int32} {μ' : Mu} (hY : LY sh R) (n : Nat) (a0 : Nat) (x1 : Int32) (a2 : Nat) (ha0 : isSt sh R a0) (ha2 : isSea sh R a2) (h : fX8_whisperAt n a0 x1 a2 μ = some (r, μ')) : CM l w yX8_whisperAt cX8_whisperAt 3 (some .int) 0 0 0 sh R [.ref (wb w + a0), .int x1, .ref (wb w + a2)] μ (some (.int r)) sh R μ' := by
  refine CM.of (plainFor_of_name pf_X8) (Nat.le_of_ble_eq_true rfl) fun Z C hr _ hR hw hl hE => ?_
  subst hw; subst hl
  have C : CX Z cX8_whisperAt 3 RX8 := C
  show Wm Z (0, 0, sh, R) μ 0 [(0, .ref (wb (zw Z) + a0)), (1, .int x1), (2, .ref (wb (zw Z) + a2))] []
  unfold fX8_whisperAt at h
  refine r_iload_n C dX8_whisperAt_0 1 rfl ?_
  refine r_aload_n C dX8_whisperAt_1 2 rfl ?_
  refine r_getI C flX8_146 dX8_whisperAt_2 (isSea_0 ha2) rfl ?_
  refine r_icmp_lt 10 C dX8_whisperAt_5 (by decide) (fun c1 => ?_) (fun c1 => ?_)
  · have h := (ite_inv h).1 c1
    refine r_aload_n C dX8_whisperAt_10 0 rfl ?_
    refine r_getI C flX8_48 dX8_whisperAt_11 (isSt_0 ha0) rfl ?_
    refine r_bipush C dX8_whisperAt_14 bp_8 ?_
    refine r_icmp_lt 21 C dX8_whisperAt_16 (by decide) (fun c2 => ?_) (fun c2 => ?_)
    · have h := (ite_inv h).1 c2
      refine r_aload_n C dX8_whisperAt_21 0 rfl ?_
      refine r_getR C flX8_15 dX8_whisperAt_22 (isSt_0 ha0) rfl (isSt_r5 ha0) ?_
      refine r_aload_n C dX8_whisperAt_25 0 rfl ?_
      refine r_getI C flX8_48 dX8_whisperAt_26 (isSt_0 ha0) rfl ?_
      refine r_iconst C dX8_whisperAt_29 ic_1 ?_
      refine r_iload_n C dX8_whisperAt_30 1 rfl ?_
      refine r_ishl C dX8_whisperAt_31 ?_
      obtain ⟨b3, h⟩ := gd_inv h
      refine r_iast C dX8_whisperAt_32 (isSt_2 ha0) b3 ?_
      refine r_aload_n C dX8_whisperAt_33 0 rfl ?_
      refine r_getR C flX8_18 dX8_whisperAt_34 (isSt_0 ha0) rfl (isSt_r6 ha0) ?_
      refine r_aload_n C dX8_whisperAt_37 0 rfl ?_
      refine r_getI C flX8_48 dX8_whisperAt_38 (isSt_0 ha0) rfl ?_
      refine r_iconst C dX8_whisperAt_41 ic_0 ?_
      obtain ⟨b4, h⟩ := gd_inv h
      refine r_iast C dX8_whisperAt_42 (isSt_3 ha0) b4 ?_
      refine r_aload_n C dX8_whisperAt_43 0 rfl ?_
      refine r_getR C flX8_21 dX8_whisperAt_44 (isSt_0 ha0) rfl (isSt_r7 ha0) ?_
      refine r_aload_n C dX8_whisperAt_47 0 rfl ?_
      refine r_getI C flX8_48 dX8_whisperAt_48 (isSt_0 ha0) rfl ?_
      refine r_iconst C dX8_whisperAt_51 ic_0 ?_
      obtain ⟨b5, h⟩ := gd_inv h
      refine r_iast C dX8_whisperAt_52 (isSt_4 ha0) b5 ?_
      refine r_aload_n C dX8_whisperAt_53 0 rfl ?_
      refine r_dup C dX8_whisperAt_54 rfl ?_
      refine r_getI C flX8_48 dX8_whisperAt_55 (isSt_0 ha0) rfl ?_
      refine r_iconst C dX8_whisperAt_58 ic_1 ?_
      refine r_iadd C dX8_whisperAt_59 ?_
      refine r_putI C fiX8_48 dX8_whisperAt_60 (isSt_0 ha0) ?_
      refine r_iconst C dX8_whisperAt_63 ic_0 ?_
      obtain ⟨h1, h2⟩ := Prod.mk.inj (Option.some.inj h)
      subst h1; subst h2
      exact r_iret C dX8_whisperAt_64 hr hE
    · have h := (ite_inv h).2 c2
      refine r_iconst C dX8_whisperAt_19 ic_2 ?_
      obtain ⟨h1, h2⟩ := Prod.mk.inj (Option.some.inj h)
      subst h1; subst h2
      exact r_iret C dX8_whisperAt_20 hr hE
  · have h := (ite_inv h).2 c1
    refine r_iconst C dX8_whisperAt_8 ic_1 ?_
    obtain ⟨h1, h2⟩ := Prod.mk.inj (Option.some.inj h)
    subst h1; subst h2
    exact r_iret C dX8_whisperAt_9 hr hE
def fX8_giveTo (n : Nat) (a0 : Nat) (x1 : Int32) (x2 : Int32) (a3 : Nat) (μ : Mu) : Option (Int32 × Mu) := if (rI μ a3 3) ≤ x1 then (some (1, μ)) else (if x2 < (rI μ a3 2) then (gd (ib x1 8) (some (0, wI μ (a0 + 1) (ix x1) x2))) else (some (1, μ)))
set_option maxRecDepth 100000 in
set_option maxHeartbeats 4000000 in
theorem tX8_giveTo {l : Launch} {w : WP} {sh : List Sh} {R : Rf} {μ : Mu} {r : Int32} {μ' : Mu} (hY : LY sh R) (n : Nat) (a0 : Nat) (x1 : Int32) (x2 : Int32) (a3 : Nat) (ha0 : isSt sh R a0) (ha3 : isSea sh R a3) (h : fX8_giveTo n a0 x1 x2 a3 μ = some (r, μ')) : CM l w yX8_giveTo cX8_giveTo 4 (some .int) 0 0 0 sh R [.ref (wb w + a0), .int x1, .int x2, .ref (wb w + a3)] μ (some (.int r)) sh R μ' := by
  refine CM.of (plainFor_of_name pf_X8) (Nat.le_of_ble_eq_true rfl) fun Z C hr _ hR hw hl hE => ?_
  subst hw; subst hl
  have C : CX Z cX8_giveTo 4 RX8 := C
  show Wm Z (0, 0, sh, R) μ 0 [(0, .ref (wb (zw Z) + a0)), (1, .int x1), (2, .int x2), (3, .ref (wb (zw Z) + a3))] []
  unfold fX8_giveTo at h
  refine r_iload_n C dX8_giveTo_0 1 rfl ?_
  refine r_aload_n C dX8_giveTo_1 3 rfl ?_
  refine r_getI C flX8_121 dX8_giveTo_2 (isSea_0 ha3) rfl ?_
  refine r_icmp_ge 16 C dX8_giveTo_5 (by decide) (fun c1 => ?_) (fun c1 => ?_)
  · have h := (ite_inv h).1 c1
    refine r_iconst C dX8_giveTo_16 ic_1 ?_
    obtain ⟨h1, h2⟩ := Prod.mk.inj (Option.some.inj h)
    subst h1; subst h2
    exact r_iret C dX8_giveTo_17 hr hE
  · have h := (ite_inv h).2 c1
    refine r_iload_n C dX8_giveTo_8 2 rfl ?_
    refine r_aload_n C dX8_giveTo_9 3 rfl ?_
    refine r_getI C flX8_86 dX8_giveTo_10 (isSea_0 ha3) rfl ?_
    refine r_icmp_lt 18 C dX8_giveTo_13 (by decide) (fun c2 => ?_) (fun c2 => ?_)
    · have h := (ite_inv h).1 c2
      refine r_aload_n C dX8_giveTo_18 0 rfl ?_
      refine r_getR C flX8_9 dX8_giveTo_19 (isSt_0 ha0) rfl (isSt_r4 ha0) ?_
      refine r_iload_n C dX8_giveTo_22 1 rfl ?_
      refine r_iload_n C dX8_giveTo_23 2 rfl ?_
      obtain ⟨b3, h⟩ := gd_inv h
      refine r_iast C dX8_giveTo_24 (isSt_1 ha0) b3 ?_
      refine r_iconst C dX8_giveTo_25 ic_0 ?_
      obtain ⟨h1, h2⟩ := Prod.mk.inj (Option.some.inj h)
      subst h1; subst h2
      exact r_iret C dX8_giveTo_26 hr hE
    · have h := (ite_inv h).2 c2
      refine r_iconst C dX8_giveTo_16 ic_1 ?_
      obtain ⟨h1, h2⟩ := Prod.mk.inj (Option.some.inj h)
      subst h1; subst h2
      exact r_iret C dX8_giveTo_17 hr hE
def fX8_layDown (n : Nat) (a0 : Nat) (x1 : Int32) (a2 : Nat) (μ : Mu) : Option (Int32 × Mu) := if x1 < (rI μ a2 3) then (gd (ib x1 8) (if (rI μ (a0 + 1) (ix x1)) = (-1) then (some (2, μ)) else (gd (ib x1 8) (some (0, wI μ (a0 + 1) (ix x1) (-1)))))) else (some (1, μ))
set_option maxRecDepth 100000 in
set_option maxHeartbeats 4000000 in
theorem tX8_layDown {l : Launch} {w : WP} {sh : List Sh} {R : Rf} {μ : Mu} {r : Int32} {μ' : Mu} (hY : LY sh R) (n : Nat) (a0 : Nat) (x1 : Int32) (a2 : Nat) (ha0 : isSt sh R a0) (ha2 : isSea sh R a2) (h : fX8_layDown n a0 x1 a2 μ = some (r, μ')) : CM l w yX8_layDown cX8_layDown 3 (some .int) 0 0 0 sh R [.ref (wb w + a0), .int x1, .ref (wb w + a2)] μ (some (.int r)) sh R μ' := by
  refine CM.of (plainFor_of_name pf_X8) (Nat.le_of_ble_eq_true rfl) fun Z C hr _ hR hw hl hE => ?_
  subst hw; subst hl
  have C : CX Z cX8_layDown 3 RX8 := C
  show Wm Z (0, 0, sh, R) μ 0 [(0, .ref (wb (zw Z) + a0)), (1, .int x1), (2, .ref (wb (zw Z) + a2))] []
  unfold fX8_layDown at h
  refine r_iload_n C dX8_layDown_0 1 rfl ?_
  refine r_aload_n C dX8_layDown_1 2 rfl ?_
  refine r_getI C flX8_121 dX8_layDown_2 (isSea_0 ha2) rfl ?_
  refine r_icmp_lt 10 C dX8_layDown_5 (by decide) (fun c1 => ?_) (fun c1 => ?_)
  · have h := (ite_inv h).1 c1
    refine r_aload_n C dX8_layDown_10 0 rfl ?_
    refine r_getR C flX8_9 dX8_layDown_11 (isSt_0 ha0) rfl (isSt_r4 ha0) ?_
    refine r_iload_n C dX8_layDown_14 1 rfl ?_
    obtain ⟨b2, h⟩ := gd_inv h
    refine r_iald C dX8_layDown_15 (isSt_1 ha0) b2 ?_
    refine r_iconst C dX8_layDown_16 ic_m1 ?_
    refine r_icmp_ne 22 C dX8_layDown_17 (by decide) (fun c3 => ?_) (fun c3 => ?_)
    · have h := (ite_inv h).2 c3
      refine r_aload_n C dX8_layDown_22 0 rfl ?_
      refine r_getR C flX8_9 dX8_layDown_23 (isSt_0 ha0) rfl (isSt_r4 ha0) ?_
      refine r_iload_n C dX8_layDown_26 1 rfl ?_
      refine r_iconst C dX8_layDown_27 ic_m1 ?_
      obtain ⟨b4, h⟩ := gd_inv h
      refine r_iast C dX8_layDown_28 (isSt_1 ha0) b4 ?_
      refine r_iconst C dX8_layDown_29 ic_0 ?_
      obtain ⟨h1, h2⟩ := Prod.mk.inj (Option.some.inj h)
      subst h1; subst h2
      exact r_iret C dX8_layDown_30 hr hE
    · have h := (ite_inv h).1 c3
      refine r_iconst C dX8_layDown_20 ic_2 ?_
      obtain ⟨h1, h2⟩ := Prod.mk.inj (Option.some.inj h)
      subst h1; subst h2
      exact r_iret C dX8_layDown_21 hr hE
  · have h := (ite_inv h).2 c1
    refine r_iconst C dX8_layDown_8 ic_1 ?_
    obtain ⟨h1, h2⟩ := Prod.mk.inj (Option.some.inj h)
    subst h1; subst h2
    exact r_iret C dX8_layDown_9 hr hE
def jX8_attempt_108 (n : Nat) (a0 : Nat) (a3 : Nat) (x5 : Int32) (μ : Mu) : Option (Int32 × Mu) := if 2000 ≤ x5 then (some (0, wI μ a0 1 (x5 - 2000))) else (some (1, μ))
set_option maxRecDepth 100000 in
set_option maxHeartbeats 4000000 in
theorem kX8_attempt_108 {Z : ZC} {sh : List Sh} {R : Rf} {r : Int32} {μ' : Mu} (C : CX Z cX8_attempt 6 RX8) (hR : zR Z = rm 5 0 0) (hY : LY sh R) (n : Nat) (a0 : Nat) (a3 : Nat) (ha0 : isSt sh R a0) (ha3 : isSea sh R a3) (x5 : Int32) (μ : Mu) (h : jX8_attempt_108 n a0 a3 x5 μ = some (r, μ')) (hr : (zme Z).sig.returnType = (some .int)) (hE : zEnd Z (0, 0, sh, R) μ' (some (.int r))) : Wm Z (0, 0, sh, R) μ 108 [(0, .ref (wb (zw Z) + a0)), (5, .int x5)] [] := by
  unfold jX8_attempt_108 at h
  refine r_iload C dX8_attempt_108 1 rfl ?_
  refine r_sipush C dX8_attempt_110 sp_2000 ?_
  refine r_icmp_ge 118 C dX8_attempt_113 (by decide) (fun c7 => ?_) (fun c7 => ?_)
  · have h := (ite_inv h).1 c7
    refine r_aload_n C dX8_attempt_118 0 rfl ?_
    refine r_iload C dX8_attempt_119 1 rfl ?_
    refine r_sipush C dX8_attempt_121 sp_2000 ?_
    refine r_isub C dX8_attempt_124 ?_
    refine r_putI C fiX8_42 dX8_attempt_125 (isSt_0 ha0) ?_
    refine r_iconst C dX8_attempt_128 ic_0 ?_
    obtain ⟨h1, h2⟩ := Prod.mk.inj (Option.some.inj h)
    subst h1; subst h2
    exact r_iret C dX8_attempt_129 hr hE
  · have h := (ite_inv h).2 c7
    refine r_iconst C dX8_attempt_116 ic_1 ?_
    obtain ⟨h1, h2⟩ := Prod.mk.inj (Option.some.inj h)
    subst h1; subst h2
    exact r_iret C dX8_attempt_117 hr hE
def fX8_attempt (n : Nat) (a0 : Nat) (y1 : Int64) (a3 : Nat) (μ : Mu) : Option (Int32 × Mu) := if (lg_cmp y1 (-1)) = 0 then (bnd2 (fX8_passHour n a0 a3 μ) fun u19 m20 => some (0, m20)) else (if (lg_cmp y1 0) < 0 then (some (1, μ)) else (if (lg_cmp y1 2100) < 0 then (if 100 ≤ (y1.toInt32) then (if 900 ≤ (y1.toInt32) then (if (y1.toInt32) < 1000 then (jX8_attempt_108 n a0 a3 (y1.toInt32) μ) else (if 1100 ≤ (y1.toInt32) then (jX8_attempt_108 n a0 a3 (y1.toInt32) μ) else (bnd2 (fX8_layDown n a0 ((y1.toInt32) - 1000) a3 μ) fun u10 m11 => some (u10, m11)))) else (bnd2 (fX8_giveTo n a0 (jdiv ((y1.toInt32) - 100) 100) (jrem (y1.toInt32) 100) a3 μ) fun u13 m14 => some (u13, m14))) else (bnd2 (fX8_whisperAt n a0 (y1.toInt32) a3 μ) fun u16 m17 => some (u16, m17))) else (some (1, μ))))
set_option maxRecDepth 100000 in
set_option maxHeartbeats 4000000 in
theorem tX8_attempt {l : Launch} {w : WP} {sh : List Sh} {R : Rf} {μ : Mu} {r : Int32} {μ' : Mu} (hY : LY sh R) (n : Nat) (a0 : Nat) (y1 : Int64) (a3 : Nat) (ha0 : isSt sh R a0) (ha3 : isSea sh R a3) (h : fX8_attempt n a0 y1 a3 μ = some (r, μ')) : CM l w yX8_attempt cX8_attempt 6 (some .int) 5 0 0 sh R [.ref (wb w + a0), .long y1, .ref (wb w + a3), .ref (wb w + 28)] μ (some (.int r)) sh R μ' := by
  refine CM.of (plainFor_of_name pf_X8) (Nat.le_of_ble_eq_true rfl) fun Z C hr _ hR hw hl hE => ?_
  subst hw; subst hl
  have C : CX Z cX8_attempt 6 RX8 := C
  show Wm Z (0, 0, sh, R) μ 0 [(0, .ref (wb (zw Z) + a0)), (1, .long y1), (3, .ref (wb (zw Z) + a3)), (4, .ref (wb (zw Z) + 28))] []
  unfold fX8_attempt at h
  refine r_lload_n C dX8_attempt_0 1 rfl ?_
  refine r_ldc2 C dX8_attempt_1 klX8_127 ?_
  refine r_lcmp C dX8_attempt_4 ?_
  refine r_if_ne 18 C dX8_attempt_5 (by decide) (fun c1 => ?_) (fun c1 => ?_)
  · have h := (ite_inv h).2 c1
    refine r_lload_n C dX8_attempt_18 1 rfl ?_
    refine r_lconst C dX8_attempt_19 lc_0 ?_
    refine r_lcmp C dX8_attempt_20 ?_
    refine r_if_lt 32 C dX8_attempt_21 (by decide) (fun c2 => ?_) (fun c2 => ?_)
    · have h := (ite_inv h).1 c2
      refine r_iconst C dX8_attempt_32 ic_1 ?_
      obtain ⟨h1, h2⟩ := Prod.mk.inj (Option.some.inj h)
      subst h1; subst h2
      exact r_iret C dX8_attempt_33 hr hE
    · have h := (ite_inv h).2 c2
      refine r_lload_n C dX8_attempt_24 1 rfl ?_
      refine r_ldc2 C dX8_attempt_25 klX8_133 ?_
      refine r_lcmp C dX8_attempt_28 ?_
      refine r_if_lt 34 C dX8_attempt_29 (by decide) (fun c3 => ?_) (fun c3 => ?_)
      · have h := (ite_inv h).1 c3
        refine r_lload_n C dX8_attempt_34 1 rfl ?_
        refine r_l2i C dX8_attempt_35 ?_
        refine r_istore [(5, .int (y1.toInt32)), (0, .ref (wb (zw Z) + a0)), (1, .long y1), (3, .ref (wb (zw Z) + a3)), (4, .ref (wb (zw Z) + 28))] C dX8_attempt_36 (by decide) rfl ?_
        refine r_iload C dX8_attempt_38 0 rfl ?_
        refine r_bipush C dX8_attempt_40 bp_100 ?_
        refine r_icmp_ge 53 C dX8_attempt_42 (by decide) (fun c4 => ?_) (fun c4 => ?_)
        · have h := (ite_inv h).1 c4
          refine r_iload C dX8_attempt_53 0 rfl ?_
          refine r_sipush C dX8_attempt_55 sp_900 ?_
          refine r_icmp_ge 80 C dX8_attempt_58 (by decide) (fun c5 => ?_) (fun c5 => ?_)
          · have h := (ite_inv h).1 c5
            refine r_iload C dX8_attempt_80 0 rfl ?_
            refine r_sipush C dX8_attempt_82 sp_1000 ?_
            refine r_icmp_lt 108 C dX8_attempt_85 (by decide) (fun c6 => ?_) (fun c6 => ?_)
            · have h := (ite_inv h).1 c6
              refine r_sub [(0, .ref (wb (zw Z) + a0)), (5, .int (y1.toInt32))] [1, 0] rfl ?_
              exact kX8_attempt_108 C hR hY n a0 a3 ha0 ha3 (y1.toInt32) μ h hr hE
            · have h := (ite_inv h).2 c6
              refine r_iload C dX8_attempt_88 0 rfl ?_
              refine r_sipush C dX8_attempt_90 sp_1100 ?_
              refine r_icmp_ge 108 C dX8_attempt_93 (by decide) (fun c8 => ?_) (fun c8 => ?_)
              · have h := (ite_inv h).1 c8
                refine r_sub [(0, .ref (wb (zw Z) + a0)), (5, .int (y1.toInt32))] [1, 0] rfl ?_
                exact kX8_attempt_108 C hR hY n a0 a3 ha0 ha3 (y1.toInt32) μ h hr hE
              · have h := (ite_inv h).2 c8
                refine r_aload_n C dX8_attempt_96 1 rfl ?_
                refine r_iload C dX8_attempt_97 0 rfl ?_
                refine r_sipush C dX8_attempt_99 sp_1000 ?_
                refine r_isub C dX8_attempt_102 ?_
                refine r_aload_n C dX8_attempt_103 3 rfl ?_
                obtain ⟨u10, m11, e9, h⟩ := bnd2_inv h
                refine r_cVi (As := [.int ((y1.toInt32) - 1000), .ref (wb (zw Z) + a3)]) (rest := []) C hR mlX8_143 dX8_attempt_104 (tX8_layDown hY n a0 ((y1.toInt32) - 1000) a3 ha0 ha3 e9) rfl rfl (isSt_0 ha0) rfl (nle rfl) (nle rfl) (nle rfl) ?_
                obtain ⟨h1, h2⟩ := Prod.mk.inj (Option.some.inj h)
                subst h1; subst h2
                exact r_iret C dX8_attempt_107 hr hE
          · have h := (ite_inv h).2 c5
            refine r_aload_n C dX8_attempt_61 1 rfl ?_
            refine r_iload C dX8_attempt_62 0 rfl ?_
            refine r_bipush C dX8_attempt_64 bp_100 ?_
            refine r_isub C dX8_attempt_66 ?_
            refine r_bipush C dX8_attempt_67 bp_100 ?_
            refine r_idiv C dX8_attempt_69 (by decide) ?_
            refine r_iload C dX8_attempt_70 0 rfl ?_
            refine r_bipush C dX8_attempt_72 bp_100 ?_
            refine r_irem C dX8_attempt_74 (by decide) ?_
            refine r_aload_n C dX8_attempt_75 3 rfl ?_
            obtain ⟨u13, m14, e12, h⟩ := bnd2_inv h
            refine r_cVi (As := [.int (jdiv ((y1.toInt32) - 100) 100), .int (jrem (y1.toInt32) 100), .ref (wb (zw Z) + a3)]) (rest := []) C hR mlX8_139 dX8_attempt_76 (tX8_giveTo hY n a0 (jdiv ((y1.toInt32) - 100) 100) (jrem (y1.toInt32) 100) a3 ha0 ha3 e12) rfl rfl (isSt_0 ha0) rfl (nle rfl) (nle rfl) (nle rfl) ?_
            obtain ⟨h1, h2⟩ := Prod.mk.inj (Option.some.inj h)
            subst h1; subst h2
            exact r_iret C dX8_attempt_79 hr hE
        · have h := (ite_inv h).2 c4
          refine r_aload_n C dX8_attempt_45 1 rfl ?_
          refine r_iload C dX8_attempt_46 0 rfl ?_
          refine r_aload_n C dX8_attempt_48 3 rfl ?_
          obtain ⟨u16, m17, e15, h⟩ := bnd2_inv h
          refine r_cVi (As := [.int (y1.toInt32), .ref (wb (zw Z) + a3)]) (rest := []) C hR mlX8_135 dX8_attempt_49 (tX8_whisperAt hY n a0 (y1.toInt32) a3 ha0 ha3 e15) rfl rfl (isSt_0 ha0) rfl (nle rfl) (nle rfl) (nle rfl) ?_
          obtain ⟨h1, h2⟩ := Prod.mk.inj (Option.some.inj h)
          subst h1; subst h2
          exact r_iret C dX8_attempt_52 hr hE
      · have h := (ite_inv h).2 c3
        refine r_iconst C dX8_attempt_32 ic_1 ?_
        obtain ⟨h1, h2⟩ := Prod.mk.inj (Option.some.inj h)
        subst h1; subst h2
        exact r_iret C dX8_attempt_33 hr hE
  · have h := (ite_inv h).1 c1
    refine r_aload_n C dX8_attempt_8 0 rfl ?_
    refine r_aload_n C dX8_attempt_9 2 rfl ?_
    refine r_aload C dX8_attempt_10 3 rfl ?_
    obtain ⟨u19, m20, e18, h⟩ := bnd2_inv h
    refine r_cVi (As := [.ref (wb (zw Z) + a3), .ref (wb (zw Z) + 28)]) (rest := []) C hR mlX8_129 dX8_attempt_12 (tX8_passHour hY n a0 a3 ha0 ha3 e18) rfl rfl (isSt_0 ha0) rfl (nle rfl) (nle rfl) (nle rfl) ?_
    refine r_pop C dX8_attempt_15 rfl ?_
    refine r_iconst C dX8_attempt_16 ic_0 ?_
    obtain ⟨h1, h2⟩ := Prod.mk.inj (Option.some.inj h)
    subst h1; subst h2
    exact r_iret C dX8_attempt_17 hr hE
def sX8_attemptAll_3 (n : Nat) (a0 : Nat) (a1 : Nat) (a2 : Nat) : Int32 × Mu → Option ((Int32 × Mu) ⊕ ((Int32 × Mu) ⊕ (Mu))) := fun q => match q with | (x4, μ) => if (rI μ a1 1) ≤ x4 then (some (.inr (.inr μ))) else (gd (ib x4 40) (bnd2 (fX8_attempt n a0 (rL μ (a1 + 1) (ix x4)) a2 μ) fun u4 m5 => if u4 = 0 then (some (.inl (x4 + 1, m5))) else (some (.inr (.inl (x4, m5))))))
set_option maxRecDepth 100000 in
set_option maxHeartbeats 4000000 in
theorem lX8_attemptAll_3 {Z : ZC} {sh : List Sh} {R : Rf} {o : (Int32 × Mu) ⊕ ((Int32 × Mu) ⊕ (Mu))} (C : CX Z cX8_attemptAll 5 RX8) (hR : zR Z = rm 6 0 0) (hY : LY sh R) (n : Nat) (a0 : Nat) (a1 : Nat) (a2 : Nat) (ha0 : isSt sh R a0) (ha1 : isTr sh R a1) (ha2 : isSea sh R a2)  (x4 : Int32) (μ : Mu) (h : sX8_attemptAll_3 n a0 a1 a2 (x4, μ) = some o) (kin : ∀ (x4 : Int32) (μ : Mu), o = .inl (x4, μ) → Wm Z (0, 0, sh, R) μ 3 [(0, .ref (wb (zw Z) + a0)), (1, .ref (wb (zw Z) + a1)), (2, .ref (wb (zw Z) + a2)), (3, .ref (wb (zw Z) + 28)), (4, .int x4)] []) (kex0 : ∀ (x4 : Int32) (μ : Mu), o = .inr (.inl (x4, μ)) → Wm Z (0, 0, sh, R) μ 28 [(4, .int x4)] []) (kex1 : ∀ (μ : Mu), o = .inr (.inr μ) → Wm Z (0, 0, sh, R) μ 37 [(1, .ref (wb (zw Z) + a1))] []) : Wm Z (0, 0, sh, R) μ 3 [(0, .ref (wb (zw Z) + a0)), (1, .ref (wb (zw Z) + a1)), (2, .ref (wb (zw Z) + a2)), (3, .ref (wb (zw Z) + 28)), (4, .int x4)] [] := by
  unfold sX8_attemptAll_3 at h
  refine r_iload C dX8_attemptAll_3 4 rfl ?_
  refine r_aload_n C dX8_attemptAll_5 1 rfl ?_
  refine r_getI C flX8_149 dX8_attemptAll_6 (isTr_0 ha1) rfl ?_
  refine r_icmp_ge 37 C dX8_attemptAll_9 (by decide) (fun c1 => ?_) (fun c1 => ?_)
  · have h := (ite_inv h).1 c1
    refine r_sub [(1, .ref (wb (zw Z) + a1))] [1] rfl ?_
    exact kex1 μ (Option.some.inj h).symm
  · have h := (ite_inv h).2 c1
    refine r_aload_n C dX8_attemptAll_12 0 rfl ?_
    refine r_aload_n C dX8_attemptAll_13 1 rfl ?_
    refine r_getR C flX8_154 dX8_attemptAll_14 (isTr_0 ha1) rfl (isTr_r0 ha1) ?_
    refine r_iload C dX8_attemptAll_17 4 rfl ?_
    obtain ⟨b2, h⟩ := gd_inv h
    refine r_lald C dX8_attemptAll_19 (isTr_1 ha1) b2 ?_
    refine r_aload_n C dX8_attemptAll_20 2 rfl ?_
    refine r_aload_n C dX8_attemptAll_21 3 rfl ?_
    obtain ⟨u4, m5, e3, h⟩ := bnd2_inv h
    refine r_cVi (As := [.long (rL μ (a1 + 1) (ix x4)), .ref (wb (zw Z) + a2), .ref (wb (zw Z) + 28)]) (rest := []) C hR mlX8_158 dX8_attemptAll_22 (tX8_attempt hY n a0 (rL μ (a1 + 1) (ix x4)) a2 ha0 ha2 e3) rfl rfl (isSt_0 ha0) rfl (nle rfl) (nle rfl) (nle rfl) ?_
    refine r_if_eq 31 C dX8_attemptAll_25 (by decide) (fun c6 => ?_) (fun c6 => ?_)
    · have h := (ite_inv h).1 c6
      refine r_iinc [(4, .int (x4 + 1)), (0, .ref (wb (zw Z) + a0)), (1, .ref (wb (zw Z) + a1)), (2, .ref (wb (zw Z) + a2)), (3, .ref (wb (zw Z) + 28))] C dX8_attemptAll_31 4 rfl (in_1 _) (by decide) rfl ?_
      refine r_goto 3 C dX8_attemptAll_34 (by decide) ?_
      refine r_sub [(0, .ref (wb (zw Z) + a0)), (1, .ref (wb (zw Z) + a1)), (2, .ref (wb (zw Z) + a2)), (3, .ref (wb (zw Z) + 28)), (4, .int (x4 + 1))] [1, 2, 3, 4, 0] rfl ?_
      exact kin (x4 + 1) m5 (Option.some.inj h).symm
    · have h := (ite_inv h).2 c6
      refine r_sub [(4, .int x4)] [4] rfl ?_
      exact kex0 x4 m5 (Option.some.inj h).symm
def fX8_attemptAll (n : Nat) (a0 : Nat) (a1 : Nat) (a2 : Nat) (μ : Mu) : Option (Int32 × Mu) := bnd (lp n (sX8_attemptAll_3 n a0 a1 a2) (0, μ)) fun q => match q with | .inl (u7, m8) => (some (u7, m8)) | .inr m9 => (some (rI m9 a1 1, m9))
set_option maxRecDepth 100000 in
set_option maxHeartbeats 4000000 in
theorem tX8_attemptAll {l : Launch} {w : WP} {sh : List Sh} {R : Rf} {μ : Mu} {r : Int32} {μ' : Mu} (hY : LY sh R) (n : Nat) (a0 : Nat) (a1 : Nat) (a2 : Nat) (ha0 : isSt sh R a0) (ha1 : isTr sh R a1) (ha2 : isSea sh R a2) (h : fX8_attemptAll n a0 a1 a2 μ = some (r, μ')) : CM l w yX8_attemptAll cX8_attemptAll 5 (some .int) 6 0 0 sh R [.ref (wb w + a0), .ref (wb w + a1), .ref (wb w + a2), .ref (wb w + 28)] μ (some (.int r)) sh R μ' := by
  refine CM.of (plainFor_of_name pf_X8) (Nat.le_of_ble_eq_true rfl) fun Z C hr _ hR hw hl hE => ?_
  subst hw; subst hl
  have C : CX Z cX8_attemptAll 5 RX8 := C
  show Wm Z (0, 0, sh, R) μ 0 [(0, .ref (wb (zw Z) + a0)), (1, .ref (wb (zw Z) + a1)), (2, .ref (wb (zw Z) + a2)), (3, .ref (wb (zw Z) + 28))] []
  unfold fX8_attemptAll at h
  refine r_iconst C dX8_attemptAll_0 ic_0 ?_
  refine r_istore [(4, .int 0), (0, .ref (wb (zw Z) + a0)), (1, .ref (wb (zw Z) + a1)), (2, .ref (wb (zw Z) + a2)), (3, .ref (wb (zw Z) + 28))] C dX8_attemptAll_1 (by decide) rfl ?_
  refine r_sub [(0, .ref (wb (zw Z) + a0)), (1, .ref (wb (zw Z) + a1)), (2, .ref (wb (zw Z) + a2)), (3, .ref (wb (zw Z) + 28)), (4, .int 0)] [1, 2, 3, 4, 0] rfl ?_
  obtain ⟨q11, e10, h⟩ := bnd_inv h
  refine lp_all (sX8_attemptAll_3 n a0 a1 a2) (fun q => match q with | (z4, ν) => Wm Z (0, 0, sh, R) (ν) 3 [(0, .ref (wb (zw Z) + a0)), (1, .ref (wb (zw Z) + a1)), (2, .ref (wb (zw Z) + a2)), (3, .ref (wb (zw Z) + 28)), (4, .int z4)] []) (fun q => match q with | .inl (z4, ν) => Wm Z (0, 0, sh, R) (ν) 28 [(4, .int z4)] [] | .inr (ν) => Wm Z (0, 0, sh, R) (ν) 37 [(1, .ref (wb (zw Z) + a1))] []) (fun q o h kin kex => ?_) n (0, μ) q11 e10 ?_
  · obtain ⟨z4, ν⟩ := q; exact lX8_attemptAll_3 C hR hY n a0 a1 a2 ha0 ha1 ha2  z4 ν h (fun z4 ν e => kin (z4, ν) e) (fun z4 ν e => kex (.inl (z4, ν)) e) (fun ν e => kex (.inr (ν)) e)
  rcases q11 with ⟨u7, m8⟩ | m9
  · show Wm Z (0, 0, sh, R) m8 28 [(4, .int u7)] []
    refine r_iload C dX8_attemptAll_28 0 rfl ?_
    obtain ⟨h1, h2⟩ := Prod.mk.inj (Option.some.inj h)
    subst h1; subst h2
    exact r_iret C dX8_attemptAll_30 hr hE
  · show Wm Z (0, 0, sh, R) m9 37 [(1, .ref (wb (zw Z) + a1))] []
    refine r_aload_n C dX8_attemptAll_37 0 rfl ?_
    refine r_getI C flX8_149 dX8_attemptAll_38 (isTr_0 ha1) rfl ?_
    obtain ⟨h1, h2⟩ := Prod.mk.inj (Option.some.inj h)
    subst h1; subst h2
    exact r_iret C dX8_attemptAll_41 hr hE
def fX8_draw (n : Nat) (a0 : Nat) (μ : Mu) : Option (Int32 × Mu) := some (ushr (rI (wI μ a0 2 ((1103515245 * (rI μ a0 2)) + 12345)) a0 2) 16, wI μ a0 2 ((1103515245 * (rI μ a0 2)) + 12345))
set_option maxRecDepth 100000 in
set_option maxHeartbeats 4000000 in
theorem tX8_draw {l : Launch} {w : WP} {sh : List Sh} {R : Rf} {μ : Mu} {r : Int32} {μ' : Mu} (hY : LY sh R) (n : Nat) (a0 : Nat) (ha0 : isSt sh R a0) (h : fX8_draw n a0 μ = some (r, μ')) : CM l w yX8_draw cX8_draw 1 (some .int) 0 0 0 sh R [.ref (wb w + a0)] μ (some (.int r)) sh R μ' := by
  refine CM.of (plainFor_of_name pf_X8) (Nat.le_of_ble_eq_true rfl) fun Z C hr _ hR hw hl hE => ?_
  subst hw; subst hl
  have C : CX Z cX8_draw 1 RX8 := C
  show Wm Z (0, 0, sh, R) μ 0 [(0, .ref (wb (zw Z) + a0))] []
  unfold fX8_draw at h
  refine r_aload_n C dX8_draw_0 0 rfl ?_
  refine r_ldc C dX8_draw_1 kkX8_166 ?_
  refine r_aload_n C dX8_draw_3 0 rfl ?_
  refine r_getI C flX8_45 dX8_draw_4 (isSt_0 ha0) rfl ?_
  refine r_imul C dX8_draw_7 ?_
  refine r_sipush C dX8_draw_8 sp_12345 ?_
  refine r_iadd C dX8_draw_11 ?_
  refine r_putI C fiX8_45 dX8_draw_12 (isSt_0 ha0) ?_
  refine r_aload_n C dX8_draw_15 0 rfl ?_
  refine r_getI C flX8_45 dX8_draw_16 (isSt_0 ha0) rfl ?_
  refine r_bipush C dX8_draw_19 bp_16 ?_
  refine r_iushr C dX8_draw_21 ?_
  obtain ⟨h1, h2⟩ := Prod.mk.inj (Option.some.inj h)
  subst h1; subst h2
  exact r_iret C dX8_draw_22 hr hE
def fX8_drawDeed (n : Nat) (a0 : Nat) (a1 : Nat) (μ : Mu) : Option (Int32 × Mu) := bnd2 (fX8_draw n a0 μ) fun u2 m3 => if (jrem u2 5) = 2 then (bnd2 (fX8_draw n a0 m3) fun u6 m7 => gd (decide (¬ (jmax 1 (rI m7 a1 0)) = 0)) (bnd2 (fX8_attempt n a0 ((jrem u6 (jmax 1 (rI m7 a1 0))).toInt64) a1 m7) fun u10 m11 => if u10 = 0 then (some (1, m11)) else (some (0, m11)))) else (if (jrem u2 5) = 3 then (if (rI m3 a1 3) = 0 then (some (0, m3)) else (if (rI m3 a1 2) = 0 then (some (0, m3)) else (bnd2 (fX8_draw n a0 m3) fun u17 m18 => gd (decide (¬ (rI m18 a1 3) = 0)) (bnd2 (fX8_draw n a0 m18) fun u21 m22 => gd (decide (¬ (rI m22 a1 2) = 0)) (bnd2 (fX8_attempt n a0 (((100 + ((jrem u17 (rI m18 a1 3)) * 100)) + (jrem u21 (rI m22 a1 2))).toInt64) a1 m22) fun u25 m26 => if u25 = 0 then (some (1, m26)) else (some (0, m26))))))) else (if (jrem u2 5) = 4 then (bnd2 (fX8_draw n a0 m3) fun u30 m31 => bnd2 (fX8_attempt n a0 ((2000 + (jrem u30 6)).toInt64) a1 m31) fun u33 m34 => if u33 = 0 then (some (1, m34)) else (some (0, m34))) else (bnd2 (fX8_attempt n a0 (-1) a1 m3) fun u37 m38 => if u37 = 0 then (some (1, m38)) else (some (0, m38)))))
set_option maxRecDepth 100000 in
set_option maxHeartbeats 4000000 in
theorem tX8_drawDeed {l : Launch} {w : WP} {sh : List Sh} {R : Rf} {μ : Mu} {r : Int32} {μ' : Mu} (hY : LY sh R) (n : Nat) (a0 : Nat) (a1 : Nat) (ha0 : isSt sh R a0) (ha1 : isSea sh R a1) (h : fX8_drawDeed n a0 a1 μ = some (r, μ')) : CM l w yX8_drawDeed cX8_drawDeed 5 (some .boolean) 6 0 0 sh R [.ref (wb w + a0), .ref (wb w + a1), .ref (wb w + 28)] μ (some (.int r)) sh R μ' := by
  refine CM.of (plainFor_of_name pf_X8) (Nat.le_of_ble_eq_true rfl) fun Z C hr _ hR hw hl hE => ?_
  subst hw; subst hl
  have C : CX Z cX8_drawDeed 5 RX8 := C
  show Wm Z (0, 0, sh, R) μ 0 [(0, .ref (wb (zw Z) + a0)), (1, .ref (wb (zw Z) + a1)), (2, .ref (wb (zw Z) + 28))] []
  unfold fX8_drawDeed at h
  refine r_aload_n C dX8_drawDeed_0 0 rfl ?_
  obtain ⟨u2, m3, e1, h⟩ := bnd2_inv h
  refine r_cVi (As := []) (rest := []) C hR mlX8_162 dX8_drawDeed_1 (tX8_draw hY n a0 ha0 e1) rfl rfl (isSt_0 ha0) rfl (nle rfl) (nle rfl) (nle rfl) ?_
  refine r_iconst C dX8_drawDeed_4 ic_5 ?_
  refine r_irem C dX8_drawDeed_5 (by decide) ?_
  by_cases c4 : (jrem u2 5) = 2
  · have h := (ite_inv h).1 c4
    refine r_tabIn 32 C dX8_drawDeed_6 (by rw [c4, ti_2]; decide) (by rw [c4, ti_2]; decide) (by rw [c4, ti_2]; rfl) (by decide) ?_
    refine r_aload_n C dX8_drawDeed_32 0 rfl ?_
    refine r_aload_n C dX8_drawDeed_33 0 rfl ?_
    obtain ⟨u6, m7, e5, h⟩ := bnd2_inv h
    refine r_cVi (As := []) (rest := [.ref (wb (zw Z) + a0)]) C hR mlX8_162 dX8_drawDeed_34 (tX8_draw hY n a0 ha0 e5) rfl rfl (isSt_0 ha0) rfl (nle rfl) (nle rfl) (nle rfl) ?_
    refine r_iconst C dX8_drawDeed_37 ic_1 ?_
    refine r_aload_n C dX8_drawDeed_38 1 rfl ?_
    refine r_getI C flX8_146 dX8_drawDeed_39 (isSea_0 ha1) rfl ?_
    refine r_cSi (As := [.int 1, .int (rI m7 a1 0)]) (rest := [.int u6, .ref (wb (zw Z) + a0)]) C hR mlX8_76 dX8_drawDeed_42 (t_jmax hY) rfl rfl (nle rfl) (nle rfl) (nle rfl) ?_
    obtain ⟨b8, h⟩ := gd_inv h
    refine r_irem C dX8_drawDeed_45 (of_decide_eq_true b8) ?_
    refine r_i2l C dX8_drawDeed_46 ?_
    refine r_aload_n C dX8_drawDeed_47 1 rfl ?_
    refine r_aload_n C dX8_drawDeed_48 2 rfl ?_
    obtain ⟨u10, m11, e9, h⟩ := bnd2_inv h
    refine r_cVi (As := [.long ((jrem u6 (jmax 1 (rI m7 a1 0))).toInt64), .ref (wb (zw Z) + a1), .ref (wb (zw Z) + 28)]) (rest := []) C hR mlX8_158 dX8_drawDeed_49 (tX8_attempt hY n a0 ((jrem u6 (jmax 1 (rI m7 a1 0))).toInt64) a1 ha0 ha1 e9) rfl rfl (isSt_0 ha0) rfl (nle rfl) (nle rfl) (nle rfl) ?_
    refine r_if_ne 59 C dX8_drawDeed_52 (by decide) (fun c12 => ?_) (fun c12 => ?_)
    · have h := (ite_inv h).2 c12
      refine r_iconst C dX8_drawDeed_59 ic_0 ?_
      obtain ⟨h1, h2⟩ := Prod.mk.inj (Option.some.inj h)
      subst h1; subst h2
      exact r_zret C dX8_drawDeed_60 hr rfl hE
    · have h := (ite_inv h).1 c12
      refine r_iconst C dX8_drawDeed_55 ic_1 ?_
      refine r_goto 60 C dX8_drawDeed_56 (by decide) ?_
      obtain ⟨h1, h2⟩ := Prod.mk.inj (Option.some.inj h)
      subst h1; subst h2
      exact r_zret C dX8_drawDeed_60 hr rfl hE
  have h := (ite_inv h).2 c4
  by_cases c13 : (jrem u2 5) = 3
  · have h := (ite_inv h).1 c13
    refine r_tabIn 61 C dX8_drawDeed_6 (by rw [c13, ti_3]; decide) (by rw [c13, ti_3]; decide) (by rw [c13, ti_3]; rfl) (by decide) ?_
    refine r_aload_n C dX8_drawDeed_61 1 rfl ?_
    refine r_getI C flX8_121 dX8_drawDeed_62 (isSea_0 ha1) rfl ?_
    refine r_if_eq 75 C dX8_drawDeed_65 (by decide) (fun c14 => ?_) (fun c14 => ?_)
    · have h := (ite_inv h).1 c14
      refine r_iconst C dX8_drawDeed_75 ic_0 ?_
      obtain ⟨h1, h2⟩ := Prod.mk.inj (Option.some.inj h)
      subst h1; subst h2
      exact r_zret C dX8_drawDeed_76 hr rfl hE
    · have h := (ite_inv h).2 c14
      refine r_aload_n C dX8_drawDeed_68 1 rfl ?_
      refine r_getI C flX8_86 dX8_drawDeed_69 (isSea_0 ha1) rfl ?_
      refine r_if_ne 77 C dX8_drawDeed_72 (by decide) (fun c15 => ?_) (fun c15 => ?_)
      · have h := (ite_inv h).2 c15
        refine r_aload_n C dX8_drawDeed_77 0 rfl ?_
        obtain ⟨u17, m18, e16, h⟩ := bnd2_inv h
        refine r_cVi (As := []) (rest := []) C hR mlX8_162 dX8_drawDeed_78 (tX8_draw hY n a0 ha0 e16) rfl rfl (isSt_0 ha0) rfl (nle rfl) (nle rfl) (nle rfl) ?_
        refine r_aload_n C dX8_drawDeed_81 1 rfl ?_
        refine r_getI C flX8_121 dX8_drawDeed_82 (isSea_0 ha1) rfl ?_
        obtain ⟨b19, h⟩ := gd_inv h
        refine r_irem C dX8_drawDeed_85 (of_decide_eq_true b19) ?_
        refine r_istore_n [(3, .int (jrem u17 (rI m18 a1 3))), (0, .ref (wb (zw Z) + a0)), (1, .ref (wb (zw Z) + a1)), (2, .ref (wb (zw Z) + 28))] C dX8_drawDeed_86 rfl (by decide) rfl ?_
        refine r_aload_n C dX8_drawDeed_87 1 rfl ?_
        obtain ⟨u21, m22, e20, h⟩ := bnd2_inv h
        refine r_cVi (As := []) (rest := []) C hR mlX8_162 dX8_drawDeed_88 (tX8_draw hY n a0 ha0 e20) rfl rfl (isSt_0 ha0) rfl (nle rfl) (nle rfl) (nle rfl) ?_
        refine r_aload_n C dX8_drawDeed_91 2 rfl ?_
        refine r_getI C flX8_86 dX8_drawDeed_92 (isSea_0 ha1) rfl ?_
        obtain ⟨b23, h⟩ := gd_inv h
        refine r_irem C dX8_drawDeed_95 (of_decide_eq_true b23) ?_
        refine r_istore [(4, .int (jrem u21 (rI m22 a1 2))), (3, .int (jrem u17 (rI m18 a1 3))), (0, .ref (wb (zw Z) + a0)), (1, .ref (wb (zw Z) + a1)), (2, .ref (wb (zw Z) + 28))] C dX8_drawDeed_96 (by decide) rfl ?_
        refine r_aload_n C dX8_drawDeed_98 2 rfl ?_
        refine r_bipush C dX8_drawDeed_99 bp_100 ?_
        refine r_iload_n C dX8_drawDeed_101 1 rfl ?_
        refine r_bipush C dX8_drawDeed_102 bp_100 ?_
        refine r_imul C dX8_drawDeed_104 ?_
        refine r_iadd C dX8_drawDeed_105 ?_
        refine r_iload C dX8_drawDeed_106 0 rfl ?_
        refine r_iadd C dX8_drawDeed_108 ?_
        refine r_i2l C dX8_drawDeed_109 ?_
        refine r_aload_n C dX8_drawDeed_110 3 rfl ?_
        refine r_aload_n C dX8_drawDeed_111 4 rfl ?_
        obtain ⟨u25, m26, e24, h⟩ := bnd2_inv h
        refine r_cVi (As := [.long (((100 + ((jrem u17 (rI m18 a1 3)) * 100)) + (jrem u21 (rI m22 a1 2))).toInt64), .ref (wb (zw Z) + a1), .ref (wb (zw Z) + 28)]) (rest := []) C hR mlX8_158 dX8_drawDeed_112 (tX8_attempt hY n a0 (((100 + ((jrem u17 (rI m18 a1 3)) * 100)) + (jrem u21 (rI m22 a1 2))).toInt64) a1 ha0 ha1 e24) rfl rfl (isSt_0 ha0) rfl (nle rfl) (nle rfl) (nle rfl) ?_
        refine r_if_ne 122 C dX8_drawDeed_115 (by decide) (fun c27 => ?_) (fun c27 => ?_)
        · have h := (ite_inv h).2 c27
          refine r_iconst C dX8_drawDeed_122 ic_0 ?_
          obtain ⟨h1, h2⟩ := Prod.mk.inj (Option.some.inj h)
          subst h1; subst h2
          exact r_zret C dX8_drawDeed_123 hr rfl hE
        · have h := (ite_inv h).1 c27
          refine r_iconst C dX8_drawDeed_118 ic_1 ?_
          refine r_goto 123 C dX8_drawDeed_119 (by decide) ?_
          obtain ⟨h1, h2⟩ := Prod.mk.inj (Option.some.inj h)
          subst h1; subst h2
          exact r_zret C dX8_drawDeed_123 hr rfl hE
      · have h := (ite_inv h).1 c15
        refine r_iconst C dX8_drawDeed_75 ic_0 ?_
        obtain ⟨h1, h2⟩ := Prod.mk.inj (Option.some.inj h)
        subst h1; subst h2
        exact r_zret C dX8_drawDeed_76 hr rfl hE
  have h := (ite_inv h).2 c13
  by_cases c28 : (jrem u2 5) = 4
  · have h := (ite_inv h).1 c28
    refine r_tabIn 124 C dX8_drawDeed_6 (by rw [c28, ti_4]; decide) (by rw [c28, ti_4]; decide) (by rw [c28, ti_4]; rfl) (by decide) ?_
    refine r_aload_n C dX8_drawDeed_124 0 rfl ?_
    refine r_sipush C dX8_drawDeed_125 sp_2000 ?_
    refine r_aload_n C dX8_drawDeed_128 0 rfl ?_
    obtain ⟨u30, m31, e29, h⟩ := bnd2_inv h
    refine r_cVi (As := []) (rest := [.int 2000, .ref (wb (zw Z) + a0)]) C hR mlX8_162 dX8_drawDeed_129 (tX8_draw hY n a0 ha0 e29) rfl rfl (isSt_0 ha0) rfl (nle rfl) (nle rfl) (nle rfl) ?_
    refine r_bipush C dX8_drawDeed_132 bp_6 ?_
    refine r_irem C dX8_drawDeed_134 (by decide) ?_
    refine r_iadd C dX8_drawDeed_135 ?_
    refine r_i2l C dX8_drawDeed_136 ?_
    refine r_aload_n C dX8_drawDeed_137 1 rfl ?_
    refine r_aload_n C dX8_drawDeed_138 2 rfl ?_
    obtain ⟨u33, m34, e32, h⟩ := bnd2_inv h
    refine r_cVi (As := [.long ((2000 + (jrem u30 6)).toInt64), .ref (wb (zw Z) + a1), .ref (wb (zw Z) + 28)]) (rest := []) C hR mlX8_158 dX8_drawDeed_139 (tX8_attempt hY n a0 ((2000 + (jrem u30 6)).toInt64) a1 ha0 ha1 e32) rfl rfl (isSt_0 ha0) rfl (nle rfl) (nle rfl) (nle rfl) ?_
    refine r_if_ne 149 C dX8_drawDeed_142 (by decide) (fun c35 => ?_) (fun c35 => ?_)
    · have h := (ite_inv h).2 c35
      refine r_iconst C dX8_drawDeed_149 ic_0 ?_
      obtain ⟨h1, h2⟩ := Prod.mk.inj (Option.some.inj h)
      subst h1; subst h2
      exact r_zret C dX8_drawDeed_150 hr rfl hE
    · have h := (ite_inv h).1 c35
      refine r_iconst C dX8_drawDeed_145 ic_1 ?_
      refine r_goto 150 C dX8_drawDeed_146 (by decide) ?_
      obtain ⟨h1, h2⟩ := Prod.mk.inj (Option.some.inj h)
      subst h1; subst h2
      exact r_zret C dX8_drawDeed_150 hr rfl hE
  have h := (ite_inv h).2 c28
  suffices hj : Wm Z (0, 0, sh, R) m3 151 [(0, .ref (wb (zw Z) + a0)), (1, .ref (wb (zw Z) + a1)), (2, .ref (wb (zw Z) + 28))] [] by
    have q0 := tne c4 ti_2
    have q1 := tne c13 ti_3
    have q2 := tne c28 ti_4
    exact r_tabOut 151 C dX8_drawDeed_6 (by omega) (by decide) hj
  refine r_aload_n C dX8_drawDeed_151 0 rfl ?_
  refine r_ldc2 C dX8_drawDeed_152 klX8_127 ?_
  refine r_aload_n C dX8_drawDeed_155 1 rfl ?_
  refine r_aload_n C dX8_drawDeed_156 2 rfl ?_
  obtain ⟨u37, m38, e36, h⟩ := bnd2_inv h
  refine r_cVi (As := [.long (-1), .ref (wb (zw Z) + a1), .ref (wb (zw Z) + 28)]) (rest := []) C hR mlX8_158 dX8_drawDeed_157 (tX8_attempt hY n a0 (-1) a1 ha0 ha1 e36) rfl rfl (isSt_0 ha0) rfl (nle rfl) (nle rfl) (nle rfl) ?_
  refine r_if_ne 167 C dX8_drawDeed_160 (by decide) (fun c39 => ?_) (fun c39 => ?_)
  · have h := (ite_inv h).2 c39
    refine r_iconst C dX8_drawDeed_167 ic_0 ?_
    obtain ⟨h1, h2⟩ := Prod.mk.inj (Option.some.inj h)
    subst h1; subst h2
    exact r_zret C dX8_drawDeed_168 hr rfl hE
  · have h := (ite_inv h).1 c39
    refine r_iconst C dX8_drawDeed_163 ic_1 ?_
    refine r_goto 168 C dX8_drawDeed_164 (by decide) ?_
    obtain ⟨h1, h2⟩ := Prod.mk.inj (Option.some.inj h)
    subst h1; subst h2
    exact r_zret C dX8_drawDeed_168 hr rfl hE
def sX8_shellsOf_5 (n : Nat) (a0 : Nat) (a1 : Nat) (x2 : Int32) (μ : Mu) : Int32 × Int32 → Option ((Int32 × Int32) ⊕ (Int32)) := fun q => match q with | (x3, x4) => if (rI μ a1 3) ≤ x4 then (some (.inr x3)) else (gd (ib x4 8) (if (rI μ (a0 + 1) (ix x4)) = x2 then (some (.inl (x3 ||| (shl 1 x4), x4 + 1))) else (some (.inl (x3, x4 + 1)))))
set_option maxRecDepth 100000 in
set_option maxHeartbeats 4000000 in
theorem lX8_shellsOf_5 {Z : ZC} {sh : List Sh} {R : Rf} {o : (Int32 × Int32) ⊕ (Int32)} (C : CX Z cX8_shellsOf 5 RX8) (hR : zR Z = rm 0 0 0) (hY : LY sh R) (n : Nat) (a0 : Nat) (a1 : Nat) (ha0 : isSt sh R a0) (ha1 : isSea sh R a1) (x2 : Int32) (μ : Mu) (x3 : Int32) (x4 : Int32) (h : sX8_shellsOf_5 n a0 a1 x2 μ (x3, x4) = some o) (kin : ∀ (x3 : Int32) (x4 : Int32), o = .inl (x3, x4) → Wm Z (0, 0, sh, R) μ 5 [(0, .ref (wb (zw Z) + a0)), (1, .ref (wb (zw Z) + a1)), (2, .int x2), (3, .int x3), (4, .int x4)] []) (kex0 : ∀ (x3 : Int32), o = .inr x3 → Wm Z (0, 0, sh, R) μ 38 [(3, .int x3)] []) : Wm Z (0, 0, sh, R) μ 5 [(0, .ref (wb (zw Z) + a0)), (1, .ref (wb (zw Z) + a1)), (2, .int x2), (3, .int x3), (4, .int x4)] [] := by
  unfold sX8_shellsOf_5 at h
  refine r_iload C dX8_shellsOf_5 4 rfl ?_
  refine r_aload_n C dX8_shellsOf_7 1 rfl ?_
  refine r_getI C flX8_121 dX8_shellsOf_8 (isSea_0 ha1) rfl ?_
  refine r_icmp_ge 38 C dX8_shellsOf_11 (by decide) (fun c1 => ?_) (fun c1 => ?_)
  · have h := (ite_inv h).1 c1
    refine r_sub [(3, .int x3)] [3] rfl ?_
    exact kex0 x3 (Option.some.inj h).symm
  · have h := (ite_inv h).2 c1
    refine r_aload_n C dX8_shellsOf_14 0 rfl ?_
    refine r_getR C flX8_9 dX8_shellsOf_15 (isSt_0 ha0) rfl (isSt_r4 ha0) ?_
    refine r_iload C dX8_shellsOf_18 4 rfl ?_
    obtain ⟨b2, h⟩ := gd_inv h
    refine r_iald C dX8_shellsOf_20 (isSt_1 ha0) b2 ?_
    refine r_iload_n C dX8_shellsOf_21 2 rfl ?_
    refine r_icmp_ne 32 C dX8_shellsOf_22 (by decide) (fun c3 => ?_) (fun c3 => ?_)
    · have h := (ite_inv h).2 c3
      refine r_iinc [(4, .int (x4 + 1)), (0, .ref (wb (zw Z) + a0)), (1, .ref (wb (zw Z) + a1)), (2, .int x2), (3, .int x3)] C dX8_shellsOf_32 4 rfl (in_1 _) (by decide) rfl ?_
      refine r_goto 5 C dX8_shellsOf_35 (by decide) ?_
      refine r_sub [(0, .ref (wb (zw Z) + a0)), (1, .ref (wb (zw Z) + a1)), (2, .int x2), (3, .int x3), (4, .int (x4 + 1))] [1, 2, 3, 4, 0] rfl ?_
      exact kin x3 (x4 + 1) (Option.some.inj h).symm
    · have h := (ite_inv h).1 c3
      refine r_iload_n C dX8_shellsOf_25 3 rfl ?_
      refine r_iconst C dX8_shellsOf_26 ic_1 ?_
      refine r_iload C dX8_shellsOf_27 4 rfl ?_
      refine r_ishl C dX8_shellsOf_29 ?_
      refine r_ior C dX8_shellsOf_30 ?_
      refine r_istore_n [(3, .int (x3 ||| (shl 1 x4))), (0, .ref (wb (zw Z) + a0)), (1, .ref (wb (zw Z) + a1)), (2, .int x2), (4, .int x4)] C dX8_shellsOf_31 rfl (by decide) rfl ?_
      refine r_iinc [(4, .int (x4 + 1)), (3, .int (x3 ||| (shl 1 x4))), (0, .ref (wb (zw Z) + a0)), (1, .ref (wb (zw Z) + a1)), (2, .int x2)] C dX8_shellsOf_32 4 rfl (in_1 _) (by decide) rfl ?_
      refine r_goto 5 C dX8_shellsOf_35 (by decide) ?_
      refine r_sub [(0, .ref (wb (zw Z) + a0)), (1, .ref (wb (zw Z) + a1)), (2, .int x2), (3, .int (x3 ||| (shl 1 x4))), (4, .int (x4 + 1))] [2, 3, 4, 1, 0] rfl ?_
      exact kin (x3 ||| (shl 1 x4)) (x4 + 1) (Option.some.inj h).symm
def fX8_shellsOf (n : Nat) (a0 : Nat) (a1 : Nat) (x2 : Int32) (μ : Mu) : Option (Int32) := bnd (lp n (sX8_shellsOf_5 n a0 a1 x2 μ) (0, 0)) fun q => match q with | u4 => some u4
set_option maxRecDepth 100000 in
set_option maxHeartbeats 4000000 in
theorem tX8_shellsOf {l : Launch} {w : WP} {sh : List Sh} {R : Rf} {μ : Mu} {r : Int32} (hY : LY sh R) (n : Nat) (a0 : Nat) (a1 : Nat) (x2 : Int32) (ha0 : isSt sh R a0) (ha1 : isSea sh R a1) (h : fX8_shellsOf n a0 a1 x2 μ = some r) : CM l w yX8_shellsOf cX8_shellsOf 5 (some .int) 0 0 0 sh R [.ref (wb w + a0), .ref (wb w + a1), .int x2] μ (some (.int r)) sh R μ := by
  refine CM.of (plainFor_of_name pf_X8) (Nat.le_of_ble_eq_true rfl) fun Z C hr _ hR hw hl hE => ?_
  subst hw; subst hl
  have C : CX Z cX8_shellsOf 5 RX8 := C
  show Wm Z (0, 0, sh, R) μ 0 [(0, .ref (wb (zw Z) + a0)), (1, .ref (wb (zw Z) + a1)), (2, .int x2)] []
  unfold fX8_shellsOf at h
  refine r_iconst C dX8_shellsOf_0 ic_0 ?_
  refine r_istore_n [(3, .int 0), (0, .ref (wb (zw Z) + a0)), (1, .ref (wb (zw Z) + a1)), (2, .int x2)] C dX8_shellsOf_1 rfl (by decide) rfl ?_
  refine r_iconst C dX8_shellsOf_2 ic_0 ?_
  refine r_istore [(4, .int 0), (3, .int 0), (0, .ref (wb (zw Z) + a0)), (1, .ref (wb (zw Z) + a1)), (2, .int x2)] C dX8_shellsOf_3 (by decide) rfl ?_
  refine r_sub [(0, .ref (wb (zw Z) + a0)), (1, .ref (wb (zw Z) + a1)), (2, .int x2), (3, .int 0), (4, .int 0)] [2, 3, 4, 1, 0] rfl ?_
  obtain ⟨u4, e5, h⟩ := bnd_inv h
  refine lp_all (sX8_shellsOf_5 n a0 a1 x2 μ) (fun q => match q with | (z3, z4) => Wm Z (0, 0, sh, R) μ 5 [(0, .ref (wb (zw Z) + a0)), (1, .ref (wb (zw Z) + a1)), (2, .int x2), (3, .int z3), (4, .int z4)] []) (fun q => match q with | z3 => Wm Z (0, 0, sh, R) μ 38 [(3, .int z3)] []) (fun q o h kin kex => ?_) n (0, 0) u4 e5 ?_
  · obtain ⟨z3, z4⟩ := q; exact lX8_shellsOf_5 C hR hY n a0 a1 ha0 ha1 x2 μ z3 z4 h (fun z3 z4 e => kin (z3, z4) e) (fun z3 e => kex z3 e)
  show Wm Z (0, 0, sh, R) μ 38 [(3, .int u4)] []
  refine r_iload_n C dX8_shellsOf_38 0 rfl ?_
  have h := Option.some.inj h
  subst h
  exact r_iret C dX8_shellsOf_39 hr hE
def sX8_hearersOf_4 (n : Nat) (a0 : Nat) (x1 : Int32) (μ : Mu) : Int32 × Int32 → Option ((Int32 × Int32) ⊕ (Int32)) := fun q => match q with | (x2, x3) => if 6 ≤ x3 then (some (.inr x2)) else (gd (ib x3 6) (some (.inl (x2 ||| (shl ((shr (rI μ (a0 + 6) (ix x3)) x1) &&& 1) x3), x3 + 1))))
set_option maxRecDepth 100000 in
set_option maxHeartbeats 4000000 in
theorem lX8_hearersOf_4 {Z : ZC} {sh : List Sh} {R : Rf} {o : (Int32 × Int32) ⊕ (Int32)} (C : CX Z cX8_hearersOf 4 RX8) (hR : zR Z = rm 0 0 0) (hY : LY sh R) (n : Nat) (a0 : Nat) (ha0 : isSt sh R a0) (x1 : Int32) (μ : Mu) (x2 : Int32) (x3 : Int32) (h : sX8_hearersOf_4 n a0 x1 μ (x2, x3) = some o) (kin : ∀ (x2 : Int32) (x3 : Int32), o = .inl (x2, x3) → Wm Z (0, 0, sh, R) μ 4 [(0, .ref (wb (zw Z) + a0)), (1, .int x1), (2, .int x2), (3, .int x3)] []) (kex0 : ∀ (x2 : Int32), o = .inr x2 → Wm Z (0, 0, sh, R) μ 31 [(2, .int x2)] []) : Wm Z (0, 0, sh, R) μ 4 [(0, .ref (wb (zw Z) + a0)), (1, .int x1), (2, .int x2), (3, .int x3)] [] := by
  unfold sX8_hearersOf_4 at h
  refine r_iload_n C dX8_hearersOf_4 3 rfl ?_
  refine r_bipush C dX8_hearersOf_5 bp_6 ?_
  refine r_icmp_ge 31 C dX8_hearersOf_7 (by decide) (fun c1 => ?_) (fun c1 => ?_)
  · have h := (ite_inv h).1 c1
    refine r_sub [(2, .int x2)] [2] rfl ?_
    exact kex0 x2 (Option.some.inj h).symm
  · have h := (ite_inv h).2 c1
    refine r_iload_n C dX8_hearersOf_10 2 rfl ?_
    refine r_aload_n C dX8_hearersOf_11 0 rfl ?_
    refine r_getR C flX8_27 dX8_hearersOf_12 (isSt_0 ha0) rfl (isSt_r9 ha0) ?_
    refine r_iload_n C dX8_hearersOf_15 3 rfl ?_
    obtain ⟨b2, h⟩ := gd_inv h
    refine r_iald C dX8_hearersOf_16 (isSt_6 ha0) b2 ?_
    refine r_iload_n C dX8_hearersOf_17 1 rfl ?_
    refine r_ishr C dX8_hearersOf_18 ?_
    refine r_iconst C dX8_hearersOf_19 ic_1 ?_
    refine r_iand C dX8_hearersOf_20 ?_
    refine r_iload_n C dX8_hearersOf_21 3 rfl ?_
    refine r_ishl C dX8_hearersOf_22 ?_
    refine r_ior C dX8_hearersOf_23 ?_
    refine r_istore_n [(2, .int (x2 ||| (shl ((shr (rI μ (a0 + 6) (ix x3)) x1) &&& 1) x3))), (0, .ref (wb (zw Z) + a0)), (1, .int x1), (3, .int x3)] C dX8_hearersOf_24 rfl (by decide) rfl ?_
    refine r_iinc [(3, .int (x3 + 1)), (2, .int (x2 ||| (shl ((shr (rI μ (a0 + 6) (ix x3)) x1) &&& 1) x3))), (0, .ref (wb (zw Z) + a0)), (1, .int x1)] C dX8_hearersOf_25 3 rfl (in_1 _) (by decide) rfl ?_
    refine r_goto 4 C dX8_hearersOf_28 (by decide) ?_
    refine r_sub [(0, .ref (wb (zw Z) + a0)), (1, .int x1), (2, .int (x2 ||| (shl ((shr (rI μ (a0 + 6) (ix x3)) x1) &&& 1) x3))), (3, .int (x3 + 1))] [2, 3, 1, 0] rfl ?_
    exact kin (x2 ||| (shl ((shr (rI μ (a0 + 6) (ix x3)) x1) &&& 1) x3)) (x3 + 1) (Option.some.inj h).symm
def fX8_hearersOf (n : Nat) (a0 : Nat) (x1 : Int32) (μ : Mu) : Option (Int32) := bnd (lp n (sX8_hearersOf_4 n a0 x1 μ) (0, 0)) fun q => match q with | u3 => some u3
set_option maxRecDepth 100000 in
set_option maxHeartbeats 4000000 in
theorem tX8_hearersOf {l : Launch} {w : WP} {sh : List Sh} {R : Rf} {μ : Mu} {r : Int32} (hY : LY sh R) (n : Nat) (a0 : Nat) (x1 : Int32) (ha0 : isSt sh R a0) (h : fX8_hearersOf n a0 x1 μ = some r) : CM l w yX8_hearersOf cX8_hearersOf 4 (some .int) 0 0 0 sh R [.ref (wb w + a0), .int x1] μ (some (.int r)) sh R μ := by
  refine CM.of (plainFor_of_name pf_X8) (Nat.le_of_ble_eq_true rfl) fun Z C hr _ hR hw hl hE => ?_
  subst hw; subst hl
  have C : CX Z cX8_hearersOf 4 RX8 := C
  show Wm Z (0, 0, sh, R) μ 0 [(0, .ref (wb (zw Z) + a0)), (1, .int x1)] []
  unfold fX8_hearersOf at h
  refine r_iconst C dX8_hearersOf_0 ic_0 ?_
  refine r_istore_n [(2, .int 0), (0, .ref (wb (zw Z) + a0)), (1, .int x1)] C dX8_hearersOf_1 rfl (by decide) rfl ?_
  refine r_iconst C dX8_hearersOf_2 ic_0 ?_
  refine r_istore_n [(3, .int 0), (2, .int 0), (0, .ref (wb (zw Z) + a0)), (1, .int x1)] C dX8_hearersOf_3 rfl (by decide) rfl ?_
  refine r_sub [(0, .ref (wb (zw Z) + a0)), (1, .int x1), (2, .int 0), (3, .int 0)] [2, 3, 1, 0] rfl ?_
  obtain ⟨u3, e4, h⟩ := bnd_inv h
  refine lp_all (sX8_hearersOf_4 n a0 x1 μ) (fun q => match q with | (z2, z3) => Wm Z (0, 0, sh, R) μ 4 [(0, .ref (wb (zw Z) + a0)), (1, .int x1), (2, .int z2), (3, .int z3)] []) (fun q => match q with | z2 => Wm Z (0, 0, sh, R) μ 31 [(2, .int z2)] []) (fun q o h kin kex => ?_) n (0, 0) u3 e4 ?_
  · obtain ⟨z2, z3⟩ := q; exact lX8_hearersOf_4 C hR hY n a0 ha0 x1 μ z2 z3 h (fun z2 z3 e => kin (z2, z3) e) (fun z2 e => kex z2 e)
  show Wm Z (0, 0, sh, R) μ 31 [(2, .int u3)] []
  refine r_iload_n C dX8_hearersOf_31 0 rfl ?_
  have h := Option.some.inj h
  subst h
  exact r_iret C dX8_hearersOf_32 hr hE
def sX8_heardAll_4 (n : Nat) (a0 : Nat) (a1 : Nat) (μ : Mu) : Int32 × Int32 → Option ((Int32 × Int32) ⊕ (Int32)) := fun q => match q with | (x2, x3) => if (rI μ a1 2) ≤ x3 then (some (.inr x2)) else (gd (ib x3 6) (if (rI μ (a0 + 6) (ix x3)) = ((shl 1 (rI μ a0 3)) - 1) then (some (.inl (x2 ||| (shl 1 x3), x3 + 1))) else (some (.inl (x2, x3 + 1)))))
set_option maxRecDepth 100000 in
set_option maxHeartbeats 4000000 in
theorem lX8_heardAll_4 {Z : ZC} {sh : List Sh} {R : Rf} {o : (Int32 × Int32) ⊕ (Int32)} (C : CX Z cX8_heardAll 4 RX8) (hR : zR Z = rm 0 0 0) (hY : LY sh R) (n : Nat) (a0 : Nat) (a1 : Nat) (ha0 : isSt sh R a0) (ha1 : isSea sh R a1) (μ : Mu) (x2 : Int32) (x3 : Int32) (h : sX8_heardAll_4 n a0 a1 μ (x2, x3) = some o) (kin : ∀ (x2 : Int32) (x3 : Int32), o = .inl (x2, x3) → Wm Z (0, 0, sh, R) μ 4 [(0, .ref (wb (zw Z) + a0)), (1, .ref (wb (zw Z) + a1)), (2, .int x2), (3, .int x3)] []) (kex0 : ∀ (x2 : Int32), o = .inr x2 → Wm Z (0, 0, sh, R) μ 41 [(2, .int x2)] []) : Wm Z (0, 0, sh, R) μ 4 [(0, .ref (wb (zw Z) + a0)), (1, .ref (wb (zw Z) + a1)), (2, .int x2), (3, .int x3)] [] := by
  unfold sX8_heardAll_4 at h
  refine r_iload_n C dX8_heardAll_4 3 rfl ?_
  refine r_aload_n C dX8_heardAll_5 1 rfl ?_
  refine r_getI C flX8_86 dX8_heardAll_6 (isSea_0 ha1) rfl ?_
  refine r_icmp_ge 41 C dX8_heardAll_9 (by decide) (fun c1 => ?_) (fun c1 => ?_)
  · have h := (ite_inv h).1 c1
    refine r_sub [(2, .int x2)] [2] rfl ?_
    exact kex0 x2 (Option.some.inj h).symm
  · have h := (ite_inv h).2 c1
    refine r_aload_n C dX8_heardAll_12 0 rfl ?_
    refine r_getR C flX8_27 dX8_heardAll_13 (isSt_0 ha0) rfl (isSt_r9 ha0) ?_
    refine r_iload_n C dX8_heardAll_16 3 rfl ?_
    obtain ⟨b2, h⟩ := gd_inv h
    refine r_iald C dX8_heardAll_17 (isSt_6 ha0) b2 ?_
    refine r_iconst C dX8_heardAll_18 ic_1 ?_
    refine r_aload_n C dX8_heardAll_19 0 rfl ?_
    refine r_getI C flX8_48 dX8_heardAll_20 (isSt_0 ha0) rfl ?_
    refine r_ishl C dX8_heardAll_23 ?_
    refine r_iconst C dX8_heardAll_24 ic_1 ?_
    refine r_isub C dX8_heardAll_25 ?_
    refine r_icmp_ne 35 C dX8_heardAll_26 (by decide) (fun c3 => ?_) (fun c3 => ?_)
    · have h := (ite_inv h).2 c3
      refine r_iinc [(3, .int (x3 + 1)), (0, .ref (wb (zw Z) + a0)), (1, .ref (wb (zw Z) + a1)), (2, .int x2)] C dX8_heardAll_35 3 rfl (in_1 _) (by decide) rfl ?_
      refine r_goto 4 C dX8_heardAll_38 (by decide) ?_
      refine r_sub [(0, .ref (wb (zw Z) + a0)), (1, .ref (wb (zw Z) + a1)), (2, .int x2), (3, .int (x3 + 1))] [1, 2, 3, 0] rfl ?_
      exact kin x2 (x3 + 1) (Option.some.inj h).symm
    · have h := (ite_inv h).1 c3
      refine r_iload_n C dX8_heardAll_29 2 rfl ?_
      refine r_iconst C dX8_heardAll_30 ic_1 ?_
      refine r_iload_n C dX8_heardAll_31 3 rfl ?_
      refine r_ishl C dX8_heardAll_32 ?_
      refine r_ior C dX8_heardAll_33 ?_
      refine r_istore_n [(2, .int (x2 ||| (shl 1 x3))), (0, .ref (wb (zw Z) + a0)), (1, .ref (wb (zw Z) + a1)), (3, .int x3)] C dX8_heardAll_34 rfl (by decide) rfl ?_
      refine r_iinc [(3, .int (x3 + 1)), (2, .int (x2 ||| (shl 1 x3))), (0, .ref (wb (zw Z) + a0)), (1, .ref (wb (zw Z) + a1))] C dX8_heardAll_35 3 rfl (in_1 _) (by decide) rfl ?_
      refine r_goto 4 C dX8_heardAll_38 (by decide) ?_
      refine r_sub [(0, .ref (wb (zw Z) + a0)), (1, .ref (wb (zw Z) + a1)), (2, .int (x2 ||| (shl 1 x3))), (3, .int (x3 + 1))] [2, 3, 1, 0] rfl ?_
      exact kin (x2 ||| (shl 1 x3)) (x3 + 1) (Option.some.inj h).symm
def fX8_heardAll (n : Nat) (a0 : Nat) (a1 : Nat) (μ : Mu) : Option (Int32) := bnd (lp n (sX8_heardAll_4 n a0 a1 μ) (0, 0)) fun q => match q with | u4 => some u4
set_option maxRecDepth 100000 in
set_option maxHeartbeats 4000000 in
theorem tX8_heardAll {l : Launch} {w : WP} {sh : List Sh} {R : Rf} {μ : Mu} {r : Int32} (hY : LY sh R) (n : Nat) (a0 : Nat) (a1 : Nat) (ha0 : isSt sh R a0) (ha1 : isSea sh R a1) (h : fX8_heardAll n a0 a1 μ = some r) : CM l w yX8_heardAll cX8_heardAll 4 (some .int) 0 0 0 sh R [.ref (wb w + a0), .ref (wb w + a1)] μ (some (.int r)) sh R μ := by
  refine CM.of (plainFor_of_name pf_X8) (Nat.le_of_ble_eq_true rfl) fun Z C hr _ hR hw hl hE => ?_
  subst hw; subst hl
  have C : CX Z cX8_heardAll 4 RX8 := C
  show Wm Z (0, 0, sh, R) μ 0 [(0, .ref (wb (zw Z) + a0)), (1, .ref (wb (zw Z) + a1))] []
  unfold fX8_heardAll at h
  refine r_iconst C dX8_heardAll_0 ic_0 ?_
  refine r_istore_n [(2, .int 0), (0, .ref (wb (zw Z) + a0)), (1, .ref (wb (zw Z) + a1))] C dX8_heardAll_1 rfl (by decide) rfl ?_
  refine r_iconst C dX8_heardAll_2 ic_0 ?_
  refine r_istore_n [(3, .int 0), (2, .int 0), (0, .ref (wb (zw Z) + a0)), (1, .ref (wb (zw Z) + a1))] C dX8_heardAll_3 rfl (by decide) rfl ?_
  refine r_sub [(0, .ref (wb (zw Z) + a0)), (1, .ref (wb (zw Z) + a1)), (2, .int 0), (3, .int 0)] [2, 3, 1, 0] rfl ?_
  obtain ⟨u4, e5, h⟩ := bnd_inv h
  refine lp_all (sX8_heardAll_4 n a0 a1 μ) (fun q => match q with | (z2, z3) => Wm Z (0, 0, sh, R) μ 4 [(0, .ref (wb (zw Z) + a0)), (1, .ref (wb (zw Z) + a1)), (2, .int z2), (3, .int z3)] []) (fun q => match q with | z2 => Wm Z (0, 0, sh, R) μ 41 [(2, .int z2)] []) (fun q o h kin kex => ?_) n (0, 0) u4 e5 ?_
  · obtain ⟨z2, z3⟩ := q; exact lX8_heardAll_4 C hR hY n a0 a1 ha0 ha1 μ z2 z3 h (fun z2 z3 e => kin (z2, z3) e) (fun z2 e => kex z2 e)
  show Wm Z (0, 0, sh, R) μ 41 [(2, .int u4)] []
  refine r_iload_n C dX8_heardAll_41 0 rfl ?_
  have h := Option.some.inj h
  subst h
  exact r_iret C dX8_heardAll_42 hr hE
def sX8_hearable_27 (n : Nat) (a0 : Nat) (a1 : Nat) (x2 : Int32) (x3 : Int32) (μ : Mu) : Int32 × Int32 → Option ((Int32 × Int32) ⊕ (Int32)) := fun q => match q with | (x4, x5) => if (rI μ a1 2) ≤ x5 then (some (.inr x4)) else (if x5 = x2 then (some (.inl (x4, x5 + 1))) else (gd (ib x5 6) (if (rI μ (a1 + 4) (ix x5)) = (-1) then (some (.inl (x4, x5 + 1))) else (gd (ib x5 6) (if ((shr x3 (rI μ (a1 + 4) (ix x5))) &&& 1) = 1 then (some (.inl (x4 ||| (shl 1 x5), x5 + 1))) else (some (.inl (x4, x5 + 1))))))))
set_option maxRecDepth 100000 in
set_option maxHeartbeats 4000000 in
theorem lX8_hearable_27 {Z : ZC} {sh : List Sh} {R : Rf} {o : (Int32 × Int32) ⊕ (Int32)} (C : CX Z cX8_hearable 6 RX8) (hR : zR Z = rm 1 0 0) (hY : LY sh R) (n : Nat) (a0 : Nat) (a1 : Nat) (ha0 : isSt sh R a0) (ha1 : isSea sh R a1) (x2 : Int32) (x3 : Int32) (μ : Mu) (x4 : Int32) (x5 : Int32) (h : sX8_hearable_27 n a0 a1 x2 x3 μ (x4, x5) = some o) (kin : ∀ (x4 : Int32) (x5 : Int32), o = .inl (x4, x5) → Wm Z (0, 0, sh, R) μ 27 [(1, .ref (wb (zw Z) + a1)), (2, .int x2), (3, .int x3), (4, .int x4), (5, .int x5)] []) (kex0 : ∀ (x4 : Int32), o = .inr x4 → Wm Z (0, 0, sh, R) μ 83 [(4, .int x4)] []) : Wm Z (0, 0, sh, R) μ 27 [(1, .ref (wb (zw Z) + a1)), (2, .int x2), (3, .int x3), (4, .int x4), (5, .int x5)] [] := by
  unfold sX8_hearable_27 at h
  refine r_iload C dX8_hearable_27 4 rfl ?_
  refine r_aload_n C dX8_hearable_29 0 rfl ?_
  refine r_getI C flX8_86 dX8_hearable_30 (isSea_0 ha1) rfl ?_
  refine r_icmp_ge 83 C dX8_hearable_33 (by decide) (fun c4 => ?_) (fun c4 => ?_)
  · have h := (ite_inv h).1 c4
    refine r_sub [(4, .int x4)] [3] rfl ?_
    exact kex0 x4 (Option.some.inj h).symm
  · have h := (ite_inv h).2 c4
    refine r_iload C dX8_hearable_36 4 rfl ?_
    refine r_iload_n C dX8_hearable_38 1 rfl ?_
    refine r_icmp_eq 77 C dX8_hearable_39 (by decide) (fun c5 => ?_) (fun c5 => ?_)
    · have h := (ite_inv h).1 c5
      refine r_iinc [(5, .int (x5 + 1)), (1, .ref (wb (zw Z) + a1)), (2, .int x2), (3, .int x3), (4, .int x4)] C dX8_hearable_77 4 rfl (in_1 _) (by decide) rfl ?_
      refine r_goto 27 C dX8_hearable_80 (by decide) ?_
      refine r_sub [(1, .ref (wb (zw Z) + a1)), (2, .int x2), (3, .int x3), (4, .int x4), (5, .int (x5 + 1))] [1, 2, 3, 4, 0] rfl ?_
      exact kin x4 (x5 + 1) (Option.some.inj h).symm
    · have h := (ite_inv h).2 c5
      refine r_aload_n C dX8_hearable_42 0 rfl ?_
      refine r_getR C flX8_118 dX8_hearable_43 (isSea_0 ha1) rfl (isSea_r11 ha1) ?_
      refine r_iload C dX8_hearable_46 4 rfl ?_
      obtain ⟨b6, h⟩ := gd_inv h
      refine r_iald C dX8_hearable_48 (isSea_4 ha1) b6 ?_
      refine r_iconst C dX8_hearable_49 ic_m1 ?_
      refine r_icmp_eq 77 C dX8_hearable_50 (by decide) (fun c7 => ?_) (fun c7 => ?_)
      · have h := (ite_inv h).1 c7
        refine r_iinc [(5, .int (x5 + 1)), (1, .ref (wb (zw Z) + a1)), (2, .int x2), (3, .int x3), (4, .int x4)] C dX8_hearable_77 4 rfl (in_1 _) (by decide) rfl ?_
        refine r_goto 27 C dX8_hearable_80 (by decide) ?_
        refine r_sub [(1, .ref (wb (zw Z) + a1)), (2, .int x2), (3, .int x3), (4, .int x4), (5, .int (x5 + 1))] [1, 2, 3, 4, 0] rfl ?_
        exact kin x4 (x5 + 1) (Option.some.inj h).symm
      · have h := (ite_inv h).2 c7
        refine r_iload_n C dX8_hearable_53 2 rfl ?_
        refine r_aload_n C dX8_hearable_54 0 rfl ?_
        refine r_getR C flX8_118 dX8_hearable_55 (isSea_0 ha1) rfl (isSea_r11 ha1) ?_
        refine r_iload C dX8_hearable_58 4 rfl ?_
        obtain ⟨b8, h⟩ := gd_inv h
        refine r_iald C dX8_hearable_60 (isSea_4 ha1) b8 ?_
        refine r_ishr C dX8_hearable_61 ?_
        refine r_iconst C dX8_hearable_62 ic_1 ?_
        refine r_iand C dX8_hearable_63 ?_
        refine r_iconst C dX8_hearable_64 ic_1 ?_
        refine r_icmp_ne 77 C dX8_hearable_65 (by decide) (fun c9 => ?_) (fun c9 => ?_)
        · have h := (ite_inv h).2 c9
          refine r_iinc [(5, .int (x5 + 1)), (1, .ref (wb (zw Z) + a1)), (2, .int x2), (3, .int x3), (4, .int x4)] C dX8_hearable_77 4 rfl (in_1 _) (by decide) rfl ?_
          refine r_goto 27 C dX8_hearable_80 (by decide) ?_
          refine r_sub [(1, .ref (wb (zw Z) + a1)), (2, .int x2), (3, .int x3), (4, .int x4), (5, .int (x5 + 1))] [1, 2, 3, 4, 0] rfl ?_
          exact kin x4 (x5 + 1) (Option.some.inj h).symm
        · have h := (ite_inv h).1 c9
          refine r_iload C dX8_hearable_68 3 rfl ?_
          refine r_iconst C dX8_hearable_70 ic_1 ?_
          refine r_iload C dX8_hearable_71 4 rfl ?_
          refine r_ishl C dX8_hearable_73 ?_
          refine r_ior C dX8_hearable_74 ?_
          refine r_istore [(4, .int (x4 ||| (shl 1 x5))), (1, .ref (wb (zw Z) + a1)), (2, .int x2), (3, .int x3), (5, .int x5)] C dX8_hearable_75 (by decide) rfl ?_
          refine r_iinc [(5, .int (x5 + 1)), (4, .int (x4 ||| (shl 1 x5))), (1, .ref (wb (zw Z) + a1)), (2, .int x2), (3, .int x3)] C dX8_hearable_77 4 rfl (in_1 _) (by decide) rfl ?_
          refine r_goto 27 C dX8_hearable_80 (by decide) ?_
          refine r_sub [(1, .ref (wb (zw Z) + a1)), (2, .int x2), (3, .int x3), (4, .int (x4 ||| (shl 1 x5))), (5, .int (x5 + 1))] [2, 3, 4, 1, 0] rfl ?_
          exact kin (x4 ||| (shl 1 x5)) (x5 + 1) (Option.some.inj h).symm
def fX8_hearable (n : Nat) (a0 : Nat) (a1 : Nat) (x2 : Int32) (μ : Mu) : Option (Int32) := if ((shr (rI μ a1 7) x2) &&& 1) = 1 then (some 0) else (bnd (fX8_audible n a0 a1 x2 μ) fun u3 => bnd (lp n (sX8_hearable_27 n a0 a1 x2 u3 μ) (0, 0)) fun q => match q with | u10 => some u10)
set_option maxRecDepth 100000 in
set_option maxHeartbeats 4000000 in
theorem tX8_hearable {l : Launch} {w : WP} {sh : List Sh} {R : Rf} {μ : Mu} {r : Int32} (hY : LY sh R) (n : Nat) (a0 : Nat) (a1 : Nat) (x2 : Int32) (ha0 : isSt sh R a0) (ha1 : isSea sh R a1) (h : fX8_hearable n a0 a1 x2 μ = some r) : CM l w yX8_hearable cX8_hearable 6 (some .int) 1 0 0 sh R [.ref (wb w + a0), .ref (wb w + a1), .int x2] μ (some (.int r)) sh R μ := by
  refine CM.of (plainFor_of_name pf_X8) (Nat.le_of_ble_eq_true rfl) fun Z C hr _ hR hw hl hE => ?_
  subst hw; subst hl
  have C : CX Z cX8_hearable 6 RX8 := C
  show Wm Z (0, 0, sh, R) μ 0 [(0, .ref (wb (zw Z) + a0)), (1, .ref (wb (zw Z) + a1)), (2, .int x2)] []
  unfold fX8_hearable at h
  refine r_aload_n C dX8_hearable_0 1 rfl ?_
  refine r_getI C flX8_167 dX8_hearable_1 (isSea_0 ha1) rfl ?_
  refine r_iload_n C dX8_hearable_4 2 rfl ?_
  refine r_ishr C dX8_hearable_5 ?_
  refine r_iconst C dX8_hearable_6 ic_1 ?_
  refine r_iand C dX8_hearable_7 ?_
  refine r_iconst C dX8_hearable_8 ic_1 ?_
  refine r_icmp_ne 14 C dX8_hearable_9 (by decide) (fun c1 => ?_) (fun c1 => ?_)
  · have h := (ite_inv h).2 c1
    refine r_aload_n C dX8_hearable_14 0 rfl ?_
    refine r_aload_n C dX8_hearable_15 1 rfl ?_
    refine r_iload_n C dX8_hearable_16 2 rfl ?_
    obtain ⟨u3, e2, h⟩ := bnd_inv h
    refine r_cVi (As := [.ref (wb (zw Z) + a1), .int x2]) (rest := []) C hR mlX8_99 dX8_hearable_17 (tX8_audible hY n a0 a1 x2 ha0 ha1 e2) rfl rfl (isSt_0 ha0) rfl (nle rfl) (nle rfl) (nle rfl) ?_
    refine r_istore_n [(3, .int u3), (0, .ref (wb (zw Z) + a0)), (1, .ref (wb (zw Z) + a1)), (2, .int x2)] C dX8_hearable_20 rfl (by decide) rfl ?_
    refine r_iconst C dX8_hearable_21 ic_0 ?_
    refine r_istore [(4, .int 0), (3, .int u3), (0, .ref (wb (zw Z) + a0)), (1, .ref (wb (zw Z) + a1)), (2, .int x2)] C dX8_hearable_22 (by decide) rfl ?_
    refine r_iconst C dX8_hearable_24 ic_0 ?_
    refine r_istore [(5, .int 0), (4, .int 0), (3, .int u3), (0, .ref (wb (zw Z) + a0)), (1, .ref (wb (zw Z) + a1)), (2, .int x2)] C dX8_hearable_25 (by decide) rfl ?_
    refine r_sub [(1, .ref (wb (zw Z) + a1)), (2, .int x2), (3, .int u3), (4, .int 0), (5, .int 0)] [4, 5, 2, 1, 0] rfl ?_
    obtain ⟨u10, e11, h⟩ := bnd_inv h
    refine lp_all (sX8_hearable_27 n a0 a1 x2 u3 μ) (fun q => match q with | (z4, z5) => Wm Z (0, 0, sh, R) μ 27 [(1, .ref (wb (zw Z) + a1)), (2, .int x2), (3, .int u3), (4, .int z4), (5, .int z5)] []) (fun q => match q with | z4 => Wm Z (0, 0, sh, R) μ 83 [(4, .int z4)] []) (fun q o h kin kex => ?_) n (0, 0) u10 e11 ?_
    · obtain ⟨z4, z5⟩ := q; exact lX8_hearable_27 C hR hY n a0 a1 ha0 ha1 x2 u3 μ z4 z5 h (fun z4 z5 e => kin (z4, z5) e) (fun z4 e => kex z4 e)
    show Wm Z (0, 0, sh, R) μ 83 [(4, .int u10)] []
    refine r_iload C dX8_hearable_83 0 rfl ?_
    have h := Option.some.inj h
    subst h
    exact r_iret C dX8_hearable_85 hr hE
  · have h := (ite_inv h).1 c1
    refine r_iconst C dX8_hearable_12 ic_0 ?_
    have h := Option.some.inj h
    subst h
    exact r_iret C dX8_hearable_13 hr hE
def sX8_mutualTwos_23 (n : Nat) (a0 : Nat) (a1 : Nat) (x3 : Int32) (x4 : Int32) (μ : Mu) : Int32 × Int32 → Option ((Int32 × Int32) ⊕ (Int32)) := fun q => match q with | (x2, x5) => if x3 ≤ x5 then (some (.inr x2)) else (bnd (fX8_hearable n a0 a1 x5 μ) fun u6 => if (((shr x4 x5) &&& (shr u6 x3)) &&& 1) = 1 then (some (.inl (x2 + 1, x5 + 1))) else (some (.inl (x2, x5 + 1))))
set_option maxRecDepth 100000 in
set_option maxHeartbeats 4000000 in
theorem lX8_mutualTwos_23 {Z : ZC} {sh : List Sh} {R : Rf} {o : (Int32 × Int32) ⊕ (Int32)} (C : CX Z cX8_mutualTwos 6 RX8) (hR : zR Z = rm 2 0 0) (hY : LY sh R) (n : Nat) (a0 : Nat) (a1 : Nat) (ha0 : isSt sh R a0) (ha1 : isSea sh R a1) (x3 : Int32) (x4 : Int32) (μ : Mu) (x2 : Int32) (x5 : Int32) (h : sX8_mutualTwos_23 n a0 a1 x3 x4 μ (x2, x5) = some o) (kin : ∀ (x2 : Int32) (x5 : Int32), o = .inl (x2, x5) → Wm Z (0, 0, sh, R) μ 23 [(0, .ref (wb (zw Z) + a0)), (1, .ref (wb (zw Z) + a1)), (2, .int x2), (3, .int x3), (4, .int x4), (5, .int x5)] []) (kex0 : ∀ (x2 : Int32), o = .inr x2 → Wm Z (0, 0, sh, R) μ 59 [(0, .ref (wb (zw Z) + a0)), (1, .ref (wb (zw Z) + a1)), (2, .int x2), (3, .int x3)] []) : Wm Z (0, 0, sh, R) μ 23 [(0, .ref (wb (zw Z) + a0)), (1, .ref (wb (zw Z) + a1)), (2, .int x2), (3, .int x3), (4, .int x4), (5, .int x5)] [] := by
  unfold sX8_mutualTwos_23 at h
  refine r_iload C dX8_mutualTwos_23 5 rfl ?_
  refine r_iload_n C dX8_mutualTwos_25 3 rfl ?_
  refine r_icmp_ge 59 C dX8_mutualTwos_26 (by decide) (fun c4 => ?_) (fun c4 => ?_)
  · have h := (ite_inv h).1 c4
    refine r_sub [(0, .ref (wb (zw Z) + a0)), (1, .ref (wb (zw Z) + a1)), (2, .int x2), (3, .int x3)] [0, 1, 2, 3] rfl ?_
    exact kex0 x2 (Option.some.inj h).symm
  · have h := (ite_inv h).2 c4
    refine r_iload C dX8_mutualTwos_29 4 rfl ?_
    refine r_iload C dX8_mutualTwos_31 5 rfl ?_
    refine r_ishr C dX8_mutualTwos_33 ?_
    refine r_aload_n C dX8_mutualTwos_34 0 rfl ?_
    refine r_aload_n C dX8_mutualTwos_35 1 rfl ?_
    refine r_iload C dX8_mutualTwos_36 5 rfl ?_
    obtain ⟨u6, e5, h⟩ := bnd_inv h
    refine r_cVi (As := [.ref (wb (zw Z) + a1), .int x5]) (rest := [.int (shr x4 x5)]) C hR mlX8_170 dX8_mutualTwos_38 (tX8_hearable hY n a0 a1 x5 ha0 ha1 e5) rfl rfl (isSt_0 ha0) rfl (nle rfl) (nle rfl) (nle rfl) ?_
    refine r_iload_n C dX8_mutualTwos_41 3 rfl ?_
    refine r_ishr C dX8_mutualTwos_42 ?_
    refine r_iand C dX8_mutualTwos_43 ?_
    refine r_iconst C dX8_mutualTwos_44 ic_1 ?_
    refine r_iand C dX8_mutualTwos_45 ?_
    refine r_iconst C dX8_mutualTwos_46 ic_1 ?_
    refine r_icmp_ne 53 C dX8_mutualTwos_47 (by decide) (fun c7 => ?_) (fun c7 => ?_)
    · have h := (ite_inv h).2 c7
      refine r_iinc [(5, .int (x5 + 1)), (0, .ref (wb (zw Z) + a0)), (1, .ref (wb (zw Z) + a1)), (2, .int x2), (3, .int x3), (4, .int x4)] C dX8_mutualTwos_53 5 rfl (in_1 _) (by decide) rfl ?_
      refine r_goto 23 C dX8_mutualTwos_56 (by decide) ?_
      refine r_sub [(0, .ref (wb (zw Z) + a0)), (1, .ref (wb (zw Z) + a1)), (2, .int x2), (3, .int x3), (4, .int x4), (5, .int (x5 + 1))] [1, 2, 3, 4, 5, 0] rfl ?_
      exact kin x2 (x5 + 1) (Option.some.inj h).symm
    · have h := (ite_inv h).1 c7
      refine r_iinc [(2, .int (x2 + 1)), (0, .ref (wb (zw Z) + a0)), (1, .ref (wb (zw Z) + a1)), (3, .int x3), (4, .int x4), (5, .int x5)] C dX8_mutualTwos_50 2 rfl (in_1 _) (by decide) rfl ?_
      refine r_iinc [(5, .int (x5 + 1)), (2, .int (x2 + 1)), (0, .ref (wb (zw Z) + a0)), (1, .ref (wb (zw Z) + a1)), (3, .int x3), (4, .int x4)] C dX8_mutualTwos_53 5 rfl (in_1 _) (by decide) rfl ?_
      refine r_goto 23 C dX8_mutualTwos_56 (by decide) ?_
      refine r_sub [(0, .ref (wb (zw Z) + a0)), (1, .ref (wb (zw Z) + a1)), (2, .int (x2 + 1)), (3, .int x3), (4, .int x4), (5, .int (x5 + 1))] [2, 3, 1, 4, 5, 0] rfl ?_
      exact kin (x2 + 1) (x5 + 1) (Option.some.inj h).symm
def sX8_mutualTwos_4 (n : Nat) (a0 : Nat) (a1 : Nat) (μ : Mu) : Int32 × Int32 → Option ((Int32 × Int32) ⊕ (Int32)) := fun q => match q with | (x2, x3) => if (rI μ a1 2) ≤ x3 then (some (.inr x2)) else (bnd (fX8_hearable n a0 a1 x3 μ) fun u3 => bnd (lp n (sX8_mutualTwos_23 n a0 a1 x3 u3 μ) (x2, 0)) fun q => match q with | u8 => some (.inl (u8, x3 + 1)))
set_option maxRecDepth 100000 in
set_option maxHeartbeats 4000000 in
theorem lX8_mutualTwos_4 {Z : ZC} {sh : List Sh} {R : Rf} {o : (Int32 × Int32) ⊕ (Int32)} (C : CX Z cX8_mutualTwos 6 RX8) (hR : zR Z = rm 2 0 0) (hY : LY sh R) (n : Nat) (a0 : Nat) (a1 : Nat) (ha0 : isSt sh R a0) (ha1 : isSea sh R a1) (μ : Mu) (x2 : Int32) (x3 : Int32) (h : sX8_mutualTwos_4 n a0 a1 μ (x2, x3) = some o) (kin : ∀ (x2 : Int32) (x3 : Int32), o = .inl (x2, x3) → Wm Z (0, 0, sh, R) μ 4 [(0, .ref (wb (zw Z) + a0)), (1, .ref (wb (zw Z) + a1)), (2, .int x2), (3, .int x3)] []) (kex0 : ∀ (x2 : Int32), o = .inr x2 → Wm Z (0, 0, sh, R) μ 65 [(2, .int x2)] []) : Wm Z (0, 0, sh, R) μ 4 [(0, .ref (wb (zw Z) + a0)), (1, .ref (wb (zw Z) + a1)), (2, .int x2), (3, .int x3)] [] := by
  unfold sX8_mutualTwos_4 at h
  refine r_iload_n C dX8_mutualTwos_4 3 rfl ?_
  refine r_aload_n C dX8_mutualTwos_5 1 rfl ?_
  refine r_getI C flX8_86 dX8_mutualTwos_6 (isSea_0 ha1) rfl ?_
  refine r_icmp_ge 65 C dX8_mutualTwos_9 (by decide) (fun c1 => ?_) (fun c1 => ?_)
  · have h := (ite_inv h).1 c1
    refine r_sub [(2, .int x2)] [2] rfl ?_
    exact kex0 x2 (Option.some.inj h).symm
  · have h := (ite_inv h).2 c1
    refine r_aload_n C dX8_mutualTwos_12 0 rfl ?_
    refine r_aload_n C dX8_mutualTwos_13 1 rfl ?_
    refine r_iload_n C dX8_mutualTwos_14 3 rfl ?_
    obtain ⟨u3, e2, h⟩ := bnd_inv h
    refine r_cVi (As := [.ref (wb (zw Z) + a1), .int x3]) (rest := []) C hR mlX8_170 dX8_mutualTwos_15 (tX8_hearable hY n a0 a1 x3 ha0 ha1 e2) rfl rfl (isSt_0 ha0) rfl (nle rfl) (nle rfl) (nle rfl) ?_
    refine r_istore [(4, .int u3), (0, .ref (wb (zw Z) + a0)), (1, .ref (wb (zw Z) + a1)), (2, .int x2), (3, .int x3)] C dX8_mutualTwos_18 (by decide) rfl ?_
    refine r_iconst C dX8_mutualTwos_20 ic_0 ?_
    refine r_istore [(5, .int 0), (4, .int u3), (0, .ref (wb (zw Z) + a0)), (1, .ref (wb (zw Z) + a1)), (2, .int x2), (3, .int x3)] C dX8_mutualTwos_21 (by decide) rfl ?_
    refine r_sub [(0, .ref (wb (zw Z) + a0)), (1, .ref (wb (zw Z) + a1)), (2, .int x2), (3, .int x3), (4, .int u3), (5, .int 0)] [2, 3, 4, 5, 1, 0] rfl ?_
    obtain ⟨u8, e9, h⟩ := bnd_inv h
    refine lp_all (sX8_mutualTwos_23 n a0 a1 x3 u3 μ) (fun q => match q with | (z2, z5) => Wm Z (0, 0, sh, R) μ 23 [(0, .ref (wb (zw Z) + a0)), (1, .ref (wb (zw Z) + a1)), (2, .int z2), (3, .int x3), (4, .int u3), (5, .int z5)] []) (fun q => match q with | z2 => Wm Z (0, 0, sh, R) μ 59 [(0, .ref (wb (zw Z) + a0)), (1, .ref (wb (zw Z) + a1)), (2, .int z2), (3, .int x3)] []) (fun q o h kin kex => ?_) n (x2, 0) u8 e9 ?_
    · obtain ⟨z2, z5⟩ := q; exact lX8_mutualTwos_23 C hR hY n a0 a1 ha0 ha1 x3 u3 μ z2 z5 h (fun z2 z5 e => kin (z2, z5) e) (fun z2 e => kex z2 e)
    show Wm Z (0, 0, sh, R) μ 59 [(0, .ref (wb (zw Z) + a0)), (1, .ref (wb (zw Z) + a1)), (2, .int u8), (3, .int x3)] []
    refine r_iinc [(3, .int (x3 + 1)), (0, .ref (wb (zw Z) + a0)), (1, .ref (wb (zw Z) + a1)), (2, .int u8)] C dX8_mutualTwos_59 3 rfl (in_1 _) (by decide) rfl ?_
    refine r_goto 4 C dX8_mutualTwos_62 (by decide) ?_
    refine r_sub [(0, .ref (wb (zw Z) + a0)), (1, .ref (wb (zw Z) + a1)), (2, .int u8), (3, .int (x3 + 1))] [1, 2, 3, 0] rfl ?_
    exact kin u8 (x3 + 1) (Option.some.inj h).symm
def fX8_mutualTwos (n : Nat) (a0 : Nat) (a1 : Nat) (μ : Mu) : Option (Int32) := bnd (lp n (sX8_mutualTwos_4 n a0 a1 μ) (0, 0)) fun q => match q with | u10 => some u10
set_option maxRecDepth 100000 in
set_option maxHeartbeats 4000000 in
theorem tX8_mutualTwos {l : Launch} {w : WP} {sh : List Sh} {R : Rf} {μ : Mu} {r : Int32} (hY : LY sh R) (n : Nat) (a0 : Nat) (a1 : Nat) (ha0 : isSt sh R a0) (ha1 : isSea sh R a1) (h : fX8_mutualTwos n a0 a1 μ = some r) : CM l w yX8_mutualTwos cX8_mutualTwos 6 (some .int) 2 0 0 sh R [.ref (wb w + a0), .ref (wb w + a1)] μ (some (.int r)) sh R μ := by
  refine CM.of (plainFor_of_name pf_X8) (Nat.le_of_ble_eq_true rfl) fun Z C hr _ hR hw hl hE => ?_
  subst hw; subst hl
  have C : CX Z cX8_mutualTwos 6 RX8 := C
  show Wm Z (0, 0, sh, R) μ 0 [(0, .ref (wb (zw Z) + a0)), (1, .ref (wb (zw Z) + a1))] []
  unfold fX8_mutualTwos at h
  refine r_iconst C dX8_mutualTwos_0 ic_0 ?_
  refine r_istore_n [(2, .int 0), (0, .ref (wb (zw Z) + a0)), (1, .ref (wb (zw Z) + a1))] C dX8_mutualTwos_1 rfl (by decide) rfl ?_
  refine r_iconst C dX8_mutualTwos_2 ic_0 ?_
  refine r_istore_n [(3, .int 0), (2, .int 0), (0, .ref (wb (zw Z) + a0)), (1, .ref (wb (zw Z) + a1))] C dX8_mutualTwos_3 rfl (by decide) rfl ?_
  refine r_sub [(0, .ref (wb (zw Z) + a0)), (1, .ref (wb (zw Z) + a1)), (2, .int 0), (3, .int 0)] [2, 3, 1, 0] rfl ?_
  obtain ⟨u10, e11, h⟩ := bnd_inv h
  refine lp_all (sX8_mutualTwos_4 n a0 a1 μ) (fun q => match q with | (z2, z3) => Wm Z (0, 0, sh, R) μ 4 [(0, .ref (wb (zw Z) + a0)), (1, .ref (wb (zw Z) + a1)), (2, .int z2), (3, .int z3)] []) (fun q => match q with | z2 => Wm Z (0, 0, sh, R) μ 65 [(2, .int z2)] []) (fun q o h kin kex => ?_) n (0, 0) u10 e11 ?_
  · obtain ⟨z2, z3⟩ := q; exact lX8_mutualTwos_4 C hR hY n a0 a1 ha0 ha1 μ z2 z3 h (fun z2 z3 e => kin (z2, z3) e) (fun z2 e => kex z2 e)
  show Wm Z (0, 0, sh, R) μ 65 [(2, .int u10)] []
  refine r_iload_n C dX8_mutualTwos_65 0 rfl ?_
  have h := Option.some.inj h
  subst h
  exact r_iret C dX8_mutualTwos_66 hr hE
def fX10_isMissing (n : Nat) (a0 : Nat) (μ : Mu) : Option (Int32) := if (rI μ a0 1) = (-1) then (some 1) else (some 0)
set_option maxRecDepth 100000 in
set_option maxHeartbeats 4000000 in
theorem tX10_isMissing {l : Launch} {w : WP} {sh : List Sh} {R : Rf} {μ : Mu} {r : Int32} (hY : LY sh R) (n : Nat) (a0 : Nat) (ha0 : isTr sh R a0) (h : fX10_isMissing n a0 μ = some r) : CM l w yX10_isMissing cX10_isMissing 1 (some .boolean) 0 0 0 sh R [.ref (wb w + a0)] μ (some (.int r)) sh R μ := by
  refine CM.of (plainFor_of_name pf_X10) (Nat.le_of_ble_eq_true rfl) fun Z C hr _ hR hw hl hE => ?_
  subst hw; subst hl
  have C : CX Z cX10_isMissing 1 RX10 := C
  show Wm Z (0, 0, sh, R) μ 0 [(0, .ref (wb (zw Z) + a0))] []
  unfold fX10_isMissing at h
  refine r_aload_n C dX10_isMissing_0 0 rfl ?_
  refine r_getI C flX10_15 dX10_isMissing_1 (isTr_0 ha0) rfl ?_
  refine r_iconst C dX10_isMissing_4 ic_m1 ?_
  refine r_icmp_ne 12 C dX10_isMissing_5 (by decide) (fun c1 => ?_) (fun c1 => ?_)
  · have h := (ite_inv h).2 c1
    refine r_iconst C dX10_isMissing_12 ic_0 ?_
    have h := Option.some.inj h
    subst h
    exact r_zret C dX10_isMissing_13 hr rfl hE
  · have h := (ite_inv h).1 c1
    refine r_iconst C dX10_isMissing_8 ic_1 ?_
    refine r_goto 13 C dX10_isMissing_9 (by decide) ?_
    have h := Option.some.inj h
    subst h
    exact r_zret C dX10_isMissing_13 hr rfl hE
def fX10_begin (n : Nat) (a0 : Nat) (x1 : Int32) (x2 : Int32) (μ : Mu) : Option (Mu) := bnd (fJ7_fill_d0a16 n (a0 + 1) 40 0 (wI (wI μ a0 2 x1) a0 1 x2)) fun m2 => some m2
set_option maxRecDepth 100000 in
set_option maxHeartbeats 4000000 in
theorem tX10_begin {l : Launch} {w : WP} {sh : List Sh} {R : Rf} {μ : Mu} {μ' : Mu} (hY : LY sh R) (n : Nat) (a0 : Nat) (x1 : Int32) (x2 : Int32) (ha0 : isTr sh R a0) (h : fX10_begin n a0 x1 x2 μ = some μ') : CM l w yX10_begin cX10_begin 3 none 1 0 0 sh R [.ref (wb w + a0), .int x1, .int x2] μ none sh R μ' := by
  refine CM.of (plainFor_of_name pf_X10) (Nat.le_of_ble_eq_true rfl) fun Z C hr _ hR hw hl hE => ?_
  subst hw; subst hl
  have C : CX Z cX10_begin 3 RX10 := C
  show Wm Z (0, 0, sh, R) μ 0 [(0, .ref (wb (zw Z) + a0)), (1, .int x1), (2, .int x2)] []
  unfold fX10_begin at h
  refine r_aload_n C dX10_begin_0 0 rfl ?_
  refine r_iload_n C dX10_begin_1 1 rfl ?_
  refine r_putI C fiX10_19 dX10_begin_2 (isTr_0 ha0) ?_
  refine r_aload_n C dX10_begin_5 0 rfl ?_
  refine r_iload_n C dX10_begin_6 2 rfl ?_
  refine r_putI C fiX10_15 dX10_begin_7 (isTr_0 ha0) ?_
  refine r_aload_n C dX10_begin_10 0 rfl ?_
  refine r_getR C flX10_9 dX10_begin_11 (isTr_0 ha0) rfl (isTr_r0 ha0) ?_
  refine r_lconst C dX10_begin_14 lc_0 ?_
  obtain ⟨m2, e1, h⟩ := bnd_inv h
  refine r_cSv (As := [.ref (wb (zw Z) + (a0 + 1)), .long 0]) (rest := []) C hR mlX10_22 dX10_begin_15 (tJ7_fill_d0a16 hY n (a0 + 1) 40 0 (isTr_1 ha0) e1) rfl rfl (nle rfl) (nle rfl) (nle rfl) ?_
  have h := Option.some.inj h
  subst h
  exact r_vret C dX10_begin_18 hr hE
def fX10_cut (n : Nat) (a0 : Nat) (y1 : Int64) (μ : Mu) : Option (Int64) := if (rI μ a0 2) = 0 then (some (((y1.toInt32).toInt8.toInt32).toInt64)) else (if (rI μ a0 2) = 1 then (some (((y1.toInt32).toInt16.toInt32).toInt64)) else (if (rI μ a0 2) = 2 then (some ((y1.toInt32).toInt64)) else (some y1)))
set_option maxRecDepth 100000 in
set_option maxHeartbeats 4000000 in
theorem tX10_cut {l : Launch} {w : WP} {sh : List Sh} {R : Rf} {μ : Mu} {r : Int64} (hY : LY sh R) (n : Nat) (a0 : Nat) (y1 : Int64) (ha0 : isTr sh R a0) (h : fX10_cut n a0 y1 μ = some r) : CM l w yX10_cut cX10_cut 3 (some .long) 0 0 0 sh R [.ref (wb w + a0), .long y1] μ (some (.long r)) sh R μ := by
  refine CM.of (plainFor_of_name pf_X10) (Nat.le_of_ble_eq_true rfl) fun Z C hr _ hR hw hl hE => ?_
  subst hw; subst hl
  have C : CX Z cX10_cut 3 RX10 := C
  show Wm Z (0, 0, sh, R) μ 0 [(0, .ref (wb (zw Z) + a0)), (1, .long y1)] []
  unfold fX10_cut at h
  refine r_aload_n C dX10_cut_0 0 rfl ?_
  refine r_getI C flX10_19 dX10_cut_1 (isTr_0 ha0) rfl ?_
  by_cases c1 : (rI μ a0 2) = 0
  · have h := (ite_inv h).1 c1
    refine r_tabIn 32 C dX10_cut_4 (by rw [c1, ti_0]; decide) (by rw [c1, ti_0]; decide) (by rw [c1, ti_0]; rfl) (by decide) ?_
    refine r_lload_n C dX10_cut_32 1 rfl ?_
    refine r_l2i C dX10_cut_33 ?_
    refine r_i2b C dX10_cut_34 ?_
    refine r_i2l C dX10_cut_35 ?_
    have h := Option.some.inj h
    subst h
    exact r_lret C dX10_cut_36 hr hE
  have h := (ite_inv h).2 c1
  by_cases c2 : (rI μ a0 2) = 1
  · have h := (ite_inv h).1 c2
    refine r_tabIn 37 C dX10_cut_4 (by rw [c2, ti_1]; decide) (by rw [c2, ti_1]; decide) (by rw [c2, ti_1]; rfl) (by decide) ?_
    refine r_lload_n C dX10_cut_37 1 rfl ?_
    refine r_l2i C dX10_cut_38 ?_
    refine r_i2s C dX10_cut_39 ?_
    refine r_i2l C dX10_cut_40 ?_
    have h := Option.some.inj h
    subst h
    exact r_lret C dX10_cut_41 hr hE
  have h := (ite_inv h).2 c2
  by_cases c3 : (rI μ a0 2) = 2
  · have h := (ite_inv h).1 c3
    refine r_tabIn 42 C dX10_cut_4 (by rw [c3, ti_2]; decide) (by rw [c3, ti_2]; decide) (by rw [c3, ti_2]; rfl) (by decide) ?_
    refine r_lload_n C dX10_cut_42 1 rfl ?_
    refine r_l2i C dX10_cut_43 ?_
    refine r_i2l C dX10_cut_44 ?_
    have h := Option.some.inj h
    subst h
    exact r_lret C dX10_cut_45 hr hE
  have h := (ite_inv h).2 c3
  suffices hj : Wm Z (0, 0, sh, R) μ 46 [(0, .ref (wb (zw Z) + a0)), (1, .long y1)] [] by
    have q0 := tne c1 ti_0
    have q1 := tne c2 ti_1
    have q2 := tne c3 ti_2
    exact r_tabOut 46 C dX10_cut_4 (by omega) (by decide) hj
  refine r_lload_n C dX10_cut_46 1 rfl ?_
  have h := Option.some.inj h
  subst h
  exact r_lret C dX10_cut_47 hr hE
def fX10_put (n : Nat) (a0 : Nat) (x1 : Int32) (y2 : Int64) (μ : Mu) : Option (Int64 × Mu) := bnd (fX10_cut n a0 y2 μ) fun u2 => gd (ib x1 40) (gd (ib x1 40) (some (rL (wL μ (a0 + 1) (ix x1) u2) (a0 + 1) (ix x1), wL μ (a0 + 1) (ix x1) u2)))
set_option maxRecDepth 100000 in
set_option maxHeartbeats 4000000 in
theorem tX10_put {l : Launch} {w : WP} {sh : List Sh} {R : Rf} {μ : Mu} {r : Int64} {μ' : Mu} (hY : LY sh R) (n : Nat) (a0 : Nat) (x1 : Int32) (y2 : Int64) (ha0 : isTr sh R a0) (h : fX10_put n a0 x1 y2 μ = some (r, μ')) : CM l w yX10_put cX10_put 4 (some .long) 1 0 0 sh R [.ref (wb w + a0), .int x1, .long y2] μ (some (.long r)) sh R μ' := by
  refine CM.of (plainFor_of_name pf_X10) (Nat.le_of_ble_eq_true rfl) fun Z C hr _ hR hw hl hE => ?_
  subst hw; subst hl
  have C : CX Z cX10_put 4 RX10 := C
  show Wm Z (0, 0, sh, R) μ 0 [(0, .ref (wb (zw Z) + a0)), (1, .int x1), (2, .long y2)] []
  unfold fX10_put at h
  refine r_aload_n C dX10_put_0 0 rfl ?_
  refine r_getR C flX10_9 dX10_put_1 (isTr_0 ha0) rfl (isTr_r0 ha0) ?_
  refine r_iload_n C dX10_put_4 1 rfl ?_
  refine r_aload_n C dX10_put_5 0 rfl ?_
  refine r_lload_n C dX10_put_6 2 rfl ?_
  obtain ⟨u2, e1, h⟩ := bnd_inv h
  refine r_cVl (As := [.long y2]) (rest := [.int x1, .ref (wb (zw Z) + (a0 + 1))]) C hR mlX10_28 dX10_put_7 (tX10_cut hY n a0 y2 ha0 e1) rfl rfl (isTr_0 ha0) rfl (nle rfl) (nle rfl) (nle rfl) ?_
  obtain ⟨b3, h⟩ := gd_inv h
  refine r_last C dX10_put_10 (isTr_1 ha0) b3 ?_
  refine r_aload_n C dX10_put_11 0 rfl ?_
  refine r_getR C flX10_9 dX10_put_12 (isTr_0 ha0) rfl (isTr_r0 ha0) ?_
  refine r_iload_n C dX10_put_15 1 rfl ?_
  obtain ⟨b4, h⟩ := gd_inv h
  refine r_lald C dX10_put_16 (isTr_1 ha0) b4 ?_
  obtain ⟨h1, h2⟩ := Prod.mk.inj (Option.some.inj h)
  subst h1; subst h2
  exact r_lret C dX10_put_17 hr hE
def sX11_putOnTape_3 (n : Nat) (x1 : Int32) : Int32 × Mu → Option ((Int32 × Mu) ⊕ (Mu)) := fun q => match q with | (x2, μ) => if x2 < 0 then (some (.inr μ)) else (if 900 ≤ (rI μ 0 1) then (some (.inr μ)) else (gd (ib (rI μ 0 1) 900) (some (.inl (x2 + (-8), wI (wI μ 1 (ix (rI μ 0 1)) (vp_nar .byte ((shr x1 x2).toInt8.toInt32))) 0 1 ((rI (wI μ 1 (ix (rI μ 0 1)) (vp_nar .byte ((shr x1 x2).toInt8.toInt32))) 0 1) + 1))))))
set_option maxRecDepth 100000 in
set_option maxHeartbeats 4000000 in
theorem lX11_putOnTape_3 {Z : ZC} {sh : List Sh} {R : Rf} {o : (Int32 × Mu) ⊕ (Mu)} (C : CX Z cX11_putOnTape 3 RX11) (hR : zR Z = rm 0 0 0) (hY : LY sh R) (n : Nat) (x1 : Int32) (x2 : Int32) (μ : Mu) (h : sX11_putOnTape_3 n x1 (x2, μ) = some o) (kin : ∀ (x2 : Int32) (μ : Mu), o = .inl (x2, μ) → Wm Z (0, 0, sh, R) μ 3 [(0, .ref (wb (zw Z) + 0)), (1, .int x1), (2, .int x2)] []) (kex0 : ∀ (μ : Mu), o = .inr μ → Wm Z (0, 0, sh, R) μ 46 [] []) : Wm Z (0, 0, sh, R) μ 3 [(0, .ref (wb (zw Z) + 0)), (1, .int x1), (2, .int x2)] [] := by
  unfold sX11_putOnTape_3 at h
  refine r_iload_n C dX11_putOnTape_3 2 rfl ?_
  refine r_if_lt 46 C dX11_putOnTape_4 (by decide) (fun c1 => ?_) (fun c1 => ?_)
  · have h := (ite_inv h).1 c1
    refine r_sub [] [] rfl ?_
    exact kex0 μ (Option.some.inj h).symm
  · have h := (ite_inv h).2 c1
    refine r_aload_n C dX11_putOnTape_7 0 rfl ?_
    refine r_getI C flX11_13 dX11_putOnTape_8 (ly0 hY) rfl ?_
    refine r_sipush C dX11_putOnTape_11 sp_900 ?_
    refine r_icmp_ge 46 C dX11_putOnTape_14 (by decide) (fun c2 => ?_) (fun c2 => ?_)
    · have h := (ite_inv h).1 c2
      refine r_sub [] [] rfl ?_
      exact kex0 μ (Option.some.inj h).symm
    · have h := (ite_inv h).2 c2
      refine r_aload_n C dX11_putOnTape_17 0 rfl ?_
      refine r_getR C flX11_9 dX11_putOnTape_18 (ly0 hY) rfl (lr0_0 hY) ?_
      refine r_aload_n C dX11_putOnTape_21 0 rfl ?_
      refine r_getI C flX11_13 dX11_putOnTape_22 (ly0 hY) rfl ?_
      refine r_iload_n C dX11_putOnTape_25 1 rfl ?_
      refine r_iload_n C dX11_putOnTape_26 2 rfl ?_
      refine r_ishr C dX11_putOnTape_27 ?_
      refine r_i2b C dX11_putOnTape_28 ?_
      obtain ⟨b3, h⟩ := gd_inv h
      refine r_bast C dX11_putOnTape_29 (ly1 hY) b3 ?_
      refine r_aload_n C dX11_putOnTape_30 0 rfl ?_
      refine r_dup C dX11_putOnTape_31 rfl ?_
      refine r_getI C flX11_13 dX11_putOnTape_32 (ly0 hY) rfl ?_
      refine r_iconst C dX11_putOnTape_35 ic_1 ?_
      refine r_iadd C dX11_putOnTape_36 ?_
      refine r_putI C fiX11_13 dX11_putOnTape_37 (ly0 hY) ?_
      refine r_iinc [(2, .int (x2 + (-8))), (0, .ref (wb (zw Z) + 0)), (1, .int x1)] C dX11_putOnTape_40 2 rfl (in_m8 _) (by decide) rfl ?_
      refine r_goto 3 C dX11_putOnTape_43 (by decide) ?_
      refine r_sub [(0, .ref (wb (zw Z) + 0)), (1, .int x1), (2, .int (x2 + (-8)))] [1, 2, 0] rfl ?_
      exact kin (x2 + (-8)) (wI (wI μ 1 (ix (rI μ 0 1)) (vp_nar .byte ((shr x1 x2).toInt8.toInt32))) 0 1 ((rI (wI μ 1 (ix (rI μ 0 1)) (vp_nar .byte ((shr x1 x2).toInt8.toInt32))) 0 1) + 1)) (Option.some.inj h).symm
def fX11_putOnTape (n : Nat) (x1 : Int32) (μ : Mu) : Option (Mu) := bnd (lp n (sX11_putOnTape_3 n x1) (24, μ)) fun q => match q with | m4 => some m4
set_option maxRecDepth 100000 in
set_option maxHeartbeats 4000000 in
theorem tX11_putOnTape {l : Launch} {w : WP} {sh : List Sh} {R : Rf} {μ : Mu} {μ' : Mu} (hY : LY sh R) (n : Nat) (x1 : Int32)  (h : fX11_putOnTape n x1 μ = some μ') : CM l w yX11_putOnTape cX11_putOnTape 3 none 0 0 0 sh R [.ref (wb w + 0), .int x1] μ none sh R μ' := by
  refine CM.of (plainFor_of_name pf_X11) (Nat.le_of_ble_eq_true rfl) fun Z C hr _ hR hw hl hE => ?_
  subst hw; subst hl
  have C : CX Z cX11_putOnTape 3 RX11 := C
  show Wm Z (0, 0, sh, R) μ 0 [(0, .ref (wb (zw Z) + 0)), (1, .int x1)] []
  unfold fX11_putOnTape at h
  refine r_bipush C dX11_putOnTape_0 bp_24 ?_
  refine r_istore_n [(2, .int 24), (0, .ref (wb (zw Z) + 0)), (1, .int x1)] C dX11_putOnTape_2 rfl (by decide) rfl ?_
  refine r_sub [(0, .ref (wb (zw Z) + 0)), (1, .int x1), (2, .int 24)] [1, 2, 0] rfl ?_
  obtain ⟨m4, e5, h⟩ := bnd_inv h
  refine lp_all (sX11_putOnTape_3 n x1) (fun q => match q with | (z2, ν) => Wm Z (0, 0, sh, R) (ν) 3 [(0, .ref (wb (zw Z) + 0)), (1, .int x1), (2, .int z2)] []) (fun q => match q with | ν => Wm Z (0, 0, sh, R) (ν) 46 [] []) (fun q o h kin kex => ?_) n (24, μ) m4 e5 ?_
  · obtain ⟨z2, ν⟩ := q; exact lX11_putOnTape_3 C hR hY n   x1 z2 ν h (fun z2 ν e => kin (z2, ν) e) (fun ν e => kex (ν) e)
  show Wm Z (0, 0, sh, R) m4 46 [] []
  have h := Option.some.inj h
  subst h
  exact r_vret C dX11_putOnTape_46 hr hE
def fX11_feed (n : Nat) (x1 : Int32) (x2 : Int32) (x3 : Int32) (x4 : Int32) (x5 : Int32) (μ : Mu) : Option (Int32 × Mu) := if ((rI μ 0 1) + 20) ≤ 900 then (bnd (fX11_putOnTape n x1 μ) fun m3 => bnd (fX11_putOnTape n x2 m3) fun m5 => bnd (fX11_putOnTape n x3 m5) fun m7 => bnd (fX11_putOnTape n x4 m7) fun m9 => bnd (fX11_putOnTape n x5 m9) fun m11 => some (rI m11 0 1, m11)) else (some ((-5), μ))
set_option maxRecDepth 100000 in
set_option maxHeartbeats 4000000 in
theorem tX11_feed {l : Launch} {w : WP} {sh : List Sh} {R : Rf} {μ : Mu} {r : Int32} {μ' : Mu} (hY : LY sh R) (n : Nat) (x1 : Int32) (x2 : Int32) (x3 : Int32) (x4 : Int32) (x5 : Int32)  (h : fX11_feed n x1 x2 x3 x4 x5 μ = some (r, μ')) : CM l w yX11_feed cX11_feed 6 (some .int) 1 0 0 sh R [.ref (wb w + 0), .int x1, .int x2, .int x3, .int x4, .int x5] μ (some (.int r)) sh R μ' := by
  refine CM.of (plainFor_of_name pf_X11) (Nat.le_of_ble_eq_true rfl) fun Z C hr _ hR hw hl hE => ?_
  subst hw; subst hl
  have C : CX Z cX11_feed 6 RX11 := C
  show Wm Z (0, 0, sh, R) μ 0 [(0, .ref (wb (zw Z) + 0)), (1, .int x1), (2, .int x2), (3, .int x3), (4, .int x4), (5, .int x5)] []
  unfold fX11_feed at h
  refine r_aload_n C dX11_feed_0 0 rfl ?_
  refine r_getI C flX11_13 dX11_feed_1 (ly0 hY) rfl ?_
  refine r_bipush C dX11_feed_4 bp_20 ?_
  refine r_iadd C dX11_feed_6 ?_
  refine r_sipush C dX11_feed_7 sp_900 ?_
  refine r_icmp_le 16 C dX11_feed_10 (by decide) (fun c1 => ?_) (fun c1 => ?_)
  · have h := (ite_inv h).1 c1
    refine r_aload_n C dX11_feed_16 0 rfl ?_
    refine r_iload_n C dX11_feed_17 1 rfl ?_
    obtain ⟨m3, e2, h⟩ := bnd_inv h
    refine r_cVv (As := [.int x1]) (rest := []) C hR mlX11_96 dX11_feed_18 (tX11_putOnTape hY n x1  e2) rfl rfl (ly0 hY) rfl (nle rfl) (nle rfl) (nle rfl) ?_
    refine r_aload_n C dX11_feed_21 0 rfl ?_
    refine r_iload_n C dX11_feed_22 2 rfl ?_
    obtain ⟨m5, e4, h⟩ := bnd_inv h
    refine r_cVv (As := [.int x2]) (rest := []) C hR mlX11_96 dX11_feed_23 (tX11_putOnTape hY n x2  e4) rfl rfl (ly0 hY) rfl (nle rfl) (nle rfl) (nle rfl) ?_
    refine r_aload_n C dX11_feed_26 0 rfl ?_
    refine r_iload_n C dX11_feed_27 3 rfl ?_
    obtain ⟨m7, e6, h⟩ := bnd_inv h
    refine r_cVv (As := [.int x3]) (rest := []) C hR mlX11_96 dX11_feed_28 (tX11_putOnTape hY n x3  e6) rfl rfl (ly0 hY) rfl (nle rfl) (nle rfl) (nle rfl) ?_
    refine r_aload_n C dX11_feed_31 0 rfl ?_
    refine r_iload C dX11_feed_32 4 rfl ?_
    obtain ⟨m9, e8, h⟩ := bnd_inv h
    refine r_cVv (As := [.int x4]) (rest := []) C hR mlX11_96 dX11_feed_34 (tX11_putOnTape hY n x4  e8) rfl rfl (ly0 hY) rfl (nle rfl) (nle rfl) (nle rfl) ?_
    refine r_aload_n C dX11_feed_37 0 rfl ?_
    refine r_iload C dX11_feed_38 5 rfl ?_
    obtain ⟨m11, e10, h⟩ := bnd_inv h
    refine r_cVv (As := [.int x5]) (rest := []) C hR mlX11_96 dX11_feed_40 (tX11_putOnTape hY n x5  e10) rfl rfl (ly0 hY) rfl (nle rfl) (nle rfl) (nle rfl) ?_
    refine r_aload_n C dX11_feed_43 0 rfl ?_
    refine r_getI C flX11_13 dX11_feed_44 (ly0 hY) rfl ?_
    obtain ⟨h1, h2⟩ := Prod.mk.inj (Option.some.inj h)
    subst h1; subst h2
    exact r_iret C dX11_feed_47 hr hE
  · have h := (ite_inv h).2 c1
    refine r_bipush C dX11_feed_13 bp_m5 ?_
    obtain ⟨h1, h2⟩ := Prod.mk.inj (Option.some.inj h)
    subst h1; subst h2
    exact r_iret C dX11_feed_15 hr hE
