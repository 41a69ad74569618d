theorem fwJ0_9 : Cond.fieldLink RJ0 9 "java/lang/String" "value" "[B" ∈ GT := GT_c8 (i := 151) rfl rfl
theorem fwJ0_15 : Cond.fieldLink RJ0 15 "java/lang/String" "coder" "B" ∈ GT := GT_c8 (i := 152) rfl rfl
theorem fwJ0_38 : Cond.fieldLink RJ0 38 "java/lang/String" "COMPACT_STRINGS" "Z" ∈ GT := GT_c2 (i := 231) rfl rfl
theorem fwJ0_1053 : Cond.fieldLink RJ0 1053 "jdk/internal/util/Preconditions" "SIOOBE_FORMATTER" "Ljava/util/function/BiFunction;" ∈ GT := GT_c3 (i := 7) rfl rfl
section
variable {Z : ZC} {G : GC} {μ μ' : Mu} {pc : Nat} {lv : List (Nat × Value)} {r : List Value} {cc : ByteArray} {nL : Nat} {own : String}
theorem CX.S (C : CX Z cc nL own) : vk_S 3 lenS bytS (zw Z).2.2.2.1 (zw Z).2.2.2.2 (Ab (zw Z)) (zs Z) (zs Z).heap := C.2.2.2.2.2.2.1.2.1
theorem r_sval {k idx : Nat} (C : CX Z cc nL own) (hk : k < 3) (hw : Cond.fieldLink own idx "java/lang/String" "value" "[B" ∈ GT) (d : decode cc pc = .ok (.getfield idx, 3)) (kk : Wm Z G μ (pc + 3) lv (.ref ((zw Z).2.2.2.2 k) :: r)) : Wm Z G μ pc lv (.ref ((zw Z).2.2.2.1 k) :: r) :=
  fun H locs hH hS ls hl => vk_getf C.1 C.2.1 (C.S.1 k hk).2.2.1 hS C.2.2.2.1 (C.w hw) (fun _ h => h) d (kk H locs hH hS ls hl)
theorem r_scod {k idx : Nat} (C : CX Z cc nL own) (hk : k < 3) (hw : Cond.fieldLink own idx "java/lang/String" "coder" "B" ∈ GT) (d : decode cc pc = .ok (.getfield idx, 3)) (kk : Wm Z G μ (pc + 3) lv (.int 0 :: r)) : Wm Z G μ pc lv (.ref ((zw Z).2.2.2.1 k) :: r) :=
  fun H locs hH hS ls hl => vk_getf C.1 C.2.1 (C.S.1 k hk).2.1 hS C.2.2.2.1 (C.w hw) (fun _ h => h) d (kk H locs hH hS ls hl)
theorem r_scmp {idx : Nat} (C : CX Z cc nL own) (hw : Cond.fieldLink own idx "java/lang/String" "COMPACT_STRINGS" "Z" ∈ GT) (d : decode cc pc = .ok (.getstatic idx, 3)) (kk : Wm Z G μ (pc + 3) lv (.int 1 :: r)) : Wm Z G μ pc lv r :=
  fun H locs hH hS ls hl => va_gets C.1 C.2.1 C.2.2.2.2.2.2.1.2.2.2.1.1 hS C.2.2.2.1 (C.w hw) (fun _ h => h) d (kk H locs hH hS ls hl)
theorem r_sfmt {idx : Nat} (C : CX Z cc nL own) (hw : Cond.fieldLink own idx "jdk/internal/util/Preconditions" "SIOOBE_FORMATTER" "Ljava/util/function/BiFunction;" ∈ GT) (d : decode cc pc = .ok (.getstatic idx, 3)) (kk : ∀ v : Value, (v = .null ∨ ∃ t : Nat, v = .ref t) → Wm Z G μ (pc + 3) lv (v :: r)) : Wm Z G μ pc lv r := by
  intro H locs hH hS ls hl
  rcases C.2.2.2.2.2.2.1.2.2.2.1.2 with h | ⟨t, h⟩
  · exact va_gets C.1 C.2.1 h hS C.2.2.2.1 (C.w hw) (fun _ h => h) d (kk .null (Or.inl rfl) H locs hH hS ls hl)
  · exact va_gets C.1 C.2.1 h hS C.2.2.2.1 (C.w hw) (fun _ h => h) d (kk (.ref t) (Or.inr ⟨t, rfl⟩) H locs hH hS ls hl)
theorem r_slen {k : Nat} {v : Int32} (C : CX Z cc nL own) (hk : k < 3) (hv : Int32.ofNat (lenS.getD k 0) = v) (d : decode cc pc = .ok (.arraylength, 1)) (kk : Wm Z G μ (pc + 1) lv (.int v :: r)) : Wm Z G μ pc lv (.ref ((zw Z).2.2.2.2 k) :: r) :=
  fun H locs hH hS ls hl => va_tlen C.1 C.2.1 (C.S.1 k hk).2.2.2 hS hv d (kk H locs hH hS ls hl)
theorem r_sbyt {k : Nat} {i : Int32} (C : CX Z cc nL own) (hk : k < 3) (hi : ib i (lenS.getD k 0) = true) (d : decode cc pc = .ok (.baload, 1)) (kk : Wm Z G μ (pc + 1) lv (.int (sch k (ix i)) :: r)) : Wm Z G μ pc lv (.int i :: .ref ((zw Z).2.2.2.2 k) :: r) :=
  fun H locs hH hS ls hl => va_tb C.1 C.2.1 (C.S.1 k hk).2.2.2 hS (ib_in hi) rfl d (kk H locs hH hS ls hl)
/-- a call on a string constant -/
theorem r_cW {cc' : ByteArray} {nL' n idx d' k d0 : Nat} {y : MethodName} {ret : Option FieldType} {sh : List Sh} {R : Rf} {x : Int32} {As rest st : List Value} (C : CX Z cc nL own) (hR : zR Z = rm d0 0 0) (L : VL own idx y cc' nL' ret n) (d : decode cc pc = .ok (.invokevirtual idx, 3))
    (M : CM Z.1.2.1 (zw Z) y cc' nL' ret d' 0 0 sh R (.ref ((zw Z).2.2.2.1 k) :: As) μ (some (.int x)) sh R μ ∧ k < 3 ∧ y.cls = "java/lang/String") (hst : st = As.reverse ++ .ref ((zw Z).2.2.2.1 k) :: rest) (hn : As.length = n) (h1 : d' + 1 ≤ d0) (h2 : nL' ≤ 41) (hW : (rest.map fun v => v.category).sum ≤ 8)
    (kk : Wm Z (0, 0, sh, R) μ (pc + 3) lv (.int x :: rest)) : Wm Z (0, 0, sh, R) μ pc lv st := by
  intro H locs hH hS ls hl
  obtain ⟨⟨g1, g2, g3, g4⟩, g5, g6⟩ := L
  refine run_go (va_runV (C := y.cls) (b := (zw Z).2.2.2.1 k) (As := As) (rest := rest) (n := n) (C_fix C) M.1 ⟨callB_g C g1 g4 g5 g6 (rmO hR h1 h2), C.w g2, C.w g3⟩ ⟨PcW.blind, ?_, fun U hU hW => C_pre C rfl hH hS _ U hU hW⟩ rfl hn (by rw [← C.nn]; exact hl.1) hst (by show 2 * 0 + _ ≤ 8; omega) d ⟨Nat.zero_le _, Nat.zero_le _⟩) hS (fun H1 locs1 hH1 hS1 => kk H1 locs1 hH1 hS1 ls hl)
  rw [M.2.2]
  exact vk_recv C.S M.2.1 hS
end
theorem drop_c {l : List Int32} {j : Nat} (h : j < l.length) : l.drop j = l.getD j 0 :: l.drop (j + 1) := by
  rw [List.drop_eq_getElem_cons h]
  simp [List.getD, h]
theorem shr0 (x : Int32) : shr x 0 = x := by simp [shr]
set_option maxRecDepth 100000 in
theorem t_coder {l : Launch} {w : WP} {sh : List Sh} {R : Rf} {μ : Mu} {k : Nat} (hk : k < 3) : CM l w yJ0_coder_7d493 cJ0_coder_7d493 1 (some .byte) 0 0 0 sh R [.ref (w.2.2.2.1 k)] μ (some (.int 0)) sh R μ := by
  refine CM.of (by decide +kernel) (Nat.le_of_ble_eq_true rfl) fun Z C hr _ hR hw hl hE => ?_
  subst hw; subst hl
  have C : CX Z cJ0_coder_7d493 1 RJ0 := C
  show Wm Z (0, 0, sh, R) μ 0 [(0, .ref ((zw Z).2.2.2.1 k))] []
  refine r_scmp C fwJ0_38 dJ0_coder_7d493_0 ?_
  refine r_if_eq 13 C dJ0_coder_7d493_3 (by decide) (fun c => absurd c (by decide)) (fun _ => ?_)
  refine r_aload_n C dJ0_coder_7d493_6 0 rfl ?_
  refine r_scod C hk fwJ0_15 dJ0_coder_7d493_7 ?_
  refine r_goto 14 C dJ0_coder_7d493_10 (by decide) ?_
  exact r_zret C dJ0_coder_7d493_14 hr rfl hE
set_option maxRecDepth 100000 in
theorem t_lat {l : Launch} {w : WP} {sh : List Sh} {R : Rf} {μ : Mu} {k : Nat} (hk : k < 3) : CM l w yJ0_isLatin1_aae02 cJ0_isLatin1_aae02 1 (some .boolean) 0 0 0 sh R [.ref (w.2.2.2.1 k)] μ (some (.int 1)) sh R μ := by
  refine CM.of (by decide +kernel) (Nat.le_of_ble_eq_true rfl) fun Z C hr _ hR hw hl hE => ?_
  subst hw; subst hl
  have C : CX Z cJ0_isLatin1_aae02 1 RJ0 := C
  show Wm Z (0, 0, sh, R) μ 0 [(0, .ref ((zw Z).2.2.2.1 k))] []
  refine r_scmp C fwJ0_38 dJ0_isLatin1_aae02_0 ?_
  refine r_if_eq 17 C dJ0_isLatin1_aae02_3 (by decide) (fun c => absurd c (by decide)) (fun _ => ?_)
  refine r_aload_n C dJ0_isLatin1_aae02_6 0 rfl ?_
  refine r_scod C hk fwJ0_15 dJ0_isLatin1_aae02_7 ?_
  refine r_if_ne 17 C dJ0_isLatin1_aae02_10 (by decide) (fun c => absurd rfl c) (fun _ => ?_)
  refine r_iconst C dJ0_isLatin1_aae02_13 ic_1 ?_
  refine r_goto 18 C dJ0_isLatin1_aae02_14 (by decide) ?_
  exact r_zret C dJ0_isLatin1_aae02_18 hr rfl hE
set_option maxRecDepth 100000 in
theorem t_slen {l : Launch} {w : WP} {sh : List Sh} {R : Rf} {μ : Mu} {k : Nat} (hk : k < 3) : CM l w yJ0_length_8abf5 cJ0_length_8abf5 1 (some .int) 1 0 0 sh R [.ref (w.2.2.2.1 k)] μ (some (.int (Int32.ofNat (lenS.getD k 0)))) sh R μ := by
  refine CM.of (by decide +kernel) (Nat.le_of_ble_eq_true rfl) fun Z C hr _ hR hw hl hE => ?_
  subst hw; subst hl
  have C : CX Z cJ0_length_8abf5 1 RJ0 := C
  show Wm Z (0, 0, sh, R) μ 0 [(0, .ref ((zw Z).2.2.2.1 k))] []
  refine r_aload_n C dJ0_length_8abf5_0 0 rfl ?_
  refine r_sval C hk fwJ0_9 dJ0_length_8abf5_1 ?_
  refine r_slen C hk rfl dJ0_length_8abf5_4 ?_
  refine r_aload_n C dJ0_length_8abf5_5 0 rfl ?_
  refine r_cW (As := []) (rest := [.int (Int32.ofNat (lenS.getD k 0))]) C hR mlJ0_335 dJ0_length_8abf5_6 ⟨t_coder hk, hk, rfl⟩ rfl rfl (nle rfl) (nle rfl) (nle rfl) ?_
  refine r_ishr C dJ0_length_8abf5_9 ?_
  rw [shr0]
  exact r_iret C dJ0_length_8abf5_10 hr hE
set_option maxRecDepth 100000 in
theorem t_pchk {l : Launch} {w : WP} {sh : List Sh} {R : Rf} {μ : Mu} {i n : Int32} {v : Value} (hv : v = .null ∨ ∃ t : Nat, v = .ref t) (h0 : ¬ i < 0) (h1 : i < n) : CM l w yJ3_checkIndex_8e157 cJ3_checkIndex_8e157 3 (some .int) 0 0 0 sh R [.int i, .int n, v] μ (some (.int i)) sh R μ := by
  have hsl : (lg_sl [.int i, .int n, v]).length ≤ 3 := by rcases hv with rfl | ⟨t, rfl⟩ <;> exact Nat.le_of_ble_eq_true rfl
  have hlv : lv_args 0 [.int i, .int n, v] = [(0, .int i), (1, .int n), (2, v)] := by rcases hv with rfl | ⟨t, rfl⟩ <;> rfl
  refine CM.of (by decide +kernel) hsl fun Z C hr _ hR hw hl hE => ?_
  subst hw; subst hl
  have C : CX Z cJ3_checkIndex_8e157 3 RJ3 := C
  rw [hlv]
  refine r_iload_n C dJ3_checkIndex_8e157_0 0 rfl ?_
  refine r_if_lt 9 C dJ3_checkIndex_8e157_1 (by decide) (fun c => absurd c h0) (fun _ => ?_)
  refine r_iload_n C dJ3_checkIndex_8e157_4 0 rfl ?_
  refine r_iload_n C dJ3_checkIndex_8e157_5 1 rfl ?_
  refine r_icmp_lt 16 C dJ3_checkIndex_8e157_6 (by decide) (fun _ => ?_) (fun c => absurd h1 c)
  refine r_iload_n C dJ3_checkIndex_8e157_16 0 rfl ?_
  exact r_iret C dJ3_checkIndex_8e157_17 hr hE
set_option maxRecDepth 100000 in
theorem t_schk {l : Launch} {w : WP} {sh : List Sh} {R : Rf} {μ : Mu} {i n : Int32} (h0 : ¬ i < 0) (h1 : i < n) : CM l w yJ0_checkIndex_df160 cJ0_checkIndex_df160 2 none 1 0 0 sh R [.int i, .int n] μ none sh R μ := by
  refine CM.of (by decide +kernel) (Nat.le_of_ble_eq_true rfl) fun Z C hr _ hR hw hl hE => ?_
  subst hw; subst hl
  have C : CX Z cJ0_checkIndex_df160 2 RJ0 := C
  show Wm Z (0, 0, sh, R) μ 0 [(0, .int i), (1, .int n)] []
  refine r_iload_n C dJ0_checkIndex_df160_0 0 rfl ?_
  refine r_iload_n C dJ0_checkIndex_df160_1 1 rfl ?_
  refine r_sfmt C fwJ0_1053 dJ0_checkIndex_df160_2 fun v hv => ?_
  refine r_cSi (As := [.int i, .int n, v]) (rest := []) C hR mlJ0_1059 dJ0_checkIndex_df160_5 (t_pchk hv h0 h1) rfl rfl (nle rfl) (nle rfl) (nle rfl) ?_
  refine r_pop C dJ0_checkIndex_df160_8 rfl ?_
  exact r_vret C dJ0_checkIndex_df160_9 hr hE
theorem sch_c : ∀ k, k < 3 → ∀ i, i < lenS.getD k 0 → ((sch k i &&& 255).toUInt32 % 65536).toInt32 = sch k i ∧ narrow .char (.int (sch k i)) = .int (sch k i) := by decide +kernel
set_option maxRecDepth 100000 in
theorem t_lchr {l : Launch} {w : WP} {sh : List Sh} {R : Rf} {μ : Mu} {k : Nat} {i : Int32} (hk : k < 3) (hi : ib i (lenS.getD k 0) = true) : CM l w yJ1_charAt_3b067 cJ1_charAt_3b067 2 (some .char) 2 0 0 sh R [.ref (w.2.2.2.2 k), .int i] μ (some (.int (sch k (ix i)))) sh R μ := by
  refine CM.of (by decide +kernel) (Nat.le_of_ble_eq_true rfl) fun Z C hr _ hR hw hl hE => ?_
  subst hw; subst hl
  have C : CX Z cJ1_charAt_3b067 2 RJ1 := C
  show Wm Z (0, 0, sh, R) μ 0 [(0, .ref ((zw Z).2.2.2.2 k)), (1, .int i)] []
  have hin := ib_in hi
  have hlt := ib_lt hi
  have hL : lenS.getD k 0 < 2 ^ 31 := by rcases (show k = 0 ∨ k = 1 ∨ k = 2 by omega) with rfl | rfl | rfl <;> decide
  have h0 : ¬ i < 0 := fun q => hin (Or.inl q)
  have h1 : i < Int32.ofNat (lenS.getD k 0) := by
    obtain ⟨j, hj, rfl⟩ := vp_in_of hin hL
    exact nI_lt hj hL
  refine r_iload_n C dJ1_charAt_3b067_0 1 rfl ?_
  refine r_aload_n C dJ1_charAt_3b067_1 0 rfl ?_
  refine r_slen C hk rfl dJ1_charAt_3b067_2 ?_
  refine r_cSv (As := [.int i, .int (Int32.ofNat (lenS.getD k 0))]) (rest := []) C hR mlJ1_9 dJ1_charAt_3b067_3 (t_schk h0 h1) rfl rfl (nle rfl) (nle rfl) (nle rfl) ?_
  refine r_aload_n C dJ1_charAt_3b067_6 0 rfl ?_
  refine r_iload_n C dJ1_charAt_3b067_7 1 rfl ?_
  refine r_sbyt C hk hi dJ1_charAt_3b067_8 ?_
  refine r_sipush C dJ1_charAt_3b067_9 sp_255 ?_
  refine r_iand C dJ1_charAt_3b067_12 ?_
  refine r_i2c C dJ1_charAt_3b067_13 ?_
  obtain ⟨e1, e2⟩ := sch_c k hk (ix i) hlt
  rw [e1]
  exact r_zret C dJ1_charAt_3b067_14 hr e2 hE
set_option maxRecDepth 100000 in
theorem t_scha {l : Launch} {w : WP} {sh : List Sh} {R : Rf} {μ : Mu} {k : Nat} {i : Int32} (hk : k < 3) (hi : ib i (lenS.getD k 0) = true) : CM l w yJ0_charAt_5068e cJ0_charAt_5068e 2 (some .char) 3 0 0 sh R [.ref (w.2.2.2.1 k), .int i] μ (some (.int (sch k (ix i)))) sh R μ := by
  refine CM.of (by decide +kernel) (Nat.le_of_ble_eq_true rfl) fun Z C hr _ hR hw hl hE => ?_
  subst hw; subst hl
  have C : CX Z cJ0_charAt_5068e 2 RJ0 := C
  show Wm Z (0, 0, sh, R) μ 0 [(0, .ref ((zw Z).2.2.2.1 k)), (1, .int i)] []
  refine r_aload_n C dJ0_charAt_5068e_0 0 rfl ?_
  refine r_cW (As := []) (rest := []) C hR mlJ0_492 dJ0_charAt_5068e_1 ⟨t_lat hk, hk, rfl⟩ rfl rfl (nle rfl) (nle rfl) (nle rfl) ?_
  refine r_if_eq 16 C dJ0_charAt_5068e_4 (by decide) (fun c => absurd c (by decide)) (fun _ => ?_)
  refine r_aload_n C dJ0_charAt_5068e_7 0 rfl ?_
  refine r_sval C hk fwJ0_9 dJ0_charAt_5068e_8 ?_
  refine r_iload_n C dJ0_charAt_5068e_11 1 rfl ?_
  refine r_cSi (As := [.ref ((zw Z).2.2.2.2 k), .int i]) (rest := []) C hR mlJ0_495 dJ0_charAt_5068e_12 (t_lchr hk hi) rfl rfl (nle rfl) (nle rfl) (nle rfl) ?_
  exact r_zret C dJ0_charAt_5068e_15 hr (sch_c k hk (ix i) (ib_lt hi)).2 hE
theorem t_slen0 {l : Launch} {w : WP} {sh : List Sh} {R : Rf} {μ : Mu} (_ : LY sh R) : CM l w yJ0_length_8abf5 cJ0_length_8abf5 1 (some .int) 1 0 0 sh R [.ref (w.2.2.2.1 0)] μ (some (.int 112)) sh R μ ∧ 0 < 3 ∧ yJ0_length_8abf5.cls = "java/lang/String" := ⟨t_slen (k := 0) (by decide), by decide, rfl⟩
theorem t_slen1 {l : Launch} {w : WP} {sh : List Sh} {R : Rf} {μ : Mu} (_ : LY sh R) : CM l w yJ0_length_8abf5 cJ0_length_8abf5 1 (some .int) 1 0 0 sh R [.ref (w.2.2.2.1 1)] μ (some (.int 12)) sh R μ ∧ 1 < 3 ∧ yJ0_length_8abf5.cls = "java/lang/String" := ⟨t_slen (k := 1) (by decide), by decide, rfl⟩
theorem t_slen2 {l : Launch} {w : WP} {sh : List Sh} {R : Rf} {μ : Mu} (_ : LY sh R) : CM l w yJ0_length_8abf5 cJ0_length_8abf5 1 (some .int) 1 0 0 sh R [.ref (w.2.2.2.1 2)] μ (some (.int 113)) sh R μ ∧ 2 < 3 ∧ yJ0_length_8abf5.cls = "java/lang/String" := ⟨t_slen (k := 2) (by decide), by decide, rfl⟩
theorem t_scha0 {l : Launch} {w : WP} {sh : List Sh} {R : Rf} {μ : Mu} {i : Int32} (_ : LY sh R) (hi : ib i 112 = true) : CM l w yJ0_charAt_5068e cJ0_charAt_5068e 2 (some .char) 3 0 0 sh R [.ref (w.2.2.2.1 0), .int i] μ (some (.int (sch 0 (ix i)))) sh R μ ∧ 0 < 3 ∧ yJ0_charAt_5068e.cls = "java/lang/String" := ⟨t_scha (k := 0) (by decide) hi, by decide, rfl⟩
theorem t_scha1 {l : Launch} {w : WP} {sh : List Sh} {R : Rf} {μ : Mu} {i : Int32} (_ : LY sh R) (hi : ib i 12 = true) : CM l w yJ0_charAt_5068e cJ0_charAt_5068e 2 (some .char) 3 0 0 sh R [.ref (w.2.2.2.1 1), .int i] μ (some (.int (sch 1 (ix i)))) sh R μ ∧ 1 < 3 ∧ yJ0_charAt_5068e.cls = "java/lang/String" := ⟨t_scha (k := 1) (by decide) hi, by decide, rfl⟩
theorem t_scha2 {l : Launch} {w : WP} {sh : List Sh} {R : Rf} {μ : Mu} {i : Int32} (_ : LY sh R) (hi : ib i 113 = true) : CM l w yJ0_charAt_5068e cJ0_charAt_5068e 2 (some .char) 3 0 0 sh R [.ref (w.2.2.2.1 2), .int i] μ (some (.int (sch 2 (ix i)))) sh R μ ∧ 2 < 3 ∧ yJ0_charAt_5068e.cls = "java/lang/String" := ⟨t_scha (k := 2) (by decide) hi, by decide, rfl⟩
/-! indexOf in the signs -/
set_option maxRecDepth 100000 in
theorem l_six {Z : ZC} {sh : List Sh} {R : Rf} {μ : Mu} {x1 : Int32} (C : CX Z cJ1_indexOfChar_4cfef 6 RJ1) (hr : (zme Z).sig.returnType = some .int) : ∀ (m j : Nat), j + m = 12 → zEnd Z (0, 0, sh, R) μ (some (.int (sixF (x1.toInt8.toInt32) ((bytS.getD 1 []).drop j) (nI j)))) → Wm Z (0, 0, sh, R) μ 7 [(5, .int (nI j)), (4, .int x1.toInt8.toInt32), (0, .ref ((zw Z).2.2.2.2 1)), (1, .int x1), (2, .int 0), (3, .int 12)] [] := by
  intro m
  induction m with
  | zero =>
    intro j hj hE
    have hj : j = 12 := by omega
    subst hj
    refine r_iload C dJ1_indexOfChar_4cfef_7 0 rfl ?_
    refine r_iload_n C dJ1_indexOfChar_4cfef_9 5 rfl ?_
    refine r_icmp_ge 31 C dJ1_indexOfChar_4cfef_10 (by decide) (fun _ => ?_) (fun c => absurd (by decide) c)
    refine r_iconst C dJ1_indexOfChar_4cfef_31 ic_m1 ?_
    exact r_iret C dJ1_indexOfChar_4cfef_32 hr hE
  | succ m ih =>
    intro j hj hE
    have hlt : j < 12 := by omega
    have hib : ib (nI j) 12 = true := decide_eq_true (vp_in_nI hlt (by decide))
    have hix : ix (nI j) = j := nI_clamp (by omega)
    have hd : (bytS.getD 1 []).drop j = sch 1 j :: (bytS.getD 1 []).drop (j + 1) := drop_c (by have h12 : (bytS.getD 1 []).length = 12 := (by decide); omega)
    rw [hd, sixF] at hE
    refine r_iload C dJ1_indexOfChar_4cfef_7 0 rfl ?_
    refine r_iload_n C dJ1_indexOfChar_4cfef_9 5 rfl ?_
    refine r_icmp_ge 31 C dJ1_indexOfChar_4cfef_10 (by decide) (fun c => absurd c (nI_ge hlt (by decide))) (fun _ => ?_)
    refine r_aload_n C dJ1_indexOfChar_4cfef_13 2 rfl ?_
    refine r_iload C dJ1_indexOfChar_4cfef_14 0 rfl ?_
    refine r_sbyt C (k := 1) (by decide) hib dJ1_indexOfChar_4cfef_16 ?_
    refine r_iload C dJ1_indexOfChar_4cfef_17 1 rfl ?_
    rw [hix]
    refine r_icmp_ne 25 C dJ1_indexOfChar_4cfef_19 (by decide) (fun c => ?_) (fun c => ?_)
    · rw [if_neg c] at hE
      refine r_iinc [(5, .int (nI j + 1)), (4, .int x1.toInt8.toInt32), (0, .ref ((zw Z).2.2.2.2 1)), (1, .int x1), (2, .int 0), (3, .int 12)] C dJ1_indexOfChar_4cfef_25 0 rfl (in_1 _) (by decide) rfl ?_
      refine r_goto 7 C dJ1_indexOfChar_4cfef_28 (by decide) ?_
      rw [nI_1] at hE ⊢
      exact ih (j + 1) (by omega) hE
    · rw [if_pos c] at hE
      refine r_iload C dJ1_indexOfChar_4cfef_22 0 rfl ?_
      exact r_iret C dJ1_indexOfChar_4cfef_24 hr hE
set_option maxRecDepth 100000 in
theorem t_ixc {l : Launch} {w : WP} {sh : List Sh} {R : Rf} {μ : Mu} {x1 : Int32} : CM l w yJ1_indexOfChar_4cfef cJ1_indexOfChar_4cfef 6 (some .int) 0 0 0 sh R [.ref (w.2.2.2.2 1), .int x1, .int 0, .int 12] μ (some (.int (sixF (x1.toInt8.toInt32) (bytS.getD 1 []) 0))) sh R μ := by
  refine CM.of (by decide +kernel) (Nat.le_of_ble_eq_true rfl) fun Z C hr _ hR hw hl hE => ?_
  subst hw; subst hl
  have C : CX Z cJ1_indexOfChar_4cfef 6 RJ1 := C
  show Wm Z (0, 0, sh, R) μ 0 [(0, .ref ((zw Z).2.2.2.2 1)), (1, .int x1), (2, .int 0), (3, .int 12)] []
  refine r_iload_n C dJ1_indexOfChar_4cfef_0 1 rfl ?_
  refine r_i2b C dJ1_indexOfChar_4cfef_1 ?_
  refine r_istore [(4, .int x1.toInt8.toInt32), (0, .ref ((zw Z).2.2.2.2 1)), (1, .int x1), (2, .int 0), (3, .int 12)] C dJ1_indexOfChar_4cfef_2 (by decide) rfl ?_
  refine r_iload_n C dJ1_indexOfChar_4cfef_4 3 rfl ?_
  refine r_istore [(5, .int 0), (4, .int x1.toInt8.toInt32), (0, .ref ((zw Z).2.2.2.2 1)), (1, .int x1), (2, .int 0), (3, .int 12)] C dJ1_indexOfChar_4cfef_5 (by decide) rfl ?_
  exact l_six C hr 12 0 rfl hE
set_option maxRecDepth 100000 in
theorem t_cane {l : Launch} {w : WP} {sh : List Sh} {R : Rf} {μ : Mu} {x : Int32} : CM l w yJ1_canEncode_9a6ad cJ1_canEncode_9a6ad 1 (some .boolean) 0 0 0 sh R [.int x] μ (some (.int (if x < 0 then 0 else if 255 < x then 0 else 1))) sh R μ := by
  refine CM.of (by decide +kernel) (Nat.le_of_ble_eq_true rfl) fun Z C hr _ hR hw hl hE => ?_
  subst hw; subst hl
  have C : CX Z cJ1_canEncode_9a6ad 1 RJ1 := C
  show Wm Z (0, 0, sh, R) μ 0 [(0, .int x)] []
  refine r_iload_n C dJ1_canEncode_9a6ad_0 0 rfl ?_
  refine r_if_lt 15 C dJ1_canEncode_9a6ad_1 (by decide) (fun c => ?_) (fun c => ?_)
  · rw [if_pos c] at hE
    refine r_iconst C dJ1_canEncode_9a6ad_15 ic_0 ?_
    exact r_zret C dJ1_canEncode_9a6ad_16 hr rfl hE
  · rw [if_neg c] at hE
    refine r_iload_n C dJ1_canEncode_9a6ad_4 0 rfl ?_
    refine r_sipush C dJ1_canEncode_9a6ad_5 sp_255 ?_
    refine r_icmp_gt 15 C dJ1_canEncode_9a6ad_8 (by decide) (fun c => ?_) (fun c => ?_)
    · rw [if_pos c] at hE
      refine r_iconst C dJ1_canEncode_9a6ad_15 ic_0 ?_
      exact r_zret C dJ1_canEncode_9a6ad_16 hr rfl hE
    · rw [if_neg c] at hE
      refine r_iconst C dJ1_canEncode_9a6ad_11 ic_1 ?_
      refine r_goto 16 C dJ1_canEncode_9a6ad_12 (by decide) ?_
      exact r_zret C dJ1_canEncode_9a6ad_16 hr rfl hE
set_option maxRecDepth 100000 in
theorem t_lix {l : Launch} {w : WP} {sh : List Sh} {R : Rf} {μ : Mu} {x1 : Int32} (hY : LY sh R) : CM l w yJ1_indexOf_4cfef cJ1_indexOf_4cfef 4 (some .int) 1 0 0 sh R [.ref (w.2.2.2.2 1), .int x1, .int 0, .int 12] μ (some (.int (six 1 x1))) sh R μ := by
  refine CM.of (by decide +kernel) (Nat.le_of_ble_eq_true rfl) fun Z C hr _ hR hw hl hE => ?_
  subst hw; subst hl
  have C : CX Z cJ1_indexOf_4cfef 4 RJ1 := C
  show Wm Z (0, 0, sh, R) μ 0 [(0, .ref ((zw Z).2.2.2.2 1)), (1, .int x1), (2, .int 0), (3, .int 12)] []
  refine r_iload_n C dJ1_indexOf_4cfef_0 1 rfl ?_
  refine r_cSi (As := [.int x1]) (rest := []) C hR mlJ1_88 dJ1_indexOf_4cfef_1 t_cane rfl rfl (nle rfl) (nle rfl) (nle rfl) ?_
  refine r_if_ne 9 C dJ1_indexOf_4cfef_4 (by decide) (fun c => ?_) (fun c => ?_)
  · have hE : zEnd Z (0, 0, sh, R) μ (some (.int (sixF (x1.toInt8.toInt32) (bytS.getD 1 []) 0))) := by
      have e : six 1 x1 = sixF (x1.toInt8.toInt32) (bytS.getD 1 []) 0 := by unfold six; rw [if_neg c]
      rw [← e]; exact hE
    refine r_iload_n C dJ1_indexOf_4cfef_9 2 rfl ?_
    refine r_iconst C dJ1_indexOf_4cfef_10 ic_0 ?_
    refine r_cSi (As := [.int 0, .int 0]) (rest := []) C hR mlJ1_92 dJ1_indexOf_4cfef_11 (t_jmax hY) rfl rfl (nle rfl) (nle rfl) (nle rfl) ?_
    refine r_istore_n [(2, .int 0), (0, .ref ((zw Z).2.2.2.2 1)), (1, .int x1), (3, .int 12)] C dJ1_indexOf_4cfef_14 rfl (by decide) rfl ?_
    refine r_iload_n C dJ1_indexOf_4cfef_15 3 rfl ?_
    refine r_aload_n C dJ1_indexOf_4cfef_16 1 rfl ?_
    refine r_slen (v := 12) C (k := 1) (by decide) (by decide) dJ1_indexOf_4cfef_17 ?_
    refine r_cSi (As := [.int 12, .int 12]) (rest := []) C hR mlJ1_38 dJ1_indexOf_4cfef_18 (t_jmin hY) rfl rfl (nle rfl) (nle rfl) (nle rfl) ?_
    refine r_istore_n [(3, .int 12), (2, .int 0), (0, .ref ((zw Z).2.2.2.2 1)), (1, .int x1)] C dJ1_indexOf_4cfef_21 rfl (by decide) rfl ?_
    refine r_iload_n C dJ1_indexOf_4cfef_22 1 rfl ?_
    refine r_iload_n C dJ1_indexOf_4cfef_23 0 rfl ?_
    refine r_icmp_lt 29 C dJ1_indexOf_4cfef_24 (by decide) (fun _ => ?_) (fun c => absurd (by decide) c)
    refine r_aload_n C dJ1_indexOf_4cfef_29 2 rfl ?_
    refine r_iload_n C dJ1_indexOf_4cfef_30 3 rfl ?_
    refine r_iload_n C dJ1_indexOf_4cfef_31 1 rfl ?_
    refine r_iload_n C dJ1_indexOf_4cfef_32 0 rfl ?_
    refine r_cSi (As := [.ref ((zw Z).2.2.2.2 1), .int x1, .int 0, .int 12]) (rest := []) C hR mlJ1_95 dJ1_indexOf_4cfef_33 t_ixc rfl rfl (nle rfl) (nle rfl) (nle rfl) ?_
    exact r_iret C dJ1_indexOf_4cfef_36 hr hE
  · have hE : zEnd Z (0, 0, sh, R) μ (some (.int (-1))) := by
      have e : six 1 x1 = -1 := by unfold six; rw [if_pos c]
      rw [← e]; exact hE
    refine r_iconst C dJ1_indexOf_4cfef_7 ic_m1 ?_
    exact r_iret C dJ1_indexOf_4cfef_8 hr hE
set_option maxRecDepth 100000 in
theorem t_six2 {l : Launch} {w : WP} {sh : List Sh} {R : Rf} {μ : Mu} {x1 : Int32} (hY : LY sh R) : CM l w yJ0_indexOf_7cf53 cJ0_indexOf_7cf53 3 (some .int) 2 0 0 sh R [.ref (w.2.2.2.1 1), .int x1, .int 0] μ (some (.int (six 1 x1))) sh R μ := by
  refine CM.of (by decide +kernel) (Nat.le_of_ble_eq_true rfl) fun Z C hr _ hR hw hl hE => ?_
  subst hw; subst hl
  have C : CX Z cJ0_indexOf_7cf53 3 RJ0 := C
  show Wm Z (0, 0, sh, R) μ 0 [(0, .ref ((zw Z).2.2.2.1 1)), (1, .int x1), (2, .int 0)] []
  refine r_aload_n C dJ0_indexOf_7cf53_0 0 rfl ?_
  refine r_cW (As := []) (rest := []) C hR mlJ0_492 dJ0_indexOf_7cf53_1 ⟨t_lat (k := 1) (by decide), by decide, rfl⟩ rfl rfl (nle rfl) (nle rfl) (nle rfl) ?_
  refine r_if_eq 23 C dJ0_indexOf_7cf53_4 (by decide) (fun c => absurd c (by decide)) (fun _ => ?_)
  refine r_aload_n C dJ0_indexOf_7cf53_7 0 rfl ?_
  refine r_sval C (k := 1) (by decide) fwJ0_9 dJ0_indexOf_7cf53_8 ?_
  refine r_iload_n C dJ0_indexOf_7cf53_11 1 rfl ?_
  refine r_iload_n C dJ0_indexOf_7cf53_12 2 rfl ?_
  refine r_aload_n C dJ0_indexOf_7cf53_13 0 rfl ?_
  refine r_cW (As := []) (rest := [.int 0, .int x1, .ref ((zw Z).2.2.2.2 1)]) C hR mlJ0_505 dJ0_indexOf_7cf53_14 (t_slen1 hY) rfl rfl (nle rfl) (nle rfl) (nle rfl) ?_
  refine r_cSi (As := [.ref ((zw Z).2.2.2.2 1), .int x1, .int 0, .int 12]) (rest := []) C hR mlJ0_637 dJ0_indexOf_7cf53_17 (t_lix hY) rfl rfl (nle rfl) (nle rfl) (nle rfl) ?_
  refine r_goto 36 C dJ0_indexOf_7cf53_20 (by decide) ?_
  exact r_iret C dJ0_indexOf_7cf53_36 hr hE
set_option maxRecDepth 100000 in
theorem t_six1 {l : Launch} {w : WP} {sh : List Sh} {R : Rf} {μ : Mu} {x1 : Int32} (hY : LY sh R) : CM l w yJ0_indexOf_0f7a4 cJ0_indexOf_0f7a4 2 (some .int) 3 0 0 sh R [.ref (w.2.2.2.1 1), .int x1] μ (some (.int (six 1 x1))) sh R μ ∧ 1 < 3 ∧ yJ0_indexOf_0f7a4.cls = "java/lang/String" := by
  refine ⟨?_, by decide, rfl⟩
  refine CM.of (by decide +kernel) (Nat.le_of_ble_eq_true rfl) fun Z C hr _ hR hw hl hE => ?_
  subst hw; subst hl
  have C : CX Z cJ0_indexOf_0f7a4 2 RJ0 := C
  show Wm Z (0, 0, sh, R) μ 0 [(0, .ref ((zw Z).2.2.2.1 1)), (1, .int x1)] []
  refine r_aload_n C dJ0_indexOf_0f7a4_0 0 rfl ?_
  refine r_iload_n C dJ0_indexOf_0f7a4_1 1 rfl ?_
  refine r_iconst C dJ0_indexOf_0f7a4_2 ic_0 ?_
  refine r_cW (As := [.int x1, .int 0]) (rest := []) C hR mlJ0_633 dJ0_indexOf_0f7a4_3 ⟨t_six2 hY, by decide, rfl⟩ rfl rfl (nle rfl) (nle rfl) (nle rfl) ?_
  exact r_iret C dJ0_indexOf_0f7a4_6 hr hE
