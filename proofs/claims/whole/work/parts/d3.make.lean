/-! NEW CELLS: the two objects -/
set_option maxRecDepth 100000 in
set_option maxHeartbeats 4000000 in
theorem vlJ7_fill {Z : ZC} {sh : List Sh} {R : Rf} {o : (Int32 × Mu) ⊕ (Mu)} (C : CX Z cJ7_fill_53178 4 RJ7) (hR : zR Z = rm 0 0 0) (n : Nat) (a0 : Nat) (n0 : Nat) (ha0 : sh[a0]? = some (.inr (0, n0))) (x1 : Int32) (x3 : Int32) (x2 : Int32) (μ : Mu) (h : sJ7_fill_53178_5 n a0 n0 x1 x3 (x2, μ) = some o) (kin : ∀ (x2 : Int32) (μ : Mu), o = .inl (x2, μ) → Wm Z (0, 0, sh, R) μ 5 [(0, .ref (wb (zw Z) + a0)), (1, .int x1), (2, .int x2), (3, .int x3)] []) (kex0 : ∀ (μ : Mu), o = .inr μ → Wm Z (0, 0, sh, R) μ 20 [] []) : Wm Z (0, 0, sh, R) μ 5 [(0, .ref (wb (zw Z) + a0)), (1, .int x1), (2, .int x2), (3, .int x3)] [] := by
  unfold sJ7_fill_53178_5 at h
  refine r_iload_n C dJ7_fill_53178_5 2 rfl ?_
  refine r_iload_n C dJ7_fill_53178_6 3 rfl ?_
  refine r_icmp_ge 20 C dJ7_fill_53178_7 (by decide) (fun c1 => ?_) (fun c1 => ?_)
  · have h := (ite_inv h).1 c1
    refine r_sub [] [] rfl ?_
    exact kex0 μ (Option.some.inj h).symm
  · have h := (ite_inv h).2 c1
    refine r_aload_n C dJ7_fill_53178_10 0 rfl ?_
    refine r_iload_n C dJ7_fill_53178_11 2 rfl ?_
    refine r_iload_n C dJ7_fill_53178_12 1 rfl ?_
    obtain ⟨b2, h⟩ := gd_inv h
    refine r_iast C dJ7_fill_53178_13 ha0 b2 ?_
    refine r_iinc [(2, .int (x2 + 1)), (0, .ref (wb (zw Z) + a0)), (1, .int x1), (3, .int x3)] C dJ7_fill_53178_14 2 rfl (in_1 _) (by decide) rfl ?_
    refine r_goto 5 C dJ7_fill_53178_17 (by decide) ?_
    refine r_sub [(0, .ref (wb (zw Z) + a0)), (1, .int x1), (2, .int (x2 + 1)), (3, .int x3)] [1, 2, 0, 3] rfl ?_
    exact kin (x2 + 1) (wI μ a0 (ix x2) x1) (Option.some.inj h).symm
set_option maxRecDepth 100000 in
set_option maxHeartbeats 4000000 in
theorem vJ7_fill {l : Launch} {w : WP} {sh : List Sh} {R : Rf} {μ : Mu} {μ' : Mu} (n : Nat) (a0 : Nat) (n0 : Nat) (x1 : Int32) (ha0 : sh[a0]? = some (.inr (0, n0))) (h : fJ7_fill_53178 n a0 n0 x1 μ = some μ') : CM l w yJ7_fill_53178 cJ7_fill_53178 4 none 0 0 0 sh R [.ref (wb w + a0), .int x1] μ none sh R μ' := by
  refine CM.of (plainFor_of_name pf_J7) (Nat.le_of_ble_eq_true rfl) fun Z C hr _ hR hw hl hE => ?_
  subst hw; subst hl
  have C : CX Z cJ7_fill_53178 4 RJ7 := C
  show Wm Z (0, 0, sh, R) μ 0 [(0, .ref (wb (zw Z) + a0)), (1, .int x1)] []
  unfold fJ7_fill_53178 at h
  refine r_iconst C dJ7_fill_53178_0 ic_0 ?_
  refine r_istore_n [(2, .int 0), (0, .ref (wb (zw Z) + a0)), (1, .int x1)] C dJ7_fill_53178_1 rfl (by decide) rfl ?_
  refine r_aload_n C dJ7_fill_53178_2 1 rfl ?_
  refine r_alen C dJ7_fill_53178_3 ha0 rfl rfl ?_
  refine r_istore_n [(3, .int (Int32.ofNat n0)), (2, .int 0), (0, .ref (wb (zw Z) + a0)), (1, .int x1)] C dJ7_fill_53178_4 rfl (by decide) rfl ?_
  refine r_sub [(0, .ref (wb (zw Z) + a0)), (1, .int x1), (2, .int 0), (3, .int (Int32.ofNat n0))] [2, 3, 1, 0] rfl ?_
  obtain ⟨m3, e4, h⟩ := bnd_inv h
  refine lp_all (sJ7_fill_53178_5 n a0 n0 x1 (Int32.ofNat n0)) (fun q => match q with | (z2, ν) => Wm Z (0, 0, sh, R) (ν) 5 [(0, .ref (wb (zw Z) + a0)), (1, .int x1), (2, .int z2), (3, .int (Int32.ofNat n0))] []) (fun q => match q with | ν => Wm Z (0, 0, sh, R) (ν) 20 [] []) (fun q o h kin kex => ?_) n (0, μ) m3 e4 ?_
  · obtain ⟨z2, ν⟩ := q; exact vlJ7_fill C hR n a0 n0 ha0 x1 (Int32.ofNat n0) z2 ν h (fun z2 ν e => kin (z2, ν) e) (fun ν e => kex (ν) e)
  show Wm Z (0, 0, sh, R) m3 20 [] []
  have h := Option.some.inj h
  subst h
  exact r_vret C dJ7_fill_53178_20 hr hE
theorem fill_eq {n a N : Nat} {v : Int32} (μ : Mu) (hN : N < 2147483648) (hn : N < n) : fJ7_fill_53178 n a N v μ = some (flI μ a N v) := by
  have z : flI μ a 0 v = μ := by
    refine Prod.ext ?_ rfl
    funext b i
    by_cases e : b = a
    · subst e; simp [flI]
    · simp [flI, e]
  have st : ∀ i, wI (flI μ a i v) a i v = flI μ a (i + 1) v := fun i => by
    refine Prod.ext ?_ rfl
    funext b j
    by_cases e : b = a
    · subst e
      by_cases e2 : j = i
      · subst e2; simp [flI, wI, upd]
      · have : (j < i + 1) ↔ (j < i) := by omega
        simp [flI, wI, upd, e2, this]
    · simp [flI, wI, e]
  unfold fJ7_fill_53178
  have h := lp_up (step := sJ7_fill_53178_5 n a N v (Int32.ofNat N)) N (fun i => (nI i, flI μ a i v)) (flI μ a N v) (fun i hi => by
    show (if nI N ≤ nI i then _ else _) = _
    rw [if_neg (fun e => by have := (nI_leI (by omega) (by omega)).mp e; omega), ib_n hi (by omega), gd_true, ix_n (by omega), st]
    rw [show nI i + 1 = nI (i + 1) from nI_add i 1]) (by
    show (if nI N ≤ nI N then _ else _) = _
    rw [if_pos (Int32.le_refl _)]) hn
  have h : lp n (sJ7_fill_53178_5 n a N v (Int32.ofNat N)) (0, flI μ a 0 v) = some (flI μ a N v) := h
  rw [z] at h
  rw [h, bnd_some]
def TE : TT := ([], fun _ _ => none, (fun _ _ => 0, fun _ _ => 0))
def TS0 : TT := nwT 0 (.inl 11) TE
def TS1 : TT := nwT 1 (.inr (1, 900)) TS0
def TS2 : TT := prT 0 0 1 TS1
def TS3 : TT := piT 0 1 0 TS2
def TS4 : TT := piT 0 2 0 TS3
def TS5 : TT := piT 0 3 (-1) TS4
def TS6 : TT := nwT 2 (.inl 7) TS5
def TS7 : TT := iX7 2 3 TS6
def TS8 : TT := prT 0 4 2 TS7
def TS9 : TT := nwT 13 (.inl 5) TS8
def TS10 : TT := iX5 13 14 TS9
def TS11 : TT := prT 0 5 13 TS10
def TS12 : TT := nwT 28 (.inl 6) TS11
def TS13 : TT := nwT 29 (.inr (0, 288)) TS12
def TS14 : TT := prT 28 1 29 TS13
def TS15 : TT := nwT 30 (.inr (0, 48)) TS14
def TS16 : TT := prT 28 2 30 TS15
def TS17 : TT := nwT 31 (.inr (0, 432)) TS16
def TS18 : TT := prT 28 3 31 TS17
def TS19 : TT := nwT 32 (.inr (0, 5)) TS18
def TS20 : TT := prT 28 4 32 TS19
def TS21 : TT := nwT 33 (.inr (0, 64)) TS20
def TS22 : TT := prT 28 5 33 TS21
def TS23 : TT := prT 28 0 2 TS22
def TS24 : TT := fiT 29 288 (-1) TS23
def TS25 : TT := fiT 30 48 (-1) TS24
def TS26 : TT := fiT 31 432 (-1) TS25
set_option maxRecDepth 100000 in
set_option maxHeartbeats 8000000 in
theorem mX6_init {l : Launch} {w : WP} : CM l w yX6_init cX6_init 2 none 1 5 837 TS12.1 TS12.2.1 [.ref (wb w + 28), .ref (wb w + 2)] TS12.2.2 none TS26.1 TS26.2.1 TS26.2.2 := by
  refine CM.of (plainFor_of_name pf_X6) (Nat.le_of_ble_eq_true rfl) fun Z C hr hm hR hw hl0 hE => ?_
  subst hw; subst hl0
  have C : CX Z cX6_init 2 RX6 := C
  have hm : (zme Z).name = "<init>" := hm
  show Wm Z (0, 0, TS12.1, TS12.2.1) TS12.2.2 0 [(0, .ref (wb (zw Z) + 28)), (1, .ref (wb (zw Z) + 2))] []
  refine r_aload_n C dX6_init_0 0 rfl ?_
  refine r_oinit C oiX6_3 ow dX6_init_1 (by rw [hR]; exact ⟨by decide, by decide⟩) (by decide) ?_
  refine r_aload_n C dX6_init_4 0 rfl ?_
  refine r_sipush (v := 288) C dX6_init_5 (by decide) ?_
  refine q_newi (T := TS12) (k := 29) (n := 288) (by decide +kernel) C dX6_init_8 (by decide) (by decide) (by decide) (by rw [hR]; exact ⟨nle rfl, nle rfl⟩) ?_
  show Wm Z (1, 288, TS13.1, TS13.2.1) TS13.2.2 10 [(0, .ref (wb (zw Z) + 28)), (1, .ref (wb (zw Z) + 2))] [.ref (wb (zw Z) + 29), .ref (wb (zw Z) + 28)]
  refine q_putR (T := TS13) (b := 29) C ffX6_9 hm dX6_init_10 (by decide +kernel) ?_
  show Wm Z (1, 288, TS14.1, TS14.2.1) TS14.2.2 13 [(0, .ref (wb (zw Z) + 28)), (1, .ref (wb (zw Z) + 2))] []
  refine r_aload_n C dX6_init_13 0 rfl ?_
  refine r_bipush (v := 48) C dX6_init_14 (by decide) ?_
  refine q_newi (T := TS14) (k := 30) (n := 48) (by decide +kernel) C dX6_init_16 (by decide) (by decide) (by decide) (by rw [hR]; exact ⟨nle rfl, nle rfl⟩) ?_
  show Wm Z (2, 336, TS15.1, TS15.2.1) TS15.2.2 18 [(0, .ref (wb (zw Z) + 28)), (1, .ref (wb (zw Z) + 2))] [.ref (wb (zw Z) + 30), .ref (wb (zw Z) + 28)]
  refine q_putR (T := TS15) (b := 30) C ffX6_15 hm dX6_init_18 (by decide +kernel) ?_
  show Wm Z (2, 336, TS16.1, TS16.2.1) TS16.2.2 21 [(0, .ref (wb (zw Z) + 28)), (1, .ref (wb (zw Z) + 2))] []
  refine r_aload_n C dX6_init_21 0 rfl ?_
  refine r_sipush (v := 432) C dX6_init_22 (by decide) ?_
  refine q_newi (T := TS16) (k := 31) (n := 432) (by decide +kernel) C dX6_init_25 (by decide) (by decide) (by decide) (by rw [hR]; exact ⟨nle rfl, nle rfl⟩) ?_
  show Wm Z (3, 768, TS17.1, TS17.2.1) TS17.2.2 27 [(0, .ref (wb (zw Z) + 28)), (1, .ref (wb (zw Z) + 2))] [.ref (wb (zw Z) + 31), .ref (wb (zw Z) + 28)]
  refine q_putR (T := TS17) (b := 31) C ffX6_18 hm dX6_init_27 (by decide +kernel) ?_
  show Wm Z (3, 768, TS18.1, TS18.2.1) TS18.2.2 30 [(0, .ref (wb (zw Z) + 28)), (1, .ref (wb (zw Z) + 2))] []
  refine r_aload_n C dX6_init_30 0 rfl ?_
  refine r_iconst (v := 5) C dX6_init_31 (by decide) ?_
  refine q_newi (T := TS18) (k := 32) (n := 5) (by decide +kernel) C dX6_init_32 (by decide) (by decide) (by decide) (by rw [hR]; exact ⟨nle rfl, nle rfl⟩) ?_
  show Wm Z (4, 773, TS19.1, TS19.2.1) TS19.2.2 34 [(0, .ref (wb (zw Z) + 28)), (1, .ref (wb (zw Z) + 2))] [.ref (wb (zw Z) + 32), .ref (wb (zw Z) + 28)]
  refine q_putR (T := TS19) (b := 32) C ffX6_21 hm dX6_init_34 (by decide +kernel) ?_
  show Wm Z (4, 773, TS20.1, TS20.2.1) TS20.2.2 37 [(0, .ref (wb (zw Z) + 28)), (1, .ref (wb (zw Z) + 2))] []
  refine r_aload_n C dX6_init_37 0 rfl ?_
  refine r_bipush (v := 64) C dX6_init_38 (by decide) ?_
  refine q_newi (T := TS20) (k := 33) (n := 64) (by decide +kernel) C dX6_init_40 (by decide) (by decide) (by decide) (by rw [hR]; exact ⟨nle rfl, nle rfl⟩) ?_
  show Wm Z (5, 837, TS21.1, TS21.2.1) TS21.2.2 42 [(0, .ref (wb (zw Z) + 28)), (1, .ref (wb (zw Z) + 2))] [.ref (wb (zw Z) + 33), .ref (wb (zw Z) + 28)]
  refine q_putR (T := TS21) (b := 33) C ffX6_24 hm dX6_init_42 (by decide +kernel) ?_
  show Wm Z (5, 837, TS22.1, TS22.2.1) TS22.2.2 45 [(0, .ref (wb (zw Z) + 28)), (1, .ref (wb (zw Z) + 2))] []
  refine r_aload_n C dX6_init_45 0 rfl ?_
  refine r_aload_n C dX6_init_46 1 rfl ?_
  refine q_putR (T := TS22) (b := 2) C ffX6_27 hm dX6_init_47 (by decide +kernel) ?_
  show Wm Z (5, 837, TS23.1, TS23.2.1) TS23.2.2 50 [(0, .ref (wb (zw Z) + 28)), (1, .ref (wb (zw Z) + 2))] []
  refine r_aload_n C dX6_init_50 0 rfl ?_
  refine r_getR (a := 28) (b := 29) C flX6_9 dX6_init_51 (by decide +kernel) rfl (by decide +kernel) ?_
  refine r_iconst (v := (-1)) C dX6_init_54 (by decide) ?_
  refine r_callS (As := [.ref (wb (zw Z) + 29), .int (-1)]) (rest := []) C mlX6_31 dX6_init_55 (vJ7_fill (sh := TS23.1) (R := TS23.2.1) 289 29 288 (-1) (by decide +kernel) (fill_eq TS23.2.2 (by decide) (by decide))) rfl rfl (by rw [hR]; exact ⟨nle rfl, nle rfl⟩) (by rw [hR]; exact ⟨nle rfl, nle rfl⟩) (nle rfl) ?_
  show Wm Z (5, 837, TS24.1, TS24.2.1) TS24.2.2 58 [(0, .ref (wb (zw Z) + 28)), (1, .ref (wb (zw Z) + 2))] []
  refine r_aload_n C dX6_init_58 0 rfl ?_
  refine r_getR (a := 28) (b := 30) C flX6_15 dX6_init_59 (by decide +kernel) rfl (by decide +kernel) ?_
  refine r_iconst (v := (-1)) C dX6_init_62 (by decide) ?_
  refine r_callS (As := [.ref (wb (zw Z) + 30), .int (-1)]) (rest := []) C mlX6_31 dX6_init_63 (vJ7_fill (sh := TS24.1) (R := TS24.2.1) 49 30 48 (-1) (by decide +kernel) (fill_eq TS24.2.2 (by decide) (by decide))) rfl rfl (by rw [hR]; exact ⟨nle rfl, nle rfl⟩) (by rw [hR]; exact ⟨nle rfl, nle rfl⟩) (nle rfl) ?_
  show Wm Z (5, 837, TS25.1, TS25.2.1) TS25.2.2 66 [(0, .ref (wb (zw Z) + 28)), (1, .ref (wb (zw Z) + 2))] []
  refine r_aload_n C dX6_init_66 0 rfl ?_
  refine r_getR (a := 28) (b := 31) C flX6_18 dX6_init_67 (by decide +kernel) rfl (by decide +kernel) ?_
  refine r_iconst (v := (-1)) C dX6_init_70 (by decide) ?_
  refine r_callS (As := [.ref (wb (zw Z) + 31), .int (-1)]) (rest := []) C mlX6_31 dX6_init_71 (vJ7_fill (sh := TS25.1) (R := TS25.2.1) 433 31 432 (-1) (by decide +kernel) (fill_eq TS25.2.2 (by decide) (by decide))) rfl rfl (by rw [hR]; exact ⟨nle rfl, nle rfl⟩) (by rw [hR]; exact ⟨nle rfl, nle rfl⟩) (nle rfl) ?_
  show Wm Z (5, 837, TS26.1, TS26.2.1) TS26.2.2 74 [(0, .ref (wb (zw Z) + 28)), (1, .ref (wb (zw Z) + 2))] []
  exact r_vret C dX6_init_74 hr hE
def TS27 : TT := prT 0 6 28 TS26
def TS28 : TT := nwT 34 (.inl 8) TS27
def TS29 : TT := iX8 34 35 TS28
def TS30 : TT := prT 0 7 34 TS29
def TS31 : TT := nwT 41 (.inl 8) TS30
def TS32 : TT := iX8 41 42 TS31
def TS33 : TT := prT 0 8 41 TS32
def TS34 : TT := nwT 48 (.inl 1) TS33
def TS35 : TT := nwT 49 (.inr (4, 10)) TS34
def TS36 : TT := prT 48 0 49 TS35
def TS37 : TT := nwT 50 (.inl 8) TS36
def TS38 : TT := iX8 50 51 TS37
def TS39 : TT := prT 49 (ix 0) 50 TS38
def TS40 : TT := nwT 57 (.inl 8) TS39
def TS41 : TT := iX8 57 58 TS40
def TS42 : TT := prT 49 (ix 1) 57 TS41
def TS43 : TT := nwT 64 (.inl 8) TS42
def TS44 : TT := iX8 64 65 TS43
def TS45 : TT := prT 49 (ix 2) 64 TS44
def TS46 : TT := nwT 71 (.inl 8) TS45
def TS47 : TT := iX8 71 72 TS46
def TS48 : TT := prT 49 (ix 3) 71 TS47
def TS49 : TT := nwT 78 (.inl 8) TS48
def TS50 : TT := iX8 78 79 TS49
def TS51 : TT := prT 49 (ix 4) 78 TS50
def TS52 : TT := nwT 85 (.inl 8) TS51
def TS53 : TT := iX8 85 86 TS52
def TS54 : TT := prT 49 (ix 5) 85 TS53
def TS55 : TT := nwT 92 (.inl 8) TS54
def TS56 : TT := iX8 92 93 TS55
def TS57 : TT := prT 49 (ix 6) 92 TS56
def TS58 : TT := nwT 99 (.inl 8) TS57
def TS59 : TT := iX8 99 100 TS58
def TS60 : TT := prT 49 (ix 7) 99 TS59
def TS61 : TT := nwT 106 (.inl 8) TS60
def TS62 : TT := iX8 106 107 TS61
def TS63 : TT := prT 49 (ix 8) 106 TS62
def TS64 : TT := nwT 113 (.inl 8) TS63
def TS65 : TT := iX8 113 114 TS64
def TS66 : TT := prT 49 (ix 9) 113 TS65
set_option maxRecDepth 100000 in
set_option maxHeartbeats 8000000 in
theorem mX1_init {l : Launch} {w : WP} : CM l w yX1_init cX1_init 2 none 2 71 1290 TS34.1 TS34.2.1 [.ref (wb w + 48)] TS34.2.2 none TS66.1 TS66.2.1 TS66.2.2 := by
  refine CM.of (plainFor_of_name pf_X1) (Nat.le_of_ble_eq_true rfl) fun Z C hr hm hR hw hl0 hE => ?_
  subst hw; subst hl0
  have C : CX Z cX1_init 2 RX1 := C
  have hm : (zme Z).name = "<init>" := hm
  show Wm Z (0, 0, TS34.1, TS34.2.1) TS34.2.2 0 [(0, .ref (wb (zw Z) + 48))] []
  refine r_aload_n C dX1_init_0 0 rfl ?_
  refine r_oinit C oiX1_3 ow dX1_init_1 (by rw [hR]; exact ⟨by decide, by decide⟩) (by decide) ?_
  refine r_aload_n C dX1_init_4 0 rfl ?_
  refine r_bipush (v := 10) C dX1_init_5 (by decide) ?_
  refine q_anew (T := TS34) (k := 49) (n := 10) (t := 4) (by decide +kernel) C (fun _ => rfl) (by decide) clX1_9 C.2.2.2.2.2.2.1.2.2.2.2.2.1.1 dX1_init_7 (by decide) (by decide) (by decide) (by rw [hR]; exact ⟨nle rfl, nle rfl⟩) ?_
  show Wm Z (1, 10, TS35.1, TS35.2.1) TS35.2.2 10 [(0, .ref (wb (zw Z) + 48))] [.ref (wb (zw Z) + 49), .ref (wb (zw Z) + 48)]
  refine q_putR (T := TS35) (b := 49) C ffX1_11 hm dX1_init_10 (by decide +kernel) ?_
  show Wm Z (1, 10, TS36.1, TS36.2.1) TS36.2.2 13 [(0, .ref (wb (zw Z) + 48))] []
  refine r_iconst (v := 0) C dX1_init_13 (by decide) ?_
  refine r_istore_n [(1, .int 0), (0, .ref (wb (zw Z) + 48))] C dX1_init_14 rfl (by decide) rfl ?_
  refine r_iload_n C dX1_init_15 0 rfl ?_
  refine r_bipush (v := 10) C dX1_init_16 (by decide) ?_
  refine r_icmp_ge 40 C dX1_init_18 (by decide) (fun c => absurd c (by decide)) (fun _ => ?_)
  refine r_aload_n C dX1_init_21 1 rfl ?_
  refine r_getR (a := 48) (b := 49) C flX1_11 dX1_init_22 (by decide +kernel) rfl (by decide +kernel) ?_
  refine r_iload_n C dX1_init_25 0 rfl ?_
  refine q_new (T := TS36) (k := 50) (by decide +kernel) C kc8 tyX8_ok df8 clX1_9 in8 ii8 dX1_init_26 (by rw [hR]; exact ⟨nle rfl, nle rfl⟩) ?_
  show Wm Z (2, 20, TS37.1, TS37.2.1) TS37.2.2 29 [(1, .int 0), (0, .ref (wb (zw Z) + 48))] [.ref (wb (zw Z) + 50), .int 0, .ref (wb (zw Z) + 49)]
  refine r_dup C dX1_init_29 rfl ?_
  refine r_callIN (a := 50) (As := []) (rest := [.ref (wb (zw Z) + 50), .int 0, .ref (wb (zw Z) + 49)]) C (by decide) wmX8_init wiX8_init wcX8_init wdX8_init rfl dX1_init_30 (tX8_init (T := TS37) (a := 50) (k := 51) (by decide +kernel) (by decide +kernel)) rfl rfl (by rw [hR]; exact ⟨nle rfl, nle rfl⟩) (by rw [hR]; exact ⟨nle rfl, nle rfl⟩) (nle rfl) ?_
  show Wm Z (8, 138, TS38.1, TS38.2.1) TS38.2.2 33 [(1, .int 0), (0, .ref (wb (zw Z) + 48))] [.ref (wb (zw Z) + 50), .int 0, .ref (wb (zw Z) + 49)]
  refine q_aast (T := TS38) (a := 49) (b := 50) (t := 4) (n := 10) C dX1_init_33 (by decide +kernel) (by decide) (fun _ => rfl) (by decide +kernel) kc8.1 (by decide) ?_
  show Wm Z (8, 138, TS39.1, TS39.2.1) TS39.2.2 34 [(1, .int 0), (0, .ref (wb (zw Z) + 48))] []
  refine r_iinc [(1, .int 1), (0, .ref (wb (zw Z) + 48))] C dX1_init_34 0 rfl (by decide) (by decide) rfl ?_
  refine r_goto 15 C dX1_init_37 (by decide) ?_
  refine r_iload_n C dX1_init_15 0 rfl ?_
  refine r_bipush (v := 10) C dX1_init_16 (by decide) ?_
  refine r_icmp_ge 40 C dX1_init_18 (by decide) (fun c => absurd c (by decide)) (fun _ => ?_)
  refine r_aload_n C dX1_init_21 1 rfl ?_
  refine r_getR (a := 48) (b := 49) C flX1_11 dX1_init_22 (by decide +kernel) rfl (by decide +kernel) ?_
  refine r_iload_n C dX1_init_25 0 rfl ?_
  refine q_new (T := TS39) (k := 57) (by decide +kernel) C kc8 tyX8_ok df8 clX1_9 in8 ii8 dX1_init_26 (by rw [hR]; exact ⟨nle rfl, nle rfl⟩) ?_
  show Wm Z (9, 148, TS40.1, TS40.2.1) TS40.2.2 29 [(1, .int 1), (0, .ref (wb (zw Z) + 48))] [.ref (wb (zw Z) + 57), .int 1, .ref (wb (zw Z) + 49)]
  refine r_dup C dX1_init_29 rfl ?_
  refine r_callIN (a := 57) (As := []) (rest := [.ref (wb (zw Z) + 57), .int 1, .ref (wb (zw Z) + 49)]) C (by decide) wmX8_init wiX8_init wcX8_init wdX8_init rfl dX1_init_30 (tX8_init (T := TS40) (a := 57) (k := 58) (by decide +kernel) (by decide +kernel)) rfl rfl (by rw [hR]; exact ⟨nle rfl, nle rfl⟩) (by rw [hR]; exact ⟨nle rfl, nle rfl⟩) (nle rfl) ?_
  show Wm Z (15, 266, TS41.1, TS41.2.1) TS41.2.2 33 [(1, .int 1), (0, .ref (wb (zw Z) + 48))] [.ref (wb (zw Z) + 57), .int 1, .ref (wb (zw Z) + 49)]
  refine q_aast (T := TS41) (a := 49) (b := 57) (t := 4) (n := 10) C dX1_init_33 (by decide +kernel) (by decide) (fun _ => rfl) (by decide +kernel) kc8.1 (by decide) ?_
  show Wm Z (15, 266, TS42.1, TS42.2.1) TS42.2.2 34 [(1, .int 1), (0, .ref (wb (zw Z) + 48))] []
  refine r_iinc [(1, .int 2), (0, .ref (wb (zw Z) + 48))] C dX1_init_34 0 rfl (by decide) (by decide) rfl ?_
  refine r_goto 15 C dX1_init_37 (by decide) ?_
  refine r_iload_n C dX1_init_15 0 rfl ?_
  refine r_bipush (v := 10) C dX1_init_16 (by decide) ?_
  refine r_icmp_ge 40 C dX1_init_18 (by decide) (fun c => absurd c (by decide)) (fun _ => ?_)
  refine r_aload_n C dX1_init_21 1 rfl ?_
  refine r_getR (a := 48) (b := 49) C flX1_11 dX1_init_22 (by decide +kernel) rfl (by decide +kernel) ?_
  refine r_iload_n C dX1_init_25 0 rfl ?_
  refine q_new (T := TS42) (k := 64) (by decide +kernel) C kc8 tyX8_ok df8 clX1_9 in8 ii8 dX1_init_26 (by rw [hR]; exact ⟨nle rfl, nle rfl⟩) ?_
  show Wm Z (16, 276, TS43.1, TS43.2.1) TS43.2.2 29 [(1, .int 2), (0, .ref (wb (zw Z) + 48))] [.ref (wb (zw Z) + 64), .int 2, .ref (wb (zw Z) + 49)]
  refine r_dup C dX1_init_29 rfl ?_
  refine r_callIN (a := 64) (As := []) (rest := [.ref (wb (zw Z) + 64), .int 2, .ref (wb (zw Z) + 49)]) C (by decide) wmX8_init wiX8_init wcX8_init wdX8_init rfl dX1_init_30 (tX8_init (T := TS43) (a := 64) (k := 65) (by decide +kernel) (by decide +kernel)) rfl rfl (by rw [hR]; exact ⟨nle rfl, nle rfl⟩) (by rw [hR]; exact ⟨nle rfl, nle rfl⟩) (nle rfl) ?_
  show Wm Z (22, 394, TS44.1, TS44.2.1) TS44.2.2 33 [(1, .int 2), (0, .ref (wb (zw Z) + 48))] [.ref (wb (zw Z) + 64), .int 2, .ref (wb (zw Z) + 49)]
  refine q_aast (T := TS44) (a := 49) (b := 64) (t := 4) (n := 10) C dX1_init_33 (by decide +kernel) (by decide) (fun _ => rfl) (by decide +kernel) kc8.1 (by decide) ?_
  show Wm Z (22, 394, TS45.1, TS45.2.1) TS45.2.2 34 [(1, .int 2), (0, .ref (wb (zw Z) + 48))] []
  refine r_iinc [(1, .int 3), (0, .ref (wb (zw Z) + 48))] C dX1_init_34 0 rfl (by decide) (by decide) rfl ?_
  refine r_goto 15 C dX1_init_37 (by decide) ?_
  refine r_iload_n C dX1_init_15 0 rfl ?_
  refine r_bipush (v := 10) C dX1_init_16 (by decide) ?_
  refine r_icmp_ge 40 C dX1_init_18 (by decide) (fun c => absurd c (by decide)) (fun _ => ?_)
  refine r_aload_n C dX1_init_21 1 rfl ?_
  refine r_getR (a := 48) (b := 49) C flX1_11 dX1_init_22 (by decide +kernel) rfl (by decide +kernel) ?_
  refine r_iload_n C dX1_init_25 0 rfl ?_
  refine q_new (T := TS45) (k := 71) (by decide +kernel) C kc8 tyX8_ok df8 clX1_9 in8 ii8 dX1_init_26 (by rw [hR]; exact ⟨nle rfl, nle rfl⟩) ?_
  show Wm Z (23, 404, TS46.1, TS46.2.1) TS46.2.2 29 [(1, .int 3), (0, .ref (wb (zw Z) + 48))] [.ref (wb (zw Z) + 71), .int 3, .ref (wb (zw Z) + 49)]
  refine r_dup C dX1_init_29 rfl ?_
  refine r_callIN (a := 71) (As := []) (rest := [.ref (wb (zw Z) + 71), .int 3, .ref (wb (zw Z) + 49)]) C (by decide) wmX8_init wiX8_init wcX8_init wdX8_init rfl dX1_init_30 (tX8_init (T := TS46) (a := 71) (k := 72) (by decide +kernel) (by decide +kernel)) rfl rfl (by rw [hR]; exact ⟨nle rfl, nle rfl⟩) (by rw [hR]; exact ⟨nle rfl, nle rfl⟩) (nle rfl) ?_
  show Wm Z (29, 522, TS47.1, TS47.2.1) TS47.2.2 33 [(1, .int 3), (0, .ref (wb (zw Z) + 48))] [.ref (wb (zw Z) + 71), .int 3, .ref (wb (zw Z) + 49)]
  refine q_aast (T := TS47) (a := 49) (b := 71) (t := 4) (n := 10) C dX1_init_33 (by decide +kernel) (by decide) (fun _ => rfl) (by decide +kernel) kc8.1 (by decide) ?_
  show Wm Z (29, 522, TS48.1, TS48.2.1) TS48.2.2 34 [(1, .int 3), (0, .ref (wb (zw Z) + 48))] []
  refine r_iinc [(1, .int 4), (0, .ref (wb (zw Z) + 48))] C dX1_init_34 0 rfl (by decide) (by decide) rfl ?_
  refine r_goto 15 C dX1_init_37 (by decide) ?_
  refine r_iload_n C dX1_init_15 0 rfl ?_
  refine r_bipush (v := 10) C dX1_init_16 (by decide) ?_
  refine r_icmp_ge 40 C dX1_init_18 (by decide) (fun c => absurd c (by decide)) (fun _ => ?_)
  refine r_aload_n C dX1_init_21 1 rfl ?_
  refine r_getR (a := 48) (b := 49) C flX1_11 dX1_init_22 (by decide +kernel) rfl (by decide +kernel) ?_
  refine r_iload_n C dX1_init_25 0 rfl ?_
  refine q_new (T := TS48) (k := 78) (by decide +kernel) C kc8 tyX8_ok df8 clX1_9 in8 ii8 dX1_init_26 (by rw [hR]; exact ⟨nle rfl, nle rfl⟩) ?_
  show Wm Z (30, 532, TS49.1, TS49.2.1) TS49.2.2 29 [(1, .int 4), (0, .ref (wb (zw Z) + 48))] [.ref (wb (zw Z) + 78), .int 4, .ref (wb (zw Z) + 49)]
  refine r_dup C dX1_init_29 rfl ?_
  refine r_callIN (a := 78) (As := []) (rest := [.ref (wb (zw Z) + 78), .int 4, .ref (wb (zw Z) + 49)]) C (by decide) wmX8_init wiX8_init wcX8_init wdX8_init rfl dX1_init_30 (tX8_init (T := TS49) (a := 78) (k := 79) (by decide +kernel) (by decide +kernel)) rfl rfl (by rw [hR]; exact ⟨nle rfl, nle rfl⟩) (by rw [hR]; exact ⟨nle rfl, nle rfl⟩) (nle rfl) ?_
  show Wm Z (36, 650, TS50.1, TS50.2.1) TS50.2.2 33 [(1, .int 4), (0, .ref (wb (zw Z) + 48))] [.ref (wb (zw Z) + 78), .int 4, .ref (wb (zw Z) + 49)]
  refine q_aast (T := TS50) (a := 49) (b := 78) (t := 4) (n := 10) C dX1_init_33 (by decide +kernel) (by decide) (fun _ => rfl) (by decide +kernel) kc8.1 (by decide) ?_
  show Wm Z (36, 650, TS51.1, TS51.2.1) TS51.2.2 34 [(1, .int 4), (0, .ref (wb (zw Z) + 48))] []
  refine r_iinc [(1, .int 5), (0, .ref (wb (zw Z) + 48))] C dX1_init_34 0 rfl (by decide) (by decide) rfl ?_
  refine r_goto 15 C dX1_init_37 (by decide) ?_
  refine r_iload_n C dX1_init_15 0 rfl ?_
  refine r_bipush (v := 10) C dX1_init_16 (by decide) ?_
  refine r_icmp_ge 40 C dX1_init_18 (by decide) (fun c => absurd c (by decide)) (fun _ => ?_)
  refine r_aload_n C dX1_init_21 1 rfl ?_
  refine r_getR (a := 48) (b := 49) C flX1_11 dX1_init_22 (by decide +kernel) rfl (by decide +kernel) ?_
  refine r_iload_n C dX1_init_25 0 rfl ?_
  refine q_new (T := TS51) (k := 85) (by decide +kernel) C kc8 tyX8_ok df8 clX1_9 in8 ii8 dX1_init_26 (by rw [hR]; exact ⟨nle rfl, nle rfl⟩) ?_
  show Wm Z (37, 660, TS52.1, TS52.2.1) TS52.2.2 29 [(1, .int 5), (0, .ref (wb (zw Z) + 48))] [.ref (wb (zw Z) + 85), .int 5, .ref (wb (zw Z) + 49)]
  refine r_dup C dX1_init_29 rfl ?_
  refine r_callIN (a := 85) (As := []) (rest := [.ref (wb (zw Z) + 85), .int 5, .ref (wb (zw Z) + 49)]) C (by decide) wmX8_init wiX8_init wcX8_init wdX8_init rfl dX1_init_30 (tX8_init (T := TS52) (a := 85) (k := 86) (by decide +kernel) (by decide +kernel)) rfl rfl (by rw [hR]; exact ⟨nle rfl, nle rfl⟩) (by rw [hR]; exact ⟨nle rfl, nle rfl⟩) (nle rfl) ?_
  show Wm Z (43, 778, TS53.1, TS53.2.1) TS53.2.2 33 [(1, .int 5), (0, .ref (wb (zw Z) + 48))] [.ref (wb (zw Z) + 85), .int 5, .ref (wb (zw Z) + 49)]
  refine q_aast (T := TS53) (a := 49) (b := 85) (t := 4) (n := 10) C dX1_init_33 (by decide +kernel) (by decide) (fun _ => rfl) (by decide +kernel) kc8.1 (by decide) ?_
  show Wm Z (43, 778, TS54.1, TS54.2.1) TS54.2.2 34 [(1, .int 5), (0, .ref (wb (zw Z) + 48))] []
  refine r_iinc [(1, .int 6), (0, .ref (wb (zw Z) + 48))] C dX1_init_34 0 rfl (by decide) (by decide) rfl ?_
  refine r_goto 15 C dX1_init_37 (by decide) ?_
  refine r_iload_n C dX1_init_15 0 rfl ?_
  refine r_bipush (v := 10) C dX1_init_16 (by decide) ?_
  refine r_icmp_ge 40 C dX1_init_18 (by decide) (fun c => absurd c (by decide)) (fun _ => ?_)
  refine r_aload_n C dX1_init_21 1 rfl ?_
  refine r_getR (a := 48) (b := 49) C flX1_11 dX1_init_22 (by decide +kernel) rfl (by decide +kernel) ?_
  refine r_iload_n C dX1_init_25 0 rfl ?_
  refine q_new (T := TS54) (k := 92) (by decide +kernel) C kc8 tyX8_ok df8 clX1_9 in8 ii8 dX1_init_26 (by rw [hR]; exact ⟨nle rfl, nle rfl⟩) ?_
  show Wm Z (44, 788, TS55.1, TS55.2.1) TS55.2.2 29 [(1, .int 6), (0, .ref (wb (zw Z) + 48))] [.ref (wb (zw Z) + 92), .int 6, .ref (wb (zw Z) + 49)]
  refine r_dup C dX1_init_29 rfl ?_
  refine r_callIN (a := 92) (As := []) (rest := [.ref (wb (zw Z) + 92), .int 6, .ref (wb (zw Z) + 49)]) C (by decide) wmX8_init wiX8_init wcX8_init wdX8_init rfl dX1_init_30 (tX8_init (T := TS55) (a := 92) (k := 93) (by decide +kernel) (by decide +kernel)) rfl rfl (by rw [hR]; exact ⟨nle rfl, nle rfl⟩) (by rw [hR]; exact ⟨nle rfl, nle rfl⟩) (nle rfl) ?_
  show Wm Z (50, 906, TS56.1, TS56.2.1) TS56.2.2 33 [(1, .int 6), (0, .ref (wb (zw Z) + 48))] [.ref (wb (zw Z) + 92), .int 6, .ref (wb (zw Z) + 49)]
  refine q_aast (T := TS56) (a := 49) (b := 92) (t := 4) (n := 10) C dX1_init_33 (by decide +kernel) (by decide) (fun _ => rfl) (by decide +kernel) kc8.1 (by decide) ?_
  show Wm Z (50, 906, TS57.1, TS57.2.1) TS57.2.2 34 [(1, .int 6), (0, .ref (wb (zw Z) + 48))] []
  refine r_iinc [(1, .int 7), (0, .ref (wb (zw Z) + 48))] C dX1_init_34 0 rfl (by decide) (by decide) rfl ?_
  refine r_goto 15 C dX1_init_37 (by decide) ?_
  refine r_iload_n C dX1_init_15 0 rfl ?_
  refine r_bipush (v := 10) C dX1_init_16 (by decide) ?_
  refine r_icmp_ge 40 C dX1_init_18 (by decide) (fun c => absurd c (by decide)) (fun _ => ?_)
  refine r_aload_n C dX1_init_21 1 rfl ?_
  refine r_getR (a := 48) (b := 49) C flX1_11 dX1_init_22 (by decide +kernel) rfl (by decide +kernel) ?_
  refine r_iload_n C dX1_init_25 0 rfl ?_
  refine q_new (T := TS57) (k := 99) (by decide +kernel) C kc8 tyX8_ok df8 clX1_9 in8 ii8 dX1_init_26 (by rw [hR]; exact ⟨nle rfl, nle rfl⟩) ?_
  show Wm Z (51, 916, TS58.1, TS58.2.1) TS58.2.2 29 [(1, .int 7), (0, .ref (wb (zw Z) + 48))] [.ref (wb (zw Z) + 99), .int 7, .ref (wb (zw Z) + 49)]
  refine r_dup C dX1_init_29 rfl ?_
  refine r_callIN (a := 99) (As := []) (rest := [.ref (wb (zw Z) + 99), .int 7, .ref (wb (zw Z) + 49)]) C (by decide) wmX8_init wiX8_init wcX8_init wdX8_init rfl dX1_init_30 (tX8_init (T := TS58) (a := 99) (k := 100) (by decide +kernel) (by decide +kernel)) rfl rfl (by rw [hR]; exact ⟨nle rfl, nle rfl⟩) (by rw [hR]; exact ⟨nle rfl, nle rfl⟩) (nle rfl) ?_
  show Wm Z (57, 1034, TS59.1, TS59.2.1) TS59.2.2 33 [(1, .int 7), (0, .ref (wb (zw Z) + 48))] [.ref (wb (zw Z) + 99), .int 7, .ref (wb (zw Z) + 49)]
  refine q_aast (T := TS59) (a := 49) (b := 99) (t := 4) (n := 10) C dX1_init_33 (by decide +kernel) (by decide) (fun _ => rfl) (by decide +kernel) kc8.1 (by decide) ?_
  show Wm Z (57, 1034, TS60.1, TS60.2.1) TS60.2.2 34 [(1, .int 7), (0, .ref (wb (zw Z) + 48))] []
  refine r_iinc [(1, .int 8), (0, .ref (wb (zw Z) + 48))] C dX1_init_34 0 rfl (by decide) (by decide) rfl ?_
  refine r_goto 15 C dX1_init_37 (by decide) ?_
  refine r_iload_n C dX1_init_15 0 rfl ?_
  refine r_bipush (v := 10) C dX1_init_16 (by decide) ?_
  refine r_icmp_ge 40 C dX1_init_18 (by decide) (fun c => absurd c (by decide)) (fun _ => ?_)
  refine r_aload_n C dX1_init_21 1 rfl ?_
  refine r_getR (a := 48) (b := 49) C flX1_11 dX1_init_22 (by decide +kernel) rfl (by decide +kernel) ?_
  refine r_iload_n C dX1_init_25 0 rfl ?_
  refine q_new (T := TS60) (k := 106) (by decide +kernel) C kc8 tyX8_ok df8 clX1_9 in8 ii8 dX1_init_26 (by rw [hR]; exact ⟨nle rfl, nle rfl⟩) ?_
  show Wm Z (58, 1044, TS61.1, TS61.2.1) TS61.2.2 29 [(1, .int 8), (0, .ref (wb (zw Z) + 48))] [.ref (wb (zw Z) + 106), .int 8, .ref (wb (zw Z) + 49)]
  refine r_dup C dX1_init_29 rfl ?_
  refine r_callIN (a := 106) (As := []) (rest := [.ref (wb (zw Z) + 106), .int 8, .ref (wb (zw Z) + 49)]) C (by decide) wmX8_init wiX8_init wcX8_init wdX8_init rfl dX1_init_30 (tX8_init (T := TS61) (a := 106) (k := 107) (by decide +kernel) (by decide +kernel)) rfl rfl (by rw [hR]; exact ⟨nle rfl, nle rfl⟩) (by rw [hR]; exact ⟨nle rfl, nle rfl⟩) (nle rfl) ?_
  show Wm Z (64, 1162, TS62.1, TS62.2.1) TS62.2.2 33 [(1, .int 8), (0, .ref (wb (zw Z) + 48))] [.ref (wb (zw Z) + 106), .int 8, .ref (wb (zw Z) + 49)]
  refine q_aast (T := TS62) (a := 49) (b := 106) (t := 4) (n := 10) C dX1_init_33 (by decide +kernel) (by decide) (fun _ => rfl) (by decide +kernel) kc8.1 (by decide) ?_
  show Wm Z (64, 1162, TS63.1, TS63.2.1) TS63.2.2 34 [(1, .int 8), (0, .ref (wb (zw Z) + 48))] []
  refine r_iinc [(1, .int 9), (0, .ref (wb (zw Z) + 48))] C dX1_init_34 0 rfl (by decide) (by decide) rfl ?_
  refine r_goto 15 C dX1_init_37 (by decide) ?_
  refine r_iload_n C dX1_init_15 0 rfl ?_
  refine r_bipush (v := 10) C dX1_init_16 (by decide) ?_
  refine r_icmp_ge 40 C dX1_init_18 (by decide) (fun c => absurd c (by decide)) (fun _ => ?_)
  refine r_aload_n C dX1_init_21 1 rfl ?_
  refine r_getR (a := 48) (b := 49) C flX1_11 dX1_init_22 (by decide +kernel) rfl (by decide +kernel) ?_
  refine r_iload_n C dX1_init_25 0 rfl ?_
  refine q_new (T := TS63) (k := 113) (by decide +kernel) C kc8 tyX8_ok df8 clX1_9 in8 ii8 dX1_init_26 (by rw [hR]; exact ⟨nle rfl, nle rfl⟩) ?_
  show Wm Z (65, 1172, TS64.1, TS64.2.1) TS64.2.2 29 [(1, .int 9), (0, .ref (wb (zw Z) + 48))] [.ref (wb (zw Z) + 113), .int 9, .ref (wb (zw Z) + 49)]
  refine r_dup C dX1_init_29 rfl ?_
  refine r_callIN (a := 113) (As := []) (rest := [.ref (wb (zw Z) + 113), .int 9, .ref (wb (zw Z) + 49)]) C (by decide) wmX8_init wiX8_init wcX8_init wdX8_init rfl dX1_init_30 (tX8_init (T := TS64) (a := 113) (k := 114) (by decide +kernel) (by decide +kernel)) rfl rfl (by rw [hR]; exact ⟨nle rfl, nle rfl⟩) (by rw [hR]; exact ⟨nle rfl, nle rfl⟩) (nle rfl) ?_
  show Wm Z (71, 1290, TS65.1, TS65.2.1) TS65.2.2 33 [(1, .int 9), (0, .ref (wb (zw Z) + 48))] [.ref (wb (zw Z) + 113), .int 9, .ref (wb (zw Z) + 49)]
  refine q_aast (T := TS65) (a := 49) (b := 113) (t := 4) (n := 10) C dX1_init_33 (by decide +kernel) (by decide) (fun _ => rfl) (by decide +kernel) kc8.1 (by decide) ?_
  show Wm Z (71, 1290, TS66.1, TS66.2.1) TS66.2.2 34 [(1, .int 9), (0, .ref (wb (zw Z) + 48))] []
  refine r_iinc [(1, .int 10), (0, .ref (wb (zw Z) + 48))] C dX1_init_34 0 rfl (by decide) (by decide) rfl ?_
  refine r_goto 15 C dX1_init_37 (by decide) ?_
  refine r_iload_n C dX1_init_15 0 rfl ?_
  refine r_bipush (v := 10) C dX1_init_16 (by decide) ?_
  refine r_icmp_ge 40 C dX1_init_18 (by decide) (fun _ => ?_) (fun c => absurd (by decide) c)
  exact r_vret C dX1_init_40 hr hE
def TS67 : TT := prT 0 9 48 TS66
def TS68 : TT := nwT 120 (.inl 0) TS67
def TS69 : TT := iX0 120 121 2 28 34 TS68
def TS70 : TT := prT 0 10 120 TS69
def TS71 : TT := nwT 124 (.inl 4) TS70
def TS72 : TT := iX4 124 125 TS71
def TS73 : TT := prT 0 11 124 TS72
def TS74 : TT := nwT 128 (.inr (5, 4)) TS73
def TS75 : TT := prT 0 12 128 TS74
def TS76 : TT := nwT 129 (.inl 10) TS75
def TS77 : TT := iX10 129 130 TS76
def TS78 : TT := prT 128 (ix 0) 129 TS77
def TS79 : TT := nwT 131 (.inl 10) TS78
def TS80 : TT := iX10 131 132 TS79
def TS81 : TT := prT 128 (ix 1) 131 TS80
def TS82 : TT := nwT 133 (.inl 10) TS81
def TS83 : TT := iX10 133 134 TS82
def TS84 : TT := prT 128 (ix 2) 133 TS83
def TS85 : TT := nwT 135 (.inl 10) TS84
def TS86 : TT := iX10 135 136 TS85
def TS87 : TT := prT 128 (ix 3) 135 TS86
def TS88 : TT := nwT 137 (.inr (6, 2)) TS87
def TS89 : TT := prT 0 13 137 TS88
def TS90 : TT := nwT 138 (.inr (0, 6)) TS89
def TS91 : TT := prT 0 14 138 TS90
set_option maxRecDepth 100000 in
set_option maxHeartbeats 8000000 in
theorem mX11_init {l : Launch} {w : WP} : CM l w yX11_init cX11_init 2 none 4 138 8492 TS0.1 TS0.2.1 [.ref (wb w + 0)] TS0.2.2 none TS91.1 TS91.2.1 TS91.2.2 := by
  refine CM.of (plainFor_of_name pf_X11) (Nat.le_of_ble_eq_true rfl) fun Z C hr hm hR hw hl0 hE => ?_
  subst hw; subst hl0
  have C : CX Z cX11_init 2 RX11 := C
  have hm : (zme Z).name = "<init>" := hm
  show Wm Z (0, 0, TS0.1, TS0.2.1) TS0.2.2 0 [(0, .ref (wb (zw Z) + 0))] []
  refine r_aload_n C dX11_init_0 0 rfl ?_
  refine r_oinit C oiX11_1 ow dX11_init_1 (by rw [hR]; exact ⟨by decide, by decide⟩) (by decide) ?_
  refine r_aload_n C dX11_init_4 0 rfl ?_
  refine r_sipush (v := 900) C dX11_init_5 (by decide) ?_
  refine q_newb (T := TS0) (k := 1) (n := 900) (by decide +kernel) C dX11_init_8 (by decide) (by decide) (by decide) (by rw [hR]; exact ⟨nle rfl, nle rfl⟩) ?_
  show Wm Z (1, 900, TS1.1, TS1.2.1) TS1.2.2 10 [(0, .ref (wb (zw Z) + 0))] [.ref (wb (zw Z) + 1), .ref (wb (zw Z) + 0)]
  refine q_putR (T := TS1) (b := 1) C ffX11_9 hm dX11_init_10 (by decide +kernel) ?_
  show Wm Z (1, 900, TS2.1, TS2.2.1) TS2.2.2 13 [(0, .ref (wb (zw Z) + 0))] []
  refine r_aload_n C dX11_init_13 0 rfl ?_
  refine r_iconst (v := 0) C dX11_init_14 (by decide) ?_
  refine q_putI (T := TS2) C fiX11_13 dX11_init_15 (by decide +kernel) ?_
  show Wm Z (1, 900, TS3.1, TS3.2.1) TS3.2.2 18 [(0, .ref (wb (zw Z) + 0))] []
  refine r_aload_n C dX11_init_18 0 rfl ?_
  refine r_iconst (v := 0) C dX11_init_19 (by decide) ?_
  refine q_putI (T := TS3) C fiX11_17 dX11_init_20 (by decide +kernel) ?_
  show Wm Z (1, 900, TS4.1, TS4.2.1) TS4.2.2 23 [(0, .ref (wb (zw Z) + 0))] []
  refine r_aload_n C dX11_init_23 0 rfl ?_
  refine r_iconst (v := (-1)) C dX11_init_24 (by decide) ?_
  refine q_putI (T := TS4) C fiX11_20 dX11_init_25 (by decide +kernel) ?_
  show Wm Z (1, 900, TS5.1, TS5.2.1) TS5.2.2 28 [(0, .ref (wb (zw Z) + 0))] []
  refine r_aload_n C dX11_init_28 0 rfl ?_
  refine q_new (T := TS5) (k := 2) (by decide +kernel) C kc7 tyX7_ok df7 clX11_23 in7 ii7 dX11_init_29 (by rw [hR]; exact ⟨nle rfl, nle rfl⟩) ?_
  show Wm Z (2, 915, TS6.1, TS6.2.1) TS6.2.2 32 [(0, .ref (wb (zw Z) + 0))] [.ref (wb (zw Z) + 2), .ref (wb (zw Z) + 0)]
  refine r_dup C dX11_init_32 rfl ?_
  refine r_callIN (a := 2) (As := []) (rest := [.ref (wb (zw Z) + 2), .ref (wb (zw Z) + 0)]) C (by decide) wmX7_init wiX7_init wcX7_init wdX7_init rfl dX11_init_33 (tX7_init (T := TS6) (a := 2) (k := 3) (by decide +kernel) (by decide +kernel)) rfl rfl (by rw [hR]; exact ⟨nle rfl, nle rfl⟩) (by rw [hR]; exact ⟨nle rfl, nle rfl⟩) (nle rfl) ?_
  show Wm Z (12, 1877, TS7.1, TS7.2.1) TS7.2.2 36 [(0, .ref (wb (zw Z) + 0))] [.ref (wb (zw Z) + 2), .ref (wb (zw Z) + 0)]
  refine q_putR (T := TS7) (b := 2) C ffX11_26 hm dX11_init_36 (by decide +kernel) ?_
  show Wm Z (12, 1877, TS8.1, TS8.2.1) TS8.2.2 39 [(0, .ref (wb (zw Z) + 0))] []
  refine r_aload_n C dX11_init_39 0 rfl ?_
  refine q_new (T := TS8) (k := 13) (by decide +kernel) C kc5 tyX5_ok df5 clX11_30 in5 ii5 dX11_init_40 (by rw [hR]; exact ⟨nle rfl, nle rfl⟩) ?_
  show Wm Z (13, 1883, TS9.1, TS9.2.1) TS9.2.2 43 [(0, .ref (wb (zw Z) + 0))] [.ref (wb (zw Z) + 13), .ref (wb (zw Z) + 0)]
  refine r_dup C dX11_init_43 rfl ?_
  refine r_callIN (a := 13) (As := []) (rest := [.ref (wb (zw Z) + 13), .ref (wb (zw Z) + 0)]) C (by decide) wmX5_init wiX5_init wcX5_init wdX5_init rfl dX11_init_44 (tX5_init (T := TS9) (a := 13) (k := 14) (by decide +kernel) (by decide +kernel)) rfl rfl (by rw [hR]; exact ⟨nle rfl, nle rfl⟩) (by rw [hR]; exact ⟨nle rfl, nle rfl⟩) (nle rfl) ?_
  show Wm Z (27, 4665, TS10.1, TS10.2.1) TS10.2.2 47 [(0, .ref (wb (zw Z) + 0))] [.ref (wb (zw Z) + 13), .ref (wb (zw Z) + 0)]
  refine q_putR (T := TS10) (b := 13) C ffX11_33 hm dX11_init_47 (by decide +kernel) ?_
  show Wm Z (27, 4665, TS11.1, TS11.2.1) TS11.2.2 50 [(0, .ref (wb (zw Z) + 0))] []
  refine r_aload_n C dX11_init_50 0 rfl ?_
  refine q_new (T := TS11) (k := 28) (by decide +kernel) C kc6 tyX6_ok df6 clX11_37 in6 ii6 dX11_init_51 (by rw [hR]; exact ⟨nle rfl, nle rfl⟩) ?_
  show Wm Z (28, 4671, TS12.1, TS12.2.1) TS12.2.2 54 [(0, .ref (wb (zw Z) + 0))] [.ref (wb (zw Z) + 28), .ref (wb (zw Z) + 0)]
  refine r_dup C dX11_init_54 rfl ?_
  refine r_aload_n C dX11_init_55 0 rfl ?_
  refine r_getR (a := 0) (b := 2) C flX11_26 dX11_init_56 (by decide +kernel) rfl (by decide +kernel) ?_
  refine r_callI (a := 28) (As := [.ref (wb (zw Z) + 2)]) (rest := [.ref (wb (zw Z) + 28), .ref (wb (zw Z) + 0)]) C mlX11_39 wmX6_init wiX6_init wcX6_init wdX6_init rfl dX11_init_59 (mX6_init) rfl rfl (by rw [hR]; exact ⟨nle rfl, nle rfl⟩) (by rw [hR]; exact ⟨nle rfl, nle rfl⟩) (nle rfl) ?_
  show Wm Z (33, 5508, TS26.1, TS26.2.1) TS26.2.2 62 [(0, .ref (wb (zw Z) + 0))] [.ref (wb (zw Z) + 28), .ref (wb (zw Z) + 0)]
  refine q_putR (T := TS26) (b := 28) C ffX11_42 hm dX11_init_62 (by decide +kernel) ?_
  show Wm Z (33, 5508, TS27.1, TS27.2.1) TS27.2.2 65 [(0, .ref (wb (zw Z) + 0))] []
  refine r_aload_n C dX11_init_65 0 rfl ?_
  refine q_new (T := TS27) (k := 34) (by decide +kernel) C kc8 tyX8_ok df8 clX11_46 in8 ii8 dX11_init_66 (by rw [hR]; exact ⟨nle rfl, nle rfl⟩) ?_
  show Wm Z (34, 5518, TS28.1, TS28.2.1) TS28.2.2 69 [(0, .ref (wb (zw Z) + 0))] [.ref (wb (zw Z) + 34), .ref (wb (zw Z) + 0)]
  refine r_dup C dX11_init_69 rfl ?_
  refine r_callIN (a := 34) (As := []) (rest := [.ref (wb (zw Z) + 34), .ref (wb (zw Z) + 0)]) C (by decide) wmX8_init wiX8_init wcX8_init wdX8_init rfl dX11_init_70 (tX8_init (T := TS28) (a := 34) (k := 35) (by decide +kernel) (by decide +kernel)) rfl rfl (by rw [hR]; exact ⟨nle rfl, nle rfl⟩) (by rw [hR]; exact ⟨nle rfl, nle rfl⟩) (nle rfl) ?_
  show Wm Z (40, 5636, TS29.1, TS29.2.1) TS29.2.2 73 [(0, .ref (wb (zw Z) + 0))] [.ref (wb (zw Z) + 34), .ref (wb (zw Z) + 0)]
  refine q_putR (T := TS29) (b := 34) C ffX11_49 hm dX11_init_73 (by decide +kernel) ?_
  show Wm Z (40, 5636, TS30.1, TS30.2.1) TS30.2.2 76 [(0, .ref (wb (zw Z) + 0))] []
  refine r_aload_n C dX11_init_76 0 rfl ?_
  refine q_new (T := TS30) (k := 41) (by decide +kernel) C kc8 tyX8_ok df8 clX11_46 in8 ii8 dX11_init_77 (by rw [hR]; exact ⟨nle rfl, nle rfl⟩) ?_
  show Wm Z (41, 5646, TS31.1, TS31.2.1) TS31.2.2 80 [(0, .ref (wb (zw Z) + 0))] [.ref (wb (zw Z) + 41), .ref (wb (zw Z) + 0)]
  refine r_dup C dX11_init_80 rfl ?_
  refine r_callIN (a := 41) (As := []) (rest := [.ref (wb (zw Z) + 41), .ref (wb (zw Z) + 0)]) C (by decide) wmX8_init wiX8_init wcX8_init wdX8_init rfl dX11_init_81 (tX8_init (T := TS31) (a := 41) (k := 42) (by decide +kernel) (by decide +kernel)) rfl rfl (by rw [hR]; exact ⟨nle rfl, nle rfl⟩) (by rw [hR]; exact ⟨nle rfl, nle rfl⟩) (nle rfl) ?_
  show Wm Z (47, 5764, TS32.1, TS32.2.1) TS32.2.2 84 [(0, .ref (wb (zw Z) + 0))] [.ref (wb (zw Z) + 41), .ref (wb (zw Z) + 0)]
  refine q_putR (T := TS32) (b := 41) C ffX11_53 hm dX11_init_84 (by decide +kernel) ?_
  show Wm Z (47, 5764, TS33.1, TS33.2.1) TS33.2.2 87 [(0, .ref (wb (zw Z) + 0))] []
  refine r_aload_n C dX11_init_87 0 rfl ?_
  refine q_new (T := TS33) (k := 48) (by decide +kernel) C kc1 tyX1_ok df1 clX11_56 in1 ii1 dX11_init_88 (by rw [hR]; exact ⟨nle rfl, nle rfl⟩) ?_
  show Wm Z (48, 5767, TS34.1, TS34.2.1) TS34.2.2 91 [(0, .ref (wb (zw Z) + 0))] [.ref (wb (zw Z) + 48), .ref (wb (zw Z) + 0)]
  refine r_dup C dX11_init_91 rfl ?_
  refine r_callI (a := 48) (As := []) (rest := [.ref (wb (zw Z) + 48), .ref (wb (zw Z) + 0)]) C mlX11_58 wmX1_init wiX1_init wcX1_init wdX1_init rfl dX11_init_92 (mX1_init) rfl rfl (by rw [hR]; exact ⟨nle rfl, nle rfl⟩) (by rw [hR]; exact ⟨nle rfl, nle rfl⟩) (nle rfl) ?_
  show Wm Z (119, 7057, TS66.1, TS66.2.1) TS66.2.2 95 [(0, .ref (wb (zw Z) + 0))] [.ref (wb (zw Z) + 48), .ref (wb (zw Z) + 0)]
  refine q_putR (T := TS66) (b := 48) C ffX11_59 hm dX11_init_95 (by decide +kernel) ?_
  show Wm Z (119, 7057, TS67.1, TS67.2.1) TS67.2.2 98 [(0, .ref (wb (zw Z) + 0))] []
  refine r_aload_n C dX11_init_98 0 rfl ?_
  refine q_new (T := TS67) (k := 120) (by decide +kernel) C kc0 tyX0_ok df0 clX11_63 in0 ii0 dX11_init_99 (by rw [hR]; exact ⟨nle rfl, nle rfl⟩) ?_
  show Wm Z (120, 7065, TS68.1, TS68.2.1) TS68.2.2 102 [(0, .ref (wb (zw Z) + 0))] [.ref (wb (zw Z) + 120), .ref (wb (zw Z) + 0)]
  refine r_dup C dX11_init_102 rfl ?_
  refine r_aload_n C dX11_init_103 0 rfl ?_
  refine r_getR (a := 0) (b := 2) C flX11_26 dX11_init_104 (by decide +kernel) rfl (by decide +kernel) ?_
  refine r_aload_n C dX11_init_107 0 rfl ?_
  refine r_getR (a := 0) (b := 28) C flX11_42 dX11_init_108 (by decide +kernel) rfl (by decide +kernel) ?_
  refine r_aload_n C dX11_init_111 0 rfl ?_
  refine r_getR (a := 0) (b := 34) C flX11_49 dX11_init_112 (by decide +kernel) rfl (by decide +kernel) ?_
  refine r_callI (a := 120) (As := [.ref (wb (zw Z) + 2), .ref (wb (zw Z) + 28), .ref (wb (zw Z) + 34)]) (rest := [.ref (wb (zw Z) + 120), .ref (wb (zw Z) + 0)]) C mlX11_65 wmX0_init wiX0_init wcX0_init wdX0_init rfl dX11_init_115 (tX0_init (T := TS68) (a := 120) (k := 121) (b1 := 2) (b2 := 28) (b3 := 34) (by decide +kernel) (by decide +kernel)) rfl rfl (by rw [hR]; exact ⟨nle rfl, nle rfl⟩) (by rw [hR]; exact ⟨nle rfl, nle rfl⟩) (nle rfl) ?_
  show Wm Z (123, 8223, TS69.1, TS69.2.1) TS69.2.2 118 [(0, .ref (wb (zw Z) + 0))] [.ref (wb (zw Z) + 120), .ref (wb (zw Z) + 0)]
  refine q_putR (T := TS69) (b := 120) C ffX11_68 hm dX11_init_118 (by decide +kernel) ?_
  show Wm Z (123, 8223, TS70.1, TS70.2.1) TS70.2.2 121 [(0, .ref (wb (zw Z) + 0))] []
  refine r_aload_n C dX11_init_121 0 rfl ?_
  refine q_new (T := TS70) (k := 124) (by decide +kernel) C kc4 tyX4_ok df4 clX11_72 in4 ii4 dX11_init_122 (by rw [hR]; exact ⟨nle rfl, nle rfl⟩) ?_
  show Wm Z (124, 8228, TS71.1, TS71.2.1) TS71.2.2 125 [(0, .ref (wb (zw Z) + 0))] [.ref (wb (zw Z) + 124), .ref (wb (zw Z) + 0)]
  refine r_dup C dX11_init_125 rfl ?_
  refine r_callIN (a := 124) (As := []) (rest := [.ref (wb (zw Z) + 124), .ref (wb (zw Z) + 0)]) C (by decide) wmX4_init wiX4_init wcX4_init wdX4_init rfl dX11_init_126 (tX4_init (T := TS71) (a := 124) (k := 125) (by decide +kernel) (by decide +kernel)) rfl rfl (by rw [hR]; exact ⟨nle rfl, nle rfl⟩) (by rw [hR]; exact ⟨nle rfl, nle rfl⟩) (nle rfl) ?_
  show Wm Z (127, 8308, TS72.1, TS72.2.1) TS72.2.2 129 [(0, .ref (wb (zw Z) + 0))] [.ref (wb (zw Z) + 124), .ref (wb (zw Z) + 0)]
  refine q_putR (T := TS72) (b := 124) C ffX11_75 hm dX11_init_129 (by decide +kernel) ?_
  show Wm Z (127, 8308, TS73.1, TS73.2.1) TS73.2.2 132 [(0, .ref (wb (zw Z) + 0))] []
  refine r_aload_n C dX11_init_132 0 rfl ?_
  refine r_iconst (v := 4) C dX11_init_133 (by decide) ?_
  refine q_anew (T := TS73) (k := 128) (n := 4) (t := 5) (by decide +kernel) C (fun _ => rfl) (by decide) clX11_79 C.2.2.2.2.2.2.1.2.2.2.2.2.1.2.1 dX11_init_134 (by decide) (by decide) (by decide) (by rw [hR]; exact ⟨nle rfl, nle rfl⟩) ?_
  show Wm Z (128, 8312, TS74.1, TS74.2.1) TS74.2.2 137 [(0, .ref (wb (zw Z) + 0))] [.ref (wb (zw Z) + 128), .ref (wb (zw Z) + 0)]
  refine q_putR (T := TS74) (b := 128) C ffX11_81 hm dX11_init_137 (by decide +kernel) ?_
  show Wm Z (128, 8312, TS75.1, TS75.2.1) TS75.2.2 140 [(0, .ref (wb (zw Z) + 0))] []
  refine r_iconst (v := 0) C dX11_init_140 (by decide) ?_
  refine r_istore_n [(1, .int 0), (0, .ref (wb (zw Z) + 0))] C dX11_init_141 rfl (by decide) rfl ?_
  refine r_iload_n C dX11_init_142 0 rfl ?_
  refine r_iconst (v := 4) C dX11_init_143 (by decide) ?_
  refine r_icmp_ge 166 C dX11_init_144 (by decide) (fun c => absurd c (by decide)) (fun _ => ?_)
  refine r_aload_n C dX11_init_147 1 rfl ?_
  refine r_getR (a := 0) (b := 128) C flX11_81 dX11_init_148 (by decide +kernel) rfl (by decide +kernel) ?_
  refine r_iload_n C dX11_init_151 0 rfl ?_
  refine q_new (T := TS75) (k := 129) (by decide +kernel) C kc10 tyX10_ok df10 clX11_79 in10 ii10 dX11_init_152 (by rw [hR]; exact ⟨nle rfl, nle rfl⟩) ?_
  show Wm Z (129, 8315, TS76.1, TS76.2.1) TS76.2.2 155 [(1, .int 0), (0, .ref (wb (zw Z) + 0))] [.ref (wb (zw Z) + 129), .int 0, .ref (wb (zw Z) + 128)]
  refine r_dup C dX11_init_155 rfl ?_
  refine r_callIN (a := 129) (As := []) (rest := [.ref (wb (zw Z) + 129), .int 0, .ref (wb (zw Z) + 128)]) C (by decide) wmX10_init wiX10_init wcX10_init wdX10_init rfl dX11_init_156 (tX10_init (T := TS76) (a := 129) (k := 130) (by decide +kernel) (by decide +kernel)) rfl rfl (by rw [hR]; exact ⟨nle rfl, nle rfl⟩) (by rw [hR]; exact ⟨nle rfl, nle rfl⟩) (nle rfl) ?_
  show Wm Z (130, 8355, TS77.1, TS77.2.1) TS77.2.2 159 [(1, .int 0), (0, .ref (wb (zw Z) + 0))] [.ref (wb (zw Z) + 129), .int 0, .ref (wb (zw Z) + 128)]
  refine q_aast (T := TS77) (a := 128) (b := 129) (t := 5) (n := 4) C dX11_init_159 (by decide +kernel) (by decide) (fun _ => rfl) (by decide +kernel) kc10.1 (by decide) ?_
  show Wm Z (130, 8355, TS78.1, TS78.2.1) TS78.2.2 160 [(1, .int 0), (0, .ref (wb (zw Z) + 0))] []
  refine r_iinc [(1, .int 1), (0, .ref (wb (zw Z) + 0))] C dX11_init_160 0 rfl (by decide) (by decide) rfl ?_
  refine r_goto 142 C dX11_init_163 (by decide) ?_
  refine r_iload_n C dX11_init_142 0 rfl ?_
  refine r_iconst (v := 4) C dX11_init_143 (by decide) ?_
  refine r_icmp_ge 166 C dX11_init_144 (by decide) (fun c => absurd c (by decide)) (fun _ => ?_)
  refine r_aload_n C dX11_init_147 1 rfl ?_
  refine r_getR (a := 0) (b := 128) C flX11_81 dX11_init_148 (by decide +kernel) rfl (by decide +kernel) ?_
  refine r_iload_n C dX11_init_151 0 rfl ?_
  refine q_new (T := TS78) (k := 131) (by decide +kernel) C kc10 tyX10_ok df10 clX11_79 in10 ii10 dX11_init_152 (by rw [hR]; exact ⟨nle rfl, nle rfl⟩) ?_
  show Wm Z (131, 8358, TS79.1, TS79.2.1) TS79.2.2 155 [(1, .int 1), (0, .ref (wb (zw Z) + 0))] [.ref (wb (zw Z) + 131), .int 1, .ref (wb (zw Z) + 128)]
  refine r_dup C dX11_init_155 rfl ?_
  refine r_callIN (a := 131) (As := []) (rest := [.ref (wb (zw Z) + 131), .int 1, .ref (wb (zw Z) + 128)]) C (by decide) wmX10_init wiX10_init wcX10_init wdX10_init rfl dX11_init_156 (tX10_init (T := TS79) (a := 131) (k := 132) (by decide +kernel) (by decide +kernel)) rfl rfl (by rw [hR]; exact ⟨nle rfl, nle rfl⟩) (by rw [hR]; exact ⟨nle rfl, nle rfl⟩) (nle rfl) ?_
  show Wm Z (132, 8398, TS80.1, TS80.2.1) TS80.2.2 159 [(1, .int 1), (0, .ref (wb (zw Z) + 0))] [.ref (wb (zw Z) + 131), .int 1, .ref (wb (zw Z) + 128)]
  refine q_aast (T := TS80) (a := 128) (b := 131) (t := 5) (n := 4) C dX11_init_159 (by decide +kernel) (by decide) (fun _ => rfl) (by decide +kernel) kc10.1 (by decide) ?_
  show Wm Z (132, 8398, TS81.1, TS81.2.1) TS81.2.2 160 [(1, .int 1), (0, .ref (wb (zw Z) + 0))] []
  refine r_iinc [(1, .int 2), (0, .ref (wb (zw Z) + 0))] C dX11_init_160 0 rfl (by decide) (by decide) rfl ?_
  refine r_goto 142 C dX11_init_163 (by decide) ?_
  refine r_iload_n C dX11_init_142 0 rfl ?_
  refine r_iconst (v := 4) C dX11_init_143 (by decide) ?_
  refine r_icmp_ge 166 C dX11_init_144 (by decide) (fun c => absurd c (by decide)) (fun _ => ?_)
  refine r_aload_n C dX11_init_147 1 rfl ?_
  refine r_getR (a := 0) (b := 128) C flX11_81 dX11_init_148 (by decide +kernel) rfl (by decide +kernel) ?_
  refine r_iload_n C dX11_init_151 0 rfl ?_
  refine q_new (T := TS81) (k := 133) (by decide +kernel) C kc10 tyX10_ok df10 clX11_79 in10 ii10 dX11_init_152 (by rw [hR]; exact ⟨nle rfl, nle rfl⟩) ?_
  show Wm Z (133, 8401, TS82.1, TS82.2.1) TS82.2.2 155 [(1, .int 2), (0, .ref (wb (zw Z) + 0))] [.ref (wb (zw Z) + 133), .int 2, .ref (wb (zw Z) + 128)]
  refine r_dup C dX11_init_155 rfl ?_
  refine r_callIN (a := 133) (As := []) (rest := [.ref (wb (zw Z) + 133), .int 2, .ref (wb (zw Z) + 128)]) C (by decide) wmX10_init wiX10_init wcX10_init wdX10_init rfl dX11_init_156 (tX10_init (T := TS82) (a := 133) (k := 134) (by decide +kernel) (by decide +kernel)) rfl rfl (by rw [hR]; exact ⟨nle rfl, nle rfl⟩) (by rw [hR]; exact ⟨nle rfl, nle rfl⟩) (nle rfl) ?_
  show Wm Z (134, 8441, TS83.1, TS83.2.1) TS83.2.2 159 [(1, .int 2), (0, .ref (wb (zw Z) + 0))] [.ref (wb (zw Z) + 133), .int 2, .ref (wb (zw Z) + 128)]
  refine q_aast (T := TS83) (a := 128) (b := 133) (t := 5) (n := 4) C dX11_init_159 (by decide +kernel) (by decide) (fun _ => rfl) (by decide +kernel) kc10.1 (by decide) ?_
  show Wm Z (134, 8441, TS84.1, TS84.2.1) TS84.2.2 160 [(1, .int 2), (0, .ref (wb (zw Z) + 0))] []
  refine r_iinc [(1, .int 3), (0, .ref (wb (zw Z) + 0))] C dX11_init_160 0 rfl (by decide) (by decide) rfl ?_
  refine r_goto 142 C dX11_init_163 (by decide) ?_
  refine r_iload_n C dX11_init_142 0 rfl ?_
  refine r_iconst (v := 4) C dX11_init_143 (by decide) ?_
  refine r_icmp_ge 166 C dX11_init_144 (by decide) (fun c => absurd c (by decide)) (fun _ => ?_)
  refine r_aload_n C dX11_init_147 1 rfl ?_
  refine r_getR (a := 0) (b := 128) C flX11_81 dX11_init_148 (by decide +kernel) rfl (by decide +kernel) ?_
  refine r_iload_n C dX11_init_151 0 rfl ?_
  refine q_new (T := TS84) (k := 135) (by decide +kernel) C kc10 tyX10_ok df10 clX11_79 in10 ii10 dX11_init_152 (by rw [hR]; exact ⟨nle rfl, nle rfl⟩) ?_
  show Wm Z (135, 8444, TS85.1, TS85.2.1) TS85.2.2 155 [(1, .int 3), (0, .ref (wb (zw Z) + 0))] [.ref (wb (zw Z) + 135), .int 3, .ref (wb (zw Z) + 128)]
  refine r_dup C dX11_init_155 rfl ?_
  refine r_callIN (a := 135) (As := []) (rest := [.ref (wb (zw Z) + 135), .int 3, .ref (wb (zw Z) + 128)]) C (by decide) wmX10_init wiX10_init wcX10_init wdX10_init rfl dX11_init_156 (tX10_init (T := TS85) (a := 135) (k := 136) (by decide +kernel) (by decide +kernel)) rfl rfl (by rw [hR]; exact ⟨nle rfl, nle rfl⟩) (by rw [hR]; exact ⟨nle rfl, nle rfl⟩) (nle rfl) ?_
  show Wm Z (136, 8484, TS86.1, TS86.2.1) TS86.2.2 159 [(1, .int 3), (0, .ref (wb (zw Z) + 0))] [.ref (wb (zw Z) + 135), .int 3, .ref (wb (zw Z) + 128)]
  refine q_aast (T := TS86) (a := 128) (b := 135) (t := 5) (n := 4) C dX11_init_159 (by decide +kernel) (by decide) (fun _ => rfl) (by decide +kernel) kc10.1 (by decide) ?_
  show Wm Z (136, 8484, TS87.1, TS87.2.1) TS87.2.2 160 [(1, .int 3), (0, .ref (wb (zw Z) + 0))] []
  refine r_iinc [(1, .int 4), (0, .ref (wb (zw Z) + 0))] C dX11_init_160 0 rfl (by decide) (by decide) rfl ?_
  refine r_goto 142 C dX11_init_163 (by decide) ?_
  refine r_iload_n C dX11_init_142 0 rfl ?_
  refine r_iconst (v := 4) C dX11_init_143 (by decide) ?_
  refine r_icmp_ge 166 C dX11_init_144 (by decide) (fun _ => ?_) (fun c => absurd (by decide) c)
  refine r_aload_n C dX11_init_166 1 rfl ?_
  refine r_iconst (v := 2) C dX11_init_167 (by decide) ?_
  refine q_anew (T := TS87) (k := 137) (n := 2) (t := 6) (by decide +kernel) C (fun _ => rfl) (by decide) clX11_86 C.2.2.2.2.2.2.1.2.2.2.2.2.1.2.2 dX11_init_168 (by decide) (by decide) (by decide) (by rw [hR]; exact ⟨nle rfl, nle rfl⟩) ?_
  show Wm Z (137, 8486, TS88.1, TS88.2.1) TS88.2.2 171 [(1, .int 4), (0, .ref (wb (zw Z) + 0))] [.ref (wb (zw Z) + 137), .ref (wb (zw Z) + 0)]
  refine q_putR (T := TS88) (b := 137) C ffX11_88 hm dX11_init_171 (by decide +kernel) ?_
  show Wm Z (137, 8486, TS89.1, TS89.2.1) TS89.2.2 174 [(1, .int 4), (0, .ref (wb (zw Z) + 0))] []
  refine r_aload_n C dX11_init_174 1 rfl ?_
  refine r_bipush (v := 6) C dX11_init_175 (by decide) ?_
  refine q_newi (T := TS89) (k := 138) (n := 6) (by decide +kernel) C dX11_init_177 (by decide) (by decide) (by decide) (by rw [hR]; exact ⟨nle rfl, nle rfl⟩) ?_
  show Wm Z (138, 8492, TS90.1, TS90.2.1) TS90.2.2 179 [(1, .int 4), (0, .ref (wb (zw Z) + 0))] [.ref (wb (zw Z) + 138), .ref (wb (zw Z) + 0)]
  refine q_putR (T := TS90) (b := 138) C ffX11_92 hm dX11_init_179 (by decide +kernel) ?_
  show Wm Z (138, 8492, TS91.1, TS91.2.1) TS91.2.2 182 [(1, .int 4), (0, .ref (wb (zw Z) + 0))] []
  exact r_vret C dX11_init_182 hr hE
def TS92 : TT := nwT 139 (.inl 12) TS91
def TS93 : TT := nwT 140 (.inr (0, 6726)) TS92
def TS94 : TT := prT 139 1 140 TS93
def TS95 : TT := nwT 141 (.inr (2, 2)) TS94
def TS96 : TT := prT 139 2 141 TS95
def TS97 : TT := nwT 142 (.inr (0, 900)) TS96
def TS98 : TT := prT 139 3 142 TS97
def TS99 : TT := nwT 143 (.inr (0, 2242)) TS98
def TS100 : TT := prT 139 4 143 TS99
def TS101 : TT := piT 139 14 (-1) TS100
def TS102 : TT := nwT 144 (.inr (0, 900)) TS101
def TS103 : TT := prT 139 16 144 TS102
def TS104 : TT := nwT 145 (.inr (0, 9)) TS103
def TS105 : TT := prT 139 17 145 TS104
def TS106 : TT := nwT 146 (.inr (0, 116)) TS105
def TS107 : TT := prT 139 18 146 TS106
def TS108 : TT := nwT 147 (.inr (0, 8)) TS107
def TS109 : TT := prT 139 21 147 TS108
def TS110 : TT := nwT 148 (.inr (0, 6)) TS109
def TS111 : TT := prT 139 22 148 TS110
def TS112 : TT := nwT 149 (.inr (0, 8)) TS111
def TS113 : TT := prT 139 23 149 TS112
def TS114 : TT := nwT 150 (.inr (0, 8)) TS113
def TS115 : TT := prT 139 24 150 TS114
def TS116 : TT := nwT 151 (.inr (0, 64)) TS115
def TS117 : TT := prT 139 25 151 TS116
def TS118 : TT := nwT 152 (.inr (0, 4)) TS117
def TS119 : TT := piT 152 (ix 0) (-1) TS118
def TS120 : TT := piT 152 (ix 1) (-1) TS119
def TS121 : TT := piT 152 (ix 2) (-1) TS120
def TS122 : TT := piT 152 (ix 3) (-1) TS121
def TS123 : TT := prT 139 27 152 TS122
def TS124 : TT := nwT 153 (.inr (0, 4)) TS123
def TS125 : TT := prT 139 28 153 TS124
def TS126 : TT := nwT 154 (.inr (3, 160)) TS125
def TS127 : TT := prT 139 29 154 TS126
theorem LYx : LY TS127.1 TS127.2.1 := ⟨fun k e h => by rw [show TS127.1 = SH0 by decide +kernel]; exact h, by decide +kernel⟩
set_option maxRecDepth 100000 in
set_option maxHeartbeats 8000000 in
theorem mX12_init {l : Launch} {w : WP} {n : Nat} {μ' : Mu} (hp : fX12_plain n 140 6726 TS127.2.2 = some μ') : CM l w yX12_init cX12_init 1 none 1 15 11157 TS92.1 TS92.2.1 [.ref (wb w + 139)] TS92.2.2 none TS127.1 TS127.2.1 μ' := by
  refine CM.of (plainFor_of_name pf_X12) (Nat.le_of_ble_eq_true rfl) fun Z C hr hm hR hw hl0 hE => ?_
  subst hw; subst hl0
  have C : CX Z cX12_init 1 RX12 := C
  have hm : (zme Z).name = "<init>" := hm
  show Wm Z (0, 0, TS92.1, TS92.2.1) TS92.2.2 0 [(0, .ref (wb (zw Z) + 139))] []
  refine r_aload_n C dX12_init_0 0 rfl ?_
  refine r_oinit C oiX12_7 ow dX12_init_1 (by rw [hR]; exact ⟨by decide, by decide⟩) (by decide) ?_
  refine r_aload_n C dX12_init_4 0 rfl ?_
  refine r_sipush (v := 6726) C dX12_init_5 (by decide) ?_
  refine q_newi (T := TS92) (k := 140) (n := 6726) (by decide +kernel) C dX12_init_8 (by decide) (by decide) (by decide) (by rw [hR]; exact ⟨nle rfl, nle rfl⟩) ?_
  show Wm Z (1, 6726, TS93.1, TS93.2.1) TS93.2.2 10 [(0, .ref (wb (zw Z) + 139))] [.ref (wb (zw Z) + 140), .ref (wb (zw Z) + 139)]
  refine q_putR (T := TS93) (b := 140) C ffX12_13 hm dX12_init_10 (by decide +kernel) ?_
  show Wm Z (1, 6726, TS94.1, TS94.2.1) TS94.2.2 13 [(0, .ref (wb (zw Z) + 139))] []
  refine r_aload_n C dX12_init_13 0 rfl ?_
  refine r_iconst (v := 2) C dX12_init_14 (by decide) ?_
  refine q_newz (T := TS94) (k := 141) (n := 2) (by decide +kernel) C dX12_init_15 (by decide) (by decide) (by decide) (by rw [hR]; exact ⟨nle rfl, nle rfl⟩) ?_
  show Wm Z (2, 6728, TS95.1, TS95.2.1) TS95.2.2 17 [(0, .ref (wb (zw Z) + 139))] [.ref (wb (zw Z) + 141), .ref (wb (zw Z) + 139)]
  refine q_putR (T := TS95) (b := 141) C ffX12_17 hm dX12_init_17 (by decide +kernel) ?_
  show Wm Z (2, 6728, TS96.1, TS96.2.1) TS96.2.2 20 [(0, .ref (wb (zw Z) + 139))] []
  refine r_aload_n C dX12_init_20 0 rfl ?_
  refine r_sipush (v := 900) C dX12_init_21 (by decide) ?_
  refine q_newi (T := TS96) (k := 142) (n := 900) (by decide +kernel) C dX12_init_24 (by decide) (by decide) (by decide) (by rw [hR]; exact ⟨nle rfl, nle rfl⟩) ?_
  show Wm Z (3, 7628, TS97.1, TS97.2.1) TS97.2.2 26 [(0, .ref (wb (zw Z) + 139))] [.ref (wb (zw Z) + 142), .ref (wb (zw Z) + 139)]
  refine q_putR (T := TS97) (b := 142) C ffX12_21 hm dX12_init_26 (by decide +kernel) ?_
  show Wm Z (3, 7628, TS98.1, TS98.2.1) TS98.2.2 29 [(0, .ref (wb (zw Z) + 139))] []
  refine r_aload_n C dX12_init_29 0 rfl ?_
  refine r_sipush (v := 2242) C dX12_init_30 (by decide) ?_
  refine q_newi (T := TS98) (k := 143) (n := 2242) (by decide +kernel) C dX12_init_33 (by decide) (by decide) (by decide) (by rw [hR]; exact ⟨nle rfl, nle rfl⟩) ?_
  show Wm Z (4, 9870, TS99.1, TS99.2.1) TS99.2.2 35 [(0, .ref (wb (zw Z) + 139))] [.ref (wb (zw Z) + 143), .ref (wb (zw Z) + 139)]
  refine q_putR (T := TS99) (b := 143) C ffX12_24 hm dX12_init_35 (by decide +kernel) ?_
  show Wm Z (4, 9870, TS100.1, TS100.2.1) TS100.2.2 38 [(0, .ref (wb (zw Z) + 139))] []
  refine r_aload_n C dX12_init_38 0 rfl ?_
  refine r_iconst (v := (-1)) C dX12_init_39 (by decide) ?_
  refine q_putI (T := TS100) C fiX12_27 dX12_init_40 (by decide +kernel) ?_
  show Wm Z (4, 9870, TS101.1, TS101.2.1) TS101.2.2 43 [(0, .ref (wb (zw Z) + 139))] []
  refine r_aload_n C dX12_init_43 0 rfl ?_
  refine r_sipush (v := 900) C dX12_init_44 (by decide) ?_
  refine q_newi (T := TS101) (k := 144) (n := 900) (by decide +kernel) C dX12_init_47 (by decide) (by decide) (by decide) (by rw [hR]; exact ⟨nle rfl, nle rfl⟩) ?_
  show Wm Z (5, 10770, TS102.1, TS102.2.1) TS102.2.2 49 [(0, .ref (wb (zw Z) + 139))] [.ref (wb (zw Z) + 144), .ref (wb (zw Z) + 139)]
  refine q_putR (T := TS102) (b := 144) C ffX12_30 hm dX12_init_49 (by decide +kernel) ?_
  show Wm Z (5, 10770, TS103.1, TS103.2.1) TS103.2.2 52 [(0, .ref (wb (zw Z) + 139))] []
  refine r_aload_n C dX12_init_52 0 rfl ?_
  refine r_bipush (v := 9) C dX12_init_53 (by decide) ?_
  refine q_newi (T := TS103) (k := 145) (n := 9) (by decide +kernel) C dX12_init_55 (by decide) (by decide) (by decide) (by rw [hR]; exact ⟨nle rfl, nle rfl⟩) ?_
  show Wm Z (6, 10779, TS104.1, TS104.2.1) TS104.2.2 57 [(0, .ref (wb (zw Z) + 139))] [.ref (wb (zw Z) + 145), .ref (wb (zw Z) + 139)]
  refine q_putR (T := TS104) (b := 145) C ffX12_33 hm dX12_init_57 (by decide +kernel) ?_
  show Wm Z (6, 10779, TS105.1, TS105.2.1) TS105.2.2 60 [(0, .ref (wb (zw Z) + 139))] []
  refine r_aload_n C dX12_init_60 0 rfl ?_
  refine r_bipush (v := 116) C dX12_init_61 (by decide) ?_
  refine q_newi (T := TS105) (k := 146) (n := 116) (by decide +kernel) C dX12_init_63 (by decide) (by decide) (by decide) (by rw [hR]; exact ⟨nle rfl, nle rfl⟩) ?_
  show Wm Z (7, 10895, TS106.1, TS106.2.1) TS106.2.2 65 [(0, .ref (wb (zw Z) + 139))] [.ref (wb (zw Z) + 146), .ref (wb (zw Z) + 139)]
  refine q_putR (T := TS106) (b := 146) C ffX12_36 hm dX12_init_65 (by decide +kernel) ?_
  show Wm Z (7, 10895, TS107.1, TS107.2.1) TS107.2.2 68 [(0, .ref (wb (zw Z) + 139))] []
  refine r_aload_n C dX12_init_68 0 rfl ?_
  refine r_bipush (v := 8) C dX12_init_69 (by decide) ?_
  refine q_newi (T := TS107) (k := 147) (n := 8) (by decide +kernel) C dX12_init_71 (by decide) (by decide) (by decide) (by rw [hR]; exact ⟨nle rfl, nle rfl⟩) ?_
  show Wm Z (8, 10903, TS108.1, TS108.2.1) TS108.2.2 73 [(0, .ref (wb (zw Z) + 139))] [.ref (wb (zw Z) + 147), .ref (wb (zw Z) + 139)]
  refine q_putR (T := TS108) (b := 147) C ffX12_39 hm dX12_init_73 (by decide +kernel) ?_
  show Wm Z (8, 10903, TS109.1, TS109.2.1) TS109.2.2 76 [(0, .ref (wb (zw Z) + 139))] []
  refine r_aload_n C dX12_init_76 0 rfl ?_
  refine r_bipush (v := 6) C dX12_init_77 (by decide) ?_
  refine q_newi (T := TS109) (k := 148) (n := 6) (by decide +kernel) C dX12_init_79 (by decide) (by decide) (by decide) (by rw [hR]; exact ⟨nle rfl, nle rfl⟩) ?_
  show Wm Z (9, 10909, TS110.1, TS110.2.1) TS110.2.2 81 [(0, .ref (wb (zw Z) + 139))] [.ref (wb (zw Z) + 148), .ref (wb (zw Z) + 139)]
  refine q_putR (T := TS110) (b := 148) C ffX12_42 hm dX12_init_81 (by decide +kernel) ?_
  show Wm Z (9, 10909, TS111.1, TS111.2.1) TS111.2.2 84 [(0, .ref (wb (zw Z) + 139))] []
  refine r_aload_n C dX12_init_84 0 rfl ?_
  refine r_bipush (v := 8) C dX12_init_85 (by decide) ?_
  refine q_newi (T := TS111) (k := 149) (n := 8) (by decide +kernel) C dX12_init_87 (by decide) (by decide) (by decide) (by rw [hR]; exact ⟨nle rfl, nle rfl⟩) ?_
  show Wm Z (10, 10917, TS112.1, TS112.2.1) TS112.2.2 89 [(0, .ref (wb (zw Z) + 139))] [.ref (wb (zw Z) + 149), .ref (wb (zw Z) + 139)]
  refine q_putR (T := TS112) (b := 149) C ffX12_45 hm dX12_init_89 (by decide +kernel) ?_
  show Wm Z (10, 10917, TS113.1, TS113.2.1) TS113.2.2 92 [(0, .ref (wb (zw Z) + 139))] []
  refine r_aload_n C dX12_init_92 0 rfl ?_
  refine r_bipush (v := 8) C dX12_init_93 (by decide) ?_
  refine q_newi (T := TS113) (k := 150) (n := 8) (by decide +kernel) C dX12_init_95 (by decide) (by decide) (by decide) (by rw [hR]; exact ⟨nle rfl, nle rfl⟩) ?_
  show Wm Z (11, 10925, TS114.1, TS114.2.1) TS114.2.2 97 [(0, .ref (wb (zw Z) + 139))] [.ref (wb (zw Z) + 150), .ref (wb (zw Z) + 139)]
  refine q_putR (T := TS114) (b := 150) C ffX12_48 hm dX12_init_97 (by decide +kernel) ?_
  show Wm Z (11, 10925, TS115.1, TS115.2.1) TS115.2.2 100 [(0, .ref (wb (zw Z) + 139))] []
  refine r_aload_n C dX12_init_100 0 rfl ?_
  refine r_bipush (v := 64) C dX12_init_101 (by decide) ?_
  refine q_newi (T := TS115) (k := 151) (n := 64) (by decide +kernel) C dX12_init_103 (by decide) (by decide) (by decide) (by rw [hR]; exact ⟨nle rfl, nle rfl⟩) ?_
  show Wm Z (12, 10989, TS116.1, TS116.2.1) TS116.2.2 105 [(0, .ref (wb (zw Z) + 139))] [.ref (wb (zw Z) + 151), .ref (wb (zw Z) + 139)]
  refine q_putR (T := TS116) (b := 151) C ffX12_51 hm dX12_init_105 (by decide +kernel) ?_
  show Wm Z (12, 10989, TS117.1, TS117.2.1) TS117.2.2 108 [(0, .ref (wb (zw Z) + 139))] []
  refine r_aload_n C dX12_init_108 0 rfl ?_
  refine r_iconst (v := 4) C dX12_init_109 (by decide) ?_
  refine q_newi (T := TS117) (k := 152) (n := 4) (by decide +kernel) C dX12_init_110 (by decide) (by decide) (by decide) (by rw [hR]; exact ⟨nle rfl, nle rfl⟩) ?_
  show Wm Z (13, 10993, TS118.1, TS118.2.1) TS118.2.2 112 [(0, .ref (wb (zw Z) + 139))] [.ref (wb (zw Z) + 152), .ref (wb (zw Z) + 139)]
  refine r_dup C dX12_init_112 rfl ?_
  refine r_iconst (v := 0) C dX12_init_113 (by decide) ?_
  refine r_iconst (v := (-1)) C dX12_init_114 (by decide) ?_
  refine q_iast (T := TS118) (a := 152) (n := 4) C dX12_init_115 (by decide +kernel) (by decide) ?_
  show Wm Z (13, 10993, TS119.1, TS119.2.1) TS119.2.2 116 [(0, .ref (wb (zw Z) + 139))] [.ref (wb (zw Z) + 152), .ref (wb (zw Z) + 139)]
  refine r_dup C dX12_init_116 rfl ?_
  refine r_iconst (v := 1) C dX12_init_117 (by decide) ?_
  refine r_iconst (v := (-1)) C dX12_init_118 (by decide) ?_
  refine q_iast (T := TS119) (a := 152) (n := 4) C dX12_init_119 (by decide +kernel) (by decide) ?_
  show Wm Z (13, 10993, TS120.1, TS120.2.1) TS120.2.2 120 [(0, .ref (wb (zw Z) + 139))] [.ref (wb (zw Z) + 152), .ref (wb (zw Z) + 139)]
  refine r_dup C dX12_init_120 rfl ?_
  refine r_iconst (v := 2) C dX12_init_121 (by decide) ?_
  refine r_iconst (v := (-1)) C dX12_init_122 (by decide) ?_
  refine q_iast (T := TS120) (a := 152) (n := 4) C dX12_init_123 (by decide +kernel) (by decide) ?_
  show Wm Z (13, 10993, TS121.1, TS121.2.1) TS121.2.2 124 [(0, .ref (wb (zw Z) + 139))] [.ref (wb (zw Z) + 152), .ref (wb (zw Z) + 139)]
  refine r_dup C dX12_init_124 rfl ?_
  refine r_iconst (v := 3) C dX12_init_125 (by decide) ?_
  refine r_iconst (v := (-1)) C dX12_init_126 (by decide) ?_
  refine q_iast (T := TS121) (a := 152) (n := 4) C dX12_init_127 (by decide +kernel) (by decide) ?_
  show Wm Z (13, 10993, TS122.1, TS122.2.1) TS122.2.2 128 [(0, .ref (wb (zw Z) + 139))] [.ref (wb (zw Z) + 152), .ref (wb (zw Z) + 139)]
  refine q_putR (T := TS122) (b := 152) C ffX12_54 hm dX12_init_128 (by decide +kernel) ?_
  show Wm Z (13, 10993, TS123.1, TS123.2.1) TS123.2.2 131 [(0, .ref (wb (zw Z) + 139))] []
  refine r_aload_n C dX12_init_131 0 rfl ?_
  refine r_iconst (v := 4) C dX12_init_132 (by decide) ?_
  refine q_newi (T := TS123) (k := 153) (n := 4) (by decide +kernel) C dX12_init_133 (by decide) (by decide) (by decide) (by rw [hR]; exact ⟨nle rfl, nle rfl⟩) ?_
  show Wm Z (14, 10997, TS124.1, TS124.2.1) TS124.2.2 135 [(0, .ref (wb (zw Z) + 139))] [.ref (wb (zw Z) + 153), .ref (wb (zw Z) + 139)]
  refine q_putR (T := TS124) (b := 153) C ffX12_57 hm dX12_init_135 (by decide +kernel) ?_
  show Wm Z (14, 10997, TS125.1, TS125.2.1) TS125.2.2 138 [(0, .ref (wb (zw Z) + 139))] []
  refine r_aload_n C dX12_init_138 0 rfl ?_
  refine r_sipush (v := 160) C dX12_init_139 (by decide) ?_
  refine q_newl (T := TS125) (k := 154) (n := 160) (by decide +kernel) C dX12_init_142 (by decide) (by decide) (by decide) (by rw [hR]; exact ⟨nle rfl, nle rfl⟩) ?_
  show Wm Z (15, 11157, TS126.1, TS126.2.1) TS126.2.2 144 [(0, .ref (wb (zw Z) + 139))] [.ref (wb (zw Z) + 154), .ref (wb (zw Z) + 139)]
  refine q_putR (T := TS126) (b := 154) C ffX12_60 hm dX12_init_144 (by decide +kernel) ?_
  show Wm Z (15, 11157, TS127.1, TS127.2.1) TS127.2.2 147 [(0, .ref (wb (zw Z) + 139))] []
  refine r_aload_n C dX12_init_147 0 rfl ?_
  refine r_getR (a := 139) (b := 140) C flX12_13 dX12_init_148 (by decide +kernel) rfl (by decide +kernel) ?_
  refine r_callS (As := [.ref (wb (zw Z) + 140)]) (rest := []) C mlX12_64 dX12_init_151 (tX12_plain (sh := TS127.1) (R := TS127.2.1) LYx n 140 6726 (by decide +kernel) hp) rfl rfl (by rw [hR]; exact ⟨nle rfl, nle rfl⟩) (by rw [hR]; exact ⟨nle rfl, nle rfl⟩) (nle rfl) ?_
  exact r_vret C dX12_init_154 hr hE
