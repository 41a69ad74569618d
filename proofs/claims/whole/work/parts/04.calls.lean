def rm (d mc ms : Nat) : Room := { frames := d, cells := mc, slots := ms, locals := 60 * d }
def Qd (w : WP) (sh : List Sh) (R : Rf) (μ : Mu) (v : Option Value) : Array Value → State → Outcome → State → Prop := fun _ st o t => o = .returned v ∧ HR w sh R μ t.heap ∧ KS w t ∧ va_F (Ab w) st t
def PcW (w : WP) (sh : List Sh) (R : Rf) (μ : Mu) (av : List Value) : Array Value → State → Prop := va_Pc av (fun U => HR w sh R μ U.heap ∧ KS w U)
/-- a method's contract: with these arguments, in a heap that holds this memory, it returns v, and the heap holds that memory -/
def CM (l : Launch) (w : WP) (y : MethodName) (cc : ByteArray) (nL : Nat) (ret : Option FieldType) (d mc ms : Nat) (sh : List Sh) (R : Rf) (av : List Value) (μ : Mu) (v : Option Value) (sh' : List Sh) (R' : Rf) (μ' : Mu) : Prop :=
  Met l y (.code y cc nL ret :: GT) (rm d mc ms) (PcW w sh R μ av) (Qd w sh' R' μ' v) mc ms (Ab w)
theorem PcW.blind {w : WP} {sh : List Sh} {R : Rf} {μ : Mu} {av : List Value} : FrameBlind (PcW w sh R μ av) := fun a U g mk h => ⟨h.1, h.2.1, KS.same (s := U) rfl rfl h.2.2⟩
def zEnd (Z : ZC) (G : GC) (μ : Mu) (v : Option Value) : Prop := zQ Z = MQ (zbl Z) (Qd (zw Z) G.2.2.1 G.2.2.2 μ v) (za Z) (zs Z) G.1 G.2.1 (Ab (zw Z))
theorem ofWF {l : Launch} {y : MethodName} {ws ws' : List Cond} {rm : Room} {Pc : Array Value → State → Prop} {Qc : Array Value → State → Outcome → State → Prop} {mc ms : Nat} {free : Addr → Prop} {cc : ByteArray} {maxL : Nat} {ret : Option FieldType}
    (hy : plainFor y = true) (hw : ws = Cond.code y cc maxL ret :: ws')
    (body : ∀ p e s m args below meth c s₁, BodyLoose p l y (headSpec ws rm) cc maxL ret e s m args below meth c s₁ → c.maxLocals = maxL → Pc args s →
      W p l e (headSpec ws rm).room s m args below meth c s.heap [] 0 0 (MQ below Qc args s mc ms free) (entryFrame m args maxL)) : Met l y ws rm Pc Qc mc ms free := by
  refine MetFree.of_bodySF (code := cc) (maxLocals := maxL) (ret := ret) hy ?_ ?_
  · intro args s m h hn
    obtain ⟨meth, c, h1, h2, h3, h4, h5, h6, -, -⟩ := Cond.code_spec hn (atoms_spec (ws := ws) h _ (by rw [hw]; exact List.mem_cons_self))
    exact ⟨meth, c, h1, h2, h3, h4, h5, h6⟩
  · intro p e s m args below meth c s₁ B hml hP _
    have hh0 : s₁.heap = s.heap := by rw [B.state]; rfl
    obtain ⟨t, a1, o, b1, b2, b3⟩ := body p e s m args below meth c s₁ B hml hP s₁ hh0 (Stand.of_body B)
    exact ⟨t, o, a1, b1, b2, ⟨b3.1, b3.2⟩⟩
theorem CM.of {l : Launch} {w : WP} {y : MethodName} {cc : ByteArray} {nL : Nat} {ret : Option FieldType} {d mc ms : Nat} {sh sh' : List Sh} {R R' : Rf} {av : List Value} {μ μ' : Mu} {v : Option Value} (hy : plainFor y = true) (hn : (lg_sl av).length ≤ nL)
    (body : ∀ Z : ZC, CX Z cc nL y.cls → (zme Z).sig.returnType = ret → (zme Z).name = y.name → zR Z = rm d mc ms → zw Z = w → Z.1.2.1 = l → zEnd Z (mc, ms, sh', R') μ' v → Wm Z (0, 0, sh, R) μ 0 (lv_args 0 av) []) : CM l w y cc nL ret d mc ms sh R av μ v sh' R' μ' := by
  refine ofWF (cc := cc) (maxL := nL) (ret := ret) hy rfl ?_
  intro p e s m args below meth c s₁ B hml hv
  obtain ⟨rfl, hH, hK⟩ := hv
  have hts := atoms_spec (ws := Cond.code y cc nL ret :: GT) B.pre
  have hl := lv_entry av (n := nL) hn
  rw [lg_entry_eq]
  exact body ((p, l, e, rm d mc ms, s, m, av.toArray, below, meth, c), nL, w, MQ below (Qd w sh' R' μ' v) av.toArray s mc ms (Ab w)) ⟨B.exec, B.bytes, hml, findClass_of_methodNamed B.named, fun q hq => hts q (List.mem_cons_of_mem _ hq), B.notSynchronized, hK, rfl⟩ B.returns (name_of_methodNamed B.named B.method).1 rfl rfl rfl rfl s.heap [] hH va_S.rf _ hl
section
variable {Z : ZC} {G : GC} {μ μ' : Mu} {pc : Nat} {lv lv' : List (Nat × Value)} {r : List Value} {cc : ByteArray} {nL : Nat} {own : String}
theorem CX.end (C : CX Z cc nL own) {H : Heap} {locs : List Loc} (hH : HR (zw Z) G.2.2.1 G.2.2.2 μ H) (hS : va_S (Ab (zw Z)) (zs Z).heap H locs) (v : Option Value) (t : State) (ht : t.heap = H) (hW : (zs Z).WarmedH t.vm) : Qd (zw Z) G.2.2.1 G.2.2.2 μ v (za Z) (zs Z) (.returned v) t :=
  ⟨rfl, by rw [ht]; exact hH, KS.moved hW (by rw [ht]; exact hS.1) (by rw [ht]; exact hS.2.1) C.2.2.2.2.2.2.1, hS.F ht⟩
theorem r_iret {x : Int32} (C : CX Z cc nL own) (d : decode cc pc = .ok (.ireturn, 1)) (hr : (zme Z).sig.returnType = some .int) (hQ : zEnd Z G μ (some (.int x))) : Wm Z G μ pc lv [.int x] := by
  intro H locs hH hS ls hl
  rw [hQ]
  exact W.iret C.1 C.2.1 hr (fun t ht hW => C.end hH hS _ t ht hW) hS.2.2 d C.2.2.2.2.2.1
theorem r_zret {x : Int32} {ty : FieldType} (C : CX Z cc nL own) (d : decode cc pc = .ok (.ireturn, 1)) (hr : (zme Z).sig.returnType = some ty) (hn : narrow ty (.int x) = .int x) (hQ : zEnd Z G μ (some (.int x))) : Wm Z G μ pc lv [.int x] := by
  intro H locs hH hS ls hl
  rw [hQ]
  exact W.zret C.1 C.2.1 hr hn (fun t ht hW => C.end hH hS _ t ht hW) hS.2.2 d C.2.2.2.2.2.1
theorem r_lret {x : Int64} (C : CX Z cc nL own) (d : decode cc pc = .ok (.lreturn, 1)) (hr : (zme Z).sig.returnType = some .long) (hQ : zEnd Z G μ (some (.long x))) : Wm Z G μ pc lv [.long x] := by
  intro H locs hH hS ls hl
  rw [hQ]
  exact W.lret C.1 C.2.1 hr (fun t ht hW => C.end hH hS _ t ht hW) hS.2.2 d C.2.2.2.2.2.1
theorem r_vret (C : CX Z cc nL own) (d : decode cc pc = .ok (.return_, 1)) (hr : (zme Z).sig.returnType = none) (hQ : zEnd Z G μ none) : Wm Z G μ pc lv [] := by
  intro H locs hH hS ls hl
  rw [hQ]
  exact W.vret C.1 C.2.1 hr (fun t ht hW => C.end hH hS _ t ht hW) hS.2.2 d C.2.2.2.2.2.1
def isb (x : Int32) : Bool := decide (x &&& 1 = x)
theorem isb_n {x : Int32} (h : isb x = true) : narrow .boolean (.int x) = .int x := by
  have h1 : x &&& 1 = x := of_decide_eq_true h
  simp [narrow, h1]
/-! calls -/
theorem run_go {p : Program} {l : Launch} {e : Env} {R : Room} {s : State} {m : MethodId} {args : Array Value} {below : List Frame} {meth : Method} {c : Code} {H : Heap} {locs : List Loc} {cells slots mc ms : Nat} {Q : State → Prop} {ls : Array Slot} {st0 rest : List Value} {w : WP} {sh' : List Sh} {R' : Rf} {v : Option Value} {a : Array Value}
    (hr : va_Run p l e R s m args below meth c H locs cells slots mc ms (F0 m pc ls st0) rest (Qd w sh' R' μ' v a) (Ab w)) (hS : va_S (Ab w) s.heap H locs)
    (k : ∀ (H1 : Heap) (locs1 : List Loc), HR w sh' R' μ' H1 → va_S (Ab w) s.heap H1 locs1 → W p l e R s m args below meth c H1 locs1 (cells + mc) (slots + ms) Q (F0 m (pc + 3) ls (v.toList ++ rest))) : W p l e R s m args below meth c H locs cells slots Q (F0 m pc ls st0) := by
  intro T hT X
  obtain ⟨v', st₀, t, T', L, h0, X', hL, e1, e2, ⟨hv, hH, -, hz, hk⟩, st⟩ := hr T hT X
  cases hv
  rw [h0] at hz hk
  obtain ⟨t2, a1, b1⟩ := k T'.heap (locs ++ L) (by rw [e1]; exact hH) ⟨Nat.le_trans hS.1 (by rw [e1]; exact hz), fun q h1 h2 => by rw [e1, hk q (Nat.lt_of_lt_of_le h1 hS.1) h2]; exact hS.2.1 q h1 h2, fun q hq => by
      rcases List.mem_append.mp hq with h | h
      · exact hS.2.2 q h
      · exact hL q h⟩ T' rfl X'
  exact ⟨t2, st t2 a1, b1⟩
/-- what a call by invokevirtual takes of the tables -/
def VL (own : String) (idx : Nat) (y : MethodName) (cc : ByteArray) (nL : Nat) (ret : Option FieldType) (n : Nat) : Prop := (Cond.methodLink own idx y ∈ GT ∧ Cond.instanceMethod y ∈ GT ∧ Cond.selects y.cls y y ∈ GT ∧ Cond.initialized y.cls ∈ GT) ∧ Cond.code y cc nL ret ∈ GT ∧ (y.cls ≠ "java/lang/invoke/MethodHandle" ∧ y.cls ≠ "java/lang/invoke/VarHandle" ∧ (parseMethodDescriptor y.desc).map (fun d => d.parameters.length) = some n)
def SL (own : String) (idx : Nat) (y : MethodName) (cc : ByteArray) (nL : Nat) (ret : Option FieldType) (n : Nat) : Prop := (Cond.methodLink own idx y ∈ GT ∧ Cond.static y ∈ GT ∧ Cond.initialized y.cls ∈ GT) ∧ Cond.code y cc nL ret ∈ GT ∧ (y.cls ≠ "java/lang/invoke/MethodHandle" ∧ y.cls ≠ "java/lang/invoke/VarHandle" ∧ (parseMethodDescriptor y.desc).map (fun d => d.parameters.length) = some n)
theorem gd_ws {y : MethodName} {cc : ByteArray} {nL : Nat} {ret : Option FieldType} (h : Cond.code y cc nL ret ∈ GT) : GoodIn GT (Cond.code y cc nL ret :: GT) := fun q hq => by
  rcases List.mem_cons.mp hq with e | e
  · subst e; exact ⟨h, good_of_word (GT_good h)⟩
  · exact ⟨e, good_of_word (GT_good e)⟩
theorem callB_g {cc' : ByteArray} {nL' n idx d' mc ms : Nat} {y : MethodName} {ret : Option FieldType} (C : CX Z cc nL own) (h1 : Cond.methodLink own idx y ∈ GT) (h2 : Cond.initialized y.cls ∈ GT) (hc : Cond.code y cc' nL' ret ∈ GT) (hd : y.cls ≠ "java/lang/invoke/MethodHandle" ∧ y.cls ≠ "java/lang/invoke/VarHandle" ∧ (parseMethodDescriptor y.desc).map (fun d => d.parameters.length) = some n) (hR : d' + 1 ≤ (zR Z).frames ∧ 8 + (nL' + 11) + 60 * d' ≤ (zR Z).locals) :
    CallB (zR Z) (zs Z) (za Z) own idx y cc' nL' ret (Cond.code y cc' nL' ret :: GT) (rm d' mc ms) mc ms n := callB_of n C.2.2.2.2.1 (gd_ws hc) rfl rfl rfl (C.w h2) (C.w h1) hd hR
theorem C_fix (C : CX Z cc nL own) : CallFix Z.1.1 (zm Z) (zc Z) cc nL (zs Z) (za Z) GT own := ⟨C.1, C.2.1, C.2.2.1, C.2.2.2.1, C.2.2.2.2.1⟩
theorem C_pre (C : CX Z cc nL own) {w : WP} (hw : zw Z = w) {sh : List Sh} {R : Rf} {H : Heap} {locs : List Loc} (hH : HR w sh R μ H) (hS : va_S (Ab w) (zs Z).heap H locs) (As : List Value) (U : State) (hU : U.heap = H) (hW : (zs Z).WarmedH U.vm) : PcW w sh R μ As As.toArray U := by
  subst hw
  exact ⟨rfl, by rw [hU]; exact hH, KS.moved hW (by rw [hU]; exact hS.1) (by rw [hU]; exact hS.2.1) C.2.2.2.2.2.2.1⟩
/-- invokevirtual -/
theorem r_callV {cc' : ByteArray} {nL' n idx d' mc ms a ci : Nat} {y : MethodName} {ret : Option FieldType} {sh' : List Sh} {R' : Rf} {v : Option Value} {As rest st : List Value} {T : u_T} {N : Nat} (C : CX Z cc nL own) (L : VL own idx y cc' nL' ret n) (d : decode cc pc = .ok (.invokevirtual idx, 3))
    (M : CM Z.1.2.1 (zw Z) y cc' nL' ret d' mc ms G.2.2.1 G.2.2.2 (.ref (wb (zw Z) + a) :: As) μ v sh' R' μ') (hst : st = As.reverse ++ .ref (wb (zw Z) + a) :: rest) (hn : As.length = n) (hs : G.2.2.1[a]? = some (.inl ci)) (hc : vwCl[ci]? = some (y.cls, T, N))
    (hR : d' + 1 ≤ (zR Z).frames ∧ 8 + (nL' + 11) + 60 * d' ≤ (zR Z).locals) (hk : G.1 + mc ≤ (zR Z).cells ∧ G.2.1 + ms ≤ (zR Z).slots) (hW : (rest.map fun v => v.category).sum ≤ 8)
    (k : Wm Z (G.1 + mc, G.2.1 + ms, sh', R') μ' (pc + 3) lv (v.toList ++ rest)) : Wm Z G μ pc lv st := by
  intro H locs hH hS ls hl
  obtain ⟨⟨h1, h2, h3, h4⟩, h5, h6⟩ := L
  refine run_go (va_runV (C := y.cls) (b := wb (zw Z) + a) (As := As) (rest := rest) (n := n) (C_fix C) M ⟨callB_g C h1 h4 h5 h6 hR, C.w h2, C.w h3⟩ ⟨PcW.blind, ?_, fun U hU hW => C_pre C rfl hH hS _ U hU hW⟩ rfl hn (by rw [← C.nn]; exact hl.1) hst (by show 2 * 0 + _ ≤ 8; omega) d hk) hS (fun H1 locs1 hH1 hS1 => k H1 locs1 hH1 hS1 ls hl)
  exact va_recv (cl := vwCl) (ci := ci) (q0 := 0) (ws := [(wb (zw Z) + a, ent (zw Z) G.2.2.2 μ a (.inl ci))]) C.K (fun q x hx => by
    cases q with
    | zero => cases hx; exact hH.at hs
    | succ q => simp at hx) hc rfl
/-- invokestatic -/
theorem r_callS {cc' : ByteArray} {nL' n idx d' mc ms : Nat} {y : MethodName} {ret : Option FieldType} {sh' : List Sh} {R' : Rf} {v : Option Value} {As rest st : List Value} (C : CX Z cc nL own) (L : SL own idx y cc' nL' ret n) (d : decode cc pc = .ok (.invokestatic idx, 3))
    (M : CM Z.1.2.1 (zw Z) y cc' nL' ret d' mc ms G.2.2.1 G.2.2.2 As μ v sh' R' μ') (hst : st = As.reverse ++ rest) (hn : As.length = n)
    (hR : d' + 1 ≤ (zR Z).frames ∧ 8 + (nL' + 11) + 60 * d' ≤ (zR Z).locals) (hk : G.1 + mc ≤ (zR Z).cells ∧ G.2.1 + ms ≤ (zR Z).slots) (hW : (rest.map fun v => v.category).sum ≤ 8)
    (k : Wm Z (G.1 + mc, G.2.1 + ms, sh', R') μ' (pc + 3) lv (v.toList ++ rest)) : Wm Z G μ pc lv st := by
  intro H locs hH hS ls hl
  obtain ⟨⟨h1, h2, h4⟩, h5, h6⟩ := L
  exact run_go (va_runS (As := As) (rest := rest) (n := n) (C_fix C) M ⟨callB_g C h1 h4 h5 h6 hR, C.w h2⟩ ⟨PcW.blind, fun U hU hW => C_pre C rfl hH hS _ U hU hW⟩ rfl hn (by rw [← C.nn]; exact hl.1) hst (by show 2 * 0 + _ ≤ 8; omega) d hk) hS (fun H1 locs1 hH1 hS1 => k H1 locs1 hH1 hS1 ls hl)
/-- System.arraycopy of ints, in a method that makes nothing -/
theorem r_acopy {idx a b n0 n1 : Nat} {sp dp n : Int32} {rest : List Value} {sh : List Sh} {R : Rf} (C : CX Z cc nL own) (hw : Cond.methodLink own idx arraycopyName ∈ GT) (d : decode cc pc = .ok (.invokestatic idx, 3)) (h0 : sh[a]? = some (.inr (0, n0))) (h1 : sh[b]? = some (.inr (0, n1)))
    (hb : (decide (¬ sp < 0) && decide (¬ dp < 0) && decide (¬ n < 0) && decide (ix sp + ix n ≤ n0) && decide (ix dp + ix n ≤ n1)) = true) (hR : 1 ≤ (zR Z).frames ∧ 60 ≤ (zR Z).locals) (hW : (rest.map fun v => v.category).sum ≤ 8) (hg : Cond.native arraycopyName ∈ GT ∧ Cond.static arraycopyName ∈ GT ∧ Cond.initialized "java/lang/System" ∈ GT)
    (k : Wm Z (0, 0, sh, R) (cpI μ a (ix sp) b (ix dp) (ix n)) (pc + 3) lv rest) : Wm Z (0, 0, sh, R) μ pc lv (.int n :: .int dp :: .ref (wb (zw Z) + b) :: .int sp :: .ref (wb (zw Z) + a) :: rest) := by
  intro H locs hH hS ls hl
  simp only [Bool.and_eq_true, decide_eq_true_eq] at hb
  obtain ⟨⟨⟨⟨b1, b2⟩, b3⟩, b4⟩, b5⟩ := hb
  have nn : ∀ z : Int32, ¬ z < 0 → z.toInt = (z.toNatClampNeg : Int) := by
    intro z hz
    have hz0 : (0 : Int) ≤ z.toInt := by
      have := Int32.not_lt.mp hz
      simpa using Int32.le_iff_toInt_le.mp this
    show z.toInt = ((z.toInt.toNat : Nat) : Int)
    omega
  have c0 : H[wb (zw Z) + a]? = some (vp_cell ((zw Z).2.1 0) (n0, .inl (μ.1 a))) := hH.at h0
  have c1 : H[wb (zw Z) + b]? = some (vp_cell ((zw Z).2.1 0) (n1, .inl (μ.1 b))) := hH.at h1
  obtain ⟨-, kI, hkI, cm, hkk⟩ := arr_of C (t := 0) (ty := .int) rfl n0 (fun j => .int (μ.1 a j))
  unfold ix at b4 b5
  intro T hT X
  obtain ⟨vm', X', step⟩ := X.arraycopy C.1 C.2.2.2.1 (C.w hw) (C.w hg.1) (C.w hg.2.1) (C.w hg.2.2) (src := wb (zw Z) + a) (dst := wb (zw Z) + b) (cs := vp_cell ((zw Z).2.1 0) (n0, .inl (μ.1 a))) (cd := vp_cell ((zw Z).2.1 0) (n1, .inl (μ.1 b))) (srcPos := sp) (destPos := dp) (n := n) (by rw [hT]; exact c0) (by rw [hT]; exact c1)
    (fun _ h => by cases h) (fun _ h => by cases h) (fun h => by cases h) (fun h => by cases h) hkI hkI hkk hkk (by simp [refKind]) b1 b2 b3
    (by rw [nn sp b1, nn n b3]; show ¬ _ > ((arrV ((zw Z).2.1 0) n0 (fun j => .int (μ.1 a j))).slots.size : Int); rw [arrV_size]; omega)
    (by rw [nn dp b2, nn n b3]; show ¬ _ > ((arrV ((zw Z).2.1 0) n1 (fun j => .int (μ.1 b j))).slots.size : Int); rw [arrV_size]; omega)
    (fun vm₁ _ i hi => by
      have e : (vp_cell ((zw Z).2.1 0) (n0, .inl (μ.1 a))).slots.getD (sp.toNatClampNeg + i) .null = .int (μ.1 a (sp.toNatClampNeg + i)) := by
        show (arrV _ n0 (fun j => .int (μ.1 a j))).slots.getD _ _ = _
        rw [Array.getD_eq_getD_getElem?, arrV_read _ _ (by omega)]
        rfl
      exact ⟨by rw [e]; rfl, by rw [e]; exact trivial⟩)
    (g := F0 (zm Z) pc ls (.int n :: .int dp :: .ref (wb (zw Z) + b) :: .int sp :: .ref (wb (zw Z) + a) :: rest)) rfl (by rw [C.2.2.1, ← C.nn]; exact hl.1) (rest := rest) rfl (by rw [C.2.1]; exact d) hR.1 (by show 2 * 0 + _ + _ ≤ _; have h7 : nativeFrameWords "java/lang/System" "arraycopy" 5 + 11 ≤ 52 := (by decide); have := hR.2; omega)
  have e1 : copied (vp_cell ((zw Z).2.1 0) (n0, .inl (μ.1 a))) (vp_cell ((zw Z).2.1 0) (n1, .inl (μ.1 b))) sp dp n = vp_cell ((zw Z).2.1 0) (n1, .inl (va_cpy (μ.1 a) (μ.1 b) sp.toNatClampNeg dp.toNatClampNeg n.toNatClampNeg)) := va_copied (fun z => .int z) _ _ (μ.1 a) (μ.1 b) b4
  rw [e1] at X' step
  have hbl : wb (zw Z) + b < H.size := (Array.getElem?_eq_some_iff.mp c1).1
  generalize hce : vp_cell ((zw Z).2.1 0) (n1, .inl (va_cpy (μ.1 a) (μ.1 b) sp.toNatClampNeg dp.toNatClampNeg n.toNatClampNeg)) = ce at X' step
  have hheap : ((T.setVm vm').setCell (wb (zw Z) + b) ce).heap = H.setIfInBounds (wb (zw Z) + b) ce := by rw [← hT]; rfl
  have oq : ∀ q : Nat, q ≠ wb (zw Z) + b → (H.setIfInBounds (wb (zw Z) + b) ce)[q]? = H[q]? := fun q hq => by simp [Array.getElem?_setIfInBounds, Ne.symm hq]
  have hz : (H.setIfInBounds (wb (zw Z) + b) ce).size = H.size := by simp
  obtain ⟨t, a1, t1⟩ := k (H.setIfInBounds (wb (zw Z) + b) ce) _ (hH.put h1 hz oq (by
      show (H.setIfInBounds _ ce)[wb (zw Z) + b]? = some (arrV _ n1 (fun j => .int ((cpI μ a (ix sp) b (ix dp) (ix n)).1 b j)))
      rw [← hce]
      simp [Array.getElem?_setIfInBounds, hbl, cpI, vp_cell, ix]) (fun j f hj => ent_cp _ _ _ _ _ _ _ _ f hj)) ⟨by rw [hz]; exact hS.1, fun q g1 g2 => by
      rw [oq q (fun e => g2 (by rw [e]; exact Nat.le_add_right _ _))]
      exact hS.2.1 q g1 g2, fun q hq => by
      rcases List.mem_append.mp hq with h | h
      · exact hS.2.2 q h
      · obtain ⟨z, -, hz⟩ := List.mem_map.mp h
        rw [← hz]
        exact Nat.le_add_right _ _⟩ ls hl _ hheap X'
  exact ⟨t, step t a1, t1⟩
end
