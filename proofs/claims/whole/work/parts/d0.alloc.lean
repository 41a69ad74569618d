/-! NEW CELLS: rules -/
def zRf (R : Rf) (k : Nat) : Rf := fun b => if b = k then (fun _ => none) else R b
def zMu (μ : Mu) (k : Nat) : Mu := (fun b => if b = k then (fun _ => 0) else μ.1 b, fun b => if b = k then (fun _ => 0) else μ.2 b)
def uRf (R : Rf) (a f b : Nat) : Rf := fun x => if x = a then (fun y => if y = f then some b else R a y) else R x
theorem ent_z (w : WP) (R : Rf) (μ : Mu) (k : Nat) {j : Nat} (e : Sh) (h : j ≠ k) : ent w (zRf R k) (zMu μ k) j e = ent w R μ j e := by
  cases e with
  | inl ci => simp [ent, obf, zRf, zMu, h]
  | inr q => simp [ent, arc, zRf, zMu, h]
theorem ent_u (w : WP) (R : Rf) (μ : Mu) (a f b : Nat) {j : Nat} (e : Sh) (h : j ≠ a) : ent w (uRf R a f b) μ j e = ent w R μ j e := by
  cases e with
  | inl ci => simp [ent, obf, uRf, h]
  | inr q => simp [ent, arc, uRf, h]
theorem HR.push {w : WP} {sh : List Sh} {R : Rf} {μ : Mu} {H H1 : Heap} (h : HR w sh R μ H) {e : Sh} (z : H1.size = H.size + 1) (oq : ∀ q : Nat, q < H.size → H1[q]? = H[q]?) (hn : va_at w.1 vwCl (wb w + sh.length, ent w (zRf R sh.length) (zMu μ sh.length) sh.length e) H1) : HR w (sh ++ [e]) (zRf R sh.length) (zMu μ sh.length) H1 := by
  refine ⟨by rw [z, h.1, List.length_append]; rfl, fun k f hk => ?_⟩
  by_cases hl : k < sh.length
  · rw [List.getElem?_append_left hl] at hk
    rw [ent_z _ _ _ _ _ (Nat.ne_of_lt hl)]
    exact (h.2 k f hk).kept (oq _ (by show wb w + k < H.size; rw [h.1]; omega))
  · rw [List.getElem?_append_right (by omega)] at hk
    have hz : k - sh.length < 1 := (List.getElem?_eq_some_iff.mp hk).1
    have e2 : k = sh.length := by omega
    subst e2
    rw [Nat.sub_self] at hk
    cases hk
    exact hn
theorem va_S.push {A : Nat → Prop} {H0 H H1 : Heap} {locs : List Loc} (h : va_S A H0 H locs) (z : H1.size = H.size + 1) (oq : ∀ q : Nat, q < H.size → H1[q]? = H[q]?) : va_S A H0 H1 locs := ⟨Nat.le_trans h.1 (by omega), fun x h1 h2 => (oq x (Nat.lt_of_lt_of_le h1 h.1)).trans (h.2.1 x h1 h2), h.2.2⟩
section
variable {Z : ZC} {G : GC} {μ μ' : Mu} {pc : Nat} {lv lv' : List (Nat × Value)} {r : List Value} {cc : ByteArray} {nL : Nat} {own : String}
theorem r_oinit {idx a : Nat} (C : CX Z cc nL own) (hw : Cond.methodLink own idx Lib.objectInit ∈ GT) (hg : Cond.instanceMethod Lib.objectInit ∈ GT ∧ Cond.code Lib.objectInit ⟨#[0xb1]⟩ 1 none ∈ GT) (d : decode cc pc = .ok (.invokespecial idx, 3)) (hR : 1 ≤ (zR Z).frames ∧ 20 ≤ (zR Z).locals) (hW : (r.map fun v => v.category).sum ≤ 8) (k : Wm Z G μ (pc + 3) lv r) : Wm Z G μ pc lv (.ref a :: r) := fun H locs hH hS ls hl =>
  W.objInit C.1 C.2.1 C.2.2.2.1 (C.w hw) (C.w hg.1) (C.w hg.2) rfl (by show ls.size = _; rw [hl.1, C.nn, C.2.2.1]) rfl d hR.1 (by show 2 * 0 + _ + 12 ≤ _; omega) (k H locs hH hS ls hl)
theorem r_new {idx ci N : Nat} {cN : String} {T : u_T} {ty : Nat → FieldType} (C : CX Z cc nL own) (K : KC ci cN T N) (hty : ∀ k, k < N → parseFieldDescriptor (T k).2.2.1 = some (ty k)) (hdf : ∀ j, j < N → defaultValue (ty j) = if fr ci j = true then .null else .int 0) (hcl : Cond.classLink own idx cN ∈ GT) (hin : Cond.instantiable cN N ∈ GT) (hini : Cond.initialized cN ∈ GT) (d : decode cc pc = .ok (.new idx, 3)) (hk : G.1 + 1 ≤ (zR Z).cells ∧ G.2.1 + N ≤ (zR Z).slots)
    (k : Wm Z (G.1 + 1, G.2.1 + N, G.2.2.1 ++ [.inl ci], zRf G.2.2.2 G.2.2.1.length) (zMu μ G.2.2.1.length) (pc + 3) lv (.ref (wb (zw Z) + G.2.2.1.length) :: r)) : Wm Z G μ pc lv r := by
  intro H locs hH hS ls hl
  obtain ⟨k1, k2, k3, -, -⟩ := K
  have hKn := C.K.1 ci _ k1
  refine W.newcK C.1 C.2.1 C.2.2.2.1 (C.w hcl) (C.w hin) (C.w hini) rfl d hk.1 hk.2 hKn.2.1 hH.1 fun H1 kC hkC e1 z1 o1 => ?_
  have z1 : H1.size = H.size + 1 := by rw [z1, hH.1]
  have o1 : ∀ q : Nat, q < H.size → H1[q]? = H[q]? := fun q hq => o1 q (by rw [← hH.1]; exact hq)
  refine k H1 locs (hH.push z1 o1 ⟨_, k1, (u_born ty C.2.2.2.2.1 k3 hKn hkC e1 hty).to (fun j hj => ?_)⟩) (hS.push z1 o1) ls hl
  show defaultValue (ty j) = vp_V (obf (zw Z) (zRf G.2.2.2 G.2.2.1.length) (zMu μ G.2.2.1.length) G.2.2.1.length ci) j
  unfold vp_V
  rw [List.getD_eq_getElem?_getD, obf_get (by rw [k2]; exact hj), hdf j hj]
  simp only [zRf, zMu, if_true]
  rfl
theorem r_newa {t n : Nat} {x : Int32} {aty : ArrayType} {ty : FieldType} (C : CX Z cc nL own) (hta : newarray.typeOf aty = ty) (htt : ∀ w : WP, (tyl w.2.1)[t]? = some (w.2.1 t, ty)) (hra : ∀ (U : State) (cA : ClassId), va_RA U cA ty → U.vm.findClass ("[" ++ ty.toString) = some cA) (hce : ∀ (w : WP) (R : Rf) (μ : Mu) (k : Nat), vp_cell (w.2.1 t) (n, arc w (zRf R k) (zMu μ k) k t) = arrV (w.2.1 t) n (fun _ => defaultValue ty)) (harr : Cond.arrayClass ty ∈ GT) (d : decode cc pc = .ok (.newarray aty, 2)) (hn : ¬ x < 0) (hN : x.toNatClampNeg = n) (hby : n * componentBytes ty ≤ 536870912) (hk : G.1 + 1 ≤ (zR Z).cells ∧ G.2.1 + n ≤ (zR Z).slots)
    (k : Wm Z (G.1 + 1, G.2.1 + n, G.2.2.1 ++ [.inr (t, n)], zRf G.2.2.2 G.2.2.1.length) (zMu μ G.2.2.1.length) (pc + 2) lv (.ref (wb (zw Z) + G.2.2.1.length) :: r)) : Wm Z G μ pc lv (.int x :: r) := by
  intro H locs hH hS ls hl
  subst hta
  refine va_newaK C.1 C.2.1 (C.w harr) rfl d rfl hn hN hby hk.1 hk.2 hH.1 fun H1 cA e1 z1 o1 hAr hNm => ?_
  have z1 : H1.size = H.size + 1 := by rw [z1, hH.1]
  have o1 : ∀ q : Nat, q < H.size → H1[q]? = H[q]? := fun q hq => o1 q (by rw [← hH.1]; exact hq)
  have hcA : cA = (zw Z).2.1 t := Option.some.inj (hNm.symm.trans (hra _ _ (C.K.2 t _ (htt (zw Z))).2))
  refine k H1 locs (hH.push z1 o1 ?_) (hS.push z1 o1) ls hl
  show H1[wb (zw Z) + G.2.2.1.length]? = some (vp_cell _ _)
  rw [hce, e1, hcA]
theorem r_anew {t n idx : Nat} {x : Int32} {cN : String} (C : CX Z cc nL own) (htt : ∀ w : WP, (tyl w.2.1)[t]? = some (w.2.1 t, .object cN)) (ht : 3 < t) (hcl : Cond.classLink own idx cN ∈ GT) (hao : va_AO cN (zs Z)) (d : decode cc pc = .ok (.anewarray idx, 3)) (hn : ¬ x < 0) (hN : x.toNatClampNeg = n) (hby : n * 4 ≤ 536870912) (hk : G.1 + 1 ≤ (zR Z).cells ∧ G.2.1 + n ≤ (zR Z).slots)
    (k : Wm Z (G.1 + 1, G.2.1 + n, G.2.2.1 ++ [.inr (t, n)], zRf G.2.2.2 G.2.2.1.length) (zMu μ G.2.2.1.length) (pc + 3) lv (.ref (wb (zw Z) + G.2.2.1.length) :: r)) : Wm Z G μ pc lv (.int x :: r) := by
  intro H locs hH hS ls hl
  subst hN
  refine W.anew C.1 C.2.1 C.2.2.2.1 (C.w hcl) (va_AO.use hao) rfl d rfl hn hby hk.1 hk.2 fun cA kA comp f1 f2 f3 f4 => ?_
  obtain ⟨kA', comp', g1, g2, g3, g4⟩ := (C.K.2 t _ (htt (zw Z))).2
  have hcA : cA = (zw Z).2.1 t := Option.some.inj (f1.symm.trans g4)
  generalize hH1 : H.push ({ cls := cA, slots := Array.replicate x.toNatClampNeg .null, vm := .none } : Cell) = H1
  have z1 : H1.size = H.size + 1 := by rw [← hH1, Array.size_push]
  have e1 : H1[H.size]? = some (arrV cA x.toNatClampNeg (fun _ => .null)) := by rw [← hH1, Array.getElem?_push_size, ← arrV_new]
  have o1 : ∀ q : Nat, q < H.size → H1[q]? = H[q]? := fun q hq => by rw [← hH1, Array.getElem?_push, if_neg (Nat.ne_of_lt hq)]
  rw [hH.1] at e1 ⊢
  refine k H1 locs (hH.push z1 o1 ?_) (hS.push z1 o1) ls hl
  show H1[wb (zw Z) + G.2.2.1.length]? = some (vp_cell _ _)
  rw [e1, hcA]
  unfold arc
  rw [if_neg (by omega), if_neg (by omega)]
  simp only [zRf, if_true]
  rfl
/-- a final field that is a reference, in its own constructor -/
def FLF (own : String) (idx ci k : Nat) : Prop := ∃ (C : String) (T : u_T) (N : Nat) (ty : FieldType), KC ci C T N ∧ k < N ∧ Cond.fieldLink own idx (T k).1 (T k).2.1 (T k).2.2.1 ∈ GT ∧ (T k).2.2.2 = true ∧ (T k).1 = own ∧ parseFieldDescriptor (T k).2.2.1 = some ty ∧ (∀ q : Nat, narrow ty (.ref q) = .ref q ∧ fits ty (.ref q) = true) ∧ fr ci k = true
theorem r_putR {idx ci f a b : Nat} (C : CX Z cc nL own) (F : FLF own idx ci f) (hin : (zme Z).name = "<init>") (d : decode cc pc = .ok (.putfield idx, 3)) (hs : G.2.2.1[a]? = some (.inl ci)) (k : Wm Z (G.1, G.2.1, G.2.2.1, uRf G.2.2.2 a f b) μ (pc + 3) lv r) : Wm Z G μ pc lv (.ref (wb (zw Z) + b) :: .ref (wb (zw Z) + a) :: r) := by
  intro H locs hH hS ls hl
  obtain ⟨cN, T, N, ty, ⟨k1, k2, k3, ⟨ty0, hty⟩, hnm⟩, hk, hlk, hfin, hdecl, hd, hnf, hfr⟩ := F
  have hts := C.2.2.2.2.1
  have hap := va_apart (own := own) hts k3 ty0 hty hnm C.K k1
  obtain ⟨q', h1, cell, q1, q2, q3, q4⟩ := hH.at hs
  have hr : q' = (cN, T, N) := Option.some.inj (h1.symm.trans k1)
  subst hr
  obtain ⟨hS1, hfc, kC, hkC, hkind⟩ := C.K.1 ci _ k1
  obtain ⟨cf, kf, fi, fd, hi, hsl⟩ := hS1 f hk
  have hlay := hts _ (k3 _ (u_in_lay hk))
  unfold u_lay at hlay
  rw [if_pos hfin] at hlay
  have hst := (u_facts hfc hkC (u_lays hts k3 hk) hi).1
  have hcf : (zm Z).cls = cf := by
    obtain ⟨_, _, c', _, _, _, -, -, hf', -, -, -, hown2, -⟩ := Cond.laysFinal_spec hlay
    have e1 : c' = cf := by have := hi.symm.trans hf'; simp at this; exact this.1.symm
    rw [hdecl] at hown2
    rw [← e1]; exact Option.some.inj (C.2.2.2.1.symm.trans hown2)
  have h6 := u_fits hfc hkC hkind (Or.inr hlay) hi hd (hnf (wb (zw Z) + b)).1 (hnf (wb (zw Z) + b)).2
  refine W.putFinK C.1 C.2.1 C.2.2.2.1 (C.w hlk) hi hst hcf hin (by rw [q2]; exact h6) q1 q3 (by rw [hsl]; exact k2_hasslot (q4 f hk)) rfl rfl d fun H' e1 e2 e3 => ?_
  rw [hsl] at e1
  refine k H' _ (hH.put hs e2 e3 ⟨_, k1, t_OB.to (V := updV (vp_V (obf (zw Z) G.2.2.2 μ a ci)) f (.ref (wb (zw Z) + b))) ⟨_, e1, q2, q3, t_set q4 hap hk (.ref (wb (zw Z) + b))⟩ (fun j hj => ?_)⟩ (fun j g hj => ent_u _ _ _ _ _ _ g hj)) (hS.put e2 e3 (Nat.le_add_right _ _)) ls hl
  show updV (vp_V (obf (zw Z) G.2.2.2 μ a ci)) f (.ref (wb (zw Z) + b)) j = vp_V (obf (zw Z) (uRf G.2.2.2 a f b) μ a ci) j
  have g1 : vp_V (obf (zw Z) (uRf G.2.2.2 a f b) μ a ci) j = if fr ci j = true then va_rf ((uRf G.2.2.2 a f b a j).map (wb (zw Z) + ·)) else .int (μ.1 a j) := by
    unfold vp_V
    rw [List.getD_eq_getElem?_getD, obf_get (by rw [k2]; exact hj)]
    rfl
  have g2 : vp_V (obf (zw Z) G.2.2.2 μ a ci) j = if fr ci j = true then va_rf ((G.2.2.2 a j).map (wb (zw Z) + ·)) else .int (μ.1 a j) := by
    unfold vp_V
    rw [List.getD_eq_getElem?_getD, obf_get (by rw [k2]; exact hj)]
    rfl
  rw [g1]
  by_cases hjf : j = f
  · subst hjf
    rw [hfr]
    simp [updV, uRf, va_rf]
  · simp only [updV, if_neg hjf]
    rw [g2]
    simp [uRf, hjf]
theorem r_aast {a b n t ci N : Nat} {i : Int32} {cN : String} {T : u_T} (C : CX Z cc nL own) (d : decode cc pc = .ok (.aastore, 1)) (hs : G.2.2.1[a]? = some (.inr (t, n))) (ht : 3 < t) (htt : ∀ w : WP, (tyl w.2.1)[t]? = some (w.2.1 t, .object cN)) (hv : G.2.2.1[b]? = some (.inl ci)) (hc : vwCl[ci]? = some (cN, T, N)) (hb : ib i n = true) (k : Wm Z (G.1, G.2.1, G.2.2.1, uRf G.2.2.2 a (ix i) b) μ (pc + 1) lv r) : Wm Z G μ pc lv (.ref (wb (zw Z) + b) :: .int i :: .ref (wb (zw Z) + a) :: r) := by
  intro H locs hH hS ls hl
  have hin := ib_in hb
  have hlt : i.toNatClampNeg < n := Nat.not_le.mp fun q => hin (Or.inr q)
  have h0 : ¬ i < 0 := fun q => hin (Or.inl q)
  obtain ⟨r', hr', cellV, g1, g2, g3, -⟩ := hH.at hv
  have hcls := (C.K.1 ci _ hc).2
  obtain ⟨kA, comp, k1, k2, k3, -⟩ := (C.K.2 t _ (htt (zw Z))).2
  have hcomp : comp = (zw Z).1.1 ci := Option.some.inj (k3.symm.trans hcls.1)
  subst hcomp
  obtain ⟨kC, hkC, -⟩ := hcls.2
  refine W.aast C.1 C.2.1 (arr_q ht (hH.at hs)) (fun q h => by cases h) (fun h => by cases h) k1 k2 rfl hkC ⟨h0, by show _ < (arrV _ _ _).slots.size; rw [arrV_size]; exact hlt⟩ g1 (fun q h => by rw [g3] at h; cases h) (by rw [g2]; exact hkC) (by rw [g2]; exact va_assign hcls) rfl rfl d fun H1 e z oq => ?_
  refine k H1 _ (hH.put hs z oq ?_ (fun j g hj => ent_u _ _ _ _ _ _ g hj)) (hS.put z oq (Nat.le_add_right _ _)) ls hl
  show H1[wb (zw Z) + a]? = some (vp_cell _ _)
  unfold arc
  rw [if_neg (by omega), if_neg (by omega), e, arrV_store]
  show _ = some (vp_cell ((zw Z).2.1 t) (n, .inr (.inr (.inr (.inr (fun j => ((uRf G.2.2.2 a (ix i) b) a j).map (wb (zw Z) + ·)))))))
  rw [vp_cell_q]
  congr 2
  funext q
  by_cases hq : q = i.toNatClampNeg
  · subst hq
    simp [updV, uRf, ix, va_rf]
  · simp [updV, uRf, ix, hq]
/-- invokespecial of a constructor -/
theorem r_callI {cc' : ByteArray} {nL' n idx d' mc ms a : Nat} {y : MethodName} {sh' : List Sh} {R' : Rf} {As rest st : List Value} (C : CX Z cc nL own) (h1 : Cond.methodLink own idx y ∈ GT) (h2 : Cond.instanceMethod y ∈ GT) (h4 : Cond.initialized y.cls ∈ GT) (h5 : Cond.code y cc' nL' none ∈ GT) (h6 : y.cls ≠ "java/lang/invoke/MethodHandle" ∧ y.cls ≠ "java/lang/invoke/VarHandle" ∧ (parseMethodDescriptor y.desc).map (fun d => d.parameters.length) = some n) (hy : y.name = "<init>") (d : decode cc pc = .ok (.invokespecial idx, 3))
    (M : CM Z.1.2.1 (zw Z) y cc' nL' none d' mc ms G.2.2.1 G.2.2.2 (.ref (wb (zw Z) + a) :: As) μ none sh' R' μ') (hst : st = As.reverse ++ .ref (wb (zw Z) + a) :: rest) (hn : As.length = n)
    (hR : d' + 1 ≤ (zR Z).frames ∧ 8 + (nL' + 11) + 60 * d' ≤ (zR Z).locals) (hk : G.1 + mc ≤ (zR Z).cells ∧ G.2.1 + ms ≤ (zR Z).slots) (hW : (rest.map fun v => v.category).sum ≤ 8)
    (k : Wm Z (G.1 + mc, G.2.1 + ms, sh', R') μ' (pc + 3) lv rest) : Wm Z G μ pc lv st := by
  intro H locs hH hS ls hl
  exact run_go (va_runI (b := wb (zw Z) + a) (As := As) (rest := rest) (n := n) (C_fix C) M ⟨callB_g C h1 h4 h5 h6 hR, hy, C.w h2⟩ ⟨PcW.blind, fun U hU hW => C_pre C rfl hH hS _ U hU hW⟩ rfl hn (by rw [← C.nn]; exact hl.1) hst (by show 2 * 0 + _ ≤ 8; omega) d hk) hS (fun H1 locs1 hH1 hS1 => k H1 locs1 hH1 hS1 ls hl)
theorem r_callIN {cc' : ByteArray} {nL' n idx d' mc ms a : Nat} {y : MethodName} {sh' : List Sh} {R' : Rf} {As rest st : List Value} (C : CX Z cc nL own) (h1 : (own, idx, y) ∈ nestL) (h2 : Cond.instanceMethod y ∈ GT) (h4 : Cond.initialized y.cls ∈ GT) (h5 : Cond.code y cc' nL' none ∈ GT) (h6 : y.cls ≠ "java/lang/invoke/MethodHandle" ∧ y.cls ≠ "java/lang/invoke/VarHandle" ∧ (parseMethodDescriptor y.desc).map (fun d => d.parameters.length) = some n) (hy : y.name = "<init>") (d : decode cc pc = .ok (.invokespecial idx, 3))
    (M : CM Z.1.2.1 (zw Z) y cc' nL' none d' mc ms G.2.2.1 G.2.2.2 (.ref (wb (zw Z) + a) :: As) μ none sh' R' μ') (hst : st = As.reverse ++ .ref (wb (zw Z) + a) :: rest) (hn : As.length = n)
    (hR : d' + 1 ≤ (zR Z).frames ∧ 8 + (nL' + 11) + 60 * d' ≤ (zR Z).locals) (hk : G.1 + mc ≤ (zR Z).cells ∧ G.2.1 + ms ≤ (zR Z).slots) (hW : (rest.map fun v => v.category).sum ≤ 8)
    (k : Wm Z (G.1 + mc, G.2.1 + ms, sh', R') μ' (pc + 3) lv rest) : Wm Z G μ pc lv st := by
  intro H locs hH hS ls hl
  have hN : va_Nw (.methodLinkNest own idx y "HallShells") (zs Z) := C.2.2.2.2.2.2.1.2.2.2.2.1 _ h1
  exact run_go (va_runIN (b := wb (zw Z) + a) (As := As) (rest := rest) (n := n) (C_fix C) M ⟨va_cnB n C.2.2.2.2.1 (gd_ws h5) rfl rfl rfl hN (C.w h4) h6 hR, hy, C.w h2⟩ ⟨PcW.blind, fun U hU hW => C_pre C rfl hH hS _ U hU hW⟩ rfl hn (by rw [← C.nn]; exact hl.1) hst (by show 2 * 0 + _ ≤ 8; omega) d hk) hS (fun H1 locs1 hH1 hS1 => k H1 locs1 hH1 hS1 ls hl)
/-- less was made than there was room for -/
theorem r_wide {mc ms : Nat} (hk : G.1 ≤ mc ∧ G.2.1 ≤ ms) (k : Wm Z (mc, ms, G.2.2.1, G.2.2.2) μ pc lv r) : Wm Z G μ pc lv r := fun H locs hH hS ls hl => W.widen (k := mc) (n := ms) hk.1 hk.2 (k H locs hH hS ls hl)
end
