/-! NEW CELLS: shapes, references, memory together -/
abbrev TT : Type := List Sh × Rf × Mu
def nwT (k : Nat) (e : Sh) (T : TT) : TT := (T.1 ++ [e], zRf T.2.1 k, zMu T.2.2 k)
def prT (a f b : Nat) (T : TT) : TT := (T.1, uRf T.2.1 a f b, T.2.2)
def piT (a f : Nat) (v : Int32) (T : TT) : TT := (T.1, T.2.1, wI T.2.2 a f v)
def flI (μ : Mu) (a N : Nat) (v : Int32) : Mu := (fun b => if b = a then (fun i => if i < N then v else μ.1 a i) else μ.1 b, μ.2)
def fiT (a N : Nat) (v : Int32) (T : TT) : TT := (T.1, T.2.1, flI T.2.2 a N v)
theorem nw_get {T : TT} {k a : Nat} {e x : Sh} (h : T.1[a]? = some e) : (nwT k x T).1[a]? = some e := by
  show (T.1 ++ [x])[a]? = some e
  rw [List.getElem?_append_left (List.getElem?_eq_some_iff.mp h).1]; exact h
theorem nw_new {T : TT} {k : Nat} {x : Sh} (h : T.1.length = k) : (nwT k x T).1[k]? = some x := by
  show (T.1 ++ [x])[k]? = some x
  rw [← h, List.getElem?_append_right (Nat.le_refl _), Nat.sub_self]; rfl
theorem nw_len {T : TT} {k : Nat} {x : Sh} (h : T.1.length = k) : (nwT k x T).1.length = k + 1 := by
  show (T.1 ++ [x]).length = k + 1
  rw [List.length_append, h]; rfl
/-- what one method makes on top of what was there -/
def PX (T T' : TT) : Prop := ∃ l, T'.1 = T.1 ++ l
theorem PX.rfl' (T : TT) : PX T T := ⟨[], (List.append_nil _).symm⟩
theorem PX.nw {T T' : TT} (h : PX T T') (k : Nat) (e : Sh) : PX T (nwT k e T') := by
  obtain ⟨l, h⟩ := h
  exact ⟨l ++ [e], by show T'.1 ++ [e] = _; rw [h, List.append_assoc]⟩
theorem PX.pr {T T' : TT} (h : PX T T') (a f b : Nat) : PX T (prT a f b T') := h
theorem PX.pi {T T' : TT} (h : PX T T') (a f : Nat) (v : Int32) : PX T (piT a f v T') := h
theorem PX.tr {T T' T'' : TT} (h : PX T T') (h2 : PX T' T'') : PX T T'' := by
  obtain ⟨l, h⟩ := h
  obtain ⟨l2, h2⟩ := h2
  exact ⟨l ++ l2, by rw [h2, h, List.append_assoc]⟩
theorem PX.get {T T' : TT} (h : PX T T') {a : Nat} {e : Sh} (ha : T.1[a]? = some e) : T'.1[a]? = some e := by
  obtain ⟨l, h⟩ := h
  rw [h, List.getElem?_append_left (List.getElem?_eq_some_iff.mp ha).1]; exact ha
/-- what a walk needs to know of the kinds of arrays -/
theorem ak_i {w : WP} : (tyl w.2.1)[0]? = some (w.2.1 0, .int) := rfl
theorem cf_i {n : Nat} (w : WP) (R : Rf) (μ : Mu) (k : Nat) : vp_cell (w.2.1 0) (n, arc w (zRf R k) (zMu μ k) k 0) = arrV (w.2.1 0) n (fun _ => defaultValue .int) := by
  simp only [arc, zMu, if_true]; rfl
theorem cf_b {n : Nat} (w : WP) (R : Rf) (μ : Mu) (k : Nat) : vp_cell (w.2.1 1) (n, arc w (zRf R k) (zMu μ k) k 1) = arrV (w.2.1 1) n (fun _ => defaultValue .byte) := by
  simp only [arc, zMu, if_true]; rfl
theorem cf_z {n : Nat} (w : WP) (R : Rf) (μ : Mu) (k : Nat) : vp_cell (w.2.1 2) (n, arc w (zRf R k) (zMu μ k) k 2) = arrV (w.2.1 2) n (fun _ => defaultValue .boolean) := by
  simp only [arc, zMu, if_true]; rfl
theorem cf_l {n : Nat} (w : WP) (R : Rf) (μ : Mu) (k : Nat) : vp_cell (w.2.1 3) (n, arc w (zRf R k) (zMu μ k) k 3) = arrV (w.2.1 3) n (fun _ => defaultValue .long) := by
  simp only [arc, zMu, if_true]; rfl
theorem aw_i : Cond.arrayClass .int ∈ GT := GT_c1 (i := 57) rfl rfl
theorem aw_b : Cond.arrayClass .byte ∈ GT := GT_c1 (i := 56) rfl rfl
theorem aw_z : Cond.arrayClass .boolean ∈ GT := GT_c6 (i := 103) rfl rfl
theorem aw_l : Cond.arrayClass .long ∈ GT := GT_c2 (i := 141) rfl rfl
theorem ow : Cond.instanceMethod Lib.objectInit ∈ GT ∧ Cond.code Lib.objectInit ⟨#[0xb1]⟩ 1 none ∈ GT := ⟨GT_c1 (i := 29) rfl rfl, GT_c1 (i := 30) rfl rfl⟩
section
variable {Z : ZC} {T : TT} {c s k : Nat} {pc : Nat} {lv : List (Nat × Value)} {r : List Value} {cc : ByteArray} {nL : Nat} {own : String}
theorem q_new {idx ci N : Nat} {cN : String} {U : u_T} {ty : Nat → FieldType} (hl : T.1.length = k) (C : CX Z cc nL own) (K : KC ci cN U N) (hty : ∀ k, k < N → parseFieldDescriptor (U k).2.2.1 = some (ty k)) (hdf : ∀ j, j < N → defaultValue (ty j) = if fr ci j = true then .null else .int 0) (hcl : Cond.classLink own idx cN ∈ GT) (hin : Cond.instantiable cN N ∈ GT) (hini : Cond.initialized cN ∈ GT) (d : decode cc pc = .ok (.new idx, 3)) (hk : c + 1 ≤ (zR Z).cells ∧ s + N ≤ (zR Z).slots) (kk : Wm Z (c + 1, s + N, (nwT k (.inl ci) T).1, (nwT k (.inl ci) T).2.1) (nwT k (.inl ci) T).2.2 (pc + 3) lv (.ref (wb (zw Z) + k) :: r)) : Wm Z (c, s, T.1, T.2.1) T.2.2 pc lv r := by
  subst hl
  exact r_new C K hty hdf hcl hin hini d hk kk
theorem q_newi {n : Nat} {x : Int32} (hl : T.1.length = k) (C : CX Z cc nL own) (d : decode cc pc = .ok (.newarray .int, 2)) (hn : ¬ x < 0) (hN : x.toNatClampNeg = n) (hby : n * 4 ≤ 536870912) (hk : c + 1 ≤ (zR Z).cells ∧ s + n ≤ (zR Z).slots) (kk : Wm Z (c + 1, s + n, (nwT k (.inr (0, n)) T).1, (nwT k (.inr (0, n)) T).2.1) (nwT k (.inr (0, n)) T).2.2 (pc + 2) lv (.ref (wb (zw Z) + k) :: r)) : Wm Z (c, s, T.1, T.2.1) T.2.2 pc lv (.int x :: r) := by
  subst hl
  exact r_newa (ty := .int) C rfl (fun _ => rfl) (fun _ _ h => h) cf_i aw_i d hn hN hby hk kk
theorem q_newb {n : Nat} {x : Int32} (hl : T.1.length = k) (C : CX Z cc nL own) (d : decode cc pc = .ok (.newarray .byte, 2)) (hn : ¬ x < 0) (hN : x.toNatClampNeg = n) (hby : n * 1 ≤ 536870912) (hk : c + 1 ≤ (zR Z).cells ∧ s + n ≤ (zR Z).slots) (kk : Wm Z (c + 1, s + n, (nwT k (.inr (1, n)) T).1, (nwT k (.inr (1, n)) T).2.1) (nwT k (.inr (1, n)) T).2.2 (pc + 2) lv (.ref (wb (zw Z) + k) :: r)) : Wm Z (c, s, T.1, T.2.1) T.2.2 pc lv (.int x :: r) := by
  subst hl
  exact r_newa (ty := .byte) C rfl (fun _ => rfl) (fun _ _ h => h) cf_b aw_b d hn hN hby hk kk
theorem q_newz {n : Nat} {x : Int32} (hl : T.1.length = k) (C : CX Z cc nL own) (d : decode cc pc = .ok (.newarray .boolean, 2)) (hn : ¬ x < 0) (hN : x.toNatClampNeg = n) (hby : n * 1 ≤ 536870912) (hk : c + 1 ≤ (zR Z).cells ∧ s + n ≤ (zR Z).slots) (kk : Wm Z (c + 1, s + n, (nwT k (.inr (2, n)) T).1, (nwT k (.inr (2, n)) T).2.1) (nwT k (.inr (2, n)) T).2.2 (pc + 2) lv (.ref (wb (zw Z) + k) :: r)) : Wm Z (c, s, T.1, T.2.1) T.2.2 pc lv (.int x :: r) := by
  subst hl
  exact r_newa (ty := .boolean) C rfl (fun _ => rfl) (fun _ _ h => h) cf_z aw_z d hn hN hby hk kk
theorem q_newl {n : Nat} {x : Int32} (hl : T.1.length = k) (C : CX Z cc nL own) (d : decode cc pc = .ok (.newarray .long, 2)) (hn : ¬ x < 0) (hN : x.toNatClampNeg = n) (hby : n * 8 ≤ 536870912) (hk : c + 1 ≤ (zR Z).cells ∧ s + n ≤ (zR Z).slots) (kk : Wm Z (c + 1, s + n, (nwT k (.inr (3, n)) T).1, (nwT k (.inr (3, n)) T).2.1) (nwT k (.inr (3, n)) T).2.2 (pc + 2) lv (.ref (wb (zw Z) + k) :: r)) : Wm Z (c, s, T.1, T.2.1) T.2.2 pc lv (.int x :: r) := by
  subst hl
  exact r_newa (ty := .long) C rfl (fun _ => rfl) (fun _ _ h => h) cf_l aw_l d hn hN hby hk kk
theorem q_anew {t n idx : Nat} {x : Int32} {cN : String} (hl : T.1.length = k) (C : CX Z cc nL own) (htt : ∀ w : WP, (tyl w.2.1)[t]? = some (w.2.1 t, .object cN)) (ht : 3 < t) (hcl : Cond.classLink own idx cN ∈ GT) (hao : va_AO cN (zs Z)) (d : decode cc pc = .ok (.anewarray idx, 3)) (hn : ¬ x < 0) (hN : x.toNatClampNeg = n) (hby : n * 4 ≤ 536870912) (hk : c + 1 ≤ (zR Z).cells ∧ s + n ≤ (zR Z).slots) (kk : Wm Z (c + 1, s + n, (nwT k (.inr (t, n)) T).1, (nwT k (.inr (t, n)) T).2.1) (nwT k (.inr (t, n)) T).2.2 (pc + 3) lv (.ref (wb (zw Z) + k) :: r)) : Wm Z (c, s, T.1, T.2.1) T.2.2 pc lv (.int x :: r) := by
  subst hl
  exact r_anew C htt ht hcl hao d hn hN hby hk kk
theorem q_putR {idx ci f a b : Nat} (C : CX Z cc nL own) (F : FLF own idx ci f) (hin : (zme Z).name = "<init>") (d : decode cc pc = .ok (.putfield idx, 3)) (hs : T.1[a]? = some (.inl ci)) (kk : Wm Z (c, s, (prT a f b T).1, (prT a f b T).2.1) (prT a f b T).2.2 (pc + 3) lv r) : Wm Z (c, s, T.1, T.2.1) T.2.2 pc lv (.ref (wb (zw Z) + b) :: .ref (wb (zw Z) + a) :: r) := r_putR C F hin d hs kk
theorem q_putI {idx ci f a : Nat} {x : Int32} (C : CX Z cc nL own) (F : FLI own idx ci f) (d : decode cc pc = .ok (.putfield idx, 3)) (hs : T.1[a]? = some (.inl ci)) (kk : Wm Z (c, s, (piT a f x T).1, (piT a f x T).2.1) (piT a f x T).2.2 (pc + 3) lv r) : Wm Z (c, s, T.1, T.2.1) T.2.2 pc lv (.int x :: .ref (wb (zw Z) + a) :: r) := r_putI C F d hs kk
theorem q_iast {a n : Nat} {i x : Int32} (C : CX Z cc nL own) (d : decode cc pc = .ok (.iastore, 1)) (hs : T.1[a]? = some (.inr (0, n))) (hb : ib i n = true) (kk : Wm Z (c, s, (piT a (ix i) x T).1, (piT a (ix i) x T).2.1) (piT a (ix i) x T).2.2 (pc + 1) lv r) : Wm Z (c, s, T.1, T.2.1) T.2.2 pc lv (.int x :: .int i :: .ref (wb (zw Z) + a) :: r) := r_iast C d hs hb kk
theorem q_aast {a b n t ci N : Nat} {i : Int32} {cN : String} {U : u_T} (C : CX Z cc nL own) (d : decode cc pc = .ok (.aastore, 1)) (hs : T.1[a]? = some (.inr (t, n))) (ht : 3 < t) (htt : ∀ w : WP, (tyl w.2.1)[t]? = some (w.2.1 t, .object cN)) (hv : T.1[b]? = some (.inl ci)) (hc : vwCl[ci]? = some (cN, U, N)) (hb : ib i n = true) (kk : Wm Z (c, s, (prT a (ix i) b T).1, (prT a (ix i) b T).2.1) (prT a (ix i) b T).2.2 (pc + 1) lv r) : Wm Z (c, s, T.1, T.2.1) T.2.2 pc lv (.ref (wb (zw Z) + b) :: .int i :: .ref (wb (zw Z) + a) :: r) := r_aast C d hs ht htt hv hc hb kk
end
