abbrev Sh : Type := Nat ⊕ (Nat × Nat)
abbrev Mu : Type := (Nat → Nat → Int32) × (Nat → Nat → Int64)
abbrev Rf : Type := Nat → Nat → Option Nat
/-- a world's constants: the classes' numbers and slots, the array classes, the first new address, the string constants' addresses and those of their bytes -/
abbrev WP : Type := va_G × (Nat → ClassId) × Nat × (Nat → Nat) × (Nat → Nat)
abbrev wb (w : WP) : Nat := w.2.2.1
def GT : List Cond := lw_tbl.filter goodWord
theorem GT_in {w : Cond} (h : w ∈ lw_tbl) (hg : goodWord w = true) : w ∈ GT := List.mem_filter.mpr ⟨h, hg⟩
theorem GT_good {w : Cond} (h : w ∈ GT) : goodWord w = true := (List.mem_filter.mp h).2
theorem GT_tb {w : Cond} {i : Nat} (h : tables_1[i]? = some w) (hg : goodWord w = true) : w ∈ GT := GT_in (List.mem_append_right _ (List.mem_of_getElem? h)) hg
theorem GT_sel {w : Cond} {i : Nat} (h : (k2_sels lw_privs)[i]? = some w) (hg : goodWord w = true) : w ∈ GT := GT_in (List.mem_append_left _ (List.mem_of_getElem? h)) hg
/-- which fields of a class are references -/
def frT : List (List Bool) := [[true, true, true, true, true, true, false, false], [true, false, false], [true, true], [true, false, true, true], [true, true, true, false, false], [true, false, false, true, false, false], [true, true, true, true, true, true], [false, false, false, false, false, false, false, false, true, true, true, true, true, true, true], [false, false, false, false, true, true, true, true, true, true], [true, true, false], [true, false, false], [true, false, false, false, true, true, true, true, true, true, true, true, true, true, true], [false, true, true, true, true, false, false, false, false, false, false, false, false, false, false, false, true, true, true, false, false, true, true, true, true, true, false, true, true, true]]
def fr (ci k : Nat) : Bool := (frT.getD ci []).getD k false
def obf (w : WP) (R : Rf) (μ : Mu) (k ci : Nat) : List Value := (List.range (frT.getD ci []).length).map (fun j => if fr ci j = true then va_rf ((R k j).map (wb w + ·)) else .int (μ.1 k j))
def arc (w : WP) (R : Rf) (μ : Mu) (k t : Nat) : (Nat → Int32) ⊕ (Nat → Int64) ⊕ (Nat → UInt32) ⊕ (Nat → UInt64) ⊕ (Nat → Option Nat) :=
  if t ≤ 2 then .inl (μ.1 k) else if t = 3 then .inr (.inl (μ.2 k)) else .inr (.inr (.inr (.inr (fun i => (R k i).map (wb w + ·)))))
def ent (w : WP) (R : Rf) (μ : Mu) (k : Nat) : Sh → va_E
  | .inl ci => .inr (ci, obf w R μ k ci)
  | .inr (t, n) => .inl (w.2.1 t, n, arc w R μ k t)
def HR (w : WP) (sh : List Sh) (R : Rf) (μ : Mu) (H : Heap) : Prop := H.size = wb w + sh.length ∧ ∀ (k : Nat) (e : Sh), sh[k]? = some e → va_at w.1 vwCl (wb w + k, ent w R μ k e) H
def tyl (tA : Nat → ClassId) : List (ClassId × FieldType) := [(tA 0, .int), (tA 1, .byte), (tA 2, .boolean), (tA 3, .long), (tA 4, .object RX8), (tA 5, .object RX10), (tA 6, .object RX2)]
def Ab (w : WP) : Nat → Prop := fun q => wb w ≤ q
def txS : List String := ["sea current takes person at deaf shell by sounds open listens gale hour or and not beach from to who home words ", ";:+-*()[]=<>", " sea current takes person at deaf shell by sounds open listens gale hour beach from to who home words and or not "]
def bytS : List (List Int32) := [[115, 101, 97, 32, 99, 117, 114, 114, 101, 110, 116, 32, 116, 97, 107, 101, 115, 32, 112, 101, 114, 115, 111, 110, 32, 97, 116, 32, 100, 101, 97, 102, 32, 115, 104, 101, 108, 108, 32, 98, 121, 32, 115, 111, 117, 110, 100, 115, 32, 111, 112, 101, 110, 32, 108, 105, 115, 116, 101, 110, 115, 32, 103, 97, 108, 101, 32, 104, 111, 117, 114, 32, 111, 114, 32, 97, 110, 100, 32, 110, 111, 116, 32, 98, 101, 97, 99, 104, 32, 102, 114, 111, 109, 32, 116, 111, 32, 119, 104, 111, 32, 104, 111, 109, 101, 32, 119, 111, 114, 100, 115, 32], [59, 58, 43, 45, 42, 40, 41, 91, 93, 61, 60, 62], [32, 115, 101, 97, 32, 99, 117, 114, 114, 101, 110, 116, 32, 116, 97, 107, 101, 115, 32, 112, 101, 114, 115, 111, 110, 32, 97, 116, 32, 100, 101, 97, 102, 32, 115, 104, 101, 108, 108, 32, 98, 121, 32, 115, 111, 117, 110, 100, 115, 32, 111, 112, 101, 110, 32, 108, 105, 115, 116, 101, 110, 115, 32, 103, 97, 108, 101, 32, 104, 111, 117, 114, 32, 98, 101, 97, 99, 104, 32, 102, 114, 111, 109, 32, 116, 111, 32, 119, 104, 111, 32, 104, 111, 109, 101, 32, 119, 111, 114, 100, 115, 32, 97, 110, 100, 32, 111, 114, 32, 110, 111, 116, 32]]
def lenS : List Nat := [112, 12, 113]
def nestL : List (String × Nat × MethodName) := [("HallShells", 25, yX7_init), ("HallShells", 32, yX5_init), ("HallShells", 48, yX8_init), ("HallShells", 74, yX4_init), ("HallShells", 85, yX10_init), ("HallShells", 354, yX2_init), ("HallShells$History", 17, yX8_init), ("HallShells$Image", 9, yX7_init), ("HallShells$Image", 18, yX8_init), ("HallShells$Reader", 11, yX7_init), ("HallShells$Reader", 20, yX9_init), ("HallShells$Sea", 36, yX3_init)]
def KS (w : WP) (U : State) : Prop := va_K w.1 vwCl (tyl w.2.1) U ∧ vk_S 3 lenS bytS w.2.2.2.1 w.2.2.2.2 (Ab w) U U.heap ∧
  (vk_R "HallShells$Tokens" 51 (txS.getD 0 "") (w.2.2.2.1 0) U ∧ vk_R "HallShells$Tokens" 43 (txS.getD 1 "") (w.2.2.2.1 1) U ∧ vk_R "HallShellsModel" 74 (txS.getD 2 "") (w.2.2.2.1 2) U ∧ vk_R "HallShellsModel" 112 (txS.getD 1 "") (w.2.2.2.1 1) U) ∧
  (va_Z "java/lang/String" "COMPACT_STRINGS" "Z" (.int 1) (Ab w) U U.heap ∧ va_Zq "jdk/internal/util/Preconditions" "SIOOBE_FORMATTER" "Ljava/util/function/BiFunction;" (Ab w) U U.heap) ∧ (∀ q ∈ nestL, va_Nw (.methodLinkNest q.1 q.2.1 q.2.2 "HallShells") U) ∧ (va_AO RX8 U ∧ va_AO RX10 U ∧ va_AO RX2 U) ∧ wb w ≤ U.heap.size
theorem KS.moved {w : WP} {s U : State} (hW : s.WarmedH U.vm) (hz : s.heap.size ≤ U.heap.size) (hq : ∀ q : Nat, q < s.heap.size → ¬ Ab w q → U.heap[q]? = s.heap[q]?) (h : KS w s) : KS w U := by
  obtain ⟨h1, h2, ⟨a1, a2, a3, a4⟩, h3, h4, ⟨b1, b2, b3⟩, h5⟩ := h
  exact ⟨va_K.moved hW.alike h1, (h2.kept hq).moved hW.alike, ⟨a1.warm hW, a2.warm hW, a3.warm hW, a4.warm hW⟩, ⟨(h3.1.kept hq).moved hW.alike, (h3.2.kept hq).moved hW.alike⟩, fun q hh => (h4 q hh).warmM hW, ⟨b1.moved hW.alike, b2.moved hW.alike, b3.moved hW.alike⟩, Nat.le_trans h5 hz⟩
theorem KS.same {w : WP} {s U : State} (hv : U.vm = s.vm) (hh : U.heap = s.heap) (h : KS w s) : KS w U := by
  obtain ⟨h1, h2, ⟨a1, a2, a3, a4⟩, h3, h4, ⟨b1, b2, b3⟩, h5⟩ := h
  have ha : s.vm.Alike U.vm := by rw [hv]; exact Vm.Alike.refl _
  exact ⟨va_K.moved ha h1, by rw [hh]; exact h2.moved ha, ⟨a1.same hv, a2.same hv, a3.same hv, a4.same hv⟩, by rw [hh]; exact ⟨h3.1.moved ha, h3.2.moved ha⟩, fun q hq => (h4 q hq).same rfl hv.symm, ⟨b1.moved ha, b2.moved ha, b3.moved ha⟩, by rw [hh]; exact h5⟩
/-! memory -/
def jdiv (x y : Int32) : Int32 := x / y
def jrem (x y : Int32) : Int32 := x - x / y * y
def jdivl (x y : Int64) : Int64 := x / y
def jreml (x y : Int64) : Int64 := x - x / y * y
def shl (x y : Int32) : Int32 := x <<< (y &&& 31)
def shr (x y : Int32) : Int32 := x >>> (y &&& 31)
def rI (μ : Mu) (a i : Nat) : Int32 := μ.1 a i
def rL (μ : Mu) (a i : Nat) : Int64 := μ.2 a i
def wI (μ : Mu) (a i : Nat) (v : Int32) : Mu := (fun b => if b = a then upd (μ.1 a) i v else μ.1 b, μ.2)
def wL (μ : Mu) (a i : Nat) (v : Int64) : Mu := (μ.1, fun b => if b = a then vp_updL (μ.2 a) i v else μ.2 b)
def cpI (μ : Mu) (a sp b dp n : Nat) : Mu := (fun c => if c = b then va_cpy (μ.1 a) (μ.1 b) sp dp n else μ.1 c, μ.2)
def ix (i : Int32) : Nat := i.toNatClampNeg
def ib (i : Int32) (n : Nat) : Bool := decide (¬ (i < 0 ∨ n ≤ i.toNatClampNeg))
theorem ib_in {i : Int32} {n : Nat} (h : ib i n = true) : vp_in i n := (of_decide_eq_true h : ¬ (i < 0 ∨ n ≤ i.toNatClampNeg))
def gd {α : Type} (b : Bool) (k : Option α) : Option α := if b = true then k else none
def bnd {α β : Type} (x : Option α) (k : α → Option β) : Option β := match x with
  | none => none
  | some a => k a
theorem gd_inv {α : Type} {b : Bool} {k : Option α} {o : α} (h : gd b k = some o) : b = true ∧ k = some o := by
  unfold gd at h
  split at h
  · exact ⟨by assumption, h⟩
  · cases h
theorem ite_inv {α : Type} {c : Prop} {inst : Decidable c} {A B : Option α} {o : α} (h : (@ite _ c inst A B) = some o) : (c → A = some o) ∧ (¬ c → B = some o) := ⟨fun hc => by rw [if_pos hc] at h; exact h, fun hc => by rw [if_neg hc] at h; exact h⟩
theorem bnd_inv {α β : Type} {x : Option α} {k : α → Option β} {o : β} (h : bnd x k = some o) : ∃ a, x = some a ∧ k a = some o := by
  cases x with
  | none => cases h
  | some a => exact ⟨a, rfl, h⟩
def lp {σ ρ : Type} (n : Nat) (step : σ → Option (σ ⊕ ρ)) (s : σ) : Option ρ := match n with
  | 0 => none
  | n + 1 => match step s with
    | none => none
    | some (.inl s') => lp n step s'
    | some (.inr r) => some r
theorem lp_all {σ ρ : Type} (step : σ → Option (σ ⊕ ρ)) (St : σ → Prop) (Ex : ρ → Prop) (hs : ∀ s o, step s = some o → (∀ s', o = .inl s' → St s') → (∀ r, o = .inr r → Ex r) → St s) : ∀ (n : Nat) (s : σ) (r : ρ), lp n step s = some r → Ex r → St s := by
  intro n
  induction n with
  | zero => intro s r h; cases h
  | succ n ih =>
    intro s r h hr
    unfold lp at h
    cases ho : step s with
    | none => rw [ho] at h; cases h
    | some o =>
      rw [ho] at h
      cases o with
      | inl s' => exact hs s _ ho (fun s2 e => by cases e; exact ih s' r h hr) (fun r2 e => by cases e)
      | inr r2 => cases h; exact hs s _ ho (fun s2 e => by cases e) (fun r3 e => by cases e; exact hr)
/-! the machine's frame, bundled -/
abbrev EV : Type := Program × Launch × Env × Room × State × MethodId × Array Value × List Frame × Method × Code
abbrev ZC : Type := EV × Nat × WP × (State → Prop)
abbrev GC : Type := Nat × Nat × List Sh × Rf
abbrev zR (Z : ZC) : Room := Z.1.2.2.2.1
abbrev zs (Z : ZC) : State := Z.1.2.2.2.2.1
abbrev zm (Z : ZC) : MethodId := Z.1.2.2.2.2.2.1
abbrev za (Z : ZC) : Array Value := Z.1.2.2.2.2.2.2.1
abbrev zbl (Z : ZC) : List Frame := Z.1.2.2.2.2.2.2.2.1
abbrev zme (Z : ZC) : Method := Z.1.2.2.2.2.2.2.2.2.1
abbrev zc (Z : ZC) : Code := Z.1.2.2.2.2.2.2.2.2.2
abbrev zw (Z : ZC) : WP := Z.2.2.1
abbrev zQ (Z : ZC) : State → Prop := Z.2.2.2
def CX (Z : ZC) (cc : ByteArray) (nL : Nat) (own : String) : Prop := Z.1.1.tables.exec = Jvm.exec ∧ (zc Z).code = cc ∧ (zc Z).maxLocals = nL ∧ (zs Z).vm.findClass own = some (zm Z).cls ∧ (∀ q ∈ GT, q.before (za Z) (zs Z) = true) ∧ (zme Z).locks = false ∧ KS (zw Z) (zs Z) ∧ Z.2.1 = nL
def Wm (Z : ZC) (G : GC) (μ : Mu) (pc : Nat) (lv : List (Nat × Value)) (st : List Value) : Prop := ∀ (H : Heap) (locs : List Loc), HR (zw Z) G.2.2.1 G.2.2.2 μ H → va_S (Ab (zw Z)) (zs Z).heap H locs → ∀ ls : Array Slot, lv_has ls Z.2.1 lv → W Z.1.1 Z.1.2.1 Z.1.2.2.1 (zR Z) (zs Z) (zm Z) (za Z) (zbl Z) (zme Z) (zc Z) H locs G.1 G.2.1 (zQ Z) (F0 (zm Z) pc ls st)
section
variable {Z : ZC} {G : GC} {μ : Mu} {pc : Nat} {lv lv' : List (Nat × Value)} {r : List Value} {cc : ByteArray} {nL : Nat} {own : String}
theorem CX.K (C : CX Z cc nL own) : va_K (zw Z).1 vwCl (tyl (zw Z).2.1) (zs Z) := C.2.2.2.2.2.2.1.1
theorem CX.A (C : CX Z cc nL own) : ∀ q : Nat, (zs Z).heap.size ≤ q → Ab (zw Z) q := fun q h => Nat.le_trans C.2.2.2.2.2.2.1.2.2.2.2.2.2 h
theorem CX.w (C : CX Z cc nL own) {q : Cond} (h : q ∈ GT) : q.before (za Z) (zs Z) = true := C.2.2.2.2.1 q h
theorem CX.nn (C : CX Z cc nL own) : Z.2.1 = nL := C.2.2.2.2.2.2.2
theorem r_iadd {x y : Int32} (C : CX Z cc nL own) (d : decode cc pc = .ok (.iadd, 1)) (k : Wm Z G μ (pc + 1) lv (.int (x + y) :: r)) : Wm Z G μ pc lv (.int y :: .int x :: r) := fun H locs hH hS ls hl => lv_iadd C.1 C.2.1 d (k H locs hH hS ls hl)
theorem r_isub {x y : Int32} (C : CX Z cc nL own) (d : decode cc pc = .ok (.isub, 1)) (k : Wm Z G μ (pc + 1) lv (.int (x - y) :: r)) : Wm Z G μ pc lv (.int y :: .int x :: r) := fun H locs hH hS ls hl => lv_isub C.1 C.2.1 d (k H locs hH hS ls hl)
theorem r_imul {x y : Int32} (C : CX Z cc nL own) (d : decode cc pc = .ok (.imul, 1)) (k : Wm Z G μ (pc + 1) lv (.int (x * y) :: r)) : Wm Z G μ pc lv (.int y :: .int x :: r) := fun H locs hH hS ls hl => lv_imul C.1 C.2.1 d (k H locs hH hS ls hl)
theorem r_iand {x y : Int32} (C : CX Z cc nL own) (d : decode cc pc = .ok (.iand, 1)) (k : Wm Z G μ (pc + 1) lv (.int (x &&& y) :: r)) : Wm Z G μ pc lv (.int y :: .int x :: r) := fun H locs hH hS ls hl => lv_iand C.1 C.2.1 d (k H locs hH hS ls hl)
theorem r_ior {x y : Int32} (C : CX Z cc nL own) (d : decode cc pc = .ok (.ior, 1)) (k : Wm Z G μ (pc + 1) lv (.int (x ||| y) :: r)) : Wm Z G μ pc lv (.int y :: .int x :: r) := fun H locs hH hS ls hl => lv_ior C.1 C.2.1 d (k H locs hH hS ls hl)
theorem r_ixor {x y : Int32} (C : CX Z cc nL own) (d : decode cc pc = .ok (.ixor, 1)) (k : Wm Z G μ (pc + 1) lv (.int (x ^^^ y) :: r)) : Wm Z G μ pc lv (.int y :: .int x :: r) := fun H locs hH hS ls hl => lv_ixor C.1 C.2.1 d (k H locs hH hS ls hl)
theorem r_ishl {x y : Int32} (C : CX Z cc nL own) (d : decode cc pc = .ok (.ishl, 1)) (k : Wm Z G μ (pc + 1) lv (.int (shl x y) :: r)) : Wm Z G μ pc lv (.int y :: .int x :: r) := fun H locs hH hS ls hl => lv_ishl C.1 C.2.1 d (k H locs hH hS ls hl)
theorem r_ishr {x y : Int32} (C : CX Z cc nL own) (d : decode cc pc = .ok (.ishr, 1)) (k : Wm Z G μ (pc + 1) lv (.int (shr x y) :: r)) : Wm Z G μ pc lv (.int y :: .int x :: r) := fun H locs hH hS ls hl => lv_ishr C.1 C.2.1 d (k H locs hH hS ls hl)
theorem r_idiv {x y : Int32} (C : CX Z cc nL own) (d : decode cc pc = .ok (.idiv, 1)) (hne : ¬ y = 0) (k : Wm Z G μ (pc + 1) lv (.int (jdiv x y) :: r)) : Wm Z G μ pc lv (.int y :: .int x :: r) := fun H locs hH hS ls hl => lv_idiv C.1 C.2.1 d hne (k H locs hH hS ls hl)
theorem r_irem {x y : Int32} (C : CX Z cc nL own) (d : decode cc pc = .ok (.irem, 1)) (hne : ¬ y = 0) (k : Wm Z G μ (pc + 1) lv (.int (jrem x y) :: r)) : Wm Z G μ pc lv (.int y :: .int x :: r) := fun H locs hH hS ls hl => lv_irem C.1 C.2.1 d hne (k H locs hH hS ls hl)
theorem r_ladd {x y : Int64} (C : CX Z cc nL own) (d : decode cc pc = .ok (.ladd, 1)) (k : Wm Z G μ (pc + 1) lv (.long (x + y) :: r)) : Wm Z G μ pc lv (.long y :: .long x :: r) := fun H locs hH hS ls hl => lv_ladd C.1 C.2.1 d (k H locs hH hS ls hl)
theorem r_lsub {x y : Int64} (C : CX Z cc nL own) (d : decode cc pc = .ok (.lsub, 1)) (k : Wm Z G μ (pc + 1) lv (.long (x - y) :: r)) : Wm Z G μ pc lv (.long y :: .long x :: r) := fun H locs hH hS ls hl => lv_lsub C.1 C.2.1 d (k H locs hH hS ls hl)
theorem r_lmul {x y : Int64} (C : CX Z cc nL own) (d : decode cc pc = .ok (.lmul, 1)) (k : Wm Z G μ (pc + 1) lv (.long (x * y) :: r)) : Wm Z G μ pc lv (.long y :: .long x :: r) := fun H locs hH hS ls hl => lv_lmul C.1 C.2.1 d (k H locs hH hS ls hl)
theorem r_land {x y : Int64} (C : CX Z cc nL own) (d : decode cc pc = .ok (.land, 1)) (k : Wm Z G μ (pc + 1) lv (.long (x &&& y) :: r)) : Wm Z G μ pc lv (.long y :: .long x :: r) := fun H locs hH hS ls hl => lv_land C.1 C.2.1 d (k H locs hH hS ls hl)
theorem r_lor {x y : Int64} (C : CX Z cc nL own) (d : decode cc pc = .ok (.lor, 1)) (k : Wm Z G μ (pc + 1) lv (.long (x ||| y) :: r)) : Wm Z G μ pc lv (.long y :: .long x :: r) := fun H locs hH hS ls hl => lv_lor C.1 C.2.1 d (k H locs hH hS ls hl)
theorem r_ldiv {x y : Int64} (C : CX Z cc nL own) (d : decode cc pc = .ok (.ldiv, 1)) (hne : ¬ y = 0) (k : Wm Z G μ (pc + 1) lv (.long (jdivl x y) :: r)) : Wm Z G μ pc lv (.long y :: .long x :: r) := fun H locs hH hS ls hl => lv_ldiv C.1 C.2.1 d hne (k H locs hH hS ls hl)
theorem r_lrem {x y : Int64} (C : CX Z cc nL own) (d : decode cc pc = .ok (.lrem, 1)) (hne : ¬ y = 0) (k : Wm Z G μ (pc + 1) lv (.long (jreml x y) :: r)) : Wm Z G μ pc lv (.long y :: .long x :: r) := fun H locs hH hS ls hl => lv_lrem C.1 C.2.1 d hne (k H locs hH hS ls hl)
def ushr (x y : Int32) : Int32 := (x.toUInt32 >>> (y.toUInt32 &&& Int32.toUInt32 31)).toInt32
theorem r_iushr {x y : Int32} (C : CX Z cc nL own) (d : decode cc pc = .ok (.iushr, 1)) (k : Wm Z G μ (pc + 1) lv (.int (ushr x y) :: r)) : Wm Z G μ pc lv (.int y :: .int x :: r) := fun H locs hH hS ls hl => lv_iushr C.1 C.2.1 d rfl (k H locs hH hS ls hl)
theorem r_lshl {x : Int64} {y : Int32} (C : CX Z cc nL own) (d : decode cc pc = .ok (.lshl, 1)) (k : Wm Z G μ (pc + 1) lv (.long (x <<< (y.toInt64 &&& 63)) :: r)) : Wm Z G μ pc lv (.int y :: .long x :: r) := fun H locs hH hS ls hl => lv_lshl C.1 C.2.1 d rfl (k H locs hH hS ls hl)
theorem r_lshr {x : Int64} {y : Int32} (C : CX Z cc nL own) (d : decode cc pc = .ok (.lshr, 1)) (k : Wm Z G μ (pc + 1) lv (.long (x >>> (y.toInt64 &&& 63)) :: r)) : Wm Z G μ pc lv (.int y :: .long x :: r) := fun H locs hH hS ls hl => lv_lshr C.1 C.2.1 d rfl (k H locs hH hS ls hl)
theorem r_i2l {x : Int32} (C : CX Z cc nL own) (d : decode cc pc = .ok (.i2l, 1)) (k : Wm Z G μ (pc + 1) lv (.long (x.toInt64) :: r)) : Wm Z G μ pc lv (.int x :: r) := fun H locs hH hS ls hl => lv_i2l C.1 C.2.1 d rfl (k H locs hH hS ls hl)
theorem r_l2i {x : Int64} (C : CX Z cc nL own) (d : decode cc pc = .ok (.l2i, 1)) (k : Wm Z G μ (pc + 1) lv (.int (x.toInt32) :: r)) : Wm Z G μ pc lv (.long x :: r) := fun H locs hH hS ls hl => lv_l2i C.1 C.2.1 d rfl (k H locs hH hS ls hl)
theorem r_i2b {x : Int32} (C : CX Z cc nL own) (d : decode cc pc = .ok (.i2b, 1)) (k : Wm Z G μ (pc + 1) lv (.int (x.toInt8.toInt32) :: r)) : Wm Z G μ pc lv (.int x :: r) := fun H locs hH hS ls hl => lv_i2b C.1 C.2.1 d rfl (k H locs hH hS ls hl)
theorem r_i2s {x : Int32} (C : CX Z cc nL own) (d : decode cc pc = .ok (.i2s, 1)) (k : Wm Z G μ (pc + 1) lv (.int (x.toInt16.toInt32) :: r)) : Wm Z G μ pc lv (.int x :: r) := fun H locs hH hS ls hl => lv_i2s C.1 C.2.1 d rfl (k H locs hH hS ls hl)
theorem r_i2c {x : Int32} (C : CX Z cc nL own) (d : decode cc pc = .ok (.i2c, 1)) (k : Wm Z G μ (pc + 1) lv (.int ((x.toUInt32 % 65536).toInt32) :: r)) : Wm Z G μ pc lv (.int x :: r) := fun H locs hH hS ls hl => lv_i2c C.1 C.2.1 d rfl (k H locs hH hS ls hl)
theorem r_iconst {n : Int} {v : Int32} (C : CX Z cc nL own) (d : decode cc pc = .ok (.iconst n, 1)) (hv : Int32.ofInt n = v) (k : Wm Z G μ (pc + 1) lv (.int v :: r)) : Wm Z G μ pc lv (r) := fun H locs hH hS ls hl => lv_iconst C.1 C.2.1 d hv (k H locs hH hS ls hl)
theorem r_bipush {n : Int} {v : Int32} (C : CX Z cc nL own) (d : decode cc pc = .ok (.bipush n, 2)) (hv : (Int8.ofInt n).toInt32 = v) (k : Wm Z G μ (pc + 2) lv (.int v :: r)) : Wm Z G μ pc lv (r) := fun H locs hH hS ls hl => lv_bipush C.1 C.2.1 d hv (k H locs hH hS ls hl)
theorem r_sipush {n : Int} {v : Int32} (C : CX Z cc nL own) (d : decode cc pc = .ok (.sipush n, 3)) (hv : (Int16.ofInt n).toInt32 = v) (k : Wm Z G μ (pc + 3) lv (.int v :: r)) : Wm Z G μ pc lv (r) := fun H locs hH hS ls hl => lv_sipush C.1 C.2.1 d hv (k H locs hH hS ls hl)
theorem r_lconst {n : Fin 2} {v : Int64} (C : CX Z cc nL own) (d : decode cc pc = .ok (.lconst n, 1)) (hv : Int64.ofNat (n : Nat) = v) (k : Wm Z G μ (pc + 1) lv (.long v :: r)) : Wm Z G μ pc lv (r) := fun H locs hH hS ls hl => lv_lconst C.1 C.2.1 d hv (k H locs hH hS ls hl)
theorem r_iload_n {n : Fin 4} {x : Int32} (C : CX Z cc nL own) (d : decode cc pc = .ok (.iload_n n, 1)) (j : Nat) (hj : lv[j]? = some (n.val, .int x)) (k : Wm Z G μ (pc + 1) lv (.int x :: r)) : Wm Z G μ pc lv (r) := fun H locs hH hS ls hl => lv_iload_n C.1 C.2.1 d rfl (lv_at hl j hj) (k H locs hH hS ls hl)
theorem r_iload {i : Nat} {x : Int32} (C : CX Z cc nL own) (d : decode cc pc = .ok (.iload i, 2)) (j : Nat) (hj : lv[j]? = some (i, .int x)) (k : Wm Z G μ (pc + 2) lv (.int x :: r)) : Wm Z G μ pc lv (r) := fun H locs hH hS ls hl => lv_iload C.1 C.2.1 d (lv_at hl j hj) (k H locs hH hS ls hl)
theorem r_lload_n {n : Fin 4} {x : Int64} (C : CX Z cc nL own) (d : decode cc pc = .ok (.lload_n n, 1)) (j : Nat) (hj : lv[j]? = some (n.val, .long x)) (k : Wm Z G μ (pc + 1) lv (.long x :: r)) : Wm Z G μ pc lv (r) := fun H locs hH hS ls hl => lv_lload_n C.1 C.2.1 d rfl (lv_at hl j hj) (k H locs hH hS ls hl)
theorem r_lload {i : Nat} {x : Int64} (C : CX Z cc nL own) (d : decode cc pc = .ok (.lload i, 2)) (j : Nat) (hj : lv[j]? = some (i, .long x)) (k : Wm Z G μ (pc + 2) lv (.long x :: r)) : Wm Z G μ pc lv (r) := fun H locs hH hS ls hl => lv_lload C.1 C.2.1 d (lv_at hl j hj) (k H locs hH hS ls hl)
theorem r_aload_n {n : Fin 4} {x : Nat} (C : CX Z cc nL own) (d : decode cc pc = .ok (.aload_n n, 1)) (j : Nat) (hj : lv[j]? = some (n.val, .ref x)) (k : Wm Z G μ (pc + 1) lv (.ref x :: r)) : Wm Z G μ pc lv (r) := fun H locs hH hS ls hl => lv_aload_n C.1 C.2.1 d rfl (lv_at hl j hj) (k H locs hH hS ls hl)
theorem r_aload {i : Nat} {x : Nat} (C : CX Z cc nL own) (d : decode cc pc = .ok (.aload i, 2)) (j : Nat) (hj : lv[j]? = some (i, .ref x)) (k : Wm Z G μ (pc + 2) lv (.ref x :: r)) : Wm Z G μ pc lv (r) := fun H locs hH hS ls hl => lv_aload C.1 C.2.1 d (lv_at hl j hj) (k H locs hH hS ls hl)
theorem r_dup {v : Value} (C : CX Z cc nL own) (d : decode cc pc = .ok (.dup, 1)) (hv : v.category = 1) (k : Wm Z G μ (pc + 1) lv (v :: v :: r)) : Wm Z G μ pc lv (v :: r) := fun H locs hH hS ls hl => lv_dup C.1 C.2.1 d hv (k H locs hH hS ls hl)
theorem r_pop {v : Value} (C : CX Z cc nL own) (d : decode cc pc = .ok (.pop, 1)) (hv : v.category = 1) (k : Wm Z G μ (pc + 1) lv (r)) : Wm Z G μ pc lv (v :: r) := fun H locs hH hS ls hl => lv_pop C.1 C.2.1 d hv (k H locs hH hS ls hl)
theorem r_dup2 {v u : Value} (C : CX Z cc nL own) (d : decode cc pc = .ok (.dup2, 1)) (hv : v.category = 1) (hu : u.category = 1) (k : Wm Z G μ (pc + 1) lv (v :: u :: v :: u :: r)) : Wm Z G μ pc lv (v :: u :: r) := fun H locs hH hS ls hl => lv_dup2_11 C.1 C.2.1 d hv hu (k H locs hH hS ls hl)
theorem r_pop2 {v : Value} (C : CX Z cc nL own) (d : decode cc pc = .ok (.pop2, 1)) (hv : v.category = 2) (k : Wm Z G μ (pc + 1) lv (r)) : Wm Z G μ pc lv (v :: r) := fun H locs hH hS ls hl => lv_pop2_2 C.1 C.2.1 d hv (k H locs hH hS ls hl)
theorem r_lcmp {x y : Int64} (C : CX Z cc nL own) (d : decode cc pc = .ok (.lcmp, 1)) (k : Wm Z G μ (pc + 1) lv (.int (lg_cmp x y) :: r)) : Wm Z G μ pc lv (.long y :: .long x :: r) := fun H locs hH hS ls hl => W.lcmp C.1 C.2.1 d (k H locs hH hS ls hl)
theorem r_istore_n {n : Fin 4} {i : Nat} {x : Int32} (lv' : List (Nat × Value)) (C : CX Z cc nL own) (d : decode cc pc = .ok (.istore_n n, 1)) (hi : n.val = i) (hn : i < nL) (hl' : (i, Value.int x) :: lv.filter (fun q => !(q.1 == i) && !(q.1 + 1 == i && q.2.category == 2)) = lv') (k : Wm Z G μ (pc + 1) lv' r) : Wm Z G μ pc lv (.int x :: r) := fun H locs hH hS ls hl => lv_istore_n C.1 C.2.1 d hi hl (by rw [C.nn]; exact hn) hl' (fun ls2 hl2 => k H locs hH hS ls2 hl2)
theorem r_istore {i : Nat} {x : Int32} (lv' : List (Nat × Value)) (C : CX Z cc nL own) (d : decode cc pc = .ok (.istore i, 2)) (hn : i < nL) (hl' : (i, Value.int x) :: lv.filter (fun q => !(q.1 == i) && !(q.1 + 1 == i && q.2.category == 2)) = lv') (k : Wm Z G μ (pc + 2) lv' r) : Wm Z G μ pc lv (.int x :: r) := fun H locs hH hS ls hl => lv_istore C.1 C.2.1 d hl (by rw [C.nn]; exact hn) hl' (fun ls2 hl2 => k H locs hH hS ls2 hl2)
theorem r_astore_n {n : Fin 4} {i : Nat} {x : Nat} (lv' : List (Nat × Value)) (C : CX Z cc nL own) (d : decode cc pc = .ok (.astore_n n, 1)) (hi : n.val = i) (hn : i < nL) (hl' : (i, Value.ref x) :: lv.filter (fun q => !(q.1 == i) && !(q.1 + 1 == i && q.2.category == 2)) = lv') (k : Wm Z G μ (pc + 1) lv' r) : Wm Z G μ pc lv (.ref x :: r) := fun H locs hH hS ls hl => lv_astore_n C.1 C.2.1 d hi hl (by rw [C.nn]; exact hn) hl' (fun ls2 hl2 => k H locs hH hS ls2 hl2)
theorem r_astore {i : Nat} {x : Nat} (lv' : List (Nat × Value)) (C : CX Z cc nL own) (d : decode cc pc = .ok (.astore i, 2)) (hn : i < nL) (hl' : (i, Value.ref x) :: lv.filter (fun q => !(q.1 == i) && !(q.1 + 1 == i && q.2.category == 2)) = lv') (k : Wm Z G μ (pc + 2) lv' r) : Wm Z G μ pc lv (.ref x :: r) := fun H locs hH hS ls hl => lv_astore C.1 C.2.1 d hl (by rw [C.nn]; exact hn) hl' (fun ls2 hl2 => k H locs hH hS ls2 hl2)
theorem r_lstore_n {n : Fin 4} {i : Nat} {x : Int64} (lv' : List (Nat × Value)) (C : CX Z cc nL own) (d : decode cc pc = .ok (.lstore_n n, 1)) (hi : n.val = i) (hn : i + 1 < nL) (hl' : (i, Value.long x) :: lv.filter (fun q => !(q.1 == i) && (!(q.1 == i + 1) && !(q.1 + 1 == i && q.2.category == 2))) = lv') (k : Wm Z G μ (pc + 1) lv' r) : Wm Z G μ pc lv (.long x :: r) := fun H locs hH hS ls hl => lv_lstore_n C.1 C.2.1 d hi hl (by rw [C.nn]; exact hn) hl' (fun ls2 hl2 => k H locs hH hS ls2 hl2)
theorem r_lstore {i : Nat} {x : Int64} (lv' : List (Nat × Value)) (C : CX Z cc nL own) (d : decode cc pc = .ok (.lstore i, 2)) (hn : i + 1 < nL) (hl' : (i, Value.long x) :: lv.filter (fun q => !(q.1 == i) && (!(q.1 == i + 1) && !(q.1 + 1 == i && q.2.category == 2))) = lv') (k : Wm Z G μ (pc + 2) lv' r) : Wm Z G μ pc lv (.long x :: r) := fun H locs hH hS ls hl => lv_lstore C.1 C.2.1 d hl (by rw [C.nn]; exact hn) hl' (fun ls2 hl2 => k H locs hH hS ls2 hl2)
theorem r_iinc {i : Nat} {n : Int} {x v : Int32} (lv' : List (Nat × Value)) (C : CX Z cc nL own) (d : decode cc pc = .ok (.iinc i n, 3)) (j : Nat) (hj : lv[j]? = some (i, .int x)) (hv : x + Int32.ofInt n = v) (hn : i < nL) (hl' : (i, Value.int v) :: lv.filter (fun q => !(q.1 == i) && !(q.1 + 1 == i && q.2.category == 2)) = lv') (k : Wm Z G μ (pc + 3) lv' r) : Wm Z G μ pc lv r := fun H locs hH hS ls hl => lv_iinc C.1 C.2.1 d hl hj hv (by rw [C.nn]; exact hn) hl' (fun ls2 hl2 => k H locs hH hS ls2 hl2)
theorem r_goto {off : Int} (tgt : Nat) (C : CX Z cc nL own) (d : decode cc pc = .ok (.goto off, 3)) (ht : (pc : Int) + off = (tgt : Int)) (k : Wm Z G μ tgt lv r) : Wm Z G μ pc lv r := fun H locs hH hS ls hl => lv_goto C.1 C.2.1 d ht (k H locs hH hS ls hl)
theorem r_sub (lv' : List (Nat × Value)) (ks : List Nat) (hl' : lv_pick lv ks = lv') (k : Wm Z G μ pc lv' r) : Wm Z G μ pc lv r := fun H locs hH hS ls hl => k H locs hH hS ls (lv_sub hl ks hl')
theorem r_if_eq {x : Int32} {off : Int} (tgt : Nat) (C : CX Z cc nL own) (d : decode cc pc = .ok (.ifCond .eq off, 3)) (ht : (pc : Int) + off = (tgt : Int)) (kt : x = 0 → Wm Z G μ tgt lv r) (kf : ¬ x = 0 → Wm Z G μ (pc + 3) lv r) : Wm Z G μ pc lv (.int x :: r) := fun H locs hH hS ls hl => lv_if_eq C.1 C.2.1 d ht (fun c => kt c H locs hH hS ls hl) (fun c => kf c H locs hH hS ls hl)
theorem r_if_ne {x : Int32} {off : Int} (tgt : Nat) (C : CX Z cc nL own) (d : decode cc pc = .ok (.ifCond .ne off, 3)) (ht : (pc : Int) + off = (tgt : Int)) (kt : ¬ x = 0 → Wm Z G μ tgt lv r) (kf : x = 0 → Wm Z G μ (pc + 3) lv r) : Wm Z G μ pc lv (.int x :: r) := fun H locs hH hS ls hl => lv_if_ne C.1 C.2.1 d ht (fun c => kt c H locs hH hS ls hl) (fun c => kf c H locs hH hS ls hl)
theorem r_if_lt {x : Int32} {off : Int} (tgt : Nat) (C : CX Z cc nL own) (d : decode cc pc = .ok (.ifCond .lt off, 3)) (ht : (pc : Int) + off = (tgt : Int)) (kt : x < 0 → Wm Z G μ tgt lv r) (kf : ¬ x < 0 → Wm Z G μ (pc + 3) lv r) : Wm Z G μ pc lv (.int x :: r) := fun H locs hH hS ls hl => lv_if_lt C.1 C.2.1 d ht (fun c => kt c H locs hH hS ls hl) (fun c => kf c H locs hH hS ls hl)
theorem r_if_ge {x : Int32} {off : Int} (tgt : Nat) (C : CX Z cc nL own) (d : decode cc pc = .ok (.ifCond .ge off, 3)) (ht : (pc : Int) + off = (tgt : Int)) (kt : 0 ≤ x → Wm Z G μ tgt lv r) (kf : ¬ 0 ≤ x → Wm Z G μ (pc + 3) lv r) : Wm Z G μ pc lv (.int x :: r) := fun H locs hH hS ls hl => lv_if_ge C.1 C.2.1 d ht (fun c => kt c H locs hH hS ls hl) (fun c => kf c H locs hH hS ls hl)
theorem r_if_gt {x : Int32} {off : Int} (tgt : Nat) (C : CX Z cc nL own) (d : decode cc pc = .ok (.ifCond .gt off, 3)) (ht : (pc : Int) + off = (tgt : Int)) (kt : 0 < x → Wm Z G μ tgt lv r) (kf : ¬ 0 < x → Wm Z G μ (pc + 3) lv r) : Wm Z G μ pc lv (.int x :: r) := fun H locs hH hS ls hl => lv_if_gt C.1 C.2.1 d ht (fun c => kt c H locs hH hS ls hl) (fun c => kf c H locs hH hS ls hl)
theorem r_if_le {x : Int32} {off : Int} (tgt : Nat) (C : CX Z cc nL own) (d : decode cc pc = .ok (.ifCond .le off, 3)) (ht : (pc : Int) + off = (tgt : Int)) (kt : x ≤ 0 → Wm Z G μ tgt lv r) (kf : ¬ x ≤ 0 → Wm Z G μ (pc + 3) lv r) : Wm Z G μ pc lv (.int x :: r) := fun H locs hH hS ls hl => lv_if_le C.1 C.2.1 d ht (fun c => kt c H locs hH hS ls hl) (fun c => kf c H locs hH hS ls hl)
theorem r_icmp_eq {x y : Int32} {off : Int} (tgt : Nat) (C : CX Z cc nL own) (d : decode cc pc = .ok (.if_icmp .eq off, 3)) (ht : (pc : Int) + off = (tgt : Int)) (kt : x = y → Wm Z G μ tgt lv r) (kf : ¬ x = y → Wm Z G μ (pc + 3) lv r) : Wm Z G μ pc lv (.int y :: .int x :: r) := fun H locs hH hS ls hl => lv_icmp_eq C.1 C.2.1 d ht (fun c => kt c H locs hH hS ls hl) (fun c => kf c H locs hH hS ls hl)
theorem r_icmp_ne {x y : Int32} {off : Int} (tgt : Nat) (C : CX Z cc nL own) (d : decode cc pc = .ok (.if_icmp .ne off, 3)) (ht : (pc : Int) + off = (tgt : Int)) (kt : ¬ x = y → Wm Z G μ tgt lv r) (kf : x = y → Wm Z G μ (pc + 3) lv r) : Wm Z G μ pc lv (.int y :: .int x :: r) := fun H locs hH hS ls hl => lv_icmp_ne C.1 C.2.1 d ht (fun c => kt c H locs hH hS ls hl) (fun c => kf c H locs hH hS ls hl)
theorem r_icmp_lt {x y : Int32} {off : Int} (tgt : Nat) (C : CX Z cc nL own) (d : decode cc pc = .ok (.if_icmp .lt off, 3)) (ht : (pc : Int) + off = (tgt : Int)) (kt : x < y → Wm Z G μ tgt lv r) (kf : ¬ x < y → Wm Z G μ (pc + 3) lv r) : Wm Z G μ pc lv (.int y :: .int x :: r) := fun H locs hH hS ls hl => lv_icmp_lt C.1 C.2.1 d ht (fun c => kt c H locs hH hS ls hl) (fun c => kf c H locs hH hS ls hl)
theorem r_icmp_ge {x y : Int32} {off : Int} (tgt : Nat) (C : CX Z cc nL own) (d : decode cc pc = .ok (.if_icmp .ge off, 3)) (ht : (pc : Int) + off = (tgt : Int)) (kt : y ≤ x → Wm Z G μ tgt lv r) (kf : ¬ y ≤ x → Wm Z G μ (pc + 3) lv r) : Wm Z G μ pc lv (.int y :: .int x :: r) := fun H locs hH hS ls hl => lv_icmp_ge C.1 C.2.1 d ht (fun c => kt c H locs hH hS ls hl) (fun c => kf c H locs hH hS ls hl)
theorem r_icmp_gt {x y : Int32} {off : Int} (tgt : Nat) (C : CX Z cc nL own) (d : decode cc pc = .ok (.if_icmp .gt off, 3)) (ht : (pc : Int) + off = (tgt : Int)) (kt : y < x → Wm Z G μ tgt lv r) (kf : ¬ y < x → Wm Z G μ (pc + 3) lv r) : Wm Z G μ pc lv (.int y :: .int x :: r) := fun H locs hH hS ls hl => lv_icmp_gt C.1 C.2.1 d ht (fun c => kt c H locs hH hS ls hl) (fun c => kf c H locs hH hS ls hl)
theorem r_icmp_le {x y : Int32} {off : Int} (tgt : Nat) (C : CX Z cc nL own) (d : decode cc pc = .ok (.if_icmp .le off, 3)) (ht : (pc : Int) + off = (tgt : Int)) (kt : x ≤ y → Wm Z G μ tgt lv r) (kf : ¬ x ≤ y → Wm Z G μ (pc + 3) lv r) : Wm Z G μ pc lv (.int y :: .int x :: r) := fun H locs hH hS ls hl => lv_icmp_le C.1 C.2.1 d ht (fun c => kt c H locs hH hS ls hl) (fun c => kf c H locs hH hS ls hl)
theorem r_nn {x : Nat} {off : Int} (tgt : Nat) (C : CX Z cc nL own) (d : decode cc pc = .ok (.ifnonnull off, 3)) (ht : (pc : Int) + off = (tgt : Int)) (k : Wm Z G μ tgt lv r) : Wm Z G μ pc lv (.ref x :: r) := fun H locs hH hS ls hl => lv_ifnonnull C.1 C.2.1 d ht (k H locs hH hS ls hl)
theorem r_nnN {off : Int} (C : CX Z cc nL own) (d : decode cc pc = .ok (.ifnonnull off, 3)) (k : Wm Z G μ (pc + 3) lv r) : Wm Z G μ pc lv (.null :: r) := fun H locs hH hS ls hl => lv_ifnonnullN C.1 C.2.1 d (k H locs hH hS ls hl)
theorem r_tabOut {dflt lo hi : Int} {offs : Array Int} {len : Nat} {x : Int32} (tgt : Nat) (C : CX Z cc nL own) (d : decode cc pc = .ok (.tableswitch dflt lo hi offs, len)) (h : x.toInt < lo ∨ hi < x.toInt) (ht : (pc : Int) + dflt = (tgt : Int)) (k : Wm Z G μ tgt lv r) : Wm Z G μ pc lv (.int x :: r) := fun H locs hH hS ls hl => lv_tableOut C.1 C.2.1 d h ht (k H locs hH hS ls hl)
theorem r_tabIn {dflt lo hi : Int} {offs : Array Int} {len : Nat} {x : Int32} {off : Int} (tgt : Nat) (C : CX Z cc nL own) (d : decode cc pc = .ok (.tableswitch dflt lo hi offs, len)) (h1 : ¬ x.toInt < lo) (h2 : ¬ hi < x.toInt) (ho : offs[(x.toInt - lo).toNat]? = some off) (ht : (pc : Int) + off = (tgt : Int)) (k : Wm Z G μ tgt lv r) : Wm Z G μ pc lv (.int x :: r) := fun H locs hH hS ls hl => lv_tableIn C.1 C.2.1 d h1 h2 ho ht (k H locs hH hS ls hl)
theorem r_ldc {i : Nat} {v : Int32} (C : CX Z cc nL own) (d : decode cc pc = .ok (.ldc i, 2)) (hw : Cond.constant own i v ∈ GT) (k : Wm Z G μ (pc + 2) lv (.int v :: r)) : Wm Z G μ pc lv r := fun H locs hH hS ls hl => lv_ldc C.1 C.2.1 C.2.2.2.1 (C.w hw) d (k H locs hH hS ls hl)
theorem r_ldcw {i : Nat} {v : Int32} (C : CX Z cc nL own) (d : decode cc pc = .ok (.ldc_w i, 3)) (hw : Cond.constant own i v ∈ GT) (k : Wm Z G μ (pc + 3) lv (.int v :: r)) : Wm Z G μ pc lv r := fun H locs hH hS ls hl => lv_ldcw C.1 C.2.1 C.2.2.2.1 (C.w hw) d (k H locs hH hS ls hl)
theorem r_ldc2 {i : Nat} {v : Int64} (C : CX Z cc nL own) (d : decode cc pc = .ok (.ldc2_w i, 3)) (hw : Cond.constantLong own i v ∈ GT) (k : Wm Z G μ (pc + 3) lv (.long v :: r)) : Wm Z G μ pc lv r := fun H locs hH hS ls hl => lv_ldc2 C.1 C.2.1 C.2.2.2.1 (C.w hw) d (k H locs hH hS ls hl)
theorem r_ldcS {i : Nat} {tx : String} {q : Nat} (C : CX Z cc nL own) (d : decode cc pc = .ok (.ldc i, 2)) (hw : vk_R own i tx q (zs Z)) (k : Wm Z G μ (pc + 2) lv (.ref q :: r)) : Wm Z G μ pc lv r := fun H locs hH hS ls hl => va_ldcS C.1 C.2.1 C.2.2.2.1 hw d (k H locs hH hS ls hl)
/-! memory's rows -/
theorem HR.at {w : WP} {sh : List Sh} {R : Rf} {μ : Mu} {H : Heap} (h : HR w sh R μ H) {k : Nat} {e : Sh} (hk : sh[k]? = some e) : va_at w.1 vwCl (wb w + k, ent w R μ k e) H := h.2 k e hk
/-- one cell changed -/
theorem HR.put {w : WP} {sh : List Sh} {R R1 : Rf} {μ μ1 : Mu} {H H1 : Heap} (h : HR w sh R μ H) {k : Nat} {e : Sh} (hk : sh[k]? = some e) (z : H1.size = H.size) (oq : ∀ q : Nat, q ≠ wb w + k → H1[q]? = H[q]?) (hn : va_at w.1 vwCl (wb w + k, ent w R1 μ1 k e) H1) (hs : ∀ (j : Nat) (f : Sh), j ≠ k → ent w R1 μ1 j f = ent w R μ j f) : HR w sh R1 μ1 H1 := by
  refine ⟨by rw [z]; exact h.1, fun j f hj => ?_⟩
  by_cases hjk : j = k
  · subst hjk
    rw [hk] at hj
    cases hj
    exact hn
  · rw [hs j f hjk]
    exact (h.2 j f hj).kept (oq _ (fun q => hjk (Nat.add_left_cancel q)))
theorem ent_wI (w : WP) (R : Rf) (μ : Mu) (a i : Nat) (v : Int32) {j : Nat} (f : Sh) (h : j ≠ a) : ent w R (wI μ a i v) j f = ent w R μ j f := by
  have e : (wI μ a i v).1 j = μ.1 j := by simp [wI, h]
  have e2 : (wI μ a i v).2 = μ.2 := rfl
  cases f <;> simp only [ent, obf, arc, e, e2]
theorem ent_wL (w : WP) (R : Rf) (μ : Mu) (a i : Nat) (v : Int64) {j : Nat} (f : Sh) (h : j ≠ a) : ent w R (wL μ a i v) j f = ent w R μ j f := by
  have e : (wL μ a i v).2 j = μ.2 j := by simp [wL, h]
  have e2 : (wL μ a i v).1 = μ.1 := rfl
  cases f <;> simp only [ent, obf, arc, e, e2]
theorem ent_cp (w : WP) (R : Rf) (μ : Mu) (a sp b dp n : Nat) {j : Nat} (f : Sh) (h : j ≠ b) : ent w R (cpI μ a sp b dp n) j f = ent w R μ j f := by
  have e : (cpI μ a sp b dp n).1 j = μ.1 j := by simp [cpI, h]
  have e2 : (cpI μ a sp b dp n).2 = μ.2 := rfl
  cases f <;> simp only [ent, obf, arc, e, e2]
theorem obf_get {w : WP} {R : Rf} {μ : Mu} {a ci k : Nat} (hk : k < (frT.getD ci []).length) : (obf w R μ a ci)[k]? = some (if fr ci k = true then va_rf ((R a k).map (wb w + ·)) else .int (μ.1 a k)) := by
  unfold obf
  rw [List.getElem?_map, List.getElem?_range hk]
  rfl
/-- a class's rows: its place in the list, its number of fields, its words, its fields' types and names -/
def KC (ci : Nat) (C : String) (T : u_T) (N : Nat) : Prop := vwCl[ci]? = some (C, T, N) ∧ (frT.getD ci []).length = N ∧ (∀ w ∈ u_ws C T N, w ∈ GT) ∧ (∃ ty : Nat → FieldType, (∀ k, k < N → parseFieldDescriptor (T k).2.2.1 = some (ty k))) ∧ (∀ a, a < N → ∀ b, b < N → a ≠ b → (T a).2.1 ≠ (T b).2.1)
/-- a field's link: its class's number and its place -/
def FL (own : String) (idx ci k : Nat) : Prop := ∃ (C : String) (T : u_T) (N : Nat), KC ci C T N ∧ k < N ∧ Cond.fieldLink own idx (T k).1 (T k).2.1 (T k).2.2.1 ∈ GT
def FLI (own : String) (idx ci k : Nat) : Prop := ∃ (C : String) (T : u_T) (N : Nat), KC ci C T N ∧ k < N ∧ Cond.fieldLink own idx (T k).1 (T k).2.1 (T k).2.2.1 ∈ GT ∧ (T k).2.2.2 = false ∧ parseFieldDescriptor (T k).2.2.1 = some .int ∧ fr ci k = false
theorem r_getI {idx ci f a : Nat} (C : CX Z cc nL own) (F : FL own idx ci f) (d : decode cc pc = .ok (.getfield idx, 3)) (hs : G.2.2.1[a]? = some (.inl ci)) (hf : fr ci f = false) (k : Wm Z G μ (pc + 3) lv (.int (rI μ a f) :: r)) : Wm Z G μ pc lv (.ref (wb (zw Z) + a) :: r) := by
  intro H locs hH hS ls hl
  obtain ⟨cN, T, N, ⟨k1, k2, k3, -, -⟩, hk, hlk⟩ := F
  refine va_get (D := (zw Z).1) (cl := vwCl) (ci := ci) (C := cN) (T := T) (N := N) (ws := [(wb (zw Z) + a, ent (zw Z) G.2.2.2 μ a (.inl ci))]) C.1 C.2.1 (Ts := GT) C.2.2.2.2.1 k3 C.2.2.2.1 C.K (fun q x hx => ?_) 0 rfl k1 f hk (C.w hlk) (fun _ h => h) (v := .int (rI μ a f)) ?_ d (k H locs hH hS ls hl)
  · cases q with
    | zero => cases hx; exact hH.at hs
    | succ q => simp at hx
  · rw [obf_get (by rw [k2]; exact hk), hf]
    rfl
theorem r_getR {idx ci f a b : Nat} (C : CX Z cc nL own) (F : FL own idx ci f) (d : decode cc pc = .ok (.getfield idx, 3)) (hs : G.2.2.1[a]? = some (.inl ci)) (hf : fr ci f = true) (hb : G.2.2.2 a f = some b) (k : Wm Z G μ (pc + 3) lv (.ref (wb (zw Z) + b) :: r)) : Wm Z G μ pc lv (.ref (wb (zw Z) + a) :: r) := by
  intro H locs hH hS ls hl
  obtain ⟨cN, T, N, ⟨k1, k2, k3, -, -⟩, hk, hlk⟩ := F
  refine va_get (D := (zw Z).1) (cl := vwCl) (ci := ci) (C := cN) (T := T) (N := N) (ws := [(wb (zw Z) + a, ent (zw Z) G.2.2.2 μ a (.inl ci))]) C.1 C.2.1 (Ts := GT) C.2.2.2.2.1 k3 C.2.2.2.1 C.K (fun q x hx => ?_) 0 rfl k1 f hk (C.w hlk) (fun _ h => h) (v := .ref (wb (zw Z) + b)) ?_ d (k H locs hH hS ls hl)
  · cases q with
    | zero => cases hx; exact hH.at hs
    | succ q => simp at hx
  · rw [obf_get (by rw [k2]; exact hk), hf, hb]
    rfl
theorem r_putI {idx ci f a : Nat} {x : Int32} (C : CX Z cc nL own) (F : FLI own idx ci f) (d : decode cc pc = .ok (.putfield idx, 3)) (hs : G.2.2.1[a]? = some (.inl ci)) (k : Wm Z G (wI μ a f x) (pc + 3) lv r) : Wm Z G μ pc lv (.int x :: .ref (wb (zw Z) + a) :: r) := by
  intro H locs hH hS ls hl
  obtain ⟨cN, T, N, ⟨k1, k2, k3, ⟨ty0, hty⟩, hnm⟩, hk, hlk, hfin, hd, hfr⟩ := F
  have hts := C.2.2.2.2.1
  have hap := va_apart (own := own) hts k3 ty0 hty hnm C.K k1
  obtain ⟨q', h1, cell, q1, q2, q3, q4⟩ := hH.at hs
  have hr : q' = (cN, T, N) := Option.some.inj (h1.symm.trans k1)
  subst hr
  obtain ⟨hS1, hfc, kC, hkC, hkind⟩ := C.K.1 ci _ k1
  obtain ⟨cf, kf, fi, fd, hi, hsl⟩ := hS1 f hk
  have hlay := hts _ (k3 _ (u_in_lay hk))
  unfold u_lay at hlay
  rw [if_neg (by rw [hfin]; decide)] at hlay
  have hst := (u_facts hfc hkC (u_lays hts k3 hk) hi).1
  have h6 := u_store hfc hkC hkind hlay hi hd (v := .int x) rfl rfl
  refine W.putK C.1 C.2.1 (f := fd) ⟨C.2.2.2.1, C.w hlk, ⟨_, _, _, hi⟩, hst⟩ (by rw [q2]; exact h6) q1 q3 (by rw [hsl]; exact k2_hasslot (q4 f hk)) rfl rfl d fun H' e1 e2 e3 => ?_
  rw [hsl] at e1
  have hlen : f < (obf (zw Z) G.2.2.2 μ a ci).length := by unfold obf; rw [List.length_map, List.length_range, k2]; exact hk
  refine k H' _ (hH.put hs e2 e3 ⟨_, k1, t_OB.to (V := updV (vp_V (obf (zw Z) G.2.2.2 μ a ci)) f (.int x)) ⟨_, e1, q2, q3, t_set q4 hap hk (.int x)⟩ (fun j hj => ?_)⟩ (fun j g hj => ent_wI _ _ _ _ _ _ g hj)) (hS.put e2 e3 (Nat.le_add_right _ _)) ls hl
  show updV (vp_V (obf (zw Z) G.2.2.2 μ a ci)) f (.int x) j = vp_V (obf (zw Z) G.2.2.2 (wI μ a f x) a ci) j
  have g1 : vp_V (obf (zw Z) G.2.2.2 (wI μ a f x) a ci) j = if fr ci j = true then va_rf ((G.2.2.2 a j).map (wb (zw Z) + ·)) else .int ((wI μ a f x).1 a j) := by
    unfold vp_V
    rw [List.getD_eq_getElem?_getD, obf_get (by rw [k2]; exact hj)]
    rfl
  have g2 : vp_V (obf (zw Z) G.2.2.2 μ a ci) j = if fr ci j = true then va_rf ((G.2.2.2 a j).map (wb (zw Z) + ·)) else .int (μ.1 a j) := by
    unfold vp_V
    rw [List.getD_eq_getElem?_getD, obf_get (by rw [k2]; exact hj)]
    rfl
  rw [g1]
  by_cases hjf : j = f
  · subst hjf
    rw [hfr]
    simp [updV, wI, upd]
  · simp only [updV, if_neg hjf]
    rw [g2]
    simp [wI, upd, hjf]
theorem arr_i {w : WP} {R : Rf} {μ : Mu} {a t n : Nat} {H : Heap} (ht : t ≤ 2) (h : va_at w.1 vwCl (wb w + a, ent w R μ a (.inr (t, n))) H) : H[wb w + a]? = some (arrV (w.2.1 t) n (fun j => .int (μ.1 a j))) := by
  have h2 : H[wb w + a]? = some (vp_cell (w.2.1 t) (n, arc w R μ a t)) := h
  unfold arc at h2
  rw [if_pos ht] at h2
  exact h2
theorem arr_l {w : WP} {R : Rf} {μ : Mu} {a n : Nat} {H : Heap} (h : va_at w.1 vwCl (wb w + a, ent w R μ a (.inr (3, n))) H) : H[wb w + a]? = some (arrV (w.2.1 3) n (fun j => .long (μ.2 a j))) := h
theorem arr_q {w : WP} {R : Rf} {μ : Mu} {a t n : Nat} {H : Heap} (ht : 3 < t) (h : va_at w.1 vwCl (wb w + a, ent w R μ a (.inr (t, n))) H) : H[wb w + a]? = some (arrV (w.2.1 t) n (fun j => va_rf ((R a j).map (wb w + ·)))) := by
  have h2 : H[wb w + a]? = some (vp_cell (w.2.1 t) (n, arc w R μ a t)) := h
  unfold arc at h2
  rw [if_neg (by omega), if_neg (by omega)] at h2
  exact h2
theorem arr_of (C : CX Z cc nL own) {t : Nat} {ty : FieldType} (ht : (tyl (zw Z).2.1)[t]? = some ((zw Z).2.1 t, ty)) (n : Nat) (f : Nat → Value) : (zs Z).isArrayOf (arrV ((zw Z).2.1 t) n f) ty := (C.K.2 t _ ht).1 n f
theorem ib_arr {cA : ClassId} {n : Nat} {f : Nat → Value} {i : Int32} (hb : ib i n = true) : ¬ (i < 0 ∨ (arrV cA n f).slots.size ≤ i.toNatClampNeg) := by rw [arrV_size]; exact ib_in hb
theorem ib_lt {n : Nat} {i : Int32} (hb : ib i n = true) : i.toNatClampNeg < n := Nat.not_le.mp fun q => ib_in hb (Or.inr q)
theorem r_iald {a n : Nat} {i : Int32} (C : CX Z cc nL own) (d : decode cc pc = .ok (.iaload, 1)) (hs : G.2.2.1[a]? = some (.inr (0, n))) (hb : ib i n = true) (k : Wm Z G μ (pc + 1) lv (.int (rI μ a (ix i)) :: r)) : Wm Z G μ pc lv (.int i :: .ref (wb (zw Z) + a) :: r) := fun H locs hH hS ls hl =>
  W.iald (v := .int (rI μ a (ix i))) C.1 C.2.1 (arr_i (by decide) (hH.at hs)) (arr_of C rfl _ _) (fun q => by cases q) (ib_arr hb) (arrV_read _ _ (ib_lt hb)) rfl rfl d (k H locs hH hS ls hl)
theorem r_bald {a n : Nat} {i : Int32} (C : CX Z cc nL own) (d : decode cc pc = .ok (.baload, 1)) (hs : G.2.2.1[a]? = some (.inr (1, n))) (hb : ib i n = true) (k : Wm Z G μ (pc + 1) lv (.int (rI μ a (ix i)) :: r)) : Wm Z G μ pc lv (.int i :: .ref (wb (zw Z) + a) :: r) := fun H locs hH hS ls hl =>
  W.bald (v := .int (rI μ a (ix i))) C.1 C.2.1 (arr_i (by decide) (hH.at hs)) (arr_of C rfl _ _) (fun q => by cases q) (ib_arr hb) (arrV_read _ _ (ib_lt hb)) rfl rfl d (k H locs hH hS ls hl)
theorem r_zald {a n : Nat} {i : Int32} (C : CX Z cc nL own) (d : decode cc pc = .ok (.baload, 1)) (hs : G.2.2.1[a]? = some (.inr (2, n))) (hb : ib i n = true) (k : Wm Z G μ (pc + 1) lv (.int (rI μ a (ix i)) :: r)) : Wm Z G μ pc lv (.int i :: .ref (wb (zw Z) + a) :: r) := fun H locs hH hS ls hl =>
  W.zald (v := .int (rI μ a (ix i))) C.1 C.2.1 (arr_i (by decide) (hH.at hs)) (arr_of C rfl _ _) (fun q => by cases q) (ib_arr hb) (arrV_read _ _ (ib_lt hb)) rfl rfl d (k H locs hH hS ls hl)
theorem r_lald {a n : Nat} {i : Int32} (C : CX Z cc nL own) (d : decode cc pc = .ok (.laload, 1)) (hs : G.2.2.1[a]? = some (.inr (3, n))) (hb : ib i n = true) (k : Wm Z G μ (pc + 1) lv (.long (rL μ a (ix i)) :: r)) : Wm Z G μ pc lv (.int i :: .ref (wb (zw Z) + a) :: r) := fun H locs hH hS ls hl =>
  W.lald (v := .long (rL μ a (ix i))) C.1 C.2.1 (arr_l (hH.at hs)) (arr_of C rfl _ _) (fun q => by cases q) (ib_arr hb) (arrV_read _ _ (ib_lt hb)) rfl rfl d (k H locs hH hS ls hl)
theorem r_aald {a n t b : Nat} {i : Int32} {ty : FieldType} (C : CX Z cc nL own) (d : decode cc pc = .ok (.aaload, 1)) (hs : G.2.2.1[a]? = some (.inr (t, n))) (ht : 3 < t) (hty : (tyl (zw Z).2.1)[t]? = some ((zw Z).2.1 t, ty)) (hrk : refKind ty = true) (hb : ib i n = true) (hr : G.2.2.2 a (ix i) = some b) (k : Wm Z G μ (pc + 1) lv (.ref (wb (zw Z) + b) :: r)) : Wm Z G μ pc lv (.int i :: .ref (wb (zw Z) + a) :: r) := fun H locs hH hS ls hl =>
  W.aald (v := .ref (wb (zw Z) + b)) (ty := ty) C.1 C.2.1 (arr_q ht (hH.at hs)) (arr_of C hty _ _) hrk (fun q => by cases q) (ib_arr hb) ((arrV_read _ _ (ib_lt hb)).trans (congrArg some (by show va_rf ((G.2.2.2 a (ix i)).map _) = _; rw [hr]; rfl))) rfl rfl d (k H locs hH hS ls hl)
theorem r_aaldN {a n t : Nat} {i : Int32} {ty : FieldType} (C : CX Z cc nL own) (d : decode cc pc = .ok (.aaload, 1)) (hs : G.2.2.1[a]? = some (.inr (t, n))) (ht : 3 < t) (hty : (tyl (zw Z).2.1)[t]? = some ((zw Z).2.1 t, ty)) (hrk : refKind ty = true) (hb : ib i n = true) (hr : G.2.2.2 a (ix i) = none) (k : Wm Z G μ (pc + 1) lv (.null :: r)) : Wm Z G μ pc lv (.int i :: .ref (wb (zw Z) + a) :: r) := fun H locs hH hS ls hl =>
  W.aald (v := .null) (ty := ty) C.1 C.2.1 (arr_q ht (hH.at hs)) (arr_of C hty _ _) hrk (fun q => by cases q) (ib_arr hb) ((arrV_read _ _ (ib_lt hb)).trans (congrArg some (by show va_rf ((G.2.2.2 a (ix i)).map _) = _; rw [hr]; rfl))) rfl rfl d (k H locs hH hS ls hl)
theorem r_alen {a n t : Nat} {v : Int32} {ty : FieldType} (C : CX Z cc nL own) (d : decode cc pc = .ok (.arraylength, 1)) (hs : G.2.2.1[a]? = some (.inr (t, n))) (hty : (tyl (zw Z).2.1)[t]? = some ((zw Z).2.1 t, ty)) (hv : Int32.ofNat n = v) (k : Wm Z G μ (pc + 1) lv (.int v :: r)) : Wm Z G μ pc lv (.ref (wb (zw Z) + a) :: r) := fun H locs hH hS ls hl =>
  va_alen (cl := vwCl) (ws := [(wb (zw Z) + a, ent (zw Z) G.2.2.2 μ a (.inr (t, n)))]) C.1 C.2.1 C.K (fun q x hx => by
    cases q with
    | zero => cases hx; exact hH.at hs
    | succ q => simp at hx) 0 t rfl hty hv d (k H locs hH hS ls hl)
theorem r_iast {a n : Nat} {i x : Int32} (C : CX Z cc nL own) (d : decode cc pc = .ok (.iastore, 1)) (hs : G.2.2.1[a]? = some (.inr (0, n))) (hb : ib i n = true) (k : Wm Z G (wI μ a (ix i) x) (pc + 1) lv r) : Wm Z G μ pc lv (.int x :: .int i :: .ref (wb (zw Z) + a) :: r) := by
  intro H locs hH hS ls hl
  refine W.iast C.1 C.2.1 (arr_i (by decide) (hH.at hs)) (arr_of C rfl _ _) (fun q => by cases q) (ib_arr hb) rfl rfl d fun H1 e z oq => ?_
  refine k H1 _ (hH.put hs z oq ?_ (fun j g hj => ent_wI _ _ _ _ _ _ g hj)) (hS.put z oq (Nat.le_add_right _ _)) ls hl
  show H1[wb (zw Z) + a]? = some (arrV _ n (fun j => .int ((wI μ a (ix i) x).1 a j)))
  rw [e, arrV_store]
  congr 2
  funext q
  by_cases hq : q = i.toNatClampNeg
  · subst hq
    simp [updV, upd, wI, ix, vp_nar, narrow]
  · simp [updV, upd, wI, ix, hq]
theorem r_bast {a n : Nat} {i x : Int32} (C : CX Z cc nL own) (d : decode cc pc = .ok (.bastore, 1)) (hs : G.2.2.1[a]? = some (.inr (1, n))) (hb : ib i n = true) (k : Wm Z G (wI μ a (ix i) (vp_nar .byte x)) (pc + 1) lv r) : Wm Z G μ pc lv (.int x :: .int i :: .ref (wb (zw Z) + a) :: r) := by
  intro H locs hH hS ls hl
  refine W.bast C.1 C.2.1 (arr_i (by decide) (hH.at hs)) (arr_of C rfl _ _) (fun q => by cases q) (ib_arr hb) rfl rfl d fun H1 e z oq => ?_
  refine k H1 _ (hH.put hs z oq ?_ (fun j g hj => ent_wI _ _ _ _ _ _ g hj)) (hS.put z oq (Nat.le_add_right _ _)) ls hl
  show H1[wb (zw Z) + a]? = some (arrV _ n (fun j => .int ((wI μ a (ix i) (vp_nar .byte x)).1 a j)))
  rw [e, arrV_store]
  congr 2
  funext q
  by_cases hq : q = i.toNatClampNeg
  · subst hq
    simp [updV, upd, wI, ix, vp_nar, narrow]
  · simp [updV, upd, wI, ix, hq]
theorem r_zast {a n : Nat} {i x : Int32} (C : CX Z cc nL own) (d : decode cc pc = .ok (.bastore, 1)) (hs : G.2.2.1[a]? = some (.inr (2, n))) (hb : ib i n = true) (k : Wm Z G (wI μ a (ix i) (vp_nar .boolean x)) (pc + 1) lv r) : Wm Z G μ pc lv (.int x :: .int i :: .ref (wb (zw Z) + a) :: r) := by
  intro H locs hH hS ls hl
  refine W.zast C.1 C.2.1 (arr_i (by decide) (hH.at hs)) (arr_of C rfl _ _) (fun q => by cases q) (ib_arr hb) rfl rfl d fun H1 e z oq => ?_
  refine k H1 _ (hH.put hs z oq ?_ (fun j g hj => ent_wI _ _ _ _ _ _ g hj)) (hS.put z oq (Nat.le_add_right _ _)) ls hl
  show H1[wb (zw Z) + a]? = some (arrV _ n (fun j => .int ((wI μ a (ix i) (vp_nar .boolean x)).1 a j)))
  rw [e, arrV_store]
  congr 2
  funext q
  by_cases hq : q = i.toNatClampNeg
  · subst hq
    simp [updV, upd, wI, ix, vp_nar, narrow]
  · simp [updV, upd, wI, ix, hq]
theorem r_last {a n : Nat} {i : Int32} {x : Int64} (C : CX Z cc nL own) (d : decode cc pc = .ok (.lastore, 1)) (hs : G.2.2.1[a]? = some (.inr (3, n))) (hb : ib i n = true) (k : Wm Z G (wL μ a (ix i) x) (pc + 1) lv r) : Wm Z G μ pc lv (.long x :: .int i :: .ref (wb (zw Z) + a) :: r) := by
  intro H locs hH hS ls hl
  refine W.last C.1 C.2.1 (arr_l (hH.at hs)) (arr_of C rfl _ _) (fun q => by cases q) (ib_arr hb) rfl rfl d fun H1 e z oq => ?_
  refine k H1 _ (hH.put hs z oq ?_ (fun j g hj => ent_wL _ _ _ _ _ _ g hj)) (hS.put z oq (Nat.le_add_right _ _)) ls hl
  show H1[wb (zw Z) + a]? = some (arrV _ n (fun j => .long ((wL μ a (ix i) x).2 a j)))
  rw [e, arrV_store]
  congr 2
  funext q
  by_cases hq : q = i.toNatClampNeg
  · subst hq
    simp [updV, vp_updL, wL, ix]
  · simp [updV, vp_updL, wL, ix, hq]
end
