/-! THE READER: a law's codes, piece by piece -/
def alw (l c : Nat) : Prop := c < 1000 ∨ c = 1000 ∨ c = 1001 ∨ (l = 0 ∧ c = 1002) ∨ (l = 1 ∧ (c = 1003 ∨ c = 1004 ∨ c = 1005)) ∨ (l = 2 ∧ (c = 1006 ∨ c = 1007 ∨ c = 1008)) ∨ (3000 ≤ c ∧ c ≤ 3008)
def sgS (l b : Nat) : List Bool → List Nat → Prop
  | _, [] => True
  | st, c :: cs => alw l c ∧ (3000 ≤ c → (if c = 3006 then 1 else 2) ≤ st.length) ∧ tyOK c st ∧ st.length ≤ b ∧ sgS l b (ty1 c st) cs
def rnT : List Bool → List Nat → List Bool
  | st, [] => st
  | st, c :: cs => rnT (ty1 c st) cs
theorem rnT_app : ∀ (st : List Bool) (xs ys : List Nat), rnT st (xs ++ ys) = rnT (rnT st xs) ys
  | st, [], ys => rfl
  | st, c :: xs, ys => rnT_app (ty1 c st) xs ys
theorem sgS_app {l b : Nat} : ∀ (st : List Bool) (xs ys : List Nat), sgS l b st xs → sgS l b (rnT st xs) ys → sgS l b st (xs ++ ys)
  | st, [], ys, _, h => h
  | st, c :: xs, ys, ⟨h1, h2, h3, h4, h5⟩, h => ⟨h1, h2, h3, h4, sgS_app (ty1 c st) xs ys h5 h⟩
theorem sgS_mono {l b b' : Nat} (hb : b ≤ b') : ∀ (st : List Bool) (xs : List Nat), sgS l b st xs → sgS l b' st xs
  | st, [], _ => trivial
  | st, c :: xs, ⟨h1, h2, h3, h4, h5⟩ => ⟨h1, h2, h3, Nat.le_trans h4 hb, sgS_mono hb (ty1 c st) xs h5⟩
def Seg (l : Nat) (ty : Bool) (H : Nat) (cs : List Nat) : Prop := ∀ st, sgS l (st.length + H) st cs ∧ rnT st cs = ty :: st
theorem Seg.mono {l H H' : Nat} {ty : Bool} {cs : List Nat} (h : Seg l ty H cs) (hH : H ≤ H') : Seg l ty H' cs := fun st => ⟨sgS_mono (by omega) st cs (h st).1, (h st).2⟩
theorem Seg.atom {l H c : Nat} (h : alw l c) (hc : c < 3000) : Seg l false H [c] := fun st => ⟨⟨h, fun q => by omega, ⟨fun q => by omega, fun q => by omega⟩, by omega, trivial⟩, by
  show rnT (ty1 c st) [] = false :: st
  show ty1 c st = false :: st
  unfold ty1; rw [if_pos hc]⟩
theorem Seg.bin {l H op : Nat} {ty : Bool} {xs ys : List Nat} (hx : Seg l ty H xs) (hy : Seg l ty H ys) (hop : 3000 ≤ op ∧ op ≤ 3008 ∧ op ≠ 3006) (ht : op = 3007 ∨ op = 3008 → ty = true) (hH : 1 ≤ H) : Seg l (decide (3003 ≤ op)) (H + 1) (xs ++ ys ++ [op]) := fun st => by
  obtain ⟨x1, x2⟩ := hx st
  obtain ⟨y1, y2⟩ := hy (ty :: st)
  have e : rnT st (xs ++ ys) = ty :: ty :: st := by rw [rnT_app, x2, y2]
  refine ⟨sgS_app st (xs ++ ys) [op] (sgS_app st xs ys (sgS_mono (by omega) _ _ x1) ?_) ?_, ?_⟩
  · rw [x2]; exact sgS_mono (by show st.length + 1 + H ≤ st.length + (H + 1); omega) _ _ y1
  · rw [e]
    refine ⟨by unfold alw; omega, fun _ => ?_, ⟨fun q => absurd q hop.2.2, fun q => ⟨st, by rw [ht q]⟩⟩, ?_, trivial⟩
    · rw [if_neg hop.2.2]; show 2 ≤ st.length + 1 + 1; omega
    · show st.length + 1 + 1 ≤ st.length + (H + 1); omega
  · rw [rnT_app, e]
    show ty1 op (ty :: ty :: st) = _
    unfold ty1
    rw [if_neg (by omega), if_neg hop.2.2]
theorem Seg.no {l H : Nat} {xs : List Nat} (hx : Seg l true H xs) (hH : 1 ≤ H) : Seg l true H (xs ++ [3006]) := fun st => by
  obtain ⟨x1, x2⟩ := hx st
  refine ⟨sgS_app st xs [3006] x1 ?_, ?_⟩
  · rw [x2]
    refine ⟨by unfold alw; omega, fun _ => ?_, ⟨fun _ => ⟨st, rfl⟩, fun q => by omega⟩, ?_, trivial⟩
    · rw [if_pos rfl]; show 1 ≤ st.length + 1; omega
    · show st.length + 1 ≤ st.length + H; omega
  · rw [rnT_app, x2]
    show ty1 3006 (true :: st) = _
    unfold ty1
    rw [if_neg (by omega), if_pos rfl]
