/-! IMAGES: what is made, what is kept -/
def FrT (k0 : Nat) (T T' : TT) : Prop := (∀ x, x < k0 → T'.2.1 x = T.2.1 x) ∧ ∀ x, x < k0 → T'.2.2.1 x = T.2.2.1 x ∧ T'.2.2.2 x = T.2.2.2 x
theorem FrT.rfl' {k0 : Nat} {T : TT} : FrT k0 T T := ⟨fun _ _ => rfl, fun _ _ => ⟨rfl, rfl⟩⟩
theorem FrT.nw {k0 k : Nat} {e : Sh} {T T' : TT} (ha : k0 ≤ k) (h : FrT k0 T T') : FrT k0 T (nwT k e T') := by
  refine ⟨fun x hx => ?_, fun x hx => ?_⟩
  · rw [← h.1 x hx]; show zRf T'.2.1 k x = _; unfold zRf; rw [if_neg (by omega)]
  · rw [← (h.2 x hx).1, ← (h.2 x hx).2]
    show (zMu T'.2.2 k).1 x = _ ∧ (zMu T'.2.2 k).2 x = _
    unfold zMu
    simp only
    rw [if_neg (by omega), if_neg (by omega)]
    exact ⟨rfl, rfl⟩
theorem FrT.pr {k0 a f b : Nat} {T T' : TT} (ha : k0 ≤ a) (h : FrT k0 T T') : FrT k0 T (prT a f b T') := by
  refine ⟨fun x hx => ?_, h.2⟩
  rw [← h.1 x hx]; show uRf T'.2.1 a f b x = _; unfold uRf; rw [if_neg (by omega)]
theorem FrT.pi {k0 a f : Nat} {v : Int32} {T T' : TT} (ha : k0 ≤ a) (h : FrT k0 T T') : FrT k0 T (piT a f v T') := by
  refine ⟨h.1, fun x hx => ?_⟩
  rw [← (h.2 x hx).1, ← (h.2 x hx).2]
  show (wI T'.2.2 a f v).1 x = _ ∧ _
  unfold wI
  simp only
  rw [if_neg (by omega)]
  exact ⟨rfl, rfl⟩
theorem FrT.tr {k0 : Nat} {T T' T'' : TT} (h : FrT k0 T T') (h2 : FrT k0 T' T'') : FrT k0 T T'' := ⟨fun x hx => (h2.1 x hx).trans (h.1 x hx), fun x hx => ⟨(h2.2 x hx).1.trans (h.2 x hx).1, (h2.2 x hx).2.trans (h.2 x hx).2⟩⟩
theorem iX3_fr {k0 a k : Nat} {T : TT} (ha : k0 ≤ a) (hk : k0 ≤ k) : FrT k0 T (iX3 a k T) := by
  unfold iX3
  repeat (first | exact FrT.rfl' | refine FrT.nw (by omega) ?_ | refine FrT.pr (by omega) ?_ | refine FrT.pi (by omega) ?_)
theorem iX7_fr {k0 a k : Nat} {T : TT} (ha : k0 ≤ a) (hk : k0 ≤ k) : FrT k0 T (iX7 a k T) := by
  unfold iX7
  refine FrT.pr (by omega) (FrT.tr ?_ (iX3_fr (by omega) (by omega)))
  repeat (first | exact FrT.rfl' | refine FrT.nw (by omega) ?_ | refine FrT.pr (by omega) ?_ | refine FrT.pi (by omega) ?_)
theorem iX8_fr {k0 a k : Nat} {T : TT} (ha : k0 ≤ a) (hk : k0 ≤ k) : FrT k0 T (iX8 a k T) := by
  unfold iX8
  repeat (first | exact FrT.rfl' | refine FrT.nw (by omega) ?_ | refine FrT.pr (by omega) ?_ | refine FrT.pi (by omega) ?_)
theorem iX2_fr {k0 a k : Nat} {T : TT} (ha : k0 ≤ a) (hk : k0 ≤ k) : FrT k0 T (iX2 a k T) := by
  unfold iX2
  refine FrT.pr (by omega) (FrT.tr ?_ (iX8_fr (by omega) (by omega)))
  refine FrT.nw (by omega) (FrT.pr (by omega) (FrT.tr ?_ (iX7_fr (by omega) (by omega))))
  exact FrT.nw (by omega) FrT.rfl'
theorem im_sh {k i : Nat} {T : TT} : (imT i k T).1 = T.1 ++ c_isIm := by
  simp [imT, iX2, iX7, iX8, iX3, nwT, prT, piT, c_isIm]
theorem im_R {k : Nat} {T : TT} : ∀ q ∈ q_isIm, (iX2 k (k + 1) (nwT k (.inl 2) T)).2.1 (k + q.1) q.2.1 = some (k + q.2.2) := by
  simp [q_isIm, iX2, iX7, iX8, iX3, nwT, prT, piT, uRf, zRf, Nat.add_assoc]
theorem im_all {k i : Nat} {T : TT} (hl : T.1.length = k) (hY : LY T.1 T.2.1) : 155 ≤ k ∧ LY (imT i k T).1 (imT i k T).2.1 ∧ (imT i k T).2.1 137 i = some k ∧ (∀ j, j ≠ i → (imT i k T).2.1 137 j = T.2.1 137 j) ∧ isIm (imT i k T).1 (imT i k T).2.1 k ∧ (∀ a, 155 ≤ a → isIm T.1 T.2.1 a → isIm (imT i k T).1 (imT i k T).2.1 a ∧ a + 19 ≤ k) ∧ Fr (fun x => k ≤ x) T.2.2 (imT i k T).2.2 := by
  have h155 : 155 ≤ k := by
    have := (List.getElem?_eq_some_iff.mp (ly154 hY)).1
    omega
  have ff : FrT k T (iX2 k (k + 1) (nwT k (.inl 2) T)) := (FrT.nw (Nat.le_refl _) FrT.rfl').tr (iX2_fr (Nat.le_refl _) (by omega))
  have rx : ∀ x y, x ≠ 137 → (imT i k T).2.1 x y = (iX2 k (k + 1) (nwT k (.inl 2) T)).2.1 x y := fun x y hx => by
    show uRf _ 137 i k x y = _
    unfold uRf; rw [if_neg hx]
  have r137 : ∀ y, (imT i k T).2.1 137 y = if y = i then some k else T.2.1 137 y := fun y => by
    show uRf _ 137 i k 137 y = _
    unfold uRf
    rw [if_pos rfl, ff.1 137 (by omega)]
  have get : ∀ (a : Nat) (e : Sh), T.1[a]? = some e → (imT i k T).1[a]? = some e := fun a e h => by
    rw [im_sh, List.getElem?_append_left (List.getElem?_eq_some_iff.mp h).1]; exact h
  have gnew : ∀ (j : Nat) (e : Sh), c_isIm[j]? = some e → (imT i k T).1[k + j]? = some e := fun j e h => by
    rw [im_sh, List.getElem?_append_right (by omega), hl, Nat.add_sub_cancel_left]; exact h
  refine ⟨h155, ⟨fun a e h => get a e (hY.1 a e h), fun q hq => ?_⟩, by rw [r137, if_pos rfl], fun j hj => by rw [r137, if_neg hj], ⟨gnew, fun q hq => ?_⟩, fun a ha h => ?_, fun x hx => ⟨fun j => congrFun (ff.2 x (by omega)).1 j, fun j => congrFun (ff.2 x (by omega)).2 j⟩⟩
  · have z : ∀ q ∈ RS0, q.1 ≠ 137 ∧ q.1 < 155 := by decide +kernel
    obtain ⟨z1, z2⟩ := z q hq
    rw [rx _ _ z1, ff.1 q.1 (by omega)]
    exact hY.2 q hq
  · rw [rx _ _ (by omega)]; exact im_R q hq
  · have hlt := (List.getElem?_eq_some_iff.mp (isIm_18 h)).1
    have z : ∀ q ∈ q_isIm, q.1 ≤ 18 := by decide
    refine ⟨⟨fun j e hj => get _ e (h.1 j e hj), fun q hq => ?_⟩, by omega⟩
    have := z q hq
    rw [rx _ _ (by omega), ff.1 _ (by omega)]
    exact h.2 q hq
