/-! THE READER: what it writes is a law's code -/
theorem sgS_at {l b c : Nat} : ∀ (st : List Bool) (xs ys : List Nat), sgS l b st (xs ++ (c :: ys)) → alw l c ∧ (3000 ≤ c → (if c = 3006 then 1 else 2) ≤ (rnT st xs).length) ∧ tyOK c (rnT st xs) ∧ (rnT st xs).length ≤ b
  | st, [], ys, ⟨h1, h2, h3, h4, _⟩ => ⟨h1, h2, h3, h4⟩
  | st, _ :: xs, ys, ⟨_, _, _, _, h5⟩ => sgS_at _ xs ys h5
theorem ty1_len {c : Nat} {st : List Bool} (h : 3000 ≤ c → (if c = 3006 then 1 else 2) ≤ st.length) : (ty1 c st).length = if c < 3000 then st.length + 1 else if c = 3006 then st.length else st.length - 1 := by
  unfold ty1
  by_cases c1 : c < 3000
  · rw [if_pos c1, if_pos c1]; rfl
  · rw [if_neg c1, if_neg c1]
    by_cases c2 : c = 3006
    · rw [if_pos c2, if_pos c2]
    · rw [if_neg c2, if_neg c2]
      have h := h (by omega)
      rw [if_neg c2] at h
      match st, h with
      | _ :: _ :: r, _ => rfl
theorem okC_of {l b n : Nat} {ty : Bool} {f : Nat → Nat} {cs : List Nat} (hl : cs.length = n) (hf : ∀ i, i < n → f i = cs.getD i 0) (h1 : sgS l b [] cs) (h2 : rnT [] cs = [ty]) (hb : b ≤ 40) (ht : 1 ≤ l → ty = true) : okC l f n := by
  have sp : ∀ i, i < n → cs = cs.take i ++ (f i :: cs.drop (i + 1)) := fun i hi => by
    have e : f i = cs[i]'(by omega) := by rw [hf i hi, List.getD_eq_getElem?_getD, List.getElem?_eq_getElem (by omega)]; rfl
    rw [e]
    conv => lhs; rw [← List.take_append_drop i cs]
    rw [List.drop_eq_getElem_cons (by omega)]
  have at' : ∀ i, i < n → alw l (f i) ∧ (3000 ≤ f i → (if f i = 3006 then 1 else 2) ≤ (rnT [] (cs.take i)).length) ∧ tyOK (f i) (rnT [] (cs.take i)) ∧ (rnT [] (cs.take i)).length ≤ b := fun i hi => by
    have q := h1
    rw [sp i hi] at q
    exact sgS_at [] _ _ q
  have tk : ∀ i, i < n → cs.take (i + 1) = cs.take i ++ [f i] := fun i hi => by
    have e : f i = cs[i]'(by omega) := by rw [hf i hi, List.getD_eq_getElem?_getD, List.getElem?_eq_getElem (by omega)]; rfl
    rw [e, List.take_succ_eq_append_getElem (by omega)]
  have tn : ∀ i, i ≤ n → tyN f i = rnT [] (cs.take i) := fun i => by
    induction i with
    | zero => intro _; rfl
    | succ i ih =>
      intro hi
      show ty1 (f i) (tyN f i) = _
      rw [ih (by omega), tk i (by omega), rnT_app]
      rfl
  have hn : ∀ i, i ≤ n → hgN f i = (rnT [] (cs.take i)).length := fun i => by
    induction i with
    | zero => intro _; rfl
    | succ i ih =>
      intro hi
      obtain ⟨a1, a2, a3, a4⟩ := at' i (by omega)
      rw [tk i (by omega), rnT_app]
      show _ = (ty1 (f i) (rnT [] (cs.take i))).length
      rw [ty1_len a2]
      show (if f i < 3000 then hgN f i + 1 else if f i = 3006 then hgN f i else hgN f i - 1) = _
      rw [ih (by omega)]
  have full : cs.take n = cs := List.take_of_length_le (by omega)
  refine ⟨fun i hi => ?_, ?_, fun i hi => ?_, fun q => ?_⟩
  · obtain ⟨a1, a2, a3, a4⟩ := at' i hi
    rw [hn i (by omega)]
    exact ⟨a1, a2, by omega⟩
  · rw [hn n (Nat.le_refl _), full, h2]; rfl
  · rw [tn i (by omega)]; exact (at' i hi).2.2.1
  · rw [tn n (Nat.le_refl _), full, h2, ht q]
