/-! THE ENTRY: what the tables and the premises say -/
theorem LT_c1 {w : Cond} {i : Nat} (h : nth tables_1_1 i = some w) : w ∈ lw_tbl := List.mem_append_right _ (List.mem_append_left _ (nth_mem h))
theorem LT_c2 {w : Cond} {i : Nat} (h : nth tables_1_2 i = some w) : w ∈ lw_tbl := List.mem_append_right _ (List.mem_append_right _ (List.mem_append_left _ (nth_mem h)))
theorem LT_c3 {w : Cond} {i : Nat} (h : nth tables_1_3 i = some w) : w ∈ lw_tbl := List.mem_append_right _ (List.mem_append_right _ (List.mem_append_right _ (List.mem_append_left _ (nth_mem h))))
theorem LT_c4 {w : Cond} {i : Nat} (h : nth tables_1_4 i = some w) : w ∈ lw_tbl := List.mem_append_right _ (List.mem_append_right _ (List.mem_append_right _ (List.mem_append_right _ (List.mem_append_left _ (nth_mem h)))))
theorem LT_c5 {w : Cond} {i : Nat} (h : nth tables_1_5 i = some w) : w ∈ lw_tbl := List.mem_append_right _ (List.mem_append_right _ (List.mem_append_right _ (List.mem_append_right _ (List.mem_append_right _ (List.mem_append_left _ (nth_mem h))))))
theorem LT_c6 {w : Cond} {i : Nat} (h : nth tables_1_6 i = some w) : w ∈ lw_tbl := List.mem_append_right _ (List.mem_append_right _ (List.mem_append_right _ (List.mem_append_right _ (List.mem_append_right _ (List.mem_append_right _ (List.mem_append_left _ (nth_mem h)))))))
theorem LT_c7 {w : Cond} {i : Nat} (h : nth tables_1_7 i = some w) : w ∈ lw_tbl := List.mem_append_right _ (List.mem_append_right _ (List.mem_append_right _ (List.mem_append_right _ (List.mem_append_right _ (List.mem_append_right _ (List.mem_append_right _ (List.mem_append_left _ (nth_mem h))))))))
theorem LT_c8 {w : Cond} {i : Nat} (h : nth tables_1_8 i = some w) : w ∈ lw_tbl := List.mem_append_right _ (List.mem_append_right _ (List.mem_append_right _ (List.mem_append_right _ (List.mem_append_right _ (List.mem_append_right _ (List.mem_append_right _ (List.mem_append_right _ (nth_mem h))))))))
def FC : List Cond := flatC (Jvm.Cond.and given_1 narrow_1)
noncomputable def tmS : Nat → Term := fun i => if i = 0 then .string "HallShells$Tokens" 51 else if i = 1 then .string "HallShells$Tokens" 43 else .string "HallShellsModel" 74
def bsS : Nat → Nat := fun i => if i = 0 then 48 else if i = 1 then 164 else 181
theorem fc_ex : ∀ i, i < 3 → FC[bsS i]? = some (Cond.exactly (tmS i) "java/lang/String")
  | 0, _ => rfl
  | 1, _ => rfl
  | 2, _ => rfl
theorem fc_co : ∀ i, i < 3 → FC[bsS i + 1]? = some (Cond.eq (.field (tmS i) "java/lang/String" "coder" "B") (.int 0))
  | 0, _ => rfl
  | 1, _ => rfl
  | 2, _ => rfl
theorem fc_ar : ∀ i, i < 3 → FC[bsS i + 2]? = some (Cond.arrayOf (.field (tmS i) "java/lang/String" "value" "[B") .byte)
  | 0, _ => rfl
  | 1, _ => rfl
  | 2, _ => rfl
theorem fc_le : ∀ i, i < 3 → FC[bsS i + 3]? = some (Cond.eq (.length (.field (tmS i) "java/lang/String" "value" "[B")) (.int (Int32.ofNat (lenS.getD i 0))))
  | 0, _ => rfl
  | 1, _ => rfl
  | 2, _ => rfl
theorem fc_el0 : ∀ j, j < 112 → FC[52 + j]? = some (Cond.eq (.elem (.field (tmS 0) "java/lang/String" "value" "[B") (.int (Int32.ofNat j))) (.int ((bytS.getD 0 []).getD j 0)))
  | 0, _ => rfl
  | 1, _ => rfl
  | 2, _ => rfl
  | 3, _ => rfl
  | 4, _ => rfl
  | 5, _ => rfl
  | 6, _ => rfl
  | 7, _ => rfl
  | 8, _ => rfl
  | 9, _ => rfl
  | 10, _ => rfl
  | 11, _ => rfl
  | 12, _ => rfl
  | 13, _ => rfl
  | 14, _ => rfl
  | 15, _ => rfl
  | 16, _ => rfl
  | 17, _ => rfl
  | 18, _ => rfl
  | 19, _ => rfl
  | 20, _ => rfl
  | 21, _ => rfl
  | 22, _ => rfl
  | 23, _ => rfl
  | 24, _ => rfl
  | 25, _ => rfl
  | 26, _ => rfl
  | 27, _ => rfl
  | 28, _ => rfl
  | 29, _ => rfl
  | 30, _ => rfl
  | 31, _ => rfl
  | 32, _ => rfl
  | 33, _ => rfl
  | 34, _ => rfl
  | 35, _ => rfl
  | 36, _ => rfl
  | 37, _ => rfl
  | 38, _ => rfl
  | 39, _ => rfl
  | 40, _ => rfl
  | 41, _ => rfl
  | 42, _ => rfl
  | 43, _ => rfl
  | 44, _ => rfl
  | 45, _ => rfl
  | 46, _ => rfl
  | 47, _ => rfl
  | 48, _ => rfl
  | 49, _ => rfl
  | 50, _ => rfl
  | 51, _ => rfl
  | 52, _ => rfl
  | 53, _ => rfl
  | 54, _ => rfl
  | 55, _ => rfl
  | 56, _ => rfl
  | 57, _ => rfl
  | 58, _ => rfl
  | 59, _ => rfl
  | 60, _ => rfl
  | 61, _ => rfl
  | 62, _ => rfl
  | 63, _ => rfl
  | 64, _ => rfl
  | 65, _ => rfl
  | 66, _ => rfl
  | 67, _ => rfl
  | 68, _ => rfl
  | 69, _ => rfl
  | 70, _ => rfl
  | 71, _ => rfl
  | 72, _ => rfl
  | 73, _ => rfl
  | 74, _ => rfl
  | 75, _ => rfl
  | 76, _ => rfl
  | 77, _ => rfl
  | 78, _ => rfl
  | 79, _ => rfl
  | 80, _ => rfl
  | 81, _ => rfl
  | 82, _ => rfl
  | 83, _ => rfl
  | 84, _ => rfl
  | 85, _ => rfl
  | 86, _ => rfl
  | 87, _ => rfl
  | 88, _ => rfl
  | 89, _ => rfl
  | 90, _ => rfl
  | 91, _ => rfl
  | 92, _ => rfl
  | 93, _ => rfl
  | 94, _ => rfl
  | 95, _ => rfl
  | 96, _ => rfl
  | 97, _ => rfl
  | 98, _ => rfl
  | 99, _ => rfl
  | 100, _ => rfl
  | 101, _ => rfl
  | 102, _ => rfl
  | 103, _ => rfl
  | 104, _ => rfl
  | 105, _ => rfl
  | 106, _ => rfl
  | 107, _ => rfl
  | 108, _ => rfl
  | 109, _ => rfl
  | 110, _ => rfl
  | 111, _ => rfl
  | j + 112, h => absurd h (by omega)
theorem fc_el1 : ∀ j, j < 12 → FC[168 + j]? = some (Cond.eq (.elem (.field (tmS 1) "java/lang/String" "value" "[B") (.int (Int32.ofNat j))) (.int ((bytS.getD 1 []).getD j 0)))
  | 0, _ => rfl
  | 1, _ => rfl
  | 2, _ => rfl
  | 3, _ => rfl
  | 4, _ => rfl
  | 5, _ => rfl
  | 6, _ => rfl
  | 7, _ => rfl
  | 8, _ => rfl
  | 9, _ => rfl
  | 10, _ => rfl
  | 11, _ => rfl
  | j + 12, h => absurd h (by omega)
theorem fc_el2 : ∀ j, j < 113 → FC[185 + j]? = some (Cond.eq (.elem (.field (tmS 2) "java/lang/String" "value" "[B") (.int (Int32.ofNat j))) (.int ((bytS.getD 2 []).getD j 0)))
  | 0, _ => rfl
  | 1, _ => rfl
  | 2, _ => rfl
  | 3, _ => rfl
  | 4, _ => rfl
  | 5, _ => rfl
  | 6, _ => rfl
  | 7, _ => rfl
  | 8, _ => rfl
  | 9, _ => rfl
  | 10, _ => rfl
  | 11, _ => rfl
  | 12, _ => rfl
  | 13, _ => rfl
  | 14, _ => rfl
  | 15, _ => rfl
  | 16, _ => rfl
  | 17, _ => rfl
  | 18, _ => rfl
  | 19, _ => rfl
  | 20, _ => rfl
  | 21, _ => rfl
  | 22, _ => rfl
  | 23, _ => rfl
  | 24, _ => rfl
  | 25, _ => rfl
  | 26, _ => rfl
  | 27, _ => rfl
  | 28, _ => rfl
  | 29, _ => rfl
  | 30, _ => rfl
  | 31, _ => rfl
  | 32, _ => rfl
  | 33, _ => rfl
  | 34, _ => rfl
  | 35, _ => rfl
  | 36, _ => rfl
  | 37, _ => rfl
  | 38, _ => rfl
  | 39, _ => rfl
  | 40, _ => rfl
  | 41, _ => rfl
  | 42, _ => rfl
  | 43, _ => rfl
  | 44, _ => rfl
  | 45, _ => rfl
  | 46, _ => rfl
  | 47, _ => rfl
  | 48, _ => rfl
  | 49, _ => rfl
  | 50, _ => rfl
  | 51, _ => rfl
  | 52, _ => rfl
  | 53, _ => rfl
  | 54, _ => rfl
  | 55, _ => rfl
  | 56, _ => rfl
  | 57, _ => rfl
  | 58, _ => rfl
  | 59, _ => rfl
  | 60, _ => rfl
  | 61, _ => rfl
  | 62, _ => rfl
  | 63, _ => rfl
  | 64, _ => rfl
  | 65, _ => rfl
  | 66, _ => rfl
  | 67, _ => rfl
  | 68, _ => rfl
  | 69, _ => rfl
  | 70, _ => rfl
  | 71, _ => rfl
  | 72, _ => rfl
  | 73, _ => rfl
  | 74, _ => rfl
  | 75, _ => rfl
  | 76, _ => rfl
  | 77, _ => rfl
  | 78, _ => rfl
  | 79, _ => rfl
  | 80, _ => rfl
  | 81, _ => rfl
  | 82, _ => rfl
  | 83, _ => rfl
  | 84, _ => rfl
  | 85, _ => rfl
  | 86, _ => rfl
  | 87, _ => rfl
  | 88, _ => rfl
  | 89, _ => rfl
  | 90, _ => rfl
  | 91, _ => rfl
  | 92, _ => rfl
  | 93, _ => rfl
  | 94, _ => rfl
  | 95, _ => rfl
  | 96, _ => rfl
  | 97, _ => rfl
  | 98, _ => rfl
  | 99, _ => rfl
  | 100, _ => rfl
  | 101, _ => rfl
  | 102, _ => rfl
  | 103, _ => rfl
  | 104, _ => rfl
  | 105, _ => rfl
  | 106, _ => rfl
  | 107, _ => rfl
  | 108, _ => rfl
  | 109, _ => rfl
  | 110, _ => rfl
  | 111, _ => rfl
  | 112, _ => rfl
  | j + 113, h => absurd h (by omega)
theorem vw_eqR {args : Array Value} {s : State} {t u : Term} {a b : Nat} (h : (Cond.eq t u).before args s = true) (ht : t.eval args s none [] s = some (.ref a)) (hu : u.eval args s none [] s = some (.ref b)) : a = b := by
  simp [Cond.before, Cond.holds, Cond.value, ht, hu] at h
  exact h
theorem u_pick (s : State) (b : Nat) (hts : ∀ q ∈ GT, q.before #[Value.ref b] s = true) : ∀ c : Nat, ∃ q : ClassId × (Nat → Nat), ∀ r : vw_C, vwCl[c]? = some r → u_Kn s r.1 r.2.1 r.2.2 q.1 q.2
  | 0 => by
    obtain ⟨cC, iS, h⟩ := u_known (ws := GT) (n := 8) hts kc0.2.2.1 (hts _ in0)
    exact ⟨(cC, iS), fun r hr => by rw [← Option.some.inj (kc0.1.symm.trans hr)]; exact h⟩
  | 1 => by
    obtain ⟨cC, iS, h⟩ := u_known (ws := GT) (n := 3) hts kc1.2.2.1 (hts _ in1)
    exact ⟨(cC, iS), fun r hr => by rw [← Option.some.inj (kc1.1.symm.trans hr)]; exact h⟩
  | 2 => by
    obtain ⟨cC, iS, h⟩ := u_known (ws := GT) (n := 2) hts kc2.2.2.1 (hts _ in2)
    exact ⟨(cC, iS), fun r hr => by rw [← Option.some.inj (kc2.1.symm.trans hr)]; exact h⟩
  | 3 => by
    obtain ⟨cC, iS, h⟩ := u_known (ws := GT) (n := 4) hts kc3.2.2.1 (hts _ in3)
    exact ⟨(cC, iS), fun r hr => by rw [← Option.some.inj (kc3.1.symm.trans hr)]; exact h⟩
  | 4 => by
    obtain ⟨cC, iS, h⟩ := u_known (ws := GT) (n := 5) hts kc4.2.2.1 (hts _ in4)
    exact ⟨(cC, iS), fun r hr => by rw [← Option.some.inj (kc4.1.symm.trans hr)]; exact h⟩
  | 5 => by
    obtain ⟨cC, iS, h⟩ := u_known (ws := GT) (n := 6) hts kc5.2.2.1 (hts _ in5)
    exact ⟨(cC, iS), fun r hr => by rw [← Option.some.inj (kc5.1.symm.trans hr)]; exact h⟩
  | 6 => by
    obtain ⟨cC, iS, h⟩ := u_known (ws := GT) (n := 6) hts kc6.2.2.1 (hts _ in6)
    exact ⟨(cC, iS), fun r hr => by rw [← Option.some.inj (kc6.1.symm.trans hr)]; exact h⟩
  | 7 => by
    obtain ⟨cC, iS, h⟩ := u_known (ws := GT) (n := 15) hts kc7.2.2.1 (hts _ in7)
    exact ⟨(cC, iS), fun r hr => by rw [← Option.some.inj (kc7.1.symm.trans hr)]; exact h⟩
  | 8 => by
    obtain ⟨cC, iS, h⟩ := u_known (ws := GT) (n := 10) hts kc8.2.2.1 (hts _ in8)
    exact ⟨(cC, iS), fun r hr => by rw [← Option.some.inj (kc8.1.symm.trans hr)]; exact h⟩
  | 9 => by
    obtain ⟨cC, iS, h⟩ := u_known (ws := GT) (n := 3) hts kc9.2.2.1 (hts _ in9)
    exact ⟨(cC, iS), fun r hr => by rw [← Option.some.inj (kc9.1.symm.trans hr)]; exact h⟩
  | 10 => by
    obtain ⟨cC, iS, h⟩ := u_known (ws := GT) (n := 3) hts kc10.2.2.1 (hts _ in10)
    exact ⟨(cC, iS), fun r hr => by rw [← Option.some.inj (kc10.1.symm.trans hr)]; exact h⟩
  | 11 => by
    obtain ⟨cC, iS, h⟩ := u_known (ws := GT) (n := 15) hts kc11.2.2.1 (hts _ in11)
    exact ⟨(cC, iS), fun r hr => by rw [← Option.some.inj (kc11.1.symm.trans hr)]; exact h⟩
  | 12 => by
    obtain ⟨cC, iS, h⟩ := u_known (ws := GT) (n := 30) hts kc12.2.2.1 (hts _ in12)
    exact ⟨(cC, iS), fun r hr => by rw [← Option.some.inj (kc12.1.symm.trans hr)]; exact h⟩
  | c + 13 => by
    obtain ⟨cC, iS, h⟩ := u_known (ws := GT) (n := 8) hts kc0.2.2.1 (hts _ in0)
    exact ⟨(cC, iS), fun r hr => by
      have : vwCl[c + 13]? = none := by
        rw [List.getElem?_eq_none_iff]
        show 13 ≤ c + 13
        omega
      rw [this] at hr
      cases hr⟩
def tyT : List FieldType := [.int, .byte, .boolean, .long, .object RX8, .object RX10, .object RX2]
theorem a_prim {s : State} {b : Nat} {ty : FieldType} (h : (Cond.arrayClass ty).before #[Value.ref b] s = true) (hr : ∀ cA, s.vm.findClass ("[" ++ ty.toString) = some cA → va_RA s cA ty) : ∃ cA : ClassId, ArrOfT s cA ty ∧ va_RA s cA ty := by
  obtain ⟨c, k, comp, h1, h2, h3⟩ := Cond.arrayClass_spec h
  exact ⟨c, fun n z => ⟨(fun k h => by cases h), k, h2, comp, h3⟩, hr c h1⟩
theorem a_obj {s : State} {b : Nat} {C : String} (h : (Cond.arrayOver (.object C)).before #[Value.ref b] s = true) : ∃ cA : ClassId, ArrOfT s cA (.object C) ∧ va_RA s cA (.object C) := by
  obtain ⟨comp, c, k, h1, -, h3, h4, h5⟩ := Cond.arrayOver_spec h
  exact ⟨c, fun n z => ⟨(fun k h => by cases h), k, h3, comp, h4⟩, k, comp, h3, h4, h1, h5⟩
theorem a_pick (s : State) (b : Nat) (hts : ∀ q ∈ GT, q.before #[Value.ref b] s = true) (htb : ∀ q ∈ lw_tbl, q.before #[Value.ref b] s = true) : ∀ k : Nat, ∃ cA : ClassId, ∀ ty : FieldType, tyT[k]? = some ty → ArrOfT s cA ty ∧ va_RA s cA ty
  | 0 => by
    obtain ⟨cA, h⟩ := a_prim (ty := .int) (hts _ aw_i) (fun _ h => h)
    exact ⟨cA, fun ty e => by cases e; exact h⟩
  | 1 => by
    obtain ⟨cA, h⟩ := a_prim (ty := .byte) (hts _ aw_b) (fun _ h => h)
    exact ⟨cA, fun ty e => by cases e; exact h⟩
  | 2 => by
    obtain ⟨cA, h⟩ := a_prim (ty := .boolean) (hts _ aw_z) (fun _ h => h)
    exact ⟨cA, fun ty e => by cases e; exact h⟩
  | 3 => by
    obtain ⟨cA, h⟩ := a_prim (ty := .long) (hts _ aw_l) (fun _ h => h)
    exact ⟨cA, fun ty e => by cases e; exact h⟩
  | 4 => by
    obtain ⟨cA, h⟩ := a_obj (C := RX8) (htb _ (LT_c2 (i := 51) rfl))
    exact ⟨cA, fun ty e => by cases e; exact h⟩
  | 5 => by
    obtain ⟨cA, h⟩ := a_obj (C := RX10) (htb _ (LT_c2 (i := 121) rfl))
    exact ⟨cA, fun ty e => by cases e; exact h⟩
  | 6 => by
    obtain ⟨cA, h⟩ := a_obj (C := RX2) (htb _ (LT_c2 (i := 143) rfl))
    exact ⟨cA, fun ty e => by cases e; exact h⟩
  | k + 7 => by
    obtain ⟨cA, h⟩ := a_prim (ty := .int) (hts _ aw_i) (fun _ h => h)
    exact ⟨cA, fun ty e => by
      have : tyT[k + 7]? = none := by
        rw [List.getElem?_eq_none_iff]
        show 7 ≤ k + 7
        omega
      rw [this] at e
      cases e⟩
set_option maxRecDepth 100000 in
set_option maxHeartbeats 4000000 in
theorem start_KS {s : State} {b : Nat} (htb : ∀ q ∈ lw_tbl, q.before #[Value.ref b] s = true) (hg : (Jvm.Cond.and given_1 narrow_1).before #[Value.ref b] s = true) : ∃ w : WP, wb w = s.heap.size ∧ KS w s := by
  have hts : ∀ q ∈ GT, q.before #[Value.ref b] s = true := fun q hq => htb q (List.mem_filter.mp hq).1
  have hf := flat_of_before _ hg
  have hm : ∀ (i : Nat) (w : Cond), FC[i]? = some w → w.before #[Value.ref b] s = true := fun i w h => hf w (List.mem_of_getElem? h)
  obtain ⟨f, hfu⟩ := Classical.axiomOfChoice (u_pick s b hts)
  obtain ⟨tA, htA⟩ := Classical.axiomOfChoice (a_pick s b hts htb)
  have hA : ∀ a : Nat, a < s.heap.size → ¬ (fun q => s.heap.size ≤ q) a := fun a h q => by
    have q : s.heap.size ≤ a := q
    omega
  obtain ⟨adK, adV, hS, hE⟩ := vk_Sof (args := #[Value.ref b]) (s := s) (N := 3) (tm := tmS) (len := lenS) (byt := bytS) (A := fun q => s.heap.size ≤ q)
    (fun i hi => by
      have z : ∀ i, i < 3 → lenS.getD i 0 < 2 ^ 31 := by decide
      exact z i hi)
    (fun i hi => hm _ _ (fc_ex i hi)) (fun i hi => hm _ _ (fc_co i hi)) (fun i hi => hm _ _ (fc_ar i hi)) (fun i hi => hm _ _ (fc_le i hi))
    (fun i hi j hj => by
      match i, hi with
      | 0, _ => exact hm _ _ (fc_el0 j hj)
      | 1, _ => exact hm _ _ (fc_el1 j hj)
      | 2, _ => exact hm _ _ (fc_el2 j hj))
    (fun i j hi hj hne => by
      have n01 : (Cond.not (Cond.eq (tmS 0) (tmS 1))).before #[Value.ref b] s = true := hm 180 _ rfl
      have n02 : (Cond.not (Cond.eq (tmS 0) (tmS 2))).before #[Value.ref b] s = true := hm 298 _ rfl
      have n12 : (Cond.not (Cond.eq (tmS 1) (tmS 2))).before #[Value.ref b] s = true := hm 299 _ rfl
      have hc : (i = 0 ∧ j = 1) ∨ (i = 1 ∧ j = 0) ∨ (i = 0 ∧ j = 2) ∨ (i = 2 ∧ j = 0) ∨ (i = 1 ∧ j = 2) ∨ (i = 2 ∧ j = 1) := by omega
      rcases hc with ⟨e1, e2⟩ | ⟨e1, e2⟩ | ⟨e1, e2⟩ | ⟨e1, e2⟩ | ⟨e1, e2⟩ | ⟨e1, e2⟩
      · rw [e1, e2]; exact Or.inl n01
      · rw [e1, e2]; exact Or.inr n01
      · rw [e1, e2]; exact Or.inl n02
      · rw [e1, e2]; exact Or.inr n02
      · rw [e1, e2]; exact Or.inl n12
      · rw [e1, e2]; exact Or.inr n12) hA
  have e112 : (Term.string "HallShellsModel" 112).eval #[Value.ref b] s none [] s = some (.ref (adK 1)) := by
    have hx : (Cond.exactly (Term.string "HallShellsModel" 112) "java/lang/String").before #[Value.ref b] s = true := hm 300 _ rfl
    obtain ⟨a, c, cA, kA, q1, -⟩ := Cond.exactly_spec (args := #[Value.ref b]) (first := s) (o := none) (s := s) (idx := []) (t := Term.string "HallShellsModel" 112) (cls := "java/lang/String") hx
    have hq : (Cond.eq (Term.string "HallShells$Tokens" 43) (Term.string "HallShellsModel" 112)).before #[Value.ref b] s = true := hm 317 _ rfl
    have : adK 1 = a := vw_eqR hq (hE 1 (by decide)) q1
    rw [this]; exact q1
  refine ⟨((fun c => (f c).1, fun c => (f c).2), tA, s.heap.size, adK, adV), rfl, ⟨fun c q hq => hfu c q hq, fun k q hq => ?_⟩, hS, ⟨vk_R.of (A := #[Value.ref b]) (htb _ (LT_c2 (i := 222) rfl)) (hE 0 (by decide)), vk_R.of (A := #[Value.ref b]) (htb _ (LT_c3 (i := 38) rfl)) (hE 1 (by decide)), vk_R.of (A := #[Value.ref b]) (htb _ (LT_c6 (i := 130) rfl)) (hE 2 (by decide)), vk_R.of (A := #[Value.ref b]) (htb _ (LT_c6 (i := 136) rfl)) e112⟩, ⟨va_Zof (args := #[Value.ref b]) (htb _ (LT_c2 (i := 232) rfl)) (htb _ (LT_c1 (i := 14) rfl)) (va_eqi (hm 4 _ rfl)) hA, va_Zqof (args := #[Value.ref b]) (htb _ (LT_c3 (i := 8) rfl)) (htb _ (LT_c1 (i := 16) rfl)) (hm 5 _ rfl) hA⟩, ?_, ⟨va_AO.of (A := #[Value.ref b]) (htb _ (LT_c2 (i := 51) rfl)), va_AO.of (A := #[Value.ref b]) (htb _ (LT_c2 (i := 121) rfl)), va_AO.of (A := #[Value.ref b]) (htb _ (LT_c2 (i := 143) rfl))⟩, Nat.le_refl _⟩
  · match k, hq with
    | 0, hq => cases hq; exact htA 0 _ rfl
    | 1, hq => cases hq; exact htA 1 _ rfl
    | 2, hq => cases hq; exact htA 2 _ rfl
    | 3, hq => cases hq; exact htA 3 _ rfl
    | 4, hq => cases hq; exact htA 4 _ rfl
    | 5, hq => cases hq; exact htA 5 _ rfl
    | 6, hq => cases hq; exact htA 6 _ rfl
    | k + 7, hq => exact absurd hq (by
        have : (tyl tA)[k + 7]? = none := by
          rw [List.getElem?_eq_none_iff]
          show 7 ≤ k + 7
          omega
        rw [this]
        intro z
        cases z)
  · unfold nestL
    exact List.forall_mem_cons.mpr ⟨va_Nw.of (A := #[Value.ref b]) rfl (htb _ (LT_c1 (i := 33) rfl)), List.forall_mem_cons.mpr ⟨va_Nw.of (A := #[Value.ref b]) rfl (htb _ (LT_c1 (i := 162) rfl)), List.forall_mem_cons.mpr ⟨va_Nw.of (A := #[Value.ref b]) rfl (htb _ (LT_c1 (i := 238) rfl)), List.forall_mem_cons.mpr ⟨va_Nw.of (A := #[Value.ref b]) rfl (htb _ (LT_c2 (i := 98) rfl)), List.forall_mem_cons.mpr ⟨va_Nw.of (A := #[Value.ref b]) rfl (htb _ (LT_c2 (i := 123) rfl)), List.forall_mem_cons.mpr ⟨va_Nw.of (A := #[Value.ref b]) rfl (htb _ (LT_c5 (i := 218) rfl)), List.forall_mem_cons.mpr ⟨va_Nw.of (A := #[Value.ref b]) rfl (htb _ (LT_c2 (i := 52) rfl)), List.forall_mem_cons.mpr ⟨va_Nw.of (A := #[Value.ref b]) rfl (htb _ (LT_c5 (i := 223) rfl)), List.forall_mem_cons.mpr ⟨va_Nw.of (A := #[Value.ref b]) rfl (htb _ (LT_c5 (i := 225) rfl)), List.forall_mem_cons.mpr ⟨va_Nw.of (A := #[Value.ref b]) rfl (htb _ (LT_c1 (i := 167) rfl)), List.forall_mem_cons.mpr ⟨va_Nw.of (A := #[Value.ref b]) rfl (htb _ (LT_c1 (i := 170) rfl)), List.forall_mem_cons.mpr ⟨va_Nw.of (A := #[Value.ref b]) rfl (htb _ (LT_c1 (i := 39) rfl)), fun _ h => by cases h⟩⟩⟩⟩⟩⟩⟩⟩⟩⟩⟩⟩
