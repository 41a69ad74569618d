/-- a loop that may end early -/
theorem lp_brk {τ ρ σ : Type} {step : τ → Option (τ ⊕ ρ)} (K : Nat) (mk : Nat → σ → τ) (I : Nat → σ → Prop) (E : ρ → Prop) (hs : ∀ i s, i < K → I i s → (∃ r, step (mk i s) = some (.inr r) ∧ E r) ∨ (∃ s', step (mk i s) = some (.inl (mk (i + 1) s')) ∧ I (i + 1) s')) (he : ∀ s, I K s → ∃ r, step (mk K s) = some (.inr r) ∧ E r) {n : Nat} (hn : K < n) (s : σ) (h0 : I 0 s) : ∃ r, lp n step (mk 0 s) = some r ∧ E r := by
  refine lp_rel (step := step) (fun k t => ∃ i s, i + k = K ∧ t = mk i s ∧ I i s) E ?_ n K (mk 0 s) ⟨0, s, by omega, rfl, h0⟩ hn
  rintro k t ⟨i, s, h1, rfl, h2⟩
  by_cases h : i < K
  · rcases hs i s h h2 with ⟨r, g1, g2⟩ | ⟨s', g1, g2⟩
    · exact Or.inl ⟨r, g1, g2⟩
    · exact Or.inr ⟨_, k - 1, g1, by omega, i + 1, s', by omega, rfl, g2⟩
  · have e : i = K := by omega
    subst e
    obtain ⟨r, g1, g2⟩ := he s h2
    exact Or.inl ⟨r, g1, g2⟩
theorem ite_le {α : Type} {x y : Int32} {A B : α} (h : x = y) : (if x ≤ y then A else B) = A := by subst h; exact if_pos (Int32.le_refl _)
theorem b_test2 {x y : Int32} {i j : Nat} (hi : i < 32) (hj : j < 32) : (shr x (nI i) &&& shr y (nI j)) &&& 1 = if (bt x i && bt y j) = true then 1 else 0 := by
  have e : (shr x (nI i) &&& shr y (nI j)) &&& 1 = (shr x (nI i) &&& 1) &&& (shr y (nI j) &&& 1) := b_ext fun q _ => by
    rw [b_and, b_and, b_and, b_and, b_and]
    cases bt 1 q <;> simp
  rw [e, b_test hi, b_test hj]
  cases bt x i <;> cases bt y j <;> rfl
theorem t01 (b : Bool) : ((if b = true then (1 : Int32) else 0) = 1) = (b = true) := by cases b <;> simp
theorem upto_end {w C : Nat} : ∀ w' c, c < C → upto w C w' c = upto (w + 1) 0 w' c := fun w' c hc => by
  unfold upto
  by_cases h1 : w' = w
  · subst h1; simp [hc]
  · have : w' < w + 1 ↔ w' < w := by omega
    simp [h1, this]
def PS (a : Nat) : Nat → Prop := fun x => a ≤ x ∧ x ≤ a + 6
set_option maxRecDepth 100000 in
set_option maxHeartbeats 4000000 in
theorem f_goOut1 {n a w : Nat} {op : Int32} {μ : Mu} {s : SD} {t : ST} (ha : 34 ≤ a) (hs : CS μ 2 s) (hv : SV s) (hV : TV s t) (ho : bs op (sC s) (openS s (tH t) (gl (tG t)))) (hw : w < tW t) (hn : 1000 < n) (ht : CB μ a s (pgS s no t (upto w 0))) : ∃ μ', lp n (sX8_goOut_25 n a 2 op (nI w) (op &&& ((rI μ (a + 3) w) ^^^ (-1)))) (0, μ) = some μ' ∧ CB μ' a s (pgS s no t (upto w (sC s))) ∧ Fr (PS a) μ μ' := by
  have hC := hv.2.1
  have hB := hv.1.2
  have hW := hV.2.1
  generalize hx4 : op &&& ((rI μ (a + 3) w) ^^^ (-1)) = x4
  have b4 : bs x4 (sC s) (fun c => openS s (tH t) (gl (tG t)) c && !tWe t w c) := by
    rw [← hx4]
    refine bs_congr (bs_andn ho (ht.2.2.2.2.2.1 w hw).2.1) fun i _ => ?_
    show (openS s (tH t) (gl (tG t)) i && !(tWe t w i || (upto w 0 w i && goesS s no t w i))) = _
    simp [upto]
  have key : ∃ r, lp n (sX8_goOut_25 n a 2 op (nI w) x4) (nI 0, μ) = some r ∧ (CB r a s (pgS s no t (upto w (sC s))) ∧ Fr (PS a) μ r) := by
    refine lp_brk (step := sX8_goOut_25 n a 2 op (nI w) x4) (sC s) (fun i m => (nI i, m)) (fun i m => CB m a s (pgS s no t (upto w i)) ∧ Fr (PS a) μ m) _ ?_ ?_ (n := n) (by omega) μ ⟨ht, Fr.rfl' _ μ⟩
    · rintro i m hi ⟨hT, hf⟩
      have hS := hs.fr hf (fun k hk q => by unfold PS at q; omega)
      have o0 : rI m 2 1 = nI (sC s) := hS.2.1
      obtain ⟨o1, o2, o3⟩ := hS.2.2.2.2.2.2.2.2.1 i hi
      have o1 : rI m 3 i = nI (s 1 i) := o1
      have o3 : rI m 5 i = nI (s 3 i) := o3
      obtain ⟨v1, v2, v3, v4⟩ := hv.2.2.2.2.1 i hi
      obtain ⟨d1, d2, d3, d4⟩ := hT.2.2.2.2.2.1 w hw
      have g1 : bt x4 i = (openS s (tH t) (gl (tG t)) i && !tWe t w i) := bs_at b4 hi (by omega)
      have g2 : bt (rI m (a + 2) w) (s 1 i) = tAt t w (s 1 i) := bs_at d1 v1 (by omega)
      have hgo : (bt x4 i && bt (rI m (a + 2) w) (s 1 i)) = goesS s no t w i := by
        rw [g1, g2]; unfold goesS no; simp [hi]
        cases tAt t w (s 1 i) <;> cases openS s (tH t) (gl (tG t)) i <;> cases tWe t w i <;> rfl
      simp (disch := first | omega | decide) only [sX8_goOut_25, gd_true, bnd_some, bnd2_some, ix_n, ib_n, add_l, add_r, mul_l, mul_r, nI_add, sub_r, nI_leI, nI_ltI, nI_eq, le_l, le_r, lt_l, lt_r, eq_l, eq_r, eq_m, if_true, if_false, not_false_eq_true, not_true_eq_false, o0, show ¬ sC s ≤ i by omega, o1, b_test2 (x := x4) (y := rI m (a + 2) w) (show i < 32 by omega) (show s 1 i < 32 by omega), t01, hgo, rI_ai (show a + 4 ≠ a + 3 by omega), rI_ai (show (5 : Nat) ≠ a + 4 by omega), rI_ai (show (5 : Nat) ≠ a + 3 by omega), o3]
      by_cases c0 : x4 = 0
      · rw [if_pos c0]
        refine Or.inl ⟨m, rfl, ?_, hf⟩
        have hno : ∀ c, c < sC s → goesS s no t w c = false := fun c hc => by
          have := (bs_nz b4 (by omega)).mp c0 c hc
          unfold goesS no
          simp only [Bool.and_eq_false_iff, Bool.not_eq_false'] at this
          rcases this with e | e <;> simp [e]
        refine hT.ext (by have := hv.2.2.1; omega) rfl (fun k _ => rfl) fun w' _ => ⟨fun _ _ => rfl, fun c hc => ?_, fun _ _ => rfl⟩
        by_cases e : w' = w
        · subst e
          show (tWe t w' c || (_ && goesS s no t w' c)) = (tWe t w' c || (_ && goesS s no t w' c)) ∧ (if (_ && goesS s no t w' c) = true then _ else _) = (if (_ && goesS s no t w' c) = true then _ else _)
          rw [hno c hc]; simp
        · have e2 : upto w (sC s) w' c = upto w i w' c := by unfold upto; simp [e]
          show (tWe t w' c || (upto w (sC s) w' c && goesS s no t w' c)) = (tWe t w' c || (upto w i w' c && goesS s no t w' c)) ∧ (if (upto w (sC s) w' c && goesS s no t w' c) = true then _ else _) = (if (upto w i w' c && goesS s no t w' c) = true then _ else _)
          rw [e2]; exact ⟨rfl, rfl⟩
      · rw [if_neg c0]
        refine Or.inr ?_
        by_cases cg : goesS s no t w i = true
        · rw [if_pos cg]
          refine ⟨_, rfl, (CB_out hT hv (k := s 3 i) hw hi (by omega)).ext (by have := hv.2.2.1; omega) rfl (fun k _ => rfl) fun w' _ => ⟨fun _ _ => rfl, fun c hc => ?_, fun _ _ => rfl⟩, ((hf.w ⟨by omega, by omega⟩ _ _).w ⟨by omega, by omega⟩ _ _).w ⟨by omega, by omega⟩ _ _⟩
          show (tWe t w' c || (upto w (i + 1) w' c && goesS s no t w' c)) = ((tWe t w' c || (upto w i w' c && goesS s no t w' c)) || (decide (w' = w) && decide (c = i))) ∧ (if (upto w (i + 1) w' c && goesS s no t w' c) = true then s 3 c else tLe t w' c) = (if w' = w ∧ c = i then s 3 i else if (upto w i w' c && goesS s no t w' c) = true then s 3 c else tLe t w' c)
          by_cases e : w' = w ∧ c = i
          · obtain ⟨rfl, rfl⟩ := e
            rw [upto_at1, cg]; simp
          · rw [upto_ne e, if_neg e]
            refine ⟨?_, rfl⟩
            have : (decide (w' = w) && decide (c = i)) = false := by
              cases h : (decide (w' = w) && decide (c = i))
              · rfl
              · simp at h; exact absurd h e
            rw [this, Bool.or_false]
        · rw [if_neg cg]
          refine ⟨m, rfl, hT.ext (by have := hv.2.2.1; omega) rfl (fun k _ => rfl) fun w' _ => ⟨fun _ _ => rfl, fun c hc => ?_, fun _ _ => rfl⟩, hf⟩
          show (tWe t w' c || (upto w (i + 1) w' c && goesS s no t w' c)) = (tWe t w' c || (upto w i w' c && goesS s no t w' c)) ∧ (if (upto w (i + 1) w' c && goesS s no t w' c) = true then s 3 c else tLe t w' c) = (if (upto w i w' c && goesS s no t w' c) = true then s 3 c else tLe t w' c)
          by_cases e : w' = w ∧ c = i
          · obtain ⟨rfl, rfl⟩ := e
            rw [Bool.eq_false_iff.mpr cg]; simp
          · rw [upto_ne e]; exact ⟨rfl, rfl⟩
    · rintro m ⟨hT, hf⟩
      have hS := hs.fr hf (fun k hk q => by unfold PS at q; omega)
      have o0 : rI m 2 1 = nI (sC s) := hS.2.1
      exact ⟨m, ite_le o0, hT, hf⟩
  obtain ⟨r, h1, h2, h3⟩ := key
  exact ⟨r, h1, h2, h3⟩
theorem pg_end {s : SD} {t : ST} (w : Nat) : ∀ w' c, c < sC s → tWe (pgS s no t (upto w (sC s))) w' c = tWe (pgS s no t (upto (w + 1) 0)) w' c ∧ tLe (pgS s no t (upto w (sC s))) w' c = tLe (pgS s no t (upto (w + 1) 0)) w' c := fun w' c hc => by
  show (tWe t w' c || (upto w (sC s) w' c && goesS s no t w' c)) = (tWe t w' c || (upto (w + 1) 0 w' c && goesS s no t w' c)) ∧ (if (upto w (sC s) w' c && goesS s no t w' c) = true then s 3 c else tLe t w' c) = (if (upto (w + 1) 0 w' c && goesS s no t w' c) = true then s 3 c else tLe t w' c)
  rw [upto_end w' c hc]; exact ⟨rfl, rfl⟩
theorem f_goOut {n a : Nat} {op : Int32} {μ : Mu} {s : SD} {t : ST} (ha : 34 ≤ a) (hs : CS μ 2 s) (hv : SV s) (hV : TV s t) (ho : bs op (sC s) (openS s (tH t) (gl (tG t)))) (hn : 1000 < n) (ht : CB μ a s t) : ∃ μ', fX8_goOut n a 2 op μ = some μ' ∧ CB μ' a s (pgS s no t (upto (tW t) 0)) ∧ Fr (PS a) μ μ' := by
  have hP := hv.2.2.1
  have hW := hV.2.1
  have key : ∃ r, lp n (sX8_goOut_2 n a 2 op) (nI 0, μ) = some r ∧ (CB r a s (pgS s no t (upto (tW t) 0)) ∧ Fr (PS a) μ r) := by
    refine lp_inv (step := sX8_goOut_2 n a 2 op) (tW t) (fun i m => (nI i, m)) (fun i m => CB m a s (pgS s no t (upto i 0)) ∧ Fr (PS a) μ m) _ ?_ ?_ (n := n) (by omega) μ ⟨ht.ext hP rfl (fun _ _ => rfl) (fun w' _ => ⟨fun _ _ => rfl, fun c _ => ⟨by show (tWe t w' c || (upto 0 0 w' c && _)) = _; simp [upto], by show (if (upto 0 0 w' c && _) = true then _ else _) = _; simp [upto]⟩, fun _ _ => rfl⟩), Fr.rfl' _ μ⟩
    · rintro i m hi ⟨hT, hf⟩
      have hS := hs.fr hf (fun k hk q => by unfold PS at q; omega)
      have a3 : rI m a 3 = nI (tW t) := hT.2.2.2.1
      obtain ⟨m', h1, h2, h3⟩ := f_goOut1 (n := n) ha hS hv hV ho hi hn hT
      simp (disch := first | omega | decide) only [sX8_goOut_2, gd_true, bnd_some, bnd2_some, ix_n, ib_n, add_l, add_r, mul_l, mul_r, nI_add, sub_r, nI_leI, nI_ltI, nI_eq, le_l, le_r, lt_l, lt_r, eq_l, eq_r, eq_m, if_true, if_false, not_false_eq_true, not_true_eq_false, a3, show ¬ tW t ≤ i by omega, h1]
      exact ⟨m', rfl, h2.ext hP rfl (fun _ _ => rfl) (fun w' _ => ⟨fun _ _ => rfl, fun c hc => ⟨(pg_end i w' c hc).1.symm, (pg_end i w' c hc).2.symm⟩, fun _ _ => rfl⟩), hf.tr h3⟩
    · rintro m ⟨hT, hf⟩
      have a3 : rI m a 3 = nI (tW t) := hT.2.2.2.1
      exact ⟨m, ite_le a3, hT, hf⟩
  obtain ⟨r, h1, h2, h3⟩ := key
  refine ⟨r, ?_, h2, h3⟩
  unfold fX8_goOut
  have h1 : lp n (sX8_goOut_2 n a 2 op) (0, μ) = some r := h1
  rw [h1, bnd_some]
theorem pc_at {s : SD} {u : ST} {w i : Nat} (hi : i < sC s) (w' b : Nat) : tAt (pcS s u (upto w (i + 1))) w' b = (tAt (pcS s u (upto w i)) w' b || (decide (w' = w) && (decide (tLe u w i = 1) && decide (s 2 i = b)))) := by
  show (_ || _) = ((_ || _) || _)
  rw [Bool.or_assoc]
  congr 1
  by_cases e : w' = w
  · subst e
    rw [any_1 (k := i) hi (fun c => upto w' i w' c && (decide (tLe u w' c = 1) && decide (s 2 c = b))) (fun c _ hc => by rw [upto_ne (fun q => hc q.2)]) (by simp [upto_at]), upto_at1]
    simp
  · have : (fun c => upto w (i + 1) w' c && (decide (tLe u w' c = 1) && decide (s 2 c = b))) = fun c => upto w i w' c && (decide (tLe u w' c = 1) && decide (s 2 c = b)) := by
      funext c; rw [upto_ne (fun q => e q.1)]
    rw [this]
    simp [e]
theorem pc_le {s : SD} {u : ST} {w i : Nat} (w' c : Nat) : tLe (pcS s u (upto w (i + 1))) w' c = if w' = w ∧ c = i then tLe u w i - 1 else tLe (pcS s u (upto w i)) w' c := by
  show (if _ then _ else _) = _
  by_cases e : w' = w ∧ c = i
  · obtain ⟨rfl, rfl⟩ := e
    rw [upto_at1]; simp
  · rw [upto_ne e, if_neg e]; rfl
set_option maxHeartbeats 4000000 in
theorem f_comeIn1 {n a w : Nat} {μ : Mu} {s : SD} {u : ST} (ha : 34 ≤ a) (hs : CS μ 2 s) (hv : SV s) (hV : TV s u) (hw : w < tW u) (hn : 1000 < n) (ht : CB μ a s (pcS s u (upto w 0))) : ∃ μ', lp n (sX8_comeIn_12 n a 2 (nI w)) (0, μ) = some μ' ∧ CB μ' a s (pcS s u (upto w (sC s))) ∧ Fr (PS a) μ μ' := by
  have hC := hv.2.1
  have hB := hv.1.2
  have hP := hv.2.2.1
  have hW := hV.2.1
  have key : ∃ r, lp n (sX8_comeIn_12 n a 2 (nI w)) (nI 0, μ) = some r ∧ (CB r a s (pcS s u (upto w (sC s))) ∧ Fr (PS a) μ r) := by
    refine lp_brk (step := sX8_comeIn_12 n a 2 (nI w)) (sC s) (fun i m => (nI i, m)) (fun i m => CB m a s (pcS s u (upto w i)) ∧ Fr (PS a) μ m) _ ?_ ?_ (n := n) (by omega) μ ⟨ht, Fr.rfl' _ μ⟩
    · rintro i m hi ⟨hT, hf⟩
      have hS := hs.fr hf (fun k hk q => by unfold PS at q; omega)
      have o0 : rI m 2 1 = nI (sC s) := hS.2.1
      obtain ⟨o1, o2, o3⟩ := hS.2.2.2.2.2.2.2.2.1 i hi
      have o2 : rI m 4 i = nI (s 2 i) := o2
      obtain ⟨v1, v2, v3, v4⟩ := hv.2.2.2.2.1 i hi
      obtain ⟨d1, d2, d3, d4⟩ := hT.2.2.2.2.2.1 w hw
      have hle9 := hV.2.2.2 w i hw hi
      have hl : tLe (pcS s u (upto w i)) w i = tLe u w i := by
        show (if upto w i w i = true then _ else _) = _
        rw [upto_at]; rfl
      have hu : bt (rI m (a + 4) w) i = decide (tLe u w i ≠ 0) := by rw [← hl]; exact bs_at d3 hi (by omega)
      simp (disch := first | omega | decide) only [sX8_comeIn_12, gd_true, bnd_some, bnd2_some, ix_n, ib_n, add_l, add_r, mul_l, mul_r, nI_add, sub_r, nI_leI, nI_ltI, nI_eq, le_l, le_r, lt_l, lt_r, eq_l, eq_r, eq_m, if_true, if_false, not_false_eq_true, not_true_eq_false, o0, show ¬ sC s ≤ i by omega, b_test, t01, hu, decide_eq_true_eq]
      by_cases c0 : rI m (a + 4) w = 0
      · rw [if_pos c0]
        refine Or.inl ⟨m, rfl, ?_, hf⟩
        have hz := (bs_nz d3 (by omega)).mp c0
        have hz2 : ∀ c, c < sC s → tLe u w c = 0 ∨ (c < i ∧ tLe u w c = 1) := fun c hc => by
          have h2 : tLe (pcS s u (upto w i)) w c = 0 := by have := hz c hc; simp at this; exact this
          have h3 : (if upto w i w c = true then tLe u w c - 1 else tLe u w c) = 0 := h2
          unfold upto at h3
          simp at h3
          split at h3 <;> omega
        refine hT.ext hP rfl (fun k _ => rfl) fun w' _ => ⟨fun b _ => ?_, fun c hc => ⟨rfl, ?_⟩, fun _ _ => rfl⟩
        · show (_ || _) = (_ || _)
          congr 1
          refine anyB_congr fun c hc => ?_
          by_cases e : w' = w
          · subst e
            rcases hz2 c hc with h | ⟨h, h'⟩
            · simp [h]
            · simp [upto, h, hc]
          · simp [upto, e]
        · show (if _ then _ else _) = (if _ then _ else _)
          by_cases e : w' = w
          · subst e
            rcases hz2 c hc with h | ⟨h, h'⟩
            · simp [h]
            · simp [upto, h, hc]
          · simp [upto, e]
      · rw [if_neg c0]
        refine Or.inr ?_
        by_cases g0 : tLe u w i = 0
        · rw [if_neg (by simp [g0])]
          refine ⟨m, rfl, hT.ext hP rfl (fun k _ => rfl) fun w' _ => ⟨fun b _ => ?_, fun c hc => ⟨rfl, ?_⟩, fun _ _ => rfl⟩, hf⟩
          · rw [pc_at hi, g0]; simp
          · rw [pc_le]
            split
            · next h => obtain ⟨rfl, rfl⟩ := h; rw [hl, g0]
            · rfl
        · rw [if_pos g0]
          have le : rI m (a + 5) (w * 10 + i) = nI (tLe u w i) := by rw [← hl]; exact d4 i hi (by rw [hl]; exact g0)
          simp (disch := first | omega | decide) only [rI_same, gd_true, bnd_some, bnd2_some, ix_n, ib_n, add_l, add_r, mul_l, mul_r, nI_add, sub_r, nI_leI, nI_ltI, nI_eq, le_l, le_r, lt_l, lt_r, eq_l, eq_r, eq_m, if_true, if_false, not_false_eq_true, not_true_eq_false, le, rI_ai (show a + 4 ≠ a + 5 by omega), rI_ai (show a + 2 ≠ a + 5 by omega), rI_ai (show a + 2 ≠ a + 4 by omega), rI_ai (show (4 : Nat) ≠ a + 4 by omega), rI_ai (show (4 : Nat) ≠ a + 5 by omega), o2]
          by_cases g1 : tLe u w i - 1 = 0
          · rw [if_pos g1]
            have g2 : tLe u w i = 1 := by omega
            refine ⟨_, rfl, (CB_in hT hv (b := s 2 i) hw hi v2 (by rw [hl]; exact g0) _).ext hP rfl (fun k _ => rfl) fun w' _ => ⟨fun b _ => ?_, fun c hc => ⟨rfl, ?_⟩, fun _ _ => rfl⟩, ((hf.w ⟨by omega, by omega⟩ _ _).w ⟨by omega, by omega⟩ _ _).w ⟨by omega, by omega⟩ _ _⟩
            · rw [pc_at hi, g2]
              show (_ || _) = (_ || _)
              congr 2
              simp [eq_comm]
            · rw [pc_le, g1]
          · rw [if_neg g1]
            refine ⟨_, rfl, (CB_less hT hv (k := tLe u w i - 1) hw hi g1 (by rw [hl]; exact g0)).ext hP rfl (fun k _ => rfl) fun w' _ => ⟨fun b _ => ?_, fun c hc => ⟨rfl, ?_⟩, fun _ _ => rfl⟩, hf.w ⟨by omega, by omega⟩ _ _⟩
            · rw [pc_at hi]
              have : ¬ tLe u w i = 1 := by omega
              simp [this]
            · rw [pc_le]
    · rintro m ⟨hT, hf⟩
      have hS := hs.fr hf (fun k hk q => by unfold PS at q; omega)
      have o0 : rI m 2 1 = nI (sC s) := hS.2.1
      exact ⟨m, ite_le o0, hT, hf⟩
  obtain ⟨r, h1, h2, h3⟩ := key
  exact ⟨r, h1, h2, h3⟩
theorem f_comeIn {n a : Nat} {μ : Mu} {s : SD} {u : ST} (ha : 34 ≤ a) (hs : CS μ 2 s) (hv : SV s) (hV : TV s u) (hn : 1000 < n) (ht : CB μ a s u) : ∃ μ', fX8_comeIn n a 2 μ = some μ' ∧ CB μ' a s (pcS s u (upto (tW u) 0)) ∧ Fr (PS a) μ μ' := by
  have hP := hv.2.2.1
  have hW := hV.2.1
  have pc_end : ∀ w w' , (∀ b, tAt (pcS s u (upto (w + 1) 0)) w' b = tAt (pcS s u (upto w (sC s))) w' b) ∧ ∀ c, c < sC s → tLe (pcS s u (upto (w + 1) 0)) w' c = tLe (pcS s u (upto w (sC s))) w' c := fun w w' => ⟨fun b => by
    show (_ || _) = (_ || _)
    congr 1
    exact anyB_congr fun c hc => by rw [upto_end w' c hc], fun c hc => by
    show (if _ then _ else _) = (if _ then _ else _)
    rw [upto_end w' c hc]⟩
  have key : ∃ r, lp n (sX8_comeIn_2 n a 2) (nI 0, μ) = some r ∧ (CB r a s (pcS s u (upto (tW u) 0)) ∧ Fr (PS a) μ r) := by
    refine lp_inv (step := sX8_comeIn_2 n a 2) (tW u) (fun i m => (nI i, m)) (fun i m => CB m a s (pcS s u (upto i 0)) ∧ Fr (PS a) μ m) _ ?_ ?_ (n := n) (by omega) μ ⟨ht.ext hP rfl (fun _ _ => rfl) (fun w' _ => ⟨fun b _ => by
      show (_ || anyB _ _) = _
      have : anyB (fun c => upto 0 0 w' c && (decide (tLe u w' c = 1) && decide (s 2 c = b))) (sC s) = false := by
        rw [Bool.eq_false_iff]; intro h; obtain ⟨c, _, h⟩ := anyB_iff.mp h; simp [upto] at h
      rw [this, Bool.or_false], fun c _ => ⟨rfl, by show (if upto 0 0 w' c = true then _ else _) = _; simp [upto]⟩, fun _ _ => rfl⟩), Fr.rfl' _ μ⟩
    · rintro i m hi ⟨hT, hf⟩
      have hS := hs.fr hf (fun k hk q => by unfold PS at q; omega)
      have a3 : rI m a 3 = nI (tW u) := hT.2.2.2.1
      obtain ⟨m', h1, h2, h3⟩ := f_comeIn1 (n := n) ha hS hv hV hi hn hT
      simp (disch := first | omega | decide) only [sX8_comeIn_2, gd_true, bnd_some, bnd2_some, ix_n, ib_n, add_l, add_r, mul_l, mul_r, nI_add, sub_r, nI_leI, nI_ltI, nI_eq, le_l, le_r, lt_l, lt_r, eq_l, eq_r, eq_m, if_true, if_false, not_false_eq_true, not_true_eq_false, a3, show ¬ tW u ≤ i by omega, h1]
      exact ⟨m', rfl, h2.ext hP rfl (fun _ _ => rfl) (fun w' _ => ⟨fun b _ => (pc_end i w').1 b, fun c hc => ⟨rfl, (pc_end i w').2 c hc⟩, fun _ _ => rfl⟩), hf.tr h3⟩
    · rintro m ⟨hT, hf⟩
      have a3 : rI m a 3 = nI (tW u) := hT.2.2.2.1
      exact ⟨m, ite_le a3, hT, hf⟩
  obtain ⟨r, h1, h2, h3⟩ := key
  refine ⟨r, ?_, h2, h3⟩
  unfold fX8_comeIn
  have h1 : lp n (sX8_comeIn_2 n a 2) (0, μ) = some r := h1
  rw [h1, bnd_some]
