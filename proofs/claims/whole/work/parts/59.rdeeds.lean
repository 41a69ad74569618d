/-! the reference's deeds -/
def Fg (P : Nat → Nat → Prop) (μ μ' : Mu) : Prop := (∀ a i, ¬ P a i → rI μ' a i = rI μ a i) ∧ ∀ a i, a ≠ 140 → (∀ j, ¬ P a j) → rL μ' a i = rL μ a i
theorem Fg.rfl' (P : Nat → Nat → Prop) (μ : Mu) : Fg P μ μ := ⟨fun _ _ _ => rfl, fun _ _ _ _ => rfl⟩
theorem Fg.tr {P : Nat → Nat → Prop} {a b c : Mu} (h : Fg P a b) (h2 : Fg P b c) : Fg P a c := ⟨fun x i hx => by rw [h2.1 x i hx, h.1 x i hx], fun x i h0 hx => by rw [h2.2 x i h0 hx, h.2 x i h0 hx]⟩
theorem Fg.mono {P Q : Nat → Nat → Prop} {a b : Mu} (h : Fg P a b) (hq : ∀ x i, P x i → Q x i) : Fg Q a b := ⟨fun x i hx => h.1 x i (fun q => hx (hq x i q)), fun x i h0 hx => h.2 x i h0 fun j q => hx j (hq x j q)⟩
theorem Fg.w {P : Nat → Nat → Prop} {a b : Mu} (h : Fg P a b) {x j : Nat} (hx : P x j) (v : Int32) : Fg P a (wI b x j v) := ⟨fun y i hy => by
  rw [rw_I, if_neg (fun e => hy (by rw [e.1, e.2]; exact hx))]; exact h.1 y i hy, fun y i h0 hy => h.2 y i h0 hy⟩
theorem Fg.i {P : Nat → Nat → Prop} {a b : Mu} (h : Fg P a b) {x i : Nat} (hx : ¬ P x i) : rI b x i = rI a x i := h.1 x i hx
/-- what an hour, a deed of the reference may change -/
def PR : Nat → Nat → Prop := fun a i => (a = 140 ∧ 64 ≤ i ∧ i < 180) ∨ a = 144 ∨ a = 145
theorem Sb.fg {μ μ' : Mu} (h : Sb μ μ') : Fg PR μ μ' := by
  refine ⟨fun a i hi => ?_, fun a i h0 hi => ?_⟩
  · unfold PR at hi
    by_cases e : a = 140
    · subst e; exact h.2 i (by omega)
    · exact (h.1 a e (by omega) (by omega)).1 i
  · have h64 := hi 64
    unfold PR at h64
    exact (h.1 a (by omega) (by omega) (by omega)).2 i
theorem RS.fg {P : Nat → Nat → Prop} {μ μ' : Mu} {s : SD} (h : RS μ s) (hv : SV s) (e : Fg P μ μ') (hp : ∀ i, i < 64 ∨ 1341 ≤ i ∧ i < 2242 → ¬ P 140 i) : RS μ' s := h.congr hv (fun i hi => e.1 140 i (hp i hi))
theorem RT.fg {P : Nat → Nat → Prop} {μ μ' : Mu} {s : SD} {t : ST} (h : RT μ s t) (hv : SV s) (hV : TV s t) (e : Fg P μ μ') (hp : ∀ i, 64 ≤ i → i < 180 → ¬ P 140 i) : RT μ' s t := RB.congr h hV hv (fun j hj => e.1 140 _ (hp _ (by omega) (by omega)))
theorem f_keeps {n : Nat} (μ : Mu) (hn : 1000 < n) : ∃ μ', fX12_keeps n μ = some μ' ∧ (∀ k, k < 116 → rI μ' 146 k = rI μ 140 (64 + k)) ∧ Fg (fun a _ => a = 146) μ μ' := by
  have key : Rn (lp n (sX12_keeps_2 n) (0, μ)) (fun m => (∀ k, k < 116 → rI m 146 k = rI μ 140 (64 + k)) ∧ Fg (fun a _ => a = 146) μ m) := by
    refine Rn.l 116 (fun i q => q.1 = nI i ∧ (∀ k, k < i → rI q.2 146 k = rI μ 140 (64 + k)) ∧ Fg (fun a _ => a = 146) μ q.2) _ (by omega) ⟨rfl, fun k hk => absurd hk (Nat.not_lt_zero _), Fg.rfl' _ _⟩ ?_ ?_
    · rintro i ⟨x, m⟩ hi ⟨e1, e2, e3⟩
      have e1 : x = nI i := e1
      subst e1
      have e2 : ∀ k, k < i → rI m 146 k = rI μ 140 (64 + k) := e2
      have e3 : Fg (fun a _ => a = 146) μ m := e3
      simp (disch := first | omega | decide) only [sX12_keeps_2, gd_true, bnd_some, bnd2_some, ix_n, ib_n, add_l, add_r, mul_l, mul_r, nI_add, sub_r, nI_leI, nI_ltI, nI_eq, le_l, le_r, lt_l, lt_r, eq_l, eq_r, eq_m, if_true, if_false, not_false_eq_true, not_true_eq_false, show ¬ 116 ≤ i by omega]
      refine Rn.so ⟨rfl, fun k hk => ?_, e3.w (by rfl) _⟩
      show rI (wI m 146 i (rI m 140 (64 + i))) 146 k = _
      by_cases e : k = i
      · rw [e, rI_same]; exact e3.i (by decide)
      · rw [rI_ii e]; exact e2 k (by omega)
    · rintro ⟨x, m⟩ ⟨e1, e2, e3⟩
      have e1 : x = nI 116 := e1
      subst e1
      exact Rn.e rfl ⟨e2, e3⟩
  obtain ⟨m, h1, h2, h3⟩ := key
  exact ⟨m, by unfold fX12_keeps; rw [h1, bnd_some], h2, h3⟩
theorem f_isAgain {n : Nat} (μ : Mu) (hn : 1000 < n) : ∃ μ', fX12_isAgain n μ = some μ' ∧ (∀ k, k < 116 → rI μ' 140 (64 + k) = rI μ 146 k) ∧ Fg (fun a i => a = 140 ∧ 64 ≤ i ∧ i < 180) μ μ' := by
  have key : Rn (lp n (sX12_isAgain_2 n) (0, μ)) (fun m => (∀ k, k < 116 → rI m 140 (64 + k) = rI μ 146 k) ∧ Fg (fun a i => a = 140 ∧ 64 ≤ i ∧ i < 180) μ m) := by
    refine Rn.l 116 (fun i q => q.1 = nI i ∧ (∀ k, k < i → rI q.2 140 (64 + k) = rI μ 146 k) ∧ Fg (fun a i => a = 140 ∧ 64 ≤ i ∧ i < 180) μ q.2) _ (by omega) ⟨rfl, fun k hk => absurd hk (Nat.not_lt_zero _), Fg.rfl' _ _⟩ ?_ ?_
    · rintro i ⟨x, m⟩ hi ⟨e1, e2, e3⟩
      have e1 : x = nI i := e1
      subst e1
      have e2 : ∀ k, k < i → rI m 140 (64 + k) = rI μ 146 k := e2
      have e3 : Fg (fun a i => a = 140 ∧ 64 ≤ i ∧ i < 180) μ m := e3
      simp (disch := first | omega | decide) only [sX12_isAgain_2, gd_true, bnd_some, bnd2_some, ix_n, ib_n, add_l, add_r, mul_l, mul_r, nI_add, sub_r, nI_leI, nI_ltI, nI_eq, le_l, le_r, lt_l, lt_r, eq_l, eq_r, eq_m, if_true, if_false, not_false_eq_true, not_true_eq_false, show ¬ 116 ≤ i by omega]
      refine Rn.so ⟨rfl, fun k hk => ?_, e3.w (show 140 = 140 ∧ 64 ≤ 64 + i ∧ 64 + i < 180 from ⟨rfl, by omega, by omega⟩) _⟩
      show rI (wI m 140 (64 + i) (rI m 146 i)) 140 (64 + k) = _
      by_cases e : k = i
      · rw [e, rI_same]; exact e3.i (by omega)
      · rw [rI_ii (by omega)]; exact e2 k (by omega)
    · rintro ⟨x, m⟩ ⟨e1, e2, e3⟩
      have e1 : x = nI 116 := e1
      subst e1
      exact Rn.e rfl ⟨e2, e3⟩
  obtain ⟨m, h1, h2, h3⟩ := key
  exact ⟨m, by unfold fX12_isAgain; rw [h1, bnd_some], h2, h3⟩
/-! what can be undone: the first m of h, the latest last -/
def RH (μ : Mu) (s : SD) (m : Nat) (h : Nat → ST) : Prop := rI μ 140 180 = nI m ∧ m ≤ 10 ∧ ∀ j, j < m → RB s (h j) (fun k => rI μ 140 (181 + 116 * j + k))
def pushM (m : Nat) : Nat := if m < 10 then m + 1 else 10
def pushH (m : Nat) (h : Nat → ST) (t : ST) : Nat → ST := fun j => if m < 10 then (if j = m then t else h j) else (if j = 9 then t else h (j + 1))
theorem RB.eq {s : SD} {t : ST} {g g' : Nat → Int32} (h : RB s t g) (ht : TV s t) (hs : SV s) (e : ∀ j, j < 116 → g' j = g j) : RB s t g' := RB.congr h ht hs e
theorem f_notes60 {n m : Nat} {μ : Mu} {s : SD} {t : ST} {h : Nat → ST} (hv : SV s) (hT : TV s t) (hV : ∀ j, j < m → TV s (h j)) (hm : m < 10) (hH : RH μ s m h) (hw : RB s t (fun k => rI μ 146 k)) (hn : 2000 < n) : ∃ μ', jX12_notes_60 n μ = some μ' ∧ RH μ' s (m + 1) (fun j => if j = m then t else h j) ∧ Fg (fun a i => a = 140 ∧ 180 ≤ i ∧ i < 1341) μ μ' := by
  obtain ⟨a0, -, a1⟩ := hH
  have key : Rn (lp n (sX12_notes_62 n) (0, μ)) (fun q => (∀ k, k < 116 → rI q 140 (181 + 116 * m + k) = rI μ 146 k) ∧ Fg (fun a i => a = 140 ∧ 181 + 116 * m ≤ i ∧ i < 181 + 116 * m + 116) μ q) := by
    refine Rn.l 116 (fun i q => q.1 = nI i ∧ (∀ k, k < i → rI q.2 140 (181 + 116 * m + k) = rI μ 146 k) ∧ Fg (fun a i => a = 140 ∧ 181 + 116 * m ≤ i ∧ i < 181 + 116 * m + 116) μ q.2) _ (by omega) ⟨rfl, fun k hk => absurd hk (Nat.not_lt_zero _), Fg.rfl' _ _⟩ ?_ ?_
    · rintro i ⟨x, q⟩ hi ⟨e1, e2, e3⟩
      have e1 : x = nI i := e1
      subst e1
      have e2 : ∀ k, k < i → rI q 140 (181 + 116 * m + k) = rI μ 146 k := e2
      have e3 : Fg (fun a i => a = 140 ∧ 181 + 116 * m ≤ i ∧ i < 181 + 116 * m + 116) μ q := e3
      have b0 : rI q 140 180 = nI m := by rw [e3.i (by omega)]; exact a0
      simp (disch := first | omega | decide) only [sX12_notes_62, gd_true, bnd_some, bnd2_some, ix_n, ib_n, add_l, add_r, mul_l, mul_r, nI_add, sub_r, nI_leI, nI_ltI, nI_eq, le_l, le_r, lt_l, lt_r, eq_l, eq_r, eq_m, if_true, if_false, not_false_eq_true, not_true_eq_false, show ¬ 116 ≤ i by omega, b0]
      refine Rn.so ⟨rfl, fun k hk => ?_, e3.w (show 140 = 140 ∧ 181 + 116 * m ≤ 181 + 116 * m + i ∧ 181 + 116 * m + i < 181 + 116 * m + 116 from ⟨rfl, by omega, by omega⟩) _⟩
      show rI (wI q 140 (181 + 116 * m + i) (rI q 146 i)) 140 (181 + 116 * m + k) = _
      by_cases e : k = i
      · rw [e, rI_same]; exact e3.i (by omega)
      · rw [rI_ii (by omega)]; exact e2 k (by omega)
    · rintro ⟨x, q⟩ ⟨e1, e2, e3⟩
      have e1 : x = nI 116 := e1
      subst e1
      exact Rn.e rfl ⟨e2, e3⟩
  obtain ⟨q, h1, h2, h3⟩ := key
  have b0 : rI q 140 180 = nI m := by rw [h3.i (by omega)]; exact a0
  refine ⟨wI q 140 180 (nI (m + 1)), ?_, ⟨by rw [rI_same], by omega, fun j hj => ?_⟩, ?_⟩
  · unfold jX12_notes_60
    rw [h1, bnd_some]
    show some (wI q 140 180 (rI q 140 180 + 1)) = _
    rw [b0, show nI m + 1 = nI (m + 1) from nI_add m 1]
  · by_cases e : j = m
    · simp only [e, if_true]
      refine hw.eq hT hv fun k hk => ?_
      rw [rI_ii (by omega)]; exact h2 k hk
    · simp only [e, if_false]
      refine (a1 j (by omega)).eq (hV j (by omega)) hv fun k hk => ?_
      rw [rI_ii (by omega)]
      exact h3.i (by omega)
  · exact (h3.mono fun x i q => ⟨q.1, by omega, by omega⟩).w ⟨rfl, by omega, by omega⟩ _
theorem f_notes {n m : Nat} {μ : Mu} {s : SD} {t : ST} {h : Nat → ST} (hv : SV s) (hT : TV s t) (hV : ∀ j, j < m → TV s (h j)) (hH : RH μ s m h) (hw : RB s t (fun k => rI μ 146 k)) (hn : 2000 < n) : ∃ μ', fX12_notes n μ = some μ' ∧ RH μ' s (pushM m) (pushH m h t) ∧ Fg (fun a i => a = 140 ∧ 180 ≤ i ∧ i < 1341) μ μ' := by
  have hm := hH.2.1
  by_cases c : m < 10
  · obtain ⟨q, h1, h2, h3⟩ := f_notes60 (n := n) hv hT hV c hH hw hn
    refine ⟨q, ?_, ?_, h3⟩
    · unfold fX12_notes
      rw [hH.1, if_neg (fun e => by have : m = 10 := (eq_r (k := 10) (by decide) (by omega)).mp e; omega)]
      exact h1
    · unfold pushM pushH
      simp only [c, if_true]; exact h2
  · have e10 : m = 10 := by omega
    subst e10
    obtain ⟨a0, -, a1⟩ := hH
    have key : Rn (lp n (sX12_notes_15 n) (0, μ)) (fun q => (∀ k, k < 1044 → rI q 140 (181 + k) = rI μ 140 (297 + k)) ∧ Fg (fun a i => a = 140 ∧ 181 ≤ i ∧ i < 1225) μ q) := by
      refine Rn.l 1044 (fun i q => q.1 = nI i ∧ (∀ k, k < i → rI q.2 140 (181 + k) = rI μ 140 (297 + k)) ∧ Fg (fun a j => a = 140 ∧ 181 ≤ j ∧ j < 181 + i) μ q.2) _ (by omega) ⟨rfl, fun k hk => absurd hk (Nat.not_lt_zero _), Fg.rfl' _ _⟩ ?_ ?_
      · rintro i ⟨x, q⟩ hi ⟨e1, e2, e3⟩
        have e1 : x = nI i := e1
        subst e1
        have e2 : ∀ k, k < i → rI q 140 (181 + k) = rI μ 140 (297 + k) := e2
        have e3 : Fg (fun a j => a = 140 ∧ 181 ≤ j ∧ j < 181 + i) μ q := e3
        simp (disch := first | omega | decide) only [sX12_notes_15, gd_true, bnd_some, bnd2_some, ix_n, ib_n, add_l, add_r, mul_l, mul_r, nI_add, sub_r, nI_leI, nI_ltI, nI_eq, le_l, le_r, lt_l, lt_r, eq_l, eq_r, eq_m, if_true, if_false, not_false_eq_true, not_true_eq_false, show ¬ 1044 ≤ i by omega]
        refine Rn.so ⟨rfl, fun k hk => ?_, (e3.mono fun a j q => ⟨q.1, q.2.1, by omega⟩).w (show 140 = 140 ∧ 181 ≤ 181 + i ∧ 181 + i < 181 + (i + 1) from ⟨rfl, by omega, by omega⟩) _⟩
        show rI (wI q 140 (181 + i) (rI q 140 (297 + i))) 140 (181 + k) = _
        by_cases e : k = i
        · rw [e, rI_same]; exact e3.i (by omega)
        · rw [rI_ii (by omega)]; exact e2 k (by omega)
      · rintro ⟨x, q⟩ ⟨e1, e2, e3⟩
        have e1 : x = nI 1044 := e1
        subst e1
        exact Rn.e rfl ⟨e2, e3⟩
    obtain ⟨q, h1, h2, h3⟩ := key
    have b0 : rI q 140 180 = nI 10 := by rw [h3.i (by omega)]; exact a0
    obtain ⟨q2, g1, g2, g3⟩ := f_notes60 (n := n) (m := 9) (μ := wI q 140 180 (nI 9)) (h := fun j => h (j + 1)) hv hT (fun j hj => hV (j + 1) (by omega)) (by omega) ⟨by rw [rI_same], by omega, fun j hj => (a1 (j + 1) (by omega)).eq (hV _ (by omega)) hv fun k hk => by
      rw [rI_ii (by omega), show 181 + 116 * j + k = 181 + (116 * j + k) by omega, h2 _ (by omega)]
      congr 1; omega⟩ (hw.eq hT hv fun k hk => by rw [rI_ai (by decide)]; exact h3.i (by omega)) hn
    refine ⟨q2, ?_, ?_, ?_⟩
    · unfold fX12_notes
      rw [a0, if_pos (by decide), h1, bnd_some]
      show jX12_notes_60 n (wI q 140 180 (rI q 140 180 - 1)) = _
      rw [b0]
      exact g1
    · unfold pushM pushH
      simp only [show ¬ (10 : Nat) < 10 by omega, if_false]; exact g2
    · exact ((h3.mono fun x i q => ⟨q.1, by omega, by omega⟩).w ⟨rfl, by omega, by omega⟩ _).tr g3
