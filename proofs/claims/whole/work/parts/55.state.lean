/-! the class's states -/
/-- nothing changed but at the addresses P -/
def Fr (P : Nat → Prop) (μ μ' : Mu) : Prop := ∀ a, ¬ P a → (∀ i, rI μ' a i = rI μ a i) ∧ ∀ i, rL μ' a i = rL μ a i
theorem Fr.rfl' (P : Nat → Prop) (μ : Mu) : Fr P μ μ := fun _ _ => ⟨fun _ => rfl, fun _ => rfl⟩
theorem Fr.tr {P : Nat → Prop} {a b c : Mu} (h : Fr P a b) (h2 : Fr P b c) : Fr P a c := fun x hx => ⟨fun i => by rw [(h2 x hx).1, (h x hx).1], fun i => by rw [(h2 x hx).2, (h x hx).2]⟩
theorem Fr.mono {P Q : Nat → Prop} {a b : Mu} (h : Fr P a b) (hq : ∀ x, P x → Q x) : Fr Q a b := fun x hx => h x (fun q => hx (hq x q))
theorem Fr.w {P : Nat → Prop} {a b : Mu} (h : Fr P a b) {x : Nat} (hx : P x) (i : Nat) (v : Int32) : Fr P a (wI b x i v) := fun y hy => ⟨fun j => by rw [rI_ai (show y ≠ x from fun e => hy (by rw [e]; exact hx))]; exact (h y hy).1 j, fun j => (h y hy).2 j⟩
theorem Fr.wl {P : Nat → Prop} {a b : Mu} (h : Fr P a b) {x : Nat} (hx : P x) (i : Nat) (v : Int64) : Fr P a (wL b x i v) := fun y hy => ⟨fun j => (h y hy).1 j, fun j => by rw [rL_wL, if_neg (show ¬ (y = x ∧ j = i) from fun e => hy (by rw [e.1]; exact hx))]; exact (h y hy).2 j⟩
theorem Fr.cp {P : Nat → Prop} {a b : Mu} (h : Fr P a b) {y : Nat} (hx : P y) (x i j k : Nat) : Fr P a (cpI b x i y j k) := fun z hz => ⟨fun q => by rw [rI_cp, if_neg (show ¬ (z = y ∧ j ≤ q ∧ q < j + k) from fun e => hz (by rw [e.1]; exact hx))]; exact (h z hz).1 q, fun q => (h z hz).2 q⟩
theorem Fr.i {P : Nat → Prop} {a b : Mu} (h : Fr P a b) {x : Nat} (hx : ¬ P x) (i : Nat) : rI b x i = rI a x i := (h x hx).1 i
theorem Sr.fr {μ μ' : Mu} (h : Sr μ μ') : Fr (fun a => 29 ≤ a ∧ a ≤ 33) μ μ' := fun a ha => h a (by omega)
def CB (μ : Mu) (a : Nat) (s : SD) (t : ST) : Prop := rI μ a 0 = nI (tH t) ∧ rI μ a 1 = nI (tG t) ∧ rI μ a 2 = tX t ∧ rI μ a 3 = nI (tW t) ∧ (∀ k, k < sS s → rI μ (a + 1) k = e6 (tHo t k)) ∧ (∀ w, w < tW t → bs (rI μ (a + 2) w) (sB s) (tAt t w) ∧ bs (rI μ (a + 3) w) (sC s) (tWe t w) ∧ bs (rI μ (a + 4) w) (sC s) (fun c => decide (tLe t w c ≠ 0)) ∧ ∀ c, c < sC s → tLe t w c ≠ 0 → rI μ (a + 5) (w * 10 + c) = nI (tLe t w c)) ∧ ∀ p, p < 6 → bs (rI μ (a + 6) p) (tW t) (fun w => decide (p < sP s) && tHe t w p)
theorem CB.congr {μ μ' : Mu} {a : Nat} {s : SD} {t : ST} (h : CB μ a s t) (e : ∀ k, k ≤ 6 → ∀ i, rI μ' (a + k) i = rI μ (a + k) i) : CB μ' a s t := by
  have e0 := e 0 (by omega)
  simp only [Nat.add_zero] at e0
  obtain ⟨h0, h1, h2, h3, h4, h5, h6⟩ := h
  refine ⟨by rw [e0]; exact h0, by rw [e0]; exact h1, by rw [e0]; exact h2, by rw [e0]; exact h3, fun k hk => by rw [e 1 (by omega)]; exact h4 k hk, fun w hw => ?_, fun p hp => by rw [e 6 (by omega)]; exact h6 p hp⟩
  rw [e 2 (by omega), e 3 (by omega), e 4 (by omega)]
  obtain ⟨a1, a2, a3, a4⟩ := h5 w hw
  exact ⟨a1, a2, a3, fun c hc hn => by rw [e 5 (by omega)]; exact a4 c hc hn⟩
theorem CB.fr {P : Nat → Prop} {μ μ' : Mu} {a : Nat} {s : SD} {t : ST} (h : CB μ a s t) (e : Fr P μ μ') (hp : ∀ k, k ≤ 6 → ¬ P (a + k)) : CB μ' a s t := h.congr fun k hk i => e.i (hp k hk) i
theorem CS.fr {P : Nat → Prop} {μ μ' : Mu} {a : Nat} {s : SD} (h : CS μ a s) (e : Fr P μ μ') (hp : ∀ k, k ≤ 10 → ¬ P (a + k)) : CS μ' a s := h.congr fun k hk i => e.i (hp k hk) i
theorem RU.fr {P : Nat → Prop} {μ μ' : Mu} {s : SD} (h : RU μ s) (e : Fr P μ μ') (hp : ∀ k, 29 ≤ k → k ≤ 31 → ¬ P k) : RU μ' s := h.congr fun k h1 h2 i => e.i (hp k h1 h2) i
theorem CB.ext {μ : Mu} {a : Nat} {s : SD} {t t' : ST} (h : CB μ a s t) (hP : sP s ≤ 6) (e1 : t'.1 = t.1) (e2 : ∀ k, k < sS s → tHo t' k = tHo t k) (e3 : ∀ w, w < tW t → (∀ b, b < sB s → tAt t' w b = tAt t w b) ∧ (∀ c, c < sC s → tWe t' w c = tWe t w c ∧ tLe t' w c = tLe t w c) ∧ ∀ p, p < sP s → tHe t' w p = tHe t w p) : CB μ a s t' := by
  obtain ⟨h0, h1, h2, h3, h4, h5, h6⟩ := h
  have e4 : tW t' = tW t := by unfold tW; rw [e1]
  refine ⟨by unfold tH; rw [e1]; exact h0, by unfold tG; rw [e1]; exact h1, by unfold tX; rw [e1]; exact h2, by rw [e4]; exact h3, fun k hk => by rw [e2 k hk]; exact h4 k hk, fun w hw => ?_, fun p hp => ?_⟩
  · rw [e4] at hw
    obtain ⟨a, b, c, d⟩ := h5 w hw
    obtain ⟨x1, x2, x3⟩ := e3 w hw
    exact ⟨bs_congr a (fun i hi => (x1 i hi).symm), bs_congr b (fun i hi => (x2 i hi).1.symm), bs_congr c (fun i hi => by rw [(x2 i hi).2]), fun q hq hne => by rw [(x2 q hq).2] at hne ⊢; exact d q hq hne⟩
  · rw [e4]
    refine bs_congr (h6 p hp) fun w hw => ?_
    by_cases c : p < sP s
    · rw [(e3 w hw).2.2 p c]
    · simp [c]
/-- a word goes out by a current -/
theorem CB_out {μ : Mu} {a : Nat} {s : SD} {t : ST} (h : CB μ a s t) (hv : SV s) {w c k : Nat} (hw : w < tW t) (hc : c < sC s) (hk : k ≠ 0) : CB (wI (wI (wI μ (a + 3) w (rI μ (a + 3) w ||| shl 1 (nI c))) (a + 4) w (rI μ (a + 4) w ||| shl 1 (nI c))) (a + 5) (w * 10 + c) (nI k)) a s (t.1, tHo t, tAt t, fun w' c' => tWe t w' c' || (decide (w' = w) && decide (c' = c)), tHe t, fun w' c' => if w' = w ∧ c' = c then k else tLe t w' c') := by
  have hC := hv.2.1
  obtain ⟨h0, h1, h2, h3, h4, h5, h6⟩ := h
  have u : ∀ j, j ≠ 3 → j ≠ 4 → j ≠ 5 → ∀ i, rI (wI (wI (wI μ (a + 3) w (rI μ (a + 3) w ||| shl 1 (nI c))) (a + 4) w (rI μ (a + 4) w ||| shl 1 (nI c))) (a + 5) (w * 10 + c) (nI k)) (a + j) i = rI μ (a + j) i := fun j x y z i => by rw [rI_ai (by omega), rI_ai (by omega), rI_ai (by omega)]
  refine ⟨(u 0 (by omega) (by omega) (by omega) 0).trans h0, (u 0 (by omega) (by omega) (by omega) 1).trans h1, (u 0 (by omega) (by omega) (by omega) 2).trans h2, (u 0 (by omega) (by omega) (by omega) 3).trans h3, fun q hq => (u 1 (by omega) (by omega) (by omega) q).trans (h4 q hq), fun w' hw' => ?_, fun p hp => by rw [u 6 (by omega) (by omega) (by omega)]; exact h6 p hp⟩
  have hw' : w' < tW t := hw'
  obtain ⟨x1, x2, x3, x4⟩ := h5 w' hw'
  refine ⟨by rw [u 2 (by omega) (by omega) (by omega)]; exact x1, ?_, ?_, fun c' hc' hne => ?_⟩
  · rw [rI_ai (by omega), rI_ai (by omega)]
    by_cases e : w' = w
    · subst e
      rw [rI_same]
      exact bs_congr (bs_set x2 hc (by omega)) fun i _ => by show (tWe t w' i || decide (i = c)) = (tWe t w' i || (decide (w' = w') && decide (i = c))); simp
    · rw [rI_ii e]
      exact bs_congr x2 fun i _ => by show tWe t w' i = (tWe t w' i || (decide (w' = w) && decide (i = c))); simp [e]
  · rw [rI_ai (by omega)]
    by_cases e : w' = w
    · subst e
      rw [rI_same]
      refine bs_congr (bs_set x3 hc (by omega)) fun i _ => ?_
      show (decide (tLe t w' i ≠ 0) || decide (i = c)) = decide ((if w' = w' ∧ i = c then k else tLe t w' i) ≠ 0)
      by_cases e2 : i = c <;> simp [e2, hk]
    · rw [rI_ii e, rI_ai (by omega)]
      refine bs_congr x3 fun i _ => ?_
      show decide (tLe t w' i ≠ 0) = decide ((if w' = w ∧ i = c then k else tLe t w' i) ≠ 0)
      simp [e]
  · have hne : (if w' = w ∧ c' = c then k else tLe t w' c') ≠ 0 := hne
    show _ = nI (if w' = w ∧ c' = c then k else tLe t w' c')
    by_cases e : w' = w ∧ c' = c
    · obtain ⟨rfl, rfl⟩ := e
      rw [rI_same, if_pos ⟨rfl, rfl⟩]
    · rw [if_neg e] at hne ⊢
      rw [rI_ii (by omega), rI_ai (by omega), rI_ai (by omega)]
      exact x4 c' hc' hne
/-- an hour less till it comes in, and more than one -/
theorem CB_less {μ : Mu} {a : Nat} {s : SD} {t : ST} (h : CB μ a s t) (hv : SV s) {w c k : Nat} (hw : w < tW t) (hc : c < sC s) (hk : k ≠ 0) (hle : tLe t w c ≠ 0) : CB (wI μ (a + 5) (w * 10 + c) (nI k)) a s (t.1, tHo t, tAt t, tWe t, tHe t, fun w' c' => if w' = w ∧ c' = c then k else tLe t w' c') := by
  have hC := hv.2.1
  obtain ⟨h0, h1, h2, h3, h4, h5, h6⟩ := h
  have u : ∀ j, j ≠ 5 → ∀ i, rI (wI μ (a + 5) (w * 10 + c) (nI k)) (a + j) i = rI μ (a + j) i := fun j z i => by rw [rI_ai (by omega)]
  refine ⟨(u 0 (by omega) 0).trans h0, (u 0 (by omega) 1).trans h1, (u 0 (by omega) 2).trans h2, (u 0 (by omega) 3).trans h3, fun q hq => (u 1 (by omega) q).trans (h4 q hq), fun w' hw' => ?_, fun p hp => by rw [u 6 (by omega)]; exact h6 p hp⟩
  have hw' : w' < tW t := hw'
  obtain ⟨x1, x2, x3, x4⟩ := h5 w' hw'
  refine ⟨by rw [u 2 (by omega)]; exact x1, by rw [u 3 (by omega)]; exact x2, ?_, fun c' hc' hne => ?_⟩
  · rw [u 4 (by omega)]
    refine bs_congr x3 fun i _ => ?_
    show decide (tLe t w' i ≠ 0) = decide ((if w' = w ∧ i = c then k else tLe t w' i) ≠ 0)
    by_cases e : w' = w ∧ i = c
    · obtain ⟨rfl, rfl⟩ := e
      simp [hle, hk]
    · rw [if_neg e]
  · have hne : (if w' = w ∧ c' = c then k else tLe t w' c') ≠ 0 := hne
    show _ = nI (if w' = w ∧ c' = c then k else tLe t w' c')
    by_cases e : w' = w ∧ c' = c
    · obtain ⟨rfl, rfl⟩ := e
      rw [rI_same, if_pos ⟨rfl, rfl⟩]
    · rw [if_neg e] at hne ⊢
      rw [rI_ii (by omega)]
      exact x4 c' hc' hne
/-- it comes in -/
theorem CB_in {μ : Mu} {a : Nat} {s : SD} {t : ST} (h : CB μ a s t) (hv : SV s) {w c b : Nat} (hw : w < tW t) (hc : c < sC s) (hb : b < sB s) (hle : tLe t w c ≠ 0) (v : Int32) : CB (wI (wI (wI μ (a + 5) (w * 10 + c) v) (a + 4) w (rI μ (a + 4) w ^^^ shl 1 (nI c))) (a + 2) w (rI μ (a + 2) w ||| shl 1 (nI b))) a s (t.1, tHo t, fun w' b' => tAt t w' b' || (decide (w' = w) && decide (b' = b)), tWe t, tHe t, fun w' c' => if w' = w ∧ c' = c then 0 else tLe t w' c') := by
  have hC := hv.2.1
  have hB := hv.1.2
  obtain ⟨h0, h1, h2, h3, h4, h5, h6⟩ := h
  have u : ∀ j, j ≠ 2 → j ≠ 4 → j ≠ 5 → ∀ i, rI (wI (wI (wI μ (a + 5) (w * 10 + c) v) (a + 4) w (rI μ (a + 4) w ^^^ shl 1 (nI c))) (a + 2) w (rI μ (a + 2) w ||| shl 1 (nI b))) (a + j) i = rI μ (a + j) i := fun j x y z i => by rw [rI_ai (by omega), rI_ai (by omega), rI_ai (by omega)]
  refine ⟨(u 0 (by omega) (by omega) (by omega) 0).trans h0, (u 0 (by omega) (by omega) (by omega) 1).trans h1, (u 0 (by omega) (by omega) (by omega) 2).trans h2, (u 0 (by omega) (by omega) (by omega) 3).trans h3, fun q hq => (u 1 (by omega) (by omega) (by omega) q).trans (h4 q hq), fun w' hw' => ?_, fun p hp => by rw [u 6 (by omega) (by omega) (by omega)]; exact h6 p hp⟩
  have hw' : w' < tW t := hw'
  obtain ⟨x1, x2, x3, x4⟩ := h5 w' hw'
  refine ⟨?_, by rw [u 3 (by omega) (by omega) (by omega)]; exact x2, ?_, fun c' hc' hne => ?_⟩
  · by_cases e : w' = w
    · subst e
      rw [rI_same]
      exact bs_congr (bs_set x1 hb (by omega)) fun i _ => by show (tAt t w' i || decide (i = b)) = (tAt t w' i || (decide (w' = w') && decide (i = b))); simp
    · rw [rI_ii e, rI_ai (by omega), rI_ai (by omega)]
      exact bs_congr x1 fun i _ => by show tAt t w' i = (tAt t w' i || (decide (w' = w) && decide (i = b))); simp [e]
  · rw [rI_ai (by omega)]
    by_cases e : w' = w
    · subst e
      rw [rI_same]
      refine bs_congr (bs_clr x3 hc (by omega) (by simp [hle])) fun i _ => ?_
      show (decide (tLe t w' i ≠ 0) && !decide (i = c)) = decide ((if w' = w' ∧ i = c then 0 else tLe t w' i) ≠ 0)
      by_cases e2 : i = c <;> simp [e2]
    · rw [rI_ii e, rI_ai (by omega)]
      refine bs_congr x3 fun i _ => ?_
      show decide (tLe t w' i ≠ 0) = decide ((if w' = w ∧ i = c then 0 else tLe t w' i) ≠ 0)
      simp [e]
  · have hne : (if w' = w ∧ c' = c then 0 else tLe t w' c') ≠ 0 := hne
    show _ = nI (if w' = w ∧ c' = c then 0 else tLe t w' c')
    by_cases e : w' = w ∧ c' = c
    · rw [if_pos e] at hne; exact absurd rfl hne
    · rw [if_neg e] at hne ⊢
      rw [rI_ai (by omega), rI_ai (by omega), rI_ii (by omega)]
      exact x4 c' hc' hne
/-- a person hears words -/
theorem CB_hear {μ : Mu} {a : Nat} {s : SD} {t : ST} (h : CB μ a s t) (hv : SV s) {p : Nat} {y : Int32} {f : Nat → Bool} (hp : p < sP s) (hy : bs y (tW t) f) : CB (wI μ (a + 6) p (rI μ (a + 6) p ||| y)) a s (t.1, tHo t, tAt t, tWe t, fun w' p' => tHe t w' p' || (decide (p' = p) && f w'), tLe t) := by
  have hP := hv.2.2.1
  obtain ⟨h0, h1, h2, h3, h4, h5, h6⟩ := h
  have u : ∀ j, j ≠ 6 → ∀ i, rI (wI μ (a + 6) p (rI μ (a + 6) p ||| y)) (a + j) i = rI μ (a + j) i := fun j z i => by rw [rI_ai (by omega)]
  refine ⟨(u 0 (by omega) 0).trans h0, (u 0 (by omega) 1).trans h1, (u 0 (by omega) 2).trans h2, (u 0 (by omega) 3).trans h3, fun q hq => (u 1 (by omega) q).trans (h4 q hq), fun w' hw' => ?_, fun p' hp' => ?_⟩
  · rw [u 2 (by omega), u 3 (by omega), u 4 (by omega)]
    obtain ⟨x1, x2, x3, x4⟩ := h5 w' hw'
    exact ⟨x1, x2, x3, fun c hc hne => by rw [u 5 (by omega)]; exact x4 c hc hne⟩
  · show bs _ (tW t) (fun w => decide (p' < sP s) && (tHe t w p' || (decide (p' = p) && f w)))
    by_cases e : p' = p
    · subst e
      rw [rI_same]
      exact bs_congr (bs_or (h6 p' hp') hy) fun w _ => by simp [hp]
    · rw [rI_ii e]
      exact bs_congr (h6 p' hp') fun w _ => by simp [e]
