/-! runs -/
def Rn {α : Type} (x : Option α) (E : α → Prop) : Prop := ∃ r, x = some r ∧ E r
theorem Rn.so {α : Type} {a : α} {E : α → Prop} (h : E a) : Rn (some a) E := ⟨a, rfl, h⟩
theorem Rn.mono {α : Type} {x : Option α} {E F : α → Prop} (h : Rn x E) (hf : ∀ a, E a → F a) : Rn x F := by
  obtain ⟨r, h1, h2⟩ := h; exact ⟨r, h1, hf r h2⟩
theorem Rn.b1 {α β : Type} {x : Option α} {k : α → Option β} {E : α → Prop} {F : β → Prop} (h : Rn x E) (hk : ∀ a, E a → Rn (k a) F) : Rn (bnd x k) F := by
  obtain ⟨r, h1, h2⟩ := h
  rw [h1]; exact hk r h2
theorem Rn.b2 {α β γ : Type} {x : Option (α × β)} {k : α → β → Option γ} {E : α × β → Prop} {F : γ → Prop} (h : Rn x E) (hk : ∀ a b, E (a, b) → Rn (k a b) F) : Rn (bnd2 x k) F := by
  obtain ⟨⟨a, b⟩, h1, h2⟩ := h
  rw [h1]; exact hk a b h2
theorem Rn.g {α : Type} {b : Bool} {k : Option α} {E : α → Prop} (hb : b = true) (h : Rn k E) : Rn (gd b k) E := by rw [gd_t hb]; exact h
theorem Rn.i {α : Type} {c : Prop} {inst : Decidable c} {A B : Option α} {E : α → Prop} (h1 : c → Rn A E) (h2 : ¬ c → Rn B E) : Rn (@ite _ c inst A B) E := by
  by_cases h : c
  · rw [if_pos h]; exact h1 h
  · rw [if_neg h]; exact h2 h
def OE {τ ρ : Type} (I : τ → Prop) (E : ρ → Prop) : τ ⊕ ρ → Prop
  | .inl t => I t
  | .inr r => E r
theorem Rn.l {τ ρ : Type} {step : τ → Option (τ ⊕ ρ)} {n : Nat} {t : τ} (K : Nat) (I : Nat → τ → Prop) (E : ρ → Prop) (hn : K < n) (h0 : I 0 t) (hs : ∀ i t, i < K → I i t → Rn (step t) (OE (I (i + 1)) E)) (he : ∀ t, I K t → Rn (step t) (OE (fun _ => False) E)) : Rn (lp n step t) E := by
  refine lp_rel (step := step) (fun k t => ∃ i, i + k = K ∧ I i t) E ?_ n K t ⟨0, by omega, h0⟩ hn
  rintro k t ⟨i, h1, h2⟩
  by_cases h : i < K
  · obtain ⟨o, g1, g2⟩ := hs i t h h2
    cases o with
    | inl t' => exact Or.inr ⟨t', k - 1, g1, by omega, i + 1, by omega, g2⟩
    | inr r => exact Or.inl ⟨r, g1, g2⟩
  · have e : i = K := by omega
    subst e
    obtain ⟨o, g1, g2⟩ := he t h2
    cases o with
    | inl t' => exact g2.elim
    | inr r => exact Or.inl ⟨r, g1, g2⟩
theorem Rn.e {τ ρ : Type} {x : Option (τ ⊕ ρ)} {r : ρ} {E : ρ → Prop} (h : x = some (.inr r)) (hE : E r) : Rn x (OE (fun _ => False) E) := ⟨.inr r, h, hE⟩
/-- a loop that gathers a set -/
theorem lp_set {step : Int32 × Int32 → Option ((Int32 × Int32) ⊕ Int32)} {K n : Nat} {f : Nat → Bool} (hK : K ≤ 32) (hn : K < n) (hs : ∀ i x, i < K → step (x, nI i) = some (.inl (if f i = true then x ||| shl 1 (nI i) else x, nI (i + 1)))) (he : ∀ x, step (x, nI K) = some (.inr x)) : ∃ r, lp n step (0, 0) = some r ∧ bs r K f := by
  refine Rn.l (step := step) (t := (0, 0)) K (fun i q => q.2 = nI i ∧ bs q.1 i f) (fun r => bs r K f) hn ⟨rfl, bs_z f⟩ ?_ ?_
  · rintro i ⟨x, y⟩ hi ⟨h1, h2⟩
    have h1 : y = nI i := h1
    subst h1
    rw [hs i x hi]
    exact Rn.so ⟨rfl, bs_up h2 (by omega)⟩
  · rintro ⟨x, y⟩ ⟨h1, h2⟩
    have h1 : y = nI K := h1
    subst h1
    rw [he x]
    exact Rn.so h2
theorem or_0 (x : Int32) : x ||| 0 = x := b_ext fun i _ => by rw [b_or, b_0]; simp
theorem or_ite (x y : Int32) (b : Bool) : (x ||| (if b = true then y else 0)) = if b = true then x ||| y else x := by cases b <;> simp [or_0]
theorem or_ite' (x y : Int32) (b : Prop) [Decidable b] : (x ||| (if b then y else 0)) = if b then x ||| y else x := by
  by_cases h : b
  · rw [if_pos h, if_pos h]
  · rw [if_neg h, if_neg h, or_0]
/-! small numbers of the class -/
theorem gl_if {G : Nat} (h : G < 2147483648) : (if nI G ≤ 0 then (0 : Int32) else 1) = nI (gl G) := by
  unfold gl
  by_cases c : G = 0
  · subst c; rfl
  · rw [if_neg (fun e => c (by have : G ≤ 0 := (le_r (k := 0) (by decide) h).mp e; omega)), if_pos (by omega)]; rfl
theorem gk_if {G k : Nat} (h : G < 2147483648) (hk : k < 2147483648) : (if nI G ≤ nI k then (0 : Int32) else 1) = nI (gk G k) := by
  unfold gk
  by_cases c : G ≤ k
  · rw [if_pos ((nI_leI h hk).mpr c), if_neg (by omega)]; rfl
  · rw [if_neg (fun e => c ((nI_leI h hk).mp e)), if_pos (by omega)]; rfl
theorem gl_lt (G : Nat) : gl G < 2 := by unfold gl; split <;> omega
theorem gk_lt (G k : Nat) : gk G k < 2 := by unfold gk; split <;> omega
theorem jmax_pred {G : Nat} (h : G < 2147483648) : jmax 0 (nI G - 1) = nI (G - 1) := by
  by_cases c : G = 0
  · subst c; decide
  · have e : nI G - 1 = nI (G - 1) := pk_sub (a := G) (b := 1) (by omega)
    rw [e]
    unfold jmax
    by_cases c2 : G = 1
    · subst c2; rfl
    · rw [if_pos ((lt_l (k := 0) (by decide) (by omega)).mpr (show 0 < G - 1 by omega))]
theorem cnt_full {f : Nat → Bool} : ∀ {n : Nat}, n ≤ cnt f n → ∀ i, i < n → f i = true
  | 0, _, i, hi => absurd hi (Nat.not_lt_zero _)
  | n + 1, h, i, hi => by
    unfold cnt at h
    have := cnt_le f n
    by_cases c : f n = true
    · rw [if_pos c] at h
      by_cases e : i = n
      · rw [e]; exact c
      · exact cnt_full (n := n) (by omega) i (by omega)
    · rw [if_neg c] at h; omega
theorem cnt_or (f g : Nat → Bool) : ∀ n, cnt (fun i => f i || g i) n = cnt f n + cnt (fun i => g i && !f i) n
  | 0 => rfl
  | n + 1 => by
    unfold cnt
    rw [cnt_or f g n]
    cases f n <;> cases g n <;> simp <;> omega
theorem cnt_zero {f : Nat → Bool} : ∀ {n : Nat}, (∀ i, i < n → f i = false) → cnt f n = 0
  | 0, _ => rfl
  | n + 1, h => by unfold cnt; rw [cnt_zero (fun i hi => h i (by omega)), h n (by omega)]; rfl
/-- hour and gale of a state -/
theorem CB_hg {μ : Mu} {a : Nat} {s : SD} {t : ST} (h : CB μ a s t) (v g : Nat) : CB (wI (wI μ a 0 (nI v)) a 1 (nI g)) a s ((v, g, tX t, tW t), tHo t, tAt t, tWe t, tHe t, tLe t) := by
  obtain ⟨h0, h1, h2, h3, h4, h5, h6⟩ := h
  have u : ∀ j, j ≠ 0 → ∀ i, rI (wI (wI μ a 0 (nI v)) a 1 (nI g)) (a + j) i = rI μ (a + j) i := fun j z i => by rw [rI_ai (by omega), rI_ai (by omega)]
  refine ⟨by rw [rI_ii (by decide), rI_same], by rw [rI_same], by rw [rI_ii (by decide), rI_ii (by decide)]; exact h2, by rw [rI_ii (by decide), rI_ii (by decide)]; exact h3, fun q hq => (u 1 (by omega) q).trans (h4 q hq), fun w' hw' => ?_, fun p' hp' => by rw [u 6 (by omega)]; exact h6 p' hp'⟩
  rw [u 2 (by omega), u 3 (by omega), u 4 (by omega)]
  obtain ⟨x1, x2, x3, x4⟩ := h5 w' hw'
  exact ⟨x1, x2, x3, fun c hc hne => by rw [u 5 (by omega)]; exact x4 c hc hne⟩
theorem f_audible {n a p : Nat} {μ : Mu} {s : SD} {t : ST} (hs : CS μ 2 s) (hv : SV s) (ht : CB μ a s t) (hV : TV s t) (hp : p < sP s) (hn : 10 < n) : ∃ v, fX8_audible n a 2 (nI p) μ = some v ∧ bs v (sB s) (audS s (tHo t) p) := by
  have hP := hv.2.2.1
  have hS := hv.2.2.2.1
  have hB := hv.1.2
  have o1 : rI μ 6 p = e6 (s 4 p) := hs.2.2.2.2.2.2.2.2.2.1 p hp
  obtain ⟨v1, v2⟩ := hv.2.2.2.2.2.1 p hp
  have a4 : rI μ 2 3 = nI (sS s) := hs.2.2.2.1
  have loop : ∀ v0, bs v0 (sB s) (fun b => decide (s 4 p = b)) → ∃ v, jX8_audible_22 n a 2 (nI p) v0 μ = some v ∧ bs v (sB s) (audS s (tHo t) p) := by
    intro v0 h0
    have key : ∃ r, lp n (sX8_audible_26 n a 2 (nI p) μ) (v0, nI 0) = some r ∧ bs r (sB s) (audS s (tHo t) p) := by
      refine lp_inv (step := sX8_audible_26 n a 2 (nI p) μ) (sS s) (fun i v => (v, nI i)) (fun i v => bs v (sB s) (fun b => decide (s 4 p = b) || anyB (fun k => decide (tHo t k = p) && decide (s 6 k = b)) i)) _ ?_ ?_ (n := n) (by omega) v0 (bs_congr h0 (fun i _ => by simp [anyB]))
      · intro i v hi hI
        have b1 : rI μ (a + 1) i = e6 (tHo t i) := ht.2.2.2.2.1 i hi
        have b2 : rI μ 7 i = nI (s 6 i) := (hs.2.2.2.2.2.2.2.2.2.2.1 i hi).1
        have b3 : s 6 i < sB s := (hv.2.2.2.2.2.2.1 i hi).1
        have b4 : tHo t i ≤ 6 := by rcases hV.2.2.1 i hi with h | h <;> omega
        by_cases c : tHo t i = p
        · refine ⟨v ||| shl 1 (nI (s 6 i)), ?_, ?_⟩
          · simp (disch := first | omega | decide) only [sX8_audible_26, gd_true, bnd_some, bnd2_some, ix_n, ib_n, add_l, add_r, mul_l, mul_r, nI_add, sub_r, nI_leI, nI_ltI, nI_eq, le_l, le_r, lt_l, lt_r, eq_l, eq_r, eq_m, if_true, if_false, not_false_eq_true, not_true_eq_false, a4, b1, b2, show ¬ sS s ≤ i by omega, (e6_nI b4 (show p < 6 by omega)).mpr c]
          · refine bs_congr (bs_set hI b3 (by omega)) (fun b hb => ?_)
            rw [anyB_succ, ← Bool.or_assoc]
            congr 1
            simp [c, eq_comm]
        · refine ⟨v, ?_, ?_⟩
          · simp (disch := first | omega | decide) only [sX8_audible_26, gd_true, bnd_some, bnd2_some, ix_n, ib_n, add_l, add_r, mul_l, mul_r, nI_add, sub_r, nI_leI, nI_ltI, nI_eq, le_l, le_r, lt_l, lt_r, eq_l, eq_r, eq_m, if_true, if_false, not_false_eq_true, not_true_eq_false, a4, b1, b2, show ¬ sS s ≤ i by omega, show ¬ e6 (tHo t i) = nI p from fun e => c ((e6_nI b4 (show p < 6 by omega)).mp e)]
          · refine bs_congr hI (fun b hb => ?_)
            rw [anyB_succ]
            simp [c]
      · intro v hI
        exact ⟨v, ite_le a4, hI⟩
    obtain ⟨r, h1, h2⟩ := key
    refine ⟨r, ?_, h2⟩
    unfold jX8_audible_22
    have h1 : lp n (sX8_audible_26 n a 2 (nI p) μ) (v0, 0) = some r := h1
    rw [h1, bnd_some]
  unfold fX8_audible
  simp (disch := first | omega | decide) only [gd_true, bnd_some, bnd2_some, ix_n, ib_n, add_l, add_r, mul_l, mul_r, nI_add, sub_r, nI_leI, nI_ltI, nI_eq, le_l, le_r, lt_l, lt_r, eq_l, eq_r, eq_m, if_true, if_false, not_false_eq_true, not_true_eq_false, o1]
  by_cases h6 : s 4 p = 6
  · rw [if_pos ((e6_m1 (by omega)).mpr h6)]
    exact loop 0 (bs_congr (bs_0 (sB s)) (fun i hi => by simp; omega))
  · have h7 : s 4 p < sB s := by omega
    rw [if_neg (fun e => h6 ((e6_m1 (by omega)).mp e)), show e6 (s 4 p) = nI (s 4 p) by unfold e6; rw [if_neg h6]]
    exact loop _ (bs_congr (bs_bit h7 (by omega)) (fun i hi => by simp [eq_comm]))
theorem f_wordsAt {n a : Nat} {v : Int32} {f : Nat → Bool} {μ : Mu} {s : SD} {t : ST} (hv : SV s) (ht : CB μ a s t) (hV : TV s t) (hf : bs v (sB s) f) (hn : 10 < n) : ∃ r, fX8_wordsAt n a v μ = some r ∧ bs r (tW t) (fun w => anyB (fun b => tAt t w b && f b) (sB s)) := by
  have hB := hv.1.2
  have hW := hV.2.1
  have a3 : rI μ a 3 = nI (tW t) := ht.2.2.2.1
  obtain ⟨r, h1, h2⟩ := lp_set (step := sX8_wordsAt_4 n a v μ) (K := tW t) (n := n) (f := fun w => anyB (fun b => tAt t w b && f b) (sB s)) (by omega) (by omega) (fun i x hi => by
      have z := any_and ((ht.2.2.2.2.2.1 i hi).1) hf (by omega)
      by_cases c : anyB (fun b => tAt t i b && f b) (sB s) = true
      · have c2 : ¬ rI μ (a + 2) i &&& v = 0 := fun e => by rw [z.mp e] at c; cases c
        simp (disch := first | omega | decide) only [sX8_wordsAt_4, gd_true, bnd_some, bnd2_some, ix_n, ib_n, add_l, add_r, mul_l, mul_r, nI_add, sub_r, nI_leI, nI_ltI, nI_eq, le_l, le_r, lt_l, lt_r, eq_l, eq_r, eq_m, if_true, if_false, not_false_eq_true, not_true_eq_false, a3, show ¬ tW t ≤ i by omega, c2, c]
      · have c2 : rI μ (a + 2) i &&& v = 0 := z.mpr (by simpa using c)
        simp (disch := first | omega | decide) only [sX8_wordsAt_4, gd_true, bnd_some, bnd2_some, ix_n, ib_n, add_l, add_r, mul_l, mul_r, nI_add, sub_r, nI_leI, nI_ltI, nI_eq, le_l, le_r, lt_l, lt_r, eq_l, eq_r, eq_m, if_true, if_false, not_false_eq_true, not_true_eq_false, a3, show ¬ tW t ≤ i by omega, c2, c, Bool.false_eq_true]) (fun x => ite_le a3)
  exact ⟨r, by unfold fX8_wordsAt; rw [h1, bnd_some], h2⟩
/-- the cells that an hour of the state at a changes -/
def PH (a : Nat) : Nat → Prop := fun x => (a ≤ x ∧ x ≤ a + 6) ∨ (29 ≤ x ∧ x ≤ 33)
theorem Fr.ph {a : Nat} {m m' : Mu} (h : Fr (PS a) m m') : Fr (PH a) m m' := h.mono fun _ q => Or.inl q
theorem Sr.ph {a : Nat} {m m' : Mu} (h : Sr m m') : Fr (PH a) m m' := h.fr.mono fun _ q => Or.inr q
set_option maxRecDepth 100000 in
set_option maxHeartbeats 4000000 in
theorem f_passHour {n a : Nat} {μ : Mu} {s : SD} {t : ST} (ha : 34 ≤ a) (hs : CS μ 2 s) (hv : SV s) (hr : RU μ s) (hV : TV s t) (hh : tH t < 100000000) (hn : 1000 < n) (ht : CB μ a s t) : ∃ μ', fX8_passHour n a 2 μ = some (nI (newN s no t (sP s)), μ') ∧ CB μ' a s (hourS s no t) ∧ RU μ' s ∧ Fr (PH a) μ μ' := by
  have hG : tG t ≤ 99 := hV.1
  have hW := hV.2.1
  have hP := hv.2.2.1
  have hC := hv.2.1
  have hB := hv.1.2
  have outs : ∀ k, k ≤ 10 → ¬ PH a (2 + k) := fun k hk q => by unfold PH at q; omega
  have a0 : rI μ a 0 = nI (tH t) := ht.1
  have a1 : rI μ a 1 = nI (tG t) := ht.2.1
  obtain ⟨op, m1, p1, p2, p3, p4⟩ := f_openCurrents (n := n) (h := tH t) (g := gl (tG t)) hs hv hr (by omega) (gl_lt _) hn
  have hS1 : CS m1 2 s := hs.sr p3
  have hT1 : CB m1 a s t := ht.fr p3.fr (fun k hk q => by omega)
  obtain ⟨m2, q1, q2, q3⟩ := f_goOut (n := n) (a := a) (op := op) ha hS1 hv hV p2 hn hT1
  have hS2 : CS m2 2 s := hS1.fr q3.ph outs
  have b0 : rI m2 a 0 = nI (tH t) := q2.1
  have b1 : rI m2 a 1 = nI (tG t) := q2.2.1
  have e3 := CB_hg q2 (tH t + 1) (tG t - 1)
  have e4 : CB (wI (wI m2 a 0 (nI (tH t + 1))) a 1 (nI (tG t - 1))) a s (midS s no t) := by
    refine CB.ext e3 hP rfl (fun _ _ => rfl) (fun w' hw' => ⟨fun _ _ => rfl, fun c hc => ?_, fun _ _ => rfl⟩)
    have hw' : w' < tW t := hw'
    have e : upto (tW t) 0 w' c = true := by unfold upto; simp [hw']
    refine ⟨?_, ?_⟩
    · show (_ || _) = (_ || (upto (tW t) 0 w' c && _)); rw [e]; simp
    · show (if _ then _ else _) = (if (upto (tW t) 0 w' c && _) = true then _ else _); rw [e]; simp
  have f3 : Fr (PS a) m2 (wI (wI m2 a 0 (nI (tH t + 1))) a 1 (nI (tG t - 1))) := ((Fr.rfl' _ _).w (show PS a a by unfold PS; omega) _ _).w (show PS a a by unfold PS; omega) _ _
  generalize hm3 : wI (wI m2 a 0 (nI (tH t + 1))) a 1 (nI (tG t - 1)) = m3 at e4 f3
  have hS3 : CS m3 2 s := hS2.fr f3.ph outs
  obtain ⟨m4, r1, r2, r3⟩ := f_comeIn (n := n) (a := a) ha hS3 hv (TV_mid (x := no) hv hV) hn e4
  have hS4 : CS m4 2 s := hS3.fr r3.ph outs
  have hU4 : RU m4 s := ((p4.fr q3 (fun k _ _ q => by unfold PS at q; omega)).fr f3 (fun k _ _ q => by unfold PS at q; omega)).fr r3 (fun k _ _ q => by unfold PS at q; omega)
  have y4 : CB m4 a s (mid2S s no t) := by
    refine CB.ext r2 hP rfl (fun _ _ => rfl) (fun w' hw' => ⟨fun b _ => ?_, fun c hc => ⟨rfl, ?_⟩, fun _ _ => rfl⟩)
    · have hw' : w' < tW t := hw'
      show (_ || _) = (_ || _)
      congr 1
      refine anyB_congr (fun c hc => ?_)
      have e : upto (tW (midS s no t)) 0 w' c = true := by unfold upto; simp [show w' < tW (midS s no t) from hw']
      rw [e]; rfl
    · have hw' : w' < tW t := hw'
      show _ = (if _ then _ else _)
      have e : upto (tW (midS s no t)) 0 w' c = true := by unfold upto; simp [show w' < tW (midS s no t) from hw']
      rw [e]; rfl
  have hTV4 := TV_mid2 (x := no) hv hV
  have hF4 : Fr (PH a) μ m4 := ((p3.ph.tr q3.ph).tr f3.ph).tr r3.ph
  -- people hear
  have k3 : Rn (lp n (sX8_passHour_59 n a 2) (0, 0, m4)) (fun r => r.1 = nI (newN s no t (sP s)) ∧ CB r.2 a s (hourS s no t) ∧ RU r.2 s ∧ Fr (PH a) μ r.2) := by
    refine Rn.l (sP s) (fun i q => q.1 = nI (newN s no t i) ∧ q.2.1 = nI i ∧ CB q.2.2 a s (phS s (mid2S s no t) (upto i 0)) ∧ RU q.2.2 s ∧ Fr (PH a) μ q.2.2) _ (by omega) ⟨rfl, rfl, ?_, hU4, hF4⟩ ?_ ?_
    · refine CB.ext y4 hP rfl (fun _ _ => rfl) (fun w' hw' => ⟨fun _ _ => rfl, fun _ _ => ⟨rfl, rfl⟩, fun p' hp' => ?_⟩)
      show (_ || _) = _; simp [upto]
    · rintro i ⟨x, y, m⟩ hi ⟨e1, e2, hT, hU, hF⟩
      have e1 : x = nI (newN s no t i) := e1
      have e2 : y = nI i := e2
      have hT : CB m a s (phS s (mid2S s no t) (upto i 0)) := hT
      have hU : RU m s := hU
      have hF : Fr (PH a) μ m := hF
      subst e1; subst e2
      have hS := hs.fr hF outs
      have c0 : rI m a 0 = nI (tH t + 1) := hT.1
      have c1 : rI m a 1 = nI (tG t - 1) := hT.2.1
      have c3 : rI m a 3 = nI (tW t) := hT.2.2.2.1
      have d2 : rI m 2 2 = nI (sP s) := hS.2.2.1
      have h6 : bs (rI m (a + 6) i) (tW t) (fun w => tHe t w i) := bs_congr (hT.2.2.2.2.2.2 i (by omega)) fun w _ => by
        show (decide (i < sP s) && (tHe t w i || (upto i 0 i w && _))) = tHe t w i
        simp [hi, upto]
      have hb : bitc (rI m (a + 6) i) = nI (hdS t i) := bs_bitc h6 (by omega)
      have hcl : hdS t i ≤ tW t := cnt_le _ _
      have step0 : ∀ (m' : Mu) (v : Nat), v = newS s no t i → CB m' a s (phS s (mid2S s no t) (upto (i + 1) 0)) → RU m' s → Fr (PH a) μ m' → OE (fun q => q.1 = nI (newN s no t (i + 1)) ∧ q.2.1 = nI (i + 1) ∧ CB q.2.2 a s (phS s (mid2S s no t) (upto (i + 1) 0)) ∧ RU q.2.2 s ∧ Fr (PH a) μ q.2.2) (fun r : Int32 × Mu => r.1 = nI (newN s no t (sP s)) ∧ CB r.2 a s (hourS s no t) ∧ RU r.2 s ∧ Fr (PH a) μ r.2) (.inl (nI (newN s no t i + v), nI (i + 1), m')) := by
        intro m' v h1 h2 h3 h4
        exact ⟨by rw [h1]; rfl, rfl, h2, h3, h4⟩
      have nohear : (∀ w, w < tW t → he1S s no t w i = tHe t w i) → newS s no t i = 0 ∧ ∀ m', CB m' a s (phS s (mid2S s no t) (upto i 0)) → CB m' a s (phS s (mid2S s no t) (upto (i + 1) 0)) := by
        intro hw
        refine ⟨cnt_zero fun w hw' => by rw [hw w hw']; cases tHe t w i <;> rfl, fun m' hm' => CB.ext hm' hP rfl (fun _ _ => rfl) (fun w' hw' => ⟨fun _ _ => rfl, fun _ _ => ⟨rfl, rfl⟩, fun p' hp' => ?_⟩)⟩
        have hw' : w' < tW t := hw'
        show (tHe t w' p' || (upto (i + 1) 0 p' w' && hrS s (mid2S s no t) w' p')) = (tHe t w' p' || (upto i 0 p' w' && hrS s (mid2S s no t) w' p'))
        by_cases e : p' = i
        · subst e
          have z := hw w' hw'
          rw [← hr_eq] at z
          have u1 : upto (p' + 1) 0 p' w' = true := by simp [upto]
          have u2 : upto p' 0 p' w' = false := by simp [upto]
          rw [u1, u2, Bool.true_and, z]; simp
        · have u1 : upto (i + 1) 0 p' w' = upto i 0 p' w' := by
            unfold upto
            have : p' < i + 1 ↔ p' < i := by omega
            simp [this]
          rw [u1]
      simp (disch := first | omega | decide) only [sX8_passHour_59, gd_true, bnd_some, bnd2_some, ix_n, ib_n, add_l, add_r, mul_l, mul_r, nI_add, sub_r, nI_leI, nI_ltI, nI_eq, le_l, le_r, lt_l, lt_r, eq_l, eq_r, eq_m, if_true, if_false, not_false_eq_true, not_true_eq_false, d2, show ¬ sP s ≤ i by omega, hb, c3]
      by_cases full : tW t ≤ hdS t i
      · rw [if_pos full]
        have z := nohear (fun w hw => by
          have := cnt_full (f := fun w => tHe t w i) full w hw
          unfold he1S; rw [show tHe t w i = true from this]; rfl)
        exact Rn.so (step0 m 0 z.1.symm (z.2 m hT) hU hF)
      · rw [if_neg full]
        obtain ⟨li, m5, l1, l2, l3, l4⟩ := f_listeners (n := n) (h := tH t + 1) (g := gl (tG t - 1)) (k := hdS t i) hS hv hU (by omega) (gl_lt _) (by omega) hn
        rw [c0, c1, gl_if (by omega), l1, bnd2_some]
        have hlb : bt li i = lisS s (tH t + 1) (gl (tG t - 1)) i (hdS t i) := bs_at l2 hi (by omega)
        have hT5 : CB m5 a s (phS s (mid2S s no t) (upto i 0)) := hT.fr l3.fr (fun k hk q => by omega)
        have hS5 : CS m5 2 s := hS.sr l3
        have hF5 := hF.tr l3.ph
        simp only [b_test (x := li) (show i < 32 by omega), t01, hlb]
        by_cases lis : lisS s (tH t + 1) (gl (tG t - 1)) i (hdS t i) = true
        · rw [if_pos lis]
          obtain ⟨au, g1, g2⟩ := f_audible (n := n) (a := a) (p := i) hS5 hv hT5 (ph_TV hTV4) hi (by omega)
          obtain ⟨wo, k1, k2⟩ := f_wordsAt (n := n) (a := a) (v := au) hv hT5 (ph_TV hTV4) g2 (by omega)
          have k2 : bs wo (tW t) (fun w => anyB (fun b => at1S s no t w b && audS s (tHo t) i b) (sB s)) := k2
          have z := CB_hear hT5 hv hi (y := wo) k2
          have e6 : rI m5 (a + 6) i = rI m (a + 6) i := l3.i (by omega) i
          have hor : bs (rI m5 (a + 6) i ||| wo) (tW t) (fun w => tHe t w i || anyB (fun b => at1S s no t w b && audS s (tHo t) i b) (sB s)) := by
            rw [e6]; exact bs_or h6 k2
          have hb2 : bitc (rI m5 (a + 6) i ||| wo) = nI (hdS t i + newS s no t i) := by
            rw [bs_bitc hor (by omega), cnt_or]
            congr 2
            refine cnt_congr fun w _ => ?_
            unfold he1S
            rw [lis]
            cases tHe t w i <;> simp
          rw [g1, bnd_some, k1, bnd_some]
          simp (disch := first | omega | decide) only [gd_true, bnd_some, bnd2_some, ix_n, ib_n, add_l, add_r, mul_l, mul_r, nI_add, sub_r, nI_leI, nI_ltI, nI_eq, le_l, le_r, lt_l, lt_r, eq_l, eq_r, eq_m, if_true, if_false, not_false_eq_true, not_true_eq_false, rI_same, hb2, pk_sub (Nat.le_add_right (hdS t i) (newS s no t i)), Nat.add_sub_cancel_left]
          refine Rn.so (step0 _ (newS s no t i) rfl ?_ ?_ ?_)
          · refine CB.ext z hP rfl (fun _ _ => rfl) (fun w' hw' => ⟨fun _ _ => rfl, fun _ _ => ⟨rfl, rfl⟩, fun p' hp' => ?_⟩)
            show (tHe t w' p' || (upto (i + 1) 0 p' w' && hrS s (mid2S s no t) w' p')) = ((tHe t w' p' || (upto i 0 p' w' && hrS s (mid2S s no t) w' p')) || (decide (p' = i) && anyB (fun b => at1S s no t w' b && audS s (tHo t) i b) (sB s)))
            by_cases e : p' = i
            · subst e
              have u1 : upto (p' + 1) 0 p' w' = true := by simp [upto]
              have u2 : upto p' 0 p' w' = false := by simp [upto]
              have u3 : hrS s (mid2S s no t) w' p' = anyB (fun b => at1S s no t w' b && audS s (tHo t) p' b) (sB s) := by
                show (lisS s (tH t + 1) (gl (tG t - 1)) p' (hdS t p') && _) = _
                rw [lis]; rfl
              rw [u1, u2, u3]; simp
            · have u1 : upto (i + 1) 0 p' w' = upto i 0 p' w' := by
                unfold upto
                have : p' < i + 1 ↔ p' < i := by omega
                simp [this]
              rw [u1]; simp [e]
          · exact l4.congr fun x h1 h2 j => rI_ai (by omega)
          · exact hF5.w (show PH a (a + 6) by unfold PH; omega) _ _
        · rw [if_neg lis]
          have z := nohear (fun w hw => by
            unfold he1S
            rw [show lisS s (tH t + 1) (gl (tG t - 1)) i (hdS t i) = false by simpa using lis]; simp)
          exact Rn.so (step0 m5 0 z.1.symm (z.2 m5 hT5) l4 hF5)
    · rintro ⟨x, y, m⟩ ⟨e1, e2, hT, hU, hF⟩
      have e1 : x = nI (newN s no t (sP s)) := e1
      have e2 : y = nI (sP s) := e2
      have hT : CB m a s (phS s (mid2S s no t) (upto (sP s) 0)) := hT
      subst e1; subst e2
      have d2 : rI m 2 2 = nI (sP s) := (hs.fr hF outs).2.2.1
      refine ⟨_, ite_le d2, rfl, ?_, hU, hF⟩
      refine CB.ext hT hP rfl (fun _ _ => rfl) (fun w' hw' => ⟨fun _ _ => rfl, fun _ _ => ⟨rfl, rfl⟩, fun p' hp' => ?_⟩)
      have e : upto (sP s) 0 p' w' = true := by unfold upto; simp [hp']
      show he1S s no t w' p' = (_ || (upto (sP s) 0 p' w' && _)); rw [e, ← hr_eq]; rfl
  obtain ⟨⟨r, m5⟩, k1, k2, k4, k5, k6⟩ := k3
  have k2 : r = nI (newN s no t (sP s)) := k2
  subst k2
  refine ⟨m5, ?_, k4, k5, k6⟩
  unfold fX8_passHour
  rw [a0, a1, gl_if (by omega), p1, bnd2_some, q1, bnd_some, b0, rI_ii (show (1 : Nat) ≠ 0 by decide), b1, jmax_pred (by omega), show nI (tH t) + 1 = nI (tH t + 1) from nI_add (tH t) 1, hm3, r1, bnd_some, k1, bnd_some]
