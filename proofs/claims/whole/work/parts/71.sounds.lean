/-! a gift -/
def gst (s : SD) (ho : Nat → Nat) (k p : Nat) (b : Int32 × Nat) : Int32 × Nat := if ho k = p then b else if b.2 < mutN s (fun j => if j = k then p else ho j) then (nI (10 * k + p), mutN s (fun j => if j = k then p else ho j)) else b
def gI1 (s : SD) (ho : Nat → Nat) (k : Nat) (b : Int32 × Nat) : Nat → Int32 × Nat
  | 0 => b
  | p + 1 => gst s ho k p (gI1 s ho k b p)
def gI2 (s : SD) (ho : Nat → Nat) : Nat → Int32 × Nat
  | 0 => (-1, mutN s ho)
  | k + 1 => gI1 s ho k (gI2 s ho k) (sP s)
theorem gst_le {s : SD} (hv : SV s) {ho : Nat → Nat} {k p : Nat} {b : Int32 × Nat} (h : b.2 ≤ 36) : (gst s ho k p b).2 ≤ 36 := by
  unfold gst
  split
  · exact h
  · split
    · exact mutN_le hv _
    · exact h
theorem gI1_le {s : SD} (hv : SV s) {ho : Nat → Nat} {k : Nat} {b : Int32 × Nat} (h : b.2 ≤ 36) : ∀ p, (gI1 s ho k b p).2 ≤ 36
  | 0 => h
  | p + 1 => gst_le hv (gI1_le hv h p)
theorem gI2_le {s : SD} (hv : SV s) {ho : Nat → Nat} : ∀ k, (gI2 s ho k).2 ≤ 36
  | 0 => mutN_le hv _
  | k + 1 => gI1_le hv (gI2_le hv k) _
theorem CB_give2 {m : Mu} {a : Nat} {s : SD} {t : ST} {k v p : Nat} (h : CB m a s (giveS t k v)) (hP : sP s ≤ 6) : CB (wI m (a + 1) k (e6 p)) a s (giveS t k p) := by
  refine CB.ext (CB_give h k p) hP rfl (fun j _ => ?_) (fun w _ => ⟨fun _ _ => rfl, fun _ _ => ⟨rfl, rfl⟩, fun _ _ => rfl⟩)
  show (if j = k then p else tHo t j) = if j = k then p else if j = k then v else tHo t j
  by_cases e : j = k
  · rw [if_pos e, if_pos e]
  · rw [if_neg e, if_neg e, if_neg e]
theorem RT_give2 {m : Mu} {s : SD} {t : ST} {k v p : Nat} (h : RT m s (giveS t k v)) (hv : SV s) (hW : tW t ≤ 8) (hk : k < 8) : RT (wI m 140 (68 + k) (e6 p)) s (giveS t k p) := by
  refine RB.ext (RT_give (k := k) (p := p) h hv hW hk) rfl (fun j _ => ?_) (fun w _ => ⟨fun _ _ => rfl, fun _ _ => ⟨rfl, rfl⟩, fun _ _ => rfl⟩)
  show (if j = k then p else tHo t j) = if j = k then p else if j = k then v else tHo t j
  by_cases e : j = k
  · rw [if_pos e, if_pos e]
  · rw [if_neg e, if_neg e, if_neg e]
theorem give_self {t : ST} {k j : Nat} : tHo (giveS t k (tHo t k)) j = tHo t j := by
  show (if j = k then tHo t k else tHo t j) = _
  by_cases e : j = k
  · rw [if_pos e, e]
  · rw [if_neg e]
theorem CB_self {m : Mu} {a k : Nat} {s : SD} {t : ST} (h : CB m a s t) (hP : sP s ≤ 6) : CB m a s (giveS t k (tHo t k)) := CB.ext (t := t) (t' := giveS t k (tHo t k)) h hP rfl (fun j _ => give_self) (fun w _ => ⟨fun _ _ => rfl, fun _ _ => ⟨rfl, rfl⟩, fun _ _ => rfl⟩)
theorem CB_self' {m : Mu} {a k : Nat} {s : SD} {t : ST} (h : CB m a s (giveS t k (tHo t k))) (hP : sP s ≤ 6) : CB m a s t := CB.ext (t := giveS t k (tHo t k)) (t' := t) h hP rfl (fun j _ => give_self.symm) (fun w _ => ⟨fun _ _ => rfl, fun _ _ => ⟨rfl, rfl⟩, fun _ _ => rfl⟩)
theorem RT_self {m : Mu} {k : Nat} {s : SD} {t : ST} (h : RT m s t) : RT m s (giveS t k (tHo t k)) := RB.ext (t := t) (t' := giveS t k (tHo t k)) h rfl (fun j _ => give_self) (fun w _ => ⟨fun _ _ => rfl, fun _ _ => ⟨rfl, rfl⟩, fun _ _ => rfl⟩)
theorem TV_give {s : SD} {t : ST} {k p : Nat} (h : TV s t) (hp : p < sP s ∨ p = 6) : TV s (giveS t k p) := ⟨h.1, h.2.1, fun i hi => by
  show (if i = k then p else tHo t i) < sP s ∨ (if i = k then p else tHo t i) = 6
  by_cases e : i = k
  · rw [if_pos e]; exact hp
  · rw [if_neg e]; exact h.2.2.1 i hi, h.2.2.2⟩
theorem m_gift {n k : Nat} {sh : List Sh} {R : Rf} {μ : Mu} (hI : INV k sh R μ) (hk : k < 512) (hn : 5000 < n) : GO k sh R (fX11_gift n μ) (fX12_gift n) := by
  refine GO.q hI hk fun s t _ hp => ?_
  have hp0 := hp
  obtain ⟨c1, p2, c2, c3, p5, p6⟩ := hp
  have hP := p2.2.2.1
  have hS := p2.2.2.2.1
  have hW := p5.2.1
  have hm0 := mutN_le p2 (tHo t)
  obtain ⟨m1, g1, g2, g3⟩ := f_copyFrom (n := n) (a := 41) (b := 34) (Or.inr (by omega)) p2 hW c3
  have oS : ∀ k, k ≤ 10 → ¬ PS 41 (2 + k) := fun k hk q => by unfold PS at q; omega
  have o3 : ∀ k, k ≤ 6 → ¬ PS 41 (34 + k) := fun k hk q => by unfold PS at q; omega
  -- the class
  have lc : Rn (lp n (sX11_gift_27 n) (nI (mutN s (tHo t)), -1, 0, m1)) (fun r => r.1 = (gI2 s (tHo t) (sS s)).1 ∧ Fr (PS 41) μ r.2) := by
    refine Rn.l (sS s) (fun i q => q.1 = nI (gI2 s (tHo t) i).2 ∧ q.2.1 = (gI2 s (tHo t) i).1 ∧ q.2.2.1 = nI i ∧ CB q.2.2.2 41 s t ∧ Fr (PS 41) μ q.2.2.2) _ (by omega) ⟨rfl, rfl, rfl, g2, g3⟩ ?_ ?_
    · rintro i ⟨x, y, z, m⟩ hi ⟨e1, e2, e3, e4, e5⟩
      have e1 : x = nI (gI2 s (tHo t) i).2 := e1
      have e2 : y = (gI2 s (tHo t) i).1 := e2
      have e3 : z = nI i := e3
      have e4 : CB m 41 s t := e4
      have e5 : Fr (PS 41) μ m := e5
      subst e1; subst e2; subst e3
      have a3 : rI m 2 3 = nI (sS s) := (c1.fr e5 oS).2.2.2.1
      have hle0 := gI2_le p2 (ho := tHo t) i
      have inner : Rn (lp n (sX11_gift_41 n (nI i)) (nI (gI2 s (tHo t) i).2, (gI2 s (tHo t) i).1, 0, m)) (fun r => r.1 = nI (gI2 s (tHo t) (i + 1)).2 ∧ r.2.1 = (gI2 s (tHo t) (i + 1)).1 ∧ Fr (PS 41) μ r.2.2 ∧ ∃ v, CB r.2.2 41 s (giveS t i v)) := by
        refine Rn.l (sP s) (fun p q => q.1 = nI (gI1 s (tHo t) i (gI2 s (tHo t) i) p).2 ∧ q.2.1 = (gI1 s (tHo t) i (gI2 s (tHo t) i) p).1 ∧ q.2.2.1 = nI p ∧ Fr (PS 41) μ q.2.2.2 ∧ ∃ v, CB q.2.2.2 41 s (giveS t i v)) _ (by omega) ⟨rfl, rfl, rfl, e5, tHo t i, CB_self e4 hP⟩ ?_ ?_
        · rintro p ⟨x', y', z', m'⟩ hp ⟨f1, f2, f3, f4, v, f5⟩
          have f1 : x' = nI (gI1 s (tHo t) i (gI2 s (tHo t) i) p).2 := f1
          have f2 : y' = (gI1 s (tHo t) i (gI2 s (tHo t) i) p).1 := f2
          have f3 : z' = nI p := f3
          have f4 : Fr (PS 41) μ m' := f4
          have f5 : CB m' 41 s (giveS t i v) := f5
          subst f1; subst f2; subst f3
          have ep : e6 p = nI p := by unfold e6; rw [if_neg (by omega)]
          have b1 := CB_give2 (p := p) f5 hP
          rw [ep] at b1
          have b1 : CB (wI m' 42 i (nI p)) 41 s (giveS t i p) := b1
          have f6 : Fr (PS 41) μ (wI m' 42 i (nI p)) := f4.w (by unfold PS; omega) _ _
          have a2 : rI m' 2 2 = nI (sP s) := (c1.fr f4 oS).2.2.1
          have mu := f_mutual8 (n := n) (a := 41) (c1.fr f6 oS) p2 b1 (TV_give p5 (Or.inl hp)) (by omega)
          have h35 : rI (wI m' 42 i (nI p)) 35 i = e6 (tHo t i) := (c3.fr f6 o3).2.2.2.2.1 i hi
          have hh : tHo t i ≤ 6 := by rcases p5.2.2.1 i hi with h | h <;> omega
          have z := e6_nI hh (show p < 6 by omega)
          have mle := mutN_le p2 (tHo (giveS t i p))
          have hle := gI1_le p2 (ho := tHo t) (k := i) hle0 p
          have eg : gI1 s (tHo t) i (gI2 s (tHo t) i) (p + 1) = gst s (tHo t) i p (gI1 s (tHo t) i (gI2 s (tHo t) i) p) := rfl
          have fin : ∀ b : Int32 × Nat, gst s (tHo t) i p (gI1 s (tHo t) i (gI2 s (tHo t) i) p) = b → OE (fun q : Int32 × Int32 × Int32 × Mu => q.1 = nI (gI1 s (tHo t) i (gI2 s (tHo t) i) (p + 1)).2 ∧ q.2.1 = (gI1 s (tHo t) i (gI2 s (tHo t) i) (p + 1)).1 ∧ q.2.2.1 = nI (p + 1) ∧ Fr (PS 41) μ q.2.2.2 ∧ ∃ v, CB q.2.2.2 41 s (giveS t i v)) (fun r : Int32 × Int32 × Mu => r.1 = nI (gI2 s (tHo t) (i + 1)).2 ∧ r.2.1 = (gI2 s (tHo t) (i + 1)).1 ∧ Fr (PS 41) μ r.2.2 ∧ ∃ v, CB r.2.2 41 s (giveS t i v)) (.inl (nI b.2, b.1, nI (p + 1), wI m' 42 i (nI p))) := by
            intro b hb
            rw [eg, hb]
            exact ⟨rfl, rfl, rfl, f6, p, b1⟩
          simp (disch := first | omega | decide) only [sX11_gift_41, gd_true, bnd_some, bnd2_some, ix_n, ib_n, add_l, add_r, mul_l, mul_r, nI_add, sub_r, nI_leI, nI_ltI, nI_eq, le_l, le_r, lt_l, lt_r, eq_l, eq_r, eq_m, if_true, if_false, not_false_eq_true, not_true_eq_false, a2, show ¬ sP s ≤ p by omega, mu, h35]
          by_cases k1 : tHo t i = p
          · rw [if_pos (z.mpr k1)]
            exact Rn.so (fin _ (by unfold gst; rw [if_pos k1]))
          · rw [if_neg (fun e => k1 (z.mp e))]
            by_cases k2 : mutN s (tHo (giveS t i p)) ≤ (gI1 s (tHo t) i (gI2 s (tHo t) i) p).2
            · rw [if_pos k2]
              refine Rn.so (fin _ ?_)
              unfold gst
              rw [if_neg k1]
              exact if_neg (fun q => absurd k2 (Nat.not_le.mpr q))
            · rw [if_neg k2]
              refine Rn.so (fin (nI (10 * i + p), mutN s (tHo (giveS t i p))) ?_)
              unfold gst
              rw [if_neg k1]
              exact if_pos (Nat.not_le.mp k2)
        · rintro ⟨x', y', z', m'⟩ ⟨f1, f2, f3, f4, f5⟩
          have f3 : z' = nI (sP s) := f3
          have f4 : Fr (PS 41) μ m' := f4
          subst f3
          have a2 : rI m' 2 2 = nI (sP s) := (c1.fr f4 oS).2.2.1
          exact Rn.e (r := (x', y', m')) (ite_le a2) ⟨f1, f2, f4, f5⟩
      obtain ⟨⟨x', y', m'⟩, h1, h2, h3, h4, v, h5⟩ := inner
      have h2 : x' = nI (gI2 s (tHo t) (i + 1)).2 := h2
      have h3 : y' = (gI2 s (tHo t) (i + 1)).1 := h3
      have h4 : Fr (PS 41) μ m' := h4
      have h5 : CB m' 41 s (giveS t i v) := h5
      subst h2; subst h3
      have h35 : rI m' 35 i = e6 (tHo t i) := (c3.fr h4 o3).2.2.2.2.1 i hi
      simp (disch := first | omega | decide) only [sX11_gift_27, gd_true, bnd_some, bnd2_some, ix_n, ib_n, add_l, add_r, mul_l, mul_r, nI_add, sub_r, nI_leI, nI_ltI, nI_eq, le_l, le_r, lt_l, lt_r, eq_l, eq_r, eq_m, if_true, if_false, not_false_eq_true, not_true_eq_false, a3, show ¬ sS s ≤ i by omega]
      rw [h1, bnd_some]
      simp (disch := first | omega | decide) only [gd_true, bnd_some, bnd2_some, ix_n, ib_n, add_l, add_r, mul_l, mul_r, nI_add, sub_r, nI_leI, nI_ltI, nI_eq, le_l, le_r, lt_l, lt_r, eq_l, eq_r, eq_m, if_true, if_false, not_false_eq_true, not_true_eq_false, h35]
      have b2 : CB (wI m' 42 i (e6 (tHo t i))) 41 s (giveS t i (tHo t i)) := CB_give2 h5 hP
      refine Rn.so ⟨rfl, rfl, rfl, CB_self' b2 hP, h4.w (by unfold PS; omega) _ _⟩
    · rintro ⟨x, y, z, m⟩ ⟨e1, e2, e3, e4, e5⟩
      have e3 : z = nI (sS s) := e3
      have e5 : Fr (PS 41) μ m := e5
      subst e3
      have a3 : rI m 2 3 = nI (sS s) := (c1.fr e5 oS).2.2.2.1
      exact Rn.e (r := (y, m)) (ite_le a3) ⟨e2, e5⟩
  obtain ⟨⟨r, m2⟩, q1, q2, q3⟩ := lc
  have q2 : r = (gI2 s (tHo t) (sS s)).1 := q2
  have q3 : Fr (PS 41) μ m2 := q3
  subst q2
  have mu1 := f_mutual8 (n := n) (a := 34) (c1.fr g3 oS) p2 (c3.fr g3 o3) p5 (by omega)
  refine ⟨(gI2 s (tHo t) (sS s)).1, m2, ?_, ⟨q3.mono fun x q => by unfold PS at q; unfold QC; omega, c2.fr q3 (fun k h1 h2 q => by unfold PS at q; omega)⟩, fun μ' h _ => ?_⟩
  · unfold fX11_gift
    rw [g1, bnd_some, mu1, bnd_some, q1, bnd_some]
  · have h' := h.q (RQ.th _)
    have mu2 := f_mutual12 (n := n) h'.1 p2 h'.2.2.1 p5 (by omega)
    generalize hm : wI μ' 139 0 0 = m0 at h' mu2
    have lr : Rn (lp n (sX12_gift_14 n) (-1, nI (mutN s (tHo t)), 0, m0)) (fun r => r.1 = (gI2 s (tHo t) (sS s)).1 ∧ (∀ i, rI r.2 140 i = rI m0 140 i) ∧ Fg (fun a _ => a = 140) m0 r.2) := by
      refine Rn.l (sS s) (fun i q => q.1 = (gI2 s (tHo t) i).1 ∧ q.2.1 = nI (gI2 s (tHo t) i).2 ∧ q.2.2.1 = nI i ∧ (∀ i, rI q.2.2.2 140 i = rI m0 140 i) ∧ Fg (fun a _ => a = 140) m0 q.2.2.2) _ (by omega) ⟨rfl, rfl, rfl, fun _ => rfl, Fg.rfl' _ _⟩ ?_ ?_
      · rintro i ⟨x, y, z, m⟩ hi ⟨e1, e2, e3, e4, e5⟩
        have e1 : x = (gI2 s (tHo t) i).1 := e1
        have e2 : y = nI (gI2 s (tHo t) i).2 := e2
        have e3 : z = nI i := e3
        have e4 : ∀ i, rI m 140 i = rI m0 140 i := e4
        have e5 : Fg (fun a _ => a = 140) m0 m := e5
        subst e1; subst e2; subst e3
        have hS4 : RS m s := h'.1.congr p2 fun i _ => e4 i
        have hT4 : RT m s t := RB.congr h'.2.2.1 p5 p2 fun j _ => e4 _
        have a3 : rI m 140 4 = nI (sS s) := hS4.2.2.2.2.1
        have hw : rI m 140 (68 + i) = e6 (tHo t i) := by
          have := hT4.2.2.2.2.1 i hi
          rw [show 68 + i = 64 + (4 + i) by omega]; exact this
        have hle0 := gI2_le p2 (ho := tHo t) i
        have hh : tHo t i ≤ 6 := by rcases p5.2.2.1 i hi with h | h <;> omega
        have inner : Rn (lp n (sX12_gift_38 n (nI i) (e6 (tHo t i))) ((gI2 s (tHo t) i).1, nI (gI2 s (tHo t) i).2, 0, m)) (fun r => r.1 = (gI2 s (tHo t) (i + 1)).1 ∧ r.2.1 = nI (gI2 s (tHo t) (i + 1)).2 ∧ Fg (fun a j => a = 140 ∧ j = 68 + i) m r.2.2) := by
          refine Rn.l (sP s) (fun p q => q.1 = (gI1 s (tHo t) i (gI2 s (tHo t) i) p).1 ∧ q.2.1 = nI (gI1 s (tHo t) i (gI2 s (tHo t) i) p).2 ∧ q.2.2.1 = nI p ∧ Fg (fun a j => a = 140 ∧ j = 68 + i) m q.2.2.2 ∧ ∃ v, RT q.2.2.2 s (giveS t i v)) _ (by omega) ⟨rfl, rfl, rfl, Fg.rfl' _ _, tHo t i, RT_self hT4⟩ ?_ ?_
          · rintro p ⟨x', y', z', m'⟩ hp ⟨f1, f2, f3, f4, v, f5⟩
            have f1 : x' = (gI1 s (tHo t) i (gI2 s (tHo t) i) p).1 := f1
            have f2 : y' = nI (gI1 s (tHo t) i (gI2 s (tHo t) i) p).2 := f2
            have f3 : z' = nI p := f3
            have f4 : Fg (fun a j => a = 140 ∧ j = 68 + i) m m' := f4
            have f5 : RT m' s (giveS t i v) := f5
            subst f1; subst f2; subst f3
            have hS5 : RS m' s := hS4.fg p2 f4 (fun j hj q => by omega)
            have a2 : rI m' 140 3 = nI (sP s) := hS5.2.2.2.1
            have z := e6_nI hh (show p < 6 by omega)
            have eg : gI1 s (tHo t) i (gI2 s (tHo t) i) (p + 1) = gst s (tHo t) i p (gI1 s (tHo t) i (gI2 s (tHo t) i) p) := rfl
            have hle := gI1_le p2 (ho := tHo t) (k := i) hle0 p
            by_cases k1 : tHo t i = p
            · simp (disch := first | omega | decide) only [sX12_gift_38, gd_true, bnd_some, bnd2_some, ix_n, ib_n, add_l, add_r, mul_l, mul_r, nI_add, sub_r, nI_leI, nI_ltI, nI_eq, le_l, le_r, lt_l, lt_r, eq_l, eq_r, eq_m, if_true, if_false, not_false_eq_true, not_true_eq_false, a2, show ¬ sP s ≤ p by omega, z.mpr k1]
              refine Rn.so ?_
              show _ ∧ _
              have hb : gst s (tHo t) i p (gI1 s (tHo t) i (gI2 s (tHo t) i) p) = gI1 s (tHo t) i (gI2 s (tHo t) i) p := by unfold gst; rw [if_pos k1]
              rw [eg, hb]
              exact ⟨rfl, rfl, rfl, f4, v, f5⟩
            · have ep : e6 p = nI p := by unfold e6; rw [if_neg (by omega)]
              have b1 := RT_give2 (p := p) f5 p2 hW (show i < 8 by omega)
              rw [ep] at b1
              have f6 : Fg (fun a j => a = 140 ∧ j = 68 + i) m (wI m' 140 (68 + i) (nI p)) := f4.w ⟨rfl, rfl⟩ _
              have mu := f_mutual12 (n := n) (hS4.fg p2 f6 (fun j hj q => by omega)) p2 b1 (TV_give p5 (Or.inl hp)) (by omega)
              have mle := mutN_le p2 (tHo (giveS t i p))
              simp (disch := first | omega | decide) only [sX12_gift_38, gd_true, bnd_some, bnd2_some, ix_n, ib_n, add_l, add_r, mul_l, mul_r, nI_add, sub_r, nI_leI, nI_ltI, nI_eq, le_l, le_r, lt_l, lt_r, eq_l, eq_r, eq_m, if_true, if_false, not_false_eq_true, not_true_eq_false, a2, show ¬ sP s ≤ p by omega, show ¬ nI p = e6 (tHo t i) from fun e => k1 (z.mp e.symm), mu]
              by_cases k2 : (gI1 s (tHo t) i (gI2 s (tHo t) i) p).2 < mutN s (tHo (giveS t i p))
              · rw [if_pos k2]
                refine Rn.so ?_
                show _ ∧ _
                have hb : gst s (tHo t) i p (gI1 s (tHo t) i (gI2 s (tHo t) i) p) = (nI (10 * i + p), mutN s (tHo (giveS t i p))) := by unfold gst; rw [if_neg k1]; exact if_pos k2
                rw [eg, hb]
                exact ⟨rfl, rfl, rfl, f6, p, b1⟩
              · rw [if_neg k2]
                refine Rn.so ?_
                show _ ∧ _
                have hb : gst s (tHo t) i p (gI1 s (tHo t) i (gI2 s (tHo t) i) p) = gI1 s (tHo t) i (gI2 s (tHo t) i) p := by unfold gst; rw [if_neg k1]; exact if_neg k2
                rw [eg, hb]
                exact ⟨rfl, rfl, rfl, f6, p, b1⟩
          · rintro ⟨x', y', z', m'⟩ ⟨f1, f2, f3, f4, f5⟩
            have f3 : z' = nI (sP s) := f3
            have f4 : Fg (fun a j => a = 140 ∧ j = 68 + i) m m' := f4
            subst f3
            have a2 : rI m' 140 3 = nI (sP s) := (hS4.fg p2 f4 (fun j hj q => by omega)).2.2.2.1
            exact Rn.e (r := (x', y', m')) (ite_le a2) ⟨f1, f2, f4⟩
        obtain ⟨⟨x', y', m'⟩, h1, h2, h3, h4⟩ := inner
        have h2 : x' = (gI2 s (tHo t) (i + 1)).1 := h2
        have h3 : y' = nI (gI2 s (tHo t) (i + 1)).2 := h3
        have h4 : Fg (fun a j => a = 140 ∧ j = 68 + i) m m' := h4
        subst h2; subst h3
        simp (disch := first | omega | decide) only [sX12_gift_14, gd_true, bnd_some, bnd2_some, ix_n, ib_n, add_l, add_r, mul_l, mul_r, nI_add, sub_r, nI_leI, nI_ltI, nI_eq, le_l, le_r, lt_l, lt_r, eq_l, eq_r, eq_m, if_true, if_false, not_false_eq_true, not_true_eq_false, a3, show ¬ sS s ≤ i by omega, hw]
        rw [h1, bnd_some]
        simp (disch := first | omega | decide) only [gd_true, bnd_some, bnd2_some, ix_n, ib_n, add_l, add_r, mul_l, mul_r, nI_add, sub_r, nI_leI, nI_ltI, nI_eq, le_l, le_r, lt_l, lt_r, eq_l, eq_r, eq_m, if_true, if_false, not_false_eq_true, not_true_eq_false]
        refine Rn.so ⟨rfl, rfl, rfl, fun j => ?_, e5.tr ((h4.mono fun a j q => q.1).w rfl _)⟩
        show rI (wI m' 140 (68 + i) (e6 (tHo t i))) 140 j = _
        by_cases e : j = 68 + i
        · rw [e, rI_same, ← hw]; exact e4 _
        · rw [rI_ii e, h4.i (by omega)]; exact e4 _
      · rintro ⟨x, y, z, m⟩ ⟨e1, e2, e3, e4, e5⟩
        have e3 : z = nI (sS s) := e3
        have e4 : ∀ i, rI m 140 i = rI m0 140 i := e4
        subst e3
        have a3 : rI m 140 4 = nI (sS s) := by rw [e4]; exact h'.1.2.2.2.2.1
        exact Rn.e (r := (x, m)) (ite_le a3) ⟨e1, e4, e5⟩
    obtain ⟨⟨r, m3⟩, l1, l2, l3, l4⟩ := lr
    have l2 : r = (gI2 s (tHo t) (sS s)).1 := l2
    subst l2
    refine ⟨m3, ?_, ?_⟩
    · unfold fX12_gift
      rw [hm, mu2, bnd_some, l1, bnd_some]
    · rw [← hm] at l3 l4
      refine (RQ.th _).tr ⟨fun a i hi => ?_, fun a i h0 hi => l4.2 a i h0 fun j q => h0 q⟩
      by_cases e : a = 140
      · subst e; exact l3 i
      · exact l4.i e
