/-! CALLS: the simulation against the arrivals -/
def opS (s : SD) (t : ST) (n c : Nat) : Bool := openS s (tH t + n) (gk (tG t) n) c
def liS (s : SD) (t : ST) (n p : Nat) : Bool := lisS s (tH t + n) (gk (tG t) n) p 0
def noW (t : ST) : ST := ((tH t, tG t, tX t, 0), tHo t, tAt t, tWe t, tHe t, tLe t)
def caS (s : SD) (x : Nat → Bool) (t : ST) (b w n : Nat) : ST := hoursS s x n (whisS (hoursS s x w (noW t)) b)
def arS (s : SD) (x : Nat → Bool) (t : ST) (L b w : Nat) : Nat → Nat := itS s L (opS s t) x (ar0 b w) 6
def depS (s : SD) (x : Nat → Bool) (t : ST) (L b w c : Nat) : Nat := if x c = true then 100000 else if arS s x t L b w (s 1 c) ≤ L then nxO (fun m => opS s t m c) L (arS s x t L b w (s 1 c)) else 100000
def mnK (aud : Nat → Bool) (a : Nat → Nat) : Nat → Nat
  | 0 => 100000
  | k + 1 => if aud k = true then min (mnK aud a k) (a k) else mnK aud a k
theorem mn_le {aud : Nat → Bool} {a : Nat → Nat} {T : Nat} (hT : T < 100000) : ∀ {k : Nat}, mnK aud a k ≤ T ↔ ∃ i, i < k ∧ aud i = true ∧ a i ≤ T
  | 0 => by
    unfold mnK
    constructor
    · intro h; omega
    · rintro ⟨i, hi, -⟩; omega
  | k + 1 => by
    have ih := mn_le (aud := aud) (a := a) hT (k := k)
    unfold mnK
    by_cases c : aud k = true
    · rw [if_pos c, show (min (mnK aud a k) (a k) ≤ T) = (mnK aud a k ≤ T ∨ a k ≤ T) from propext (by omega), ih]
      constructor
      · rintro (⟨i, h1, h2, h3⟩ | h)
        · exact ⟨i, by omega, h2, h3⟩
        · exact ⟨k, by omega, c, h⟩
      · rintro ⟨i, h1, h2, h3⟩
        by_cases e : i = k
        · right; rw [← e]; exact h3
        · left; exact ⟨i, by omega, h2, h3⟩
    · rw [if_neg c, ih]
      constructor
      · rintro ⟨i, h1, h2, h3⟩; exact ⟨i, by omega, h2, h3⟩
      · rintro ⟨i, h1, h2, h3⟩
        by_cases e : i = k
        · rw [e] at h2; exact absurd h2 c
        · exact ⟨i, by omega, h2, h3⟩
theorem mn_bd {aud : Nat → Bool} {a : Nat → Nat} : ∀ k, mnK aud a k ≤ 100000
  | 0 => Nat.le_refl _
  | k + 1 => by
    have := mn_bd (aud := aud) (a := a) k
    unfold mnK
    split <;> omega
/-- the hour in which p hears what comes to it in hour τ -/
def hfS (s : SD) (t : ST) (L w τ p : Nat) : Nat := if max τ (w + 1) ≤ L then nxO (fun m => liS s t m p) L (max τ (w + 1)) else 100000
def hhS (s : SD) (x : Nat → Bool) (t : ST) (L b w p : Nat) : Nat := hfS s t L w (mnK (audS s (tHo t) p) (arS s x t L b w) (sB s)) p
theorem hf_le {s : SD} {t : ST} {L w τ p T : Nat} (hL : L ≤ 71) (hT : T ≤ L) : hfS s t L w τ p ≤ T ↔ ∃ j, τ ≤ j ∧ w + 1 ≤ j ∧ j ≤ T ∧ liS s t j p = true := by
  unfold hfS
  by_cases c : max τ (w + 1) ≤ L
  · rw [if_pos c, nxO_le c hT hL]
    constructor
    · rintro ⟨j, h1, h2, h3⟩; exact ⟨j, by omega, by omega, h2, h3⟩
    · rintro ⟨j, h1, h2, h3, h4⟩; exact ⟨j, by omega, h3, h4⟩
  · rw [if_neg c]
    constructor
    · intro h; omega
    · rintro ⟨j, h1, h2, h3, h4⟩; omega
theorem gl_gk (G k : Nat) : gl (G - k) = gk G k := by
  unfold gl gk
  by_cases c : k < G
  · rw [if_pos c, if_pos (by omega)]
  · rw [if_neg c, if_neg (by omega)]
theorem noW_hours (s : SD) (x : Nat → Bool) (t : ST) : ∀ w, tH (hoursS s x w (noW t)) = tH t + w ∧ tG (hoursS s x w (noW t)) = tG t - w ∧ tW (hoursS s x w (noW t)) = 0 ∧ tHo (hoursS s x w (noW t)) = tHo t
  | 0 => ⟨rfl, rfl, rfl, rfl⟩
  | w + 1 => by
    obtain ⟨h1, h2, h3, h4⟩ := noW_hours s x t w
    exact ⟨by show tH (hoursS s x w (noW t)) + 1 = _; omega, by show tG (hoursS s x w (noW t)) - 1 = _; omega, h3, h4⟩
theorem ar_sup {s : SD} {x : Nat → Bool} {t : ST} {L b w : Nat} (hv : SV s) (hL : L ≤ 71) (hw : w ≤ L) : Sup s L (opS s t) x b w (arS s x t L b w) := Sup.it hv hL hw (Sup.zero (by omega)) 6
theorem ar_to {s : SD} {x : Nat → Bool} {t : ST} {L b w c : Nat} (hv : SV s) (hL : L ≤ 71) (hw : w ≤ L) (hb : b < sB s) (hc : c < sC s) (h : depS s x t L b w c ≤ L) : arS s x t L b w (s 2 c) ≤ depS s x t L b w c + s 3 c := by
  unfold depS at h ⊢
  by_cases cx : x c = true
  · rw [if_pos cx] at h; omega
  · rw [if_neg cx] at h ⊢
    by_cases ca : arS s x t L b w (s 1 c) ≤ L
    · rw [if_pos ca] at h ⊢
      have z := rnd_at (s := s) (L := L) (op := opS s t) (x := x) (a := arS s x t L b w) hc hL (by simpa using cx) ca
      rw [show rndS s L (opS s t) x (arS s x t L b w) = arS s x t L b w from bf_fix hv hL hw hb] at z
      exact z
    · rw [if_neg ca] at h; omega
theorem ar_by {s : SD} {x : Nat → Bool} {t : ST} {L b w i T : Nat} (hv : SV s) (hL : L ≤ 71) (hw : w ≤ L) (hb : b < sB s) (hi : i ≠ b) (hT : T < 100000) (h : arS s x t L b w i = T) : ∃ c, c < sC s ∧ s 2 c = i ∧ depS s x t L b w c + s 3 c = T ∧ depS s x t L b w c ≤ L := by
  have hS := ar_sup (s := s) (x := x) (t := t) (L := L) (b := b) (w := w) hv hL hw
  obtain ⟨c, h1, h2, h3, h4, h5⟩ := hS.2.2.2 i hi (by omega)
  have v := hv.2.2.2.2.1 c h1
  have ed : depS s x t L b w c = nxO (fun m => opS s t m c) L (arS s x t L b w (s 1 c)) := by unfold depS; rw [if_neg (by rw [h2]; decide), if_pos h4]
  have dl : depS s x t L b w c ≤ L := by
    rw [ed]
    rcases nxO_spec (fun m => opS s t m c) h4 with ⟨m, -, m2, m3, -, -⟩ | ⟨m1, -⟩
    · omega
    · omega
  have z := ar_to hv hL hw hb h1 dl
  rw [h3] at z
  exact ⟨c, h1, h3, by omega, dl⟩
/-- when a word goes out by a current -/
theorem dep_eq {s : SD} {x : Nat → Bool} {t : ST} {L b w c T : Nat} (hL : L ≤ 71) (hT : T ≤ L) : depS s x t L b w c = T ↔ (x c = false ∧ arS s x t L b w (s 1 c) ≤ T ∧ opS s t T c = true ∧ ¬ depS s x t L b w c < T) := by
  unfold depS
  by_cases cx : x c = true
  · rw [if_pos cx]
    constructor
    · intro h; omega
    · rintro ⟨h, -⟩; rw [h] at cx; cases cx
  · have cx' : x c = false := by simpa using cx
    rw [if_neg cx]
    by_cases ca : arS s x t L b w (s 1 c) ≤ L
    · rw [if_pos ca]
      rcases nxO_spec (fun m => opS s t m c) ca with ⟨m, h1, h2, h3, h4, h5⟩ | ⟨h1, h2⟩
      · rw [h3]
        constructor
        · intro e; subst e; exact ⟨cx', h1, h4, by omega⟩
        · rintro ⟨-, q1, q2, q3⟩
          refine Classical.byContradiction fun hh => ?_
          rw [h5 T q1 (by omega)] at q2; cases q2
      · rw [h1]
        constructor
        · intro e; omega
        · rintro ⟨-, q1, q2, -⟩
          rw [h2 T q1 hT] at q2; cases q2
    · rw [if_neg ca]
      constructor
      · intro e; omega
      · rintro ⟨-, q1, -⟩; omega
/-- what stands n hours behind the whispering -/
def SimS (s : SD) (x : Nat → Bool) (t : ST) (L b w n : Nat) (u : ST) : Prop := tH u = tH t + (w + n) ∧ tG u = tG t - (w + n) ∧ tW u = 1 ∧ tHo u = tHo t ∧ (∀ i, i < sB s → tAt u 0 i = decide (arS s x t L b w i ≤ w + n)) ∧ (∀ c, c < sC s → tWe u 0 c = decide (depS s x t L b w c < w + n) ∧ tLe u 0 c = if depS s x t L b w c < w + n ∧ w + n < depS s x t L b w c + s 3 c then depS s x t L b w c + s 3 c - (w + n) else 0) ∧ ∀ p, p < sP s → tHe u 0 p = decide (hhS s x t L b w p ≤ w + n)
theorem sim_0 {s : SD} {x : Nat → Bool} {t : ST} {L b w : Nat} (hv : SV s) (hL : L ≤ 71) (hw : w ≤ L) (hb : b < sB s) : SimS s x t L b w 0 (caS s x t b w 0) := by
  obtain ⟨h1, h2, h3, h4⟩ := noW_hours s x t w
  have hS := ar_sup (s := s) (x := x) (t := t) (L := L) (b := b) (w := w) hv hL hw
  have e0 : caS s x t b w 0 = whisS (hoursS s x w (noW t)) b := rfl
  have dge : ∀ c, w ≤ depS s x t L b w c := by
    intro c
    unfold depS
    split
    · omega
    · split
      · rename_i q1 q2
        have := (nxO_ge (f := fun m => opS s t m c) (L := L) q2 hL).1
        by_cases e : s 1 c = b
        · rw [e, hS.1] at this ⊢; exact this
        · have := hS.2.2.1 _ e; omega
      · omega
  rw [e0]
  refine ⟨h1, h2, by show tW (hoursS s x w (noW t)) + 1 = 1; omega, h4, fun i hi => ?_, fun c hc => ⟨?_, ?_⟩, fun p hp => ?_⟩
  · show (if (0 : Nat) = tW (hoursS s x w (noW t)) then decide (i = b) else _) = _
    rw [h3, if_pos rfl]
    by_cases e : i = b
    · rw [e, hS.1]; simp
    · have := hS.2.2.1 i e
      rw [decide_eq_false e, decide_eq_false (by omega)]
  · show (if (0 : Nat) = tW (hoursS s x w (noW t)) then false else _) = _
    rw [h3, if_pos rfl]
    have := dge c
    rw [decide_eq_false (by omega)]
  · show (if (0 : Nat) = tW (hoursS s x w (noW t)) then 0 else _) = _
    rw [h3, if_pos rfl]
    have := dge c
    rw [if_neg (by omega)]
  · show (if (0 : Nat) = tW (hoursS s x w (noW t)) then false else _) = _
    rw [h3, if_pos rfl]
    symm
    refine decide_eq_false fun q => ?_
    obtain ⟨j, j1, j2, j3, j4⟩ := (hf_le hL (show w + 0 ≤ L by omega)).mp q
    omega
theorem sim_s {s : SD} {x : Nat → Bool} {t : ST} {L b w n : Nat} {u : ST} (hv : SV s) (hL : L ≤ 71) (hw : w + (n + 1) ≤ L) (hb : b < sB s) (h : SimS s x t L b w n u) : SimS s x t L b w (n + 1) (hourS s x u) := by
  obtain ⟨h1, h2, h3, h4, h5, h6, h7⟩ := h
  have hC := hv.2.1
  have hS := ar_sup (s := s) (x := x) (t := t) (L := L) (b := b) (w := w) hv hL (by omega)
  -- goes
  have go : ∀ c, c < sC s → goesS s x u 0 c = decide (depS s x t L b w c = w + n) := by
    intro c hc
    have v := hv.2.2.2.2.1 c hc
    unfold goesS
    have eo : openS s (tH u) (gl (tG u)) c = opS s t (w + n) c := by unfold opS; rw [h1, h2, gl_gk]
    rw [eo, h5 _ v.1, (h6 c hc).1]
    have z := dep_eq (s := s) (x := x) (t := t) (L := L) (b := b) (w := w) (c := c) (T := w + n) hL (by omega)
    by_cases e : depS s x t L b w c = w + n
    · obtain ⟨q1, q2, q3, q4⟩ := z.mp e
      rw [decide_eq_true e, q1, q3, decide_eq_true q2, decide_eq_false q4, decide_eq_true hc]; rfl
    · rw [decide_eq_false e]
      refine Bool.eq_false_iff.mpr fun q => e (z.mpr ?_)
      simp only [Bool.and_eq_true, Bool.not_eq_true', decide_eq_true_eq, decide_eq_false_iff_not] at q
      exact ⟨q.2.2.2.2, q.2.1, q.2.2.1, q.2.2.2.1⟩
  -- what is left behind the going out
  have le : ∀ c, c < sC s → le1S s x u 0 c = if depS s x t L b w c ≤ w + n ∧ w + n < depS s x t L b w c + s 3 c then depS s x t L b w c + s 3 c - (w + n) else 0 := by
    intro c hc
    have v := hv.2.2.2.2.1 c hc
    unfold le1S
    rw [go c hc, (h6 c hc).2]
    by_cases e : depS s x t L b w c = w + n
    · rw [if_pos (decide_eq_true e), if_pos (by omega)]; omega
    · rw [if_neg (by simpa using e)]
      by_cases e2 : depS s x t L b w c < w + n ∧ w + n < depS s x t L b w c + s 3 c
      · rw [if_pos e2, if_pos (by omega)]
      · rw [if_neg e2, if_neg (by omega)]
  have at1 : ∀ i, i < sB s → at1S s x u 0 i = decide (arS s x t L b w i ≤ w + (n + 1)) := by
    intro i hi
    unfold at1S
    rw [h5 i hi]
    have any : anyB (fun c => decide (le1S s x u 0 c = 1) && decide (s 2 c = i)) (sC s) = true ↔ ∃ c, c < sC s ∧ s 2 c = i ∧ depS s x t L b w c + s 3 c = w + (n + 1) ∧ depS s x t L b w c ≤ L := by
      rw [anyB_iff]
      constructor
      · rintro ⟨c, q1, q2⟩
        simp only [Bool.and_eq_true, decide_eq_true_eq] at q2
        have z := le c q1
        rw [q2.1] at z
        by_cases e : depS s x t L b w c ≤ w + n ∧ w + n < depS s x t L b w c + s 3 c
        · rw [if_pos e] at z
          exact ⟨c, q1, q2.2, by omega, by omega⟩
        · rw [if_neg e] at z; cases z
      · rintro ⟨c, q1, q2, q3, q4⟩
        have v := hv.2.2.2.2.1 c q1
        refine ⟨c, q1, ?_⟩
        simp only [Bool.and_eq_true, decide_eq_true_eq]
        refine ⟨?_, q2⟩
        rw [le c q1, if_pos (by omega)]; omega
    by_cases e : arS s x t L b w i ≤ w + (n + 1)
    · rw [decide_eq_true e]
      by_cases e2 : arS s x t L b w i ≤ w + n
      · rw [decide_eq_true e2]; rfl
      · have hib : i ≠ b := fun q => by rw [q, hS.1] at e2; omega
        obtain ⟨c, q1, q2, q3, q4⟩ := ar_by (x := x) (t := t) (L := L) (w := w) hv hL (by omega) hb hib (T := w + (n + 1)) (by omega) (by omega)
        rw [any.mpr ⟨c, q1, q2, q3, q4⟩]; simp
    · rw [decide_eq_false e, decide_eq_false (show ¬ arS s x t L b w i ≤ w + n by omega)]
      refine Bool.eq_false_iff.mpr fun q => ?_
      have q : anyB (fun c => decide (le1S s x u 0 c = 1) && decide (s 2 c = i)) (sC s) = true := by simpa using q
      obtain ⟨c, q1, q2, q3, q4⟩ := any.mp q
      have z := ar_to hv hL (by omega) hb q1 q4
      rw [q2] at z; omega
  refine ⟨by show tH u + 1 = _; omega, by show tG u - 1 = _; omega, h3, h4, at1, fun c hc => ⟨?_, ?_⟩, fun p hp => ?_⟩
  · show (tWe u 0 c || goesS s x u 0 c) = _
    rw [(h6 c hc).1, go c hc]
    by_cases e : depS s x t L b w c < w + (n + 1)
    · rw [decide_eq_true e]
      by_cases e2 : depS s x t L b w c = w + n
      · rw [decide_eq_true e2]; simp
      · rw [decide_eq_true (show depS s x t L b w c < w + n by omega)]; rfl
    · rw [decide_eq_false e, decide_eq_false (show ¬ depS s x t L b w c < w + n by omega), decide_eq_false (show ¬ depS s x t L b w c = w + n by omega)]; rfl
  · show le1S s x u 0 c - 1 = _
    have v := hv.2.2.2.2.1 c hc
    rw [le c hc]
    by_cases e : depS s x t L b w c < w + (n + 1) ∧ w + (n + 1) < depS s x t L b w c + s 3 c
    · rw [if_pos e, if_pos (by omega)]; omega
    · rw [if_neg e]
      by_cases e2 : depS s x t L b w c ≤ w + n ∧ w + n < depS s x t L b w c + s 3 c
      · rw [if_pos e2]; omega
      · rw [if_neg e2]
  · show (tHe u 0 p || (lisS s (tH u + 1) (gl (tG u - 1)) p (hdS u p) && anyB (fun i => at1S s x u 0 i && audS s (tHo u) p i) (sB s))) = _
    rw [h7 p hp]
    have hd : hdS u p = if tHe u 0 p = true then 1 else 0 := by
      unfold hdS; rw [h3]
      show 0 + (if tHe u 0 p = true then 1 else 0) = _
      omega
    have hh := hf_le (s := s) (t := t) (w := w) (τ := mnK (audS s (tHo t) p) (arS s x t L b w) (sB s)) (p := p) hL (show w + n ≤ L by omega)
    have hh2 := hf_le (s := s) (t := t) (w := w) (τ := mnK (audS s (tHo t) p) (arS s x t L b w) (sB s)) (p := p) hL hw
    have any : anyB (fun i => at1S s x u 0 i && audS s (tHo u) p i) (sB s) = true ↔ mnK (audS s (tHo t) p) (arS s x t L b w) (sB s) ≤ w + (n + 1) := by
      rw [anyB_iff, mn_le (by omega)]
      constructor
      · rintro ⟨i, q1, q2⟩
        simp only [Bool.and_eq_true] at q2
        rw [at1 i q1, h4] at q2
        exact ⟨i, q1, q2.2, of_decide_eq_true q2.1⟩
      · rintro ⟨i, q1, q2, q3⟩
        refine ⟨i, q1, ?_⟩
        rw [at1 i q1, h4, q2, decide_eq_true q3]; rfl
    by_cases e : hhS s x t L b w p ≤ w + n
    · rw [decide_eq_true e]
      obtain ⟨j, j1, j2, j3, j4⟩ := hh.mp e
      have e2 : hhS s x t L b w p ≤ w + (n + 1) := hh2.mpr ⟨j, j1, j2, by omega, j4⟩
      rw [decide_eq_true e2]; rfl
    · have e0 : tHe u 0 p = false := by rw [h7 p hp]; exact decide_eq_false e
      rw [decide_eq_false e, Bool.false_or, hd, e0]
      have el : lisS s (tH u + 1) (gl (tG u - 1)) p (if false = true then 1 else 0) = liS s t (w + (n + 1)) p := by
        unfold liS
        rw [h1, h2, show tG t - (w + n) - 1 = tG t - (w + (n + 1)) by omega, gl_gk, show tH t + (w + n) + 1 = tH t + (w + (n + 1)) by omega]
        rfl
      rw [el]
      by_cases e2 : hhS s x t L b w p ≤ w + (n + 1)
      · rw [decide_eq_true e2]
        obtain ⟨j, j1, j2, j3, j4⟩ := hh2.mp e2
        have ej : j = w + (n + 1) := by
          refine Classical.byContradiction fun q => e (hh.mpr ⟨j, j1, j2, by omega, j4⟩)
        subst ej
        rw [j4, any.mpr j1]; rfl
      · rw [decide_eq_false e2]
        refine Bool.eq_false_iff.mpr fun q => e2 (hh2.mpr ?_)
        simp only [Bool.and_eq_true] at q
        exact ⟨w + (n + 1), any.mp q.2, by omega, Nat.le_refl _, q.1⟩
theorem sim {s : SD} {x : Nat → Bool} {t : ST} {L b w : Nat} (hv : SV s) (hL : L ≤ 71) (hb : b < sB s) : ∀ n, w + n ≤ L → SimS s x t L b w n (caS s x t b w n)
  | 0, h => sim_0 hv hL (by omega) hb
  | n + 1, h => sim_s hv hL h hb (sim hv hL hb n (by omega))
