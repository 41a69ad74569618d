/-! CALLS: the first hour from one on -/
def nxD (f : Nat → Bool) (n : Nat) : Nat → Nat
  | 0 => if f n = true then n else 100000
  | d + 1 => if f n = true then n else nxD f (n + 1) d
def nxO (f : Nat → Bool) (L n : Nat) : Nat := nxD f n (L - n)
theorem nxD_spec (f : Nat → Bool) : ∀ d n, (∃ m, n ≤ m ∧ m ≤ n + d ∧ nxD f n d = m ∧ f m = true ∧ ∀ j, n ≤ j → j < m → f j = false) ∨ (nxD f n d = 100000 ∧ ∀ j, n ≤ j → j ≤ n + d → f j = false)
  | 0, n => by
    unfold nxD
    by_cases c : f n = true
    · rw [if_pos c]; exact Or.inl ⟨n, Nat.le_refl _, Nat.le_refl _, rfl, c, fun j h1 h2 => by omega⟩
    · rw [if_neg c]
      refine Or.inr ⟨rfl, fun j h1 h2 => ?_⟩
      rw [show j = n by omega]; simpa using c
  | d + 1, n => by
    unfold nxD
    by_cases c : f n = true
    · rw [if_pos c]; exact Or.inl ⟨n, Nat.le_refl _, by omega, rfl, c, fun j h1 h2 => by omega⟩
    · rw [if_neg c]
      have c' : f n = false := by simpa using c
      rcases nxD_spec f d (n + 1) with ⟨m, h1, h2, h3, h4, h5⟩ | ⟨h1, h2⟩
      · refine Or.inl ⟨m, by omega, by omega, h3, h4, fun j h6 h7 => ?_⟩
        by_cases e : j = n
        · rw [e]; exact c'
        · exact h5 j (by omega) h7
      · refine Or.inr ⟨h1, fun j h6 h7 => ?_⟩
        by_cases e : j = n
        · rw [e]; exact c'
        · exact h2 j (by omega) (by omega)
theorem nxO_spec (f : Nat → Bool) {L n : Nat} (h : n ≤ L) : (∃ m, n ≤ m ∧ m ≤ L ∧ nxO f L n = m ∧ f m = true ∧ ∀ j, n ≤ j → j < m → f j = false) ∨ (nxO f L n = 100000 ∧ ∀ j, n ≤ j → j ≤ L → f j = false) := by
  rcases nxD_spec f (L - n) n with ⟨m, h1, h2, h3, h4, h5⟩ | ⟨h1, h2⟩
  · exact Or.inl ⟨m, h1, by omega, h3, h4, h5⟩
  · exact Or.inr ⟨h1, fun j h3 h4 => h2 j h3 (by omega)⟩
theorem nxO_ge {f : Nat → Bool} {L n : Nat} (h : n ≤ L) (hL : L ≤ 71) : n ≤ nxO f L n ∧ nxO f L n ≤ 100000 := by
  rcases nxO_spec f h with ⟨m, h1, h2, h3, -, -⟩ | ⟨h1, -⟩ <;> omega
/-- at or before T: some hour from n on, T at most -/
theorem nxO_le {f : Nat → Bool} {L n T : Nat} (h : n ≤ L) (hT : T ≤ L) (hL : L ≤ 71) : nxO f L n ≤ T ↔ ∃ j, n ≤ j ∧ j ≤ T ∧ f j = true := by
  rcases nxO_spec f h with ⟨m, h1, h2, h3, h4, h5⟩ | ⟨h1, h2⟩
  · rw [h3]
    constructor
    · intro e; exact ⟨m, h1, e, h4⟩
    · rintro ⟨j, j1, j2, j3⟩
      refine Nat.not_lt.mp fun q => ?_
      rw [h5 j j1 (by omega)] at j3; cases j3
  · constructor
    · intro e; omega
    · rintro ⟨j, j1, j2, j3⟩
      rw [h2 j j1 (by omega)] at j3; cases j3
theorem nxO_mono {f : Nat → Bool} {L n n' : Nat} (h : n ≤ n') (h' : n' ≤ L) (hL : L ≤ 71) : nxO f L n ≤ nxO f L n' := by
  rcases nxO_spec f h' with ⟨m, h1, h2, h3, h4, h5⟩ | ⟨h1, h2⟩
  · rw [h3]; exact (nxO_le (by omega) h2 hL).mpr ⟨m, by omega, Nat.le_refl _, h4⟩
  · rw [h1]; exact (nxO_ge (by omega) hL).2
theorem nxO_step {f : Nat → Bool} {L n : Nat} (h : n ≤ L) : nxO f L n = if f n = true then n else if n < L then nxO f L (n + 1) else 100000 := by
  unfold nxO
  by_cases c : n < L
  · rw [show L - n = (L - (n + 1)) + 1 by omega, if_pos c]; rfl
  · rw [show L - n = 0 by omega, if_neg c]; rfl
/-! arrivals, made sooner current by current -/
def updN (a : Nat → Nat) (i v : Nat) : Nat → Nat := fun j => if j = i then v else a j
def relS (s : SD) (L : Nat) (op : Nat → Nat → Bool) (x : Nat → Bool) (a : Nat → Nat) (c : Nat) : Nat → Nat :=
  if x c = true then a else if a (s 1 c) ≤ L then (if nxO (fun m => op m c) L (a (s 1 c)) + s 3 c < a (s 2 c) then updN a (s 2 c) (nxO (fun m => op m c) L (a (s 1 c)) + s 3 c) else a) else a
def rndK (s : SD) (L : Nat) (op : Nat → Nat → Bool) (x : Nat → Bool) (a : Nat → Nat) : Nat → Nat → Nat
  | 0 => a
  | c + 1 => relS s L op x (rndK s L op x a c) c
def rndS (s : SD) (L : Nat) (op : Nat → Nat → Bool) (x : Nat → Bool) (a : Nat → Nat) : Nat → Nat := rndK s L op x a (sC s)
def itS (s : SD) (L : Nat) (op : Nat → Nat → Bool) (x : Nat → Bool) (a : Nat → Nat) : Nat → Nat → Nat
  | 0 => a
  | r + 1 => rndS s L op x (itS s L op x a r)
theorem rel_le {s : SD} {L : Nat} {op : Nat → Nat → Bool} {x : Nat → Bool} {a : Nat → Nat} {c : Nat} (i : Nat) : relS s L op x a c i ≤ a i := by
  unfold relS
  split
  · exact Nat.le_refl _
  · split
    · split
      · unfold updN
        split
        · rename_i h e; rw [e]; omega
        · exact Nat.le_refl _
      · exact Nat.le_refl _
    · exact Nat.le_refl _
theorem rndK_le {s : SD} {L : Nat} {op : Nat → Nat → Bool} {x : Nat → Bool} {a : Nat → Nat} (i : Nat) : ∀ c, rndK s L op x a c i ≤ a i
  | 0 => Nat.le_refl _
  | c + 1 => Nat.le_trans (rel_le i) (rndK_le i c)
theorem rndK_mono {s : SD} {L : Nat} {op : Nat → Nat → Bool} {x : Nat → Bool} {a : Nat → Nat} (i : Nat) {c : Nat} : ∀ d, rndK s L op x a (c + d) i ≤ rndK s L op x a c i
  | 0 => Nat.le_refl _
  | d + 1 => Nat.le_trans (rel_le i) (rndK_mono i d)
/-- what a current gives is taken -/
theorem rel_at {s : SD} {L : Nat} {op : Nat → Nat → Bool} {x : Nat → Bool} {a : Nat → Nat} {c : Nat} (hx : x c = false) (h : a (s 1 c) ≤ L) : relS s L op x a c (s 2 c) ≤ nxO (fun m => op m c) L (a (s 1 c)) + s 3 c := by
  unfold relS
  rw [if_neg (by rw [hx]; decide), if_pos h]
  split
  · unfold updN; rw [if_pos rfl]; exact Nat.le_refl _
  · omega
theorem rnd_at {s : SD} {L : Nat} {op : Nat → Nat → Bool} {x : Nat → Bool} {a : Nat → Nat} {c : Nat} (hc : c < sC s) (hL : L ≤ 71) (hx : x c = false) (h : a (s 1 c) ≤ L) : rndS s L op x a (s 2 c) ≤ nxO (fun m => op m c) L (a (s 1 c)) + s 3 c := by
  unfold rndS
  obtain ⟨d, hd⟩ : ∃ d, sC s = c + 1 + d := ⟨sC s - (c + 1), by omega⟩
  rw [hd]
  refine Nat.le_trans (rndK_mono (s 2 c) d) ?_
  have h1 := rndK_le (s := s) (L := L) (op := op) (x := x) (a := a) (s 1 c) c
  refine Nat.le_trans (rel_at hx (Nat.le_trans h1 h)) ?_
  have := nxO_mono (f := fun m => op m c) (L := L) h1 h hL
  omega
/-- what holds of all arrivals: b at w, each other one by a current -/
def Sup (s : SD) (L : Nat) (op : Nat → Nat → Bool) (x : Nat → Bool) (b w : Nat) (a : Nat → Nat) : Prop := a b = w ∧ (∀ i, a i ≤ 100000) ∧ (∀ i, i ≠ b → w < a i) ∧ ∀ i, i ≠ b → a i < 100000 → ∃ c, c < sC s ∧ x c = false ∧ s 2 c = i ∧ a (s 1 c) ≤ L ∧ nxO (fun m => op m c) L (a (s 1 c)) + s 3 c ≤ a i
theorem Sup.rel {s : SD} {L : Nat} {op : Nat → Nat → Bool} {x : Nat → Bool} {b w : Nat} {a : Nat → Nat} {c : Nat} (hv : SV s) (hL : L ≤ 71) (hw : w ≤ L) (hc : c < sC s) (h : Sup s L op x b w a) : Sup s L op x b w (relS s L op x a c) := by
  obtain ⟨h1, h2, h3, h4⟩ := h
  have hle : ∀ i, relS s L op x a c i ≤ a i := fun i => rel_le i
  have v3 := hv.2.2.2.2.1 c hc
  have hgw : ∀ i, w ≤ a i := fun i => by
    by_cases e : i = b
    · rw [e, h1]; exact Nat.le_refl _
    · exact Nat.le_of_lt (h3 i e)
  -- what a supporter gives stays given
  have keep : ∀ i, i ≠ b → relS s L op x a c i = a i → a i < 100000 → ∃ c', c' < sC s ∧ x c' = false ∧ s 2 c' = i ∧ relS s L op x a c (s 1 c') ≤ L ∧ nxO (fun m => op m c') L (relS s L op x a c (s 1 c')) + s 3 c' ≤ relS s L op x a c i := by
    intro i hi e hlt
    obtain ⟨c', q1, q2, q3, q4, q5⟩ := h4 i hi hlt
    refine ⟨c', q1, q2, q3, Nat.le_trans (hle _) q4, ?_⟩
    have := nxO_mono (f := fun m => op m c') (L := L) (hle (s 1 c')) q4 hL
    omega
  by_cases cx : x c = true
  · have e : relS s L op x a c = a := by unfold relS; rw [if_pos cx]
    rw [e]; exact ⟨h1, h2, h3, h4⟩
  by_cases ca : a (s 1 c) ≤ L
  · by_cases cl : nxO (fun m => op m c) L (a (s 1 c)) + s 3 c < a (s 2 c)
    · have e : relS s L op x a c = updN a (s 2 c) (nxO (fun m => op m c) L (a (s 1 c)) + s 3 c) := by unfold relS; rw [if_neg cx, if_pos ca, if_pos cl]
      have hg := nxO_ge (f := fun m => op m c) (L := L) ca hL
      have hb2 : s 2 c ≠ b := fun q => by rw [q, h1] at cl; have := hgw (s 1 c); omega
      have ev : ∀ i, relS s L op x a c i = if i = s 2 c then nxO (fun m => op m c) L (a (s 1 c)) + s 3 c else a i := fun i => by rw [e]; rfl
      refine ⟨by rw [ev, if_neg (fun q => hb2 q.symm)]; exact h1, fun i => Nat.le_trans (hle i) (h2 i), fun i hi => ?_, fun i hi hlt => ?_⟩
      · rw [ev]
        split
        · have := hgw (s 1 c); omega
        · exact h3 i hi
      · by_cases e2 : i = s 2 c
        · refine ⟨c, hc, by simpa using cx, e2.symm, Nat.le_trans (hle _) ca, ?_⟩
          have m := nxO_mono (f := fun m => op m c) (L := L) (hle (s 1 c)) ca hL
          rw [ev i, if_pos e2]; omega
        · exact keep i hi (by rw [ev, if_neg e2]) (by rw [ev, if_neg e2] at hlt; exact hlt)
    · have e : relS s L op x a c = a := by unfold relS; rw [if_neg cx, if_pos ca, if_neg cl]
      rw [e]; exact ⟨h1, h2, h3, h4⟩
  · have e : relS s L op x a c = a := by unfold relS; rw [if_neg cx, if_neg ca]
    rw [e]; exact ⟨h1, h2, h3, h4⟩
theorem Sup.rk {s : SD} {L : Nat} {op : Nat → Nat → Bool} {x : Nat → Bool} {b w : Nat} {a : Nat → Nat} (hv : SV s) (hL : L ≤ 71) (hw : w ≤ L) (h : Sup s L op x b w a) : ∀ c, c ≤ sC s → Sup s L op x b w (rndK s L op x a c)
  | 0, _ => h
  | c + 1, hc => Sup.rel hv hL hw (by omega) (Sup.rk hv hL hw h c (by omega))
theorem Sup.it {s : SD} {L : Nat} {op : Nat → Nat → Bool} {x : Nat → Bool} {b w : Nat} {a : Nat → Nat} (hv : SV s) (hL : L ≤ 71) (hw : w ≤ L) (h : Sup s L op x b w a) : ∀ r, Sup s L op x b w (itS s L op x a r)
  | 0 => h
  | r + 1 => Sup.rk hv hL hw (Sup.it hv hL hw h r) (sC s) (Nat.le_refl _)
def ar0 (b w : Nat) : Nat → Nat := fun i => if i = b then w else 100000
theorem Sup.zero {s : SD} {L : Nat} {op : Nat → Nat → Bool} {x : Nat → Bool} {b w : Nat} (hw : w ≤ 71) : Sup s L op x b w (ar0 b w) := by
  refine ⟨if_pos rfl, fun i => ?_, fun i hi => ?_, fun i hi h => ?_⟩
  · unfold ar0; split <;> omega
  · unfold ar0; rw [if_neg hi]; omega
  · unfold ar0 at h; rw [if_neg hi] at h; omega
/-! a round that changes nothing; all is settled in six -/
theorem rndK_out {s : SD} {L : Nat} {op : Nat → Nat → Bool} {x : Nat → Bool} {a : Nat → Nat} (hv : SV s) {i : Nat} (hi : sB s ≤ i) : ∀ c, c ≤ sC s → rndK s L op x a c i = a i
  | 0, _ => rfl
  | c + 1, hc => by
    have ih := rndK_out hv hi c (by omega) (s := s) (L := L) (op := op) (x := x) (a := a)
    have v := (hv.2.2.2.2.1 c (by omega)).2.1
    show relS s L op x (rndK s L op x a c) c i = _
    unfold relS updN
    split
    · exact ih
    · split
      · split
        · show (if i = s 2 c then _ else _) = _
          rw [if_neg (by omega)]; exact ih
        · exact ih
      · exact ih
theorem sum_lt {f g : Nat → Nat} : ∀ {n : Nat}, (∀ i, i < n → f i ≤ g i) → (∃ i, i < n ∧ f i < g i) → sumN f n < sumN g n
  | 0, _, ⟨i, hi, _⟩ => absurd hi (Nat.not_lt_zero _)
  | n + 1, h, ⟨i, hi, hl⟩ => by
    have hm : ∀ n', n' ≤ n + 1 → sumN f n' ≤ sumN g n' := by
      intro n'
      induction n' with
      | zero => intro _; exact Nat.le_refl _
      | succ n' ih => intro hh; have := ih (by omega); have := h n' (by omega); unfold sumN; omega
    unfold sumN
    by_cases e : i = n
    · subst e
      have := hm i (by omega); omega
    · have := sum_lt (n := n) (fun i hi => h i (by omega)) ⟨i, by omega, hl⟩
      have := h n (by omega); omega
theorem it_shift {s : SD} {L : Nat} {op : Nat → Nat → Bool} {x : Nat → Bool} {a : Nat → Nat} : ∀ r, itS s L op x (rndS s L op x a) r = itS s L op x a (r + 1)
  | 0 => rfl
  | r + 1 => by show rndS s L op x _ = rndS s L op x _; rw [it_shift r]
theorem fix_ex {s : SD} {L : Nat} {op : Nat → Nat → Bool} {x : Nat → Bool} (hv : SV s) : ∀ m a, sumN a (sB s) ≤ m → ∃ N, rndS s L op x (itS s L op x a N) = itS s L op x a N := by
  intro m
  induction m with
  | zero =>
    intro a h
    refine ⟨0, funext fun i => ?_⟩
    by_cases hi : i < sB s
    · have h0 : ∀ n, n ≤ sB s → sumN a n ≤ sumN a (sB s) := by
        intro n hn
        obtain ⟨d, hd⟩ : ∃ d, sB s = n + d := ⟨sB s - n, by omega⟩
        rw [hd]
        clear hd hn
        induction d with
        | zero => exact Nat.le_refl _
        | succ d ih => exact Nat.le_trans ih (Nat.le_add_right _ _)
      have h1 := h0 (i + 1) (by omega)
      have : sumN a (i + 1) = sumN a i + a i := rfl
      have h2 : rndS s L op x a i ≤ a i := rndK_le i _
      show rndS s L op x a i = a i
      omega
    · exact rndK_out hv (by omega) _ (Nat.le_refl _)
  | succ m ih =>
    intro a h
    by_cases c : rndS s L op x a = a
    · exact ⟨0, c⟩
    · have hex : ∃ i, i < sB s ∧ rndS s L op x a i < a i := by
        refine Classical.byContradiction fun hh => c (funext fun i => ?_)
        by_cases hi : i < sB s
        · have h2 : rndS s L op x a i ≤ a i := rndK_le i _
          by_cases e : rndS s L op x a i < a i
          · exact absurd ⟨i, hi, e⟩ hh
          · omega
        · exact rndK_out hv (by omega) _ (Nat.le_refl _)
      have hl := sum_lt (n := sB s) (fun i _ => rndK_le (s := s) (L := L) (op := op) (x := x) (a := a) i (sC s)) hex
      have hl : sumN (rndS s L op x a) (sB s) < sumN a (sB s) := hl
      obtain ⟨N, hN⟩ := ih (rndS s L op x a) (by omega)
      rw [it_shift] at hN
      exact ⟨N + 1, hN⟩
theorem it_mono {s : SD} {L : Nat} {op : Nat → Nat → Bool} {x : Nat → Bool} {a : Nat → Nat} (i : Nat) {r : Nat} : ∀ d, itS s L op x a (r + d) i ≤ itS s L op x a r i
  | 0 => Nat.le_refl _
  | d + 1 => Nat.le_trans (rndK_le i _) (it_mono i d)
theorem it_fix {s : SD} {L : Nat} {op : Nat → Nat → Bool} {x : Nat → Bool} {a : Nat → Nat} {r : Nat} (h : rndS s L op x (itS s L op x a r) = itS s L op x a r) : ∀ d, itS s L op x a (r + d) = itS s L op x a r
  | 0 => rfl
  | d + 1 => by show rndS s L op x (itS s L op x a (r + d)) = _; rw [it_fix h d, h]
theorem least_ex {P : Nat → Prop} {g : Nat → Nat} {n : Nat} (h : ∃ i, i < n ∧ P i) : ∃ i, i < n ∧ P i ∧ ∀ j, j < n → P j → g i ≤ g j := by
  have key : ∀ m, ∀ i, i < n → P i → g i ≤ m → ∃ i, i < n ∧ P i ∧ ∀ j, j < n → P j → g i ≤ g j := by
    intro m
    induction m with
    | zero => intro i h1 h2 h3; exact ⟨i, h1, h2, fun j _ _ => by omega⟩
    | succ m ih =>
      intro i h1 h2 h3
      by_cases c : ∃ j, j < n ∧ P j ∧ g j < g i
      · obtain ⟨j, j1, j2, j3⟩ := c
        exact ih j j1 j2 (by omega)
      · exact ⟨i, h1, h2, fun j j1 j2 => Nat.not_lt.mp fun q => c ⟨j, j1, j2, q⟩⟩
  obtain ⟨i, h1, h2⟩ := h
  exact key (g i) i h1 h2 (Nat.le_refl _)
/-- six rounds do -/
theorem bf_fix {s : SD} {L : Nat} {op : Nat → Nat → Bool} {x : Nat → Bool} {b w : Nat} (hv : SV s) (hL : L ≤ 71) (hw : w ≤ L) (hb : b < sB s) : rndS s L op x (itS s L op x (ar0 b w) 6) = itS s L op x (ar0 b w) 6 := by
  have hB := hv.1.2
  obtain ⟨N, hN⟩ := fix_ex (L := L) (op := op) (x := x) hv _ (ar0 b w) (Nat.le_refl _)
  have h0 : Sup s L op x b w (ar0 b w) := Sup.zero (by omega)
  have hS := Sup.it hv hL hw h0 N
  -- below all
  have low : ∀ r i, itS s L op x (ar0 b w) N i ≤ itS s L op x (ar0 b w) r i := by
    intro r i
    by_cases c : r ≤ N
    · obtain ⟨d, rfl⟩ : ∃ d, N = r + d := ⟨N - r, by omega⟩
      exact it_mono i d
    · obtain ⟨d, rfl⟩ : ∃ d, r = N + d := ⟨r - N, by omega⟩
      rw [it_fix hN d]; exact Nat.le_refl _
  generalize hz : itS s L op x (ar0 b w) N = z at hN hS low
  -- how many are settled
  have cntS : ∀ r, (∀ i, i < sB s → itS s L op x (ar0 b w) r i = z i) ∨ r + 1 ≤ cnt (fun i => decide (itS s L op x (ar0 b w) r i = z i)) (sB s) := by
    intro r
    induction r with
    | zero =>
      right
      have : cnt (fun _ => false) (sB s) < cnt (fun i => decide (itS s L op x (ar0 b w) 0 i = z i)) (sB s) := cnt_lt (fun i _ h => by cases h) ⟨b, hb, decide_eq_true (by
        show ar0 b w b = z b
        rw [hS.1]; exact if_pos rfl), rfl⟩
      omega
    | succ r ih =>
      have keep : ∀ i, itS s L op x (ar0 b w) r i = z i → itS s L op x (ar0 b w) (r + 1) i = z i := fun i e => by
        have h1 := low (r + 1) i
        have h2 : itS s L op x (ar0 b w) (r + 1) i ≤ itS s L op x (ar0 b w) r i := it_mono i 1
        omega
      rcases ih with h | h
      · exact Or.inl fun i hi => keep i (h i hi)
      · by_cases c : ∃ i, i < sB s ∧ itS s L op x (ar0 b w) r i ≠ z i
        · right
          obtain ⟨i, i1, i2, i3⟩ := least_ex (P := fun i => itS s L op x (ar0 b w) r i ≠ z i) (g := z) c
          have hSr := Sup.it hv hL hw h0 r
          have hib : i ≠ b := fun e => by rw [e, hSr.1, hS.1] at i2; exact i2 rfl
          have hlt : z i < 100000 := by
            have h1 := low r i
            have h2 := hSr.2.1 i
            omega
          obtain ⟨c', q1, q2, q3, q4, q5⟩ := hS.2.2.2 i hib hlt
          have v := hv.2.2.2.2.1 c' q1
          have hg := nxO_ge (f := fun m => op m c') (L := L) q4 hL
          have hset : itS s L op x (ar0 b w) r (s 1 c') = z (s 1 c') := by
            refine Classical.byContradiction fun hh => ?_
            have := i3 (s 1 c') v.1 hh
            omega
          have hnew : itS s L op x (ar0 b w) (r + 1) i ≤ z i := by
            rw [← q3]
            refine Nat.le_trans (rnd_at q1 hL q2 (by rw [hset]; exact q4)) ?_
            rw [hset, q3]; exact q5
          have := cnt_lt (n := sB s) (f := fun i => decide (itS s L op x (ar0 b w) r i = z i)) (g := fun i => decide (itS s L op x (ar0 b w) (r + 1) i = z i)) (fun j _ h => decide_eq_true (keep j (of_decide_eq_true h))) ⟨i, i1, decide_eq_true (by have := low (r + 1) i; omega), decide_eq_false i2⟩
          omega
        · left
          intro i hi
          refine keep i (Classical.byContradiction fun hh => c ⟨i, hi, hh⟩)
  have all5 : ∀ i, i < sB s → itS s L op x (ar0 b w) 6 i = z i := by
    rcases cntS 6 with h | h
    · exact h
    · have := cnt_le (fun i => decide (itS s L op x (ar0 b w) 6 i = z i)) (sB s)
      omega
  have eq : itS s L op x (ar0 b w) 6 = z := by
    funext i
    by_cases hi : i < sB s
    · exact all5 i hi
    · have o : ∀ r, itS s L op x (ar0 b w) r i = ar0 b w i := by
        intro r
        induction r with
        | zero => rfl
        | succ r ih => exact (rndK_out hv (by omega) _ (Nat.le_refl _)).trans ih
      rw [o, ← hz, o]
  rw [eq]; exact hN
