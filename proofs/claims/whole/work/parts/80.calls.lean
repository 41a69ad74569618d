/-! CALLS: the class -/
theorem f_fillI {n a N : Nat} {v : Int32} (μ : Mu) (hN : N < 2147483648) (hn : N < n) : ∃ μ', fJ7_fill_53178 n a N v μ = some μ' ∧ (∀ k, k < N → rI μ' a k = v) ∧ Fr (fun x => x = a) μ μ' := by
  have key : Rn (lp n (sJ7_fill_53178_5 n a N v (Int32.ofNat N)) (0, μ)) (fun m => (∀ k, k < N → rI m a k = v) ∧ Fr (fun x => x = a) μ m) := by
    refine Rn.l N (fun i q => q.1 = nI i ∧ (∀ k, k < i → rI q.2 a k = v) ∧ Fr (fun x => x = a) μ q.2) _ hn ⟨rfl, fun k hk => absurd hk (Nat.not_lt_zero _), Fr.rfl' _ _⟩ ?_ ?_
    · rintro i ⟨x, m⟩ hi ⟨e1, e2, e3⟩
      have e1 : x = nI i := e1
      subst e1
      have e2 : ∀ k, k < i → rI m a k = v := e2
      show Rn (if nI N ≤ nI i then _ else _) _
      rw [if_neg (fun e => by have := (nI_leI (by omega) (by omega)).mp e; omega), ib_n hi (by omega), gd_true, ix_n (by omega)]
      refine Rn.so ⟨nI_add i 1, fun k hk => ?_, e3.w rfl _ _⟩
      show rI (wI m a i v) a k = v
      by_cases e : k = i
      · rw [e, rI_same]
      · rw [rI_ii e]; exact e2 k (by omega)
    · rintro ⟨x, m⟩ ⟨e1, e2, e3⟩
      have e1 : x = nI N := e1
      subst e1
      exact Rn.e (r := m) (ite_le rfl) ⟨e2, e3⟩
  obtain ⟨m, h1, h2, h3⟩ := key
  exact ⟨m, by unfold fJ7_fill_53178; rw [h1, bnd_some], h2, h3⟩
def TB (μ : Mu) (a K L : Nat) (f : Nat → Nat → Bool) (lo : Nat → Nat) : Prop := ∀ c k, c < K → lo c ≤ k → k ≤ L → rI μ a (c * 72 + k) = nI (nxO (fun m => f m c) L k)
def LA (μ : Mu) (s : SD) (t : ST) (L : Nat) : Prop := rI μ 120 6 = nI L ∧ TB μ 121 (sC s) L (opS s t) (fun _ => 0) ∧ TB μ 122 (sP s) L (liS s t) (fun _ => 0)
theorem f_fill1 {n a N row k L : Nat} {f : Nat → Bool} {m : Mu} (h120 : rI m 120 6 = nI L) (hk : k ≤ L) (hL : L ≤ 71) (hN : row + L < N) (hN2 : N ≤ 720) (hnext : k < L → rI m a (row + k + 1) = nI (nxO f L (k + 1))) : fX0_fillIn n a N (nI row) (nI k) (if f k = true then 1 else 0) m = some (wI m a (row + k) (nI (nxO f L k))) := by
  unfold fX0_fillIn jX0_fillIn_38
  rw [nxO_step hk, ifb, h120]
  by_cases c : f k = true
  · rw [if_pos c, if_pos c]
    simp (disch := first | omega | decide) only [gd_true, bnd_some, bnd2_some, ix_n, ib_n, add_l, add_r, mul_l, mul_r, nI_add, sub_r, nI_leI, nI_ltI, nI_eq, le_l, le_r, lt_l, lt_r, eq_l, eq_r, eq_m, if_true, if_false, not_false_eq_true, not_true_eq_false]
  · rw [if_neg c, if_neg c]
    by_cases c2 : k < L
    · simp (disch := first | omega | decide) only [gd_true, bnd_some, bnd2_some, ix_n, ib_n, add_l, add_r, mul_l, mul_r, nI_add, sub_r, nI_leI, nI_ltI, nI_eq, le_l, le_r, lt_l, lt_r, eq_l, eq_r, eq_m, if_true, if_false, not_false_eq_true, not_true_eq_false, show ¬ L ≤ k by omega, hnext c2, c2]
    · simp (disch := first | omega | decide) only [gd_true, bnd_some, bnd2_some, ix_n, ib_n, add_l, add_r, mul_l, mul_r, nI_add, sub_r, nI_leI, nI_ltI, nI_eq, le_l, le_r, lt_l, lt_r, eq_l, eq_r, eq_m, if_true, if_false, not_false_eq_true, not_true_eq_false, show L ≤ k by omega, c2]
      rfl
theorem f_fillR {n a K L k N : Nat} {v : Int32} {f : Nat → Nat → Bool} {m0 : Mu} (K0 : Nat) (hK : K ≤ 10) (hL : L ≤ 71) (hk : k ≤ L) (hN : K * 72 ≤ N) (hN2 : N ≤ 720) (ha : a = 121 ∨ a = 122) (hK0 : rI m0 2 K0 = nI K) (h120 : rI m0 120 6 = nI L) (hv : bs v K (f k)) (ht : TB m0 a K L f (fun _ => k + 1)) (hn : 1000 < n) (step : Int32 × Mu → Option ((Int32 × Mu) ⊕ Mu)) (hstep : ∀ x5 m, step (x5, m) = if (rI m 2 K0) ≤ x5 then (some (.inr m)) else (bnd (fX0_fillIn n a N (x5 * 72) (nI k) (if ((shr v x5) &&& 1) = 1 then 1 else 0 : Int32) m) fun m13 => some (.inl (x5 + 1, m13)))) : ∃ m1, lp n step (0, m0) = some m1 ∧ TB m1 a K L f (fun _ => k) ∧ Fr (fun x => x = a) m0 m1 := by
  refine Rn.l K (fun c q => q.1 = nI c ∧ TB q.2 a K L f (fun i => if i < c then k else k + 1) ∧ Fr (fun x => x = a) m0 q.2) _ (by omega) ⟨rfl, ht, Fr.rfl' _ _⟩ ?_ ?_
  · rintro c ⟨x, m⟩ hc ⟨e1, e2, e3⟩
    have e1 : x = nI c := e1
    subst e1
    have e2 : TB m a K L f (fun i => if i < c then k else k + 1) := e2
    have e3 : Fr (fun x => x = a) m0 m := e3
    have q1 : rI m 2 K0 = nI K := by rw [e3.i (by omega)]; exact hK0
    have q2 : rI m 120 6 = nI L := by rw [e3.i (by omega)]; exact h120
    have z := f_fill1 (n := n) (a := a) (N := N) (row := c * 72) (k := k) (f := fun m => f m c) q2 hk hL (by omega) hN2 (fun hlt => by
      have := e2 c (k + 1) hc (by show (if c < c then k else k + 1) ≤ k + 1; rw [if_neg (Nat.lt_irrefl _)]; exact Nat.le_refl _) (by omega)
      exact this)
    rw [hstep, q1, if_neg (fun e => by have := (nI_leI (by omega) (by omega)).mp e; omega), b_test (by omega), bs_at hv hc (by omega)]
    have eb : (if (if f k c = true then (1 : Int32) else 0) = 1 then (1 : Int32) else 0) = if f k c = true then 1 else 0 := by cases f k c <;> rfl
    rw [eb, show nI c * 72 = nI (c * 72) from pk_mul c 72, z, bnd_some]
    refine Rn.so ⟨nI_add c 1, fun i j hi h1 h2 => ?_, e3.w rfl _ _⟩
    show rI (wI m a (c * 72 + k) (nI (nxO (fun m => f m c) L k))) a (i * 72 + j) = _
    by_cases e : i = c ∧ j = k
    · rw [e.1, e.2, rI_same]
    · rw [rI_ii (by omega)]
      refine e2 i j hi ?_ h2
      show (if i < c then k else k + 1) ≤ j
      have h1 : (if i < c + 1 then k else k + 1) ≤ j := h1
      by_cases e4 : i < c
      · rw [if_pos e4]; rw [if_pos (by omega)] at h1; exact h1
      · rw [if_neg e4]
        by_cases e5 : i = c
        · rw [if_pos (by omega)] at h1; omega
        · rw [if_neg (by omega)] at h1; exact h1
  · rintro ⟨x, m⟩ ⟨e1, e2, e3⟩
    have e1 : x = nI K := e1
    have e3 : Fr (fun x => x = a) m0 m := e3
    subst e1
    rw [hstep]
    have q1 : rI m 2 K0 = nI K := by rw [e3.i (by omega)]; exact hK0
    refine Rn.e (r := m) (ite_le q1) ⟨fun i j hi h1 h2 => e2 i j hi ?_ h2, e3⟩
    show (if i < K then k else k + 1) ≤ j
    rw [if_pos hi]; exact h1
theorem c_look {n L : Nat} {μ : Mu} {s : SD} {t : ST} (hp : CP μ s t) (hL : L ≤ 71) (hn : 1000 < n) : ∃ μ', fX0_lookAhead n (nI L) μ = some μ' ∧ LA μ' s t L ∧ CQ s μ μ' := by
  have hC := hp.2.1.2.1
  have hP := hp.2.1.2.2.1
  have hG := hp.2.2.2.2.1.1
  have hH := hp.2.2.2.2.2
  have jm : jmax 0 (jmin 71 (nI L)) = nI L := by
    have : ∀ L, L ≤ 71 → jmax 0 (jmin 71 (nI L)) = nI L := by decide +kernel
    exact this L hL
  have q120 : QC 120 := by unfold QC; omega
  have cq0 : CQ s μ (wI μ 120 6 (nI L)) := ⟨(Fr.rfl' _ _).w q120 _ _, hp.2.2.1.congr fun k h1 h2 j => rI_ai (by omega)⟩
  have key : Rn (lp n (sX0_lookAhead_19 n) (nI L, wI μ 120 6 (nI L))) (fun m => LA m s t L ∧ CQ s μ m) := by
    refine Rn.l (L + 1) (fun i q => q.1 = (if i = L + 1 then -1 else nI (L - i)) ∧ rI q.2 120 6 = nI L ∧ TB q.2 121 (sC s) L (opS s t) (fun _ => L + 1 - i) ∧ TB q.2 122 (sP s) L (liS s t) (fun _ => L + 1 - i) ∧ CQ s μ q.2) _ (by omega) ⟨by show nI L = if 0 = L + 1 then -1 else nI (L - 0); rw [if_neg (by omega)]; rfl, rI_same _ _ _ _, fun c k _ h1 h2 => absurd h2 (by have h1 : L + 1 - 0 ≤ k := h1; omega), fun c k _ h1 h2 => absurd h2 (by have h1 : L + 1 - 0 ≤ k := h1; omega), cq0⟩ ?_ ?_
    · rintro i ⟨x, m⟩ hi ⟨e1, e2, e3, e4, e5⟩
      have e1 : x = if i = L + 1 then -1 else nI (L - i) := e1
      rw [if_neg (by omega)] at e1
      subst e1
      have e2 : rI m 120 6 = nI L := e2
      have e5 : CQ s μ m := e5
      have q := hp.q e5
      obtain ⟨op, m1, g1, g2, g3, g4⟩ := f_openCurrents (n := n) (h := tH t + (L - i)) (g := gk (tG t) (L - i)) q.1 q.2.1 q.2.2.1 (by omega) (gk_lt _ _) hn
      have cq1 := e5.tr (g3.cq g4)
      have q1 := hp.q cq1
      obtain ⟨li, m2, k1, k2, k3, k4⟩ := f_listeners (n := n) (h := tH t + (L - i)) (g := gk (tG t) (L - i)) (k := 0) q1.1 q1.2.1 q1.2.2.1 (by omega) (gk_lt _ _) (by omega) hn
      have cq2 := cq1.tr (k3.cq k4)
      have q2 := hp.q cq2
      have sr : ∀ a j, 120 ≤ a → rI m2 a j = rI m a j := fun a j ha => by rw [k3.i (by omega), g3.i (by omega)]
      obtain ⟨m3, l1, l2, l3⟩ := f_fillR (n := n) (a := 121) (K := sC s) (L := L) (k := L - i) (N := 720) (v := op) (f := opS s t) (m0 := m2) 1 hC hL (by omega) (by omega) (by omega) (Or.inl rfl) q2.1.2.1 (by rw [sr _ _ (by omega)]; exact e2) g2 (fun c k hc h1 h2 => by
        rw [sr _ _ (by omega)]
        have h1 : L - i + 1 ≤ k := h1
        exact e3 c k hc (by show L + 1 - i ≤ k; omega) h2) hn (sX0_lookAhead_94 n (nI (L - i)) op li) (fun _ _ => rfl)
      have cq3 : CQ s μ m3 := ⟨cq2.1.tr (l3.mono fun x q => by unfold QC; omega), cq2.2.fr l3 (fun k h1 h2 q => by omega)⟩
      have q3 := hp.q cq3
      obtain ⟨m4, o1, o2, o3⟩ := f_fillR (n := n) (a := 122) (K := sP s) (L := L) (k := L - i) (N := 432) (v := li) (f := liS s t) (m0 := m3) 2 (by omega) hL (by omega) (by omega) (by omega) (Or.inr rfl) q3.1.2.2.1 (by rw [l3.i (by omega), sr _ _ (by omega)]; exact e2) k2 (fun c k hc h1 h2 => by
        rw [l3.i (by omega), sr _ _ (by omega)]
        have h1 : L - i + 1 ≤ k := h1
        exact e4 c k hc (by show L + 1 - i ≤ k; omega) h2) hn (sX0_lookAhead_144 n (nI (L - i)) li) (fun _ _ => rfl)
      have cq4 : CQ s μ m4 := ⟨cq3.1.tr (o3.mono fun x q => by unfold QC; omega), cq3.2.fr o3 (fun k h1 h2 q => by omega)⟩
      have n0 : ¬ nI (L - i) < 0 := Int32.not_lt.mpr (nI_pos' (by omega))
      show Rn (if nI (L - i) < 0 then _ else _) _
      rw [if_neg n0, q.2.2.2.1.1, q.2.2.2.1.2.1, gk_if (by omega) (by omega), nI_add, g1, bnd2_some, q1.2.2.2.1.1, q1.2.2.2.1.2.1, gk_if (by omega) (by omega), nI_add]
      have k1 : fX6_listeners n (nI (tH t + (L - i))) (nI (gk (tG t) (L - i))) 0 m1 = some (li, m2) := k1
      rw [k1, bnd2_some, l1, bnd_some]
      show Rn (bnd (lp n (sX0_lookAhead_144 n (nI (L - i)) li) (0, m3)) _) _
      rw [o1, bnd_some]
      refine Rn.so ⟨?_, ?_, fun c k hc h1 h2 => ?_, fun c k hc h1 h2 => ?_, cq4⟩
      · show nI (L - i) + (-1) = if i + 1 = L + 1 then -1 else nI (L - (i + 1))
        by_cases e : i = L
        · rw [if_pos (by omega), e, Nat.sub_self]; rfl
        · rw [if_neg (by omega), show L - i = (L - (i + 1)) + 1 by omega]; exact pk_m1 _
      · show rI m4 120 6 = _
        rw [o3.i (by omega), l3.i (by omega), sr _ _ (by omega)]; exact e2
      · have h1 : L + 1 - (i + 1) ≤ k := h1
        show rI m4 121 _ = _
        rw [o3.i (by omega)]; exact l2 c k hc (by show L - i ≤ k; omega) h2
      · have h1 : L + 1 - (i + 1) ≤ k := h1
        exact o2 c k hc (by show L - i ≤ k; omega) h2
    · rintro ⟨x, m⟩ ⟨e1, e2, e3, e4, e5⟩
      have e1 : x = if L + 1 = L + 1 then -1 else nI (L - (L + 1)) := e1
      rw [if_pos rfl] at e1
      subst e1
      refine Rn.e (r := m) rfl ⟨⟨e2, fun c k hc _ h2 => e3 c k hc (by show L + 1 - (L + 1) ≤ k; omega) h2, fun c k hc _ h2 => e4 c k hc (by show L + 1 - (L + 1) ≤ k; omega) h2⟩, e5⟩
  obtain ⟨m, h1, h2, h3⟩ := key
  refine ⟨m, ?_, h2, h3⟩
  unfold fX0_lookAhead
  rw [jm, rI_same, h1, bnd_some]
/-! a word is sent -/
def AR (μ : Mu) (a : Nat → Nat) : Prop := ∀ i, i < 6 → rI μ 123 i = nI (a i)
theorem LA.fr {P : Nat → Prop} {μ μ' : Mu} {s : SD} {t : ST} {L : Nat} (h : LA μ s t L) (e : Fr P μ μ') (h0 : rI μ' 120 6 = rI μ 120 6) (h1 : ¬ P 121 ∧ ¬ P 122) : LA μ' s t L := ⟨by rw [h0]; exact h.1, fun c k hc hk hk2 => by rw [e.i h1.1]; exact h.2.1 c k hc hk hk2, fun c k hc hk hk2 => by rw [e.i h1.2]; exact h.2.2 c k hc hk hk2⟩
theorem c_round {n L i : Nat} {x3 : Int32} {x : Nat → Bool} {a : Nat → Nat} {m0 : Mu} {s : SD} {t : ST} (hp : CP m0 s t) (hla : LA m0 s t L) (hL : L ≤ 71) (hx : bs x3 (sC s) x) (ha : ∀ i, a i ≤ 100000) (hA : AR m0 a) (hn : 1000 < n) : Rn (lp n (sX0_send_45 n x3 (nI i)) (0, 0, m0)) (fun r => (r.1 = 0 ∨ r.1 = 1) ∧ (r.1 = 0 → rndS s L (opS s t) x a = a) ∧ AR r.2 (rndS s L (opS s t) x a) ∧ Fr (fun x => x = 123) m0 r.2) := by
  have hC := hp.2.1.2.1
  have hB := hp.2.1.1.2
  have le1 : ∀ c j, rndK s L (opS s t) x a c j ≤ 100000 := fun c j => Nat.le_trans (rndK_le j c) (ha j)
  refine Rn.l (sC s) (fun c q => q.2.1 = nI c ∧ (q.1 = 0 ∨ q.1 = 1) ∧ (q.1 = 0 → rndK s L (opS s t) x a c = a) ∧ AR q.2.2 (rndK s L (opS s t) x a c) ∧ Fr (fun x => x = 123) m0 q.2.2) _ (by omega) ⟨rfl, Or.inl rfl, fun _ => rfl, hA, Fr.rfl' _ _⟩ ?_ ?_
  · rintro c ⟨f, y, m⟩ hc ⟨e1, e2, e3, e4, e5⟩
    have e1 : y = nI c := e1
    subst e1
    have e3 : f = 0 → rndK s L (opS s t) x a c = a := e3
    have e4 : AR m (rndK s L (opS s t) x a c) := e4
    have e5 : Fr (fun x => x = 123) m0 m := e5
    have hs := hp.1.fr e5 (fun k hk q => by omega)
    have hl := hla.fr e5 (e5.i (by omega) 6) ⟨by omega, by omega⟩
    have a1 : rI m 2 1 = nI (sC s) := hs.2.1
    obtain ⟨o1, o2, o3⟩ := hs.2.2.2.2.2.2.2.2.1 c hc
    have o1 : rI m 3 c = nI (s 1 c) := o1
    have o2 : rI m 4 c = nI (s 2 c) := o2
    have o3 : rI m 5 c = nI (s 3 c) := o3
    have v := hp.2.1.2.2.2.2.1 c hc
    generalize hz : rndK s L (opS s t) x a c = z at e3 e4
    have hz1 : ∀ j, z j ≤ 100000 := fun j => by rw [← hz]; exact le1 c j
    have er : rndK s L (opS s t) x a (c + 1) = relS s L (opS s t) x z c := by rw [← hz]; rfl
    have r1 : rI m 123 (s 1 c) = nI (z (s 1 c)) := e4 _ (by omega)
    have r2 : rI m 123 (s 2 c) = nI (z (s 2 c)) := e4 _ (by omega)
    have b1 := hz1 (s 1 c)
    have b2 := hz1 (s 2 c)
    have hb : bt x3 c = x c := bs_at hx hc (by omega)
    -- what stands there in the end
    have fin : ∀ v : Nat, v < 200000 → (relS s L (opS s t) x z c = if z (s 2 c) ≤ v then z else updN z (s 2 c) v) → Rn (jX0_send_78 n x3 f (nI i) (nI c) (nI v) m) (OE (fun q : Int32 × Int32 × Mu => q.2.1 = nI (c + 1) ∧ (q.1 = 0 ∨ q.1 = 1) ∧ (q.1 = 0 → rndK s L (opS s t) x a (c + 1) = a) ∧ AR q.2.2 (rndK s L (opS s t) x a (c + 1)) ∧ Fr (fun x => x = 123) m0 q.2.2) (fun r : Int32 × Mu => (r.1 = 0 ∨ r.1 = 1) ∧ (r.1 = 0 → rndS s L (opS s t) x a = a) ∧ AR r.2 (rndS s L (opS s t) x a) ∧ Fr (fun x => x = 123) m0 r.2)) := by
      intro v hv2 hrel
      simp (disch := first | omega | decide) only [jX0_send_78, gd_true, bnd_some, bnd2_some, ix_n, ib_n, add_l, add_r, mul_l, mul_r, nI_add, sub_r, nI_leI, nI_ltI, nI_eq, le_l, le_r, lt_l, lt_r, eq_l, eq_r, eq_m, if_true, if_false, not_false_eq_true, not_true_eq_false, o2, r2]
      by_cases q : z (s 2 c) ≤ v
      · rw [if_pos q]
        refine Rn.so ⟨rfl, e2, fun h0 => ?_, ?_, e5⟩
        · rw [er, hrel, if_pos q]; exact e3 h0
        · rw [er, hrel, if_pos q]; exact e4
      · rw [if_neg q]
        refine Rn.so ⟨rfl, Or.inr rfl, fun h0 => absurd (show (1 : Int32) = 0 from h0) (by decide), fun j hj => ?_, e5.w rfl _ _⟩
        rw [er, hrel, if_neg q]
        show rI (wI m 123 (s 2 c) (nI v)) 123 j = nI (if j = s 2 c then v else z j)
        by_cases e : j = s 2 c
        · rw [if_pos e, e, rI_same]
        · rw [if_neg e, rI_ii e]; exact e4 j hj
    show Rn (if rI m 2 1 ≤ nI c then _ else _) _
    rw [a1, if_neg (fun e => by have := (nI_leI (by omega) (by omega)).mp e; omega)]
    simp only [b_test (x := x3) (show c < 32 by omega), hb, t01]
    by_cases cx : x c = true
    · rw [if_pos cx]
      refine fin 100000 (by omega) ?_
      unfold relS; rw [if_pos cx, if_pos (by omega)]
    · rw [if_neg cx]
      have ab : fX0_arrivalBy n (nI c) m = some (nI (if z (s 1 c) ≤ L then nxO (fun q => opS s t q c) L (z (s 1 c)) + s 3 c else 100000)) := by
        unfold fX0_arrivalBy
        simp (disch := first | omega | decide) only [gd_true, bnd_some, bnd2_some, ix_n, ib_n, add_l, add_r, mul_l, mul_r, nI_add, sub_r, nI_leI, nI_ltI, nI_eq, le_l, le_r, lt_l, lt_r, eq_l, eq_r, eq_m, if_true, if_false, not_false_eq_true, not_true_eq_false, o1, r1, hl.1]
        by_cases q : z (s 1 c) ≤ L
        · have tb : rI m 121 (c * 72 + z (s 1 c)) = nI (nxO (fun q => opS s t q c) L (z (s 1 c))) := hl.2.1 c _ hc (Nat.zero_le _) q
          rw [if_pos q, if_pos q]
          simp (disch := first | omega | decide) only [gd_true, bnd_some, bnd2_some, ix_n, ib_n, add_l, add_r, mul_l, mul_r, nI_add, sub_r, nI_leI, nI_ltI, nI_eq, le_l, le_r, lt_l, lt_r, eq_l, eq_r, eq_m, if_true, if_false, not_false_eq_true, not_true_eq_false, tb, o3]
        · rw [if_neg q, if_neg q]; rfl
      rw [ab, bnd_some]
      have hx' : ¬ x c = true := cx
      refine fin _ ?_ ?_
      · split
        · rename_i q
          have := (nxO_ge (f := fun q => opS s t q c) (L := L) q hL).2
          omega
        · omega
      · unfold relS
        rw [if_neg cx]
        by_cases q : z (s 1 c) ≤ L
        · rw [if_pos q, if_pos q]
          by_cases q2 : nxO (fun m => opS s t m c) L (z (s 1 c)) + s 3 c < z (s 2 c)
          · rw [if_pos q2, if_neg (by omega)]
          · rw [if_neg q2, if_pos (by omega)]
        · rw [if_neg q, if_neg q, if_pos (by omega)]
  · rintro ⟨f, y, m⟩ ⟨e1, e2, e3, e4, e5⟩
    have e1 : y = nI (sC s) := e1
    have e5 : Fr (fun x => x = 123) m0 m := e5
    subst e1
    have a1 : rI m 2 1 = nI (sC s) := (hp.1.fr e5 (fun k hk q => by omega)).2.1
    exact Rn.e (r := (f, m)) (ite_le a1) ⟨e2, e3, e4, e5⟩
/-- what stands behind send -/
def SN (μ : Mu) (s : SD) (x : Nat → Bool) (t : ST) (L b w : Nat) : Prop := AR μ (arS s x t L b w) ∧ rI μ 120 7 = nI w ∧ LA μ s t L
theorem c_sendF {n L b w : Nat} {x3 : Int32} {x : Nat → Bool} {μ : Mu} {s : SD} {t : ST} (hp : CP μ s t) (hla : LA μ s t L) (hL : L ≤ 71) (hw : w ≤ L) (hb : b < sB s) (hx : bs x3 (sC s) x) (hn : 1000 < n) : ∃ μ', fX0_send n (nI b) (nI w) x3 μ = some μ' ∧ SN μ' s x t L b w ∧ CQ s μ μ' ∧ Fr (fun x => x = 120 ∨ x = 123) μ μ' := by
  have hB := hp.2.1.1.2
  obtain ⟨m1, g1, g2, g3⟩ := f_fillI (n := n) (a := 123) (N := 6) (v := 100000) (wI μ 120 7 (nI w)) (by omega) (by omega)
  generalize hm2 : wI m1 123 b (nI w) = m2
  have f2 : Fr (fun x => x = 120 ∨ x = 123) μ m2 := by
    rw [← hm2]
    exact (((Fr.rfl' _ _).w (Or.inl rfl) _ _).tr (g3.mono fun x q => Or.inr q)).w (Or.inr rfl) _ _
  have h6 : rI m2 120 6 = rI μ 120 6 := by rw [← hm2, rI_ai (by decide), g3.i (by decide), rI_ii (by decide)]
  have h7 : rI m2 120 7 = nI w := by rw [← hm2, rI_ai (by decide), g3.i (by decide), rI_same]
  have la2 := hla.fr f2 h6 ⟨by omega, by omega⟩
  have cq : ∀ m, Fr (fun x => x = 120 ∨ x = 123) μ m → CQ s μ m := fun m f => ⟨f.mono fun x q => by unfold QC; omega, hp.2.2.1.fr f (fun k h1 h2 q => by omega)⟩
  have ar2 : AR m2 (ar0 b w) := fun i hi => by
    rw [← hm2]
    unfold ar0
    by_cases e : i = b
    · rw [if_pos e, e, rI_same]
    · rw [if_neg e, rI_ii e, g2 i hi]; rfl
  have sup : ∀ r i, itS s L (opS s t) x (ar0 b w) r i ≤ 100000 := fun r i => (Sup.it hp.2.1 hL hw (Sup.zero (by omega)) r).2.1 i
  have key : Rn (lp n (sX0_send_27 n x3) (1, 0, m2)) (fun m => AR m (arS s x t L b w) ∧ Fr (fun x => x = 123) m2 m) := by
    refine Rn.l 6 (fun i q => q.2.1 = nI i ∧ (q.1 = 0 ∨ q.1 = 1) ∧ (q.1 = 0 → rndS s L (opS s t) x (itS s L (opS s t) x (ar0 b w) i) = itS s L (opS s t) x (ar0 b w) i) ∧ AR q.2.2 (itS s L (opS s t) x (ar0 b w) i) ∧ Fr (fun x => x = 123) m2 q.2.2) _ (by omega) ⟨rfl, Or.inr rfl, fun h => absurd (show (1 : Int32) = 0 from h) (by decide), ar2, Fr.rfl' _ _⟩ ?_ ?_
    · rintro i ⟨f, y, m⟩ hi ⟨e1, e2, e3, e4, e5⟩
      have e1 : y = nI i := e1
      subst e1
      have e3 : f = 0 → rndS s L (opS s t) x (itS s L (opS s t) x (ar0 b w) i) = itS s L (opS s t) x (ar0 b w) i := e3
      have e4 : AR m (itS s L (opS s t) x (ar0 b w) i) := e4
      have e5 : Fr (fun x => x = 123) m2 m := e5
      show Rn (if (6 : Int32) ≤ nI i then _ else _) _
      rw [if_neg (fun e => by have : 6 ≤ i := (le_l (k := 6) (by decide) (by omega)).mp e; omega)]
      by_cases c : f = 0
      · rw [if_pos c]
        refine Rn.so ⟨?_, e5⟩
        have := it_fix (e3 c) (6 - i)
        rw [show i + (6 - i) = 6 by omega] at this
        unfold arS; rw [this]; exact e4
      · rw [if_neg c]
        have fm : Fr (fun x => x = 120 ∨ x = 123) μ m := f2.tr (e5.mono fun x q => Or.inr q)
        obtain ⟨⟨f', m'⟩, r1, r2, r3, r4, r5⟩ := c_round (n := n) (i := i) (hp.q (cq m fm)) (la2.fr e5 (e5.i (by omega) 6) ⟨by omega, by omega⟩) hL hx (sup i) e4 hn
        have r3 : f' = 0 → _ := r3
        have r4 : AR m' (rndS s L (opS s t) x (itS s L (opS s t) x (ar0 b w) i)) := r4
        rw [r1, bnd_some]
        refine Rn.so ⟨nI_add i 1, r2, fun h0 => ?_, r4, e5.tr r5⟩
        have h0 : f' = 0 := h0
        show rndS s L (opS s t) x (rndS s L (opS s t) x (itS s L (opS s t) x (ar0 b w) i)) = rndS s L (opS s t) x (itS s L (opS s t) x (ar0 b w) i)
        rw [r3 h0]; exact r3 h0
    · rintro ⟨f, y, m⟩ ⟨e1, e2, e3, e4, e5⟩
      have e1 : y = nI 6 := e1
      subst e1
      exact Rn.e (r := m) rfl ⟨e4, e5⟩
  obtain ⟨m3, k1, k2, k3⟩ := key
  have f3 : Fr (fun x => x = 120 ∨ x = 123) μ m3 := f2.tr (k3.mono fun x q => Or.inr q)
  refine ⟨m3, ?_, ⟨k2, by rw [k3.i (by decide)]; exact h7, la2.fr k3 (k3.i (by omega) 6) ⟨by omega, by omega⟩⟩, cq m3 f3, f3⟩
  unfold fX0_send
  rw [g1, bnd_some, ib_n (by omega) (by omega), gd_true, ix_n (by omega), hm2, k1, bnd_some]
theorem c_send {n L b w : Nat} {x3 : Int32} {x : Nat → Bool} {μ : Mu} {s : SD} {t : ST} (hp : CP μ s t) (hla : LA μ s t L) (hL : L ≤ 71) (hw : w ≤ L) (hb : b < sB s) (hx : bs x3 (sC s) x) (hn : 1000 < n) : ∃ μ', fX0_send n (nI b) (nI w) x3 μ = some μ' ∧ SN μ' s x t L b w ∧ CQ s μ μ' := by
  obtain ⟨m, h1, h2, h3, _⟩ := c_sendF (n := n) hp hla hL hw hb hx hn
  exact ⟨m, h1, h2, h3⟩
/-! who hears it when -/
theorem jmx {a b : Nat} (ha : a < 2147483648) (hb : b < 2147483648) : jmax (nI a) (nI b) = nI (max a b) := by
  unfold jmax
  by_cases c : a < b
  · rw [if_pos ((nI_ltI (by omega) (by omega)).mpr c), Nat.max_eq_right (by omega)]
  · rw [if_neg (fun e => c ((nI_ltI (by omega) (by omega)).mp e)), Nat.max_eq_left (by omega)]
theorem jmn {a b : Nat} (ha : a < 2147483648) (hb : b < 2147483648) : jmin (nI a) (nI b) = nI (min a b) := by
  unfold jmin
  by_cases c : b < a
  · rw [if_pos ((nI_ltI (by omega) (by omega)).mpr c), Nat.min_eq_right (by omega)]
  · rw [if_neg (fun e => c ((nI_ltI (by omega) (by omega)).mp e)), Nat.min_eq_left (by omega)]
theorem hf_bd {s : SD} {t : ST} {L w τ p : Nat} (hL : L ≤ 71) : hfS s t L w τ p ≤ 100000 := by
  unfold hfS
  split
  · rename_i h; exact (nxO_ge h hL).2
  · exact Nat.le_refl _
theorem c_from {n L w τ p : Nat} {μ : Mu} {s : SD} {t : ST} (hv : SV s) (h7 : rI μ 120 7 = nI w) (hla : LA μ s t L) (hL : L ≤ 71) (hw : w ≤ 71) (hτ : τ ≤ 100000) (hp : p < sP s) : fX0_hourHeardFrom n (nI τ) (nI p) μ = some (nI (hfS s t L w τ p)) := by
  have hP := hv.2.2.1
  unfold fX0_hourHeardFrom hfS
  rw [h7, hla.1, show nI w + 1 = nI (w + 1) from nI_add w 1, jmx (by omega) (by omega)]
  simp (disch := first | omega | decide) only [gd_true, bnd_some, bnd2_some, ix_n, ib_n, add_l, add_r, mul_l, mul_r, nI_add, sub_r, nI_leI, nI_ltI, nI_eq, le_l, le_r, lt_l, lt_r, eq_l, eq_r, eq_m, if_true, if_false, not_false_eq_true, not_true_eq_false]
  by_cases c : max τ (w + 1) ≤ L
  · have tb : rI μ 122 (p * 72 + max τ (w + 1)) = nI (nxO (fun m => liS s t m p) L (max τ (w + 1))) := hla.2.2 p _ hp (Nat.zero_le _) c
    rw [if_pos c, if_pos c]
    simp (disch := first | omega | decide) only [gd_true, bnd_some, bnd2_some, ix_n, ib_n, add_l, add_r, mul_l, mul_r, nI_add, sub_r, nI_leI, nI_ltI, nI_eq, le_l, le_r, lt_l, lt_r, eq_l, eq_r, eq_m, if_true, if_false, not_false_eq_true, not_true_eq_false, tb]
  · rw [if_neg c, if_neg c]; rfl
theorem c_heard {n L b w p : Nat} {x : Nat → Bool} {μ : Mu} {s : SD} {t : ST} (hcp : CP μ s t) (hs : SN μ s x t L b w) (hL : L ≤ 71) (hw : w ≤ L) (hp : p < sP s) (hn : 1000 < n) : fX0_hourHeard n (nI p) μ = some (nI (hhS s x t L b w p)) := by
  have hB := hcp.2.1.1.2
  obtain ⟨au, g1, g2⟩ := f_audible (n := n) (a := 34) hcp.1 hcp.2.1 hcp.2.2.2.1 hcp.2.2.2.2.1 hp (by omega)
  have a0 : rI μ 2 0 = nI (sB s) := hcp.1.1
  have sup := (ar_sup (s := s) (x := x) (t := t) (L := L) (b := b) (w := w) hcp.2.1 hL hw).2.1
  have lo : lp n (sX0_hourHeard_19 n (nI p) au μ) (100000, 0) = some (nI (mnK (audS s (tHo t) p) (arS s x t L b w) (sB s))) := by
    refine lp_up (step := sX0_hourHeard_19 n (nI p) au μ) (sB s) (fun k => (nI (mnK (audS s (tHo t) p) (arS s x t L b w) k), nI k)) _ (fun k hk => ?_) (ite_le a0) (n := n) (by omega)
    have z : bt au k = audS s (tHo t) p k := bs_at g2 hk (by omega)
    have r : rI μ 123 k = nI (arS s x t L b w k) := hs.1 k (by omega)
    have m1 := mn_bd (aud := audS s (tHo t) p) (a := arS s x t L b w) k
    have m2 := sup k
    simp (disch := first | omega | decide) only [sX0_hourHeard_19, gd_true, bnd_some, bnd2_some, ix_n, ib_n, add_l, add_r, mul_l, mul_r, nI_add, sub_r, nI_leI, nI_ltI, nI_eq, le_l, le_r, lt_l, lt_r, eq_l, eq_r, eq_m, if_true, if_false, not_false_eq_true, not_true_eq_false, a0, show ¬ sB s ≤ k by omega, b_test, z, t01, r, jmn, mnK]
    split <;> rfl
  have m1 := mn_bd (aud := audS s (tHo t) p) (a := arS s x t L b w) (sB s)
  unfold fX0_hourHeard
  rw [g1, bnd_some, lo, bnd_some]
  show bnd (fX0_hourHeardFrom n (nI (mnK (audS s (tHo t) p) (arS s x t L b w) (sB s))) (nI p) μ) _ = _
  rw [c_from hcp.2.1 hs.2.1 hs.2.2 hL (by omega) m1 hp, bnd_some]
  rfl
theorem c_hearers {n L b w T : Nat} {x : Nat → Bool} {μ : Mu} {s : SD} {t : ST} (hcp : CP μ s t) (hs : SN μ s x t L b w) (hL : L ≤ 71) (hw : w ≤ L) (hT : T ≤ 71) (hn : 1000 < n) : ∃ r, fX0_hearersBy n (nI T) μ = some r ∧ bs r (sP s) (fun p => decide (hhS s x t L b w p ≤ T)) := by
  have hP := hcp.2.1.2.2.1
  have a0 : rI μ 2 2 = nI (sP s) := hcp.1.2.2.1
  obtain ⟨r, h1, h2⟩ := lp_set (step := sX0_hearersBy_4 n (nI T) μ) (K := sP s) (n := n) (f := fun p => decide (hhS s x t L b w p ≤ T)) (by omega) (by omega) (fun i v hi => by
      have z := c_heard (n := n) hcp hs hL hw hi hn
      have hb := hf_bd (s := s) (t := t) (L := L) (w := w) (τ := mnK (audS s (tHo t) i) (arS s x t L b w) (sB s)) (p := i) hL
      have hb : hhS s x t L b w i ≤ 100000 := hb
      simp (disch := first | omega | decide) only [sX0_hearersBy_4, gd_true, bnd_some, bnd2_some, ix_n, ib_n, add_l, add_r, mul_l, mul_r, nI_add, sub_r, nI_leI, nI_ltI, nI_eq, le_l, le_r, lt_l, lt_r, eq_l, eq_r, eq_m, if_true, if_false, not_false_eq_true, not_true_eq_false, a0, show ¬ sP s ≤ i by omega, z]
      by_cases c : T < hhS s x t L b w i
      · rw [if_pos c, decide_eq_false (by omega)]; rfl
      · rw [if_neg c, decide_eq_true (by omega)]; rfl) (fun v => ite_le a0)
  exact ⟨r, by unfold fX0_hearersBy; rw [h1, bnd_some], h2⟩
theorem c_beaches {n L b w T : Nat} {x : Nat → Bool} {μ : Mu} {s : SD} {t : ST} (hcp : CP μ s t) (hs : SN μ s x t L b w) (hL : L ≤ 71) (hw : w ≤ L) (hT : T ≤ 71) (hn : 1000 < n) : ∃ r, fX0_beachesBy n (nI T) μ = some r ∧ bs r (sB s) (fun i => decide (arS s x t L b w i ≤ T)) := by
  have hB := hcp.2.1.1.2
  have a0 : rI μ 2 0 = nI (sB s) := hcp.1.1
  have sup := (ar_sup (s := s) (x := x) (t := t) (L := L) (b := b) (w := w) hcp.2.1 hL hw).2.1
  obtain ⟨r, h1, h2⟩ := lp_set (step := sX0_beachesBy_4 n (nI T) μ) (K := sB s) (n := n) (f := fun i => decide (arS s x t L b w i ≤ T)) (by omega) (by omega) (fun i v hi => by
      have z : rI μ 123 i = nI (arS s x t L b w i) := hs.1 i (by omega)
      have hb := sup i
      simp (disch := first | omega | decide) only [sX0_beachesBy_4, gd_true, bnd_some, bnd2_some, ix_n, ib_n, add_l, add_r, mul_l, mul_r, nI_add, sub_r, nI_leI, nI_ltI, nI_eq, le_l, le_r, lt_l, lt_r, eq_l, eq_r, eq_m, if_true, if_false, not_false_eq_true, not_true_eq_false, a0, show ¬ sB s ≤ i by omega, z]
      by_cases c : T < arS s x t L b w i
      · rw [if_pos c, decide_eq_false (by omega)]; rfl
      · rw [if_neg c, decide_eq_true (by omega)]; rfl) (fun v => ite_le a0)
  exact ⟨r, by unfold fX0_beachesBy; rw [h1, bnd_some], h2⟩
