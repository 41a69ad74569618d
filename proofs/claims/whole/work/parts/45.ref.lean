/-! the reference's memory: the sea -/
def RS (μ : Mu) (s : SD) : Prop := rI μ 140 0 = nI (s 0 4) ∧ rI μ 140 1 = nI (sB s) ∧ rI μ 140 2 = nI (sC s) ∧ rI μ 140 3 = nI (sP s) ∧ rI μ 140 4 = nI (sS s) ∧ (∀ l, l < 3 → rI μ 140 (5 + l) = nI (if sLn s l = 0 then 0 else 1) ∧ (0 < sLn s l → ∃ f, rI μ 140 (8 + l) = nI f ∧ f + sLn s l ≤ 900 ∧ rI μ 140 (11 + l) = nI (sLn s l) ∧ ∀ i, i < sLn s l → rI μ 140 (1342 + f + i) = nI (s (7 + l) i))) ∧ (∀ c, c < sC s → rI μ 140 (14 + c) = nI (s 1 c) ∧ rI μ 140 (24 + c) = nI (s 2 c) ∧ rI μ 140 (34 + c) = nI (s 3 c)) ∧ (∀ p, p < sP s → rI μ 140 (44 + p) = e6 (s 4 p) ∧ rI μ 140 (50 + p) = nI (s 5 p)) ∧ (∀ k, k < sS s → rI μ 140 (56 + k) = nI (s 6 k))
theorem RS.congr {μ μ' : Mu} {s : SD} (h : RS μ s) (hv : SV s) (e : ∀ i, i < 64 ∨ 1341 ≤ i ∧ i < 2242 → rI μ' 140 i = rI μ 140 i) : RS μ' s := by
  obtain ⟨h0, h1, h2, h3, h4, h5, h6, h7, h8⟩ := h
  obtain ⟨-, v2, v3, v4, -⟩ := hv
  refine ⟨by rw [e _ (by omega)]; exact h0, by rw [e _ (by omega)]; exact h1, by rw [e _ (by omega)]; exact h2, by rw [e _ (by omega)]; exact h3, by rw [e _ (by omega)]; exact h4, fun l hl => ?_, fun c hc => ?_, fun p hp => ?_, fun k hk => ?_⟩
  · obtain ⟨a, b⟩ := h5 l hl
    refine ⟨by rw [e _ (by omega)]; exact a, fun hh => ?_⟩
    obtain ⟨f, b1, b2, b3, b4⟩ := b hh
    exact ⟨f, by rw [e _ (by omega)]; exact b1, b2, by rw [e _ (by omega)]; exact b3, fun i hi => by rw [e _ (by omega)]; exact b4 i hi⟩
  · obtain ⟨a, b, d⟩ := h6 c hc
    exact ⟨by rw [e _ (by omega)]; exact a, by rw [e _ (by omega)]; exact b, by rw [e _ (by omega)]; exact d⟩
  · obtain ⟨a, b⟩ := h7 p hp
    exact ⟨by rw [e _ (by omega)]; exact a, by rw [e _ (by omega)]; exact b⟩
  · rw [e _ (by omega)]; exact h8 k hk
/-- the same but for the reference's two rows to reckon in -/
def Sc (μ μ' : Mu) : Prop := ∀ a, a ≠ 144 → a ≠ 145 → (∀ i, rI μ' a i = rI μ a i) ∧ ∀ i, rL μ' a i = rL μ a i
theorem Sc.rfl' (μ : Mu) : Sc μ μ := fun _ _ _ => ⟨fun _ => rfl, fun _ => rfl⟩
theorem Sc.tr {a b c : Mu} (h : Sc a b) (h2 : Sc b c) : Sc a c := fun q h1 h3 => ⟨fun i => by rw [(h2 q h1 h3).1, (h q h1 h3).1], fun i => by rw [(h2 q h1 h3).2, (h q h1 h3).2]⟩
theorem Sc.w5 {a b : Mu} (h : Sc a b) (i : Nat) (v : Int32) : Sc a (wI b 145 i v) := fun q h1 h3 => ⟨fun j => by rw [rI_ai h3]; exact (h q h1 h3).1 j, fun j => (h q h1 h3).2 j⟩
theorem Sc.w4 {a b : Mu} (h : Sc a b) (i : Nat) (v : Int32) : Sc a (wI b 144 i v) := fun q h1 h3 => ⟨fun j => by rw [rI_ai h1]; exact (h q h1 h3).1 j, fun j => (h q h1 h3).2 j⟩
theorem Sc.a {a b : Mu} (h : Sc a b) (i : Nat) : rI b 140 i = rI a 140 i := (h 140 (by decide) (by decide)).1 i
theorem upd_w (m : Mu) (a i : Nat) (v : Int32) : (fun j => rI (wI m a i v) a j) = upd (fun j => rI m a j) i v := by
  funext j
  rw [rw_I]
  unfold upd
  by_cases h : j = i <;> simp [h]
def envM (μ : Mu) (h g : Nat) : Nat → Int32 := fun k => if k = 0 then nI (h % 24) else if k = 1 then nI g else rI μ 145 k
set_option maxHeartbeats 4000000 in
theorem f_reckons {n l h g : Nat} {μ : Mu} {s : SD} (hs : RS μ s) (hv : SV s) (hl : l < 3) (hln : 0 < sLn s l) (hh : h < 2147483648) (hn : 1000 < n) : ∃ μ', fX12_reckons n (nI l) (nI h) (nI g) μ = some (lawV s l (envM μ h g), μ') ∧ Sc μ μ' := by
  obtain ⟨f, f1, f2, f3, f4⟩ := (hs.2.2.2.2.2.1 l hl).2 hln
  have hok := (hv.2.2.2.2.2.2.2.1 l hl).2 hln
  have hlen := (hv.2.2.2.2.2.2.2.1 l hl).1
  generalize hm0 : wI (wI μ 145 0 (nI (h % 24))) 145 1 (nI g) = m0
  have hsc : Sc μ m0 := by rw [← hm0]; exact ((Sc.rfl' μ).w5 _ _).w5 _ _
  have henv : ∀ k, rI m0 145 k = envM μ h g k := by
    intro k
    rw [← hm0, rw_I, rw_I]
    unfold envM
    by_cases h1 : k = 1
    · simp [h1]
    · by_cases h0 : k = 0 <;> simp [h0, h1]
  have key : ∃ r, lp n (sX12_reckons_23 n (nI l)) (nI (hgN (s (7 + l)) 0), nI 0, m0) = some r ∧ (∀ a, a ≠ 144 → (∀ j, rI r a j = rI m0 a j) ∧ ∀ j, rL r a j = rL m0 a j) ∧ stR (fun j => rI r 144 j) (evN (envM μ h g) (s (7 + l)) (sLn s l)) := by
    refine lp_inv (step := sX12_reckons_23 n (nI l)) (sLn s l) (fun i m => (nI (hgN (s (7 + l)) i), nI i, m)) (fun i m => (∀ a, a ≠ 144 → (∀ j, rI m a j = rI m0 a j) ∧ ∀ j, rL m a j = rL m0 a j) ∧ stR (fun j => rI m 144 j) (evN (envM μ h g) (s (7 + l)) i)) (fun m => (∀ a, a ≠ 144 → (∀ j, rI m a j = rI m0 a j) ∧ ∀ j, rL m a j = rL m0 a j) ∧ stR (fun j => rI m 144 j) (evN (envM μ h g) (s (7 + l)) (sLn s l))) ?_ ?_ (n := n) (by omega) m0 ⟨fun _ _ => ⟨fun _ => rfl, fun _ => rfl⟩, fun j hj => absurd hj (Nat.not_lt_zero j)⟩
    · rintro i m hi ⟨hm, hst⟩
      obtain ⟨hc, hbig, h40⟩ := hok.1 i hi
      have hel := evN_len (g := envM μ h g) hok i (by omega)
      have a1 : rI m 140 (11 + l) = nI (sLn s l) := by rw [(hm 140 (by decide)).1, hsc.a]; exact f3
      have a2 : rI m 140 (8 + l) = nI f := by rw [(hm 140 (by decide)).1, hsc.a]; exact f1
      have a3 : rI m 140 (1342 + f + i) = nI (s (7 + l) i) := by rw [(hm 140 (by decide)).1, hsc.a]; exact f4 i hi
      have hle : ¬ sLn s l ≤ i := by omega
      have keep : ∀ (k : Nat) (v : Int32), ∀ a, a ≠ 144 → (∀ j, rI (wI m 144 k v) a j = rI m0 a j) ∧ ∀ j, rL (wI m 144 k v) a j = rL m0 a j := fun k v a ha => ⟨fun j => by rw [rI_ai ha]; exact (hm a ha).1 j, fun j => (hm a ha).2 j⟩
      simp (disch := first | omega | decide) only [sX12_reckons_23, jX12_reckons_98, gd_true, bnd_some, bnd2_some, ix_n, ib_n, add_l, add_r, mul_l, mul_r, nI_add, sub_r, nI_leI, nI_ltI, nI_eq, le_l, le_r, lt_l, lt_r, eq_l, eq_r, eq_m, if_true, if_false, not_false_eq_true, not_true_eq_false, a1, a2, a3, hle]
      by_cases c1 : s (7 + l) i < 3000
      · simp only [show ¬ 3000 ≤ s (7 + l) i by omega, if_false]
        have e : hgN (s (7 + l)) (i + 1) = hgN (s (7 + l)) i + 1 := by show (if _ then _ else _) = _; rw [if_pos c1]
        rw [e]
        have push : ∀ v : Int32, ev1 (envM μ h g) (s (7 + l) i) (evN (envM μ h g) (s (7 + l)) i) = v :: evN (envM μ h g) (s (7 + l)) i → stR (fun j => rI (wI m 144 (hgN (s (7 + l)) i) v) 144 j) (evN (envM μ h g) (s (7 + l)) (i + 1)) := by
          intro v hv2
          rw [upd_w, ← hel]
          show stR _ (ev1 _ _ _)
          rw [hv2]
          exact stR_push hst v
        by_cases c2 : s (7 + l) i < 1000
        · simp only [show ¬ 1000 ≤ s (7 + l) i by omega, if_false]
          refine ⟨_, rfl, keep _ _, push _ ?_⟩
          unfold ev1; rw [if_pos c1, if_pos c2]
        · have c3 : s (7 + l) i - 1000 < 9 := by omega
          simp (disch := first | omega | decide) only [show 1000 ≤ s (7 + l) i by omega, gd_true, bnd_some, bnd2_some, ix_n, ib_n, add_l, add_r, mul_l, mul_r, nI_add, sub_r, nI_leI, nI_ltI, nI_eq, le_l, le_r, lt_l, lt_r, eq_l, eq_r, eq_m, if_true, if_false, not_false_eq_true, not_true_eq_false]
          refine ⟨_, rfl, keep _ _, push _ ?_⟩
          unfold ev1; rw [if_pos c1, if_neg c2, (hm 145 (by decide)).1, henv]
      · simp only [show 3000 ≤ s (7 + l) i by omega, if_true]
        by_cases c2 : s (7 + l) i = 3006
        · have e : hgN (s (7 + l)) (i + 1) = hgN (s (7 + l)) i := by show (if _ then _ else _) = _; rw [if_neg c1, if_pos c2]
          rw [e]
          have h5 := hbig (by omega)
          rw [if_pos c2] at h5
          simp (disch := first | omega | decide) only [c2, gd_true, bnd_some, bnd2_some, ix_n, ib_n, add_l, add_r, mul_l, mul_r, nI_add, sub_r, nI_leI, nI_ltI, nI_eq, le_l, le_r, lt_l, lt_r, eq_l, eq_r, eq_m, if_true, if_false, not_false_eq_true, not_true_eq_false]
          match hst2 : evN (envM μ h g) (s (7 + l)) i, hel with
          | x :: r, hel =>
            rw [hst2] at hst
            have e2 : hgN (s (7 + l)) i - 1 = r.length := by rw [← hel]; rfl
            refine ⟨_, rfl, keep _ _, ?_⟩
            rw [upd_w, e2]
            show stR _ (ev1 _ _ _)
            rw [hst2, show rI m 144 r.length = x from stR_hd hst]
            unfold ev1; rw [if_neg c1, if_pos c2]
            exact stR_top hst
          | [], hel => exact absurd hel (by simp; omega)
        · have e : hgN (s (7 + l)) (i + 1) = hgN (s (7 + l)) i - 1 := by show (if _ then _ else _) = _; rw [if_neg c1, if_neg c2]
          rw [e]
          have h5 := hbig (by omega)
          rw [if_neg c2] at h5
          have e3 : nI (hgN (s (7 + l)) i) + (-1) = nI (hgN (s (7 + l)) i - 1) := by
            obtain ⟨q, hq⟩ : ∃ q, hgN (s (7 + l)) i = q + 1 := ⟨hgN (s (7 + l)) i - 1, by omega⟩
            rw [hq]; exact pk_m1 q
          simp (disch := first | omega | decide) only [c2, gd_true, bnd_some, bnd2_some, ix_n, ib_n, add_l, add_r, mul_l, mul_r, nI_add, sub_r, nI_leI, nI_ltI, nI_eq, le_l, le_r, lt_l, lt_r, eq_l, eq_r, eq_m, if_true, if_false, not_false_eq_true, not_true_eq_false, e3, f_between]
          match hst2 : evN (envM μ h g) (s (7 + l)) i, hel with
          | y :: x :: r, hel =>
            rw [hst2] at hst
            have e2 : hgN (s (7 + l)) i - 1 - 1 = r.length := by rw [← hel]; rfl
            have e4 : hgN (s (7 + l)) i - 1 = (x :: r).length := by rw [← hel]; rfl
            refine ⟨_, rfl, keep _ _, ?_⟩
            rw [upd_w, e2, e4]
            show stR _ (ev1 _ _ _)
            rw [hst2, show rI m 144 (x :: r).length = y from stR_hd hst, show rI m 144 r.length = x from stR_hd (stR_tail hst)]
            unfold ev1; rw [if_neg c1, if_neg c2]
            exact stR_top (stR_tail hst)
          | [_], hel => exact absurd hel (by simp; omega)
          | [], hel => exact absurd hel (by simp; omega)
    · rintro m ⟨hm, hst⟩
      have a1 : rI m 140 (11 + l) = nI (sLn s l) := by rw [(hm 140 (by decide)).1, hsc.a]; exact f3
      exact ⟨m, by simp (disch := first | omega | decide) only [sX12_reckons_23, gd_true, bnd_some, bnd2_some, ix_n, ib_n, add_l, add_r, mul_l, mul_r, nI_add, sub_r, nI_leI, nI_ltI, nI_eq, le_l, le_r, lt_l, lt_r, eq_l, eq_r, eq_m, if_true, if_false, not_false_eq_true, not_true_eq_false, a1, Nat.le_refl], hm, hst⟩
  obtain ⟨r, h1, h2⟩ := key
  refine ⟨r, ?_, ?_⟩
  · unfold fX12_reckons
    rw [jrem_l hh (by decide) (by decide), hm0]
    rw [show ((0, 0, m0) : Int32 × Int32 × Mu) = (nI (hgN (s (7 + l)) 0), nI 0, m0) from rfl, h1, bnd_some]
    have hlen1 := evN_len (g := envM μ h g) hok _ (Nat.le_refl _)
    rw [hok.2.1] at hlen1
    unfold lawV
    match hst : evN (envM μ h g) (s (7 + l)) (sLn s l), hlen1 with
    | [x], _ =>
      have h3 := h2.2
      rw [hst] at h3
      have h4 := stR_hd h3
      show some (rI r 144 0, r) = some (x, r)
      rw [show rI r 144 0 = x from h4]
  · intro a h3 h4
    refine ⟨fun i => ?_, fun i => ?_⟩
    · rw [(h2.1 a h3).1, (hsc a h3 h4).1]
    · rw [(h2.1 a h3).2, (hsc a h3 h4).2]
