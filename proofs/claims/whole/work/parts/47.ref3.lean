/-! an hour of the reference -/
theorem anyB_succ (f : Nat → Bool) (n : Nat) : anyB f (n + 1) = (anyB f n || f n) := rfl
theorem RB.ext {s : SD} {t t' : ST} {g : Nat → Int32} (h : RB s t g) (e1 : t'.1 = t.1) (e2 : ∀ k, k < sS s → tHo t' k = tHo t k) (e3 : ∀ w, w < tW t → (∀ b, b < sB s → tAt t' w b = tAt t w b) ∧ (∀ c, c < sC s → tWe t' w c = tWe t w c ∧ tLe t' w c = tLe t w c) ∧ ∀ p, p < sP s → tHe t' w p = tHe t w p) : RB s t' g := by
  obtain ⟨h0, h1, h2, h3, h4, h5⟩ := h
  refine ⟨by unfold tH; rw [e1]; exact h0, by unfold tG; rw [e1]; exact h1, by unfold tX; rw [e1]; exact h2, by unfold tW; rw [e1]; exact h3, fun k hk => by rw [e2 k hk]; exact h4 k hk, fun w hw => ?_⟩
  have hw : w < tW t := by unfold tW at hw; rw [e1] at hw; exact hw
  obtain ⟨a, b, c, d⟩ := h5 w hw
  obtain ⟨x1, x2, x3⟩ := e3 w hw
  exact ⟨bs_congr a (fun i hi => (x1 i hi).symm), bs_congr b (fun i hi => (x2 i hi).1.symm), bs_congr c (fun i hi => (x3 i hi).symm), fun q hq => by rw [(x2 q hq).2]; exact d q hq⟩
theorem f_hearsAt {n p : Nat} {μ : Mu} {s : SD} {t : ST} (hs : RS μ s) (hv : SV s) (ht : RT μ s t) (hV : TV s t) (hp : p < sP s) (hn : 10 < n) : ∃ v, fX12_hearsAt n (nI p) μ = some v ∧ bs v (sB s) (audS s (tHo t) p) := by
  have hP := hv.2.2.1
  have hS := hv.2.2.2.1
  have hB := hv.1.2
  obtain ⟨o1, o2⟩ := hs.2.2.2.2.2.2.2.1 p hp
  obtain ⟨v1, v2⟩ := hv.2.2.2.2.2.1 p hp
  have a4 : rI μ 140 4 = nI (sS s) := hs.2.2.2.2.1
  have loop : ∀ v0, bs v0 (sB s) (fun b => decide (s 4 p = b)) → ∃ v, jX12_hearsAt_28 n (nI p) v0 μ = some v ∧ bs v (sB s) (audS s (tHo t) p) := by
    intro v0 h0
    have key : ∃ r, lp n (sX12_hearsAt_31 n (nI p) μ) (v0, nI 0) = some r ∧ bs r (sB s) (audS s (tHo t) p) := by
      refine lp_inv (step := sX12_hearsAt_31 n (nI p) μ) (sS s) (fun i v => (v, nI i)) (fun i v => bs v (sB s) (fun b => decide (s 4 p = b) || anyB (fun k => decide (tHo t k = p) && decide (s 6 k = b)) i)) _ ?_ ?_ (n := n) (by omega) v0 (bs_congr h0 (fun i _ => by simp [anyB]))
      · intro i v hi hI
        have b1 : rI μ 140 (68 + i) = e6 (tHo t i) := by
          have := ht.2.2.2.2.1 i hi
          rw [show 68 + i = 64 + (4 + i) by omega]; exact this
        have b2 : rI μ 140 (56 + i) = nI (s 6 i) := hs.2.2.2.2.2.2.2.2 i hi
        have b3 : s 6 i < sB s := (hv.2.2.2.2.2.2.1 i hi).1
        have b4 : tHo t i ≤ 6 := by rcases hV.2.2.1 i hi with h | h <;> omega
        by_cases c : tHo t i = p
        · refine ⟨v ||| shl 1 (nI (s 6 i)), ?_, ?_⟩
          · simp (disch := first | omega | decide) only [sX12_hearsAt_31, jX12_hearsAt_70, gd_true, bnd_some, bnd2_some, ix_n, ib_n, add_l, add_r, mul_l, mul_r, nI_add, sub_r, nI_leI, nI_ltI, nI_eq, le_l, le_r, lt_l, lt_r, eq_l, eq_r, eq_m, if_true, if_false, not_false_eq_true, not_true_eq_false, a4, b1, b2, show ¬ sS s ≤ i by omega, (e6_nI b4 (show p < 6 by omega)).mpr c]
          · refine bs_congr (bs_set hI b3 (by omega)) (fun b hb => ?_)
            rw [anyB_succ, ← Bool.or_assoc]
            congr 1
            simp [c, eq_comm]
        · refine ⟨v ||| 0, ?_, ?_⟩
          · simp (disch := first | omega | decide) only [sX12_hearsAt_31, jX12_hearsAt_70, gd_true, bnd_some, bnd2_some, ix_n, ib_n, add_l, add_r, mul_l, mul_r, nI_add, sub_r, nI_leI, nI_ltI, nI_eq, le_l, le_r, lt_l, lt_r, eq_l, eq_r, eq_m, if_true, if_false, not_false_eq_true, not_true_eq_false, a4, b1, b2, show ¬ sS s ≤ i by omega, show ¬ e6 (tHo t i) = nI p from fun e => c ((e6_nI b4 (show p < 6 by omega)).mp e)]
          · refine bs_congr (bs_or hI (bs_0 (sB s))) (fun b hb => ?_)
            rw [anyB_succ]
            simp [c]
      · intro v hI
        exact ⟨v, by simp (disch := first | omega | decide) only [sX12_hearsAt_31, gd_true, bnd_some, bnd2_some, ix_n, ib_n, add_l, add_r, mul_l, mul_r, nI_add, sub_r, nI_leI, nI_ltI, nI_eq, le_l, le_r, lt_l, lt_r, eq_l, eq_r, eq_m, if_true, if_false, not_false_eq_true, not_true_eq_false, a4, Nat.le_refl], hI⟩
    obtain ⟨r, h1, h2⟩ := key
    refine ⟨r, ?_, h2⟩
    unfold jX12_hearsAt_28
    have h1 : lp n (sX12_hearsAt_31 n (nI p) μ) (v0, 0) = some r := h1
    rw [h1, bnd_some]
  unfold fX12_hearsAt
  simp (disch := first | omega | decide) only [gd_true, bnd_some, bnd2_some, ix_n, ib_n, add_l, add_r, mul_l, mul_r, nI_add, sub_r, nI_leI, nI_ltI, nI_eq, le_l, le_r, lt_l, lt_r, eq_l, eq_r, eq_m, if_true, if_false, not_false_eq_true, not_true_eq_false, o1]
  by_cases h6 : s 4 p = 6
  · rw [if_pos ((e6_m1 (by omega)).mpr h6)]
    exact loop 0 (bs_congr (bs_0 (sB s)) (fun i hi => by simp; omega))
  · have h7 : s 4 p < sB s := by omega
    rw [if_neg (fun e => h6 ((e6_m1 (by omega)).mp e)), show e6 (s 4 p) = nI (s 4 p) by unfold e6; rw [if_neg h6]]
    exact loop _ (bs_congr (bs_bit h7 (by omega)) (fun i hi => by simp [eq_comm]))
/-- what the hour's first part leaves when the pairs (word, current) of pr are through -/
def pgS (s : SD) (x : Nat → Bool) (t : ST) (pr : Nat → Nat → Bool) : ST := (t.1, tHo t, tAt t, fun w c => tWe t w c || (pr w c && goesS s x t w c), tHe t, fun w c => if (pr w c && goesS s x t w c) = true then s 3 c else tLe t w c)
def upto (w i : Nat) : Nat → Nat → Bool := fun w' c => decide (w' < w) || (decide (w' = w) && decide (c < i))
theorem RB_wl {s : SD} {t : ST} {g : Nat → Int32} (h : RB s t g) (hv : SV s) (hV : TV s t) {w c k : Nat} (hw : w < tW t) (hc : c < sC s) : RB s (t.1, tHo t, tAt t, fun w' c' => tWe t w' c' || (decide (w' = w) && decide (c' = c)), tHe t, fun w' c' => if w' = w ∧ c' = c then k else tLe t w' c') (upd (upd g (20 + w) (g (20 + w) ||| shl 1 (nI c))) (36 + 10 * w + c) (nI k)) := by
  obtain ⟨h0, h1, h2, h3, h4, h5⟩ := h
  have hC := hv.2.1
  have hS := hv.2.2.2.1
  have hW := hV.2.1
  have u : ∀ j, j ≠ 20 + w → j ≠ 36 + 10 * w + c → upd (upd g (20 + w) (g (20 + w) ||| shl 1 (nI c))) (36 + 10 * w + c) (nI k) j = g j := fun j e1 e2 => by unfold upd; rw [if_neg e2, if_neg e1]
  refine ⟨by rw [u 0 (by omega) (by omega)]; exact h0, by rw [u 1 (by omega) (by omega)]; exact h1, by rw [u 2 (by omega) (by omega)]; exact h2, by rw [u 3 (by omega) (by omega)]; exact h3, fun q hq => by rw [u _ (by omega) (by omega)]; exact h4 q hq, fun w' hw' => ?_⟩
  have hw' : w' < tW t := hw'
  obtain ⟨a, b, d, e⟩ := h5 w' hw'
  refine ⟨by rw [u _ (by omega) (by omega)]; exact a, ?_, by rw [u _ (by omega) (by omega)]; exact d, fun c' hc' => ?_⟩
  · by_cases hww : w' = w
    · subst hww
      have e2 : upd (upd g (20 + w') (g (20 + w') ||| shl 1 (nI c))) (36 + 10 * w' + c) (nI k) (20 + w') = g (20 + w') ||| shl 1 (nI c) := by unfold upd; rw [if_neg (by omega), if_pos rfl]
      rw [e2]
      exact bs_congr (bs_set b hc (by omega)) (fun i _ => by show (tWe t w' i || decide (i = c)) = (tWe t w' i || (decide (w' = w') && decide (i = c))); simp)
    · rw [u _ (by omega) (by omega)]
      exact bs_congr b (fun i _ => by show tWe t w' i = (tWe t w' i || (decide (w' = w) && decide (i = c))); simp [hww])
  · by_cases hcc : w' = w ∧ c' = c
    · obtain ⟨rfl, rfl⟩ := hcc
      show upd _ _ _ _ = nI (if _ then _ else _)
      rw [if_pos ⟨rfl, rfl⟩]
      unfold upd; rw [if_pos rfl]
    · rw [u _ (by omega) (by omega)]
      show _ = nI (if _ then _ else _)
      rw [if_neg hcc]
      exact e c' hc'
/-- the reference's memory but for the block of the state and the rows to reckon in -/
def Sb (μ μ' : Mu) : Prop := (∀ a, a ≠ 140 → a ≠ 144 → a ≠ 145 → (∀ i, rI μ' a i = rI μ a i) ∧ ∀ i, rL μ' a i = rL μ a i) ∧ ∀ i, i < 64 ∨ 180 ≤ i → rI μ' 140 i = rI μ 140 i
theorem Sb.rfl' (μ : Mu) : Sb μ μ := ⟨fun _ _ _ _ => ⟨fun _ => rfl, fun _ => rfl⟩, fun _ _ => rfl⟩
theorem Sb.tr {a b c : Mu} (h : Sb a b) (h2 : Sb b c) : Sb a c := ⟨fun q h1 h3 h4 => ⟨fun i => by rw [(h2.1 q h1 h3 h4).1, (h.1 q h1 h3 h4).1], fun i => by rw [(h2.1 q h1 h3 h4).2, (h.1 q h1 h3 h4).2]⟩, fun i hi => by rw [h2.2 i hi, h.2 i hi]⟩
theorem Sc.sb {a b : Mu} (h : Sc a b) : Sb a b := ⟨fun q _ h3 h4 => h q h3 h4, fun i _ => h.a i⟩
theorem Sb.w {a b : Mu} (h : Sb a b) {i : Nat} (h1 : 64 ≤ i) (h2 : i < 180) (v : Int32) : Sb a (wI b 140 i v) := ⟨fun q h3 h4 h5 => ⟨fun j => by rw [rI_ai h3]; exact (h.1 q h3 h4 h5).1 j, fun j => (h.1 q h3 h4 h5).2 j⟩, fun j hj => by rw [rI_ii (by omega)]; exact h.2 j hj⟩
theorem RS.sb {μ μ' : Mu} {s : SD} (h : RS μ s) (hv : SV s) (e : Sb μ μ') : RS μ' s := h.congr hv (fun i hi => e.2 i (by omega))
theorem RT_w {m : Mu} {i : Nat} {v : Int32} (h1 : 64 ≤ i) : (fun j => rI (wI m 140 i v) 140 (64 + j)) = upd (fun j => rI m 140 (64 + j)) (i - 64) v := by
  funext j
  rw [rw_I]
  unfold upd
  by_cases h : j = i - 64
  · rw [if_pos ⟨rfl, by omega⟩, if_pos h]
  · rw [if_neg (fun q => h (by omega)), if_neg h]
theorem pg_TV {s : SD} {x : Nat → Bool} {t : ST} {pr : Nat → Nat → Bool} (h : TV s t) (hv : SV s) : TV s (pgS s x t pr) := ⟨h.1, h.2.1, h.2.2.1, fun w c hw hc => by
  show (if _ then _ else _) ≤ 9
  split
  · exact (hv.2.2.2.2.1 c hc).2.2.2
  · exact h.2.2.2 w c hw hc⟩
set_option maxHeartbeats 4000000 in
theorem f_goesOut {n w : Nat} {μ : Mu} {s : SD} {t : ST} {x : Nat → Bool} (hs : RS μ s) (hv : SV s) (hV : TV s t) (hx : bs (rI μ 139 19) 10 x) (hw : w < tW t) (hh : tH t < 1000000000) (hn : 1000 < n) (ht : RT μ s (pgS s x t (upto w 0))) : ∃ μ', fX12_goesOut n (nI w) μ = some μ' ∧ RT μ' s (pgS s x t (upto w (sC s))) ∧ Sb μ μ' := by
  have hC := hv.2.1
  have hB := hv.1.2
  have hW := hV.2.1
  have key : ∃ r, lp n (sX12_goesOut_2 n (nI w)) (nI 0, μ) = some r ∧ (RT r s (pgS s x t (upto w (sC s))) ∧ Sb μ r) := by
    refine lp_inv (step := sX12_goesOut_2 n (nI w)) (sC s) (fun i m => (nI i, m)) (fun i m => RT m s (pgS s x t (upto w i)) ∧ Sb μ m) _ ?_ ?_ (n := n) (by omega) μ ⟨ht, Sb.rfl' μ⟩
    · rintro i m hi ⟨hT, hb⟩
      have hS := hs.sb hv hb
      have hTV := pg_TV (x := x) (pr := upto w i) hV hv
      have a2 : rI m 140 2 = nI (sC s) := hS.2.2.1
      obtain ⟨o1, o2, o3⟩ := hS.2.2.2.2.2.2.1 i hi
      obtain ⟨c1, c2, c3, c4⟩ := hv.2.2.2.2.1 i hi
      obtain ⟨d1, d2, d3, d4⟩ := hT.2.2.2.2.2 w hw
      have hsh : bs (rI m 139 19) 10 x := by rw [(hb.1 139 (by decide) (by decide) (by decide)).1]; exact hx
      have we : bt (rI m 140 (84 + w)) i = tWe t w i := by
        rw [show 84 + w = 64 + (20 + w) by omega]
        have := bs_at d2 hi (by omega)
        rw [this]
        show (tWe t w i || (upto w i w i && goesS s x t w i)) = tWe t w i
        simp [upto]
      have q1 : bt (rI m 140 (84 + w) ||| rI m 139 19) i = (tWe t w i || x i) := by rw [b_or, we, bs_at hsh (by omega) (by omega)]
      have q2 : bt (rI m 140 (76 + w)) (s 1 i) = tAt t w (s 1 i) := by
        rw [show 76 + w = 64 + (12 + w) by omega]
        exact bs_at d1 c1 (by omega)
      -- not gone: the state is as it was
      have stay : ∀ m', Sc m m' → goesS s x t w i = false → RT m' s (pgS s x t (upto w (i + 1))) ∧ Sb μ m' := by
        intro m' h1 h2
        refine ⟨RB.ext (RB.congr hT hTV hv (fun j _ => h1.a _)) rfl (fun _ _ => rfl) (fun w' hw' => ⟨fun _ _ => rfl, fun c hc => ?_, fun _ _ => rfl⟩), hb.tr h1.sb⟩
        have e : (upto w (i + 1) w' c && goesS s x t w' c) = (upto w i w' c && goesS s x t w' c) := by
          by_cases e1 : w' = w ∧ c = i
          · obtain ⟨rfl, rfl⟩ := e1
            rw [h2]; simp
          · congr 1
            unfold upto
            by_cases e2 : w' = w
            · have : c < i + 1 ↔ c < i := by omega
              simp [e2, this]
            · simp [e2]
        exact ⟨by show (_ || _) = (_ || _); rw [e], by show (if _ then _ else _) = (if _ then _ else _); rw [e]⟩
      have op := f_isOpen (n := n) (c := i) hS hv hT hTV hi hh hn
      obtain ⟨m13, p1, p2⟩ := op
      have p1 : fX12_isOpen n (nI i) m = some (if openS s (tH t) (gl (tG t)) i = true then 1 else 0, m13) := p1
      simp (disch := first | omega | decide) only [sX12_goesOut_2, gd_true, bnd_some, bnd2_some, ix_n, ib_n, add_l, add_r, mul_l, mul_r, nI_add, sub_r, nI_leI, nI_ltI, nI_eq, le_l, le_r, lt_l, lt_r, eq_l, eq_r, eq_m, if_true, if_false, not_false_eq_true, not_true_eq_false, a2, show ¬ sC s ≤ i by omega, f_isIn, q1]
      by_cases g1 : (tWe t w i || x i) = true
      · rw [g1, if_pos rfl, if_neg (by decide)]
        refine ⟨m, rfl, stay m (Sc.rfl' m) ?_⟩
        unfold goesS
        rw [Bool.or_eq_true] at g1
        rcases g1 with h | h <;> simp [h]
      · rw [if_neg g1, if_pos rfl]
        simp (disch := first | omega | decide) only [o1, q2, f_isIn, gd_true, bnd_some, bnd2_some, ix_n, ib_n, add_l, add_r, mul_l, mul_r, nI_add, sub_r, nI_leI, nI_ltI, nI_eq, le_l, le_r, lt_l, lt_r, eq_l, eq_r, eq_m, if_true, if_false, not_false_eq_true, not_true_eq_false]
        by_cases g2 : tAt t w (s 1 i) = true
        · rw [g2, if_pos rfl, if_neg (by decide), p1, bnd2_some]
          by_cases g3 : openS s (tH t) (gl (tG t)) i = true
          · rw [g3, if_pos rfl, if_neg (by decide)]
            have hgo : goesS s x t w i = true := by
              unfold goesS
              rw [Bool.or_eq_true, not_or] at g1
              simp [hi, g2, g3, g1.1, g1.2]
            have r1 : rI m13 140 (34 + i) = nI (s 3 i) := by rw [p2.a]; exact o3
            simp (disch := first | omega | decide) only [gd_true, bnd_some, bnd2_some, ix_n, ib_n, add_l, add_r, mul_l, mul_r, nI_add, sub_r, nI_leI, nI_ltI, nI_eq, le_l, le_r, lt_l, lt_r, eq_l, eq_r, eq_m, if_true, if_false, not_false_eq_true, not_true_eq_false, rI_ii (show 34 + i ≠ 84 + w by omega), r1]
            refine ⟨_, rfl, ?_, ((hb.tr p2.sb).w (by omega) (by omega) _).w (by omega) (by omega) _⟩
            have hT13 : RT m13 s (pgS s x t (upto w i)) := RB.congr hT hTV hv (fun j _ => p2.a _)
            have z := RB_wl (k := s 3 i) hT13 hv hTV hw hi
            have e0 : (fun j => rI (wI (wI m13 140 (84 + w) (rI m13 140 (84 + w) ||| shl 1 (nI i))) 140 (100 + 10 * w + i) (nI (s 3 i))) 140 (64 + j)) = upd (upd (fun j => rI m13 140 (64 + j)) (20 + w) (rI m13 140 (64 + (20 + w)) ||| shl 1 (nI i))) (36 + 10 * w + i) (nI (s 3 i)) := by
              rw [RT_w (by omega), RT_w (by omega), show 100 + 10 * w + i - 64 = 36 + 10 * w + i by omega, show 84 + w - 64 = 20 + w by omega, show 84 + w = 64 + (20 + w) by omega]
            rw [← e0] at z
            have z2 := z
            refine RB.ext z2 rfl (fun _ _ => rfl) (fun w' hw' => ⟨fun _ _ => rfl, fun c hc => ?_, fun _ _ => rfl⟩)
            by_cases e1 : w' = w ∧ c = i
            · obtain ⟨rfl, rfl⟩ := e1
              refine ⟨?_, ?_⟩
              · show (_ || _) = ((_ || _) || _)
                simp [upto, hgo]
              · show (if _ then _ else _) = (if _ then _ else _)
                simp [upto, hgo]
            · have e : upto w (i + 1) w' c = upto w i w' c := by
                unfold upto
                by_cases e2 : w' = w
                · have : c < i + 1 ↔ c < i := by omega
                  simp [e2, this]
                · simp [e2]
              refine ⟨?_, ?_⟩
              · show (_ || _) = ((_ || _) || _)
                rw [e]
                have : (decide (w' = w) && decide (c = i)) = false := by
                  by_cases h : w' = w <;> simp [h]
                  intro h2; exact e1 ⟨h, h2⟩
                rw [this, Bool.or_false]
              · show (if _ then _ else _) = (if w' = w ∧ c = i then _ else if _ then _ else _)
                rw [if_neg e1, e]
          · rw [if_neg g3, if_pos rfl]
            exact ⟨m13, rfl, stay m13 p2 (by unfold goesS; simp [g3])⟩
        · rw [if_neg g2, if_pos rfl]
          exact ⟨m, rfl, stay m (Sc.rfl' m) (by unfold goesS; simp [g2])⟩
    · rintro m ⟨hT, hb⟩
      have a2 : rI m 140 2 = nI (sC s) := (hs.sb hv hb).2.2.1
      exact ⟨m, by simp (disch := first | omega | decide) only [sX12_goesOut_2, gd_true, bnd_some, bnd2_some, ix_n, ib_n, add_l, add_r, mul_l, mul_r, nI_add, sub_r, nI_leI, nI_ltI, nI_eq, le_l, le_r, lt_l, lt_r, eq_l, eq_r, eq_m, if_true, if_false, not_false_eq_true, not_true_eq_false, a2, Nat.le_refl], hT, hb⟩
  obtain ⟨r, h1, h2, h3⟩ := key
  refine ⟨r, ?_, h2, h3⟩
  unfold fX12_goesOut
  have h1 : lp n (sX12_goesOut_2 n (nI w)) (0, μ) = some r := h1
  rw [h1, bnd_some]
