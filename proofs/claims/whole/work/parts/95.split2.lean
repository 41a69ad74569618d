/-! TOKENS: the class's split -/
def TKS (μ0 μ : Mu) (B : Nat → Nat) (N M : Nat) : Prop := M ≤ 900 ∧ SPL μ0 μ B N (M + 1) ∧ (∀ i, i < M → tkK B N (tkP B N i) ≠ 24 ∧ tkK B N (tkP B N i) ≠ 25) ∧ (tkK B N (tkP B N M) = 24 ∨ tkK B N (tkP B N M) = 25)
def SPI (μ0 : Mu) (B : Nat → Nat) (N i : Nat) (x : Int32 × Int32 × Mu) : Prop := ∃ p m q, x = (nI p, nI i, q) ∧ i ≤ p ∧ p ≤ N ∧ m ≤ p ∧ tkP B N m ≤ p ∧ (∀ k, tkP B N m ≤ k → k < p → wsB B k = true) ∧ SPL μ0 q B N m ∧ ∀ j, j < m → tkK B N (tkP B N j) ≠ 24 ∧ tkK B N (tkP B N j) ≠ 25
def SPE (μ0 : Mu) (B : Nat → Nat) (N : Nat) (r : Mu ⊕ Mu) : Prop := (∃ q M, r = .inl q ∧ TKS μ0 q B N M) ∨ (∃ q m, r = .inr q ∧ m ≤ N ∧ tkA B N (tkP B N m) = N ∧ SPL μ0 q B N m ∧ ∀ j, j < m → tkK B N (tkP B N j) ≠ 24 ∧ tkK B N (tkP B N j) ≠ 25)
/-- one token more -/
theorem sp_tok {n N m p i : Nat} {x2 : Int32} {B : Nat → Nat} {μ0 q : Mu} (hb : ∀ k, k < N → B k < 256) (hN : N ≤ 900) (hs : SPL μ0 q B N m) (hm : m ≤ p) (hp : p < N) (hi : i ≤ p) (ha : tkA B N (tkP B N m) = p) (hj : ∀ j, j < m → tkK B N (tkP B N j) ≠ 24 ∧ tkK B N (tkP B N j) ≠ 25) : Rn (bnd (fX9_add n (ckI B N (tkP B N m)) (nI p) q) fun m15 => jX9_split_130 n x2 (nI i) (nI (tkB B N (tkP B N m))) m15) (OE (SPI μ0 B N (i + 1)) (SPE μ0 B N)) := by
  have tb := tk_bd (B := B) (tkP_le (B := B) (N := N) m)
  have tc := tk_cases (B := B) (tkP_le (B := B) (N := N) m) hb
  rw [ha] at tb
  have ad := c_add (n := n) (x1 := ckI B N (tkP B N m)) (x2 := nI p) hs.1 (by omega)
  have sa := hs.add
  rw [ha] at sa
  rw [ad, bnd_some, c_130 sa (by omega) hb, show m + 1 - 1 = m by omega]
  have n24 : tkK B N (tkP B N m) ≠ 24 := fun e => by
    rcases tc with q | q | q | q | q <;> omega
  by_cases c : tkK B N (tkP B N m) = 25
  · rw [if_pos ⟨by omega, c⟩]
    exact Rn.so (Or.inl ⟨_, m, rfl, by omega, sa, hj, Or.inr c⟩)
  · rw [if_neg (fun q => c q.2), show nI i + 1 = nI (i + 1) from nI_add i 1]
    refine Rn.so ⟨tkB B N (tkP B N m), m + 1, _, rfl, by have := tb.2.2.2.2 hp; omega, tb.2.2.2.1, by have := tb.2.2.2.2 hp; omega, Nat.le_refl _, fun k h1 h2 => by have h1 : tkB B N (tkP B N m) ≤ k := h1; omega, sa, fun j h => ?_⟩
    by_cases e : j = m
    · rw [e]; exact ⟨n24, c⟩
    · exact hj j (by omega)
theorem sp_53 {n N m p i : Nat} {B : Nat → Nat} {μ0 q : Mu} (h : CTp q B N) (hs : SPL μ0 q B N m) (hm : m ≤ p) (hp : p < N) (hi : i ≤ p) (ha : tkA B N (tkP B N m) = p) (hj : ∀ j, j < m → tkK B N (tkP B N j) ≠ 24 ∧ tkK B N (tkP B N j) ≠ 25) (hc : ltB B p = true ∨ dgB B p = true) (hn : 1000 < n) : Rn (jX9_split_53 n (nI N) (nI p) (nI i) (nI (B p)) q) (OE (SPI μ0 B N (i + 1)) (SPE μ0 B N)) := by
  have hN := h.1
  have hb : ∀ k, k < N → B k < 256 := fun k hk => (h.2 k hk).1
  have tb := tk_bd (B := B) (tkP_le (B := B) (N := N) m)
  have tc := tk_cases (B := B) (tkP_le (B := B) (N := N) m) hb
  have st := sp_tok (n := n) (x2 := nI N) hb hN hs hm hp hi ha hj
  have eB : tkB B N (tkP B N m) = if ltB B p = true then runE (ltB B) p N else runE (dgB B) p N := by
    unfold tkB tkE
    rw [ha, if_neg (show ¬ N ≤ p by omega)]
    by_cases c : ltB B p = true
    · rw [if_pos c, if_pos c]
    · rw [if_neg c, if_neg c, if_pos (by rcases hc with q | q; exact absurd q c; exact q)]
  have eK : tkK B N (tkP B N m) = if ltB B p = true then kwN (fun j => nI (B (p + j))) (tkB B N (tkP B N m) - p) else if dgB B p = true then (if tkB B N (tkP B N m) - p ≤ 3 then 23 else 25) else sgK (B p) := by
    unfold tkK; rw [ha, if_neg (show ¬ N ≤ p by omega)]
  have eV : tkV B N (tkP B N m) = nmN B p (tkB B N (tkP B N m) - p) := by unfold tkV; rw [ha]
  have re := c_runEnd (n := n) h hp hc hn
  rw [← eB] at re
  rw [ha] at tb
  unfold jX9_split_53 jX9_split_87
  rw [re, bnd_some, show fX9_isLetter n (nI (B p)) q = some (if ltB B p = true then 1 else 0) from nat_lt _ (hb p hp), bnd_some, ifb]
  by_cases c : ltB B p = true
  · rw [if_pos c] at eK eB ⊢
    obtain ⟨g1, g2, g3, g4⟩ := run_spec (ltB B) (show p ≤ N by omega)
    have w := c_word (n := n) (a := p) (len := tkB B N (tkP B N m) - p) (g := fun j => nI (B (p + j))) (μ := q) (fun j hj => by
      rw [(h.2 (p + j) (by omega)).2]
      have := of_decide_eq_true (g3 (p + j) (by omega) (by omega))
      exact raw_nI _ (by omega)) (by omega) hn
    rw [show p + (tkB B N (tkP B N m) - p) = tkB B N (tkP B N m) by omega] at w
    have ec : (match kx (fun j => nI (B (p + j))) (tkB B N (tkP B N m) - p) kwC 0 with | some i => nI (200 + i) | none => 2) = ckI B N (tkP B N m) := by
      rw [kx_both]
      unfold ckI
      unfold kwN at eK
      cases hk : kx (fun j => nI (B (p + j))) (tkB B N (tkP B N m) - p) kwR 0 with
      | none =>
        rw [hk] at eK
        have eK : tkK B N (tkP B N m) = 22 := eK
        rw [if_neg (by omega), if_pos eK]; rfl
      | some j =>
        rw [hk] at eK
        have eK : tkK B N (tkP B N m) = j := eK
        have hl := (kx_lt kwR 0 j hk).2
        have e22 : kwR.length = 22 := by decide +kernel
        rw [eK, if_pos (by omega)]; rfl
    rw [show fX9_wordOf n (nI p) (nI (tkB B N (tkP B N m))) q = some (ckI B N (tkP B N m)) from w.trans (congrArg some ec), bnd_some]
    exact st
  · rw [if_neg c] at eK eB ⊢
    have c2 : dgB B p = true := by rcases hc with q | q; exact absurd q c; exact q
    rw [if_pos c2] at eK
    obtain ⟨g1, g2, g3, g4⟩ := run_spec (dgB B) (show p ≤ N by omega)
    have w := c_number (n := n) (a := p) (b := tkB B N (tkP B N m)) h (by omega) (by omega) (fun k h1 h2 => g3 k h1 (by omega)) hn
    have ec : (if tkB B N (tkP B N m) - p ≤ 3 then nI (1000 + nmN B p (tkB B N (tkP B N m) - p)) else 1) = ckI B N (tkP B N m) := by
      unfold ckI
      by_cases e : tkB B N (tkP B N m) - p ≤ 3
      · rw [if_pos e] at eK ⊢
        rw [if_neg (by omega), if_neg (by omega), if_pos eK, eV]
      · rw [if_neg e] at eK ⊢
        rw [if_neg (by omega), if_neg (by omega), if_neg (by omega), if_neg (by omega), if_pos eK]
    rw [w, bnd_some, ec]
    exact st
theorem c_split {n N : Nat} {B : Nat → Nat} {μ : Mu} (h : CTp μ B N) (hn : 1000 < n) : ∃ μ' M, fX9_split n (nI N) μ = some μ' ∧ TKS μ μ' B N M := by
  have hN := h.1
  have hb : ∀ k, k < N → B k < 256 := fun k hk => (h.2 k hk).1
  have atN : ∀ {i : Nat} {x : Int32 × Int32 × Mu} {p m : Nat} {q : Mu}, x = (nI p, nI i, q) → i ≤ p → p = N → m ≤ p → tkP B N m ≤ p → (∀ k, tkP B N m ≤ k → k < p → wsB B k = true) → SPL μ q B N m → (∀ j, j < m → tkK B N (tkP B N j) ≠ 24 ∧ tkK B N (tkP B N j) ≠ 25) → sX9_split_10 n (nI N) x = some (.inr (.inr q)) ∧ SPE μ B N (.inr q) := by
    intro i x p m q ex hi hp hm h1 h2 h3 h4
    subst ex
    refine ⟨?_, Or.inr ⟨q, m, rfl, by omega, run_eq (tkP_le m) (by omega) (Nat.le_refl _) (fun k k1 k2 => h2 k k1 (by omega)) (fun e => absurd e (Nat.lt_irrefl _)), h3, h4⟩⟩
    have z : nI N ≤ nI p := (nI_leI (by omega) (by omega)).mpr (by omega)
    by_cases e : (900 : Int32) ≤ nI i
    · simp only [sX9_split_10, if_pos e]
    · simp only [sX9_split_10, if_neg e, if_pos z]
  have key : Rn (lp n (sX9_split_10 n (nI N)) (0, 0, wI μ 25 2 0)) (SPE μ B N) := by
    refine Rn.l N (SPI μ B N) _ (by omega) ⟨0, 0, _, rfl, Nat.le_refl _, Nat.zero_le _, Nat.le_refl _, Nat.le_refl _, fun k h1 h2 => absurd h2 (Nat.not_lt_zero _), ⟨rI_same _ _ _ _, fun i hi => absurd hi (Nat.not_lt_zero _), (Fr.rfl' _ _).w (by omega) _ _⟩, fun j hj => absurd hj (Nat.not_lt_zero _)⟩ ?_ ?_
    · rintro i x hi ⟨p, m, q, ex, h1, h2, h3, h4, h5, h6, h7⟩
      by_cases c : p = N
      · obtain ⟨a1, a2⟩ := atN ex h1 c h3 h4 h5 h6 h7
        exact ⟨.inr (.inr q), a1, a2⟩
      · subst ex
        have hp : p < N := by omega
        have ht : CTp q B N := h.fr h6.2.2 (by omega)
        have hbp := hb p hp
        have z1 : ¬ (900 : Int32) ≤ nI i := fun e => by have : 900 ≤ i := (le_l (k := 900) (by decide) (by omega)).mp e; omega
        have z2 : ¬ nI N ≤ nI p := fun e => by have := (nI_leI (by omega) (by omega)).mp e; omega
        have z3 : ib (nI p) 900 = true := ib_n (by omega) (by omega)
        have z4 : rI q 1 p &&& 255 = nI (B p) := by rw [(ht.2 p hp).2]; exact raw_and _ hbp
        have z5 : fX9_isLetter n (nI (B p)) q = some (if ltB B p = true then 1 else 0) := nat_lt _ hbp
        have z6 : fX9_isDigit n (nI (B p)) q = some (if dgB B p = true then 1 else 0) := nat_dg _ hbp
        have z7 : nI p + 1 = nI (p + 1) := nI_add p 1
        have n10 : (nI (B p) = 10) ↔ B p = 10 := nI_eq (b := 10) (by omega) (by omega)
        have n32 : (nI (B p) = 32) ↔ B p = 32 := nI_eq (b := 32) (by omega) (by omega)
        simp only [sX9_split_10, if_neg z1, if_neg z2, z3, gd_true, ix_n (show p < 2 ^ 31 by omega), z4, z5, z6, bnd_some, ifb, z7, n10, n32]
        have hws : wsB B p = true → Rn (jX9_split_130 n (nI N) (nI i) (nI (p + 1)) q) (OE (SPI μ B N (i + 1)) (SPE μ B N)) := fun w => by
          rw [c_130 h6 (by omega) hb, if_neg (fun e => (h7 (m - 1) (by omega)).2 e.2), show nI i + 1 = nI (i + 1) from nI_add i 1]
          refine Rn.so ⟨p + 1, m, q, rfl, by omega, by omega, by omega, by omega, fun k k1 k2 => ?_, h6, h7⟩
          by_cases e : k = p
          · rw [e]; exact w
          · exact h5 k k1 (by omega)
        have hat : ¬ wsB B p = true → tkA B N (tkP B N m) = p := fun w => run_eq (tkP_le m) h4 h2 h5 (fun _ => by simpa using w)
        have nws : ltB B p = true ∨ dgB B p = true → ¬ wsB B p = true := fun e w => by
          have w := of_decide_eq_true w
          rcases e with e | e
          · have := of_decide_eq_true e; omega
          · have := of_decide_eq_true e; omega
        by_cases c1 : ltB B p = true
        · rw [if_pos c1]
          exact sp_53 ht h6 h3 hp h1 (hat (nws (Or.inl c1))) h7 (Or.inl c1) hn
        · rw [if_neg c1]
          by_cases c2 : dgB B p = true
          · rw [if_pos c2]
            exact sp_53 ht h6 h3 hp h1 (hat (nws (Or.inr c2))) h7 (Or.inr c2) hn
          · rw [if_neg c2]
            by_cases c3 : B p = 10
            · rw [if_pos c3]; exact hws (decide_eq_true (Or.inl c3))
            · rw [if_neg c3]
              by_cases c4 : B p = 32
              · rw [if_pos c4]; exact hws (decide_eq_true (Or.inr c4))
              · rw [if_neg c4]
                have ha := hat (fun w => by
                  rcases of_decide_eq_true w with e | e
                  · exact c3 e
                  · exact c4 e)
                have eB : tkB B N (tkP B N m) = p + 1 := by
                  unfold tkB tkE
                  rw [ha, if_neg (show ¬ N ≤ p by omega), if_neg c1, if_neg c2]
                have eK : tkK B N (tkP B N m) = sgK (B p) := by
                  unfold tkK
                  rw [ha, if_neg (show ¬ N ≤ p by omega), if_neg c1, if_neg c2]
                have st := sp_tok (n := n) (x2 := nI N) hb hN h6 h3 hp h1 ha h7
                rw [eB] at st
                have ec : (if sgK (B p) = 25 then 1 else nI (B p)) = ckI B N (tkP B N m) := by
                  unfold ckI
                  rw [eK, ha]
                  rcases sg_K (B p) with e | e
                  · rw [e]; rfl
                  · rw [if_neg (by omega), if_neg (by omega), if_neg (by omega), if_neg (by omega), if_neg (by omega)]
                rw [raw_sg _ hbp, ec]
                exact st
    · rintro x ⟨p, m, q, ex, h1, h2, h3, h4, h5, h6, h7⟩
      obtain ⟨a1, a2⟩ := atN ex h1 (by omega) h3 h4 h5 h6 h7
      exact Rn.e (r := .inr q) a1 a2
  obtain ⟨r, r1, r2⟩ := key
  unfold fX9_split
  rw [r1, bnd_some]
  rcases r2 with ⟨q, M, rfl, hT⟩ | ⟨q, m, rfl, hm, hA, hs, hj⟩
  · exact ⟨q, M, rfl, hT⟩
  · have eK : tkK B N (tkP B N m) = 24 := by unfold tkK; rw [if_pos (by omega)]
    have ec : ckI B N (tkP B N m) = 0 := by unfold ckI; rw [eK]; rfl
    have sa := hs.add
    rw [ec, hA] at sa
    refine ⟨_, m, ?_, by omega, sa, hj, Or.inl eK⟩
    show (bnd (fX9_add n 0 (nI N) q) fun m34 => some m34) = _
    rw [c_add hs.1 (by omega), bnd_some]
