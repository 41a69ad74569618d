/-! TOKENS: the reference's next, whole -/
def RTk (μ : Mu) (B : Nat → Nat) (N p : Nat) : Prop := rI μ 139 6 = nI (tkA B N p) ∧ rI μ 139 7 = nI (tkB B N p) ∧ rI μ 139 9 = nI (tkK B N p) ∧ (tkK B N p = 23 → rI μ 139 10 = nI (tkV B N p))
theorem tk_bd {B : Nat → Nat} {N p : Nat} (hp : p ≤ N) : p ≤ tkA B N p ∧ tkA B N p ≤ N ∧ tkA B N p ≤ tkB B N p ∧ tkB B N p ≤ N ∧ (tkA B N p < N → tkA B N p < tkB B N p) := by
  obtain ⟨g1, g2, g3, g4⟩ := run_spec (wsB B) hp
  have g1 : p ≤ tkA B N p := g1
  have g2 : tkA B N p ≤ N := g2
  refine ⟨g1, g2, ?_⟩
  unfold tkB
  generalize tkA B N p = a at g1 g2
  unfold tkE
  by_cases c : N ≤ a
  · rw [if_pos c]; exact ⟨by omega, by omega, fun h => by omega⟩
  · rw [if_neg c]
    have hx : ∀ f : Nat → Bool, f a = true → a < runE f a N := fun f hf => by
      obtain ⟨h1, h2, h3, h4⟩ := run_spec f (show a ≤ N by omega)
      refine Classical.byContradiction fun q => ?_
      have e : runE f a N = a := by omega
      have := h4 (by omega)
      rw [e, hf] at this; cases this
    by_cases c1 : ltB B a = true
    · rw [if_pos c1]
      obtain ⟨h1, h2, h3, h4⟩ := run_spec (ltB B) (show a ≤ N by omega)
      exact ⟨h1, h2, fun _ => hx _ c1⟩
    · rw [if_neg c1]
      by_cases c2 : dgB B a = true
      · rw [if_pos c2]
        obtain ⟨h1, h2, h3, h4⟩ := run_spec (dgB B) (show a ≤ N by omega)
        exact ⟨h1, h2, fun _ => hx _ c2⟩
      · rw [if_neg c2]; exact ⟨by omega, by omega, fun _ => by omega⟩
theorem r_next {n p N : Nat} {B : Nat → Nat} {μ : Mu} (h : RTp μ B N) (hp : p ≤ N) (h7 : rI μ 139 7 = nI p) (hn : 1000 < n) : ∃ μ', fX12_next n μ = some μ' ∧ RTk μ' B N p ∧ Fg PN μ μ' := by
  have hN := h.1
  have f0 : Fg PN μ (wI μ 139 6 (nI p)) := (Fg.rfl' _ _).w ⟨rfl, Or.inl rfl⟩ _
  obtain ⟨m7, s1, s2, s3⟩ := r_skip (n := n) (h.fg f0 (fun q => by unfold PN at q; omega) (fun i q => by unfold PN at q; omega)) hp (rI_same _ _ _ _) hn
  obtain ⟨b1, b2, b3, b4, b5⟩ := tk_bd (B := B) hp
  generalize ha : tkA B N p = a at s2 b1 b2 b3 b5
  have f1 : Fg PN μ m7 := f0.tr (s3.mono fun x i q => by unfold PN; omega)
  generalize hm8 : wI m7 139 7 (nI a) = m8
  have f2 : Fg PN μ m8 := by rw [← hm8]; exact f1.w ⟨rfl, Or.inr (Or.inl rfl)⟩ _
  have t2 := h.fg f2 (fun q => by unfold PN at q; omega) (fun i q => by unfold PN at q; omega)
  have q6 : rI m8 139 6 = nI a := by rw [← hm8, rI_ii (by decide)]; exact s2
  have q7 : rI m8 139 7 = nI a := by rw [← hm8]; exact rI_same _ _ _ _
  have q8 : rI m8 139 8 = nI N := t2.2.1
  have eK : tkK B N p = if N ≤ a then 24 else if ltB B a = true then kwN (fun j => nI (B (a + j))) (tkB B N p - a) else if dgB B a = true then (if tkB B N p - a ≤ 3 then 23 else 25) else sgK (B a) := by unfold tkK; rw [ha]
  have eB : tkB B N p = if N ≤ a then a else if ltB B a = true then runE (ltB B) a N else if dgB B a = true then runE (dgB B) a N else a + 1 := by unfold tkB tkE; rw [ha]
  have eV : tkV B N p = nmN B a (tkB B N p - a) := by unfold tkV; rw [ha]
  unfold fX12_next
  rw [h7, s1, bnd_some]
  dsimp only
  rw [s2, hm8, q6, q8]
  by_cases c : a < N
  · rw [if_pos ((nI_ltI (by omega) (by omega)).mpr c), r_see t2 (by omega), bnd_some, r_small (n := n) (m := m8) t2, bnd_some, ifb]
    rw [if_neg (show ¬ N ≤ a by omega)] at eK eB
    by_cases c1 : ltB B a = true
    · rw [if_pos (show (decide (a < N) && ltB B a) = true by rw [c1, decide_eq_true c]; rfl)]
      rw [if_pos c1] at eK eB
      obtain ⟨m9, r1, r2, r3⟩ := r_run (n := n) t2 b2 q7 hn
      rw [← eB] at r2
      have f3 : Fg PN μ m9 := f2.tr (r3.mono fun x i q => by unfold PN; omega)
      have t3 := h.fg f3 (fun q => by unfold PN at q; omega) (fun i q => by unfold PN at q; omega)
      have w := r_word (n := n) (a := a) (len := tkB B N p - a) (g := fun j => nI (B (a + j))) (μ := m9) (by rw [r3.i (by omega)]; exact q6) (by rw [r2, show a + (tkB B N p - a) = tkB B N p by omega]) (fun j hj => (t3.2.2 (a + j) (by omega)).2) (by omega) hn
      refine ⟨wI m9 139 9 (nI (tkK B N p)), ?_, ⟨?_, ?_, rI_same _ _ _ _, fun e => ?_⟩, f3.w ⟨rfl, Or.inr (Or.inr (Or.inl rfl))⟩ _⟩
      · rw [r1, bnd_some, w, bnd_some, eK]
      · rw [rI_ii (by decide), r3.i (by omega), ha]; exact q6
      · rw [rI_ii (by decide)]; exact r2
      · have := kwN_le (fun j => nI (B (a + j))) (tkB B N p - a)
        omega
    · rw [if_neg (show ¬ (decide (a < N) && ltB B a) = true by rw [show ltB B a = false by simpa using c1, Bool.and_false]; decide), bnd_some, r_digit (n := n) (m := m8) t2, bnd_some, ifb]
      rw [if_neg c1] at eK eB
      by_cases c2 : dgB B a = true
      · rw [if_pos (show (decide (a < N) && dgB B a) = true by rw [c2, decide_eq_true c]; rfl)]
        rw [if_pos c2] at eK eB
        have f3 : Fg PN μ (wI m8 139 10 0) := f2.w ⟨rfl, Or.inr (Or.inr (Or.inr rfl))⟩ _
        have t3 := h.fg f3 (fun q => by unfold PN at q; omega) (fun i q => by unfold PN at q; omega)
        obtain ⟨m9, r1, r2, r4, r3⟩ := r_dig (n := n) t3 b2 (by rw [rI_ii (by decide)]; exact q6) (by rw [rI_ii (by decide)]; exact q7) (rI_same _ _ _ _) hn
        rw [← eB] at r2 r4
        have f4 : Fg PN μ m9 := f3.tr (r3.mono fun x i q => by unfold PN; omega)
        have r6 : rI m9 139 6 = nI a := by rw [r3.i (by omega), rI_ii (by decide)]; exact q6
        have ek : (if rI m9 139 7 - rI m9 139 6 ≤ 3 then 23 else 25 : Int32) = nI (tkK B N p) := by
          rw [r2, r6, show tkB B N p = a + (tkB B N p - a) by omega, nI_subI (by omega), eK]
          by_cases e : tkB B N p - a ≤ 3
          · rw [if_pos ((le_r (k := 3) (by decide) (by omega)).mpr e), if_pos e]; rfl
          · rw [if_neg (fun q => e ((le_r (k := 3) (by decide) (by omega)).mp q)), if_neg e]; rfl
        refine ⟨wI m9 139 9 (nI (tkK B N p)), ?_, ⟨?_, ?_, rI_same _ _ _ _, fun e => ?_⟩, f4.w ⟨rfl, Or.inr (Or.inr (Or.inl rfl))⟩ _⟩
        · rw [r1, bnd_some, ek]
        · rw [rI_ii (by decide), r6, ha]
        · rw [rI_ii (by decide)]; exact r2
        · rw [rI_ii (by decide), eV]
          refine r4 ?_
          rw [eK] at e
          refine Classical.byContradiction fun q => ?_
          rw [if_neg q] at e; omega
      · rw [if_neg (show ¬ (decide (a < N) && dgB B a) = true by rw [show dgB B a = false by simpa using c2, Bool.and_false]; decide), q7, show nI a + 1 = nI (a + 1) from nI_add a 1]
        rw [if_neg c2] at eK eB
        generalize hm9 : wI (wI m8 139 7 (nI (a + 1))) 139 9 25 = m9
        have f3 : Fg PN μ m9 := by rw [← hm9]; exact (f2.w ⟨rfl, Or.inr (Or.inl rfl)⟩ _).w ⟨rfl, Or.inr (Or.inr (Or.inl rfl))⟩ _
        have t3 := h.fg f3 (fun q => by unfold PN at q; omega) (fun i q => by unfold PN at q; omega)
        obtain ⟨m, r1, r2, r3⟩ := r_signs (n := n) (a := a) t3 c (by rw [← hm9, rI_ii (by decide), rI_ii (by decide)]; exact q6) (by rw [← hm9]; exact rI_same _ _ _ _) hn
        refine ⟨m, by rw [r1, bnd_some], ⟨?_, ?_, by rw [r2, eK], fun e => ?_⟩, f3.tr (r3.mono fun x i q => by unfold PN; omega)⟩
        · rw [r3.i (by omega), ← hm9, rI_ii (by decide), rI_ii (by decide), ha]; exact q6
        · rw [r3.i (by omega), ← hm9, rI_ii (by decide), rI_same, eB]
        · rw [eK] at e
          have : ∀ i, sgP (B a) i = 25 ∨ 30 ≤ sgP (B a) i := fun i => by
            induction i with
            | zero => exact Or.inl rfl
            | succ i ih =>
              unfold sgP
              split
              · right; omega
              · exact ih
          have := this 12
          unfold sgK at e
          omega
  · rw [if_neg (fun e => c ((nI_ltI (by omega) (by omega)).mp e))]
    rw [if_pos (show N ≤ a by omega)] at eK eB
    refine ⟨wI m8 139 9 24, rfl, ⟨?_, ?_, ?_, fun e => ?_⟩, f2.w ⟨rfl, Or.inr (Or.inr (Or.inl rfl))⟩ _⟩
    · rw [rI_ii (by decide), ha]; exact q6
    · rw [rI_ii (by decide), eB]; exact q7
    · rw [rI_same, eK]; rfl
    · omega
