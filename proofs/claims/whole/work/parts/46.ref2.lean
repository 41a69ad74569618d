/-! the reference: sounds, who listens, who hears where -/
def RT (μ : Mu) (s : SD) (t : ST) : Prop := RB s t (fun j => rI μ 140 (64 + j))
theorem law_env {s : SD} (hv : SV s) {l : Nat} (hl : l < 3) (hln : 0 < sLn s l) {g g' : Nat → Int32} (h : ∀ k, k = 0 ∨ k = 1 ∨ (l = 0 ∧ k = 2) ∨ (l = 1 ∧ (k = 3 ∨ k = 4 ∨ k = 5)) ∨ (l = 2 ∧ (k = 6 ∨ k = 7 ∨ k = 8)) → g k = g' k) : lawV s l g = lawV s l g' := by
  unfold lawV
  have hok := (hv.2.2.2.2.2.2.2.1 l hl).2 hln
  rw [evN_congr (fun _ _ => rfl) (fun i hi h1 h2 => ?_)]
  obtain ⟨hc, -, -⟩ := hok.1 i hi
  exact h _ (by omega)
def gk (G k : Nat) : Nat := if k < G then 1 else 0
theorem gk_0 (G : Nat) : gk G 0 = gl G := rfl
theorem f_galeIn {n : Nat} {μ : Mu} {G k : Nat} (h : rI μ 140 65 = nI G) (hG : G < 2147483648) (hk : k < 2147483648) : fX12_galeIn n (nI k) μ = some (nI (gk G k)) := by
  unfold fX12_galeIn gk
  simp (disch := first | omega | decide) only [gd_true, bnd_some, bnd2_some, ix_n, ib_n, add_l, add_r, mul_l, mul_r, nI_add, sub_r, nI_leI, nI_ltI, nI_eq, le_l, le_r, lt_l, lt_r, eq_l, eq_r, eq_m, if_true, if_false, not_false_eq_true, not_true_eq_false, h]
  by_cases c : k < G
  · rw [if_neg (by omega), if_pos c]; rfl
  · rw [if_pos (by omega), if_neg c]; rfl
theorem f_soundIn {n b k : Nat} {μ : Mu} {s : SD} {t : ST} (hs : RS μ s) (hv : SV s) (ht : RT μ s t) (hV : TV s t) (hb : b < 1000) (hk : k < 10000) (hh : tH t < 1000000000) (hn : 1000 < n) : ∃ μ', fX12_soundIn n (nI b) (nI k) μ = some (soundS s b (tH t + k) (gk (tG t) k), μ') ∧ Sc μ μ' := by
  have hG : tG t < 2147483648 := by have := hV.1; omega
  have a0 : rI μ 140 64 = nI (tH t) := ht.1
  have a1 : rI μ 140 65 = nI (tG t) := ht.2.1
  have a5 := (hs.2.2.2.2.2.1 0 (by decide)).1
  unfold fX12_soundIn soundS
  simp only [Nat.add_zero] at a5
  by_cases c : sLn s 0 = 0
  · rw [if_pos c] at a5
    rw [if_pos c]
    simp (disch := first | omega | decide) only [a5, f_galeIn a1 hG, gd_true, bnd_some, bnd2_some, ix_n, ib_n, add_l, add_r, mul_l, mul_r, nI_add, sub_r, nI_leI, nI_ltI, nI_eq, le_l, le_r, lt_l, lt_r, eq_l, eq_r, eq_m, if_true, if_false, not_false_eq_true, not_true_eq_false]
    exact ⟨μ, rfl, Sc.rfl' μ⟩
  · rw [if_neg c] at a5
    rw [if_neg c]
    have hsc : Sc μ (wI μ 145 2 (nI b)) := (Sc.rfl' μ).w5 _ _
    have hs2 : RS (wI μ 145 2 (nI b)) s := hs.congr hv (fun i _ => hsc.a i)
    obtain ⟨μ', h1, h2⟩ := f_reckons (n := n) (l := 0) (h := tH t + k) (g := gk (tG t) k) hs2 hv (by decide) (by omega) (by omega) hn
    have e : lawV s 0 (envM (wI μ 145 2 (nI b)) (tH t + k) (gk (tG t) k)) = lawV s 0 (envS (tH t + k) (gk (tG t) k) 0 b 0 0) := by
      refine law_env hv (by decide) (by omega) fun q hq => ?_
      rcases (show q = 0 ∨ q = 1 ∨ q = 2 by omega) with rfl | rfl | rfl
      · rfl
      · rfl
      · show rI (wI μ 145 2 (nI b)) 145 2 = _
        rw [rI_same]; rfl
    rw [e] at h1
    have a1' : rI (wI μ 145 2 (nI b)) 140 65 = nI (tG t) := by rw [hsc.a]; exact a1
    have a0' : rI (wI μ 145 2 (nI b)) 140 64 = nI (tH t) := by rw [hsc.a]; exact a0
    rw [show rI μ 140 5 = nI 1 from a5, if_neg (by decide), f_galeIn a1' hG (by omega), bnd_some, a0', nI_add]
    have h1 : fX12_reckons n 0 (nI (tH t + k)) (nI (gk (tG t) k)) (wI μ 145 2 (nI b)) = _ := h1
    rw [h1, bnd2_some]
    refine ⟨μ', ?_, hsc.tr h2⟩
    unfold clamp99
    generalize lawV s 0 (envS (tH t + k) (gk (tG t) k) 0 b 0 0) = v
    have h0 : ∀ v : Int32, 0 ≤ v ↔ ¬ v < 0 := fun v => Int32.not_lt.symm
    have h9 : ∀ v : Int32, v ≤ 99 ↔ ¬ 99 < v := fun v => Int32.not_lt.symm
    by_cases c1 : v < 0
    · rw [if_neg (fun q => (h0 v).mp q c1), if_pos c1]
    · rw [if_pos ((h0 v).mpr c1), if_neg c1]
      by_cases c2 : 99 < v
      · rw [if_neg (fun q => (h9 v).mp q c2), if_pos c2]
      · rw [if_pos ((h9 v).mpr c2), if_neg c2]
theorem b01 (b : Bool) (μ : Mu) : (if (if b = true then (1 : Int32) else 0) = 1 then some ((1 : Int32), μ) else some (0, μ)) = some (if b = true then 1 else 0, μ) := by cases b <;> simp
theorem f_isOpen {n c : Nat} {μ : Mu} {s : SD} {t : ST} (hs : RS μ s) (hv : SV s) (ht : RT μ s t) (hV : TV s t) (hc : c < sC s) (hh : tH t < 1000000000) (hn : 1000 < n) : ∃ μ', fX12_isOpen n (nI c) μ = some (if openS s (tH t) (gl (tG t)) c = true then 1 else 0, μ') ∧ Sc μ μ' := by
  have hG : tG t < 2147483648 := by have := hV.1; omega
  have hC := hv.2.1
  have a0 : rI μ 140 64 = nI (tH t) := ht.1
  have a1 : rI μ 140 65 = nI (tG t) := ht.2.1
  have a6 := (hs.2.2.2.2.2.1 1 (by decide)).1
  obtain ⟨o1, o2, o3⟩ := hs.2.2.2.2.2.2.1 c hc
  unfold fX12_isOpen openS
  by_cases q : sLn s 1 = 0
  · rw [if_pos q] at a6
    have g1 : fX12_galeIn n 0 μ = some (nI (gl (tG t))) := f_galeIn (k := 0) a1 hG (by decide)
    rw [if_pos q, show rI μ 140 6 = nI 0 from a6, if_pos (by decide), g1, bnd_some]
    refine ⟨μ, ?_, Sc.rfl' μ⟩
    unfold gl
    by_cases g : 0 < tG t
    · simp [g, nI]
    · simp [g, nI]
  · rw [if_neg q] at a6
    rw [if_neg q, show rI μ 140 6 = nI 1 from a6, if_neg (by decide)]
    simp (disch := first | omega | decide) only [gd_true, bnd_some, bnd2_some, ix_n, ib_n, add_l, add_r, mul_l, mul_r, nI_add, sub_r, nI_leI, nI_ltI, nI_eq, le_l, le_r, lt_l, lt_r, eq_l, eq_r, eq_m, if_true, if_false, not_false_eq_true, not_true_eq_false, o1, rI_ai (show (140 : Nat) ≠ 145 by decide), o2, o3]
    generalize hm : wI (wI (wI μ 145 3 (nI (s 1 c))) 145 4 (nI (s 2 c))) 145 5 (nI (s 3 c)) = m
    have hsc : Sc μ m := by rw [← hm]; exact (((Sc.rfl' μ).w5 _ _).w5 _ _).w5 _ _
    have hs2 : RS m s := hs.congr hv (fun i _ => hsc.a i)
    obtain ⟨μ', h1, h2⟩ := f_reckons (n := n) (l := 1) (h := tH t) (g := gl (tG t)) hs2 hv (by decide) (by omega) (by omega) hn
    have e : lawV s 1 (envM m (tH t) (gl (tG t))) = lawV s 1 (envS (tH t) (gl (tG t)) 1 (s 1 c) (s 2 c) (s 3 c)) := by
      refine law_env hv (by decide) (by omega) fun q hq => ?_
      rcases (show q = 0 ∨ q = 1 ∨ q = 3 ∨ q = 4 ∨ q = 5 by omega) with rfl | rfl | rfl | rfl | rfl
      · rfl
      · rfl
      · show rI m 145 3 = _
        rw [← hm, rI_ii (by decide), rI_ii (by decide), rI_same]; rfl
      · show rI m 145 4 = _
        rw [← hm, rI_ii (by decide), rI_same]; rfl
      · show rI m 145 5 = _
        rw [← hm, rI_same]; rfl
    rw [e] at h1
    have a1' : rI m 140 65 = nI (tG t) := by rw [hsc.a]; exact a1
    have a0' : rI m 140 64 = nI (tH t) := by rw [hsc.a]; exact a0
    have h1 : fX12_reckons n 1 (nI (tH t)) (nI (gl (tG t))) m = _ := h1
    have g1 : fX12_galeIn n 0 m = some (nI (gl (tG t))) := f_galeIn (k := 0) a1' hG (by decide)
    rw [g1, bnd_some, a0, h1, bnd2_some]
    refine ⟨μ', ?_, hsc.tr h2⟩
    generalize lawV s 1 (envS (tH t) (gl (tG t)) 1 (s 1 c) (s 2 c) (s 3 c)) = v
    by_cases c1 : v = 1 <;> simp [c1]
theorem f_heardMany {n p : Nat} {μ : Mu} {s : SD} {t : ST} (ht : RT μ s t) (hV : TV s t) (hv : SV s) (hp : p < sP s) (hn : 10 < n) : fX12_heardMany n (nI p) μ = some (nI (hdS t p)) := by
  have hw := hV.2.1
  have hP := hv.2.2.1
  have a3 : rI μ 140 67 = nI (tW t) := ht.2.2.2.1
  unfold fX12_heardMany hdS
  rw [show ((0, 0) : Int32 × Int32) = (fun i => (nI (cnt (fun w => tHe t w p) i), nI i)) 0 from rfl, lp_up (tW t) (fun i => (nI (cnt (fun w => tHe t w p) i), nI i)) (nI (cnt (fun w => tHe t w p) (tW t))) ?_ ?_ (by omega), bnd_some]
  · intro i hi
    have hb := (ht.2.2.2.2.2 i hi).2.2.1
    have hb2 : bt (rI μ 140 (92 + i)) p = tHe t i p := by
      rw [show 92 + i = 64 + (28 + i) by omega]
      exact bs_at hb hp (by omega)
    simp (disch := first | omega | decide) only [sX12_heardMany_4, b_test, ite01, gd_true, bnd_some, bnd2_some, ix_n, ib_n, add_l, add_r, mul_l, mul_r, nI_add, sub_r, nI_leI, nI_ltI, nI_eq, le_l, le_r, lt_l, lt_r, eq_l, eq_r, eq_m, if_true, if_false, not_false_eq_true, not_true_eq_false, a3, show ¬ tW t ≤ i by omega, cnt, hb2]
  · simp (disch := first | omega | decide) only [sX12_heardMany_4, gd_true, bnd_some, bnd2_some, ix_n, ib_n, add_l, add_r, mul_l, mul_r, nI_add, sub_r, nI_leI, nI_ltI, nI_eq, le_l, le_r, lt_l, lt_r, eq_l, eq_r, eq_m, if_true, if_false, not_false_eq_true, not_true_eq_false, a3, Nat.le_refl]
theorem f_listens {n p : Nat} {μ : Mu} {s : SD} {t : ST} (hs : RS μ s) (hv : SV s) (ht : RT μ s t) (hV : TV s t) (hp : p < sP s) (hh : tH t < 1000000000) (hn : 1000 < n) : ∃ μ', fX12_listens n (nI p) μ = some (if lisS s (tH t) (gl (tG t)) p (hdS t p) = true then 1 else 0, μ') ∧ Sc μ μ' := by
  have hG : tG t < 2147483648 := by have := hV.1; omega
  have hP := hv.2.2.1
  have a0 : rI μ 140 64 = nI (tH t) := ht.1
  have a1 : rI μ 140 65 = nI (tG t) := ht.2.1
  have a7 := (hs.2.2.2.2.2.1 2 (by decide)).1
  obtain ⟨o1, o2⟩ := hs.2.2.2.2.2.2.2.1 p hp
  obtain ⟨v1, v2⟩ := hv.2.2.2.2.2.1 p hp
  have hB := hv.1.2
  unfold fX12_listens lisS
  simp (disch := first | omega | decide) only [gd_true, bnd_some, bnd2_some, ix_n, ib_n, add_l, add_r, mul_l, mul_r, nI_add, sub_r, nI_leI, nI_ltI, nI_eq, le_l, le_r, lt_l, lt_r, eq_l, eq_r, eq_m, if_true, if_false, not_false_eq_true, not_true_eq_false, o2]
  by_cases q0 : s 5 p = 1
  · rw [if_pos q0]
    refine ⟨μ, ?_, Sc.rfl' μ⟩
    simp [q0]
  · have q1 : s 5 p = 0 := by omega
    rw [if_neg q0]
    by_cases q : sLn s 2 = 0
    · rw [if_pos q] at a7
      rw [show rI μ 140 7 = nI 0 from a7, if_pos (by decide)]
      refine ⟨μ, ?_, Sc.rfl' μ⟩
      simp [q1, q]
    · rw [if_neg q] at a7
      rw [show rI μ 140 7 = nI 1 from a7, if_neg (by decide)]
      have o1' : rI (wI μ 145 6 (nI p)) 140 (44 + p) = e6 (s 4 p) := by rw [rI_ai (by decide)]; exact o1
      have body : ∃ μ', jX12_listens_68 n (nI p) (nI (s 4 p)) 7 (wI μ 145 6 (nI p)) = some (if (decide (s 5 p = 0) && (if sLn s 2 = 0 then true else decide (lawV s 2 (envS (tH t) (gl (tG t)) 2 p (s 4 p) (hdS t p)) = 1))) = true then 1 else 0, μ') ∧ Sc μ μ' := by
        unfold jX12_listens_68
        rw [gd_t (by decide), show ix (7 : Int32) = 7 by decide]
        generalize hm1 : wI (wI μ 145 6 (nI p)) 145 7 (nI (s 4 p)) = m1
        have hsc1 : Sc μ m1 := by rw [← hm1]; exact ((Sc.rfl' μ).w5 _ _).w5 _ _
        have ht1 : RT m1 s t := ht.congr hV hv (fun j _ => hsc1.a _)
        rw [f_heardMany ht1 hV hv hp (by omega), bnd_some]
        generalize hm : wI m1 145 8 (nI (hdS t p)) = m
        have hsc : Sc μ m := by rw [← hm]; exact hsc1.w5 _ _
        have hs2 : RS m s := hs.congr hv (fun i _ => hsc.a i)
        obtain ⟨μ', h1, h2⟩ := f_reckons (n := n) (l := 2) (h := tH t) (g := gl (tG t)) hs2 hv (by decide) (by omega) (by omega) hn
        have e : lawV s 2 (envM m (tH t) (gl (tG t))) = lawV s 2 (envS (tH t) (gl (tG t)) 2 p (s 4 p) (hdS t p)) := by
          refine law_env hv (by decide) (by omega) fun q hq => ?_
          rcases (show q = 0 ∨ q = 1 ∨ q = 6 ∨ q = 7 ∨ q = 8 by omega) with rfl | rfl | rfl | rfl | rfl
          · rfl
          · rfl
          · show rI m 145 6 = _
            rw [← hm, rI_ii (by decide), ← hm1, rI_ii (by decide), rI_same]; rfl
          · show rI m 145 7 = _
            rw [← hm, rI_ii (by decide), ← hm1, rI_same]; rfl
          · show rI m 145 8 = _
            rw [← hm, rI_same]; rfl
        rw [e] at h1
        have a1' : rI m 140 65 = nI (tG t) := by rw [hsc.a]; exact a1
        have a0' : rI m 140 64 = nI (tH t) := by rw [hsc.a]; exact a0
        have h1 : fX12_reckons n 2 (nI (tH t)) (nI (gl (tG t))) m = _ := h1
        have g1 : fX12_galeIn n 0 m = some (nI (gl (tG t))) := f_galeIn (k := 0) a1' hG (by decide)
        rw [g1, bnd_some, a0', h1, bnd2_some]
        refine ⟨μ', ?_, hsc.tr h2⟩
        generalize lawV s 2 (envS (tH t) (gl (tG t)) 2 p (s 4 p) (hdS t p)) = v
        by_cases c1 : v = 1 <;> simp [c1, q1, q]
      simp (disch := first | omega | decide) only [gd_true, bnd_some, bnd2_some, ix_n, ib_n, add_l, add_r, mul_l, mul_r, nI_add, sub_r, nI_leI, nI_ltI, nI_eq, le_l, le_r, lt_l, lt_r, eq_l, eq_r, eq_m, if_true, if_false, not_false_eq_true, not_true_eq_false, o1']
      by_cases h6 : s 4 p = 6
      · rw [h6] at body ⊢
        rw [if_pos (by decide)]
        exact body
      · rw [if_neg (fun e => h6 ((e6_m1 (by omega)).mp e)), show e6 (s 4 p) = nI (s 4 p) by unfold e6; rw [if_neg h6]]
        exact body
