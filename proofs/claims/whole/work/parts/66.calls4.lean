/-! days -/
def dysT (s : SD) (t : ST) : Nat → ST
  | 0 => t
  | k + 1 => dayT s (dysT s t k)
theorem TV_day {s : SD} {t : ST} (hv : SV s) (h : TV s t) : TV s (dayT s t) ∧ tH (dayT s t) ≤ tH t + 1 := by
  unfold dayT
  by_cases c : whyV s (drwT s t) (drwV s t) = 0
  · rw [if_pos c]
    have z := TV_do hv (TV_drw h) c
    rw [tH_drw] at z; exact z
  · rw [if_neg c, tH_drw]; exact ⟨TV_drw h, Nat.le_succ _⟩
theorem TV_dys {s : SD} {t : ST} (hv : SV s) (h : TV s t) : ∀ k, TV s (dysT s t k) ∧ tH (dysT s t k) ≤ tH t + k
  | 0 => ⟨h, Nat.le_refl _⟩
  | k + 1 => by
    obtain ⟨a, b⟩ := TV_dys hv h k
    obtain ⟨c, d⟩ := TV_day hv a
    exact ⟨c, by show tH (dayT s (dysT s t k)) ≤ _; omega⟩
def dyN (s : SD) (t : ST) : Nat → Nat := cnt (fun i => dayB s (dysT s t i))
theorem f_days11 {n N : Nat} {μ : Mu} {s : SD} {t : ST} (hs : CS μ 2 s) (hv : SV s) (hr : RU μ s) (hV : TV s t) (hh : tH t ≤ 50000) (hN : N ≤ 200) (hn : 1000 < n) (ht : CB μ 41 s t) : Rn (lp n (sX11_days_37 n (nI N)) (0, 0, μ)) (fun r => r.1 = nI (dyN s t N) ∧ CB r.2 41 s (dysT s t N) ∧ RU r.2 s ∧ Fr (PH 41) μ r.2) := by
  have outs : ∀ k, k ≤ 10 → ¬ PH 41 (2 + k) := fun k hk q => by unfold PH at q; omega
  refine Rn.l N (fun i q => q.1 = nI (dyN s t i) ∧ q.2.1 = nI i ∧ CB q.2.2 41 s (dysT s t i) ∧ RU q.2.2 s ∧ Fr (PH 41) μ q.2.2) _ (by omega) ⟨rfl, rfl, ht, hr, Fr.rfl' _ _⟩ ?_ ?_
  · rintro i ⟨x, y, m⟩ hi ⟨e1, e2, e3, e4, e5⟩
    have e1 : x = nI (dyN s t i) := e1
    have e2 : y = nI i := e2
    subst e1; subst e2
    have e5 : Fr (PH 41) μ m := e5
    obtain ⟨v1, v2⟩ := TV_dys hv hV i
    obtain ⟨m', g1, g2, g3, g4⟩ := f_drawDeed (n := n) (a := 41) (by omega) (hs.fr e5 outs) hv e4 v1 (by omega) hn e3
    show Rn (if nI N ≤ nI i then _ else _) _
    rw [if_neg (fun e => by have := (nI_leI (by omega) (by omega)).mp e; omega), g1, bnd2_some, ifb]
    by_cases c : dayB s (dysT s t i) = true
    · rw [if_pos c]
      refine Rn.so ⟨?_, nI_add i 1, g2, g3, e5.tr g4⟩
      show nI (dyN s t i) + 1 = nI (cnt _ i + (if dayB s (dysT s t i) = true then 1 else 0))
      rw [if_pos c]; exact nI_add _ 1
    · rw [if_neg c]
      refine Rn.so ⟨?_, nI_add i 1, g2, g3, e5.tr g4⟩
      show nI (dyN s t i) = nI (cnt _ i + (if dayB s (dysT s t i) = true then 1 else 0))
      rw [if_neg c]; rfl
  · rintro ⟨x, y, m⟩ ⟨e1, e2, e3, e4, e5⟩
    have e2 : y = nI N := e2
    subst e2
    exact Rn.e (r := (x, m)) (ite_le rfl) ⟨e1, e3, e4, e5⟩
theorem i32_64 (x : Int32) : x.toInt64.toInt32 = x := by simp
theorem f_days12 {n N : Nat} {μ : Mu} {s : SD} {t : ST} (hs : RS μ s) (hv : SV s) (ht : RT μ s t) (hV : TV s t) (hx : rI μ 139 19 = 0) (hh : tH t ≤ 50000) (hN : N ≤ 200) (hn : 1000 < n) : Rn (lp n (sX12_days_37 n (nI N)) (0, 0, μ)) (fun r => r.1 = nI (dyN s t N) ∧ RT r.2 s (dysT s t N) ∧ Fg PR μ r.2) := by
  refine Rn.l N (fun i q => q.1 = nI (dyN s t i) ∧ q.2.1 = nI i ∧ RT q.2.2 s (dysT s t i) ∧ Fg PR μ q.2.2) _ (by omega) ⟨rfl, rfl, ht, Fg.rfl' _ _⟩ ?_ ?_
  · rintro i ⟨x, y, m⟩ hi ⟨e1, e2, e3, e5⟩
    have e1 : x = nI (dyN s t i) := e1
    have e2 : y = nI i := e2
    subst e1; subst e2
    have e5 : Fg PR μ m := e5
    obtain ⟨v1, v2⟩ := TV_dys hv hV i
    have ro : ∀ i, i < 64 ∨ 1341 ≤ i ∧ i < 2242 → ¬ PR 140 i := fun i hi q => by unfold PR at q; omega
    have hS := hs.fg hv e5 ro
    obtain ⟨d, m1, g1, g2, g3, g4⟩ := f_drawn (n := n) hS hv e3
    have hS1 := hS.fg hv g4 ro
    have w := f_whyNot (n := n) (v := d.toInt64) hS1 hv g3 (TV_drw v1)
    rw [g2] at w
    have hle := whyV_le s (drwT s (dysT s t i)) (drwV s (dysT s t i))
    show Rn (if nI N ≤ nI i then _ else _) _
    rw [if_neg (fun e => by have := (nI_leI (by omega) (by omega)).mp e; omega), g1, bnd2_some, g2, w, bnd_some]
    have ed : dysT s t (i + 1) = dayT s (dysT s t i) := rfl
    have hx1 : rI m1 139 19 = 0 := by rw [g4.i (fun q => by unfold PR at q; omega), e5.i (fun q => by unfold PR at q; omega)]; exact hx
    by_cases c : whyV s (drwT s (dysT s t i)) (drwV s (dysT s t i)) = 0
    · obtain ⟨m2, k1, k2, k3⟩ := f_does (n := n) (v := drwV s (dysT s t i)) hS1 hv g3 (TV_drw v1) hx1 (by rw [tH_drw]; omega) hn c
      rw [← g2, i32_64] at k1
      rw [if_pos ((nI_z (by omega)).mpr c), k1, bnd_some]
      refine Rn.so ⟨?_, nI_add i 1, ?_, (e5.tr g4).tr k3⟩
      · show nI (dyN s t i) + 1 = nI (cnt _ i + (if dayB s (dysT s t i) = true then 1 else 0))
        rw [if_pos (show dayB s (dysT s t i) = true from decide_eq_true c)]; exact nI_add _ 1
      · rw [ed]; unfold dayT; rw [if_pos c]; exact k2
    · rw [if_neg (fun e => c ((nI_z (by omega)).mp e))]
      refine Rn.so ⟨?_, nI_add i 1, ?_, e5.tr g4⟩
      · show nI (dyN s t i) = nI (cnt _ i + (if dayB s (dysT s t i) = true then 1 else 0))
        rw [if_neg (fun e : dayB s (dysT s t i) = true => c (of_decide_eq_true e))]; rfl
      · rw [ed]; unfold dayT; rw [if_neg c]; exact g3
  · rintro ⟨x, y, m⟩ ⟨e1, e2, e3, e5⟩
    have e2 : y = nI N := e2
    subst e2
    exact Rn.e (r := (x, m)) (ite_le rfl) ⟨e1, e3, e5⟩
/-- what the reference works with between keeps and isAgain -/
def PG : Nat → Nat → Prop := fun a i => (a = 139 ∧ i ≠ 5 ∧ i ≠ 13 ∧ i ≠ 14 ∧ i ≠ 19) ∨ (a = 140 ∧ 64 ≤ i ∧ i < 180) ∨ (144 ≤ a ∧ a ≤ 151 ∧ a ≠ 146)
theorem PR_PG {a i : Nat} (h : PR a i) : PG a i := by unfold PR at h; unfold PG; omega
theorem PT_PG {a i : Nat} (h : PT a i) : PG a i := by unfold PT PR at h; unfold PG; omega
theorem r_again {n : Nat} {μ m1 m2 : Mu} (k1 : ∀ k, k < 116 → rI m1 146 k = rI μ 140 (64 + k)) (k2 : Fg (fun a _ => a = 146) μ m1) (f2 : Fg PG m1 m2) (hn : 1000 < n) : ∃ m3, fX12_isAgain n m2 = some m3 ∧ RQ μ m3 ∧ ∀ a i, a ≠ 140 → rI m3 a i = rI m2 a i := by
  obtain ⟨m3, g1, g2, g3⟩ := f_isAgain (n := n) m2 hn
  refine ⟨m3, g1, ⟨fun a i hi => ?_, fun a i e hi => ?_⟩, fun a i ha => g3.i (fun q => ha q.1)⟩
  · by_cases e : a = 140 ∧ 64 ≤ i ∧ i < 180
    · obtain ⟨rfl, e1, e2⟩ := e
      obtain ⟨k, rfl⟩ : ∃ k, i = 64 + k := ⟨i - 64, by omega⟩
      rw [g2 k (by omega), f2.i (fun q => by unfold PG at q; omega), k1 k (by omega)]
    · rw [g3.i e, f2.i (fun q => by unfold PG at q; unfold QR at hi; omega), k2.i (fun q => by unfold QR at hi; omega)]
  · have h0 : ∀ j, ¬ QR a j := hi
    have hr : ¬ (144 ≤ a ∧ a ≤ 151) := fun q => h0 0 (Or.inr q)
    rw [g3.2 a i e (fun j q => e q.1), f2.2 a i e (fun j q => by
      by_cases e2 : a = 139
      · subst e2; exact h0 0 (Or.inl ⟨rfl, by omega, by omega, by omega, by omega⟩)
      · unfold PG at q; omega), k2.2 a i e (fun j q => by omega)]
theorem m_days {n k : Nat} {sh : List Sh} {R : Rf} {μ : Mu} {x y : Int32} (hI : INV k sh R μ) (hk : k < 512) (hn : 5000 < n) : GO k sh R (fX11_days n x y μ) (fX12_days n x y) := by
  obtain ⟨s, t, m, h, hV, hC, hR, hT, hA, hG⟩ := hI
  have hb := hV.2.2.1
  have hW := hV.2.1.2.1
  unfold GO fX11_days fX12_days
  have e1 : ∀ m : Mu, fX11_within n y 1 30 m = some (if wi y 1 30 = true then 1 else 0) := fun m => w11 1 30
  have e2 : ∀ m : Mu, fX12_within n y.toInt64 1 30 m = some (if wi y 1 30 = true then 1 else 0) := fun m => w12 1 30
  simp only [e1, e2, bnd_some, ifb]
  by_cases c : wi y 1 30 = true
  · obtain ⟨j, h1, h2, rfl⟩ := wi_of c (by omega) (by omega)
    obtain ⟨c1, c2, c3, c4⟩ := hC
    obtain ⟨m1, g1, g2, g3⟩ := f_copyFrom (n := n) (a := 41) (b := 34) (Or.inr (by omega)) hV.1 hW c3
    have f1 : Fr (PH 41) μ (wI m1 41 2 x) := g3.ph.w (by unfold PH; omega) _ _
    have oS : ∀ k, k ≤ 10 → ¬ PH 41 (2 + k) := fun k hk q => by unfold PH at q; omega
    have r1 : RU (wI m1 41 2 x) s := (c2.fr g3 (fun k h1 h2 q => by unfold PS at q; omega)).congr fun k h1 h2 i => rI_ai (by omega)
    obtain ⟨⟨z, m2⟩, p1, p2, p3, p4, p5⟩ := f_days11 (n := n) (N := j) (c1.fr f1 oS) hV.1 r1 (TV_seed (x := x) hV.2.1) (by rw [tH_seed]; omega) (by omega) (by omega) (CB_seed g2 x)
    have p2 : z = nI (dyN s (seedS t x) j) := p2
    subst p2
    have hd : dyN s (seedS t x) j ≤ j := cnt_le _ _
    have f2 : Fr (PH 41) μ m2 := f1.tr p5
    have f2' : Fr PC μ m2 := f2.mono fun x => PH_PC (Or.inr rfl)
    have s2 : CS m2 2 s := c1.fr f2 oS
    have t2 : CB m2 34 s t := c3.fr f2 (fun k hk q => by unfold PH at q; omega)
    have h2' : CH m2 s m h := c4.fr f2 (fun x h1 h2 q => by unfold PH at q; omega)
    obtain ⟨v1, v2⟩ := TV_dys hV.1 (TV_seed (x := x) hV.2.1) j
    rw [tH_seed] at v2
    have ref : ∀ m3 : Mu, Fr PC μ m3 → ∃ m4 m5, fX12_keeps n (wI m3 139 0 0) = some m4 ∧ lp n (sX12_days_37 n (nI j)) (0, 0, wI m4 140 66 x) = some (nI (dyN s (seedS t x) j), m5) ∧ RT m5 s (dysT s (seedS t x) j) ∧ (∀ k, k < 116 → rI m4 146 k = rI (wI m3 139 0 0) 140 (64 + k)) ∧ Fg (fun a _ => a = 146) (wI m3 139 0 0) m4 ∧ Fg PT m4 m5 ∧ RI (wI m3 139 0 0) s t m h := by
      intro m3 f3
      have hR1 := (hR.fr hV f3 PCo).th
      obtain ⟨m4, k1, k2, k3⟩ := f_keeps (n := n) (wI m3 139 0 0) (by omega)
      have hR3 := hR1.keep k3
      obtain ⟨⟨z, m5⟩, q1, q2, q3, q4⟩ := f_days12 (n := n) (N := j) (μ := wI m4 140 66 x) (t := seedS t x) (hR3.1.congr hV.1 fun i hi => rI_ii (by omega)) hV.1 (RT_seed hR3.2.1 x) (TV_seed hV.2.1) (by rw [rI_ai (by decide)]; exact hR3.2.2.2) (by rw [tH_seed]; omega) (by omega) (by omega)
      have q2 : z = nI (dyN s (seedS t x) j) := q2
      subst q2
      exact ⟨m4, m5, k1, q1, q3, k2, k3, (PT_w x (by omega) (by omega)).tr (q4.mono fun _ _ q => Or.inl q), hR1⟩
    rw [if_pos c, g1, bnd_some, p1, bnd_some]
    show ∃ r μ1 μ2, (if nI (dyN s (seedS t x) j) ≤ 0 then some (nI (dyN s (seedS t x) j), m2) else bnd (fX1_keep n 34 m2) fun m16 => bnd (fX8_copyFrom n 34 41 m16) fun m18 => some (nI (dyN s (seedS t x) j), m18)) = some (r, μ1) ∧ _
    simp (disch := first | omega | decide) only [gd_true, bnd_some, bnd2_some, ix_n, ib_n, add_l, add_r, mul_l, mul_r, nI_add, sub_r, nI_leI, nI_ltI, nI_eq, le_l, le_r, lt_l, lt_r, eq_l, eq_r, eq_m, if_true, if_false, not_false_eq_true, not_true_eq_false]
    by_cases c9 : dyN s (seedS t x) j ≤ 0
    · obtain ⟨m4, m5, q1, q2, q3, q4, q5, q6, q7⟩ := ref m2 f2'
      obtain ⟨m6, r1, r2, r3⟩ := r_again (n := n) q4 q5 (q6.mono fun _ _ => PT_PG) (by omega)
      have hR6 : RI m6 s t m h := by
        obtain ⟨a1, a2, ⟨a3, a4, a5⟩, a6⟩ := q7
        have o : ∀ i, ¬ QR 140 i := fun i q => by unfold QR at q; omega
        exact ⟨a1.congr hV.1 fun i _ => r2.i (o _), RB.congr a2 hV.2.1 hV.1 fun i _ => r2.i (o _), ⟨by rw [r2.i (o _)]; exact a3, a4, fun j hj => (a5 j hj).congr (hV.2.2.2 j hj).1 hV.1 fun i _ => r2.i (o _)⟩, by rw [r2.i (fun q => by unfold QR at q; omega)]; exact a6⟩
      refine ⟨nI (dyN s (seedS t x) j), m2, m6, by rw [if_pos c9], ?_, INV.step hT hA hG ⟨s2, p4, t2, h2'⟩ f2' hR6 ((PQ.th _).tr (r2.mono fun a i q => by unfold QR at q; unfold PQ; omega)) (hV.mono (by omega))⟩
      rw [if_pos c, q1, bnd_some, q2, bnd_some]
      show (if nI (dyN s (seedS t x) j) ≤ 0 then _ else _) = _
      rw [if_pos ((le_r (k := 0) (by decide) (by omega)).mpr c9), r1, bnd_some]
    · obtain ⟨m6, l1, l2, l3⟩ := c_keep (n := n) (a := 34) (Or.inl rfl) hV.1 hW s2 p4 t2 t2 h2'
      have b6 : CB m6 41 s (dysT s (seedS t x) j) := p3.fr l3 (fun k hk q => by omega)
      obtain ⟨m7, o1, o2, o3⟩ := f_copyFrom (n := n) (a := 34) (b := 41) (Or.inl (by omega)) hV.1 v1.2.1 b6
      have f7 : Fr PC μ m7 := (f2'.tr (l3.mono fun x q => by unfold PC; omega)).tr (o3.mono fun x => PS_PC (Or.inl rfl))
      obtain ⟨m4, m5, q1, q2, q3, q4, q5, q6, q7⟩ := ref m7 f7
      obtain ⟨m8, r1, r2, r3, r4⟩ := r_notes (n := n) q7 hV q4 q5 q3 v1 q6 (by omega)
      refine ⟨nI (dyN s (seedS t x) j), m7, m8, ?_, ?_, INV.step hT hA hG ⟨l2.1.fr o3 (fun k hk q => by unfold PS at q; omega), l2.2.1.fr o3 (fun k h1 h2 q => by unfold PS at q; omega), o2, l2.2.2.2.fr o3 (fun x h1 h2 q => by unfold PS at q; omega)⟩ f7 r2 ((PQ.th _).tr r4) (VI_push hV v1 (by omega) (by omega))⟩
      · rw [if_neg c9, l1, bnd_some, o1, bnd_some]
      · rw [if_pos c, q1, bnd_some, q2, bnd_some]
        show (if nI (dyN s (seedS t x) j) ≤ 0 then _ else _) = _
        rw [if_neg (fun e => c9 ((le_r (k := 0) (by decide) (by omega)).mp e)), r1, bnd_some]
  · exact ⟨-3, μ, wI μ 139 0 0, by rw [if_neg c], by rw [if_neg c], INV.same hV hR hT hA hG hC (Fr.rfl' _ _)⟩
