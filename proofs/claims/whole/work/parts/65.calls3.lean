theorem m_undo {n k : Nat} {sh : List Sh} {R : Rf} {μ : Mu} {x : Int32} (hI : INV k sh R μ) (hk : k < 512) (hn : 5000 < n) : GO k sh R (fX11_undo n x μ) (fX12_undo n x) := by
  obtain ⟨s, t, m, h, hV, hC, hR, hT, hA, hG⟩ := hI
  have hb := hV.2.2.1
  have hm : m ≤ 10 := hR.2.2.1.2.1
  obtain ⟨c1, c2, c3, c4⟩ := hC
  have hsz : rI μ 48 2 = nI m := by obtain ⟨q, -, -, q3, -⟩ := c4; exact q3
  unfold GO fX11_undo fX12_undo
  have e1 : fX11_within n x 1 (rI μ 48 2) μ = some (if wi x 1 m = true then 1 else 0) := by rw [hsz]; exact w11 1 m
  have e2 : ∀ m : Mu, fX12_within n x.toInt64 1 10 m = some (if wi x 1 10 = true then 1 else 0) := fun m => w12 1 10
  simp only [e1, e2, bnd_some, ifb]
  by_cases c : wi x 1 m = true
  · obtain ⟨j, h1, h2, rfl⟩ := wi_of c (by omega) (by omega)
    have c' : wi (nI j) 1 10 = true := decide_eq_true ⟨(nI_leI (by omega) (by omega)).mpr h1, (nI_leI (by omega) (by omega)).mpr (by omega)⟩
    obtain ⟨m1, g1, g2, g3, g4⟩ := f_takeBack (n := n) (k := j) hV.1 (fun i hi => (hV.2.2.2 i hi).1.2.1) c4 h1 h2
    have f1 : Fr PC μ m1 := g4.mono fun x q => by
      rcases q with q | q
      · unfold PC; omega
      · exact PS_PC (Or.inl rfl) q
    have hCn : CI m1 s (h (m - j)) (m - j) h := ⟨c1.fr g4 (fun k hk q => by rcases q with q | q; omega; unfold PS at q; omega), c2.fr g4 (fun k h1 h2 q => by rcases q with q | q; omega; unfold PS at q; omega), g2, g3⟩
    have hR1 := (hR.fr hV f1 PCo).th
    obtain ⟨a1, a2, ⟨a3, a4, a5⟩, a6⟩ := hR1
    have key : Rn (lp n (sX12_undo_46 n) (0, wI (wI m1 139 0 0) 140 180 (nI (m - j)))) (fun q => (∀ k, k < 116 → rI q 140 (64 + k) = rI (wI m1 139 0 0) 140 (181 + 116 * (m - j) + k)) ∧ Fg (fun a i => a = 140 ∧ 64 ≤ i ∧ i < 181) (wI m1 139 0 0) q ∧ rI q 140 180 = nI (m - j)) := by
      refine Rn.l 116 (fun i q => q.1 = nI i ∧ (∀ k, k < i → rI q.2 140 (64 + k) = rI (wI m1 139 0 0) 140 (181 + 116 * (m - j) + k)) ∧ Fg (fun a i => a = 140 ∧ 64 ≤ i ∧ i < 181) (wI m1 139 0 0) q.2 ∧ rI q.2 140 180 = nI (m - j)) _ (by omega) ⟨rfl, fun k hk => absurd hk (Nat.not_lt_zero _), (Fg.rfl' _ _).w ⟨rfl, by omega, by omega⟩ _, rI_same _ _ _ _⟩ ?_ ?_
      · rintro i ⟨x, q⟩ hi ⟨e1, e2, e3, e4⟩
        have e1 : x = nI i := e1
        subst e1
        have e2 : ∀ k, k < i → rI q 140 (64 + k) = rI (wI m1 139 0 0) 140 (181 + 116 * (m - j) + k) := e2
        have e3 : Fg (fun a i => a = 140 ∧ 64 ≤ i ∧ i < 181) (wI m1 139 0 0) q := e3
        have e4 : rI q 140 180 = nI (m - j) := e4
        simp (disch := first | omega | decide) only [sX12_undo_46, gd_true, bnd_some, bnd2_some, ix_n, ib_n, add_l, add_r, mul_l, mul_r, nI_add, sub_r, nI_leI, nI_ltI, nI_eq, le_l, le_r, lt_l, lt_r, eq_l, eq_r, eq_m, if_true, if_false, not_false_eq_true, not_true_eq_false, show ¬ 116 ≤ i by omega, e4]
        refine Rn.so ⟨rfl, fun k hk => ?_, e3.w ⟨rfl, by omega, by omega⟩ _, ?_⟩
        · show rI (wI q 140 (64 + i) (rI q 140 (181 + 116 * (m - j) + i))) 140 (64 + k) = _
          by_cases e : k = i
          · rw [e, rI_same]; exact e3.i (by omega)
          · rw [rI_ii (by omega)]; exact e2 k (by omega)
        · show rI (wI q 140 (64 + i) (rI q 140 (181 + 116 * (m - j) + i))) 140 180 = _
          rw [rI_ii (by omega)]; exact e4
      · rintro ⟨x, q⟩ ⟨e1, e2, e3, e4⟩
        have e1 : x = nI 116 := e1
        subst e1
        exact Rn.e rfl ⟨e2, e3, e4⟩
    obtain ⟨m3, k1, k2, k3, k4⟩ := key
    have hTj := hV.2.2.2 (m - j) (by omega)
    have hRn : RI m3 s (h (m - j)) (m - j) h := by
      refine ⟨a1.congr hV.1 fun i hi => k3.i (by omega), RB.congr (a5 (m - j) (by omega)) hTj.1 hV.1 fun i hi => k2 i hi, ⟨k4, by omega, fun i hi => (a5 i (by omega)).congr (hV.2.2.2 i (by omega)).1 hV.1 fun q hq => k3.i (by omega)⟩, by rw [k3.i (by omega)]; exact a6⟩
    refine ⟨nI (m - j), m1, m3, ?_, ?_, INV.step hT hA hG hCn f1 hRn ((PQ.th _).tr (k3.mono fun a i q => by unfold PQ; omega)) ⟨hV.1, hTj.1, by have := hTj.2; omega, fun i hi => ⟨(hV.2.2.2 i (by omega)).1, by have := (hV.2.2.2 i (by omega)).2; omega⟩⟩⟩
    · have : rI m1 48 2 = nI (m - j) := by obtain ⟨q, -, -, q3, -⟩ := g3; exact q3
      rw [if_pos c, g1, bnd_some, this]
    · have e9 : rI (wI m1 139 0 0) 140 180 = nI m := a3
      rw [if_pos c', e9, if_pos ((nI_leI (by omega) (by omega)).mpr h2), pk_sub h2, k1, bnd_some]
      show some (rI m3 140 180, m3) = _
      rw [k4]
  · refine ⟨-3, μ, wI μ 139 0 0, by rw [if_neg c], ?_, INV.same hV hR hT hA hG ⟨c1, c2, c3, c4⟩ (Fr.rfl' _ _)⟩
    by_cases c' : wi x 1 10 = true
    · obtain ⟨j, h1, h2, rfl⟩ := wi_of c' (by omega) (by omega)
      have e9 : rI (wI μ 139 0 0) 140 180 = nI m := hR.2.2.1.1
      rw [if_pos c', e9, if_neg (fun e => c ?_)]
      exact decide_eq_true ⟨(nI_leI (by omega) (by omega)).mpr h1, e⟩
    · rw [if_neg c']
/-! trays of deeds -/
theorem f_noTray {n T : Nat} {μ : Mu} (hT : T < 4) {v : Int32} (h : rI μ 152 T = v) : fX12_noTray n (nI T) μ = some (if v = -1 then -6 else 0) := by
  unfold fX12_noTray
  rw [RP.isT, bnd_some, ifb, okN_n (by omega) (by omega), if_pos (decide_eq_true hT), ib_n hT (by omega), gd_true, ix_n (by omega), h]
  split <;> rfl
theorem f_noTrayN {n : Nat} {x : Int32} {μ : Mu} (h : ¬ okN x 4 = true) : fX12_noTray n x μ = some (-2) := by
  unfold fX12_noTray
  rw [RP.isT, bnd_some, ifb, if_neg h]
theorem f_isMissing {n a : Nat} {μ : Mu} {v : Int32} (h : rI μ a 1 = v) : fX10_isMissing n a μ = some (if v = -1 then 1 else 0) := by
  unfold fX10_isMissing; rw [h]; split <;> rfl
theorem TRY.fr {P : Nat → Prop} {μ μ' : Mu} (h : TRY μ) (e : Fr P μ μ') (hp : ∀ x, (129 ≤ x ∧ x ≤ 136) ∨ (152 ≤ x ∧ x ≤ 154) → ¬ P x) : TRY μ' := h.fg e.fg (fun x _ hx => hp x hx)
theorem f_perform12 {n T N m : Nat} {vals : Nat → Int64} {μ : Mu} {s : SD} {t : ST} {h : Nat → ST} {B : Nat} (hR : RI μ s t m h) (hV : VI s t m h B) (hB : B ≤ 30000) (hT : T < 4) (hN : N ≤ 40) (b1 : rI μ 153 T = nI N) (b2 : ∀ k, k < N → rL μ 154 (40 * T + k) = vals k) (hn : 5000 < n) : ∃ d m1 m2, fX12_keeps n μ = some m1 ∧ (∀ k, k < 116 → rI m1 146 k = rI μ 140 (64 + k)) ∧ Fg (fun a _ => a = 146) μ m1 ∧ fX12_tells n (nI T) m1 = some (nI d, m2) ∧ TlS s vals t N d ∧ RT m2 s (dnS s vals t d) ∧ rI m2 139 20 = nI (if d < N then whyV s (dnS s vals t d) (vals d) else 0) ∧ Fg PT m1 m2 := by
  obtain ⟨m1, k1, k2, k3⟩ := f_keeps (n := n) μ (by omega)
  have hR3 := hR.keep k3
  have hb := hV.2.2.1
  obtain ⟨d, m2, g1, g2, g3, g4, g5⟩ := f_tells (n := n) (T := T) (N := N) (vals := vals) hR3.1 hV.1 hR3.2.1 hV.2.1 hR3.2.2.2 (by omega) (by omega) hT hN (by rw [k3.i (by omega)]; exact b1) (fun k hk => by rw [k3.2 _ _ (by decide) (by omega)]; exact b2 k hk)
  exact ⟨d, m1, m2, k1, k2, k3, g1, g2, g3, g4, g5⟩
theorem m_perform {n k : Nat} {sh : List Sh} {R : Rf} {μ : Mu} {x : Int32} (hI : INV k sh R μ) (hk : k < 512) (hn : 5000 < n) : GO k sh R (fX11_perform n x μ) (fX12_perform n x) := by
  obtain ⟨s, t, m, h, hV, hC, hR, hT, hA, hG⟩ := hI
  have hb := hV.2.2.1
  have hW := hV.2.1.2.1
  unfold GO fX11_perform fX12_perform
  simp only [CP.isT, bnd_some, ifb]
  by_cases c0 : okN x 4 = true
  · obtain ⟨T, hT4, rfl⟩ := okN_of c0 (by omega)
    simp (disch := first | omega | decide) only [c0, gd_true, bnd_some, bnd2_some, ix_n, ib_n, add_l, add_r, mul_l, mul_r, nI_add, sub_r, nI_leI, nI_ltI, nI_eq, le_l, le_r, lt_l, lt_r, eq_l, eq_r, eq_m, if_true, if_false, not_false_eq_true, not_true_eq_false]
    rcases hT T hT4 with ⟨a1, a2⟩ | ⟨N, so, N1, N2, N3, N4, N5, N6, N7⟩
    · refine ⟨-6, μ, wI μ 139 0 0, ?_, ?_, INV.same hV hR hT hA hG hC (Fr.rfl' _ _)⟩
      · rw [f_isMissing a1, bnd_some]; rfl
      · rw [f_noTray (μ := wI μ 139 0 0) hT4 (show rI (wI μ 139 0 0) 152 T = -1 from a2), bnd_some]; rfl
    · have em : ¬ nI N = -1 := nI_m1 (by omega)
      have es : ¬ nI so = -1 := nI_m1 (by omega)
      obtain ⟨c1, c2, c3, c4⟩ := hC
      obtain ⟨m1, g1, g2, g3⟩ := f_copyFrom (n := n) (a := 41) (b := 34) (Or.inr (by omega)) hV.1 hW c3
      have o41 : ∀ x, 48 ≤ x → ¬ PS 41 x := fun x hx q => by unfold PS at q; omega
      obtain ⟨d, m2, k1, k2, k3, k4, k5⟩ := f_attemptAll (n := n) (a := 41) (b := 129 + 2 * T) (N := N) (vals := fun k => rL μ (129 + 2 * T + 1) k) (by omega) (by omega) (by omega) (c1.fr g3 (fun k hk q => by unfold PS at q; omega)) hV.1 (c2.fr g3 (fun k h1 h2 q => by unfold PS at q; omega)) hV.2.1 (by omega) (by omega) g2 N1 (by rw [g3.i (o41 _ (by omega))]; exact N3) (fun k hk => (g3 _ (o41 _ (by omega))).2 k)
      have f2 : Fr PC μ m2 := (g3.mono fun x => PS_PC (Or.inr rfl)).tr (k5.mono fun x => PH_PC (Or.inr rfl))
      have s2 : CS m2 2 s := (c1.fr g3 (fun k hk q => by unfold PS at q; omega)).fr k5 (fun k hk q => by unfold PH at q; omega)
      have t2 : CB m2 34 s t := (c3.fr g3 (fun k hk q => by unfold PS at q; omega)).fr k5 (fun k hk q => by unfold PH at q; omega)
      have h2 : CH m2 s m h := (c4.fr g3 (fun x h1 h2 q => by unfold PS at q; omega)).fr k5 (fun x h1 h2 q => by unfold PH at q; omega)
      obtain ⟨v1, v2⟩ := Tl_TV hV.1 hV.2.1 k2.2.1 d (Nat.le_refl _)
      have hdN := k2.1
      -- the reference, from any memory that has the same cells
      have ref : ∀ m3 : Mu, Fr PC μ m3 → ∃ m4 m5, fX12_keeps n (wI m3 139 0 0) = some m4 ∧ fX12_tells n (nI T) m4 = some (nI d, m5) ∧ RT m5 s (dnS s (fun k => rL μ (129 + 2 * T + 1) k) t d) ∧ (∀ k, k < 116 → rI m4 146 k = rI (wI m3 139 0 0) 140 (64 + k)) ∧ Fg (fun a _ => a = 146) (wI m3 139 0 0) m4 ∧ Fg PT m4 m5 ∧ RI (wI m3 139 0 0) s t m h := by
        intro m3 f3
        have hR1 := (hR.fr hV f3 PCo).th
        have oc : ∀ x, 152 ≤ x → ¬ PC x := fun x hx q => by unfold PC at q; omega
        obtain ⟨d', m4, m5, p1, p2, p3, p4, p5, p6, p7, p8⟩ := f_perform12 (n := n) (T := T) (N := N) (vals := fun k => rL μ (129 + 2 * T + 1) k) hR1 hV (by omega) hT4 N1 (by rw [rI_ai (by omega), f3.i (oc _ (by omega))]; exact N6) (fun k hk => by
          show rL m3 154 _ = _
          rw [(f3 154 (oc _ (by omega))).2, N7 k hk]) hn
        have e := Tl_un p5 k2
        subst e
        exact ⟨m4, m5, p1, p4, p6, p2, p3, p8, hR1⟩
      have es2 : ∀ m3 : Mu, Fr PC μ m3 → fX12_noTray n (nI T) (wI m3 139 0 0) = some 0 := fun m3 f3 => by
        rw [f_noTray (v := nI so) hT4 (by rw [rI_ai (by omega), f3.i (fun q => by unfold PC at q; omega)]; exact N5), if_neg es]
      rw [f_isMissing N3, bnd_some, if_neg em, if_pos rfl, g1, bnd_some, k1, bnd2_some]
      simp (disch := first | omega | decide) only [gd_true, bnd_some, bnd2_some, ix_n, ib_n, add_l, add_r, mul_l, mul_r, nI_add, sub_r, nI_leI, nI_ltI, nI_eq, le_l, le_r, lt_l, lt_r, eq_l, eq_r, eq_m, if_true, if_false, not_false_eq_true, not_true_eq_false]
      by_cases c : d ≤ 0
      · have d0 : d = 0 := by omega
        subst d0
        obtain ⟨m4, m5, q1, q2, q3, q4, q5, q6, q7⟩ := ref m2 f2
        have fq : Fg PQ m2 m5 := ((PQ.th _).tr (q5.mono fun x i q => by unfold PQ; omega)).tr (q6.mono fun x i q => by unfold PT PR at q; unfold PQ; omega)
        refine ⟨nI 0, m2, m5, by rw [if_pos c], ?_, INV.step hT hA hG ⟨s2, k4, t2, h2⟩ f2 ?_ fq (hV.mono (by omega))⟩
        · rw [es2 m2 f2, bnd_some, if_pos rfl, q1, bnd_some, q2, bnd2_some]; rfl
        · have r7 := q7.keep q5
          refine ⟨r7.1.congr hV.1 fun i hi => q6.i (fun q => by unfold PT PR at q; omega), q3, ⟨by rw [q6.i (fun q => by unfold PT PR at q; omega)]; exact r7.2.2.1.1, r7.2.2.1.2.1, fun j hj => (r7.2.2.1.2.2 j hj).congr (hV.2.2.2 j hj).1 hV.1 fun i hi => q6.i (fun q => by unfold PT PR at q; omega)⟩, by rw [q6.i (fun q => by unfold PT PR at q; omega)]; exact r7.2.2.2⟩
      · obtain ⟨m6, l1, l2, l3⟩ := c_keep (n := n) (a := 34) (Or.inl rfl) hV.1 hW s2 k4 t2 t2 h2
        have b6 : CB m6 41 s (dnS s (fun k => rL μ (129 + 2 * T + 1) k) t d) := k3.fr l3 (fun k hk q => by omega)
        obtain ⟨m7, o1, o2, o3⟩ := f_copyFrom (n := n) (a := 34) (b := 41) (Or.inl (by omega)) hV.1 v1.2.1 b6
        have f7 : Fr PC μ m7 := (f2.tr (l3.mono fun x q => by unfold PC; omega)).tr (o3.mono fun x => PS_PC (Or.inl rfl))
        obtain ⟨m4, m5, q1, q2, q3, q4, q5, q6, q7⟩ := ref m7 f7
        obtain ⟨m8, r1, r2, r3, r4⟩ := r_notes (n := n) q7 hV q4 q5 q3 v1 q6 (by omega)
        refine ⟨nI d, m7, m8, ?_, ?_, INV.step hT hA hG ⟨l2.1.fr o3 (fun k hk q => by unfold PS at q; omega), l2.2.1.fr o3 (fun k h1 h2 q => by unfold PS at q; omega), o2, l2.2.2.2.fr o3 (fun x h1 h2 q => by unfold PS at q; omega)⟩ f7 r2 ((PQ.th _).tr r4) (VI_push hV v1 (by omega) (by omega))⟩
        · rw [if_neg c, l1, bnd_some, o1, bnd_some]
        · rw [es2 m7 f7, bnd_some, if_pos rfl, q1, bnd_some, q2, bnd2_some]
          simp (disch := first | omega | decide) only [gd_true, bnd_some, bnd2_some, ix_n, ib_n, add_l, add_r, mul_l, mul_r, nI_add, sub_r, nI_leI, nI_ltI, nI_eq, le_l, le_r, lt_l, lt_r, eq_l, eq_r, eq_m, if_true, if_false, not_false_eq_true, not_true_eq_false]
          rw [if_neg c, r1, bnd_some]
  · rw [if_neg c0]
    exact ⟨-2, μ, wI μ 139 0 0, rfl, by rw [f_noTrayN c0, bnd_some]; rfl, INV.same hV hR hT hA hG hC (Fr.rfl' _ _)⟩
