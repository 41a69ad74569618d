/-! what the class can undo -/
def CH (μ : Mu) (s : SD) (m : Nat) (h : Nat → ST) : Prop := ∃ q, q < 10 ∧ rI μ 48 1 = nI q ∧ rI μ 48 2 = nI m ∧ m ≤ 10 ∧ ∀ j, j < m → CB μ (50 + 7 * ((q + 10 - m + j) % 10)) s (h j)
theorem CH.fr {P : Nat → Prop} {μ μ' : Mu} {s : SD} {m : Nat} {h : Nat → ST} (hh : CH μ s m h) (e : Fr P μ μ') (hp : ∀ x, 48 ≤ x → x ≤ 119 → ¬ P x) : CH μ' s m h := by
  obtain ⟨q, h1, h2, h3, h4, h5⟩ := hh
  exact ⟨q, h1, by rw [e.i (hp 48 (by omega) (by omega))]; exact h2, by rw [e.i (hp 48 (by omega) (by omega))]; exact h3, h4, fun j hj => (h5 j hj).fr e fun k hk => hp _ (by omega) (by omega)⟩
theorem jmin10 : ∀ m, m ≤ 10 → jmin 10 (nI m + 1) = nI (pushM m) := by decide +kernel
theorem fmod10 : ∀ q, q < 10 → ∀ k, k ≤ 10 → fmod (nI q - nI k) 10 = nI ((q + 10 - k) % 10) := by decide +kernel
theorem f_keep {n a m : Nat} {μ : Mu} {s : SD} {t : ST} {h : Nat → ST} (ha2 : a ≤ 41) (hv : SV s) (hW : tW t ≤ 8) (ht : CB μ a s t) (hh : CH μ s m h) : ∃ μ', fX1_keep n a μ = some μ' ∧ CH μ' s (pushM m) (pushH m h t) ∧ Fr (fun x => 48 ≤ x ∧ x ≤ 119) μ μ' := by
  obtain ⟨q, q1, q2, q3, q4, q5⟩ := hh
  obtain ⟨m1, g1, g2, g3⟩ := f_copyFrom (n := n) (a := 50 + 7 * q) (b := a) (Or.inr (by omega)) hv hW ht
  have e1 : rI m1 48 1 = nI q := by rw [g3.i (fun z => by unfold PS at z; omega)]; exact q2
  have e2 : rI m1 48 2 = nI m := by rw [g3.i (fun z => by unfold PS at z; omega)]; exact q3
  have e3 : jrem (nI q + 1) 10 = nI ((q + 1) % 10) := by rw [show nI q + 1 = nI (q + 1) from nI_add q 1]; exact jrem_l (d := 10) (by omega) (by decide) (by decide)
  refine ⟨wI (wI m1 48 1 (nI ((q + 1) % 10))) 48 2 (nI (pushM m)), ?_, ⟨(q + 1) % 10, Nat.mod_lt _ (by omega), by rw [rI_ii (by decide), rI_same], by rw [rI_same], by unfold pushM; split <;> omega, fun j hj => ?_⟩, ?_⟩
  · unfold fX1_keep
    rw [q2, ib_n q1 (by omega), gd_true, ix_n (by omega), g1, bnd_some, e1, e3, rI_ii (show (2 : Nat) ≠ 1 by decide), e2, jmin10 m q4]
  · have cg : ∀ x, CB m1 (50 + 7 * x) s (pushH m h t j) → CB (wI (wI m1 48 1 (nI ((q + 1) % 10))) 48 2 (nI (pushM m))) (50 + 7 * x) s (pushH m h t j) := fun x hx => hx.congr fun k hk i => by rw [rI_ai (by omega), rI_ai (by omega)]
    refine cg _ ?_
    unfold pushM at hj ⊢
    unfold pushH
    by_cases c : m < 10
    · simp only [c, if_true] at hj ⊢
      by_cases e : j = m
      · subst e
        simp only [if_true]
        rw [show ((q + 1) % 10 + 10 - (j + 1) + j) % 10 = q by omega]
        exact g2
      · simp only [e, if_false]
        rw [show ((q + 1) % 10 + 10 - (m + 1) + j) % 10 = (q + 10 - m + j) % 10 by omega]
        exact (q5 j (by omega)).fr g3 fun k hk z => by unfold PS at z; omega
    · simp only [c, if_false] at hj ⊢
      have e10 : m = 10 := by omega
      subst e10
      by_cases e : j = 9
      · subst e
        simp only [if_true]
        rw [show ((q + 1) % 10 + 10 - 10 + 9) % 10 = q by omega]
        exact g2
      · simp only [e, if_false]
        rw [show ((q + 1) % 10 + 10 - 10 + j) % 10 = (q + 10 - 10 + (j + 1)) % 10 by omega]
        exact (q5 (j + 1) (by omega)).fr g3 fun k hk z => by unfold PS at z; omega
  · exact ((g3.mono fun x z => by unfold PS at z; omega).w (by omega) _ _).w (by omega) _ _
theorem f_takeBack {n m k : Nat} {μ : Mu} {s : SD} {h : Nat → ST} (hv : SV s) (hW : ∀ j, j < m → tW (h j) ≤ 8) (hh : CH μ s m h) (h1 : 1 ≤ k) (h2 : k ≤ m) : ∃ μ', fX1_takeBack n 34 (nI k) μ = some μ' ∧ CB μ' 34 s (h (m - k)) ∧ CH μ' s (m - k) h ∧ Fr (fun x => x = 48 ∨ PS 34 x) μ μ' := by
  obtain ⟨q, q1, q2, q3, q4, q5⟩ := hh
  generalize hq' : (q + 10 - k) % 10 = q'
  have hq1 : q' < 10 := by rw [← hq']; exact Nat.mod_lt _ (by omega)
  have hc : CB (wI μ 48 1 (nI q')) (50 + 7 * q') s (h (m - k)) := by
    have z := q5 (m - k) (by omega)
    rw [show (q + 10 - m + (m - k)) % 10 = q' by omega] at z
    exact z.congr fun j hj i => rI_ai (by omega)
  obtain ⟨m1, g1, g2, g3⟩ := f_copyFrom (n := n) (a := 34) (b := 50 + 7 * q') (Or.inl (by omega)) hv (hW _ (by omega)) hc
  have e2 : rI m1 48 2 = nI m := by rw [g3.i (fun z => by unfold PS at z; omega), rI_ii (by decide)]; exact q3
  have e1 : rI m1 48 1 = nI q' := by rw [g3.i (fun z => by unfold PS at z; omega), rI_same]
  have f0 : Fr (fun x => x = 48 ∨ PS 34 x) μ m1 := ((Fr.rfl' _ _).w (Or.inl rfl) _ _).tr (g3.mono fun x z => Or.inr z)
  refine ⟨wI m1 48 2 (nI (m - k)), ?_, ?_, ⟨q', hq1, by rw [rI_ii (by decide)]; exact e1, by rw [rI_same], by omega, fun j hj => ?_⟩, f0.w (Or.inl rfl) _ _⟩
  · unfold fX1_takeBack
    rw [q2, fmod10 q q1 k (by omega), hq', rI_same, ib_n hq1 (by omega), gd_true, ix_n (by omega), g1, bnd_some, e2, pk_sub h2]
  · exact g2.congr fun j hj i => rI_ai (by omega)
  · have z := q5 j (by omega)
    rw [show (q' + 10 - (m - k) + j) % 10 = (q + 10 - m + j) % 10 by omega]
    generalize (q + 10 - m + j) % 10 = w at z ⊢
    refine z.congr fun x hx i => ?_
    rw [rI_ai (by omega)]
    exact f0.i (fun y => by
      rcases y with y | y
      · omega
      · unfold PS at y; omega) _
/-! THE WHOLE: class and reference side by side -/
def CI (μ : Mu) (s : SD) (t : ST) (m : Nat) (h : Nat → ST) : Prop := CS μ 2 s ∧ RU μ s ∧ CB μ 34 s t ∧ CH μ s m h
def RI (μ : Mu) (s : SD) (t : ST) (m : Nat) (h : Nat → ST) : Prop := RS μ s ∧ RT μ s t ∧ RH μ s m h ∧ rI μ 139 19 = 0
def VI (s : SD) (t : ST) (m : Nat) (h : Nat → ST) (B : Nat) : Prop := SV s ∧ TV s t ∧ tH t ≤ B ∧ ∀ j, j < m → TV s (h j) ∧ tH (h j) ≤ B
def TRY (μ : Mu) : Prop := ∀ T, T < 4 → (rI μ (129 + 2 * T) 1 = -1 ∧ rI μ 152 T = -1) ∨ (∃ N so, N ≤ 40 ∧ so < 4 ∧ rI μ (129 + 2 * T) 1 = nI N ∧ rI μ (129 + 2 * T) 2 = nI so ∧ rI μ 152 T = nI so ∧ rI μ 153 T = nI N ∧ ∀ k, k < N → rL μ (129 + 2 * T + 1) k = rL μ 154 (40 * T + k))
def TAP (μ : Mu) : Prop := ∃ T, T ≤ 900 ∧ rI μ 0 1 = nI T ∧ rI μ 139 5 = nI T ∧ (∀ k, k < T → ∃ v, v < 256 ∧ rI μ 142 k = nI v ∧ rI μ 1 k = (nI v).toInt8.toInt32) ∧ rI μ 0 2 = rI μ 139 13 ∧ rI μ 0 3 = rI μ 139 14
def RSg (g : Nat → Int32) (s : SD) : Prop := RS (fun _ => g, fun _ _ => 0) s
def IMG (sh : List Sh) (R : Rf) (μ : Mu) (B : Nat) : Prop := (∀ i, i < 2 → (R 137 i = none ∧ rI μ 141 i = 0) ∨ (∃ a s t, R 137 i = some a ∧ isIm sh R a ∧ 155 ≤ a ∧ rI μ 141 i = 1 ∧ SV s ∧ TV s t ∧ tH t ≤ B ∧ CS μ (a + 1) s ∧ CB μ (a + 12) s t ∧ RSg (fun k => rI μ 140 (2242 * (i + 1) + k)) s ∧ RB s t (fun k => rI μ 140 (2242 * (i + 1) + 64 + k)))) ∧ ∀ a b, R 137 0 = some a → R 137 1 = some b → a + 19 ≤ b ∨ b + 19 ≤ a
def INV (k : Nat) (sh : List Sh) (R : Rf) (μ : Mu) : Prop := ∃ s t m h, VI s t m h (1000 + 50 * k) ∧ CI μ s t m h ∧ RI μ s t m h ∧ TRY μ ∧ TAP μ ∧ IMG sh R μ (1000 + 50 * k)
/-- what calls of the class change, but feed, sea and those of trays and images -/
def PC : Nat → Prop := fun x => (29 ≤ x ∧ x ≤ 127) ∨ x = 138
/-- what calls of the reference change -/
def PQ : Nat → Nat → Prop := fun a i => (a = 139 ∧ i ≠ 5 ∧ i ≠ 13 ∧ i ≠ 14) ∨ (a = 140 ∧ 64 ≤ i ∧ i < 1341) ∨ (144 ≤ a ∧ a ≤ 151)
/-- what questions to the class change -/
def QC : Nat → Prop := fun x => (29 ≤ x ∧ x ≤ 33) ∨ (41 ≤ x ∧ x ≤ 47) ∨ (120 ≤ x ∧ x ≤ 127) ∨ x = 138
def QR : Nat → Nat → Prop := fun a i => (a = 139 ∧ i ≠ 5 ∧ i ≠ 13 ∧ i ≠ 14 ∧ i ≠ 19) ∨ (144 ≤ a ∧ a ≤ 151)
theorem Fr.fg {P : Nat → Prop} {μ μ' : Mu} (h : Fr P μ μ') : Fg (fun a _ => P a) μ μ' := ⟨fun a i hi => (h a hi).1 i, fun a i _ hi => (h a (hi 0)).2 i⟩
/-- trays, tape, images keep what they are -/
theorem TRY.fg {P : Nat → Nat → Prop} {μ μ' : Mu} (h : TRY μ) (e : Fg P μ μ') (hp : ∀ x i, (129 ≤ x ∧ x ≤ 136) ∨ (152 ≤ x ∧ x ≤ 154) → ¬ P x i) : TRY μ' := by
  intro T hT
  rcases h T hT with ⟨a, b⟩ | ⟨N, so, h1, h2, h3, h4, h5, h6, h7⟩
  · exact Or.inl ⟨by rw [e.i (hp _ _ (by omega))]; exact a, by rw [e.i (hp _ _ (by omega))]; exact b⟩
  · refine Or.inr ⟨N, so, h1, h2, by rw [e.i (hp _ _ (by omega))]; exact h3, by rw [e.i (hp _ _ (by omega))]; exact h4, by rw [e.i (hp _ _ (by omega))]; exact h5, by rw [e.i (hp _ _ (by omega))]; exact h6, fun k hk => ?_⟩
    rw [e.2 _ _ (by omega) (fun j => hp _ _ (by omega)), e.2 _ _ (by omega) (fun j => hp _ _ (by omega))]
    exact h7 k hk
theorem TAP.fg {P : Nat → Nat → Prop} {μ μ' : Mu} (h : TAP μ) (e : Fg P μ μ') (hp : ∀ x i, x ≤ 1 ∨ (x = 139 ∧ (i = 5 ∨ i = 13 ∨ i = 14)) ∨ x = 142 → ¬ P x i) : TAP μ' := by
  obtain ⟨T, h1, h2, h3, h4, h5, h6⟩ := h
  refine ⟨T, h1, by rw [e.i (hp _ _ (by omega))]; exact h2, by rw [e.i (hp _ _ (by omega))]; exact h3, fun k hk => ?_, by rw [e.i (hp _ _ (by omega)), e.i (hp _ _ (by omega))]; exact h5, by rw [e.i (hp _ _ (by omega)), e.i (hp _ _ (by omega))]; exact h6⟩
  rw [e.i (hp _ _ (by omega)), e.i (hp _ _ (by omega))]
  exact h4 k hk
theorem RSg.congr {g g' : Nat → Int32} {s : SD} (h : RSg g s) (hv : SV s) (e : ∀ i, i < 64 ∨ 1341 ≤ i ∧ i < 2242 → g' i = g i) : RSg g' s := RS.congr (μ := (fun _ => g, fun _ _ => 0)) (μ' := (fun _ => g', fun _ _ => 0)) h hv e
theorem IMG.fg {P : Nat → Nat → Prop} {sh : List Sh} {R : Rf} {μ μ' : Mu} {B B' : Nat} (h : IMG sh R μ B) (e : Fg P μ μ') (hB : B ≤ B') (hp : ∀ x i, 155 ≤ x ∨ x = 141 ∨ (x = 140 ∧ 2242 ≤ i) → ¬ P x i) : IMG sh R μ' B' := by
  refine ⟨fun i hi => ?_, h.2⟩
  rcases h.1 i hi with ⟨a, b⟩ | ⟨a, s, t, h1, h2, h3, h4, h5, h6, h7, h8, h9, h10, h11⟩
  · exact Or.inl ⟨a, by rw [e.i (hp _ _ (by omega))]; exact b⟩
  · refine Or.inr ⟨a, s, t, h1, h2, h3, by rw [e.i (hp _ _ (by omega))]; exact h4, h5, h6, by omega, h8.congr fun k hk j => e.i (hp _ _ (by omega)), h9.congr fun k hk j => e.i (hp _ _ (by omega)), h10.congr h5 fun j hj => e.i (hp _ _ (by omega)), h11.congr h6 h5 fun j hj => e.i (hp _ _ (by omega))⟩
theorem CI.fg {P : Nat → Nat → Prop} {μ μ' : Mu} {s : SD} {t : ST} {m : Nat} {h : Nat → ST} (hh : CI μ s t m h) (e : Fg P μ μ') (hp : ∀ x i, x < 139 → ¬ P x i) : CI μ' s t m h := by
  obtain ⟨h1, h2, h3, q, h4, h5, h6, h7, h8⟩ := hh
  have hq : q < 10 := h4
  refine ⟨h1.congr fun k hk j => e.i (hp _ _ (by omega)), h2.congr fun k _ hk j => e.i (hp _ _ (by omega)), h3.congr fun k hk j => e.i (hp _ _ (by omega)), q, h4, by rw [e.i (hp _ _ (by omega))]; exact h5, by rw [e.i (hp _ _ (by omega))]; exact h6, h7, fun j hj => (h8 j hj).congr fun k hk i => e.i (hp _ _ ?_)⟩
  omega
theorem RI.fr {P : Nat → Prop} {μ μ' : Mu} {s : SD} {t : ST} {m : Nat} {h : Nat → ST} (hh : RI μ s t m h) {B : Nat} (hv : VI s t m h B) (e : Fr P μ μ') (hp : ¬ P 139 ∧ ¬ P 140) : RI μ' s t m h := by
  obtain ⟨h1, h2, ⟨h3, h4, h5⟩, h6⟩ := hh
  refine ⟨h1.congr hv.1 fun i _ => e.i hp.2 i, RB.congr h2 hv.2.1 hv.1 fun i _ => e.i hp.2 _, ⟨by rw [e.i hp.2]; exact h3, h4, fun j hj => (h5 j hj).congr (hv.2.2.2 j hj).1 hv.1 fun i _ => e.i hp.2 _⟩, by rw [e.i hp.1]; exact h6⟩
/-- a call that leaves trays, tape and images -/
theorem INV.step {k : Nat} {sh : List Sh} {R : Rf} {μ μ1 μ2 : Mu} {s : SD} {t : ST} {m : Nat} {h : Nat → ST} (hT : TRY μ) (hA : TAP μ) (hG : IMG sh R μ (1000 + 50 * k)) (hC : CI μ1 s t m h) (fC : Fr PC μ μ1) (hR : RI μ2 s t m h) (fR : Fg PQ μ1 μ2) (hV : VI s t m h (1000 + 50 * (k + 1))) : INV (k + 1) sh R μ2 := by
  refine ⟨s, t, m, h, hV, hC.fg fR (fun x i hx q => by unfold PQ at q; omega), hR, ?_, ?_, ?_⟩
  · exact (hT.fg fC.fg (fun x i hx q => by have q : PC x := q; unfold PC at q; omega)).fg fR (fun x i hx q => by unfold PQ at q; omega)
  · exact (hA.fg fC.fg (fun x i hx q => by have q : PC x := q; unfold PC at q; omega)).fg fR (fun x i hx q => by unfold PQ at q; omega)
  · exact (hG.fg fC.fg (Nat.le_refl _) (fun x i hx q => by have q : PC x := q; unfold PC at q; omega)).fg fR (by omega) (fun x i hx q => by unfold PQ at q; omega)
def GO (k : Nat) (sh : List Sh) (R : Rf) (x : Option (Int32 × Mu)) (y : Mu → Option (Int32 × Mu)) : Prop := ∃ r μ1 μ2, x = some (r, μ1) ∧ y μ1 = some (r, μ2) ∧ INV (k + 1) sh R μ2
/-- what questions rest on -/
def CP (μ : Mu) (s : SD) (t : ST) : Prop := CS μ 2 s ∧ SV s ∧ RU μ s ∧ CB μ 34 s t ∧ TV s t ∧ tH t ≤ 30000
def RP (μ : Mu) (s : SD) (t : ST) : Prop := RS μ s ∧ SV s ∧ RT μ s t ∧ TV s t ∧ tH t ≤ 30000 ∧ rI μ 139 19 = 0
def CQ (s : SD) (μ μ' : Mu) : Prop := Fr QC μ μ' ∧ RU μ' s
def RQ (μ μ' : Mu) : Prop := Fg QR μ μ'
theorem VI.mono {s : SD} {t : ST} {m : Nat} {h : Nat → ST} {B B' : Nat} (hv : VI s t m h B) (hB : B ≤ B') : VI s t m h B' := ⟨hv.1, hv.2.1, by have := hv.2.2.1; omega, fun j hj => ⟨(hv.2.2.2 j hj).1, by have := (hv.2.2.2 j hj).2; omega⟩⟩
theorem QC_PC {x : Nat} (h : QC x) : PC x := by unfold QC at h; unfold PC; omega
theorem CP.q {μ μ' : Mu} {s : SD} {t : ST} (h : CP μ s t) (e : CQ s μ μ') : CP μ' s t := ⟨h.1.fr e.1 (fun k hk q => by unfold QC at q; omega), h.2.1, e.2, h.2.2.2.1.fr e.1 (fun k hk q => by unfold QC at q; omega), h.2.2.2.2⟩
theorem CQ.rfl' {μ : Mu} {s : SD} {t : ST} (h : CP μ s t) : CQ s μ μ := ⟨Fr.rfl' _ _, h.2.2.1⟩
theorem CQ.tr {s : SD} {a b c : Mu} (h : CQ s a b) (h2 : CQ s b c) : CQ s a c := ⟨h.1.tr h2.1, h2.2⟩
theorem RQ.rfl' (μ : Mu) : RQ μ μ := Fg.rfl' _ _
theorem RQ.tr {a b c : Mu} (h : RQ a b) (h2 : RQ b c) : RQ a c := Fg.tr h h2
theorem RP.q {μ μ' : Mu} {s : SD} {t : ST} (h : RP μ s t) (e : RQ μ μ') : RP μ' s t := by
  obtain ⟨h1, h2, h3, h4, h5, h6⟩ := h
  exact ⟨h1.congr h2 fun i _ => e.i (fun q => by unfold QR at q; omega), h2, RB.congr h3 h4 h2 fun i _ => e.i (fun q => by unfold QR at q; omega), h4, h5, by rw [e.i (fun q => by unfold QR at q; omega)]; exact h6⟩
theorem RQ.th (μ : Mu) : RQ μ (wI μ 139 0 0) := (Fg.rfl' _ _).w (Or.inl ⟨rfl, by omega, by omega, by omega, by omega⟩) _
theorem GO.q {k : Nat} {sh : List Sh} {R : Rf} {μ : Mu} {x : Option (Int32 × Mu)} {y : Mu → Option (Int32 × Mu)} (hI : INV k sh R μ) (hk : k < 512) (hq : ∀ s t, TRY μ → CP μ s t → ∃ r μ1, x = some (r, μ1) ∧ CQ s μ μ1 ∧ ∀ μ', RP μ' s t → (∀ a, 139 ≤ a → (∀ i, rI μ' a i = rI μ a i) ∧ ∀ i, rL μ' a i = rL μ a i) → ∃ μ2, y μ' = some (r, μ2) ∧ RQ μ' μ2) : GO k sh R x y := by
  obtain ⟨s, t, m, h, hV, hC, hR, hT, hA, hG⟩ := hI
  have hb := hV.2.2.1
  obtain ⟨r, μ1, h1, h2, h3⟩ := hq s t hT ⟨hC.1, hV.1, hC.2.1, hC.2.2.1, hV.2.1, by omega⟩
  have hR1 := hR.fr hV h2.1 ⟨fun q => by unfold QC at q; omega, fun q => by unfold QC at q; omega⟩
  obtain ⟨μ2, g1, g2⟩ := h3 μ1 ⟨hR1.1, hV.1, hR1.2.1, hV.2.1, by omega, hR1.2.2.2⟩ (fun a ha => h2.1 a (fun q => by unfold QC at q; omega))
  refine ⟨r, μ1, μ2, h1, g1, INV.step hT hA hG (s := s) (t := t) (m := m) (h := h) ⟨hC.1.fr h2.1 (fun k hk q => by unfold QC at q; omega), h2.2, hC.2.2.1.fr h2.1 (fun k hk q => by unfold QC at q; omega), hC.2.2.2.fr h2.1 (fun x h1 h2 q => by unfold QC at q; omega)⟩ (h2.1.mono fun x => QC_PC) ?_ (g2.mono fun a i q => by unfold QR at q; unfold PQ; omega) (hV.mono (by omega))⟩
  obtain ⟨a1, a2, ⟨a3, a4, a5⟩, a6⟩ := hR1
  have o : ∀ i, ¬ QR 140 i := fun i q => by unfold QR at q; omega
  exact ⟨a1.congr hV.1 fun i _ => g2.i (o _), RB.congr a2 hV.2.1 hV.1 fun i _ => g2.i (o _), ⟨by rw [g2.i (o _)]; exact a3, a4, fun j hj => (a5 j hj).congr (hV.2.2.2 j hj).1 hV.1 fun i _ => g2.i (o _)⟩, by rw [g2.i (fun q => by unfold QR at q; omega)]; exact a6⟩
