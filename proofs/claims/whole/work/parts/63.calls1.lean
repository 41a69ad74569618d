/-! bounds of a call's numbers -/
def wi (x : Int32) (a b : Nat) : Bool := decide (nI a ≤ x ∧ x ≤ nI b)
theorem wi_of {x : Int32} {a b : Nat} (h : wi x a b = true) (ha : a < 2147483648) (hb : b < 2147483648) : ∃ j, a ≤ j ∧ j ≤ b ∧ x = nI j := by
  obtain ⟨h1, h2⟩ := of_decide_eq_true h
  have h0 : ¬ x < 0 := fun q => by
    have e0 : (0 : Int32).toInt = 0 := rfl
    rw [Int32.lt_iff_toInt_lt, e0] at q
    rw [Int32.le_iff_toInt_le, nI_toInt (by omega)] at h1
    omega
  obtain ⟨j, hj, rfl⟩ := nI_of h0
  exact ⟨j, (nI_leI (by omega) hj).mp h1, (nI_leI hj (by omega)).mp h2, rfl⟩
theorem w11 {n : Nat} {x : Int32} {μ : Mu} (a b : Nat) : fX11_within n x (nI a) (nI b) μ = some (if wi x a b = true then 1 else 0) := by
  unfold fX11_within wi
  by_cases h1 : x < nI a
  · rw [if_pos h1, if_neg (fun e => absurd h1 (Int32.not_lt.mpr (of_decide_eq_true e).1))]
  · rw [if_neg h1]
    by_cases h2 : nI b < x
    · rw [if_pos h2, if_neg (fun e => absurd h2 (Int32.not_lt.mpr (of_decide_eq_true e).2))]
    · rw [if_neg h2, if_pos (decide_eq_true ⟨Int32.not_lt.mp h1, Int32.not_lt.mp h2⟩)]
theorem w12 {n : Nat} {x : Int32} {μ : Mu} (a b : Nat) : fX12_within n x.toInt64 (nI a).toInt64 (nI b).toInt64 μ = some (if wi x a b = true then 1 else 0) := by
  rw [f_within]
  unfold wi
  simp only [l_le]
theorem b01_0 (b : Bool) : ((if b = true then (1 : Int32) else 0) = 0) = (b = false) := by cases b <;> simp
theorem ok11 {x : Int32} {N : Nat} : (if x < 0 then some (0 : Int32) else (if nI N ≤ x then some 0 else some 1)) = some (if okN x N = true then 1 else 0) := by
  unfold okN
  by_cases h1 : x < 0
  · rw [if_pos h1, if_neg (fun e => absurd h1 (Int32.not_lt.mpr (of_decide_eq_true e).1))]
  · rw [if_neg h1]
    by_cases h2 : nI N ≤ x
    · rw [if_pos h2, if_neg (fun e => absurd (of_decide_eq_true e).2 (Int32.not_lt.mpr h2))]
    · rw [if_neg h2, if_pos (decide_eq_true ⟨Int32.not_lt.mp h1, Int32.not_le.mp h2⟩)]
theorem CP.isB {n : Nat} {x : Int32} {μ : Mu} {s : SD} {t : ST} (h : CP μ s t) : fX11_isBeach n x μ = some (if okN x (sB s) = true then 1 else 0) := by
  unfold fX11_isBeach; rw [h.1.1]; exact ok11
theorem CP.isP {n : Nat} {x : Int32} {μ : Mu} {s : SD} {t : ST} (h : CP μ s t) : fX11_isPerson n x μ = some (if okN x (sP s) = true then 1 else 0) := by
  unfold fX11_isPerson; rw [h.1.2.2.1]; exact ok11
theorem CP.isS {n : Nat} {x : Int32} {μ : Mu} {s : SD} {t : ST} (h : CP μ s t) : fX11_isShell n x μ = some (if okN x (sS s) = true then 1 else 0) := by
  unfold fX11_isShell; rw [h.1.2.2.2.1]; exact ok11
theorem CP.isW {n : Nat} {x : Int32} {μ : Mu} {s : SD} {t : ST} (h : CP μ s t) : fX11_isWord n x μ = some (if okN x (tW t) = true then 1 else 0) := by
  unfold fX11_isWord; rw [h.2.2.2.1.2.2.2.1]; exact ok11
theorem CP.isT {n : Nat} {x : Int32} {μ : Mu} : fX11_isTray n x μ = some (if okN x 4 = true then 1 else 0) := by
  unfold fX11_isTray; exact ok11 (N := 4)
theorem RP.isB {n : Nat} {x : Int32} {μ : Mu} {s : SD} {t : ST} (h : RP μ s t) : fX12_isBeach n x.toInt64 μ = some (if okN x (sB s) = true then 1 else 0) := f_isBeach h.1.2.1 (by have := h.2.1.1; omega)
theorem RP.isP {n : Nat} {x : Int32} {μ : Mu} {s : SD} {t : ST} (h : RP μ s t) : fX12_isPerson n x.toInt64 μ = some (if okN x (sP s) = true then 1 else 0) := f_isPerson h.1.2.2.2.1 (by have := h.2.1.2.2.1; omega)
theorem RP.isS {n : Nat} {x : Int32} {μ : Mu} {s : SD} {t : ST} (h : RP μ s t) : fX12_isShell n x.toInt64 μ = some (if okN x (sS s) = true then 1 else 0) := f_isShell h.1.2.2.2.2.1 (by have := h.2.1.2.2.2.1; omega)
theorem RP.isC {n : Nat} {x : Int32} {μ : Mu} {s : SD} {t : ST} (h : RP μ s t) : fX12_isCurrent n x.toInt64 μ = some (if okN x (sC s) = true then 1 else 0) := f_isCurrent h.1.2.2.1 (by have := h.2.1.2.1; omega)
theorem RP.isW {n : Nat} {x : Int32} {μ : Mu} {s : SD} {t : ST} (h : RP μ s t) : fX12_isWord n x.toInt64 μ = some (if okN x (tW t) = true then 1 else 0) := f_isWord h.2.2.1.2.2.2.1 (by have := h.2.2.2.1.2.1; omega)
theorem RP.isT {n : Nat} {x : Int32} {μ : Mu} : fX12_within n x.toInt64 0 3 μ = some (if okN x 4 = true then 1 else 0) := by
  have h : fX12_within n x.toInt64 0 3 μ = some (if wi x 0 3 = true then 1 else 0) := w12 0 3
  rw [h]
  have e : wi x 0 3 = okN x 4 := by
    unfold wi okN
    have e0 : (nI 0).toInt = 0 := by decide
    have e1 : (0 : Int32).toInt = 0 := by decide
    have e3 : (nI 3).toInt = 3 := by decide
    have e4 : (nI 4).toInt = 4 := by decide
    have : (nI 0 ≤ x ∧ x ≤ nI 3) ↔ (0 ≤ x ∧ x < nI 4) := by
      simp only [Int32.le_iff_toInt_le, Int32.lt_iff_toInt_lt, e0, e1, e3, e4]; omega
    simp only [this]
  rw [e]
/-! deeds -/
theorem VI_push {s : SD} {t t' : ST} {m : Nat} {h : Nat → ST} {B B' : Nat} (hv : VI s t m h B) (h1 : TV s t') (h2 : tH t' ≤ B') (hB : B ≤ B') : VI s t' (pushM m) (pushH m h t) B' := by
  obtain ⟨a, b, c, d⟩ := hv
  refine ⟨a, h1, h2, fun j hj => ?_⟩
  unfold pushM at hj
  unfold pushH
  by_cases e : m < 10
  · simp only [e, if_true] at hj ⊢
    by_cases e2 : j = m
    · simp only [e2, if_true]; exact ⟨b, by omega⟩
    · simp only [e2, if_false]; have := d j (by omega); exact ⟨this.1, by omega⟩
  · simp only [e, if_false] at hj ⊢
    by_cases e2 : j = 9
    · simp only [e2, if_true]; exact ⟨b, by omega⟩
    · simp only [e2, if_false]; have := d (j + 1) (by omega); exact ⟨this.1, by omega⟩
/-- the class keeps a state at a, the state that stands at 34 being u -/
theorem c_keep {n a m : Nat} {μ : Mu} {s : SD} {t u : ST} {h : Nat → ST} (ha2 : a = 34 ∨ a = 41) (hv : SV s) (hW : tW t ≤ 8) (hs : CS μ 2 s) (hr : RU μ s) (hu : CB μ 34 s u) (ht : CB μ a s t) (hh : CH μ s m h) : ∃ μ', fX1_keep n a μ = some μ' ∧ CI μ' s u (pushM m) (pushH m h t) ∧ Fr (fun x => 48 ≤ x ∧ x ≤ 119) μ μ' := by
  obtain ⟨m', g1, g2, g3⟩ := f_keep (n := n) (a := a) (by omega) hv hW ht hh
  exact ⟨m', g1, ⟨hs.fr g3 (fun k hk q => by omega), hr.fr g3 (fun k h1 h2 q => by omega), hu.fr g3 (fun k hk q => by omega), g2⟩, g3⟩
theorem PH_PC {a x : Nat} (ha : a = 34 ∨ a = 41) (h : PH a x) : PC x := by unfold PH at h; unfold PC; omega
theorem PS_PC {a x : Nat} (ha : a = 34 ∨ a = 41) (h : PS a x) : PC x := by unfold PS at h; unfold PC; omega
theorem f_deed {n m : Nat} {x : Int32} {μ : Mu} {s : SD} {t : ST} {h : Nat → ST} (hC : CI μ s t m h) (hv : SV s) (hV : TV s t) (hh : tH t ≤ 30000) (hn : 1000 < n) : ∃ μ', fX11_deed n x μ = some (nI (whyV s t x.toInt64), μ') ∧ (if whyV s t x.toInt64 = 0 then CI μ' s (doV s t x.toInt64) (pushM m) (pushH m h t) else CI μ' s t m h) ∧ Fr PC μ μ' := by
  obtain ⟨c1, c2, c3, c4⟩ := hC
  have hW := hV.2.1
  obtain ⟨m1, g1, g2, g3⟩ := f_copyFrom (n := n) (a := 41) (b := 34) (Or.inr (by omega)) hv hW c3
  have s1 := c1.fr g3 (fun k hk q => by unfold PS at q; omega)
  have r1 := c2.fr g3 (fun k h1 h2 q => by unfold PS at q; omega)
  have b1 := c3.fr g3 (fun k hk q => by unfold PS at q; omega)
  have h1 := c4.fr g3 (fun x h1 h2 q => by unfold PS at q; omega)
  obtain ⟨m2, k1, k2, k3, k4⟩ := f_attempt (n := n) (a := 34) (v := x.toInt64) (by omega) s1 hv r1 hV (by omega) hn b1
  have s2 := s1.fr k4 (fun k hk q => by unfold PH at q; omega)
  have b2 := g2.fr k4 (fun k hk q => by unfold PH at q; omega)
  have h2 := h1.fr k4 (fun x h1 h2 q => by unfold PH at q; omega)
  have f2 : Fr PC μ m2 := (g3.mono fun x => PS_PC (Or.inr rfl)).tr (k4.mono fun x => PH_PC (Or.inl rfl))
  have hle := whyV_le s t x.toInt64
  unfold fX11_deed
  rw [g1, bnd_some, k1, bnd2_some]
  by_cases c : whyV s t x.toInt64 = 0
  · rw [if_pos c] at k2
    obtain ⟨m3, l1, l2, l3⟩ := c_keep (n := n) (a := 41) (Or.inr rfl) hv hW s2 k3 k2 b2 h2
    rw [if_pos ((nI_z (by omega)).mpr c), l1, bnd_some]
    refine ⟨m3, rfl, ?_, f2.tr (l3.mono fun x q => by unfold PC; omega)⟩
    rw [if_pos c]; exact l2
  · rw [if_neg c] at k2
    rw [if_neg (fun e => c ((nI_z (by omega)).mp e))]
    refine ⟨m2, rfl, ?_, f2⟩
    rw [if_neg c]; exact ⟨s2, k3, k2, h2⟩
/-- the reference notes what it kept -/
theorem r_notes {n m : Nat} {μ m1 m2 : Mu} {s : SD} {t t' : ST} {h : Nat → ST} {B : Nat} (hR : RI μ s t m h) (hV : VI s t m h B) (k1 : ∀ k, k < 116 → rI m1 146 k = rI μ 140 (64 + k)) (k2 : Fg (fun a _ => a = 146) μ m1) (h2 : RT m2 s t') (hT' : TV s t') (f2 : Fg PT m1 m2) (hn : 2000 < n) : ∃ m3, fX12_notes n m2 = some m3 ∧ RI m3 s t' (pushM m) (pushH m h t) ∧ (∀ k, k < 116 → rI m3 146 k = rI μ 140 (64 + k)) ∧ Fg PQ μ m3 := by
  obtain ⟨a1, a2, ⟨a3, a4, a5⟩, a6⟩ := hR
  have o : ∀ i, 180 ≤ i → ¬ PT 140 i := fun i hi q => by unfold PT PR at q; omega
  have o146 : ∀ i, ¬ PT 146 i := fun i q => by unfold PT PR at q; omega
  have f02 : ∀ i, 180 ≤ i ∨ i < 64 → rI m2 140 i = rI μ 140 i := fun i hi => by rw [f2.i (fun q => by unfold PT PR at q; omega), k2.i (by decide)]
  obtain ⟨m3, g1, g2, g3⟩ := f_notes (n := n) (μ := m2) (t := t) (h := h) (m := m) hV.1 hV.2.1 (fun j hj => (hV.2.2.2 j hj).1) ⟨by rw [f02 _ (by omega)]; exact a3, a4, fun j hj => (a5 j hj).congr (hV.2.2.2 j hj).1 hV.1 fun k hk => f02 _ (by omega)⟩ (RB.congr a2 hV.2.1 hV.1 fun j hj => by rw [f2.i (o146 _)]; exact k1 j hj) hn
  refine ⟨m3, g1, ⟨a1.congr hV.1 fun i hi => ?_, RB.congr h2 hT' hV.1 fun j hj => g3.i (by omega), g2, ?_⟩, fun k hk => ?_, ?_⟩
  · rw [g3.i (by omega)]; exact f02 _ (by omega)
  · rw [g3.i (by omega), f2.i (fun q => by unfold PT PR at q; omega), k2.i (by decide)]; exact a6
  · rw [g3.i (by omega), f2.i (o146 _)]; exact k1 k hk
  · refine ((k2.mono fun x i q => ?_).tr (f2.mono fun x i q => ?_)).tr (g3.mono fun x i q => ?_)
    · unfold PQ; omega
    · unfold PT PR at q; unfold PQ; omega
    · unfold PQ; omega
theorem RI.th {μ : Mu} {s : SD} {t : ST} {m : Nat} {h : Nat → ST} (hR : RI μ s t m h) : RI (wI μ 139 0 0) s t m h := ⟨hR.1, hR.2.1, hR.2.2.1, by rw [rI_ii (by decide)]; exact hR.2.2.2⟩
theorem PQ.th (μ : Mu) : Fg PQ μ (wI μ 139 0 0) := (Fg.rfl' _ _).w (Or.inl ⟨rfl, by omega, by omega, by omega⟩) _
theorem RI.keep {μ m1 : Mu} {s : SD} {t : ST} {m : Nat} {h : Nat → ST} (hR : RI μ s t m h) (k2 : Fg (fun a _ => a = 146) μ m1) : RI m1 s t m h := by
  obtain ⟨a1, a2, ⟨a3, a4, a5⟩, a6⟩ := hR
  have e : ∀ i, rI m1 140 i = rI μ 140 i := fun i => k2.i (by decide)
  have e2 : (fun j => rI m1 140 (64 + j)) = fun j => rI μ 140 (64 + j) := funext fun j => e _
  refine ⟨?_, ?_, ⟨by rw [e]; exact a3, a4, fun j hj => ?_⟩, by rw [k2.i (by decide)]; exact a6⟩
  · unfold RS at a1 ⊢; simp only [e]; exact a1
  · unfold RT; rw [e2]; exact a2
  · have e3 : (fun k => rI m1 140 (181 + 116 * j + k)) = fun k => rI μ 140 (181 + 116 * j + k) := funext fun j => e _
    rw [e3]; exact a5 j hj
theorem PT_w {m1 : Mu} {i : Nat} (v : Int32) (h1 : 64 ≤ i) (h2 : i < 180) : Fg PT m1 (wI m1 140 i v) := (Fg.rfl' _ _).w (Or.inl (Or.inl ⟨rfl, h1, h2⟩)) _
/-- a deed that can't be: nothing changes -/
theorem INV.same {k : Nat} {sh : List Sh} {R : Rf} {μ μ1 : Mu} {s : SD} {t : ST} {m : Nat} {h : Nat → ST} (hV : VI s t m h (1000 + 50 * k)) (hR : RI μ s t m h) (hT : TRY μ) (hA : TAP μ) (hG : IMG sh R μ (1000 + 50 * k)) (hC : CI μ1 s t m h) (fC : Fr PC μ μ1) : INV (k + 1) sh R (wI μ1 139 0 0) :=
  INV.step hT hA hG hC fC (hR.fr hV fC ⟨fun q => by unfold PC at q; omega, fun q => by unfold PC at q; omega⟩).th (PQ.th _) (hV.mono (by omega))
theorem INV.cp {k : Nat} {μ : Mu} {s : SD} {t : ST} {m : Nat} {h : Nat → ST} (hk : k < 512) (hV : VI s t m h (1000 + 50 * k)) (hC : CI μ s t m h) : CP μ s t := ⟨hC.1, hV.1, hC.2.1, hC.2.2.1, hV.2.1, by have := hV.2.2.1; omega⟩
theorem INV.rp {k : Nat} {μ : Mu} {s : SD} {t : ST} {m : Nat} {h : Nat → ST} (hk : k < 512) (hV : VI s t m h (1000 + 50 * k)) (hR : RI μ s t m h) : RP μ s t := ⟨hR.1, hV.1, hR.2.1, hV.2.1, by have := hV.2.2.1; omega, hR.2.2.2⟩
theorem PCo : ¬ PC 139 ∧ ¬ PC 140 := ⟨fun q => by unfold PC at q; omega, fun q => by unfold PC at q; omega⟩
theorem m_seed {n k : Nat} {sh : List Sh} {R : Rf} {μ : Mu} {x : Int32} (hI : INV k sh R μ) (hk : k < 512) (hn : 5000 < n) : GO k sh R (fX11_seed n x μ) (fX12_seed n x) := by
  obtain ⟨s, t, m, h, hV, hC, hR, hT, hA, hG⟩ := hI
  have hb := hV.2.2.1
  obtain ⟨m1, g1, g2, g3⟩ := c_keep (n := n) (a := 34) (Or.inl rfl) hV.1 hV.2.1.2.1 hC.1 hC.2.1 hC.2.2.1 hC.2.2.1 hC.2.2.2
  have f1 : Fr PC μ (wI m1 34 2 x) := (g3.mono fun x q => by unfold PC; omega).w (by unfold PC; omega) _ _
  have c1 : CI (wI m1 34 2 x) s (seedS t x) (pushM m) (pushH m h t) := ⟨g2.1.congr fun k hk i => rI_ai (by omega), g2.2.1.congr fun k h1 h2 i => rI_ai (by omega), CB_seed g2.2.2.1 x, g2.2.2.2.fr ((Fr.rfl' (fun x => x = 34) m1).w rfl _ _) (fun x h1 h2 q => by omega)⟩
  have hR1 := (hR.fr hV f1 PCo).th
  obtain ⟨m3, k1, k2, k3⟩ := f_keeps (n := n) (wI (wI m1 34 2 x) 139 0 0) (by omega)
  have hR3 := hR1.keep k3
  obtain ⟨m5, l1, l2, l3, l4⟩ := r_notes (n := n) hR1 hV k2 k3 (RT_seed hR3.2.1 x) (TV_seed hV.2.1) (PT_w x (by omega) (by omega)) (by omega)
  refine ⟨tX t, wI m1 34 2 x, m5, ?_, ?_, INV.step hT hA hG c1 f1 l2 ((PQ.th _).tr l4) (VI_push hV (TV_seed hV.2.1) (by rw [tH_seed]; omega) (by omega))⟩
  · unfold fX11_seed
    rw [g1, bnd_some, hC.2.2.1.2.2.1]
  · unfold fX12_seed
    rw [k1, bnd_some, l1, bnd_some, l3 2 (by omega)]
    have : rI (wI (wI m1 34 2 x) 139 0 0) 140 (64 + 2) = tX t := hR1.2.1.2.2.1
    rw [this]
theorem ifb {α : Type} {b : Bool} {A B : α} : (if (if b = true then (1 : Int32) else 0) = 0 then A else B) = if b = true then B else A := by cases b <;> rfl
theorem m_whisper {n k : Nat} {sh : List Sh} {R : Rf} {μ : Mu} {x : Int32} (hI : INV k sh R μ) (hk : k < 512) (hn : 5000 < n) : GO k sh R (fX11_whisper n x μ) (fX12_whisper n x) := by
  obtain ⟨s, t, m, h, hV, hC, hR, hT, hA, hG⟩ := hI
  have hb := hV.2.2.1
  have hcp := INV.cp hk hV hC
  have hB := hV.1.1.2
  have hW := hV.2.1.2.1
  obtain ⟨m1, d1, d2, d3⟩ := f_deed (n := n) (x := if okN x (sB s) = true then x else 900) hC hV.1 hV.2.1 (by omega) (by omega)
  have hR1 := (hR.fr hV d3 PCo).th
  have hle := whyV_le s t (if okN x (sB s) = true then x else 900).toInt64
  have e1 : fX11_whisper n x μ = if nI (whyV s t (if okN x (sB s) = true then x else 900).toInt64) = 0 then some (rI m1 34 3 - 1, m1) else some (-10 - nI (whyV s t (if okN x (sB s) = true then x else 900).toInt64), m1) := by
    unfold fX11_whisper
    rw [hcp.isB, bnd_some, ifb, d1, bnd2_some]
  have e2 : fX12_whyWhisper n x.toInt64 (wI m1 139 0 0) = some (nI (whyV s t (if okN x (sB s) = true then x else 900).toInt64)) := by
    by_cases c : okN x (sB s) = true
    · obtain ⟨j, hj, rfl⟩ := okN_of c (by omega)
      rw [if_pos c, f_whyWhisper hR1.1 hV.1 hR1.2.1 hV.2.1 (by omega), whyV_j (by omega)]
      unfold whyN
      rw [if_pos (show j < 100 by omega)]
    · rw [if_neg c]
      have z := whyV_j (s := s) (t := t) (j := 900) (by omega)
      have z : whyV s t ((900 : Int32).toInt64) = whyN s t 900 := z
      rw [z]
      unfold fX12_whyWhisper
      rw [f_isBeach hR1.1.2.1 (by omega), bnd_some, ifb, if_neg c]
      rfl
  unfold GO fX12_whisper
  simp only [e1, e2, bnd_some]
  generalize hw : whyV s t (if okN x (sB s) = true then x else 900).toInt64 = w at hle d1 d2 e2 ⊢
  by_cases c : w = 0
  · subst c
    rw [if_pos rfl] at d2
    have cb : okN x (sB s) = true := by
      cases c : okN x (sB s)
      · rw [c] at hw
        have z := whyV_j (s := s) (t := t) (j := 900) (by omega)
        have z : whyV s t ((900 : Int32).toInt64) = whyN s t 900 := z
        rw [if_neg (by decide), z] at hw
        exact absurd hw (by unfold whyN; simp)
      · rfl
    obtain ⟨j, hj, rfl⟩ := okN_of cb (by omega)
    rw [if_pos cb, whyV_j (by omega)] at hw
    rw [if_pos cb, doV_j (by omega)] at d2
    have hd : doN t j = whisS t j := by unfold doN; rw [if_pos (by omega)]
    rw [hd] at d2
    have hw8 : tW t < 8 := by
      unfold whyN at hw
      rw [if_pos (by omega), if_pos hj] at hw
      by_cases e : tW t = 8
      · rw [if_pos e] at hw; cases hw
      · omega
    have hTV : TV s (whisS t j) := by
      have z := TV_do (v := (nI j).toInt64) hV.1 hV.2.1 (by rw [whyV_j (by omega)]; exact hw)
      rw [doV_j (by omega), hd] at z; exact z.1
    obtain ⟨m3, k1, k2, k3⟩ := f_keeps (n := n) (wI m1 139 0 0) (by omega)
    have hR3 := hR1.keep k3
    obtain ⟨m4, p1, p2, p3⟩ := f_whispers (n := n) (b := j) hV.1 hR3.2.1 hw8 hj (by omega)
    obtain ⟨m5, l1, l2, l3, l4⟩ := r_notes (n := n) hR1 hV k2 k3 p2 hTV (p3.mono fun _ _ q => Or.inl q) (by omega)
    refine ⟨nI (tW t), m1, m5, ?_, ?_, INV.step hT hA hG d2 d3 l2 ((PQ.th _).tr l4) (VI_push hV hTV (by show tH t ≤ _; omega) (by omega))⟩
    · have : rI m1 34 3 = nI (tW t + 1) := d2.2.2.1.2.2.2.1
      rw [if_pos (by decide), this, show nI (tW t + 1) - 1 = nI (tW t) from pk_sub (a := tW t + 1) (b := 1) (by omega)]
    · rw [e2, bnd_some, if_pos (by decide), k1, bnd_some, p1, bnd2_some, l1, bnd_some]
  · rw [if_neg c] at d2
    have c' : ¬ nI w = 0 := fun e => c ((nI_z (by omega)).mp e)
    refine ⟨-10 - nI w, m1, wI m1 139 0 0, by rw [if_neg c'], by rw [e2, bnd_some, if_neg c'], INV.same hV hR hT hA hG d2 d3⟩
