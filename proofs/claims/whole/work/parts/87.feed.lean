/-! FEED -/
theorem by_eq (y : Int32) : ∃ v, v < 256 ∧ y &&& 255 = nI v ∧ vp_nar .byte (y.toInt8.toInt32) = (nI v).toInt8.toInt32 := by
  have hv : (y.toBitVec &&& 255#32).toNat < 256 := by
    rw [BitVec.toNat_and]
    exact Nat.lt_of_le_of_lt Nat.and_le_right (by decide)
  refine ⟨(y.toBitVec &&& 255#32).toNat, hv, ?_, ?_⟩
  · refine Int32.toBitVec_inj.mp ?_
    rw [Int32.toBitVec_and]
    show _ = BitVec.ofNat 32 _
    rw [BitVec.ofNat_toNat]
    rfl
  · have e : (nI (y.toBitVec &&& 255#32).toNat).toInt8 = y.toInt8 := by
      refine Int8.toBitVec_inj.mp ?_
      show BitVec.signExtend 8 (BitVec.ofNat 32 (y.toBitVec &&& 255#32).toNat) = BitVec.signExtend 8 y.toBitVec
      rw [BitVec.ofNat_toNat]
      refine BitVec.eq_of_getLsbD_eq fun i hi => ?_
      have h255 : (255#32).getLsbD i = true := by
        have : ∀ i, i < 8 → (255#32).getLsbD i = true := by decide
        exact this i hi
      rw [BitVec.getLsbD_signExtend, BitVec.getLsbD_signExtend, if_pos (show i < 32 by omega), if_pos (show i < 32 by omega), BitVec.setWidth_eq, BitVec.getLsbD_and, h255, Bool.and_true]
    rw [e]
    show (y.toInt8.toInt32).toInt8.toInt32 = _
    rw [Int8.toInt8_toInt32]
theorem f_put {n T : Nat} {x : Int32} {μ : Mu} (hT : T + 4 ≤ 900) (h : rI μ 0 1 = nI T) (hn : 1000 < n) : ∃ μ', fX11_putOnTape n x μ = some μ' ∧ rI μ' 0 1 = nI (T + 4) ∧ (∀ i, i < 4 → rI μ' 1 (T + i) = vp_nar .byte ((shr x (nI (24 - 8 * i))).toInt8.toInt32)) ∧ Fg (fun a i => (a = 0 ∧ i = 1) ∨ (a = 1 ∧ T ≤ i)) μ μ' := by
  have key : Rn (lp n (sX11_putOnTape_3 n x) (24, μ)) (fun μ' => rI μ' 0 1 = nI (T + 4) ∧ (∀ i, i < 4 → rI μ' 1 (T + i) = vp_nar .byte ((shr x (nI (24 - 8 * i))).toInt8.toInt32)) ∧ Fg (fun a i => (a = 0 ∧ i = 1) ∨ (a = 1 ∧ T ≤ i)) μ μ') := by
    refine Rn.l 4 (fun i q => q.1 = (if i = 4 then -8 else nI (24 - 8 * i)) ∧ rI q.2 0 1 = nI (T + i) ∧ (∀ j, j < i → rI q.2 1 (T + j) = vp_nar .byte ((shr x (nI (24 - 8 * j))).toInt8.toInt32)) ∧ Fg (fun a i => (a = 0 ∧ i = 1) ∨ (a = 1 ∧ T ≤ i)) μ q.2) _ (by omega) ⟨rfl, h, fun j hj => absurd hj (Nat.not_lt_zero _), Fg.rfl' _ _⟩ ?_ ?_
    · rintro i ⟨y, q⟩ hi ⟨e1, e2, e3, e4⟩
      have e1 : y = if i = 4 then -8 else nI (24 - 8 * i) := e1
      rw [if_neg (by omega)] at e1
      have e2 : rI q 0 1 = nI (T + i) := e2
      have e3 : ∀ j, j < i → rI q 1 (T + j) = vp_nar .byte ((shr x (nI (24 - 8 * j))).toInt8.toInt32) := e3
      have e4 : Fg (fun a i => (a = 0 ∧ i = 1) ∨ (a = 1 ∧ T ≤ i)) μ q := e4
      subst e1
      have w1 : Fg (fun a i => (a = 0 ∧ i = 1) ∨ (a = 1 ∧ T ≤ i)) μ (wI (wI q 1 (T + i) (vp_nar .byte ((shr x (nI (24 - 8 * i))).toInt8.toInt32))) 0 1 (nI (T + i + 1))) := (e4.w (Or.inr ⟨rfl, by omega⟩) _).w (Or.inl ⟨rfl, rfl⟩) _
      show Rn (if nI (24 - 8 * i) < 0 then _ else _) _
      rw [if_neg (Int32.not_lt.mpr (nI_pos' (by omega))), e2, if_neg (fun e => by have : 900 ≤ T + i := (le_l (k := 900) (by decide) (by omega)).mp e; omega), ib_n (by omega) (by omega), gd_true, ix_n (by omega), rI_ai (by decide), e2, show nI (T + i) + 1 = nI (T + i + 1) from nI_add _ 1]
      refine Rn.so ⟨?_, rI_same _ _ _ _, fun j hj => ?_, w1⟩
      · show nI (24 - 8 * i) + (-8) = if i + 1 = 4 then -8 else nI (24 - 8 * (i + 1))
        have : ∀ i, i < 4 → nI (24 - 8 * i) + (-8) = if i + 1 = 4 then -8 else nI (24 - 8 * (i + 1)) := by decide
        exact this i hi
      · show rI (wI (wI q 1 (T + i) _) 0 1 _) 1 (T + j) = _
        rw [rI_ai (by decide)]
        by_cases e : j = i
        · rw [e, rI_same]
        · rw [rI_ii (by omega)]; exact e3 j (by omega)
    · rintro ⟨y, q⟩ ⟨e1, e2, e3, e4⟩
      have e1 : y = if 4 = 4 then -8 else nI (24 - 8 * 4) := e1
      rw [if_pos rfl] at e1
      subst e1
      exact Rn.e (r := q) rfl ⟨e2, e3, e4⟩
  obtain ⟨m, h1, h2⟩ := key
  exact ⟨m, by unfold fX11_putOnTape; rw [h1, bnd_some], h2⟩
def avI (x1 x2 x3 x4 x5 : Int32) (w : Nat) : Int32 := if 1 ≤ w then (if 2 ≤ w then (if 3 ≤ w then (if 4 ≤ w then x5 else x4) else x3) else x2) else x1
theorem av_i (x1 x2 x3 x4 x5 : Int32) {i : Nat} (hi : i < 20) : (if 4 ≤ nI i then (if 8 ≤ nI i then (if 12 ≤ nI i then (if 16 ≤ nI i then x5 else x4) else x3) else x2) else x1) = avI x1 x2 x3 x4 x5 (i / 4) := by
  unfold avI
  have h1 : ((4 : Int32) ≤ nI i) ↔ (1 ≤ i / 4) := (le_l (k := 4) (by decide) (by omega)).trans (show 4 ≤ i ↔ _ by omega)
  have h2 : ((8 : Int32) ≤ nI i) ↔ (2 ≤ i / 4) := (le_l (k := 8) (by decide) (by omega)).trans (show 8 ≤ i ↔ _ by omega)
  have h3 : ((12 : Int32) ≤ nI i) ↔ (3 ≤ i / 4) := (le_l (k := 12) (by decide) (by omega)).trans (show 12 ≤ i ↔ _ by omega)
  have h4 : ((16 : Int32) ≤ nI i) ↔ (4 ≤ i / 4) := (le_l (k := 16) (by decide) (by omega)).trans (show 16 ≤ i ↔ _ by omega)
  simp only [h1, h2, h3, h4]
theorem sh_i : ∀ i, i < 20 → (24 - (8 * (jrem (nI i) 4)) : Int32) = nI (24 - 8 * (i % 4)) := by decide +kernel
theorem f_fed {n T : Nat} {x1 x2 x3 x4 x5 : Int32} {μ : Mu} (hT : T + 20 ≤ 900) (h : rI μ 139 5 = nI T) (hn : 1000 < n) : Rn (lp n (sX12_feed_24 n x1 x2 x3 x4 x5) (0, μ)) (fun q => rI q 139 5 = nI (T + 20) ∧ (∀ i, i < 20 → rI q 142 (T + i) = (shr (avI x1 x2 x3 x4 x5 (i / 4)) (nI (24 - 8 * (i % 4)))) &&& 255) ∧ Fg (fun a i => (a = 139 ∧ i = 5) ∨ (a = 142 ∧ T ≤ i)) μ q) := by
  refine Rn.l 20 (fun i q => q.1 = nI i ∧ rI q.2 139 5 = nI (T + i) ∧ (∀ j, j < i → rI q.2 142 (T + j) = (shr (avI x1 x2 x3 x4 x5 (j / 4)) (nI (24 - 8 * (j % 4)))) &&& 255) ∧ Fg (fun a i => (a = 139 ∧ i = 5) ∨ (a = 142 ∧ T ≤ i)) μ q.2) _ (by omega) ⟨rfl, h, fun j hj => absurd hj (Nat.not_lt_zero _), Fg.rfl' _ _⟩ ?_ ?_
  · rintro i ⟨y, q⟩ hi ⟨e1, e2, e3, e4⟩
    have e1 : y = nI i := e1
    have e2 : rI q 139 5 = nI (T + i) := e2
    have e3 : ∀ j, j < i → rI q 142 (T + j) = (shr (avI x1 x2 x3 x4 x5 (j / 4)) (nI (24 - 8 * (j % 4)))) &&& 255 := e3
    have e4 : Fg (fun a i => (a = 139 ∧ i = 5) ∨ (a = 142 ∧ T ≤ i)) μ q := e4
    subst e1
    show Rn (if (20 : Int32) ≤ nI i then _ else _) _
    rw [if_neg (fun e => by have : 20 ≤ i := (le_l (k := 20) (by decide) (by omega)).mp e; omega), av_i _ _ _ _ _ hi, sh_i i hi, e2, ib_n (by omega) (by omega), gd_true, ix_n (by omega), rI_ai (by decide), e2, show nI (T + i) + 1 = nI (T + i + 1) from nI_add _ 1]
    refine Rn.so ⟨nI_add i 1, rI_same _ _ _ _, fun j hj => ?_, (e4.w (Or.inr ⟨rfl, by omega⟩) _).w (Or.inl ⟨rfl, rfl⟩) _⟩
    show rI (wI (wI q 142 (T + i) _) 139 5 _) 142 (T + j) = _
    rw [rI_ai (by decide)]
    by_cases e : j = i
    · rw [e, rI_same]
    · rw [rI_ii (by omega)]; exact e3 j (by omega)
  · rintro ⟨y, q⟩ ⟨e1, e2, e3, e4⟩
    have e1 : y = nI 20 := e1
    subst e1
    exact Rn.e (r := q) rfl ⟨e2, e3, e4⟩
theorem CI.fr2 {P : Nat → Nat → Prop} {μ μ' : Mu} {s : SD} {t : ST} {m : Nat} {h : Nat → ST} (hh : CI μ s t m h) (e : Fg P μ μ') (hp : ∀ x i, (2 ≤ x ∧ x < 139) → ¬ P x i) : CI μ' s t m h := by
  obtain ⟨h1, h2, h3, q, h4, h5, h6, h7, h8⟩ := hh
  have hq : q < 10 := h4
  refine ⟨h1.congr fun k hk j => e.i (hp _ _ (by omega)), h2.congr fun k _ hk j => e.i (hp _ _ (by omega)), h3.congr fun k hk j => e.i (hp _ _ (by omega)), q, h4, by rw [e.i (hp _ _ (by omega))]; exact h5, by rw [e.i (hp _ _ (by omega))]; exact h6, h7, fun j hj => (h8 j hj).congr fun k hk i => e.i (hp _ _ ?_)⟩
  omega
theorem m_feed {n k : Nat} {sh : List Sh} {R : Rf} {μ : Mu} {x1 x2 x3 x4 x5 : Int32} (hI : INV k sh R μ) (hn : 5000 < n) : GO k sh R (fX11_feed n x1 x2 x3 x4 x5 μ) (fX12_feed n x1 x2 x3 x4 x5) := by
  obtain ⟨s, t, m, h, hV, hC, hR, hT, hA, hG⟩ := hI
  have hV' : VI s t m h (1000 + 50 * (k + 1)) := ⟨hV.1, hV.2.1, by have := hV.2.2.1; omega, fun j hj => ⟨(hV.2.2.2 j hj).1, by have := (hV.2.2.2 j hj).2; omega⟩⟩
  obtain ⟨T, t1, t2, t3, t4, t5, t6⟩ := hA
  unfold fX11_feed
  have z0 : ∀ q : Mu, rI (wI q 139 0 0) 139 5 = rI q 139 5 := fun q => by rw [rI_ii (by decide)]
  by_cases c : T + 20 ≤ 900
  · obtain ⟨q1, a1, a2, a3, a4⟩ := f_put (n := n) (x := x1) (by omega) t2 (by omega)
    obtain ⟨q2, b1, b2, b3, b4⟩ := f_put (n := n) (x := x2) (by omega) a2 (by omega)
    obtain ⟨q3, c1, c2, c3, c4⟩ := f_put (n := n) (x := x3) (by omega) b2 (by omega)
    obtain ⟨q4, d1, d2, d3, d4⟩ := f_put (n := n) (x := x4) (by omega) c2 (by omega)
    obtain ⟨q5, e1, e2, e3, e4⟩ := f_put (n := n) (x := x5) (by omega) d2 (by omega)
    have hb : ∀ w i, w < 5 → i < 4 → rI q5 1 (T + (4 * w + i)) = vp_nar .byte ((shr (avI x1 x2 x3 x4 x5 w) (nI (24 - 8 * i))).toInt8.toInt32) := by
      intro w i hw hi
      have o5 : ∀ j, j < T + 16 → rI q5 1 j = rI q4 1 j := fun j hj => e4.i (by omega)
      have o4 : ∀ j, j < T + 12 → rI q4 1 j = rI q3 1 j := fun j hj => d4.i (by omega)
      have o3 : ∀ j, j < T + 8 → rI q3 1 j = rI q2 1 j := fun j hj => c4.i (by omega)
      have o2 : ∀ j, j < T + 4 → rI q2 1 j = rI q1 1 j := fun j hj => b4.i (by omega)
      match w, hw with
      | 0, _ => rw [show T + (4 * 0 + i) = T + i by omega, o5 _ (by omega), o4 _ (by omega), o3 _ (by omega), o2 _ (by omega)]; exact a3 i hi
      | 1, _ => rw [show T + (4 * 1 + i) = T + 4 + i by omega, o5 _ (by omega), o4 _ (by omega), o3 _ (by omega)]; exact b3 i hi
      | 2, _ => rw [show T + (4 * 2 + i) = T + 4 + 4 + i by omega, o5 _ (by omega), o4 _ (by omega)]; exact c3 i hi
      | 3, _ => rw [show T + (4 * 3 + i) = T + 4 + 4 + 4 + i by omega, o5 _ (by omega)]; exact d3 i hi
      | 4, _ => rw [show T + (4 * 4 + i) = T + 4 + 4 + 4 + 4 + i by omega]; exact e3 i hi
    have fC : Fg (fun a i => (a = 0 ∧ i = 1) ∨ (a = 1 ∧ T ≤ i)) μ q5 := (((a4.tr (b4.mono fun a i q => by omega)).tr (c4.mono fun a i q => by omega)).tr (d4.mono fun a i q => by omega)).tr (e4.mono fun a i q => by omega)
    have r5 : rI (wI q5 139 0 0) 139 5 = nI T := by rw [z0, fC.i (by omega)]; exact t3
    obtain ⟨q6, g1, g2, g3, g4⟩ := f_fed (n := n) (x1 := x1) (x2 := x2) (x3 := x3) (x4 := x4) (x5 := x5) c r5 (by omega)
    have fR : Fg (fun a i => (a = 139 ∧ (i = 0 ∨ i = 5)) ∨ (a = 142 ∧ T ≤ i)) q5 q6 := ((Fg.rfl' _ _).w (Or.inl ⟨rfl, Or.inl rfl⟩) _).tr (g4.mono fun a i q => by omega)
    refine ⟨nI (T + 20), q5, q6, ?_, ?_, s, t, m, h, hV', ?_, ?_, ?_, ?_, ?_⟩
    · rw [t2, show nI T + 20 = nI (T + 20) from nI_add T 20, if_pos ((le_r (k := 900) (by decide) (by omega)).mpr c), a1, bnd_some, b1, bnd_some, c1, bnd_some, d1, bnd_some, e1, bnd_some, e2]
    · unfold fX12_feed
      rw [r5, show nI T + 20 = nI (T + 20) from nI_add T 20, if_pos ((le_r (k := 900) (by decide) (by omega)).mpr c), g1, bnd_some]
      show some (rI q6 139 5, q6) = _
      rw [g2]
    · exact (hC.fr2 fC (fun x i hx => by omega)).fg fR (fun x i hx q => by omega)
    · exact (hR.fg hV fC (fun i => by omega) (by omega)).fg hV fR (fun i => by omega) (by omega)
    · exact (hT.fg fC (fun x i hx q => by omega)).fg fR (fun x i hx q => by omega)
    · refine ⟨T + 20, c, by rw [fR.i (by omega)]; exact e2, g2, fun j hj => ?_, by rw [fR.i (by omega), fR.i (by omega), fC.i (by omega), fC.i (by omega)]; exact t5, by rw [fR.i (by omega), fR.i (by omega), fC.i (by omega), fC.i (by omega)]; exact t6⟩
      by_cases e : j < T
      · rw [fR.i (by omega), fR.i (by omega), fC.i (by omega), fC.i (by omega)]
        exact t4 j e
      · obtain ⟨i, rfl⟩ : ∃ i, j = T + i := ⟨j - T, by omega⟩
        obtain ⟨v, v1, v2, v3⟩ := by_eq (shr (avI x1 x2 x3 x4 x5 (i / 4)) (nI (24 - 8 * (i % 4))))
        refine ⟨v, v1, by rw [g3 i (by omega)]; exact v2, ?_⟩
        have := hb (i / 4) (i % 4) (by omega) (by omega)
        rw [show 4 * (i / 4) + i % 4 = i by omega] at this
        rw [fR.i (by omega), this]; exact v3
    · exact (hG.fg fC (Nat.le_refl _) (fun x i hx q => by omega)).fg fR (by omega) (fun x i hx q => by omega)
  · have fR : Fg (fun a i => a = 139 ∧ i = 0) μ (wI μ 139 0 0) := (Fg.rfl' _ _).w ⟨rfl, rfl⟩ _
    refine ⟨-5, μ, wI μ 139 0 0, ?_, ?_, s, t, m, h, hV', ?_, ?_, ?_, ?_, ?_⟩
    · rw [t2, show nI T + 20 = nI (T + 20) from nI_add T 20, if_neg (fun e => c ((le_r (k := 900) (by decide) (by omega)).mp e))]
    · unfold fX12_feed
      rw [z0, t3, show nI T + 20 = nI (T + 20) from nI_add T 20, if_neg (fun e => c ((le_r (k := 900) (by decide) (by omega)).mp e))]
    · exact hC.fg fR (fun x i hx q => by omega)
    · exact hR.fg hV fR (fun i => by omega) (by omega)
    · exact hT.fg fR (fun x i hx q => by omega)
    · exact TAP.fg ⟨T, t1, t2, t3, t4, t5, t6⟩ fR (fun x i hx q => by omega)
    · exact hG.fg fR (by omega) (fun x i hx q => by omega)
