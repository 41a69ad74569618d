/-! trays -/
theorem Fg.wl {P : Nat → Nat → Prop} {a b : Mu} (h : Fg P a b) {x j : Nat} (hx : P x j) (i : Nat) (v : Int64) : Fg P a (wL b x i v) := ⟨fun y q hy => h.1 y q hy, fun y q h0 hy => by
  rw [rL_wL, if_neg (fun e => hy j (by rw [e.1]; exact hx))]; exact h.2 y q h0 hy⟩
def PCt : Nat → Prop := fun x => PC x ∨ (129 ≤ x ∧ x ≤ 136)
def PQt : Nat → Nat → Prop := fun a i => PQ a i ∨ (152 ≤ a ∧ a ≤ 154)
theorem INV.step2 {k : Nat} {sh : List Sh} {R : Rf} {μ μ1 μ2 : Mu} {s : SD} {t : ST} {m : Nat} {h : Nat → ST} (hT : TRY μ2) (hA : TAP μ) (hG : IMG sh R μ (1000 + 50 * k)) (hC : CI μ1 s t m h) (fC : Fr PCt μ μ1) (hR : RI μ2 s t m h) (fR : Fg PQt μ1 μ2) (hV : VI s t m h (1000 + 50 * (k + 1))) : INV (k + 1) sh R μ2 := by
  refine ⟨s, t, m, h, hV, hC.fg fR (fun x i hx q => by unfold PQt PQ at q; omega), hR, hT, ?_, ?_⟩
  · exact (hA.fg fC.fg (fun x i hx q => by have q : PCt x := q; unfold PCt PC at q; omega)).fg fR (fun x i hx q => by unfold PQt PQ at q; omega)
  · exact (hG.fg fC.fg (Nat.le_refl _) (fun x i hx q => by have q : PCt x := q; unfold PCt PC at q; omega)).fg fR (by omega) (fun x i hx q => by unfold PQt PQ at q; omega)
theorem RI.fg {P : Nat → Nat → Prop} {μ μ' : Mu} {s : SD} {t : ST} {m : Nat} {h : Nat → ST} {B : Nat} (hh : RI μ s t m h) (hv : VI s t m h B) (e : Fg P μ μ') (h1 : ∀ i, ¬ P 140 i) (h2 : ¬ P 139 19) : RI μ' s t m h := by
  obtain ⟨a1, a2, ⟨a3, a4, a5⟩, a6⟩ := hh
  exact ⟨a1.congr hv.1 fun i _ => e.i (h1 _), RB.congr a2 hv.2.1 hv.1 fun i _ => e.i (h1 _), ⟨by rw [e.i (h1 _)]; exact a3, a4, fun j hj => (a5 j hj).congr (hv.2.2.2 j hj).1 hv.1 fun i _ => e.i (h1 _)⟩, by rw [e.i h2]; exact a6⟩
theorem CI.fr {P : Nat → Prop} {μ μ' : Mu} {s : SD} {t : ST} {m : Nat} {h : Nat → ST} (hh : CI μ s t m h) (e : Fr P μ μ') (hp : ∀ x, (2 ≤ x ∧ x ≤ 12) ∨ (34 ≤ x ∧ x ≤ 40) ∨ (48 ≤ x ∧ x ≤ 119) → ¬ P x) (hu : RU μ' s) : CI μ' s t m h := ⟨hh.1.fr e (fun k hk => hp _ (by omega)), hu, hh.2.2.1.fr e (fun k hk => hp _ (by omega)), hh.2.2.2.fr e (fun x h1 h2 => hp _ (by omega))⟩
theorem f_fillL {n a : Nat} {v : Int64} (μ : Mu) (hn : 1000 < n) : ∃ μ', fJ7_fill_d0a16 n a 40 v μ = some μ' ∧ (∀ k, k < 40 → rL μ' a k = v) ∧ Fr (fun x => x = a) μ μ' ∧ ∀ b i, rI μ' b i = rI μ b i := by
  have key : Rn (lp n (sJ7_fill_d0a16_6 n a 40 v (Int32.ofNat 40)) (0, μ)) (fun m => (∀ k, k < 40 → rL m a k = v) ∧ Fr (fun x => x = a) μ m ∧ ∀ b i, rI m b i = rI μ b i) := by
    refine Rn.l 40 (fun i q => q.1 = nI i ∧ (∀ k, k < i → rL q.2 a k = v) ∧ Fr (fun x => x = a) μ q.2 ∧ ∀ b i, rI q.2 b i = rI μ b i) _ (by omega) ⟨rfl, fun k hk => absurd hk (Nat.not_lt_zero _), Fr.rfl' _ _, fun _ _ => rfl⟩ ?_ ?_
    · rintro i ⟨x, m⟩ hi ⟨e1, e2, e3, e4⟩
      have e1 : x = nI i := e1
      subst e1
      have e2 : ∀ k, k < i → rL m a k = v := e2
      show Rn (if nI 40 ≤ nI i then _ else _) _
      rw [if_neg (fun e => by have := (nI_leI (by omega) (by omega)).mp e; omega), ib_n hi (by omega), gd_true, ix_n (by omega)]
      refine Rn.so ⟨nI_add i 1, fun k hk => ?_, e3.wl rfl _ _, e4⟩
      show rL (wL m a i v) a k = v
      rw [rL_wL]
      by_cases e : k = i
      · rw [if_pos ⟨rfl, e⟩]
      · rw [if_neg (fun q => e q.2)]; exact e2 k (by omega)
    · rintro ⟨x, m⟩ ⟨e1, e2, e3, e4⟩
      have e1 : x = nI 40 := e1
      subst e1
      exact Rn.e (r := m) rfl ⟨e2, e3, e4⟩
  obtain ⟨m, h1, h2, h3, h4⟩ := key
  exact ⟨m, by unfold fJ7_fill_d0a16; rw [h1, bnd_some], h2, h3, h4⟩
theorem TRY.upd {μ μ2 : Mu} (hT : TRY μ) {T N so : Nat} (h1 : N ≤ 40) (h2 : so < 4) (h3 : rI μ2 (129 + 2 * T) 1 = nI N) (h4 : rI μ2 (129 + 2 * T) 2 = nI so) (h5 : rI μ2 152 T = nI so) (h6 : rI μ2 153 T = nI N) (h7 : ∀ k, k < N → rL μ2 (129 + 2 * T + 1) k = rL μ2 154 (40 * T + k)) (c : ∀ x, 129 ≤ x → x ≤ 136 → x ≠ 129 + 2 * T → x ≠ 129 + 2 * T + 1 → (∀ i, rI μ2 x i = rI μ x i) ∧ ∀ i, rL μ2 x i = rL μ x i) (r1 : ∀ i, i ≠ T → rI μ2 152 i = rI μ 152 i ∧ rI μ2 153 i = rI μ 153 i) (r2 : ∀ i, i < 40 * T ∨ 40 * T + 40 ≤ i → rL μ2 154 i = rL μ 154 i) : TRY μ2 := by
  intro T' hT'
  by_cases e : T' = T
  · subst e
    exact Or.inr ⟨N, so, h1, h2, h3, h4, h5, h6, h7⟩
  · rcases hT T' hT' with ⟨a, b⟩ | ⟨N', so', a1, a2, a3, a4, a5, a6, a7⟩
    · exact Or.inl ⟨by rw [(c _ (by omega) (by omega) (by omega) (by omega)).1]; exact a, by rw [(r1 _ e).1]; exact b⟩
    · refine Or.inr ⟨N', so', a1, a2, by rw [(c _ (by omega) (by omega) (by omega) (by omega)).1]; exact a3, by rw [(c _ (by omega) (by omega) (by omega) (by omega)).1]; exact a4, by rw [(r1 _ e).1]; exact a5, by rw [(r1 _ e).2]; exact a6, fun k hk => ?_⟩
      rw [(c _ (by omega) (by omega) (by omega) (by omega)).2, r2 _ (by omega)]
      exact a7 k hk
theorem m_numbers {n k : Nat} {sh : List Sh} {R : Rf} {μ : Mu} {x y z : Int32} (hI : INV k sh R μ) (hk : k < 512) (hn : 5000 < n) : GO k sh R (fX11_numbers n x y z μ) (fX12_numbers n x y z) := by
  obtain ⟨s, t, m, h, hV, hC, hR, hT, hA, hG⟩ := hI
  unfold GO fX11_numbers fX12_numbers
  have e1 : ∀ m : Mu, fX11_within n y 0 3 m = some (if wi y 0 3 = true then 1 else 0) := fun m => w11 0 3
  have e2 : ∀ m : Mu, fX12_within n y.toInt64 0 3 m = some (if wi y 0 3 = true then 1 else 0) := fun m => w12 0 3
  have e3 : ∀ m : Mu, fX11_within n z 0 40 m = some (if wi z 0 40 = true then 1 else 0) := fun m => w11 0 40
  have e4 : ∀ m : Mu, fX12_within n z.toInt64 0 40 m = some (if wi z 0 40 = true then 1 else 0) := fun m => w12 0 40
  have e5 : ∀ m : Mu, fX12_within n x.toInt64 0 3 m = some (if okN x 4 = true then 1 else 0) := fun m => RP.isT
  simp only [CP.isT, e1, e2, e3, e4, e5, bnd_some, ifb]
  by_cases k0 : okN x 4 = true
  · by_cases k1 : wi y 0 3 = true
    · by_cases k2 : wi z 0 40 = true
      · obtain ⟨T, hT4, rfl⟩ := okN_of k0 (by omega)
        obtain ⟨so, so1, so2, rfl⟩ := wi_of k1 (by omega) (by omega)
        obtain ⟨N, N1, N2, rfl⟩ := wi_of k2 (by omega) (by omega)
        rw [if_pos k0, if_pos k1, if_pos k2]
        obtain ⟨m1, g1, g2, g3, g4⟩ := f_fillL (n := n) (a := 129 + 2 * T + 1) (v := 0) (wI (wI μ (129 + 2 * T) 2 (nI so)) (129 + 2 * T) 1 (nI N)) (by omega)
        have f0 : Fr (fun x => x = 129 + 2 * T ∨ x = 129 + 2 * T + 1) μ m1 := (((Fr.rfl' _ _).w (Or.inl rfl) _ _).w (Or.inl rfl) _ _).tr (g3.mono fun x q => Or.inr q)
        have f1 : Fr PCt μ m1 := f0.mono fun x q => by unfold PCt; omega
        have lo : Rn (lp n (sX12_numbers_64 n (nI T) (nI N)) (0, wI (wI (wI m1 139 0 0) 152 T (nI so)) 153 T (nI N))) (fun q => (∀ k, k < N → rL q 154 (40 * T + k) = 0) ∧ (∀ b i, rI q b i = rI (wI (wI (wI m1 139 0 0) 152 T (nI so)) 153 T (nI N)) b i) ∧ ∀ b i, (b = 154 ∧ 40 * T ≤ i ∧ i < 40 * T + 40) ∨ rL q b i = rL m1 b i) := by
          refine Rn.l N (fun i q => q.1 = nI i ∧ (∀ k, k < i → rL q.2 154 (40 * T + k) = 0) ∧ (∀ b i, rI q.2 b i = rI (wI (wI (wI m1 139 0 0) 152 T (nI so)) 153 T (nI N)) b i) ∧ ∀ b i, (b = 154 ∧ 40 * T ≤ i ∧ i < 40 * T + 40) ∨ rL q.2 b i = rL m1 b i) _ (by omega) ⟨rfl, fun k hk => absurd hk (Nat.not_lt_zero _), fun _ _ => rfl, fun _ _ => Or.inr rfl⟩ ?_ ?_
          · rintro i ⟨x, q⟩ hi ⟨f1, f2, f3, f4⟩
            have f1 : x = nI i := f1
            subst f1
            have f2 : ∀ k, k < i → rL q 154 (40 * T + k) = 0 := f2
            have f4 : ∀ b i, (b = 154 ∧ 40 * T ≤ i ∧ i < 40 * T + 40) ∨ rL q b i = rL m1 b i := f4
            simp (disch := first | omega | decide) only [sX12_numbers_64, gd_true, bnd_some, bnd2_some, ix_n, ib_n, add_l, add_r, mul_l, mul_r, nI_add, sub_r, nI_leI, nI_ltI, nI_eq, le_l, le_r, lt_l, lt_r, eq_l, eq_r, eq_m, if_true, if_false, not_false_eq_true, not_true_eq_false, show ¬ N ≤ i by omega]
            refine Rn.so ⟨rfl, fun k hk => ?_, f3, fun b j => ?_⟩
            · show rL (wL q 154 (40 * T + i) 0) 154 (40 * T + k) = 0
              rw [rL_wL]
              by_cases e : k = i
              · rw [if_pos ⟨rfl, by rw [e]⟩]
              · rw [if_neg (fun z => by omega)]; exact f2 k (by omega)
            · show _ ∨ rL (wL q 154 (40 * T + i) 0) b j = _
              rw [rL_wL]
              by_cases e : b = 154 ∧ j = 40 * T + i
              · exact Or.inl ⟨e.1, by omega, by omega⟩
              · rw [if_neg e]; exact f4 b j
          · rintro ⟨x, q⟩ ⟨f1, f2, f3, f4⟩
            have f1 : x = nI N := f1
            subst f1
            exact Rn.e (r := q) (ite_le rfl) ⟨f2, f3, f4⟩
        obtain ⟨m2, l1, l2, l3, l4⟩ := lo
        have fR0 : Fg (fun a i => (a = 139 ∧ i = 0) ∨ (152 ≤ a ∧ a ≤ 154)) m1 m2 := by
          refine ⟨fun a i hi => ?_, fun a i h0 hi => ?_⟩
          · rw [l3, rI_ai (fun e => hi (by rw [e]; exact Or.inr ⟨by omega, by omega⟩)), rI_ai (fun e => hi (by rw [e]; exact Or.inr ⟨by omega, by omega⟩))]
            rw [rw_I, if_neg (fun e => hi (Or.inl e))]
          · rcases l4 a i with e | e
            · exact absurd (Or.inr ⟨by omega, by omega⟩) (hi 0)
            · exact e
        have fR : Fg PQt m1 m2 := fR0.mono fun a i q => by
          rcases q with q | q
          · exact Or.inl (Or.inl ⟨q.1, by omega, by omega, by omega⟩)
          · exact Or.inr q
        have hR2 := (hR.fr hV f0 ⟨by omega, by omega⟩).fg hV fR0 (fun i q => by omega) (fun q => by omega)
        refine ⟨0, m1, m2, ?_, ?_, INV.step2 ?_ hA hG (hC.fr f0 (fun x hx q => by omega) (hC.2.1.fr f0 (fun k h1 h2 q => by omega))) f1 hR2 fR (hV.mono (by omega))⟩
        · simp (disch := first | omega | decide) only [gd_true, bnd_some, bnd2_some, ix_n, ib_n, add_l, add_r, mul_l, mul_r, nI_add, sub_r, nI_leI, nI_ltI, nI_eq, le_l, le_r, lt_l, lt_r, eq_l, eq_r, eq_m, if_true, if_false, not_false_eq_true, not_true_eq_false]
          unfold fX10_begin
          rw [g1, bnd_some, bnd_some]
        · rw [if_pos k0, if_pos k1, if_pos k2]
          simp (disch := first | omega | decide) only [gd_true, bnd_some, bnd2_some, ix_n, ib_n, add_l, add_r, mul_l, mul_r, nI_add, sub_r, nI_leI, nI_ltI, nI_eq, le_l, le_r, lt_l, lt_r, eq_l, eq_r, eq_m, if_true, if_false, not_false_eq_true, not_true_eq_false]
          rw [l1, bnd_some]
        · have c1 : ∀ i, rI m2 (129 + 2 * T) i = rI (wI (wI μ (129 + 2 * T) 2 (nI so)) (129 + 2 * T) 1 (nI N)) (129 + 2 * T) i := fun i => by rw [fR0.i (by omega), g4]
          refine hT.upd (T := T) (N := N) (so := so) N2 (by omega) (by rw [c1, rI_same]) (by rw [c1, rI_ii (by decide), rI_same]) ?_ ?_ (fun k hk => ?_) (fun x h1 h2 h3 h4 => ?_) (fun i hi => ?_) (fun i hi => ?_)
          · rw [l3, rI_ai (by decide), rI_same]
          · rw [l3, rI_same]
          · rw [l2 k hk, fR0.2 _ _ (by omega) (fun j q => by omega), g2 k (by omega)]
          · have hx := f0 x (by omega)
            exact ⟨fun i => by rw [fR0.i (by omega)]; exact hx.1 i, fun i => by rw [fR0.2 _ _ (by omega) (fun j q => by omega)]; exact hx.2 i⟩
          · refine ⟨?_, ?_⟩
            · rw [l3, rI_ai (by decide), rI_ii hi, rI_ai (by decide)]; exact f0.i (by omega) i
            · rw [l3, rI_ii hi, rI_ai (by decide), rI_ai (by decide)]; exact f0.i (by omega) i
          · rcases l4 154 i with e | e
            · omega
            · rw [e]; exact (f0 154 (by omega)).2 i
      · exact ⟨-3, μ, wI μ 139 0 0, by rw [if_pos k0, if_pos k1, if_neg k2], by rw [if_pos k0, if_pos k1, if_neg k2], INV.same hV hR hT hA hG hC (Fr.rfl' _ _)⟩
    · exact ⟨-2, μ, wI μ 139 0 0, by rw [if_pos k0, if_neg k1], by rw [if_pos k0, if_neg k1], INV.same hV hR hT hA hG hC (Fr.rfl' _ _)⟩
  · exact ⟨-2, μ, wI μ 139 0 0, by rw [if_neg k0], by rw [if_neg k0], INV.same hV hR hT hA hG hC (Fr.rfl' _ _)⟩
def GOL (k : Nat) (sh : List Sh) (R : Rf) (x : Option (Int64 × Mu)) (y : Mu → Option (Int64 × Mu)) : Prop := ∃ r μ1 μ2, x = some (r, μ1) ∧ y μ1 = some (r, μ2) ∧ INV (k + 1) sh R μ2
def cutS (so : Nat) (v : Int64) : Int64 := if so = 0 then v.toInt32.toInt8.toInt32.toInt64 else if so = 1 then v.toInt32.toInt16.toInt32.toInt64 else if so = 2 then v.toInt32.toInt64 else v
theorem f_cut10 {n a so : Nat} {v : Int64} {μ : Mu} (h : rI μ a 2 = nI so) (hs : so < 4) : fX10_cut n a v μ = some (cutS so v) := by
  unfold fX10_cut cutS
  simp (disch := first | omega | decide) only [h, gd_true, bnd_some, bnd2_some, ix_n, ib_n, add_l, add_r, mul_l, mul_r, nI_add, sub_r, nI_leI, nI_ltI, nI_eq, le_l, le_r, lt_l, lt_r, eq_l, eq_r, eq_m, if_true, if_false, not_false_eq_true, not_true_eq_false]
  split
  · rfl
  · split
    · rfl
    · split <;> rfl
theorem f_cut12 {n so : Nat} {v : Int64} {μ : Mu} (hs : so < 4) : fX12_cut n v (nI so) μ = some (cutS so v) := by
  unfold fX12_cut cutS
  simp (disch := first | omega | decide) only [gd_true, bnd_some, bnd2_some, ix_n, ib_n, add_l, add_r, mul_l, mul_r, nI_add, sub_r, nI_leI, nI_ltI, nI_eq, le_l, le_r, lt_l, lt_r, eq_l, eq_r, eq_m, if_true, if_false, not_false_eq_true, not_true_eq_false]
  split
  · rfl
  · split
    · rfl
    · split <;> rfl
theorem wi_okN {x : Int32} {N : Nat} (hN : N < 2147483648) : decide ((0 : Int32) ≤ x ∧ x ≤ nI N - 1) = okN x N := by
  unfold okN
  have h2 : (nI N - 1).toInt = (N : Int) - 1 := by
    by_cases h : N = 0
    · subst h; decide
    · rw [show (1 : Int32) = nI 1 from rfl, pk_sub (by omega), nI_toInt (by omega)]; omega
  have : (0 ≤ x ∧ x ≤ nI N - 1) ↔ (0 ≤ x ∧ x < nI N) := by
    simp only [Int32.le_iff_toInt_le, Int32.lt_iff_toInt_lt, nI_toInt (show N < 2 ^ 31 by omega), h2]
    omega
  simp only [this]
theorem w11N {n N : Nat} {x : Int32} {μ : Mu} (hN : N < 2147483648) : fX11_within n x 0 (nI N - 1) μ = some (if okN x N = true then 1 else 0) := by
  rw [← wi_okN hN]
  unfold fX11_within
  by_cases h1 : x < 0
  · rw [if_pos h1, if_neg (fun e => absurd h1 (Int32.not_lt.mpr (of_decide_eq_true e).1))]
  · rw [if_neg h1]
    by_cases h2 : nI N - 1 < x
    · rw [if_pos h2, if_neg (fun e => absurd h2 (Int32.not_lt.mpr (of_decide_eq_true e).2))]
    · rw [if_neg h2, if_pos (decide_eq_true ⟨Int32.not_lt.mp h1, Int32.not_lt.mp h2⟩)]
theorem w12N {n N : Nat} {x : Int32} {μ : Mu} (hN : N < 2147483648) : fX12_within n x.toInt64 0 (nI N - 1).toInt64 μ = some (if okN x N = true then 1 else 0) := by
  rw [f_within, okN_l (by omega)]
theorem m_write {n k : Nat} {sh : List Sh} {R : Rf} {μ : Mu} {x y : Int32} {v : Int64} (hI : INV k sh R μ) : GOL k sh R (fX11_write n x y v μ) (fX12_write n x y v) := by
  obtain ⟨s, t, m, h, hV, hC, hR, hT, hA, hG⟩ := hI
  have i2 := INV.same hV hR hT hA hG hC (Fr.rfl' _ _)
  unfold GOL fX11_write fX12_write
  rw [CP.isT, bnd_some, ifb]
  by_cases k0 : okN x 4 = true
  · obtain ⟨T, hT4, rfl⟩ := okN_of k0 (by omega)
    rw [if_pos k0]
    simp (disch := first | omega | decide) only [gd_true, bnd_some, bnd2_some, ix_n, ib_n, add_l, add_r, mul_l, mul_r, nI_add, sub_r, nI_leI, nI_ltI, nI_eq, le_l, le_r, lt_l, lt_r, eq_l, eq_r, eq_m, if_true, if_false, not_false_eq_true, not_true_eq_false]
    rcases hT T hT4 with ⟨a1, a2⟩ | ⟨N, so, N1, N2, N3, N4, N5, N6, N7⟩
    · refine ⟨-6, μ, wI μ 139 0 0, ?_, ?_, i2⟩
      · rw [f_isMissing a1, bnd_some]; rfl
      · rw [f_noTray (μ := wI μ 139 0 0) hT4 (show rI (wI μ 139 0 0) 152 T = -1 from a2), bnd_some]; rfl
    · have em : ¬ nI N = -1 := nI_m1 (by omega)
      have es : ¬ nI so = -1 := nI_m1 (by omega)
      rw [f_isMissing N3, bnd_some, if_neg em, if_pos rfl, N3, w11N (by omega), bnd_some, ifb]
      have rn : ∀ μ1 : Mu, rI μ1 152 T = nI so → fX12_noTray n (nI T) (wI μ1 139 0 0) = some 0 := fun μ1 e => by rw [f_noTray (v := nI so) hT4 (by rw [rI_ai (by omega)]; exact e), if_neg es]
      by_cases c : okN y N = true
      · obtain ⟨j, hj, rfl⟩ := okN_of c (by omega)
        rw [if_pos c]
        generalize hm1 : wL μ (129 + 2 * T + 1) j (cutS so v) = m1
        have f0 : Fr (fun x => x = 129 + 2 * T + 1) μ m1 := by rw [← hm1]; exact (Fr.rfl' (fun x => x = 129 + 2 * T + 1) μ).wl rfl _ _
        have f1 : Fr PCt μ m1 := f0.mono fun x q => by unfold PCt; omega
        generalize hm2 : wL (wI m1 139 0 0) 154 (40 * T + j) (cutS so v) = m2
        have fR0 : Fg (fun a i => (a = 139 ∧ i = 0) ∨ (152 ≤ a ∧ a ≤ 154)) m1 m2 := by
          rw [← hm2]; exact ((Fg.rfl' _ _).w (Or.inl ⟨rfl, rfl⟩) _).wl (j := 0) (Or.inr ⟨by omega, by omega⟩) _ _
        have fR : Fg PQt m1 m2 := fR0.mono fun a i q => by
          rcases q with q | q
          · exact Or.inl (Or.inl ⟨q.1, by omega, by omega, by omega⟩)
          · exact Or.inr q
        have hR2 := (hR.fr hV f0 ⟨by omega, by omega⟩).fg hV fR0 (fun i q => by omega) (fun q => by omega)
        have i2 : ∀ a i, a ≠ 139 → rI m2 a i = rI μ a i := fun a i ha => by rw [← hm2, ← hm1]; exact rI_ai ha
        have l2 : ∀ a i, rL m2 a i = if a = 154 ∧ i = 40 * T + j then cutS so v else if a = 129 + 2 * T + 1 ∧ i = j then cutS so v else rL μ a i := fun a i => by
          rw [← hm2, rL_wL, ← hm1]
          congr 1
          exact rL_wL _ _ _ _ _ _
        refine ⟨cutS so v, m1, m2, ?_, ?_, INV.step2 ?_ hA hG (hC.fr f0 (fun x hx q => by omega) (hC.2.1.fr f0 (fun k h1 h2 q => by omega))) f1 hR2 fR (hV.mono (by omega))⟩
        · unfold fX10_put
          rw [f_cut10 N4 N2, bnd_some]
          simp (disch := first | omega | decide) only [gd_true, bnd_some, bnd2_some, ix_n, ib_n, add_l, add_r, mul_l, mul_r, nI_add, sub_r, nI_leI, nI_ltI, nI_eq, le_l, le_r, lt_l, lt_r, eq_l, eq_r, eq_m, if_true, if_false, not_false_eq_true, not_true_eq_false, hm1]
          rw [← hm1, rL_wL, if_pos ⟨rfl, rfl⟩]
        · have b2 : rI m1 152 T = nI so := by rw [f0.i (by omega)]; exact N5
          have b3 : rI (wI m1 139 0 0) 153 T = nI N := by rw [rI_ai (by omega), f0.i (by omega)]; exact N6
          have b4 : rI (wI m1 139 0 0) 152 T = nI so := by rw [rI_ai (by omega)]; exact b2
          rw [rn m1 b2, bnd_some, if_pos rfl, b3, w12N (by omega), bnd_some, ifb, if_pos c, b4, f_cut12 N2, bnd_some]
          simp (disch := first | omega | decide) only [gd_true, bnd_some, bnd2_some, ix_n, ib_n, add_l, add_r, mul_l, mul_r, nI_add, sub_r, nI_leI, nI_ltI, nI_eq, le_l, le_r, lt_l, lt_r, eq_l, eq_r, eq_m, if_true, if_false, not_false_eq_true, not_true_eq_false, hm2]
          rw [l2, if_pos ⟨rfl, rfl⟩]
        · refine hT.upd (T := T) (N := N) (so := so) N1 N2 (by rw [i2 _ _ (by omega)]; exact N3) (by rw [i2 _ _ (by omega)]; exact N4) (by rw [i2 _ _ (by omega)]; exact N5) (by rw [i2 _ _ (by omega)]; exact N6) (fun k hk => ?_) (fun x h1 h2 h3 h4 => ⟨fun i => i2 _ _ (by omega), fun i => ?_⟩) (fun i hi => ⟨i2 _ _ (by omega), i2 _ _ (by omega)⟩) (fun i hi => ?_)
          · rw [l2, l2, if_neg (by omega)]
            by_cases e : k = j
            · rw [if_pos ⟨rfl, e⟩, if_pos ⟨rfl, by omega⟩]
            · rw [if_neg (by omega), if_neg (by omega), if_neg (by omega)]
              exact N7 k hk
          · rw [l2, if_neg (by omega), if_neg (by omega)]
          · rw [l2, if_neg (by omega), if_neg (by omega)]
      · refine ⟨-7, μ, wI μ 139 0 0, by rw [if_neg c], ?_, i2⟩
        have b3 : rI (wI μ 139 0 0) 153 T = nI N := by rw [rI_ai (by omega)]; exact N6
        rw [rn μ N5, bnd_some, if_pos rfl, b3, w12N (by omega), bnd_some, ifb, if_neg c]
  · refine ⟨-2, μ, wI μ 139 0 0, by rw [if_neg k0], ?_, i2⟩
    rw [f_noTrayN k0, bnd_some]; rfl
theorem snd_rng {s : SD} {b h g : Nat} (hb : b < 6) (hg : g < 2) : ∃ j, j < 100 ∧ soundS s b h g = nI j := by
  unfold soundS
  by_cases c : sLn s 0 = 0
  · rw [if_pos c]; exact ⟨10 * b + g, by omega, rfl⟩
  · rw [if_neg c]
    unfold clamp99
    generalize lawV s 0 (envS h g 0 b 0 0) = v
    by_cases c1 : v < 0
    · rw [if_pos c1]; exact ⟨0, by omega, rfl⟩
    · rw [if_neg c1]
      by_cases c2 : 99 < v
      · rw [if_pos c2]; exact ⟨99, by omega, rfl⟩
      · rw [if_neg c2]
        obtain ⟨j, hj, rfl⟩ := nI_of c1
        refine ⟨j, ?_, rfl⟩
        have : j ≤ 99 := Nat.not_lt.mp fun q => c2 ((lt_l (k := 99) (by decide) (by omega)).mpr q)
        omega
theorem cut_small : ∀ so, so < 4 → ∀ j, j < 100 → cutS so (nI j).toInt64 = (nI j).toInt64 := by decide +kernel
theorem m_lists {n k : Nat} {sh : List Sh} {R : Rf} {μ : Mu} {x y : Int32} (hI : INV k sh R μ) (hk : k < 512) (hn : 5000 < n) : GO k sh R (fX11_lists n x y μ) (fX12_lists n x y) := by
  obtain ⟨s, t, m, h, hV, hC, hR, hT, hA, hG⟩ := hI
  have hcp := INV.cp hk hV hC
  have hrp := INV.rp hk hV hR.th
  have hS := hV.1.2.2.2.1
  have hB := hV.1.1.2
  have i2 := INV.same hV hR hT hA hG hC (Fr.rfl' _ _)
  unfold GO fX11_lists fX12_lists
  have e5 : ∀ m : Mu, fX12_within n x.toInt64 0 3 m = some (if okN x 4 = true then 1 else 0) := fun m => RP.isT
  simp only [CP.isT, e5, bnd_some, ifb]
  by_cases k0 : okN x 4 = true
  · obtain ⟨T, hT4, rfl⟩ := okN_of k0 (by omega)
    rw [if_pos k0, hcp.isS, bnd_some, ifb]
    by_cases k1 : okN y (sS s) = true
    · obtain ⟨sh', hsh, rfl⟩ := okN_of k1 (by omega)
      rw [if_pos k1]
      simp (disch := first | omega | decide) only [gd_true, bnd_some, bnd2_some, ix_n, ib_n, add_l, add_r, mul_l, mul_r, nI_add, sub_r, nI_leI, nI_ltI, nI_eq, le_l, le_r, lt_l, lt_r, eq_l, eq_r, eq_m, if_true, if_false, not_false_eq_true, not_true_eq_false]
      rcases hT T hT4 with ⟨a1, a2⟩ | ⟨N, so, N1, N2, N3, N4, N5, N6, N7⟩
      · refine ⟨-6, μ, wI μ 139 0 0, ?_, ?_, i2⟩
        · rw [f_isMissing a1, bnd_some]; rfl
        · rw [if_pos k0, hrp.isS, bnd_some, ifb, if_pos k1, f_noTray (μ := wI μ 139 0 0) hT4 (show rI (wI μ 139 0 0) 152 T = -1 from a2), bnd_some]; rfl
      · have em : ¬ nI N = -1 := nI_m1 (by omega)
        have es : ¬ nI so = -1 := nI_m1 (by omega)
        have hbe : s 6 sh' < sB s := (hV.1.2.2.2.2.2.2.1 sh' hsh).1
        rw [f_isMissing N3, bnd_some, if_neg em, if_pos rfl, N3]
        -- the class
        have lc : Rn (lp n (sX11_lists_47 n (nI T) (nI sh') (nI N)) (0, μ)) (fun q => (∀ k, k < N → rL q (129 + 2 * T + 1) k = (snS s t (s 6 sh') k).toInt64) ∧ (∀ i, rI q (129 + 2 * T) i = rI μ (129 + 2 * T) i) ∧ RU q s ∧ Fr (fun x => QC x ∨ x = 129 + 2 * T + 1) μ q) := by
          refine Rn.l N (fun i q => q.1 = nI i ∧ (∀ k, k < i → rL q.2 (129 + 2 * T + 1) k = (snS s t (s 6 sh') k).toInt64) ∧ RU q.2 s ∧ Fr (fun x => QC x ∨ x = 129 + 2 * T + 1) μ q.2) _ (by omega) ⟨rfl, fun k hk => absurd hk (Nat.not_lt_zero _), hC.2.1, Fr.rfl' _ _⟩ ?_ ?_
          · rintro i ⟨x, q⟩ hi ⟨f1, f2, f3, f4⟩
            have f1 : x = nI i := f1
            subst f1
            have f2 : ∀ k, k < i → rL q (129 + 2 * T + 1) k = (snS s t (s 6 sh') k).toInt64 := f2
            have f4 : Fr (fun x => QC x ∨ x = 129 + 2 * T + 1) μ q := f4
            have oc : ∀ x, (2 ≤ x ∧ x ≤ 12) ∨ (34 ≤ x ∧ x ≤ 40) → ¬ (fun x => QC x ∨ x = 129 + 2 * T + 1) x := fun x hx z => by
              rcases z with z | z
              · unfold QC at z; omega
              · omega
            have cp : CP q s t := ⟨hC.1.fr f4 (fun k hk => oc _ (by omega)), hV.1, f3, hC.2.2.1.fr f4 (fun k hk => oc _ (by omega)), hcp.2.2.2.2⟩
            obtain ⟨m1, g1, g2⟩ := c_sound (n := n) (b := s 6 sh') (k := i) cp hbe (by omega) (by omega)
            have o7 : rI q 7 sh' = nI (s 6 sh') := (cp.1.2.2.2.2.2.2.2.2.2.2.1 sh' hsh).1
            have o4 : rI m1 (129 + 2 * T) 2 = nI so := by
              rw [g2.1.i (fun z => by unfold QC at z; omega), f4.i (fun z => by
                rcases z with z | z
                · unfold QC at z; omega
                · omega)]; exact N4
            obtain ⟨j, hj, ej⟩ := snd_rng (s := s) (b := s 6 sh') (h := tH t + i) (g := gk (tG t) i) (by omega) (gk_lt _ _)
            have ec : cutS so (snS s t (s 6 sh') i).toInt64 = (snS s t (s 6 sh') i).toInt64 := by
              show cutS so (soundS s (s 6 sh') (tH t + i) (gk (tG t) i)).toInt64 = (soundS s (s 6 sh') (tH t + i) (gk (tG t) i)).toInt64
              rw [ej]; exact cut_small so N2 j hj
            simp (disch := first | omega | decide) only [sX11_lists_47, gd_true, bnd_some, bnd2_some, ix_n, ib_n, add_l, add_r, mul_l, mul_r, nI_add, sub_r, nI_leI, nI_ltI, nI_eq, le_l, le_r, lt_l, lt_r, eq_l, eq_r, eq_m, if_true, if_false, not_false_eq_true, not_true_eq_false, show ¬ N ≤ i by omega, o7, g1, fX10_put, f_cut10 o4 N2, ec]
            refine Rn.so ⟨rfl, fun k hk => ?_, g2.2, (f4.tr (g2.1.mono fun x z => Or.inl z)).wl (Or.inr rfl) _ _⟩
            show rL (wL m1 (129 + 2 * T + 1) i _) (129 + 2 * T + 1) k = _
            rw [rL_wL]
            by_cases e : k = i
            · rw [if_pos ⟨rfl, e⟩, e]
            · rw [if_neg (fun z => e z.2), (g2.1 _ (fun z => by unfold QC at z; omega)).2]; exact f2 k (by omega)
          · rintro ⟨x, q⟩ ⟨f1, f2, f3, f4⟩
            have f1 : x = nI N := f1
            subst f1
            refine Rn.e (r := q) (ite_le rfl) ⟨f2, fun i => ?_, f3, f4⟩
            exact (f4 _ (fun z => by
              rcases z with z | z
              · unfold QC at z; omega
              · omega)).1 i
        obtain ⟨m1, g1, g2, g3, g4, g5⟩ := lc
        have f1 : Fr PCt μ m1 := g5.mono fun x q => by
          rcases q with q | q
          · exact Or.inl (QC_PC q)
          · unfold PCt; omega
        have hC1 := hC.fr g5 (fun x hx q => by
          rcases q with q | q
          · unfold QC at q; omega
          · omega) g4
        have po : ∀ x, 139 ≤ x → ¬ (fun x => QC x ∨ x = 129 + 2 * T + 1) x := fun x hx q => by
          rcases q with q | q
          · unfold QC at q; omega
          · omega
        have hR1 := (hR.fr hV g5 ⟨po _ (by omega), po _ (by omega)⟩).th
        have rp1 := INV.rp hk hV hR1
        have b2 : rI (wI m1 139 0 0) 152 T = nI so := by rw [rI_ai (by omega), g5.i (po _ (by omega))]; exact N5
        have b3 : rI (wI m1 139 0 0) 153 T = nI N := by rw [rI_ai (by omega), g5.i (po _ (by omega))]; exact N6
        -- the reference
        have lr : Rn (lp n (sX12_lists_44 n (nI T) (nI sh')) (0, wI m1 139 0 0)) (fun q => (∀ k, k < N → rL q 154 (40 * T + k) = (snS s t (s 6 sh') k).toInt64) ∧ Fg (fun a i => QR a i ∨ a = 154) (wI m1 139 0 0) q ∧ ∀ i, i < 40 * T ∨ 40 * T + 40 ≤ i → rL q 154 i = rL m1 154 i) := by
          refine Rn.l N (fun i q => q.1 = nI i ∧ (∀ k, k < i → rL q.2 154 (40 * T + k) = (snS s t (s 6 sh') k).toInt64) ∧ Fg (fun a i => QR a i ∨ a = 154) (wI m1 139 0 0) q.2 ∧ ∀ i, i < 40 * T ∨ 40 * T + 40 ≤ i → rL q.2 154 i = rL m1 154 i) _ (by omega) ⟨rfl, fun k hk => absurd hk (Nat.not_lt_zero _), Fg.rfl' _ _, fun _ _ => rfl⟩ ?_ ?_
          · rintro i ⟨x, q⟩ hi ⟨f1, f2, f3, f4⟩
            have f1 : x = nI i := f1
            subst f1
            have f2 : ∀ k, k < i → rL q 154 (40 * T + k) = (snS s t (s 6 sh') k).toInt64 := f2
            have f3 : Fg (fun a i => QR a i ∨ a = 154) (wI m1 139 0 0) q := f3
            have f4 : ∀ i, i < 40 * T ∨ 40 * T + 40 ≤ i → rL q 154 i = rL m1 154 i := f4
            have o0 : ∀ a i, (a = 140 ∨ a = 153 ∨ (a = 139 ∧ i = 19)) → ¬ (fun a i => QR a i ∨ a = 154) a i := fun a i ha z => by
              rcases z with z | z
              · unfold QR at z; omega
              · omega
            have rq : RP q s t := by
              obtain ⟨r1, r2, r3, r4, r5, r6⟩ := rp1
              exact ⟨r1.congr r2 fun i _ => f3.i (o0 _ _ (by omega)), r2, RB.congr r3 r4 r2 fun i _ => f3.i (o0 _ _ (by omega)), r4, r5, by rw [f3.i (o0 _ _ (by omega))]; exact r6⟩
            obtain ⟨m2, l1, l2⟩ := r_sound (n := n) (b := s 6 sh') (k := i) rq hbe (by omega) (by omega)
            have o6 : rI q 140 (56 + sh') = nI (s 6 sh') := rq.1.2.2.2.2.2.2.2.2 sh' hsh
            have o3 : rI q 153 T = nI N := by rw [f3.i (o0 _ _ (by omega))]; exact b3
            simp (disch := first | omega | decide) only [sX12_lists_44, gd_true, bnd_some, bnd2_some, ix_n, ib_n, add_l, add_r, mul_l, mul_r, nI_add, sub_r, nI_leI, nI_ltI, nI_eq, le_l, le_r, lt_l, lt_r, eq_l, eq_r, eq_m, if_true, if_false, not_false_eq_true, not_true_eq_false, o3, show ¬ N ≤ i by omega, o6, l1]
            have l154 : ∀ j, rL m2 154 j = rL q 154 j := fun j => l2.2 _ _ (by decide) (fun j z => by unfold QR at z; omega)
            refine Rn.so ⟨rfl, fun k hk => ?_, (f3.tr (l2.mono fun a i z => Or.inl z)).wl (j := 0) (Or.inr rfl) _ _, fun j hj => ?_⟩
            · show rL (wL m2 154 (40 * T + i) _) 154 (40 * T + k) = _
              rw [rL_wL]
              by_cases e : k = i
              · rw [if_pos ⟨rfl, by omega⟩, e]
              · rw [if_neg (fun z => by omega), l154]; exact f2 k (by omega)
            · show rL (wL m2 154 (40 * T + i) _) 154 j = _
              rw [rL_wL, if_neg (by omega), l154]; exact f4 j hj
          · rintro ⟨x, q⟩ ⟨f1, f2, f3, f4⟩
            have f1 : x = nI N := f1
            have f3 : Fg (fun a i => QR a i ∨ a = 154) (wI m1 139 0 0) q := f3
            subst f1
            refine Rn.e (r := q) ?_ ⟨f2, f3, f4⟩
            show gd (ib (nI T) 4) (if rI q 153 (ix (nI T)) ≤ nI N then some (Sum.inr q) else _) = _
            rw [ib_n hT4 (by omega), gd_true, ix_n (by omega)]
            refine ite_le ?_
            rw [f3.i (fun z => by
              rcases z with z | z
              · unfold QR at z; omega
              · omega)]; exact b3
        obtain ⟨m2, l1, l2, l3, l4⟩ := lr
        have q3 : ∀ a i, 152 ≤ a → a ≤ 153 ∨ (a < 139) → rI m2 a i = rI (wI m1 139 0 0) a i := fun a i h1 h2 => l3.i (fun z => by
          rcases z with z | z
          · unfold QR at z; omega
          · omega)
        have q4 : ∀ a i, a < 139 → rI m2 a i = rI m1 a i := fun a i h1 => by
          rw [l3.i (fun z => by
            rcases z with z | z
            · unfold QR at z; omega
            · omega), rI_ai (by omega)]
        have q5 : ∀ a i, a < 139 → rL m2 a i = rL m1 a i := fun a i h1 => by
          rw [l3.2 _ _ (by omega) (fun j z => by
            rcases z with z | z
            · unfold QR at z; omega
            · omega)]; rfl
        have fR : Fg PQt m1 m2 := ((PQ.th m1).mono fun a i q => Or.inl q).tr (l3.mono fun a i q => by
          rcases q with q | q
          · refine Or.inl ?_
            unfold QR at q; unfold PQ; omega
          · exact Or.inr ⟨by omega, by omega⟩)
        have hR2 := hR1.fg hV l3 (fun i z => by
          rcases z with z | z
          · unfold QR at z; omega
          · omega) (fun z => by
          rcases z with z | z
          · unfold QR at z; omega
          · omega)
        refine ⟨nI N, m1, m2, ?_, ?_, INV.step2 ?_ hA hG hC1 f1 hR2 fR (hV.mono (by omega))⟩
        · rw [g1, bnd_some]
        · rw [if_pos k0, rp1.isS, bnd_some, ifb, if_pos k1, f_noTray hT4 b2, bnd_some, if_neg es, if_pos rfl, l1, bnd_some]
          show some (rI m2 153 T, m2) = _
          rw [q3 153 T (by omega) (by omega), b3]
        · refine hT.upd (T := T) (N := N) (so := so) N1 N2 (by rw [q4 _ _ (by omega), g3]; exact N3) (by rw [q4 _ _ (by omega), g3]; exact N4) (by rw [q3 _ _ (by omega) (by omega)]; exact b2) (by rw [q3 _ _ (by omega) (by omega)]; exact b3) (fun k hk => ?_) (fun x h1 h2 h3 h4 => ?_) (fun i hi => ?_) (fun i hi => ?_)
          · rw [q5 _ _ (by omega), g2 k hk, l2 k hk]
          · have hx := g5 x (fun z => by
              rcases z with z | z
              · unfold QC at z; omega
              · omega)
            exact ⟨fun i => by rw [q4 _ _ (by omega)]; exact hx.1 i, fun i => by rw [q5 _ _ (by omega)]; exact hx.2 i⟩
          · exact ⟨by rw [q3 _ _ (by omega) (by omega), rI_ai (by omega)]; exact g5.i (po _ (by omega)) i, by rw [q3 _ _ (by omega) (by omega), rI_ai (by omega)]; exact g5.i (po _ (by omega)) i⟩
          · rw [l4 i hi]; exact (g5 154 (po _ (by omega))).2 i
    · refine ⟨-2, μ, wI μ 139 0 0, by rw [if_neg k1], ?_, i2⟩
      rw [if_pos k0, hrp.isS, bnd_some, ifb, if_neg k1]
  · exact ⟨-2, μ, wI μ 139 0 0, by rw [if_neg k0], by rw [if_neg k0], i2⟩
