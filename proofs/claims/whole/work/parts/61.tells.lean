/-! deeds one behind the other -/
def dnS (s : SD) (vals : Nat → Int64) (t : ST) : Nat → ST
  | 0 => t
  | k + 1 => doV s (dnS s vals t k) (vals k)
def TlS (s : SD) (vals : Nat → Int64) (t : ST) (N d : Nat) : Prop := d ≤ N ∧ (∀ k, k < d → whyV s (dnS s vals t k) (vals k) = 0) ∧ (d < N → whyV s (dnS s vals t d) (vals d) ≠ 0)
theorem Tl_un {s : SD} {vals : Nat → Int64} {t : ST} {N d d' : Nat} (h : TlS s vals t N d) (h' : TlS s vals t N d') : d = d' := by
  rcases Nat.lt_trichotomy d d' with e | e | e
  · exact absurd (h'.2.1 d e) (h.2.2 (by have := h'.1; omega))
  · exact e
  · exact absurd (h.2.1 d' e) (h'.2.2 (by have := h.1; omega))
theorem Tl_TV {s : SD} {vals : Nat → Int64} {t : ST} (hv : SV s) (hV : TV s t) {d : Nat} (h : ∀ k, k < d → whyV s (dnS s vals t k) (vals k) = 0) : ∀ k, k ≤ d → TV s (dnS s vals t k) ∧ tH (dnS s vals t k) ≤ tH t + k
  | 0, _ => ⟨hV, Nat.le_refl _⟩
  | k + 1, hk => by
    obtain ⟨a, b⟩ := Tl_TV hv hV h k (by omega)
    obtain ⟨c, e⟩ := TV_do (v := vals k) hv a (h k (by omega))
    exact ⟨c, by show tH (doV s (dnS s vals t k) (vals k)) ≤ tH t + (k + 1); omega⟩
theorem nI_z {k : Nat} (h : k < 2147483648) : nI k = 0 ↔ k = 0 := eq_r (k := 0) (by decide) h
theorem whyV_le (s : SD) (t : ST) (v : Int64) : whyV s t v ≤ 2 := by
  unfold whyV whyN
  repeat' split
  all_goals omega
theorem f_attemptAll {n a b N : Nat} {vals : Nat → Int64} {μ : Mu} {s : SD} {t : ST} (ha : 34 ≤ a) (ha2 : a ≤ 41) (hb : 129 ≤ b) (hs : CS μ 2 s) (hv : SV s) (hr : RU μ s) (hV : TV s t) (hh : tH t < 10000000) (hn : 1000 < n) (ht : CB μ a s t) (hN : N ≤ 40) (b1 : rI μ b 1 = nI N) (b2 : ∀ k, k < N → rL μ (b + 1) k = vals k) : ∃ d μ', fX8_attemptAll n a b 2 μ = some (nI d, μ') ∧ TlS s vals t N d ∧ CB μ' a s (dnS s vals t d) ∧ RU μ' s ∧ Fr (PH a) μ μ' := by
  have outs : ∀ k, k ≤ 10 → ¬ PH a (2 + k) := fun k hk q => by unfold PH at q; omega
  have outb : ¬ PH a b := fun q => by unfold PH at q; omega
  have outb1 : ¬ PH a (b + 1) := fun q => by unfold PH at q; omega
  have key : Rn (lp n (sX8_attemptAll_3 n a b 2) (0, μ)) (fun r => ∃ d m, ((r = .inl (nI d, m) ∧ d < N) ∨ (r = .inr m ∧ d = N)) ∧ TlS s vals t N d ∧ CB m a s (dnS s vals t d) ∧ RU m s ∧ Fr (PH a) μ m) := by
    refine Rn.l N (fun i q => q.1 = nI i ∧ (∀ k, k < i → whyV s (dnS s vals t k) (vals k) = 0) ∧ CB q.2 a s (dnS s vals t i) ∧ RU q.2 s ∧ Fr (PH a) μ q.2) _ (by omega) ⟨rfl, fun k hk => absurd hk (Nat.not_lt_zero _), ht, hr, Fr.rfl' _ _⟩ ?_ ?_
    · rintro i ⟨x, m⟩ hi ⟨e1, e2, e3, e4, e5⟩
      have e1 : x = nI i := e1
      subst e1
      have e5 : Fr (PH a) μ m := e5
      obtain ⟨v1, v2⟩ := Tl_TV hv hV e2 i (Nat.le_refl _)
      have c1 : rI m b 1 = nI N := by rw [e5.i outb]; exact b1
      have c2 : rL m (b + 1) i = vals i := by rw [(e5 _ outb1).2]; exact b2 i hi
      obtain ⟨m', g1, g2, g3, g4⟩ := f_attempt (n := n) (v := vals i) ha (hs.fr e5 outs) hv e4 v1 (by omega) hn e3
      have hle := whyV_le s (dnS s vals t i) (vals i)
      simp (disch := first | omega | decide) only [sX8_attemptAll_3, gd_true, bnd_some, bnd2_some, ix_n, ib_n, add_l, add_r, mul_l, mul_r, nI_add, sub_r, nI_leI, nI_ltI, nI_eq, le_l, le_r, lt_l, lt_r, eq_l, eq_r, eq_m, if_true, if_false, not_false_eq_true, not_true_eq_false, c1, show ¬ N ≤ i by omega, c2, g1, nI_z]
      by_cases c : whyV s (dnS s vals t i) (vals i) = 0
      · rw [if_pos c]
        rw [if_pos c] at g2
        refine Rn.so ⟨rfl, fun k hk => ?_, g2, g3, e5.tr g4⟩
        by_cases e : k = i
        · rw [e]; exact c
        · exact e2 k (by omega)
      · rw [if_neg c]
        rw [if_neg c] at g2
        exact Rn.so ⟨i, m', Or.inl ⟨rfl, hi⟩, ⟨by omega, e2, fun _ => c⟩, g2, g3, e5.tr g4⟩
    · rintro ⟨x, m⟩ ⟨e1, e2, e3, e4, e5⟩
      have e1 : x = nI N := e1
      subst e1
      have e5 : Fr (PH a) μ m := e5
      have c1 : rI m b 1 = nI N := by rw [e5.i outb]; exact b1
      refine Rn.e (r := (Sum.inr m : (Int32 × Mu) ⊕ Mu)) ?_ ⟨N, m, Or.inr ⟨rfl, rfl⟩, ⟨Nat.le_refl _, e2, fun h => absurd h (Nat.lt_irrefl _)⟩, e3, e4, e5⟩
      show (if rI m b 1 ≤ nI N then some (Sum.inr (Sum.inr m)) else _) = _
      exact ite_le c1
  obtain ⟨r, h1, d, m, h2, h3, h4, h5, h6⟩ := key
  refine ⟨d, m, ?_, h3, h4, h5, h6⟩
  unfold fX8_attemptAll
  rw [h1, bnd_some]
  rcases h2 with ⟨rfl, _⟩ | ⟨rfl, rfl⟩
  · rfl
  · show some (rI m b 1, m) = _
    rw [h6.i outb, b1]
theorem RT_139 {m : Mu} {s : SD} {t : ST} {i : Nat} {v : Int32} (h : RT m s t) : RT (wI m 139 i v) s t := h
def PT : Nat → Nat → Prop := fun a i => PR a i ∨ (a = 139 ∧ i = 20)
theorem f_tells {n T N : Nat} {vals : Nat → Int64} {μ : Mu} {s : SD} {t : ST} (hs : RS μ s) (hv : SV s) (ht : RT μ s t) (hV : TV s t) (hx : rI μ 139 19 = 0) (hh : tH t < 10000000) (hn : 1000 < n) (hT : T < 4) (hN : N ≤ 40) (b1 : rI μ 153 T = nI N) (b2 : ∀ k, k < N → rL μ 154 (40 * T + k) = vals k) : ∃ d μ', fX12_tells n (nI T) μ = some (nI d, μ') ∧ TlS s vals t N d ∧ RT μ' s (dnS s vals t d) ∧ rI μ' 139 20 = nI (if d < N then whyV s (dnS s vals t d) (vals d) else 0) ∧ Fg PT μ μ' := by
  have o1 : ∀ i, i < 64 ∨ 1341 ≤ i ∧ i < 2242 → ¬ PT 140 i := fun i hi q => by unfold PT PR at q; omega
  have o2 : ¬ PT 139 19 := fun q => by unfold PT PR at q; omega
  have o3 : ∀ i, ¬ PT 153 i := fun i q => by unfold PT PR at q; omega
  have o4 : ∀ i, ¬ PT 154 i := fun i q => by unfold PT PR at q; omega
  have p20 : PT 139 20 := Or.inr ⟨rfl, rfl⟩
  have key : Rn (lp n (sX12_tells_7 n (nI T)) (0, wI μ 139 20 0)) (fun r => ∃ d m, ((r = .inl (nI d, m) ∧ d < N ∧ rI m 139 20 = nI (whyV s (dnS s vals t d) (vals d))) ∨ (r = .inr m ∧ d = N ∧ rI m 139 20 = 0)) ∧ TlS s vals t N d ∧ RT m s (dnS s vals t d) ∧ Fg PT μ m) := by
    refine Rn.l N (fun i q => q.1 = nI i ∧ (∀ k, k < i → whyV s (dnS s vals t k) (vals k) = 0) ∧ RT q.2 s (dnS s vals t i) ∧ rI q.2 139 20 = 0 ∧ Fg PT μ q.2) _ (by omega) ⟨rfl, fun k hk => absurd hk (Nat.not_lt_zero _), RT_139 (i := 20) (v := 0) ht, rI_same _ _ _ _, (Fg.rfl' _ _).w p20 0⟩ ?_ ?_
    · rintro i ⟨x, m⟩ hi ⟨e1, e2, e3, e4, e5⟩
      have e1 : x = nI i := e1
      subst e1
      have e5 : Fg PT μ m := e5
      have e3 : RT m s (dnS s vals t i) := e3
      obtain ⟨v1, v2⟩ := Tl_TV hv hV e2 i (Nat.le_refl _)
      have c1 : rI m 153 T = nI N := by rw [e5.i (o3 T)]; exact b1
      have c2 : rL m 154 (40 * T + i) = vals i := by rw [e5.2 _ _ (by decide) o4]; exact b2 i hi
      have hS := hs.fg hv e5 o1
      have w1 := f_whyNot (n := n) (v := vals i) hS hv e3 v1
      have hle := whyV_le s (dnS s vals t i) (vals i)
      have e5' := e5.w p20 (nI (whyV s (dnS s vals t i) (vals i)))
      have e3' : RT (wI m 139 20 (nI (whyV s (dnS s vals t i) (vals i)))) s (dnS s vals t i) := RT_139 e3
      simp (disch := first | omega | decide) only [sX12_tells_7, gd_true, bnd_some, bnd2_some, ix_n, ib_n, add_l, add_r, mul_l, mul_r, nI_add, sub_r, nI_leI, nI_ltI, nI_eq, le_l, le_r, lt_l, lt_r, eq_l, eq_r, eq_m, if_true, if_false, not_false_eq_true, not_true_eq_false, c1, show ¬ N ≤ i by omega, c2, w1, rI_same, nI_z, show ∀ (v : Int32) (k : Nat), rL (wI m 139 20 v) 154 k = rL m 154 k from fun _ _ => rfl]
      by_cases c : whyV s (dnS s vals t i) (vals i) = 0
      · rw [if_pos c]
        obtain ⟨m', g1, g2, g3⟩ := f_does (n := n) (v := vals i) (hs.fg hv e5' o1) hv e3' v1 (by rw [e5'.i o2]; exact hx) (by omega) hn c
        rw [g1, bnd_some]
        refine Rn.so ⟨rfl, fun k hk => ?_, g2, ?_, e5'.tr (g3.mono fun _ _ q => Or.inl q)⟩
        · by_cases e : k = i
          · rw [e]; exact c
          · exact e2 k (by omega)
        · show rI m' 139 20 = 0
          rw [g3.i (fun q => by unfold PR at q; omega), rI_same, c]; rfl
      · rw [if_neg c]
        exact Rn.so ⟨i, _, Or.inl ⟨rfl, hi, rI_same _ _ _ _⟩, ⟨by omega, e2, fun _ => c⟩, e3', e5'⟩
    · rintro ⟨x, m⟩ ⟨e1, e2, e3, e4, e5⟩
      have e1 : x = nI N := e1
      subst e1
      have e5 : Fg PT μ m := e5
      have c1 : rI m 153 T = nI N := by rw [e5.i (o3 T)]; exact b1
      refine Rn.e (r := (Sum.inr m : (Int32 × Mu) ⊕ Mu)) ?_ ⟨N, m, Or.inr ⟨rfl, rfl, e4⟩, ⟨Nat.le_refl _, e2, fun h => absurd h (Nat.lt_irrefl _)⟩, e3, e5⟩
      show gd (ib (nI T) 4) (if rI m 153 (ix (nI T)) ≤ nI N then some (Sum.inr (Sum.inr m)) else _) = _
      rw [ib_n hT (by omega), gd_true, ix_n (by omega)]
      exact ite_le c1
  obtain ⟨r, h1, d, m, h2, h3, h4, h5⟩ := key
  refine ⟨d, m, ?_, h3, h4, ?_, h5⟩
  · unfold fX12_tells
    rw [h1, bnd_some]
    rcases h2 with ⟨rfl, _⟩ | ⟨rfl, rfl, _⟩
    · rfl
    · show gd (ib (nI T) 4) (some (rI m 153 (ix (nI T)), m)) = _
      rw [ib_n hT (by omega), gd_true, ix_n (by omega), h5.i (o3 T), b1]
  · rcases h2 with ⟨_, q1, q2⟩ | ⟨_, q1, q2⟩
    · rw [if_pos q1]; exact q2
    · rw [if_neg (by omega)]; exact q2
/-! draws -/
def nxS (x : Int32) : Int32 := (1103515245 * x) + 12345
def dvS (x : Int32) : Nat := (ushr (nxS x) 16).toInt.toNat
theorem ushr16 (x : Int32) : ushr x 16 = nI (x.toUInt32.toNat / 65536) := by
  refine b_ext fun i hi => ?_
  have h := b_ushr 16 (by omega) x i
  have h : bt (ushr x 16) i = bt x (16 + i) := h
  rw [h, b_nI _ _ hi]
  show x.toBitVec.getLsbD (16 + i) = _
  rw [show (65536 : Nat) = 2 ^ 16 by decide, Nat.testBit_div_two_pow]
  rw [Nat.add_comm i 16]
  rfl
theorem dv_eq (x : Int32) : ushr (nxS x) 16 = nI (dvS x) ∧ dvS x < 65536 := by
  have h := ushr16 (nxS x)
  have hl : (nxS x).toUInt32.toNat < 4294967296 := UInt32.toNat_lt _
  have hl2 : (nxS x).toUInt32.toNat / 65536 < 65536 := by omega
  have e : dvS x = (nxS x).toUInt32.toNat / 65536 := by
    unfold dvS
    rw [h, nI_toInt (by omega)]; rfl
  rw [e]
  exact ⟨h, hl2⟩
def d1S (t : ST) : ST := seedS t (nxS (tX t))
def drwT (s : SD) (t : ST) : ST := if dvS (tX t) % 5 < 2 then d1S t else if dvS (tX t) % 5 = 3 then (if sS s = 0 ∨ sP s = 0 then d1S t else d1S (d1S (d1S t))) else d1S (d1S t)
def drwV (s : SD) (t : ST) : Int64 := if dvS (tX t) % 5 < 2 then -1 else if dvS (tX t) % 5 = 2 then (nI (dvS (tX (d1S t)) % sB s)).toInt64 else if dvS (tX t) % 5 = 3 then (if sS s = 0 ∨ sP s = 0 then -9 else (nI (100 + 100 * (dvS (tX (d1S t)) % sS s) + dvS (tX (d1S (d1S t))) % sP s)).toInt64) else (nI (2000 + dvS (tX (d1S t)) % 6)).toInt64
theorem TV_seed {s : SD} {t : ST} {x : Int32} (h : TV s t) : TV s (seedS t x) := ⟨h.1, h.2.1, h.2.2.1, h.2.2.2⟩
theorem tH_seed {t : ST} {x : Int32} : tH (seedS t x) = tH t := rfl
theorem TV_d1 {s : SD} {t : ST} (h : TV s t) : TV s (d1S t) := TV_seed h
theorem tH_d1 {t : ST} : tH (d1S t) = tH t := tH_seed
theorem TV_drw {s : SD} {t : ST} (h : TV s t) : TV s (drwT s t) := by
  unfold drwT
  split
  · exact TV_d1 h
  · split
    · split
      · exact TV_d1 h
      · exact TV_d1 (TV_d1 (TV_d1 h))
    · exact TV_d1 (TV_d1 h)
theorem tH_drw {s : SD} {t : ST} : tH (drwT s t) = tH t := by
  unfold drwT
  split
  · exact tH_d1
  · split
    · split
      · exact tH_d1
      · rw [tH_d1, tH_d1, tH_d1]
    · rw [tH_d1, tH_d1]
def dayB (s : SD) (t : ST) : Bool := decide (whyV s (drwT s t) (drwV s t) = 0)
def dayT (s : SD) (t : ST) : ST := if whyV s (drwT s t) (drwV s t) = 0 then doV s (drwT s t) (drwV s t) else drwT s t
theorem f_draw12 {n k : Nat} {μ : Mu} {s : SD} {t : ST} (ht : RT μ s t) (h0 : 0 < k) (hk : k < 2147483648) : ∃ μ', fX12_draw n (nI k) μ = some (nI (dvS (tX t) % k), μ') ∧ RT μ' s (d1S t) ∧ Fg PR μ μ' := by
  obtain ⟨d1, d2⟩ := dv_eq (tX t)
  have a2 : rI μ 140 66 = tX t := ht.2.2.1
  refine ⟨wI μ 140 66 (nxS (tX t)), ?_, RT_seed ht _, (Fg.rfl' _ _).w (Or.inl ⟨rfl, by omega, by omega⟩) _⟩
  unfold fX12_draw
  rw [a2, rI_same]
  show gd (decide (¬ nI k = 0)) (some (jrem (ushr (nxS (tX t)) 16) (nI k), _)) = _
  rw [d1, jrem_n (by omega) h0 hk, decide_eq_true (show ¬ nI k = 0 from fun e => by have := (nI_z hk).mp e; omega)]
  rfl
set_option maxHeartbeats 1000000 in
theorem f_drawn {n : Nat} {μ : Mu} {s : SD} {t : ST} (hs : RS μ s) (hv : SV s) (ht : RT μ s t) : ∃ x μ', fX12_drawn n μ = some (x, μ') ∧ x.toInt64 = drwV s t ∧ RT μ' s (drwT s t) ∧ Fg PR μ μ' := by
  have hB := hv.1
  have hS := hv.2.2.2.1
  have hP := hv.2.2.1
  obtain ⟨m1, g1, g2, g3⟩ := f_draw12 (n := n) (k := 5) ht (by omega) (by omega)
  have g1 : fX12_draw n 5 μ = some (nI (dvS (tX t) % 5), m1) := g1
  have ro : ∀ i, i < 64 → ¬ PR 140 i := fun i hi q => by unfold PR at q; omega
  have r1 : rI m1 140 1 = nI (sB s) := by rw [g3.i (ro 1 (by omega))]; exact hs.2.1
  have r3 : rI m1 140 3 = nI (sP s) := by rw [g3.i (ro 3 (by omega))]; exact hs.2.2.2.1
  have r4 : rI m1 140 4 = nI (sS s) := by rw [g3.i (ro 4 (by omega))]; exact hs.2.2.2.2.1
  have hm5 : dvS (tX t) % 5 < 5 := Nat.mod_lt _ (by omega)
  unfold fX12_drawn drwV drwT
  rw [g1, bnd2_some]
  generalize hd : dvS (tX t) % 5 = d at hm5 ⊢
  by_cases c1 : d < 2
  · rw [if_neg (fun e => by have : 2 ≤ d := (le_l (k := 2) (by decide) (by omega)).mp e; omega), if_pos c1, if_pos c1]
    exact ⟨-1, m1, rfl, by decide, g2, g3⟩
  rw [if_pos ((le_l (k := 2) (by decide) (by omega)).mpr (show 2 ≤ d by omega)), if_neg c1, if_neg c1]
  by_cases c2 : d = 2
  · obtain ⟨m2, k1, k2, k3⟩ := f_draw12 (n := n) (k := sB s) g2 (by omega) (by omega)
    subst c2
    rw [if_pos (by decide), if_pos rfl, if_neg (by decide), r1, k1, bnd2_some]
    exact ⟨_, m2, rfl, rfl, k2, g3.tr k3⟩
  rw [if_neg (fun e => c2 ((eq_r (k := 2) (by decide) (by omega)).mp e)), if_neg c2]
  by_cases c3 : d = 4
  · obtain ⟨m2, k1, k2, k3⟩ := f_draw12 (n := n) (k := 6) g2 (by omega) (by omega)
    have k1 : fX12_draw n 6 m1 = some (nI (dvS (tX (d1S t)) % 6), m2) := k1
    subst c3
    rw [if_pos (by decide), if_neg (by decide), if_neg (by decide), k1, bnd2_some]
    refine ⟨_, m2, rfl, ?_, k2, g3.tr k3⟩
    rw [show (2000 : Int32) + nI (dvS (tX (d1S t)) % 6) = nI (2000 + dvS (tX (d1S t)) % 6) from nI_add 2000 _]
  have c4 : d = 3 := by omega
  subst c4
  rw [if_neg (by decide), if_pos rfl, if_pos rfl, r4, r3]
  simp (disch := first | omega | decide) only [nI_z]
  by_cases c5 : sS s = 0
  · rw [if_pos c5, if_pos (Or.inl c5), if_pos (Or.inl c5)]
    exact ⟨-9, m1, rfl, by decide, g2, g3⟩
  by_cases c6 : sP s = 0
  · rw [if_neg c5, if_pos c6, if_pos (Or.inr c6), if_pos (Or.inr c6)]
    exact ⟨-9, m1, rfl, by decide, g2, g3⟩
  rw [if_neg c5, if_neg c6, if_neg (by omega), if_neg (by omega)]
  obtain ⟨m2, k1, k2, k3⟩ := f_draw12 (n := n) (k := sS s) g2 (by omega) (by omega)
  have r3' : rI m2 140 3 = nI (sP s) := by rw [k3.i (ro 3 (by omega))]; exact r3
  obtain ⟨m3, l1, l2, l3⟩ := f_draw12 (n := n) (k := sP s) k2 (by omega) (by omega)
  rw [k1, bnd2_some, r3', l1, bnd2_some]
  refine ⟨_, m3, rfl, ?_, l2, (g3.tr k3).tr l3⟩
  rw [show (100 : Int32) + 100 * nI (dvS (tX (d1S t)) % sS s) + nI (dvS (tX (d1S (d1S t))) % sP s) = nI (100 + 100 * (dvS (tX (d1S t)) % sS s) + dvS (tX (d1S (d1S t))) % sP s) from by rw [mul_l, add_l, nI_add]]
theorem f_draw8 {n a : Nat} {μ : Mu} {s : SD} {t : ST} (ht : CB μ a s t) : ∃ μ', fX8_draw n a μ = some (nI (dvS (tX t)), μ') ∧ CB μ' a s (d1S t) ∧ Fr (PS a) μ μ' := by
  obtain ⟨d1, d2⟩ := dv_eq (tX t)
  have a2 : rI μ a 2 = tX t := ht.2.2.1
  refine ⟨wI μ a 2 (nxS (tX t)), ?_, CB_seed ht _, (Fr.rfl' _ _).w (by unfold PS; omega) _ _⟩
  unfold fX8_draw
  rw [a2, rI_same]
  show some (ushr (nxS (tX t)) 16, _) = _
  rw [d1]
  rfl
set_option maxHeartbeats 1000000 in
theorem f_drawDeed {n a : Nat} {μ : Mu} {s : SD} {t : ST} (ha : 34 ≤ a) (hs : CS μ 2 s) (hv : SV s) (hr : RU μ s) (hV : TV s t) (hh : tH t < 100000000) (hn : 1000 < n) (ht : CB μ a s t) : ∃ μ', fX8_drawDeed n a 2 μ = some (if dayB s t = true then 1 else 0, μ') ∧ CB μ' a s (dayT s t) ∧ RU μ' s ∧ Fr (PH a) μ μ' := by
  have hB := hv.1
  have hS := hv.2.2.2.1
  have hP := hv.2.2.1
  have outs : ∀ k, k ≤ 10 → ¬ PS a (2 + k) := fun k hk q => by unfold PS at q; omega
  have outr : ∀ k, 29 ≤ k → k ≤ 31 → ¬ PS a k := fun k h1 h2 q => by unfold PS at q; omega
  obtain ⟨d1, d2⟩ := dv_eq (tX t)
  obtain ⟨m1, g1, g2, g3⟩ := f_draw8 (n := n) ht
  have hs1 := hs.fr g3 outs
  have hr1 := hr.fr g3 outr
  have hm5 : dvS (tX t) % 5 < 5 := Nat.mod_lt _ (by omega)
  -- the deed at the end
  have fin : ∀ (u : ST) (v : Int64) (m : Mu), drwT s t = u → drwV s t = v → tH u = tH t → CB m a s u → TV s u → CS m 2 s → RU m s → Fr (PH a) μ m → ∃ μ', (bnd2 (fX8_attempt n a v 2 m) fun u10 m11 => if u10 = 0 then (some ((1 : Int32), m11)) else (some (0, m11))) = some (if dayB s t = true then 1 else 0, μ') ∧ CB μ' a s (dayT s t) ∧ RU μ' s ∧ Fr (PH a) μ μ' := by
    intro u v m e1 e2 e3 h1 h2 h3 h4 h5
    obtain ⟨m', q1, q2, q3, q4⟩ := f_attempt (n := n) (v := v) ha h3 hv h4 h2 (by omega) hn h1
    have hle := whyV_le s u v
    refine ⟨m', ?_, ?_, q3, h5.tr q4⟩
    · rw [q1, bnd2_some]
      unfold dayB
      rw [e1, e2]
      by_cases c : whyV s u v = 0
      · rw [if_pos ((nI_z (by omega)).mpr c), decide_eq_true c]; rfl
      · rw [if_neg (fun e => c ((nI_z (by omega)).mp e)), decide_eq_false c]; rfl
    · unfold dayT; rw [e1, e2]; exact q2
  have none_ : ∀ (u : ST) (v : Int64) (m : Mu), drwT s t = u → drwV s t = v → whyV s u v ≠ 0 → CB m a s u → RU m s → Fr (PH a) μ m → ∃ μ', some ((0 : Int32), m) = some (if dayB s t = true then 1 else 0, μ') ∧ CB μ' a s (dayT s t) ∧ RU μ' s ∧ Fr (PH a) μ μ' := by
    intro u v m e1 e2 e3 h1 h4 h5
    refine ⟨m, ?_, ?_, h4, h5⟩
    · unfold dayB; rw [e1, e2, decide_eq_false e3]; rfl
    · unfold dayT; rw [e1, e2, if_neg e3]; exact h1
  have w9 : ∀ u, whyV s u (-9) ≠ 0 := fun u => by unfold whyV; rw [if_neg (by decide), if_neg (by decide)]; decide
  have r0 : rI m1 2 0 = nI (sB s) := hs1.1
  have r2 : rI m1 2 2 = nI (sP s) := hs1.2.2.1
  have r3 : rI m1 2 3 = nI (sS s) := hs1.2.2.2.1
  have e5 : jrem (nI (dvS (tX t))) 5 = nI (dvS (tX t) % 5) := jrem_l (d := 5) (by omega) (by decide) (by decide)
  unfold fX8_drawDeed
  rw [g1, bnd2_some, e5]
  by_cases c2 : dvS (tX t) % 5 = 2
  · obtain ⟨m2, k1, k2, k3⟩ := f_draw8 (n := n) g2
    obtain ⟨d3, d4⟩ := dv_eq (tX (d1S t))
    have hs2 := hs1.fr k3 outs
    have q0 : rI m2 2 0 = nI (sB s) := hs2.1
    have jm : jmax 1 (nI (sB s)) = nI (sB s) := by
      unfold jmax
      by_cases c : sB s = 1
      · rw [c]; rfl
      · rw [if_pos ((lt_l (k := 1) (by decide) (by omega)).mpr (show 1 < sB s by omega))]
    rw [c2, if_pos (by decide), k1, bnd2_some, q0, jm, decide_eq_true (show ¬ nI (sB s) = 0 from fun e => by have := (nI_z (by omega)).mp e; omega), gd_true, jrem_n (by omega) (by omega) (by omega)]
    exact fin (d1S (d1S t)) _ m2 (by unfold drwT; rw [c2]; rfl) (by unfold drwV; rw [c2]; rfl) (by rw [tH_d1, tH_d1]) k2 (TV_d1 (TV_d1 hV)) hs2 (hr1.fr k3 outr) (g3.ph.tr k3.ph)
  rw [if_neg (fun e => c2 ((eq_r (k := 2) (by decide) (by omega)).mp e))]
  by_cases c3 : dvS (tX t) % 5 = 3
  · rw [c3, if_pos (by decide), r3, r2]
    simp (disch := first | omega | decide) only [nI_z]
    by_cases c5 : sS s = 0
    · rw [if_pos c5]
      exact none_ (d1S t) (-9) m1 (by unfold drwT; rw [c3, if_neg (by decide), if_pos rfl, if_pos (Or.inl c5)]) (by unfold drwV; rw [c3, if_neg (by decide), if_neg (by decide), if_pos rfl, if_pos (Or.inl c5)]) (w9 _) g2 hr1 g3.ph
    by_cases c6 : sP s = 0
    · rw [if_neg c5, if_pos c6]
      exact none_ (d1S t) (-9) m1 (by unfold drwT; rw [c3, if_neg (by decide), if_pos rfl, if_pos (Or.inr c6)]) (by unfold drwV; rw [c3, if_neg (by decide), if_neg (by decide), if_pos rfl, if_pos (Or.inr c6)]) (w9 _) g2 hr1 g3.ph
    rw [if_neg c5, if_neg c6]
    obtain ⟨m2, k1, k2, k3⟩ := f_draw8 (n := n) g2
    obtain ⟨d3, d4⟩ := dv_eq (tX (d1S t))
    have hs2 := hs1.fr k3 outs
    have q3 : rI m2 2 3 = nI (sS s) := hs2.2.2.2.1
    obtain ⟨m3, l1, l2, l3⟩ := f_draw8 (n := n) k2
    obtain ⟨d5, d6⟩ := dv_eq (tX (d1S (d1S t)))
    have hs3 := hs2.fr l3 outs
    have q2 : rI m3 2 2 = nI (sP s) := hs3.2.2.1
    rw [k1, bnd2_some, q3, decide_eq_true (show ¬ nI (sS s) = 0 from fun e => by have := (nI_z (by omega)).mp e; omega), gd_true, l1, bnd2_some, q2, decide_eq_true (show ¬ nI (sP s) = 0 from fun e => by have := (nI_z (by omega)).mp e; omega), gd_true, jrem_n (by omega) (by omega) (by omega), jrem_n (by omega) (by omega) (by omega), mul_r, add_l, nI_add]
    exact fin (d1S (d1S (d1S t))) _ m3 (by unfold drwT; rw [c3, if_neg (by decide), if_pos rfl, if_neg (by omega)]) (by unfold drwV; rw [c3, if_neg (by decide), if_neg (by decide), if_pos rfl, if_neg (by omega), Nat.mul_comm 100]) (by rw [tH_d1, tH_d1, tH_d1]) l2 (TV_d1 (TV_d1 (TV_d1 hV))) hs3 ((hr1.fr k3 outr).fr l3 outr) ((g3.ph.tr k3.ph).tr l3.ph)
  rw [if_neg (fun e => c3 ((eq_r (k := 3) (by decide) (by omega)).mp e))]
  by_cases c4 : dvS (tX t) % 5 = 4
  · obtain ⟨m2, k1, k2, k3⟩ := f_draw8 (n := n) g2
    obtain ⟨d3, d4⟩ := dv_eq (tX (d1S t))
    rw [c4, if_pos (by decide), k1, bnd2_some, show jrem (nI (dvS (tX (d1S t)))) 6 = nI (dvS (tX (d1S t)) % 6) from jrem_l (d := 6) (by omega) (by decide) (by decide), add_l]
    exact fin (d1S (d1S t)) _ m2 (by unfold drwT; rw [c4]; rfl) (by unfold drwV; rw [c4]; rfl) (by rw [tH_d1, tH_d1]) k2 (TV_d1 (TV_d1 hV)) (hs1.fr k3 outs) (hr1.fr k3 outr) (g3.ph.tr k3.ph)
  rw [if_neg (fun e => c4 ((eq_r (k := 4) (by decide) (by omega)).mp e))]
  exact fin (d1S t) (-1) m1 (by unfold drwT; rw [if_pos (by omega)]) (by unfold drwV; rw [if_pos (by omega)]) tH_d1 g2 (TV_d1 hV) hs1 hr1 g3.ph
