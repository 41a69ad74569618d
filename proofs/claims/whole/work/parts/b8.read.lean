/-! THE READER: a line, all lines -/
theorem lp_go {τ ρ : Type} {step : τ → Option (τ ⊕ ρ)} {t t' : τ} {m : Nat} (h : step t = some (.inl t')) : lp (m + 1) step t = lp m step t' := by
  conv => lhs; unfold lp
  rw [h]
theorem LNR.gd {B : Nat → Nat} {N M i : Nat} {s : SD} {μc μr : Mu} {rc : Option (Int32 × Mu)} {rr : Option Mu} (h : LNR B N M i s μc μr rc rr) : LNR B N M i s μc μr (bnd2 rc fun u m => gd (isb u) (some (u, m))) (bnd rr fun m => some m) := by
  obtain ⟨u, μc', μr', e1, e2, e3⟩ := h
  rw [e1, e2, bnd2_some, bnd_some]
  refine ⟨u, μc', μr', ?_, rfl, e3⟩
  rcases e3 with ⟨eu, _⟩ | ⟨eu, _⟩ <;> (rw [eu]; rfl)
theorem LNR.r {B : Nat → Nat} {N M i : Nat} {s : SD} {μc μr : Mu} {rc : Option (Int32 × Mu)} {rr : Option Mu} (h : LNR B N M i s μc μr rc rr) : LNR B N M i s μc μr rc (bnd rr fun m => some m) := by
  obtain ⟨u, μc', μr', e1, e2, e3⟩ := h
  rw [e2, bnd_some]
  exact ⟨u, μc', μr', e1, rfl, e3⟩
theorem wn_810 : ∀ K, K < 42 → ((8 : Int64) ≤ (nI K).toInt64 ∧ (nI K).toInt64 ≤ 10 ↔ 8 ≤ K ∧ K ≤ 10) := by decide +kernel
theorem l_next {B : Nat → Nat} {N M i n len : Nat} {s : SD} {μc μr : Mu} (hD : KD B N M) (h : LSx B N M i s len μc μr) (hn : 1000 < n) : LNR B N M i s μc μr (fX5_nextLine n μc) (fX12_readLine n μr) := by
  have hb := hD.2.2.1
  have hP := h.1
  have tl := tkP_le (B := B) (N := N) i
  have kl := kK_le (i := i) hb
  have o : ∀ K, K ≤ 12 → (ckI B N (tkP B N i) = nI (200 + cls K) ↔ kK B N i = K) := fun K hK => ck_word (K := K) tl hb (by omega)
  have o1 : ckI B N (tkP B N i) = 201 ↔ kK B N i = 1 := o 1 (by omega)
  have o3 : ckI B N (tkP B N i) = 203 ↔ kK B N i = 3 := o 3 (by omega)
  have o6 : ckI B N (tkP B N i) = 206 ↔ kK B N i = 6 := o 6 (by omega)
  have o8 : ckI B N (tkP B N i) = 208 ↔ kK B N i = 8 := o 8 (by omega)
  have o9 : ckI B N (tkP B N i) = 209 ↔ kK B N i = 9 := o 9 (by omega)
  have o10 : ckI B N (tkP B N i) = 210 ↔ kK B N i = 10 := o 10 (by omega)
  have o11 : ckI B N (tkP B N i) = 211 ↔ kK B N i = 11 := o 11 (by omega)
  have o12 : ckI B N (tkP B N i) = 212 ↔ kK B N i = 12 := o 12 (by omega)
  have r9 : rI μr 139 9 = nI (kK B N i) := hP.2.2.1.2.2.1
  have i1 : fX12_is n 1 μr = some (if kK B N i = 1 then 1 else 0) := r_is (x := 1) hP.2 (by omega) hb
  have i3 : fX12_is n 3 μr = some (if kK B N i = 3 then 1 else 0) := r_is (x := 3) hP.2 (by omega) hb
  have i6 : fX12_is n 6 μr = some (if kK B N i = 6 then 1 else 0) := r_is (x := 6) hP.2 (by omega) hb
  have iw : ∀ (A C : Option Mu), (bnd (fX12_within n ((rI μr 139 9).toInt64) 8 10 μr) fun u12 => if u12 = 0 then A else C) = if 8 ≤ kK B N i ∧ kK B N i ≤ 10 then C else A := fun A C => by
    rw [f_within, bnd_some, r9]
    by_cases e : 8 ≤ kK B N i ∧ kK B N i ≤ 10
    · rw [if_pos e, if_pos (decide_eq_true ((wn_810 (kK B N i) (by omega)).mpr e)), if_neg (by decide)]
    · rw [if_neg e, if_neg (fun q => e ((wn_810 (kK B N i) (by omega)).mp (of_decide_eq_true q))), if_pos rfl]
  unfold fX5_nextLine fX12_readLine
  rw [c_kind hD hP.1, bnd_some, hP.2.2.2, if_pos rfl, i1, bnd_some]
  by_cases k1 : kK B N i = 1
  · rw [if_pos (o1.mpr k1), if_pos k1, if_neg (by decide)]
    exact (l_current hD h k1 hn).gd
  · rw [if_neg (fun q => k1 (o1.mp q)), if_neg k1, if_pos rfl, i3, bnd_some]
    by_cases k3 : kK B N i = 3
    · rw [if_pos (o3.mpr k3), if_pos k3, if_neg (by decide)]
      exact (l_person hD h k3 hn).gd
    · rw [if_neg (fun q => k3 (o3.mp q)), if_neg k3, if_pos rfl, i6, bnd_some]
      by_cases k6 : kK B N i = 6
      · rw [if_pos (o6.mpr k6), if_pos k6, if_neg (by decide)]
        exact (l_shell hD h k6 hn).gd
      · rw [if_neg (fun q => k6 (o6.mp q)), if_neg k6, if_pos rfl, iw]
        by_cases k8 : kK B N i = 8
        · rw [if_pos (o8.mpr k8), if_pos (by omega), r9, show nI (kK B N i) - 8 = nI 0 by rw [k8]; rfl]
          exact (l_law (l := 0) (k := 3) hD h (by omega) rfl (hD.lt hP.1.2.1 (by omega) (by omega)) hn).r
        · rw [if_neg (fun q => k8 (o8.mp q))]
          by_cases k9 : kK B N i = 9
          · rw [if_pos (o9.mpr k9), if_pos (by omega), r9, show nI (kK B N i) - 8 = nI 1 by rw [k9]; rfl]
            exact (l_law (l := 1) (k := 0) hD h (by omega) rfl (hD.lt hP.1.2.1 (by omega) (by omega)) hn).r
          · rw [if_neg (fun q => k9 (o9.mp q))]
            by_cases k10 : kK B N i = 10
            · rw [if_pos (o10.mpr k10), if_pos (by omega), r9, show nI (kK B N i) - 8 = nI 2 by rw [k10]; rfl]
              exact (l_law (l := 2) (k := 0) hD h (by omega) rfl (hD.lt hP.1.2.1 (by omega) (by omega)) hn).r
            · rw [if_neg (fun q => k10 (o10.mp q)), if_neg (show ¬ (8 ≤ kK B N i ∧ kK B N i ≤ 10) by omega)]
              by_cases k11 : kK B N i = 11
              · have hi := hD.lt hP.1.2.1 (show kK B N i ≠ 24 by omega) (by omega)
                obtain ⟨m, n1, p1, f1⟩ := hP.nx (n := n) hi hn
                rw [if_pos (o11.mpr k11), show fX12_eats n 11 μr = some (1, m) from r_eats' (K := 11) hP.2 (by omega) hb k11 n1, bnd2_some, if_neg (by decide)]
                exact l_gale hD h hi n1 hn
              · rw [if_neg (fun q => k11 (o11.mp q)), show fX12_eats n 11 μr = some (0, μr) from r_eatsN (K := 11) hP.2 (by omega) hb k11, bnd2_some, if_pos rfl]
                by_cases k12 : kK B N i = 12
                · have hi := hD.lt hP.1.2.1 (show kK B N i ≠ 24 by omega) (by omega)
                  obtain ⟨m, n1, p1, f1⟩ := hP.nx (n := n) hi hn
                  rw [if_pos (o12.mpr k12), show fX12_eats n 12 μr = some (1, m) from r_eats' (K := 12) hP.2 (by omega) hb k12 n1, bnd2_some, if_neg (by decide)]
                  exact l_hour hD h hi n1 hn
                · rw [if_neg (fun q => k12 (o12.mp q)), show fX12_eats n 12 μr = some (0, μr) from r_eatsN (K := 12) hP.2 (by omega) hb k12, bnd2_some, if_pos rfl, c_refuse hD hP.1, bnd2_some, r_fails hP.2 hb, bnd_some]
                  exact ⟨0, fbI μc B N i (if kK B N i = 25 then 1 else 2), frI μr B N i (if kK B N i = 25 then 1 else 2), rfl, rfl, Or.inr ⟨rfl, BADf.here (by split <;> decide)⟩⟩
theorem ends_W {n : Nat} {μ : Mu} (h : rI μ 139 11 ≠ 0) : fX12_ends n μ = some (wI μ 143 0 (rI μ 143 0 + 1)) := by
  unfold fX12_ends jX12_ends_14
  rw [r_eatsW h, bnd2_some, if_pos rfl, r_failsW h, bnd_some]
theorem PGc_B {a i : Nat} (h : PGc a i) : PBc a i := by unfold PGc at h; unfold PBc; omega
/-- the sign behind a line -/
theorem l_end {B : Nat → Nat} {N M i n len : Nat} {s : SD} {μc μr : Mu} (hD : KD B N M) (h : LSx B N M i s len μc μr) (hn : 1000 < n) : (∃ μr', fX5_accept n 59 μc = some (1, wI μc 13 4 (rI μc 13 4 + 1)) ∧ fX12_ends n μr = some μr' ∧ LSx B N M (i + 1) (upS s 0 4 (s 0 4 + 1)) len (wI (wI μc 13 4 (rI μc 13 4 + 1)) 14 4 (rI (wI μc 13 4 (rI μc 13 4 + 1)) 14 4 + 1)) μr' ∧ Fg PGc μc (wI (wI μc 13 4 (rI μc 13 4 + 1)) 14 4 (rI (wI μc 13 4 (rI μc 13 4 + 1)) 14 4 + 1)) ∧ Fg PBr μr μr') ∨ (∃ μc' μr', fX5_accept n 59 μc = some (0, μc') ∧ fX12_ends n μr = some μr' ∧ BADf μc μr μc' μr') := by
  obtain ⟨hP, hS, hl, h4⟩ := h
  have hM := hD.2.1
  rcases eat (n := n) (K := 30) (code := 59) hD hP (ck_sign (k := 0) (tkP_le (B := B) (N := N) i) hD.2.2.1 (by omega)) (by omega) (by omega) (by omega) hn with ⟨m2, d1, d2, d3, p2, f2⟩ | ⟨μc', μr', d1, d2, d3, d4⟩
  · left
    have d3 : fX12_eats n 30 μr = some (1, m2) := d3
    obtain ⟨⟨a0, b1, b2, b3, b4, b5, b6, b7⟩, -⟩ := hS.2.1
    obtain ⟨⟨e0, e1, e2, e3, e4, e5, e6, e7, e8, e9⟩, -⟩ := hS.2.2
    obtain ⟨v1, v2, v3, v4, v5, v6, v7, v8, v9, v10, v11⟩ := hS.1
    have t1 : rI (wI μc 13 4 (rI μc 13 4 + 1)) 14 4 = nI (s 0 4) := by rw [rI_ai (by decide)]; exact b4
    have t2 : rI m2 143 0 = nI (s 0 4) := by rw [f2.i (by unfold PN; omega)]; exact e0
    have hi2 := p2.1.2.1
    rw [t1, show nI (s 0 4) + 1 = nI (s 0 4 + 1) from nI_add _ 1]
    have fcE : Fg Pcn μc (wI (wI μc 13 4 (rI μc 13 4 + 1)) 14 4 (nI (s 0 4 + 1))) := ((Fg.rfl' _ _).w (Or.inl ⟨rfl, rfl⟩) _).w (Or.inr ⟨rfl, Or.inl rfl⟩) _
    have frE : Fg Prn μr (wI m2 143 0 (nI (s 0 4 + 1))) := (f2.mono fun _ _ q => Or.inl q).w (Or.inr ⟨rfl, Or.inl rfl⟩) _
    refine ⟨wI m2 143 0 (nI (s 0 4 + 1)), d2, ?_, ⟨(p2.wc (by omega) (by omega)).wr, num_sea hS (fun a j q => ?_) fcE frE ?_ ?_ ?_ ?_ ?_ ?_ ?_ ?_ ?_, by omega, ?_⟩, fcE.mono fun _ _ => Pcn_G, frE.mono fun _ _ => Prn_B⟩
    · unfold fX12_ends jX12_ends_14
      rw [d3, bnd2_some, if_neg (by decide), t2, show nI (s 0 4) + 1 = nI (s 0 4 + 1) from nI_add _ 1]
    · unfold upS; rw [if_neg (by omega)]
    · rw [upS_eq, rI_same]
    · rw [upS_ni (by decide), rI_ii (by decide), rI_ai (by decide)]; exact b5
    · rw [upS_ni (by decide), rI_ii (by decide), rI_ai (by decide)]; exact b6
    · rw [upS_eq, rI_same]
    · rw [upS_ni (by decide), rI_ii (by decide), f2.i (by unfold PN; omega)]; exact e5
    · rw [upS_ni (by decide), rI_ii (by decide), f2.i (by unfold PN; omega)]; exact e6
    · rw [upS_eq]; omega
    · rw [upS_ni (by decide)]; exact v10
    · rw [upS_ni (by decide)]; exact v11
    · rw [upS_eq]; omega
  · right
    have d2 : fX12_eats n 30 μr = some (0, μr) := d2
    refine ⟨μc', _, d1, ?_, d4.wr (k := 0) (v := rI μr' 143 0 + 1)⟩
    unfold fX12_ends jX12_ends_14
    rw [d2, bnd2_some, if_pos rfl, d3, bnd_some]
theorem ck_0 {B : Nat → Nat} {N p : Nat} (hp : p ≤ N) (hb : ∀ k, k < N → B k < 256) : ckI B N p = 0 ↔ tkK B N p = 24 := by
  have tc := tk_cases (B := B) hp hb
  by_cases e : tkK B N p = 23
  · rcases ck_cases hp hb with ⟨h1, h2⟩ | ⟨h1, h2⟩ | ⟨h1, h0, h2⟩ | ⟨h1, h2⟩ | ⟨h1, h2⟩ | ⟨h1, h0, h2⟩
    · omega
    · omega
    · rw [h2]
      constructor
      · intro q
        have := (nI_eq (a := 1000 + tkV B N p) (b := 0) (by omega) (by omega)).mp q
        omega
      · intro q; omega
    · omega
    · omega
    · omega
  · rw [ck_N hp hb e]
    have z : ∀ K, K < 42 → (nI (ckN K) = 0 ↔ K = 24) := by decide +kernel
    exact z _ (by omega)
theorem read_lp {B : Nat → Nat} {N M n : Nat} (hD : KD B N M) (hn : 1000 < n) : ∀ k c i s len μc μr mc mr, M - i ≤ k → k + 3 ≤ mc → k + 3 ≤ mr → c < i → LSx B N M i s len μc μr → ∃ u μc' μr', lp mc (sX5_read_39 n) (1, nI c, μc) = some (u, μc') ∧ lp mr (sX12_sea_83 n) μr = some μr' ∧ ((u = 1 ∧ (∃ i' s' len', LSx B N M i' s' len' μc' μr' ∧ kK B N i' = 24) ∧ Fg PGc μc μc' ∧ Fg PBr μr μr') ∨ (u = 0 ∧ BADf μc μr μc' μr')) := by
  have hM := hD.2.1
  have hb := hD.2.2.1
  have rW : ∀ μ, rI μ 139 11 ≠ 0 → sX12_sea_83 n μ = some (.inr μ) := fun μ w => by
    show (if rI μ 139 11 = 0 then _ else _) = _
    rw [if_neg w]
  have c0 : ∀ x μ, sX5_read_39 n (0, x, μ) = some (.inr (0, μ)) := fun x μ => by
    show (if (900 : Int32) ≤ x then _ else _) = _
    by_cases e : (900 : Int32) ≤ x
    · rw [if_pos e]
    · rw [if_neg e, if_pos rfl]
  intro k
  induction k with
  | zero =>
    intro c i s len μc μr mc mr hk hmc hmr hc h
    obtain ⟨mc, rfl⟩ : ∃ e, mc = e + 2 := ⟨mc - 2, by omega⟩
    obtain ⟨mr, rfl⟩ : ∃ e, mr = e + 2 := ⟨mr - 2, by omega⟩
    have hi := h.1.1.2.1
    have r9 : rI μr 139 9 = nI (kK B N i) := h.1.2.2.1.2.2.1
    have kl := kK_le (i := i) hb
    have c9 : ¬ (900 : Int32) ≤ nI c := fun e => by have : 900 ≤ c := (le_l (k := 900) (by decide) (by omega)).mp e; omega
    by_cases e24 : kK B N i = 24
    · refine ⟨1, μc, μr, lp_out ?_ (by omega), lp_out ?_ (by omega), Or.inl ⟨rfl, ⟨i, s, len, h, e24⟩, Fg.rfl' _ _, Fg.rfl' _ _⟩⟩
      · show (if (900 : Int32) ≤ nI c then _ else _) = _
        rw [if_neg c9, if_neg (by decide), c_kind hD h.1.1, bnd_some, if_pos ((ck_0 (tkP_le (B := B) (N := N) i) hb).mpr e24)]
      · show (if rI μr 139 11 = 0 then _ else _) = _
        rw [if_pos h.1.2.2.2, if_pos (by rw [r9, e24]; rfl)]
    · obtain ⟨u, μc', μr', e1, e2, e3⟩ := l_next (n := n) hD h hn
      have sC : sX5_read_39 n (1, nI c, μc) = bnd2 (some (u, μc')) fun u14 m15 => if u14 = 0 then (jX5_read_78 n (nI c) m15) else (bnd2 (fX5_accept n 59 m15) fun u18 m19 => some (.inl ((if u18 = 0 then 0 else 1 : Int32), nI c + 1, wI m19 14 4 ((rI m19 14 4) + 1)))) := by
        show (if (900 : Int32) ≤ nI c then _ else _) = _
        rw [if_neg c9, if_neg (by decide), c_kind hD h.1.1, bnd_some, if_neg (fun q => e24 ((ck_0 (tkP_le (B := B) (N := N) i) hb).mp q)), e1]
      have sR : sX12_sea_83 n μr = bnd (fX12_ends n μr') fun m22 => some (.inl m22) := by
        show (if rI μr 139 11 = 0 then _ else _) = _
        rw [if_pos h.1.2.2.2, if_neg (by rw [r9]; exact fun q => e24 ((nI_eq (a := kK B N i) (b := 24) (by omega) (by omega)).mp q)), e2, bnd_some]
      rcases e3 with ⟨eu, ⟨i', s', len', g1, g2, g3⟩, g4, g5⟩ | ⟨eu, hbd⟩
      · have := g2.1.1.2.1; omega
      · refine ⟨0, _, _, ?_, ?_, Or.inr ⟨rfl, (hbd.wc (a := 14) (k := 4) (v := rI μc' 14 4 + 1) (by omega) (by omega)).wr (k := 0) (v := rI μr' 143 0 + 1)⟩⟩
        · rw [lp_go (t' := (0, nI c + 1, wI μc' 14 4 (rI μc' 14 4 + 1))) (by rw [sC, bnd2_some, if_pos eu]; rfl)]
          exact lp_out (c0 _ _) (by omega)
        · rw [lp_go (t' := wI μr' 143 0 (rI μr' 143 0 + 1)) (by rw [sR, ends_W hbd.1, bnd_some])]
          exact lp_out (rW _ (hbd.wr (k := 0) (v := rI μr' 143 0 + 1)).1) (by omega)
  | succ k ih =>
    intro c i s len μc μr mc mr hk hmc hmr hc h
    obtain ⟨mc, rfl⟩ : ∃ e, mc = e + 2 := ⟨mc - 2, by omega⟩
    obtain ⟨mr, rfl⟩ : ∃ e, mr = e + 2 := ⟨mr - 2, by omega⟩
    have hi := h.1.1.2.1
    have r9 : rI μr 139 9 = nI (kK B N i) := h.1.2.2.1.2.2.1
    have kl := kK_le (i := i) hb
    have c9 : ¬ (900 : Int32) ≤ nI c := fun e => by have : 900 ≤ c := (le_l (k := 900) (by decide) (by omega)).mp e; omega
    by_cases e24 : kK B N i = 24
    · refine ⟨1, μc, μr, lp_out ?_ (by omega), lp_out ?_ (by omega), Or.inl ⟨rfl, ⟨i, s, len, h, e24⟩, Fg.rfl' _ _, Fg.rfl' _ _⟩⟩
      · show (if (900 : Int32) ≤ nI c then _ else _) = _
        rw [if_neg c9, if_neg (by decide), c_kind hD h.1.1, bnd_some, if_pos ((ck_0 (tkP_le (B := B) (N := N) i) hb).mpr e24)]
      · show (if rI μr 139 11 = 0 then _ else _) = _
        rw [if_pos h.1.2.2.2, if_pos (by rw [r9, e24]; rfl)]
    · obtain ⟨u, μc', μr', e1, e2, e3⟩ := l_next (n := n) hD h hn
      have sC : sX5_read_39 n (1, nI c, μc) = bnd2 (some (u, μc')) fun u14 m15 => if u14 = 0 then (jX5_read_78 n (nI c) m15) else (bnd2 (fX5_accept n 59 m15) fun u18 m19 => some (.inl ((if u18 = 0 then 0 else 1 : Int32), nI c + 1, wI m19 14 4 ((rI m19 14 4) + 1)))) := by
        show (if (900 : Int32) ≤ nI c then _ else _) = _
        rw [if_neg c9, if_neg (by decide), c_kind hD h.1.1, bnd_some, if_neg (fun q => e24 ((ck_0 (tkP_le (B := B) (N := N) i) hb).mp q)), e1]
      have sR : sX12_sea_83 n μr = bnd (fX12_ends n μr') fun m22 => some (.inl m22) := by
        show (if rI μr 139 11 = 0 then _ else _) = _
        rw [if_pos h.1.2.2.2, if_neg (by rw [r9]; exact fun q => e24 ((nI_eq (a := kK B N i) (b := 24) (by omega) (by omega)).mp q)), e2, bnd_some]
      rcases e3 with ⟨eu, ⟨i', s', len', g1, g2, g3⟩, g4, g5⟩ | ⟨eu, hbd⟩
      · rcases l_end (n := n) hD g2 hn with ⟨m2, a1, a2, a3, a4, a5⟩ | ⟨μc2, μr2, a1, a2, a3⟩
        · obtain ⟨v, μc3, μr3, b1, b2, b3⟩ := ih (c + 1) (i' + 1) _ len' _ _ (mc + 1) (mr + 1) (by omega) (by omega) (by omega) (by omega) a3
          refine ⟨v, μc3, μr3, ?_, ?_, ?_⟩
          · rw [lp_go (by
              rw [sC, bnd2_some, eu, if_neg (by decide), a1, bnd2_some, if_neg (by decide), show nI c + 1 = nI (c + 1) from nI_add c 1])]
            exact b1
          · rw [lp_go (by rw [sR, a2, bnd_some])]
            exact b2
          · rcases b3 with ⟨ev, q1, q2, q3⟩ | ⟨ev, q1⟩
            · exact Or.inl ⟨ev, q1, (g4.tr a4).tr q2, (g5.tr a5).tr q3⟩
            · exact Or.inr ⟨ev, q1.tr ((g4.tr a4).mono fun _ _ => PGc_B) (g5.tr a5)⟩
        · have bb := a3.tr (g4.mono fun _ _ => PGc_B) g5
          refine ⟨0, _, _, ?_, ?_, Or.inr ⟨rfl, bb.wc (a := 14) (k := 4) (v := rI μc2 14 4 + 1) (by omega) (by omega)⟩⟩
          · rw [lp_go (t' := (0, nI c + 1, wI μc2 14 4 (rI μc2 14 4 + 1))) (by rw [sC, bnd2_some, eu, if_neg (by decide), a1, bnd2_some, if_pos rfl])]
            exact lp_out (c0 _ _) (by omega)
          · rw [lp_go (by rw [sR, a2, bnd_some])]
            exact lp_out (rW _ bb.1) (by omega)
      · refine ⟨0, _, _, ?_, ?_, Or.inr ⟨rfl, (hbd.wc (a := 14) (k := 4) (v := rI μc' 14 4 + 1) (by omega) (by omega)).wr (k := 0) (v := rI μr' 143 0 + 1)⟩⟩
        · rw [lp_go (t' := (0, nI c + 1, wI μc' 14 4 (rI μc' 14 4 + 1))) (by rw [sC, bnd2_some, if_pos eu]; rfl)]
          exact lp_out (c0 _ _) (by omega)
        · rw [lp_go (t' := wI μr' 143 0 (rI μr' 143 0 + 1)) (by rw [sR, ends_W hbd.1, bnd_some])]
          exact lp_out (rW _ (hbd.wr (k := 0) (v := rI μr' 143 0 + 1)).1) (by omega)
