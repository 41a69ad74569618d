/-! SEA: both -/
def PSc : Nat → Nat → Prop := fun a i => (a = 0 ∧ (i = 1 ∨ i = 2 ∨ i = 3)) ∨ (13 ≤ a ∧ a ≤ 27)
theorem RI.fg' {P : Nat → Nat → Prop} {μ μ' : Mu} {s : SD} {t : ST} {m : Nat} {h : Nat → ST} {B : Nat} (hh : RI μ s t m h) (hv : VI s t m h B) (e : Fg P μ μ') (h1 : ∀ i, ¬ P 140 i) (h2 : ¬ P 139 19) : RI μ' s t m h := hh.fg hv e h1 h2
theorem CI.sea {P : Nat → Nat → Prop} {μ μ' : Mu} {s : SD} {t : ST} {m : Nat} {h : Nat → ST} (hh : CI μ s t m h) (e : Fg P μ μ') (hp : ∀ x i, ((2 ≤ x ∧ x ≤ 12) ∨ (28 ≤ x ∧ x < 139)) → ¬ P x i) : CI μ' s t m h := by
  obtain ⟨h1, h2, h3, q, h4, h5, h6, h7, h8⟩ := hh
  have hq : q < 10 := h4
  refine ⟨h1.congr fun k hk j => e.i (hp _ _ (by omega)), h2.congr fun k _ hk j => e.i (hp _ _ (by omega)), h3.congr fun k hk j => e.i (hp _ _ (by omega)), q, h4, by rw [e.i (hp _ _ (by omega))]; exact h5, by rw [e.i (hp _ _ (by omega))]; exact h6, h7, fun j hj => (h8 j hj).congr fun k hk i => e.i (hp _ _ ?_)⟩
  omega
theorem sea_tail {n : Nat} {s : SD} {X1 : Mu} (hv : SV s) (hcs : CS X1 14 s) (hn : 5000 < n) : ∃ X4, (bnd (fX7_copyFrom n 2 14 X1) fun m8 => bnd (fX6_forget n m8) fun m10 => bnd (fX8_begin n 34 2 m10) fun m12 => bnd (fX1_forget n m12) fun m14 => some (rI m14 2 4, m14)) = some (nI (s 0 4), X4) ∧ CS X4 2 s ∧ RU X4 s ∧ CB X4 34 s (begS s) ∧ rI X4 48 2 = 0 ∧ Fg (fun a i => (2 ≤ a ∧ a ≤ 12) ∨ (29 ≤ a ∧ a ≤ 31) ∨ (34 ≤ a ∧ a ≤ 40) ∨ (a = 48 ∧ i = 2)) X1 X4 := by
  obtain ⟨X2, c1, c2, c3⟩ := f_copySea (n := n) (a := 2) (b := 14) (Or.inl (by omega)) hv hcs
  obtain ⟨X3, e1, e2, e3⟩ := f_forget (n := n) X2 hv (by omega)
  have c2' : CS X3 2 s := c2.fr e3 (fun k hk q => by omega)
  obtain ⟨X4, g1, g2, g3⟩ := f_begin (n := n) hv c2' (by omega)
  have cS4 : CS (wI X4 48 2 0) 2 s := (c2'.fr g3 (fun k hk q => by unfold PS at q; omega)).congr fun k hk i => by rw [rI_ai (by omega)]
  have cU4 : RU (wI X4 48 2 0) s := (e2.fr g3 (fun k h1 h2 q => by unfold PS at q; omega)).congr fun a h1 h2 i => by rw [rI_ai (by omega)]
  have cB4 : CB (wI X4 48 2 0) 34 s (begS s) := g2.congr fun k hk i => by rw [rI_ai (by omega)]
  refine ⟨wI X4 48 2 0, ?_, cS4, cU4, cB4, rI_same _ _ _ _, (((c3.fg.mono fun a i q => ?_).tr (e3.fg.mono fun a i q => ?_)).tr (g3.fg.mono fun a i q => ?_)).w ?_ _⟩
  · rw [c1, bnd_some, e1, bnd_some, g1, bnd_some]
    unfold fX1_forget
    rw [bnd_some, cS4.2.2.2.2.1]
  · have q : PZ 2 a := q
    unfold PZ at q; omega
  · omega
  · have q : PS 34 a := q
    unfold PS at q; omega
  · omega
theorem m_sea {n k : Nat} {sh : List Sh} {R : Rf} {μ : Mu} {x : Int32} (hI : INV k sh R μ) (hn : 5000 < n) : GO k sh R (fX11_sea n x μ) (fX12_sea n x) := by
  obtain ⟨s, t, m, h, hV, hC, hR, hT, hA, hG⟩ := hI
  have hV' : VI s t m h (1000 + 50 * (k + 1)) := hV.mono (by omega)
  obtain ⟨T, t1, t2, t3, t4, t5, t6⟩ := hA
  by_cases c : 0 ≤ x ∧ x ≤ nI T
  · obtain ⟨N, ex, hN0⟩ := i32_nat c.1
    subst ex
    have hN : N ≤ T := (nI_leI hN0 (by omega)).mp c.2
    obtain ⟨B, hB⟩ : ∃ B : Nat → Nat, ∀ k, k < T → B k < 256 ∧ rI μ 142 k = nI (B k) ∧ rI μ 1 k = rawB (B k) := by
      refine ⟨fun k => if h : k < T then Classical.choose (t4 k h) else 0, fun k hk => ?_⟩
      simp only [dif_pos hk]
      exact Classical.choose_spec (t4 k hk)
    -- the class
    have cp : CTp (wI μ 0 1 0) B N := ⟨by omega, fun k hk => ⟨(hB k (by omega)).1, by rw [rI_ai (by decide)]; exact (hB k (by omega)).2.2⟩⟩
    obtain ⟨μs, M, s1, hM, sp, s3, s4⟩ := c_split (n := n) cp (by omega)
    have hD : KD B N M := ⟨by omega, hM, fun k hk => (hB k (by omega)).1, s3, s4⟩
    obtain ⟨p1, p2, p3⟩ := sp
    obtain ⟨μl, l1, l2, l3, l4, l5, l6⟩ := f_clear (n := n) μs (by omega)
    have fc0 : Fg PSc μ (wI (wI (wI μl 13 4 0) 13 1 0) 13 2 (-1)) := ((((((Fg.rfl' PSc μ).w (Or.inl ⟨rfl, Or.inl rfl⟩) (0 : Int32)).tr (p3.fg.mono fun a i q => Or.inr (by omega))).tr (l6.fg.mono fun a i q => Or.inr (by omega))).w (Or.inr (by omega)) _).w (Or.inr (by omega)) _).w (Or.inr (by omega)) _
    have z13 : ∀ a i, a ≠ 13 → rI (wI (wI (wI μl 13 4 0) 13 1 0) 13 2 (-1)) a i = rI μl a i := fun a i ha => by rw [rI_ai ha, rI_ai ha, rI_ai ha]
    have y1 : rI (wI (wI (wI μl 13 4 0) 13 1 0) 13 2 (-1)) 13 1 = 0 := by rw [rI_ii (by decide), rI_same]
    have y2 : rI (wI (wI (wI μl 13 4 0) 13 1 0) 13 2 (-1)) 13 2 = -1 := by rw [rI_same]
    have ck : CK (wI (wI (wI μl 13 4 0) 13 1 0) 13 2 (-1)) B N M 0 := by
      refine ⟨by rw [rI_ii (by decide), rI_ii (by decide), rI_same]; rfl, Nat.zero_le _, fun j hj => ?_⟩
      rw [z13 _ _ (by decide), z13 _ _ (by decide), l6.i (by omega), l6.i (by omega)]
      exact p2 j (by omega)
    have q14 : ∀ j, 1 ≤ j → j ≤ 7 → rI (wI (wI (wI μl 13 4 0) 13 1 0) 13 2 (-1)) 14 j = 0 := fun j h1 h2 => by rw [z13 _ _ (by decide)]; exact l3 j h1 h2
    have q21 : rI (wI (wI (wI μl 13 4 0) 13 1 0) 13 2 (-1)) 21 1 = 0 := by rw [z13 _ _ (by decide)]; exact l4
    have q23 : ∀ l, l < 3 → rI (wI (wI (wI μl 13 4 0) 13 1 0) 13 2 (-1)) 23 l = 0 ∧ rI (wI (wI (wI μl 13 4 0) 13 1 0) 13 2 (-1)) 24 l = 0 := fun l hl => by rw [z13 _ _ (by decide), z13 _ _ (by decide)]; exact l5 l hl
    have eRd : fX5_read n (nI N) (wI μ 0 1 0) = (bnd2 (fX5_firstLine n (wI (wI (wI μl 13 4 0) 13 1 0) 13 2 (-1))) fun u6 m7 => bnd (lp n (sX5_read_39 n) (u6, 0, m7)) fun q => match q with | (u21, m22) => gd (isb u21) (some (u21, m22))) := by
      unfold fX5_read
      rw [s1, bnd_some, l1, bnd_some]
    generalize hX0 : wI (wI (wI μl 13 4 0) 13 1 0) 13 2 (-1) = X0 at fc0 y1 y2 ck q14 q21 q23 eRd
    obtain ⟨d5, d7, u1, u2, u3, u4, u5, u6, u7⟩ := ref_start (n := n) (N := N) (B := B) (μ := μ) (by omega) (fun k hk => ⟨(hB k (by omega)).1, (hB k (by omega)).2.1⟩) hn
    obtain ⟨u, μc', μr0, w1, w2, w3⟩ := first_read (n := n) hD (by omega) ⟨ck, u3⟩ q14 q21 q23 u4 u5
    rw [← eRd] at w1
    have eC : fX11_sea n (nI N) μ = bnd2 (some (u, μc')) fun u4 m5 => if u4 = 0 then (some ((-30) - (rI (wI (wI m5 0 2 (rI m5 13 1)) 0 3 (rI (wI m5 0 2 (rI m5 13 1)) 13 2)) 0 2), wI (wI m5 0 2 (rI m5 13 1)) 0 3 (rI (wI m5 0 2 (rI m5 13 1)) 13 2))) else (bnd (fX7_copyFrom n 2 14 (wI (wI m5 0 2 (rI m5 13 1)) 0 3 (rI (wI m5 0 2 (rI m5 13 1)) 13 2))) fun m8 => bnd (fX6_forget n m8) fun m10 => bnd (fX8_begin n 34 2 m10) fun m12 => bnd (fX1_forget n m12) fun m14 => some (rI m14 2 4, m14)) := by
      unfold fX11_sea
      rw [if_neg (Int32.not_lt.mpr c.1), t2, if_pos c.2, w1]
    -- the reference, from any memory that the class leaves
    have ref : ∀ μ1 : Mu, (∀ k, k < N → rI μ1 142 k = rI μ 142 k) → rI μ1 139 5 = nI T → ∃ d7 μr', Fg PSr μ1 d7 ∧ rI d7 139 5 = 0 ∧ fX12_sea n (nI N) μ1 = jX12_sea_110 n μr' ∧ ((u = 1 ∧ (∃ s len, SEA μc' μr' s len ∧ len ≤ 900) ∧ rI μr' 139 11 = 0 ∧ Fg PGc X0 μc' ∧ Fg PBr d7 μr') ∨ (u = 0 ∧ BADf X0 d7 μc' μr')) := fun μ1 h142 h5 => by
      obtain ⟨m5, m7, u1, u2, u3, u4, u5, u6, u7⟩ := ref_start (n := n) (N := N) (B := B) (μ := μ1) (by omega) (fun k hk => ⟨(hB k (by omega)).1, by rw [h142 k hk]; exact (hB k (by omega)).2.1⟩) hn
      obtain ⟨v, νc, νr, x1, x2, x3⟩ := first_read (n := n) hD (by omega) ⟨ck, u3⟩ q14 q21 q23 u4 u5
      rw [← eRd, w1] at x1
      have x1 := Option.some.inj x1
      have ev : u = v := congrArg Prod.fst x1
      have en : μc' = νc := congrArg Prod.snd x1
      rw [← ev, ← en] at x3
      refine ⟨m7, νr, u6, u7, ?_, x3⟩
      unfold fX12_sea
      have w5 : rI (wI μ1 139 0 0) 139 5 = nI T := by rw [rI_ii (by decide)]; exact h5
      rw [w5, f_within, bnd_some, ifb, if_pos (decide_eq_true ⟨i64_mono c.1, i64_mono c.2⟩), u1, bnd_some, u2, bnd_some]
      exact x2
    rw [eC, bnd2_some]
    rcases w3 with ⟨eu, -⟩ | ⟨eu, hbd⟩
    · -- a sea
      rw [eu, if_neg (by decide)]
      have g0 : Fg PGc X0 μc' := by
        obtain ⟨_, _, _, _, _, o⟩ := ref μ (fun k _ => rfl) t3
        rcases o with ⟨_, _, _, o, _⟩ | ⟨e, _⟩
        · exact o
        · rw [eu] at e; exact absurd e (by decide)
      have v1 : rI μc' 13 1 = 0 := by rw [g0.i (by unfold PGc; omega)]; exact y1
      have v2 : rI (wI μc' 0 2 (rI μc' 13 1)) 13 2 = -1 := by rw [rI_ai (by decide), g0.i (by unfold PGc; omega)]; exact y2
      rw [v2, v1]
      have fc1 : Fg PSc μ (wI (wI μc' 0 2 0) 0 3 (-1)) := ((fc0.tr (g0.mono fun a i q => by unfold PGc at q; unfold PSc; omega)).w (Or.inl ⟨rfl, Or.inr (Or.inl rfl)⟩) _).w (Or.inl ⟨rfl, Or.inr (Or.inr rfl)⟩) _
      have b2 : rI (wI (wI μc' 0 2 0) 0 3 (-1)) 0 2 = 0 := by rw [rI_ii (by decide), rI_same]
      have b3 : rI (wI (wI μc' 0 2 0) 0 3 (-1)) 0 3 = -1 := rI_same _ _ _ _
      have b1 : rI (wI (wI μc' 0 2 0) 0 3 (-1)) 0 1 = 0 := by
        rw [rI_ii (by decide), rI_ii (by decide), g0.i (by unfold PGc; omega), ← hX0, rI_ai (by decide), rI_ai (by decide), rI_ai (by decide), l6.i (by omega), p3.i (by omega), rI_same]
      -- which sea
      obtain ⟨_, νr, _, _, _, o⟩ := ref μ (fun k _ => rfl) t3
      have ⟨s', len, hSe0, hlen⟩ : ∃ s len, SEA μc' νr s len ∧ len ≤ 900 := by
        rcases o with ⟨_, o, _, _, _⟩ | ⟨e, _⟩
        · exact o
        · rw [eu] at e; exact absurd e (by decide)
      have hcs : CS μc' 14 s' := hSe0.CS hlen
      have hv := hSe0.1
      have hcs : CS (wI (wI μc' 0 2 0) 0 3 (-1)) 14 s' := hcs.congr fun k hk i => by rw [rI_ai (by omega), rI_ai (by omega)]
      have hcsA : ∀ s'', CS μc' 14 s'' → CS (wI (wI μc' 0 2 0) 0 3 (-1)) 14 s'' := fun s'' q => q.congr fun k hk i => by rw [rI_ai (by omega), rI_ai (by omega)]
      generalize wI (wI μc' 0 2 0) 0 3 (-1) = X1 at fc1 b1 b2 b3 hcs hcsA
      obtain ⟨X4, e1, e2, e3, e4, e5, e6⟩ := sea_tail (n := n) hv hcs hn
      have fcE : Fg (fun a i => PSc a i ∨ (2 ≤ a ∧ a ≤ 12) ∨ (29 ≤ a ∧ a ≤ 31) ∨ (34 ≤ a ∧ a ≤ 40) ∨ (a = 48 ∧ i = 2)) μ X4 := (fc1.mono fun a i q => Or.inl q).tr (e6.mono fun a i q => Or.inr q)
      have r139 : ∀ a i, 139 ≤ a → rI X4 a i = rI μ a i := fun a i ha => fcE.i (by unfold PSc; omega)
      -- the reference
      obtain ⟨d7, μr', o1, o2, o3, o4⟩ := ref X4 (fun k _ => r139 142 k (by omega)) (by rw [r139 139 5 (by omega)]; exact t3)
      rcases o4 with ⟨_, ⟨s2, len2, hS2, hl2⟩, o5, _, o6⟩ | ⟨e, _⟩
      · obtain ⟨μ2, i1, i2, i3, i4, i5⟩ := end_good (n := n) o5 hn
        obtain ⟨X5, f1, f2, f3, f4, f5, f6⟩ := sea_tail (n := n) hS2.1 (hcsA s2 (hS2.CS hl2)) hn
        have ee := Option.some.inj (e1.symm.trans f1)
        have eX : X4 = X5 := congrArg Prod.snd ee
        have er : nI (s' 0 4) = nI (s2 0 4) := congrArg Prod.fst ee
        subst eX
        have r0 : rI μr' 143 0 = nI (s2 0 4) := hS2.2.2.1.1
        have fr : Fg (fun a i => (a = 139 ∧ i ≠ 19) ∨ (a = 140 ∧ i < 2242) ∨ a = 143) X4 μ2 := ((o1.mono fun a i q => by unfold PSr at q; omega).tr (o6.mono fun a i q => by unfold PBr PN at q; omega)).tr (i5.mono fun a i q => by omega)
        have k5 : rI μ2 139 5 = 0 := by rw [i5.i (by omega), o6.i (by unfold PBr PN; omega)]; exact o2
        obtain ⟨j1, j2, j3⟩ := hS2.R hl2 i2
        refine ⟨nI (s' 0 4), X4, μ2, e1, by rw [o3, i1, r0, ← er], s2, begS s2, 0, h, ⟨hS2.1, begS_TV hS2.1, ?_, fun j hj => absurd hj (Nat.not_lt_zero _)⟩, ⟨?_, ?_, ?_, ?_⟩, ⟨j1, j2, ⟨j3, by omega, fun j hj => absurd hj (Nat.not_lt_zero _)⟩, ?_⟩, ?_, ?_, ?_⟩
        · have := hS2.1.2.2.2.2.2.2.2.2.2.1
          show s2 0 8 ≤ _
          omega
        · exact f2.congr fun k hk i => fr.i (by omega)
        · exact f3.congr fun a h1 h2 i => fr.i (by omega)
        · exact f4.congr fun k hk i => fr.i (by omega)
        · obtain ⟨-, -, -, q, h4, h5, -⟩ := hC
          exact ⟨q, h4, by rw [fr.i (by omega), fcE.i (by unfold PSc; omega)]; exact h5, by rw [fr.i (by omega)]; exact f5, by omega, fun j hj => absurd hj (Nat.not_lt_zero _)⟩
        · rw [fr.i (by omega), r139 139 19 (by omega)]; exact hR.2.2.2
        · exact (hT.fg fcE (fun x i hx q => by unfold PSc at q; omega)).fg fr (fun x i hx q => by omega)
        · refine ⟨0, by omega, ?_, k5, fun j hj => absurd hj (Nat.not_lt_zero _), ?_, ?_⟩
          · rw [fr.i (by omega), e6.i (by omega)]; exact b1
          · rw [fr.i (by omega), e6.i (by omega), b2, i3]
          · rw [fr.i (by omega), e6.i (by omega), b3, i4]
        · exact (hG.fg fcE (Nat.le_refl _) (fun x i hx q => by unfold PSc at q; omega)).fg fr (by omega) (fun x i hx q => by omega)
      · rw [eu] at e; exact absurd e (by decide)
    · -- a fault
      rw [if_pos eu]
      have v2 : rI (wI μc' 0 2 (rI μc' 13 1)) 13 2 = rI μc' 13 2 := by rw [rI_ai (by decide)]
      have v3 : rI (wI (wI μc' 0 2 (rI μc' 13 1)) 0 3 (rI μc' 13 2)) 0 2 = rI μc' 13 1 := by rw [rI_ii (by decide), rI_same]
      rw [v2, v3]
      have fc1 : Fg PSc μ (wI (wI μc' 0 2 (rI μc' 13 1)) 0 3 (rI μc' 13 2)) := ((fc0.tr (hbd.2.2.2.1.mono fun a i q => by unfold PBc at q; unfold PSc; omega)).w (Or.inl ⟨rfl, Or.inr (Or.inl rfl)⟩) _).w (Or.inl ⟨rfl, Or.inr (Or.inr rfl)⟩) _
      have b3 : rI (wI (wI μc' 0 2 (rI μc' 13 1)) 0 3 (rI μc' 13 2)) 0 3 = rI μc' 13 2 := rI_same _ _ _ _
      have b1 : rI (wI (wI μc' 0 2 (rI μc' 13 1)) 0 3 (rI μc' 13 2)) 0 1 = 0 := by
        rw [rI_ii (by decide), rI_ii (by decide), hbd.2.2.2.1.i (by unfold PBc; omega), ← hX0, rI_ai (by decide), rI_ai (by decide), rI_ai (by decide), l6.i (by omega), p3.i (by omega), rI_same]
      generalize wI (wI μc' 0 2 (rI μc' 13 1)) 0 3 (rI μc' 13 2) = X1 at fc1 b1 v3 b3
      have r139 : ∀ a i, 139 ≤ a → rI X1 a i = rI μ a i := fun a i ha => fc1.i (by unfold PSc; omega)
      obtain ⟨d7, μr', o1, o2, o3, o4⟩ := ref X1 (fun k _ => r139 142 k (by omega)) (by rw [r139 139 5 (by omega)]; exact t3)
      rcases o4 with ⟨e, _⟩ | ⟨_, o5⟩
      · rw [eu] at e; exact absurd e (by decide)
      · have fr : Fg (fun a i => (a = 139 ∧ i ≠ 19) ∨ a = 143) X1 (wI (wI μr' 139 13 (rI μr' 139 11)) 139 14 (rI μr' 139 12)) := (((o1.mono fun a i q => by unfold PSr at q; omega).tr (o5.2.2.2.2.mono fun a i q => by unfold PBr PN at q; omega)).w (Or.inl ⟨rfl, by omega⟩) _).w (Or.inl ⟨rfl, by omega⟩) _
        refine ⟨-30 - rI μc' 13 1, X1, _, rfl, by rw [o3, end_bad o5.1, o5.2.1], s, t, m, h, hV', ?_, ?_, ?_, ?_, ?_⟩
        · exact (hC.sea fc1 (fun x i hx q => by unfold PSc at q; omega)).sea fr (fun x i hx q => by omega)
        · exact (hR.fg hV fc1 (fun i q => by unfold PSc at q; omega) (fun q => by unfold PSc at q; omega)).fg hV fr (fun i q => by omega) (by omega)
        · exact (hT.fg fc1 (fun x i hx q => by unfold PSc at q; omega)).fg fr (fun x i hx q => by omega)
        · refine ⟨0, by omega, ?_, ?_, fun j hj => absurd hj (Nat.not_lt_zero _), ?_, ?_⟩
          · rw [fr.i (by omega)]; exact b1
          · rw [rI_ii (by decide), rI_ii (by decide), o5.2.2.2.2.i (by unfold PBr PN; omega)]; exact o2
          · rw [fr.i (by omega), v3, rI_ii (by decide), rI_same, o5.2.1]
          · rw [fr.i (by omega), b3, rI_same, o5.2.2.1]
        · exact (hG.fg fc1 (Nat.le_refl _) (fun x i hx q => by unfold PSc at q; omega)).fg fr (by omega) (fun x i hx q => by omega)
  · have fR : Fg (fun a i => a = 139 ∧ i = 0) μ (wI μ 139 0 0) := (Fg.rfl' _ _).w ⟨rfl, rfl⟩ _
    have w5 : rI (wI μ 139 0 0) 139 5 = nI T := by rw [rI_ii (by decide)]; exact t3
    refine ⟨-3, μ, wI μ 139 0 0, ?_, ?_, s, t, m, h, hV', ?_, ?_, ?_, ?_, ?_⟩
    · unfold fX11_sea
      rw [t2]
      by_cases c1 : x < 0
      · rw [if_pos c1]
      · rw [if_neg c1, if_neg (fun q => c ⟨Int32.not_lt.mp c1, q⟩)]
    · unfold fX12_sea
      rw [w5, f_within, bnd_some, ifb, if_neg (fun q => c (by
        obtain ⟨q1, q2⟩ := of_decide_eq_true q
        exact ⟨i64_mono' q1, i64_mono' q2⟩))]
    · exact hC.fg fR (fun x i hx q => by omega)
    · exact hR.fg hV fR (fun i => by omega) (by omega)
    · exact hT.fg fR (fun x i hx q => by omega)
    · exact TAP.fg ⟨T, t1, t2, t3, t4, t5, t6⟩ fR (fun x i hx q => by omega)
    · exact hG.fg fR (by omega) (fun x i hx q => by omega)
