/-! THE READER: units, all of an expression -/
theorem cmp_cases {n N i : Nat} {B : Nat → Nat} {μ : Mu} (hb : ∀ k, k < N → B k < 256) : (kK B N i = 39 ∧ fX5_comparing n (ckI B N (tkP B N i)) μ = some 1014) ∨ (kK B N i = 40 ∧ fX5_comparing n (ckI B N (tkP B N i)) μ = some 1015) ∨ (kK B N i = 41 ∧ fX5_comparing n (ckI B N (tkP B N i)) μ = some 1016) ∨ (kK B N i ≠ 39 ∧ kK B N i ≠ 40 ∧ kK B N i ≠ 41 ∧ fX5_comparing n (ckI B N (tkP B N i)) μ = some (-1)) := by
  have tl := tkP_le (B := B) (N := N) i
  have o1 : ckI B N (tkP B N i) = 61 ↔ kK B N i = 39 := ck_sign (k := 9) tl hb (by omega)
  have o2 : ckI B N (tkP B N i) = 60 ↔ kK B N i = 40 := ck_sign (k := 10) tl hb (by omega)
  have o3 : ckI B N (tkP B N i) = 62 ↔ kK B N i = 41 := ck_sign (k := 11) tl hb (by omega)
  unfold fX5_comparing
  by_cases e2 : kK B N i = 40
  · exact Or.inr (Or.inl ⟨e2, by rw [if_pos (o2.mpr e2)]⟩)
  · rw [if_neg (fun q => e2 (o2.mp q))]
    by_cases e1 : kK B N i = 39
    · exact Or.inl ⟨e1, by rw [if_pos (o1.mpr e1)]⟩
    · rw [if_neg (fun q => e1 (o1.mp q))]
      by_cases e3 : kK B N i = 41
      · exact Or.inr (Or.inr (Or.inl ⟨e3, by rw [if_pos (o3.mpr e3)]⟩))
      · exact Or.inr (Or.inr (Or.inr ⟨e1, e2, e3, by rw [if_neg (fun q => e3 (o3.mp q))]⟩))
theorem r_cmp {n N i : Nat} {B : Nat → Nat} {μ m : Mu} {Fr : Nat → Int32 → Mu → Option Mu} {x1 s0 : Int32} (h : RK μ B N i) (hb : ∀ k, k < N → B k < 256) (e : kK B N i = 39 ∨ kK B N i = 40 ∨ kK B N i = 41) (g : fX12_next n μ = some m) : jX12_readUnit_111 n Fr x1 s0 μ = jX12_readUnit_151 n Fr x1 s0 m := by
  have i1 : fX12_is n 39 μ = some (if kK B N i = 39 then 1 else 0) := r_is (x := 39) h (by omega) hb
  have i2 : fX12_is n 40 μ = some (if kK B N i = 40 then 1 else 0) := r_is (x := 40) h (by omega) hb
  have i3 : fX12_is n 41 μ = some (if kK B N i = 41 then 1 else 0) := r_is (x := 41) h (by omega) hb
  have j : ∀ s, jX12_readUnit_139 n Fr x1 s μ = jX12_readUnit_151 n Fr x1 s m := fun s => by
    unfold jX12_readUnit_139
    rw [g, bnd_some]
  unfold jX12_readUnit_111
  rcases e with e | e | e
  · rw [i1, if_pos e, bnd_some, if_neg (by decide), j]
  · rw [i1, if_neg (by omega), bnd_some, if_pos rfl, i2, if_pos e, bnd_some, if_neg (by decide), j]
  · rw [i1, if_neg (by omega), bnd_some, if_pos rfl, i2, if_neg (by omega), bnd_some, if_pos rfl, i3, if_pos e, bnd_some, if_neg (by decide), j]
theorem lv_unit {n N M l H x : Nat} {B : Nat → Nat} {Fc : Nat → Int32 → Mu → Option (Int32 × Mu)} {Fr : Nat → Int32 → Mu → Option Mu} (hD : KD B N M) (hl : l < 3) (hn : 1000 < n) (hx : x ≤ 6) (hH : 1 ≤ H) (hF3 : HF B N M l false H (Fc 3 (nI x)) (Fr 3 (nI x))) (hF2 : x < 6 → HF B N M l true H (Fc 2 (nI (x + 1))) (Fr 2 (nI (x + 1)))) (hF0 : x < 6 → HF B N M l true H (Fc 0 (nI (x + 1))) (Fr 0 (nI (x + 1)))) (hW : ∀ μ, rI μ 139 11 ≠ 0 → Fr 3 (nI x) μ = some μ) : HF B N M l true (H + 1) (bX5_unit n Fc (nI x)) (bX12_readUnit n Fr (nI x)) := by
  intro i len μc μr hX hR hle
  have hM := hD.2.1
  have hb := hD.2.2.1
  have kl := kK_le (i := i) hb
  have hk := c_kind (n := n) hD hX.1
  have tl := tkP_le (B := B) (N := N) i
  have x1e : nI x + 1 = nI (x + 1) := nI_add x 1
  have oN : ckI B N (tkP B N i) = 215 ↔ kK B N i = 21 := ck_word (K := 21) tl hb (by omega)
  have oP : ckI B N (tkP B N i) = 91 ↔ kK B N i = 37 := ck_sign (k := 7) tl hb (by omega)
  have i21 : fX12_is n 21 μr = some (if kK B N i = 21 then 1 else 0) := r_is (x := 21) hR.1 (by omega) hb
  have i37 : fX12_is n 37 μr = some (if kK B N i = 37 then 1 else 0) := r_is (x := 37) hR.1 (by omega) hb
  unfold bX5_unit bX12_readUnit
  by_cases e1 : kK B N i = 21
  · rcases deeper (n := n) hD hX hR hx (by omega) (by omega) hn with ⟨x6, μrn, d1, d2, d3⟩ | ⟨μc', μr', d1, d2, d3⟩
    · obtain ⟨u, μc1, μr1, f1, f2, f3⟩ := hF2 x6 (i + 1) len _ _ d3.2.2.1 d3.2.2.2.1 (by omega)
      rcases f3 with ⟨fu, i', ds, p1, p2, p3, p4⟩ | ⟨fu, hbd⟩
      · have a : ACC B N M l i len i' ds μc μr μc1 μr1 := d3.app p4 p2
        have p41 := p4.2.1
        obtain ⟨μc2, μr2, k1, k2, k3⟩ := a.code (n := n) (c := 3006) (by omega) hl hle hM
        have k1 : fX3_add n 21 (rI μc1 13 5) 1010 μc1 = some μc2 := k1
        have k2 : fX12_codes n 3006 μr1 = some μr2 := k2
        refine ⟨1, μc2, μr2, ?_, ?_, Or.inl ⟨rfl, i', ds ++ [3006], by omega, by rw [List.length_append]; exact Nat.succ_pos _, (p3.no hH).mono (by omega), k3⟩⟩
        · rw [hk, bnd_some, if_pos (oN.mpr e1), d1, bnd2_some, if_neg (by decide), x1e, f1, bnd2_some, fu, if_neg (by decide), k1, bnd_some]
        · rw [i21, if_pos e1, bnd_some, if_neg (by decide), d2, bnd2_some, if_neg (by decide), x1e, f2, bnd_some, k2, bnd_some]
      · refine ⟨0, μc1, μr1, ?_, ?_, Or.inr ⟨rfl, d3.bad hbd⟩⟩
        · rw [hk, bnd_some, if_pos (oN.mpr e1), d1, bnd2_some, if_neg (by decide), x1e, f1, bnd2_some, if_pos fu]
        · rw [i21, if_pos e1, bnd_some, if_neg (by decide), d2, bnd2_some, if_neg (by decide), x1e, f2, bnd_some, codes_W hbd.1, bnd_some]
    · refine ⟨0, μc', μr', ?_, ?_, Or.inr ⟨rfl, d3⟩⟩
      · rw [hk, bnd_some, if_pos (oN.mpr e1), d1, bnd2_some, if_pos rfl]
      · rw [i21, if_pos e1, bnd_some, if_neg (by decide), d2, bnd2_some, if_pos rfl]
  · by_cases e5 : kK B N i = 37
    · rcases deeper (n := n) hD hX hR hx (by omega) (by omega) hn with ⟨x6, μrn, d1, d2, d3⟩ | ⟨μc', μr', d1, d2, d3⟩
      · obtain ⟨u, μc1, μr1, f1, f2, f3⟩ := hF0 x6 (i + 1) len _ _ d3.2.2.1 d3.2.2.2.1 (by omega)
        rcases f3 with ⟨fu, i', ds, p1, p2, p3, p4⟩ | ⟨fu, hbd⟩
        · have a : ACC B N M l i len i' ds μc μr μc1 μr1 := d3.app p4 p2
          have oC : ckI B N (tkP B N i') = 93 ↔ kK B N i' = 38 := ck_sign (k := 8) (tkP_le (B := B) (N := N) i') hb (by omega)
          rcases closes (n := n) hD a oC (by omega) (by omega) (by omega) hn with ⟨μr2, k1, k2, k3⟩ | ⟨μc2, μr2, k1, k2, k3, k4⟩
          · have k2 : fX12_eats n 38 μr1 = some (1, μr2) := k2
            refine ⟨1, _, μr2, ?_, ?_, Or.inl ⟨rfl, i' + 1, ds, by omega, p2, p3.mono (by omega), k3⟩⟩
            · rw [hk, bnd_some, if_neg (fun q => e1 (oN.mp q)), bnd_some, if_pos (oP.mpr e5), d1, bnd2_some, if_neg (by decide), x1e, f1, bnd2_some, fu, if_neg (by decide), k1, bnd2_some, if_neg (by decide)]
            · rw [i21, if_neg e1, bnd_some, if_pos rfl, i37, if_pos e5, bnd_some, if_neg (by decide), d2, bnd2_some, if_neg (by decide), x1e, f2, bnd_some, k2, bnd2_some, if_neg (by decide)]
          · have k2 : fX12_eats n 38 μr1 = some (0, μr1) := k2
            refine ⟨0, μc2, μr2, ?_, ?_, Or.inr ⟨rfl, k4⟩⟩
            · rw [hk, bnd_some, if_neg (fun q => e1 (oN.mp q)), bnd_some, if_pos (oP.mpr e5), d1, bnd2_some, if_neg (by decide), x1e, f1, bnd2_some, fu, if_neg (by decide), k1, bnd2_some, if_pos rfl]
            · rw [i21, if_neg e1, bnd_some, if_pos rfl, i37, if_pos e5, bnd_some, if_neg (by decide), d2, bnd2_some, if_neg (by decide), x1e, f2, bnd_some, k2, bnd2_some, if_pos rfl, k3, bnd_some]
        · refine ⟨0, μc1, μr1, ?_, ?_, Or.inr ⟨rfl, d3.bad hbd⟩⟩
          · rw [hk, bnd_some, if_neg (fun q => e1 (oN.mp q)), bnd_some, if_pos (oP.mpr e5), d1, bnd2_some, if_neg (by decide), x1e, f1, bnd2_some, if_pos fu]
          · rw [i21, if_neg e1, bnd_some, if_pos rfl, i37, if_pos e5, bnd_some, if_neg (by decide), d2, bnd2_some, if_neg (by decide), x1e, f2, bnd_some, r_eatsW hbd.1, bnd2_some, if_pos rfl, r_failsW hbd.1, bnd_some]
      · refine ⟨0, μc', μr', ?_, ?_, Or.inr ⟨rfl, d3⟩⟩
        · rw [hk, bnd_some, if_neg (fun q => e1 (oN.mp q)), bnd_some, if_pos (oP.mpr e5), d1, bnd2_some, if_pos rfl]
        · rw [i21, if_neg e1, bnd_some, if_pos rfl, i37, if_pos e5, bnd_some, if_neg (by decide), d2, bnd2_some, if_pos rfl]
    · rw [hk, bnd_some, if_neg (fun q => e1 (oN.mp q)), bnd_some, if_neg (fun q => e5 (oP.mp q)), i21, if_neg e1, bnd_some, if_pos rfl, i37, if_neg e5, bnd_some, if_pos rfl]
      obtain ⟨u, μc1, μr1, f1, f2, f3⟩ := hF3 i len μc μr hX hR hle
      rw [f1, bnd2_some, f2, bnd_some]
      rcases f3 with ⟨fu, i', ds, p1, p2, p3, p4⟩ | ⟨fu, hbd⟩
      · rw [fu, if_neg (by decide), c_kind (n := n) hD p4.2.2.1.1, bnd_some]
        have kl' := kK_le (i := i') hb
        have hi' := p4.2.2.1.1.2.1
        have j1 : fX12_is n 39 μr1 = some (if kK B N i' = 39 then 1 else 0) := r_is (x := 39) p4.2.2.2.1.1 (by omega) hb
        have j2 : fX12_is n 40 μr1 = some (if kK B N i' = 40 then 1 else 0) := r_is (x := 40) p4.2.2.2.1.1 (by omega) hb
        have j3 : fX12_is n 41 μr1 = some (if kK B N i' = 41 then 1 else 0) := r_is (x := 41) p4.2.2.2.1.1 (by omega) hb
        have fin : ∀ op : Nat, (kK B N i' = 39 ∨ kK B N i' = 40 ∨ kK B N i' = 41) → 3003 ≤ op → op ≤ 3005 → EXPR B N M l true (H + 1) i len μc μr (bnd2 (Fc 3 (nI x) (wI μc1 13 4 ((rI μc1 13 4) + 1))) fun u18 m17 => if u18 = 0 then (some (0, m17)) else (bnd (fX3_add n 21 (rI m17 13 5) (nI (ccO l op)) m17) fun m21 => some (1, m21))) (jX12_readUnit_111 n Fr (nI x) (nI op) μr1) := fun op hk o1 o2 => by
          obtain ⟨μrn, g1, u, μc2, μr2, q1, q2, q3⟩ := bin_step (n := n) (op := op) hF3 p4 (p3.mono (by omega)) (hD.lt hi' (by omega) (by omega)) hn hl hle hM (by omega) (by omega) hH
          rw [r_cmp p4.2.2.2.1.1 hb hk g1]
          unfold jX12_readUnit_151
          rw [q1, bnd2_some, q2, bnd_some]
          rcases q3 with ⟨qu, i2, cs', μc3, μr3, z1, z2, z3, z4, z5, z6⟩ | ⟨qu, hbd⟩
          · rw [decide_eq_true o1] at z5
            exact ⟨1, μc3, μr3, by rw [qu, if_neg (by decide), z1, bnd_some], by rw [z2, bnd_some], Or.inl ⟨rfl, i2, cs', by omega, z4, z5, z6⟩⟩
          · exact ⟨0, μc2, μr2, by rw [if_pos qu], by rw [codes_W hbd.1, bnd_some], Or.inr ⟨rfl, hbd⟩⟩
        rcases cmp_cases (n := n) (i := i') (μ := μc1) hb with ⟨c1, c2⟩ | ⟨c1, c2⟩ | ⟨c1, c2⟩ | ⟨c1, c3, c4, c2⟩
        · rw [c2, bnd_some, if_neg (by decide), j1, if_pos c1, bnd_some, if_neg (by decide)]
          exact fin 3003 (Or.inl c1) (by omega) (by omega)
        · rw [c2, bnd_some, if_neg (by decide), j1, if_neg (by omega), bnd_some, if_pos rfl, j2, if_pos c1, bnd_some, if_neg (by decide)]
          exact fin 3004 (Or.inr (Or.inl c1)) (by omega) (by omega)
        · rw [c2, bnd_some, if_neg (by decide), j1, if_neg (by omega), bnd_some, if_pos rfl, j2, if_neg (by omega), bnd_some, if_pos rfl]
          exact fin 3005 (Or.inr (Or.inr c1)) (by omega) (by omega)
        · have w : rI (frI μr1 B N i' (if kK B N i' = 25 then 1 else 2)) 139 11 ≠ 0 := by
            unfold frI; rw [rI_ii (by decide), rI_same]; split <;> decide
          rw [c2, bnd_some, if_pos rfl, c_refuse hD p4.2.2.1.1, bnd2_some, j1, if_neg c1, bnd_some, if_pos rfl, j2, if_neg c3, bnd_some, if_pos rfl]
          unfold jX12_readUnit_111 jX12_readUnit_151
          rw [j1, if_neg c1, bnd_some, if_pos rfl, j2, if_neg c3, bnd_some, if_pos rfl, j3, if_neg c4, bnd_some, if_pos rfl, show fX12_fails n 2 μr1 = some (frI μr1 B N i' (if kK B N i' = 25 then 1 else 2)) from r_fails p4.2.2.2.1.1 hb, bnd_some, hW _ w, bnd_some, codes_W w, bnd_some]
          exact ⟨0, fbI μc1 B N i' (if kK B N i' = 25 then 1 else 2), _, rfl, rfl, Or.inr ⟨rfl, p4.bad (bad_here (M := M) (by split <;> decide) (Fg.rfl' _ _) (Fg.rfl' _ _))⟩⟩
      · rw [if_pos fu]
        unfold jX12_readUnit_111 jX12_readUnit_151
        simp only [r_isW hbd.1, bnd_some, if_true, r_failsW hbd.1, hW _ hbd.1, codes_W hbd.1]
        exact ⟨0, _, _, rfl, rfl, Or.inr ⟨rfl, hbd⟩⟩
theorem HF.mono {B : Nat → Nat} {N M l H H' : Nat} {ty : Bool} {Fc : Mu → Option (Int32 × Mu)} {Fr : Mu → Option Mu} (h : HF B N M l ty H Fc Fr) (hH : H ≤ H') : HF B N M l ty H' Fc Fr := fun i len μc μr a b c => by
  obtain ⟨u, μc', μr', e1, e2, e3⟩ := h i len μc μr a b c
  refine ⟨u, μc', μr', e1, e2, ?_⟩
  rcases e3 with ⟨eu, i', cs, d1, d2, d3, d4⟩ | e3
  · exact Or.inl ⟨eu, i', cs, d1, d2, d3.mono hH, d4⟩
  · exact Or.inr e3
theorem expr_all {n N M l : Nat} {B : Nat → Nat} (hD : KD B N M) (hl : l < 3) (hn : 1000 < n) : ∀ d k x, k ≤ 5 → x ≤ 6 → fuK k x ≤ d → HF B N M l (decide (k ≤ 2)) (htK k x) (fX5_P n d k (nI x)) (fX12_P n d k (nI x)) := by
  intro d
  induction d with
  | zero => intro k x hk hx h; unfold fuK at h; omega
  | succ d ih =>
    intro k x hk hx h
    unfold fuK at ih h
    unfold htK at ih ⊢
    match k, hk with
    | 0, _ =>
      exact (lv_truth (Fc := fX5_P n d) (Fr := fX12_P n d) (H := 3 * (6 - x) + (6 - 1)) hD hl hn (by omega) (ih 1 x (by omega) hx (by omega))).mono (by omega)
    | 1, _ =>
      exact (lv_both (Fc := fX5_P n d) (Fr := fX12_P n d) (H := 3 * (6 - x) + (6 - 2)) hD hl hn (by omega) (ih 2 x (by omega) hx (by omega))).mono (by omega)
    | 2, _ =>
      exact (lv_unit (Fc := fX5_P n d) (Fr := fX12_P n d) (H := 3 * (6 - x) + (6 - 3)) hD hl hn hx (by omega) (ih 3 x (by omega) hx (by omega)) (fun q => (ih 2 (x + 1) (by omega) (by omega) (by omega)).mono (by omega)) (fun q => (ih 0 (x + 1) (by omega) (by omega) (by omega)).mono (by omega)) (fun μ w => P_W (by omega) d 3 _ μ w (by omega) (by omega))).mono (by omega)
    | 3, _ =>
      exact (lv_sum (Fc := fX5_P n d) (Fr := fX12_P n d) (H := 3 * (6 - x) + (6 - 4)) hD hl hn (by omega) (ih 4 x (by omega) hx (by omega))).mono (by omega)
    | 4, _ =>
      exact (lv_term (Fc := fX5_P n d) (Fr := fX12_P n d) (H := 3 * (6 - x) + (6 - 5)) hD hl hn (by omega) (ih 5 x (by omega) hx (by omega))).mono (by omega)
    | 5, _ =>
      exact (lv_atom (Fc := fX5_P n d) (Fr := fX12_P n d) hD hl hn hx (fun q => (ih 3 (x + 1) (by omega) (by omega) (by omega)).mono (by omega)))
