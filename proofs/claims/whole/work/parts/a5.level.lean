/-! THE READER: the levels of an expression -/
theorem lv_truth {n N M l H : Nat} {B : Nat → Nat} {Fc : Nat → Int32 → Mu → Option (Int32 × Mu)} {Fr : Nat → Int32 → Mu → Option Mu} {x1 : Int32} (hD : KD B N M) (hl : l < 3) (hn : 1000 < n) (hH : 1 ≤ H) (hF : HF B N M l true H (Fc 1 x1) (Fr 1 x1)) : HF B N M l true (H + 1) (bX5_truth n Fc x1) (bX12_readTruth n Fr x1) := by
  intro i len μc μr hX hR hle
  unfold bX5_truth bX12_readTruth
  refine chain_all hF hX hR hle hD.2.1 hn (fun μ h => ?_) (fun c i' cs μc' μr' hc hi hcs hsg ha => ?_)
  · show (bnd2 (fX12_eats n 20 μ) _) = _
    rw [r_eatsW h, bnd2_some, if_pos rfl]
  · have hM := hD.2.1
    have hi2 := ha.2.2.1.1.2.1
    have hk := c_kind (n := n) hD ha.2.2.1.1
    have o : ckI B N (tkP B N i') = 213 ↔ kK B N i' = 20 := ck_word (K := 20) (tkP_le (B := B) (N := N) i') hD.2.2.1 (by omega)
    have c9 : ¬ (900 : Int32) ≤ nI c := fun e => by have : 900 ≤ c := (le_l (k := 900) (by decide) (by omega)).mp e; omega
    by_cases e : kK B N i' = 20
    · obtain ⟨μrn, g1, u, μc1, μr1, e1, e2, e3⟩ := bin_step (n := n) (op := 3008) hF ha hsg (hD.lt hi2 (by omega) (by omega)) hn hl hle hM (by omega) (by intro _; rfl) hH
      have ee : fX12_eats n 20 μr' = some (1, μrn) := r_eats' (K := 20) ha.2.2.2.1.1 (by omega) hD.2.2.1 e g1
      have oc : nI (ccO l 3008) = 1018 := rfl
      have oq : nI 3008 = 3008 := rfl
      rcases e3 with ⟨eu, i2, cs', μc2, μr2, f1, f2, f3, f4, f5, f6⟩ | ⟨eu, hb⟩
      · rw [oc] at f1
        rw [oq] at f2
        refine Or.inr (Or.inl ⟨i2, cs', μc2, μr2, ?_, ?_, f3, f4, f5, f6⟩)
        · show (if (900 : Int32) ≤ nI c then _ else _) = _
          rw [if_neg c9, hk, bnd_some, if_pos (o.mpr e), e1, bnd2_some, eu, if_neg (by decide), f1, bnd_some, show nI c + 1 = nI (c + 1) from nI_add c 1]
        · show (bnd2 (fX12_eats n 20 μr') _) = _
          rw [ee, bnd2_some, if_neg (by decide), e2, bnd_some, f2, bnd_some]
      · refine Or.inr (Or.inr ⟨μc1, μr1, ?_, ?_, hb⟩)
        · show (if (900 : Int32) ≤ nI c then _ else _) = _
          rw [if_neg c9, hk, bnd_some, if_pos (o.mpr e), e1, bnd2_some, if_pos eu]
        · show (bnd2 (fX12_eats n 20 μr') _) = _
          rw [ee, bnd2_some, if_neg (by decide), e2, bnd_some, codes_W hb.1, bnd_some]
    · refine Or.inl ⟨?_, ?_⟩
      · show (if (900 : Int32) ≤ nI c then _ else _) = _
        rw [if_neg c9, hk, bnd_some, if_neg (fun q => e (o.mp q))]
      · show (bnd2 (fX12_eats n 20 μr') _) = _
        rw [show fX12_eats n 20 μr' = some (0, μr') from r_eatsN (K := 20) ha.2.2.2.1.1 (by omega) hD.2.2.1 e, bnd2_some, if_pos rfl]
theorem lv_both {n N M l H : Nat} {B : Nat → Nat} {Fc : Nat → Int32 → Mu → Option (Int32 × Mu)} {Fr : Nat → Int32 → Mu → Option Mu} {x1 : Int32} (hD : KD B N M) (hl : l < 3) (hn : 1000 < n) (hH : 1 ≤ H) (hF : HF B N M l true H (Fc 2 x1) (Fr 2 x1)) : HF B N M l true (H + 1) (bX5_both n Fc x1) (bX12_readBoth n Fr x1) := by
  intro i len μc μr hX hR hle
  unfold bX5_both bX12_readBoth
  refine chain_all hF hX hR hle hD.2.1 hn (fun μ h => ?_) (fun c i' cs μc' μr' hc hi hcs hsg ha => ?_)
  · show (bnd2 (fX12_eats n 19 μ) _) = _
    rw [r_eatsW h, bnd2_some, if_pos rfl]
  · have hM := hD.2.1
    have hi2 := ha.2.2.1.1.2.1
    have hk := c_kind (n := n) hD ha.2.2.1.1
    have o : ckI B N (tkP B N i') = 214 ↔ kK B N i' = 19 := ck_word (K := 19) (tkP_le (B := B) (N := N) i') hD.2.2.1 (by omega)
    have c9 : ¬ (900 : Int32) ≤ nI c := fun e => by have : 900 ≤ c := (le_l (k := 900) (by decide) (by omega)).mp e; omega
    by_cases e : kK B N i' = 19
    · obtain ⟨μrn, g1, u, μc1, μr1, e1, e2, e3⟩ := bin_step (n := n) (op := 3007) hF ha hsg (hD.lt hi2 (by omega) (by omega)) hn hl hle hM (by omega) (by intro _; rfl) hH
      have ee : fX12_eats n 19 μr' = some (1, μrn) := r_eats' (K := 19) ha.2.2.2.1.1 (by omega) hD.2.2.1 e g1
      have oc : nI (ccO l 3007) = 1017 := rfl
      have oq : nI 3007 = 3007 := rfl
      rcases e3 with ⟨eu, i2, cs', μc2, μr2, f1, f2, f3, f4, f5, f6⟩ | ⟨eu, hb⟩
      · rw [oc] at f1
        rw [oq] at f2
        refine Or.inr (Or.inl ⟨i2, cs', μc2, μr2, ?_, ?_, f3, f4, f5, f6⟩)
        · show (if (900 : Int32) ≤ nI c then _ else _) = _
          rw [if_neg c9, hk, bnd_some, if_pos (o.mpr e), e1, bnd2_some, eu, if_neg (by decide), f1, bnd_some, show nI c + 1 = nI (c + 1) from nI_add c 1]
        · show (bnd2 (fX12_eats n 19 μr') _) = _
          rw [ee, bnd2_some, if_neg (by decide), e2, bnd_some, f2, bnd_some]
      · refine Or.inr (Or.inr ⟨μc1, μr1, ?_, ?_, hb⟩)
        · show (if (900 : Int32) ≤ nI c then _ else _) = _
          rw [if_neg c9, hk, bnd_some, if_pos (o.mpr e), e1, bnd2_some, if_pos eu]
        · show (bnd2 (fX12_eats n 19 μr') _) = _
          rw [ee, bnd2_some, if_neg (by decide), e2, bnd_some, codes_W hb.1, bnd_some]
    · refine Or.inl ⟨?_, ?_⟩
      · show (if (900 : Int32) ≤ nI c then _ else _) = _
        rw [if_neg c9, hk, bnd_some, if_neg (fun q => e (o.mp q))]
      · show (bnd2 (fX12_eats n 19 μr') _) = _
        rw [show fX12_eats n 19 μr' = some (0, μr') from r_eatsN (K := 19) ha.2.2.2.1.1 (by omega) hD.2.2.1 e, bnd2_some, if_pos rfl]
theorem lv_term {n N M l H : Nat} {B : Nat → Nat} {Fc : Nat → Int32 → Mu → Option (Int32 × Mu)} {Fr : Nat → Int32 → Mu → Option Mu} {x1 : Int32} (hD : KD B N M) (hl : l < 3) (hn : 1000 < n) (hH : 1 ≤ H) (hF : HF B N M l false H (Fc 5 x1) (Fr 5 x1)) : HF B N M l false (H + 1) (bX5_term n Fc x1) (bX12_readTerm n Fr x1) := by
  intro i len μc μr hX hR hle
  unfold bX5_term bX12_readTerm
  refine chain_all hF hX hR hle hD.2.1 hn (fun μ h => ?_) (fun c i' cs μc' μr' hc hi hcs hsg ha => ?_)
  · show (bnd2 (fX12_eats n 34 μ) _) = _
    rw [r_eatsW h, bnd2_some, if_pos rfl]
  · have hM := hD.2.1
    have hi2 := ha.2.2.1.1.2.1
    have hk := c_kind (n := n) hD ha.2.2.1.1
    have o : ckI B N (tkP B N i') = 42 ↔ kK B N i' = 34 := ck_sign (k := 4) (tkP_le (B := B) (N := N) i') hD.2.2.1 (by omega)
    have c9 : ¬ (900 : Int32) ≤ nI c := fun e => by have : 900 ≤ c := (le_l (k := 900) (by decide) (by omega)).mp e; omega
    by_cases e : kK B N i' = 34
    · obtain ⟨μrn, g1, u, μc1, μr1, e1, e2, e3⟩ := bin_step (n := n) (op := 3002) hF ha hsg (hD.lt hi2 (by omega) (by omega)) hn hl hle hM (by omega) (by omega) hH
      have ee : fX12_eats n 34 μr' = some (1, μrn) := r_eats' (K := 34) ha.2.2.2.1.1 (by omega) hD.2.2.1 e g1
      have oc : nI (ccO l 3002) = 1013 := rfl
      have oq : nI 3002 = 3002 := rfl
      rcases e3 with ⟨eu, i2, cs', μc2, μr2, f1, f2, f3, f4, f5, f6⟩ | ⟨eu, hb⟩
      · rw [oc] at f1
        rw [oq] at f2
        refine Or.inr (Or.inl ⟨i2, cs', μc2, μr2, ?_, ?_, f3, f4, f5, f6⟩)
        · show (if (900 : Int32) ≤ nI c then _ else _) = _
          rw [if_neg c9, hk, bnd_some, if_pos (o.mpr e), e1, bnd2_some, eu, if_neg (by decide), f1, bnd_some, show nI c + 1 = nI (c + 1) from nI_add c 1]
        · show (bnd2 (fX12_eats n 34 μr') _) = _
          rw [ee, bnd2_some, if_neg (by decide), e2, bnd_some, f2, bnd_some]
      · refine Or.inr (Or.inr ⟨μc1, μr1, ?_, ?_, hb⟩)
        · show (if (900 : Int32) ≤ nI c then _ else _) = _
          rw [if_neg c9, hk, bnd_some, if_pos (o.mpr e), e1, bnd2_some, if_pos eu]
        · show (bnd2 (fX12_eats n 34 μr') _) = _
          rw [ee, bnd2_some, if_neg (by decide), e2, bnd_some, codes_W hb.1, bnd_some]
    · refine Or.inl ⟨?_, ?_⟩
      · show (if (900 : Int32) ≤ nI c then _ else _) = _
        rw [if_neg c9, hk, bnd_some, if_neg (fun q => e (o.mp q))]
      · show (bnd2 (fX12_eats n 34 μr') _) = _
        rw [show fX12_eats n 34 μr' = some (0, μr') from r_eatsN (K := 34) ha.2.2.2.1.1 (by omega) hD.2.2.1 e, bnd2_some, if_pos rfl]
theorem lv_sum {n N M l H : Nat} {B : Nat → Nat} {Fc : Nat → Int32 → Mu → Option (Int32 × Mu)} {Fr : Nat → Int32 → Mu → Option Mu} {x1 : Int32} (hD : KD B N M) (hl : l < 3) (hn : 1000 < n) (hH : 1 ≤ H) (hF : HF B N M l false H (Fc 4 x1) (Fr 4 x1)) : HF B N M l false (H + 1) (bX5_sum n Fc x1) (bX12_readSum n Fr x1) := by
  intro i len μc μr hX hR hle
  unfold bX5_sum bX12_readSum
  refine chain_all hF hX hR hle hD.2.1 hn (fun μ h => ?_) (fun c i' cs μc' μr' hc hi hcs hsg ha => ?_)
  · show (bnd (fX12_is n 32 μ) _) = _
    rw [r_isW h, bnd_some, if_pos rfl, r_isW h, bnd_some, if_pos rfl]
  · have hM := hD.2.1
    have hi2 := ha.2.2.1.1.2.1
    have hk := c_kind (n := n) hD ha.2.2.1.1
    have o : ckI B N (tkP B N i') = 43 ↔ kK B N i' = 32 := ck_sign (k := 2) (tkP_le (B := B) (N := N) i') hD.2.2.1 (by omega)
    have o' : ckI B N (tkP B N i') = 45 ↔ kK B N i' = 33 := ck_sign (k := 3) (tkP_le (B := B) (N := N) i') hD.2.2.1 (by omega)
    have c9 : ¬ (900 : Int32) ≤ nI c := fun e => by have : 900 ≤ c := (le_l (k := 900) (by decide) (by omega)).mp e; omega
    have i1 : fX12_is n 32 μr' = some (if kK B N i' = 32 then 1 else 0) := r_is (x := 32) ha.2.2.2.1.1 (by omega) hD.2.2.1
    have i2 : fX12_is n 33 μr' = some (if kK B N i' = 33 then 1 else 0) := r_is (x := 33) ha.2.2.2.1.1 (by omega) hD.2.2.1
    have r9 : rI μr' 139 9 = nI (kK B N i') := ha.2.2.2.1.1.2.1.2.2.1
    by_cases e : kK B N i' = 32
    · obtain ⟨μrn, g1, u, μc1, μr1, e1, e2, e3⟩ := bin_step (n := n) (op := 3000) hF ha hsg (hD.lt hi2 (by omega) (by omega)) hn hl hle hM (by omega) (by omega) hH
      have oc : nI (ccO l 3000) = 1011 := rfl
      have oq : nI 3000 = 3000 := rfl
      have ro : (if rI μr' 139 9 = 32 then 3000 else 3001 : Int32) = 3000 := if_pos (by rw [r9, e]; rfl)
      rcases e3 with ⟨eu, j2, cs', μc2, μr2, f1, f2, f3, f4, f5, f6⟩ | ⟨eu, hb⟩
      · rw [oc] at f1
        rw [oq] at f2
        refine Or.inr (Or.inl ⟨j2, cs', μc2, μr2, ?_, ?_, f3, f4, f5, f6⟩)
        · show (if (900 : Int32) ≤ nI c then _ else _) = _
          unfold jX5_sum_37
          rw [if_neg c9, hk, bnd_some, if_pos (o.mpr e), bnd_some, e1, bnd2_some, eu, if_neg (by decide), if_pos (o.mpr e), f1, bnd_some, show nI c + 1 = nI (c + 1) from nI_add c 1]
        · show (bnd (fX12_is n 32 μr') _) = _
          unfold jX12_readSum_23
          rw [i1, if_pos e, bnd_some, if_neg (by decide), g1, bnd_some, e2, bnd_some, ro, f2, bnd_some]
      · refine Or.inr (Or.inr ⟨μc1, μr1, ?_, ?_, hb⟩)
        · show (if (900 : Int32) ≤ nI c then _ else _) = _
          unfold jX5_sum_37
          rw [if_neg c9, hk, bnd_some, if_pos (o.mpr e), bnd_some, e1, bnd2_some, if_pos eu]
        · show (bnd (fX12_is n 32 μr') _) = _
          unfold jX12_readSum_23
          rw [i1, if_pos e, bnd_some, if_neg (by decide), g1, bnd_some, e2, bnd_some, codes_W hb.1, bnd_some]
    · by_cases e' : kK B N i' = 33
      · obtain ⟨μrn, g1, u, μc1, μr1, e1, e2, e3⟩ := bin_step (n := n) (op := 3001) hF ha hsg (hD.lt hi2 (by omega) (by omega)) hn hl hle hM (by omega) (by omega) hH
        have oc : nI (ccO l 3001) = 1012 := rfl
        have oq : nI 3001 = 3001 := rfl
        have ro : (if rI μr' 139 9 = 32 then 3000 else 3001 : Int32) = 3001 := if_neg (by rw [r9, e']; decide)
        rcases e3 with ⟨eu, j2, cs', μc2, μr2, f1, f2, f3, f4, f5, f6⟩ | ⟨eu, hb⟩
        · rw [oc] at f1
          rw [oq] at f2
          refine Or.inr (Or.inl ⟨j2, cs', μc2, μr2, ?_, ?_, f3, f4, f5, f6⟩)
          · show (if (900 : Int32) ≤ nI c then _ else _) = _
            unfold jX5_sum_37
            rw [if_neg c9, hk, bnd_some, if_neg (fun q => e (o.mp q)), bnd_some, if_pos (o'.mpr e'), bnd_some, e1, bnd2_some, eu, if_neg (by decide), if_neg (fun q => e (o.mp q)), f1, bnd_some, show nI c + 1 = nI (c + 1) from nI_add c 1]
          · show (bnd (fX12_is n 32 μr') _) = _
            unfold jX12_readSum_23
            rw [i1, if_neg e, bnd_some, if_pos rfl, i2, if_pos e', bnd_some, if_neg (by decide), g1, bnd_some, e2, bnd_some, ro, f2, bnd_some]
        · refine Or.inr (Or.inr ⟨μc1, μr1, ?_, ?_, hb⟩)
          · show (if (900 : Int32) ≤ nI c then _ else _) = _
            unfold jX5_sum_37
            rw [if_neg c9, hk, bnd_some, if_neg (fun q => e (o.mp q)), bnd_some, if_pos (o'.mpr e'), bnd_some, e1, bnd2_some, if_pos eu]
          · show (bnd (fX12_is n 32 μr') _) = _
            unfold jX12_readSum_23
            rw [i1, if_neg e, bnd_some, if_pos rfl, i2, if_pos e', bnd_some, if_neg (by decide), g1, bnd_some, e2, bnd_some, codes_W hb.1, bnd_some]
      · refine Or.inl ⟨?_, ?_⟩
        · show (if (900 : Int32) ≤ nI c then _ else _) = _
          rw [if_neg c9, hk, bnd_some, if_neg (fun q => e (o.mp q)), bnd_some, if_neg (fun q => e' (o'.mp q))]
        · show (bnd (fX12_is n 32 μr') _) = _
          rw [i1, if_neg e, bnd_some, if_pos rfl, i2, if_neg e', bnd_some, if_pos rfl]
