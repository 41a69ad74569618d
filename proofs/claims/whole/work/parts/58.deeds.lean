/-! copies -/
theorem rI_cn {μ : Mu} {a sp c dp n b j : Nat} (h : b ≠ c) : rI (cpI μ a sp c dp n) b j = rI μ b j := by rw [rI_cp, if_neg (fun e => h e.1)]
theorem rI_cy {μ : Mu} {a c n j : Nat} (h : j < n) : rI (cpI μ a 0 c 0 n) c j = rI μ a j := by rw [rI_cp, if_pos ⟨rfl, by omega, by omega⟩]; simp
theorem acb_n {k n0 n1 : Nat} (h0 : k ≤ n0) (h1 : k ≤ n1) (hk : k < 2147483648) : acb 0 0 (nI k) n0 n1 = true := by
  unfold acb
  have e : ix (nI k) = k := ix_n hk
  have e0 : ix (0 : Int32) = 0 := rfl
  have z : ¬ nI k < 0 := Int32.not_lt.mpr (nI_pos' (by omega))
  have z0 : ¬ (0 : Int32) < 0 := by decide
  simp [e, e0, z, z0, h0, h1]
def cpS (μ : Mu) (a b k : Nat) : Mu := cpI (cpI (cpI (cpI (cpI (cpI (wI (wI (wI (wI μ a 0 (rI μ b 0)) a 1 (rI μ b 1)) a 2 (rI μ b 2)) a 3 (rI μ b 3)) (b + 1) 0 (a + 1) 0 8) (b + 2) 0 (a + 2) 0 8) (b + 3) 0 (a + 3) 0 8) (b + 4) 0 (a + 4) 0 8) (b + 5) 0 (a + 5) 0 k) (b + 6) 0 (a + 6) 0 6
theorem cpS_fr (μ : Mu) (a b k : Nat) : Fr (PS a) μ (cpS μ a b k) := by
  have p : ∀ j, j ≤ 6 → PS a (a + j) := fun j hj => by unfold PS; omega
  have p0 : PS a a := by unfold PS; omega
  exact (((((((((((Fr.rfl' _ _).w p0 _ _).w p0 _ _).w p0 _ _).w p0 _ _)).cp (p 1 (by omega)) _ _ _ _).cp (p 2 (by omega)) _ _ _ _).cp (p 3 (by omega)) _ _ _ _).cp (p 4 (by omega)) _ _ _ _).cp (p 5 (by omega)) _ _ _ _).cp (p 6 (by omega)) _ _ _ _
theorem cpS_CB {μ : Mu} {a b : Nat} {s : SD} {t : ST} (hab : a + 7 ≤ b ∨ b + 7 ≤ a) (hv : SV s) (hW : tW t ≤ 8) (h : CB μ b s t) : CB (cpS μ a b (tW t * 10)) a s t := by
  have hS := hv.2.2.2.1
  have hC := hv.2.1
  obtain ⟨h0, h1, h2, h3, h4, h5, h6⟩ := h
  have u0 : ∀ i, i < 4 → rI (cpS μ a b (tW t * 10)) a i = rI μ b i := by
    intro i hi
    unfold cpS
    rw [rI_cn (by omega), rI_cn (by omega), rI_cn (by omega), rI_cn (by omega), rI_cn (by omega), rI_cn (by omega)]
    rcases (show i = 0 ∨ i = 1 ∨ i = 2 ∨ i = 3 by omega) with rfl | rfl | rfl | rfl
    · rw [rI_ii (by decide), rI_ii (by decide), rI_ii (by decide), rI_same]
    · rw [rI_ii (by decide), rI_ii (by decide), rI_same]
    · rw [rI_ii (by decide), rI_same]
    · rw [rI_same]
  have u1 : ∀ i, i < 8 → rI (cpS μ a b (tW t * 10)) (a + 1) i = rI μ (b + 1) i := fun i hi => by
    unfold cpS
    rw [rI_cn (by omega), rI_cn (by omega), rI_cn (by omega), rI_cn (by omega), rI_cn (by omega), rI_cy hi, rI_ai (by omega), rI_ai (by omega), rI_ai (by omega), rI_ai (by omega)]
  have u2 : ∀ i, i < 8 → rI (cpS μ a b (tW t * 10)) (a + 2) i = rI μ (b + 2) i := fun i hi => by
    unfold cpS
    rw [rI_cn (by omega), rI_cn (by omega), rI_cn (by omega), rI_cn (by omega), rI_cy hi, rI_cn (by omega), rI_ai (by omega), rI_ai (by omega), rI_ai (by omega), rI_ai (by omega)]
  have u3 : ∀ i, i < 8 → rI (cpS μ a b (tW t * 10)) (a + 3) i = rI μ (b + 3) i := fun i hi => by
    unfold cpS
    rw [rI_cn (by omega), rI_cn (by omega), rI_cn (by omega), rI_cy hi, rI_cn (by omega), rI_cn (by omega), rI_ai (by omega), rI_ai (by omega), rI_ai (by omega), rI_ai (by omega)]
  have u4 : ∀ i, i < 8 → rI (cpS μ a b (tW t * 10)) (a + 4) i = rI μ (b + 4) i := fun i hi => by
    unfold cpS
    rw [rI_cn (by omega), rI_cn (by omega), rI_cy hi, rI_cn (by omega), rI_cn (by omega), rI_cn (by omega), rI_ai (by omega), rI_ai (by omega), rI_ai (by omega), rI_ai (by omega)]
  have u5 : ∀ i, i < tW t * 10 → rI (cpS μ a b (tW t * 10)) (a + 5) i = rI μ (b + 5) i := fun i hi => by
    unfold cpS
    rw [rI_cn (by omega), rI_cy hi, rI_cn (by omega), rI_cn (by omega), rI_cn (by omega), rI_cn (by omega), rI_ai (by omega), rI_ai (by omega), rI_ai (by omega), rI_ai (by omega)]
  have u6 : ∀ i, i < 6 → rI (cpS μ a b (tW t * 10)) (a + 6) i = rI μ (b + 6) i := fun i hi => by
    unfold cpS
    rw [rI_cy hi, rI_cn (by omega), rI_cn (by omega), rI_cn (by omega), rI_cn (by omega), rI_cn (by omega), rI_ai (by omega), rI_ai (by omega), rI_ai (by omega), rI_ai (by omega)]
  refine ⟨by rw [u0 0 (by omega)]; exact h0, by rw [u0 1 (by omega)]; exact h1, by rw [u0 2 (by omega)]; exact h2, by rw [u0 3 (by omega)]; exact h3, fun k hk => by rw [u1 k (by omega)]; exact h4 k hk, fun w hw => ?_, fun p hp => by rw [u6 p hp]; exact h6 p hp⟩
  rw [u2 w (by omega), u3 w (by omega), u4 w (by omega)]
  obtain ⟨x1, x2, x3, x4⟩ := h5 w hw
  exact ⟨x1, x2, x3, fun c hc hne => by rw [u5 _ (by omega)]; exact x4 c hc hne⟩
set_option maxRecDepth 100000 in
set_option maxHeartbeats 4000000 in
theorem f_copyFrom {n a b : Nat} {μ : Mu} {s : SD} {t : ST} (hab : a + 7 ≤ b ∨ b + 7 ≤ a) (hv : SV s) (hW : tW t ≤ 8) (h : CB μ b s t) : ∃ μ', fX8_copyFrom n a b μ = some μ' ∧ CB μ' a s t ∧ Fr (PS a) μ μ' := by
  refine ⟨cpS μ a b (tW t * 10), ?_, cpS_CB hab hv hW h, cpS_fr _ _ _ _⟩
  have h3 : rI μ b 3 = nI (tW t) := h.2.2.2.1
  have e1 : ∀ (m : Mu) (i : Nat) (v : Int32) (j : Nat), rI (wI m a i v) b j = rI m b j := fun m i v j => rI_ai (by omega)
  have e2 : ∀ (m : Mu) (c sp dp k j : Nat) (d : Nat), d ≠ 0 → rI (cpI m c sp (a + d) dp k) a j = rI m a j := fun m c sp dp k j d hd => rI_cn (by omega)
  unfold fX8_copyFrom
  simp only [e1]
  rw [e2 _ _ _ _ _ _ 4 (by decide), e2 _ _ _ _ _ _ 3 (by decide), e2 _ _ _ _ _ _ 2 (by decide), e2 _ _ _ _ _ _ 1 (by decide), rI_same, h3, show nI (tW t) * 10 = nI (tW t * 10) from pk_mul (tW t) 10, acb_n (by omega) (by omega) (by omega), gd_true, ix_n (by omega), ← h3]
  rfl
/-! DEEDS -/
def whisS (t : ST) (b : Nat) : ST := ((tH t, tG t, tX t, tW t + 1), tHo t, fun w x => if w = tW t then decide (x = b) else tAt t w x, fun w c => if w = tW t then false else tWe t w c, fun w p => if w = tW t then false else tHe t w p, fun w c => if w = tW t then 0 else tLe t w c)
def giveS (t : ST) (k p : Nat) : ST := (t.1, fun j => if j = k then p else tHo t j, tAt t, tWe t, tHe t, tLe t)
def galeS (t : ST) (g : Nat) : ST := ((tH t, g, tX t, tW t), tHo t, tAt t, tWe t, tHe t, tLe t)
def seedS (t : ST) (x : Int32) : ST := ((tH t, tG t, x, tW t), tHo t, tAt t, tWe t, tHe t, tLe t)
def whyN (s : SD) (t : ST) (j : Nat) : Nat := if j < 100 then (if j < sB s then (if tW t = 8 then 2 else 0) else 1) else if j < 900 then (if (j - 100) / 100 < sS s then (if j % 100 < sP s then 0 else 1) else 1) else if j < 1000 then 1 else if j < 1100 then (if j - 1000 < sS s then (if tHo t (j - 1000) = 6 then 2 else 0) else 1) else if j < 2000 then 1 else 0
def doN (t : ST) (j : Nat) : ST := if j < 100 then whisS t j else if j < 900 then giveS t ((j - 100) / 100) (j % 100) else if j < 1100 then giveS t (j - 1000) 6 else galeS t (j - 2000)
/-- why a number of a tray can't be done; what it does -/
def whyV (s : SD) (t : ST) (v : Int64) : Nat := if v = -1 then 0 else if 0 ≤ v ∧ v < 2100 then whyN s t v.toInt.toNat else 1
def doV (s : SD) (t : ST) (v : Int64) : ST := if v = -1 then hourS s no t else doN t v.toInt.toNat
theorem nI64_toInt {j : Nat} (hj : j < 2147483648) : ((nI j).toInt64).toInt = j := by rw [Int32.toInt_toInt64, nI_toInt (by omega)]
theorem nI64_to32 {j : Nat} : ((nI j).toInt64).toInt32 = nI j := by simp
theorem v_cases (v : Int64) : v = -1 ∨ (¬ v = -1 ∧ ¬ (0 ≤ v ∧ v < 2100)) ∨ ∃ j, j < 2100 ∧ v = (nI j).toInt64 := by
  by_cases h1 : v = -1
  · exact Or.inl h1
  by_cases h2 : 0 ≤ v ∧ v < 2100
  · refine Or.inr (Or.inr ⟨v.toInt.toNat, ?_, ?_⟩)
    · obtain ⟨a, b⟩ := h2
      rw [Int64.le_iff_toInt_le] at a
      rw [Int64.lt_iff_toInt_lt] at b
      have e1 : (0 : Int64).toInt = 0 := rfl
      have e2 : (2100 : Int64).toInt = 2100 := by decide
      omega
    · obtain ⟨a, b⟩ := h2
      rw [Int64.le_iff_toInt_le] at a
      rw [Int64.lt_iff_toInt_lt] at b
      have e1 : (0 : Int64).toInt = 0 := rfl
      have e2 : (2100 : Int64).toInt = 2100 := by decide
      refine Int64.toInt_inj.mp ?_
      rw [nI64_toInt (by omega)]
      omega
  · exact Or.inr (Or.inl ⟨h1, h2⟩)
theorem nI64_m1 {j : Nat} (hj : j < 2147483648) : ¬ (nI j).toInt64 = -1 := fun e => by
  have := congrArg Int64.toInt e
  rw [nI64_toInt hj] at this
  have e2 : (-1 : Int64).toInt = -1 := by decide
  omega
theorem nI64_rng {j : Nat} (hj : j < 2100) : 0 ≤ (nI j).toInt64 ∧ (nI j).toInt64 < 2100 := by
  have e1 : (0 : Int64).toInt = 0 := rfl
  have e2 : (2100 : Int64).toInt = 2100 := by decide
  rw [Int64.le_iff_toInt_le, Int64.lt_iff_toInt_lt, nI64_toInt (by omega)]
  omega
theorem whyV_j {s : SD} {t : ST} {j : Nat} (hj : j < 2100) : whyV s t (nI j).toInt64 = whyN s t j := by
  unfold whyV
  rw [if_neg (nI64_m1 (by omega)), if_pos (nI64_rng hj), nI64_toInt (by omega)]
  rfl
theorem doV_j {s : SD} {t : ST} {j : Nat} (hj : j < 2100) : doV s t (nI j).toInt64 = doN t j := by
  unfold doV
  rw [if_neg (nI64_m1 (by omega)), nI64_toInt (by omega)]
  rfl
theorem tH_gale (t : ST) (g : Nat) : tH (galeS t g) = tH t := rfl
theorem TV_do {s : SD} {t : ST} {v : Int64} (hv : SV s) (h : TV s t) (hw : whyV s t v = 0) : TV s (doV s t v) ∧ tH (doV s t v) ≤ tH t + 1 := by
  obtain ⟨h1, h2, h3, h4⟩ := h
  rcases v_cases v with rfl | ⟨c1, c2⟩ | ⟨j, hj, rfl⟩
  · exact ⟨TV_hour hv ⟨h1, h2, h3, h4⟩, Nat.le_refl _⟩
  · unfold whyV at hw
    rw [if_neg c1, if_neg c2] at hw
    cases hw
  · rw [whyV_j hj] at hw
    rw [doV_j hj]
    unfold whyN at hw
    unfold doN
    by_cases b1 : j < 100
    · rw [if_pos b1] at hw ⊢
      by_cases b2 : j < sB s
      · rw [if_pos b2] at hw
        by_cases b3 : tW t = 8
        · rw [if_pos b3] at hw; cases hw
        · refine ⟨⟨h1, by show tW t + 1 ≤ 8; omega, h3, fun w c hw' hc => ?_⟩, Nat.le_succ _⟩
          show (if w = tW t then 0 else tLe t w c) ≤ 9
          by_cases e : w = tW t
          · rw [if_pos e]; omega
          · rw [if_neg e]
            have hw' : w < tW t + 1 := hw'
            exact h4 w c (by omega) hc
      · rw [if_neg b2] at hw; cases hw
    · rw [if_neg b1] at hw ⊢
      have give : ∀ k p, (k < sS s → p < sP s ∨ p = 6) → TV s (giveS t k p) ∧ tH (giveS t k p) ≤ tH t + 1 := fun k p hp => ⟨⟨h1, h2, fun i hi => by
        show (if i = k then p else tHo t i) < sP s ∨ (if i = k then p else tHo t i) = 6
        by_cases e : i = k
        · rw [if_pos e]; exact hp (by omega)
        · rw [if_neg e]; exact h3 i hi, h4⟩, Nat.le_succ _⟩
      by_cases b2 : j < 900
      · rw [if_pos b2] at hw ⊢
        refine give _ _ (fun hk => Or.inl ?_)
        rw [if_pos hk] at hw
        by_cases b3 : j % 100 < sP s
        · exact b3
        · rw [if_neg b3] at hw; cases hw
      · rw [if_neg b2] at hw ⊢
        by_cases b4 : j < 1100
        · rw [if_pos b4]; exact give _ _ (fun _ => Or.inr rfl)
        · rw [if_neg b4]
          exact ⟨⟨by show j - 2000 ≤ 99; omega, h2, h3, h4⟩, by rw [tH_gale]; exact Nat.le_succ _⟩
/-! the class -/
theorem CB_gale {μ : Mu} {a : Nat} {s : SD} {t : ST} (h : CB μ a s t) (g : Nat) : CB (wI μ a 1 (nI g)) a s (galeS t g) := by
  obtain ⟨h0, h1, h2, h3, h4, h5, h6⟩ := h
  have u : ∀ j, j ≠ 0 → ∀ i, rI (wI μ a 1 (nI g)) (a + j) i = rI μ (a + j) i := fun j z i => by rw [rI_ai (by omega)]
  refine ⟨by rw [rI_ii (by decide)]; exact h0, by rw [rI_same]; rfl, by rw [rI_ii (by decide)]; exact h2, by rw [rI_ii (by decide)]; exact h3, fun q hq => (u 1 (by omega) q).trans (h4 q hq), fun w' hw' => ?_, fun p' hp' => by rw [u 6 (by omega)]; exact h6 p' hp'⟩
  rw [u 2 (by omega), u 3 (by omega), u 4 (by omega)]
  obtain ⟨x1, x2, x3, x4⟩ := h5 w' hw'
  exact ⟨x1, x2, x3, fun c hc hne => by rw [u 5 (by omega)]; exact x4 c hc hne⟩
theorem CB_seed {μ : Mu} {a : Nat} {s : SD} {t : ST} (h : CB μ a s t) (x : Int32) : CB (wI μ a 2 x) a s (seedS t x) := by
  obtain ⟨h0, h1, h2, h3, h4, h5, h6⟩ := h
  have u : ∀ j, j ≠ 0 → ∀ i, rI (wI μ a 2 x) (a + j) i = rI μ (a + j) i := fun j z i => by rw [rI_ai (by omega)]
  refine ⟨by rw [rI_ii (by decide)]; exact h0, by rw [rI_ii (by decide)]; exact h1, by rw [rI_same]; rfl, by rw [rI_ii (by decide)]; exact h3, fun q hq => (u 1 (by omega) q).trans (h4 q hq), fun w' hw' => ?_, fun p' hp' => by rw [u 6 (by omega)]; exact h6 p' hp'⟩
  rw [u 2 (by omega), u 3 (by omega), u 4 (by omega)]
  obtain ⟨x1, x2, x3, x4⟩ := h5 w' hw'
  exact ⟨x1, x2, x3, fun c hc hne => by rw [u 5 (by omega)]; exact x4 c hc hne⟩
theorem CB_give {μ : Mu} {a : Nat} {s : SD} {t : ST} (h : CB μ a s t) (k p : Nat) : CB (wI μ (a + 1) k (e6 p)) a s (giveS t k p) := by
  obtain ⟨h0, h1, h2, h3, h4, h5, h6⟩ := h
  have u : ∀ j, j ≠ 1 → ∀ i, rI (wI μ (a + 1) k (e6 p)) (a + j) i = rI μ (a + j) i := fun j z i => by rw [rI_ai (by omega)]
  refine ⟨(u 0 (by omega) 0).trans h0, (u 0 (by omega) 1).trans h1, (u 0 (by omega) 2).trans h2, (u 0 (by omega) 3).trans h3, fun q hq => ?_, fun w' hw' => ?_, fun p' hp' => by rw [u 6 (by omega)]; exact h6 p' hp'⟩
  · show _ = e6 (if q = k then p else tHo t q)
    by_cases e : q = k
    · rw [if_pos e, e, rI_same]
    · rw [if_neg e, rI_ii e]; exact h4 q hq
  rw [u 2 (by omega), u 3 (by omega), u 4 (by omega)]
  obtain ⟨x1, x2, x3, x4⟩ := h5 w' hw'
  exact ⟨x1, x2, x3, fun c hc hne => by rw [u 5 (by omega)]; exact x4 c hc hne⟩
theorem CB_whis {μ : Mu} {a : Nat} {s : SD} {t : ST} (h : CB μ a s t) (hv : SV s) (hW : tW t < 8) {b : Nat} (hb : b < sB s) : CB (wI (wI (wI (wI μ (a + 2) (tW t) (shl 1 (nI b))) (a + 3) (tW t) 0) (a + 4) (tW t) 0) a 3 (nI (tW t + 1))) a s (whisS t b) := by
  have hB := hv.1.2
  obtain ⟨h0, h1, h2, h3, h4, h5, h6⟩ := h
  refine ⟨?_, ?_, ?_, by rw [rI_same]; rfl, fun q hq => ?_, fun w' hw' => ?_, fun p' hp' => ?_⟩
  · rw [rI_ii (by decide), rI_ai (by omega), rI_ai (by omega), rI_ai (by omega)]; exact h0
  · rw [rI_ii (by decide), rI_ai (by omega), rI_ai (by omega), rI_ai (by omega)]; exact h1
  · rw [rI_ii (by decide), rI_ai (by omega), rI_ai (by omega), rI_ai (by omega)]; exact h2
  · rw [rI_ai (by omega), rI_ai (by omega), rI_ai (by omega), rI_ai (by omega)]; exact h4 q hq
  · have hw' : w' < tW t + 1 := hw'
    show bs _ (sB s) (fun x => if w' = tW t then decide (x = b) else tAt t w' x) ∧ bs _ (sC s) (fun c => if w' = tW t then false else tWe t w' c) ∧ bs _ (sC s) (fun c => decide ((if w' = tW t then 0 else tLe t w' c) ≠ 0)) ∧ ∀ c, c < sC s → (if w' = tW t then 0 else tLe t w' c) ≠ 0 → _ = nI (if w' = tW t then 0 else tLe t w' c)
    by_cases e : w' = tW t
    · subst e
      simp only [if_true]
      refine ⟨?_, ?_, ?_, fun c _ hne => absurd rfl hne⟩
      · rw [rI_ai (by omega), rI_ai (by omega), rI_ai (by omega), rI_same]
        exact bs_bit hb (by omega)
      · rw [rI_ai (by omega), rI_ai (by omega), rI_same]
        exact bs_0 _
      · rw [rI_ai (by omega), rI_same]
        exact bs_congr (bs_0 _) fun _ _ => by simp
    · simp only [e, if_false]
      obtain ⟨x1, x2, x3, x4⟩ := h5 w' (by omega)
      refine ⟨?_, ?_, ?_, fun c hc hne => ?_⟩
      · rw [rI_ai (by omega), rI_ai (by omega), rI_ai (by omega), rI_ii e]; exact x1
      · rw [rI_ai (by omega), rI_ai (by omega), rI_ii e, rI_ai (by omega)]; exact x2
      · rw [rI_ai (by omega), rI_ii e, rI_ai (by omega), rI_ai (by omega)]; exact x3
      · rw [rI_ai (by omega), rI_ai (by omega), rI_ai (by omega), rI_ai (by omega)]; exact x4 c hc hne
  · show bs _ (tW t + 1) (fun w => decide (p' < sP s) && (if w = tW t then false else tHe t w p'))
    rw [rI_ai (by omega), rI_ai (by omega), rI_ai (by omega), rI_ai (by omega)]
    intro i hi
    rw [h6 p' hp' i hi]
    by_cases e : i = tW t
    · subst e; simp
    · have : i < tW t + 1 ↔ i < tW t := by omega
      simp [this, e]
theorem jdiv_l {a d : Nat} (ha : a < 2147483648) (h0 : 0 < (OfNat.ofNat d : Nat)) (hd : (OfNat.ofNat d : Nat) < 2147483648) : jdiv (nI a) (no_index (OfNat.ofNat d)) = nI (a / (OfNat.ofNat d : Nat)) := pk_div (by omega) h0 hd
/-- what attempt says and leaves -/
def AT (μ : Mu) (a : Nat) (s : SD) (t : ST) (v : Int64) (x : Option (Int32 × Mu)) : Prop := ∃ μ', x = some (nI (whyV s t v), μ') ∧ CB μ' a s (if whyV s t v = 0 then doV s t v else t) ∧ RU μ' s ∧ Fr (PH a) μ μ'
theorem f_attempt {n a : Nat} {v : Int64} {μ : Mu} {s : SD} {t : ST} (ha : 34 ≤ a) (hs : CS μ 2 s) (hv : SV s) (hr : RU μ s) (hV : TV s t) (hh : tH t < 100000000) (hn : 1000 < n) (ht : CB μ a s t) : AT μ a s t v (fX8_attempt n a v 2 μ) := by
  have hG : tG t ≤ 99 := hV.1
  have hW := hV.2.1
  have hP := hv.2.2.1
  have hC := hv.2.1
  have hB := hv.1.2
  have hS := hv.2.2.2.1
  have d0 : rI μ 2 0 = nI (sB s) := hs.1
  have d2 : rI μ 2 2 = nI (sP s) := hs.2.2.1
  have d3 : rI μ 2 3 = nI (sS s) := hs.2.2.2.1
  have c3 : rI μ a 3 = nI (tW t) := ht.2.2.2.1
  have p0 : PH a a := by unfold PH; omega
  have pj : ∀ j, j ≤ 6 → PH a (a + j) := fun j hj => by unfold PH; omega
  have ruw : ∀ (m : Mu), RU m s → ∀ (x i : Nat) (y : Int32), 34 ≤ x → RU (wI m x i y) s := fun m hm x i y hx => hm.congr fun q h1 h2 j => rI_ai (by omega)
  have same : ∀ w, whyV s t v = w → w ≠ 0 → AT μ a s t v (some (nI w, μ)) := by
    intro w hw h0
    refine ⟨μ, by rw [hw], ?_, hr, Fr.rfl' _ _⟩
    rw [if_neg (by rw [hw]; exact h0)]; exact ht
  have em1 : lg_cmp v (-1) = 0 ↔ v = -1 := lgc_eq _ _
  rcases v_cases v with rfl | ⟨c1, c2⟩ | ⟨j, hj, rfl⟩
  · obtain ⟨m', g1, g2, g3, g4⟩ := f_passHour (n := n) ha hs hv hr hV hh hn ht
    refine ⟨m', ?_, ?_, g3, g4⟩
    · unfold fX8_attempt
      rw [if_pos (by decide), g1, bnd2_some]
      rfl
    · rw [if_pos (show whyV s t (-1) = 0 from rfl)]; exact g2
  · have w1 : whyV s t v = 1 := by unfold whyV; rw [if_neg c1, if_neg c2]
    unfold fX8_attempt
    rw [if_neg (fun e => c1 (em1.mp e))]
    by_cases c3 : lg_cmp v 0 < 0
    · rw [if_pos c3]; exact same 1 w1 (by decide)
    · rw [if_neg c3, if_neg (fun e => c2 ⟨Int64.not_lt.mp (fun q => c3 ((lgc_lt _ _).mpr q)), (lgc_lt _ _).mp e⟩)]
      exact same 1 w1 (by decide)
  · have r := nI64_rng hj
    have hne := nI64_m1 (j := j) (by omega)
    unfold fX8_attempt
    rw [if_neg (fun e => hne (em1.mp e)), if_neg (fun e => absurd ((lgc_lt _ _).mp e) (Int64.not_lt.mpr r.1)), if_pos ((lgc_lt _ _).mpr r.2)]
    have wj := whyV_j (s := s) (t := t) hj
    have dj := doV_j (s := s) (t := t) hj
    simp (disch := first | omega | decide) only [nI64_to32, gd_true, bnd_some, bnd2_some, ix_n, ib_n, add_l, add_r, mul_l, mul_r, nI_add, sub_r, nI_leI, nI_ltI, nI_eq, le_l, le_r, lt_l, lt_r, eq_l, eq_r, eq_m, if_true, if_false, not_false_eq_true, not_true_eq_false]
    by_cases b1 : j < 100
    · simp only [show ¬ 100 ≤ j by omega, if_false]
      by_cases b2 : j < sB s
      · by_cases b3 : tW t < 8
        · have w0 : whyN s t j = 0 := by unfold whyN; rw [if_pos b1, if_pos b2, if_neg (by omega)]
          have e0 : doN t j = whisS t j := by unfold doN; rw [if_pos b1]
          have g1 : ∀ (m : Mu) (i : Nat) (y : Int32) (d : Nat), d ≠ 0 → rI (wI m (a + d) i y) a 3 = rI m a 3 := fun m i y d hd => rI_ai (by omega)
          refine ⟨wI (wI (wI (wI μ (a + 2) (tW t) (shl 1 (nI j))) (a + 3) (tW t) 0) (a + 4) (tW t) 0) a 3 (nI (tW t + 1)), ?_, ?_, ?_, ?_⟩
          · unfold fX8_whisperAt
            simp (disch := first | omega | decide) only [d0, c3, gd_true, bnd_some, bnd2_some, ix_n, ib_n, add_l, add_r, mul_l, mul_r, nI_add, sub_r, nI_leI, nI_ltI, nI_eq, le_l, le_r, lt_l, lt_r, eq_l, eq_r, eq_m, if_true, if_false, not_false_eq_true, not_true_eq_false, b2, b3, rI_ai]
            rw [wj, w0]; rfl
          · rw [wj, dj, w0, if_pos rfl, e0]; exact CB_whis ht hv b3 b2
          · exact ruw _ (ruw _ (ruw _ (ruw _ hr _ _ _ (by omega)) _ _ _ (by omega)) _ _ _ (by omega)) _ _ _ ha
          · exact ((((Fr.rfl' _ _).w (pj 2 (by omega)) _ _).w (pj 3 (by omega)) _ _).w (pj 4 (by omega)) _ _).w p0 _ _
        · have w0 : whyN s t j = 2 := by unfold whyN; rw [if_pos b1, if_pos b2, if_pos (by omega)]
          unfold fX8_whisperAt
          simp (disch := first | omega | decide) only [d0, c3, gd_true, bnd_some, bnd2_some, ix_n, ib_n, add_l, add_r, mul_l, mul_r, nI_add, sub_r, nI_leI, nI_ltI, nI_eq, le_l, le_r, lt_l, lt_r, eq_l, eq_r, eq_m, if_true, if_false, not_false_eq_true, not_true_eq_false, b2, b3]
          exact same 2 (by rw [wj, w0]) (by decide)
      · have w0 : whyN s t j = 1 := by unfold whyN; rw [if_pos b1, if_neg b2]
        unfold fX8_whisperAt
        simp (disch := first | omega | decide) only [d0, c3, gd_true, bnd_some, bnd2_some, ix_n, ib_n, add_l, add_r, mul_l, mul_r, nI_add, sub_r, nI_leI, nI_ltI, nI_eq, le_l, le_r, lt_l, lt_r, eq_l, eq_r, eq_m, if_true, if_false, not_false_eq_true, not_true_eq_false, b2]
        exact same 1 (by rw [wj, w0]) (by decide)
    · simp only [show 100 ≤ j by omega, if_true]
      by_cases b4 : j < 900
      · simp (disch := first | omega | decide) only [show ¬ 900 ≤ j by omega, gd_true, bnd_some, bnd2_some, ix_n, ib_n, add_l, add_r, mul_l, mul_r, nI_add, sub_r, nI_leI, nI_ltI, nI_eq, le_l, le_r, lt_l, lt_r, eq_l, eq_r, eq_m, if_true, if_false, not_false_eq_true, not_true_eq_false, jdiv_l, jrem_l, fX8_giveTo, d3, d2]
        by_cases b5 : (j - 100) / 100 < sS s
        · by_cases b6 : j % 100 < sP s
          · have w0 : whyN s t j = 0 := by unfold whyN; rw [if_neg b1, if_pos b4, if_pos b5, if_pos b6]
            have e0 : doN t j = giveS t ((j - 100) / 100) (j % 100) := by unfold doN; rw [if_neg b1, if_pos b4]
            have e6e : e6 (j % 100) = nI (j % 100) := by unfold e6; rw [if_neg (by omega)]
            simp (disch := first | omega | decide) only [show ¬ sS s ≤ (j - 100) / 100 by omega, b6, gd_true, bnd_some, bnd2_some, ix_n, ib_n, add_l, add_r, mul_l, mul_r, nI_add, sub_r, nI_leI, nI_ltI, nI_eq, le_l, le_r, lt_l, lt_r, eq_l, eq_r, eq_m, if_true, if_false, not_false_eq_true, not_true_eq_false]
            refine ⟨_, by rw [wj, w0]; rfl, ?_, ruw _ hr _ _ _ (by omega), (Fr.rfl' _ _).w (pj 1 (by omega)) _ _⟩
            rw [wj, dj, w0, if_pos rfl, e0, ← e6e]; exact CB_give ht _ _
          · have w0 : whyN s t j = 1 := by unfold whyN; rw [if_neg b1, if_pos b4, if_pos b5, if_neg b6]
            simp (disch := first | omega | decide) only [show ¬ sS s ≤ (j - 100) / 100 by omega, b6, gd_true, bnd_some, bnd2_some, ix_n, ib_n, add_l, add_r, mul_l, mul_r, nI_add, sub_r, nI_leI, nI_ltI, nI_eq, le_l, le_r, lt_l, lt_r, eq_l, eq_r, eq_m, if_true, if_false, not_false_eq_true, not_true_eq_false]
            exact same 1 (by rw [wj, w0]) (by decide)
        · have w0 : whyN s t j = 1 := by unfold whyN; rw [if_neg b1, if_pos b4, if_neg b5]
          simp (disch := first | omega | decide) only [show sS s ≤ (j - 100) / 100 by omega, gd_true, bnd_some, bnd2_some, ix_n, ib_n, add_l, add_r, mul_l, mul_r, nI_add, sub_r, nI_leI, nI_ltI, nI_eq, le_l, le_r, lt_l, lt_r, eq_l, eq_r, eq_m, if_true, if_false, not_false_eq_true, not_true_eq_false]
          exact same 1 (by rw [wj, w0]) (by decide)
      · simp only [show 900 ≤ j by omega, if_true]
        by_cases b5 : j < 1000
        · have w0 : whyN s t j = 1 := by unfold whyN; rw [if_neg b1, if_neg b4, if_pos b5]
          simp (disch := first | omega | decide) only [b5, gd_true, bnd_some, bnd2_some, ix_n, ib_n, add_l, add_r, mul_l, mul_r, nI_add, sub_r, nI_leI, nI_ltI, nI_eq, le_l, le_r, lt_l, lt_r, eq_l, eq_r, eq_m, if_true, if_false, not_false_eq_true, not_true_eq_false, jX8_attempt_108, show ¬ 2000 ≤ j by omega]
          exact same 1 (by rw [wj, w0]) (by decide)
        · simp only [b5, if_false]
          by_cases b6 : j < 1100
          · simp (disch := first | omega | decide) only [show ¬ 1100 ≤ j by omega, gd_true, bnd_some, bnd2_some, ix_n, ib_n, add_l, add_r, mul_l, mul_r, nI_add, sub_r, nI_leI, nI_ltI, nI_eq, le_l, le_r, lt_l, lt_r, eq_l, eq_r, eq_m, if_true, if_false, not_false_eq_true, not_true_eq_false, fX8_layDown, d3]
            by_cases b7 : j - 1000 < sS s
            · have hl : rI μ (a + 1) (j - 1000) = e6 (tHo t (j - 1000)) := ht.2.2.2.2.1 _ b7
              have hle : tHo t (j - 1000) ≤ 6 := by rcases hV.2.2.1 _ b7 with h | h <;> omega
              have e6' := e6_m1 (x := tHo t (j - 1000)) (by omega)
              by_cases b8 : tHo t (j - 1000) = 6
              · have w0 : whyN s t j = 2 := by unfold whyN; rw [if_neg b1, if_neg b4, if_neg b5, if_pos b6, if_pos b7, if_pos b8]
                simp (disch := first | omega | decide) only [b7, gd_true, bnd_some, bnd2_some, ix_n, ib_n, add_l, add_r, mul_l, mul_r, nI_add, sub_r, nI_leI, nI_ltI, nI_eq, le_l, le_r, lt_l, lt_r, eq_l, eq_r, eq_m, if_true, if_false, not_false_eq_true, not_true_eq_false, hl, e6'.mpr b8]
                exact same 2 (by rw [wj, w0]) (by decide)
              · have w0 : whyN s t j = 0 := by unfold whyN; rw [if_neg b1, if_neg b4, if_neg b5, if_pos b6, if_pos b7, if_neg b8]
                have e0 : doN t j = giveS t (j - 1000) 6 := by unfold doN; rw [if_neg b1, if_neg b4, if_pos b6]
                simp (disch := first | omega | decide) only [b7, gd_true, bnd_some, bnd2_some, ix_n, ib_n, add_l, add_r, mul_l, mul_r, nI_add, sub_r, nI_leI, nI_ltI, nI_eq, le_l, le_r, lt_l, lt_r, eq_l, eq_r, eq_m, if_true, if_false, not_false_eq_true, not_true_eq_false, hl, show ¬ e6 (tHo t (j - 1000)) = -1 from fun q => b8 (e6'.mp q)]
                refine ⟨_, by rw [wj, w0]; rfl, ?_, ruw _ hr _ _ _ (by omega), (Fr.rfl' _ _).w (pj 1 (by omega)) _ _⟩
                rw [wj, dj, w0, if_pos rfl, e0]; exact CB_give ht _ 6
            · have w0 : whyN s t j = 1 := by unfold whyN; rw [if_neg b1, if_neg b4, if_neg b5, if_pos b6, if_neg b7]
              simp (disch := first | omega | decide) only [b7, gd_true, bnd_some, bnd2_some, ix_n, ib_n, add_l, add_r, mul_l, mul_r, nI_add, sub_r, nI_leI, nI_ltI, nI_eq, le_l, le_r, lt_l, lt_r, eq_l, eq_r, eq_m, if_true, if_false, not_false_eq_true, not_true_eq_false]
              exact same 1 (by rw [wj, w0]) (by decide)
          · simp only [show 1100 ≤ j by omega, if_true]
            by_cases b7 : j < 2000
            · have w0 : whyN s t j = 1 := by unfold whyN; rw [if_neg b1, if_neg b4, if_neg b5, if_neg b6, if_pos b7]
              simp (disch := first | omega | decide) only [gd_true, bnd_some, bnd2_some, ix_n, ib_n, add_l, add_r, mul_l, mul_r, nI_add, sub_r, nI_leI, nI_ltI, nI_eq, le_l, le_r, lt_l, lt_r, eq_l, eq_r, eq_m, if_true, if_false, not_false_eq_true, not_true_eq_false, jX8_attempt_108, show ¬ 2000 ≤ j by omega]
              exact same 1 (by rw [wj, w0]) (by decide)
            · have w0 : whyN s t j = 0 := by unfold whyN; rw [if_neg b1, if_neg b4, if_neg b5, if_neg b6, if_neg b7]
              have e0 : doN t j = galeS t (j - 2000) := by unfold doN; rw [if_neg b1, if_neg b4, if_neg b6]
              simp (disch := first | omega | decide) only [gd_true, bnd_some, bnd2_some, ix_n, ib_n, add_l, add_r, mul_l, mul_r, nI_add, sub_r, nI_leI, nI_ltI, nI_eq, le_l, le_r, lt_l, lt_r, eq_l, eq_r, eq_m, if_true, if_false, not_false_eq_true, not_true_eq_false, jX8_attempt_108, show 2000 ≤ j by omega]
              refine ⟨_, by rw [wj, w0]; rfl, ?_, ruw _ hr _ _ _ ha, (Fr.rfl' _ _).w p0 _ _⟩
              rw [wj, dj, w0, if_pos rfl, e0]; exact CB_gale ht _
