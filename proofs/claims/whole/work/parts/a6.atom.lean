/-! THE READER: words and numbers in an expression -/
def gW (l K : Nat) : Nat := if K = 12 then 1000 else if K = 11 then 1001 else if l = 0 then (if K = 13 then 1002 else 0) else if l = 1 then (if K = 14 then 1003 else if K = 15 then 1004 else if K = 2 then 1005 else 0) else (if K = 16 then 1006 else if K = 17 then 1007 else if K = 18 then 1008 else 0)
def ckN (K : Nat) : Nat := if K ≤ 21 then 200 + cls K else if K = 22 then 2 else if K = 24 then 0 else if K = 25 then 1 else sgL.getD (K - 30) 0
theorem ck_N {B : Nat → Nat} {N p : Nat} (hp : p ≤ N) (hb : ∀ k, k < N → B k < 256) (h : tkK B N p ≠ 23) : ckI B N p = nI (ckN (tkK B N p)) := by
  unfold ckN
  rcases ck_cases hp hb with ⟨h1, h2⟩ | ⟨h1, h2⟩ | ⟨h1, h0, h2⟩ | ⟨h1, h2⟩ | ⟨h1, h2⟩ | ⟨h1, h0, h2⟩
  · rw [if_pos h1]; exact h2
  · rw [if_neg (by omega), if_pos h1]; exact h2
  · exact absurd h1 h
  · rw [if_neg (by omega), if_neg (by omega), if_pos h1]; exact h2
  · rw [if_neg (by omega), if_neg (by omega), if_neg (by omega), if_pos h1]; exact h2
  · rw [if_neg (by omega), if_neg (by omega), if_neg (by omega), if_neg (by omega)]; exact h2
theorem w_all : ∀ l, l < 3 → ∀ K, K < 42 → (if nI K = 12 then (some 0) else (if nI K = 11 then (some 1) else (if nI l = 0 then (if nI K = 13 then (some 2) else (some (-1))) else (if nI l = 1 then (if nI K = 14 then (some 3) else (if nI K = 15 then (some 4) else (if nI K = 2 then (some 5) else (some (-1))))) else (if nI K = 16 then (some 6) else (if nI K = 17 then (some 7) else (if nI K = 18 then (some 8) else (some (-1)))))))) : Option Int32) = some (if gW l K = 0 then -1 else nI (gW l K - 1000)) := by decide +kernel
theorem g_all : ∀ l, l < 3 → ∀ K, K < 42 → K ≠ 23 → (if nI (ckN K) = 202 then (if nI l = 1 then (some 1004) else (some (-1))) else (if nI (ckN K) = 211 then (some 1001) else (if nI (ckN K) = 212 then (some 1000) else (if nI (ckN K) = 216 then (if nI l = 0 then (some 1002) else (some (-1))) else (if nI (ckN K) = 217 then (if nI l = 1 then (some 1002) else (some (-1))) else (if nI (ckN K) = 218 then (if nI l = 1 then (some 1003) else (some (-1))) else (if nI (ckN K) = 219 then (if nI l = 2 then (some 1002) else (some (-1))) else (if nI (ckN K) = 220 then (if nI l = 2 then (some 1003) else (some (-1))) else (if nI (ckN K) = 221 then (if nI l = 2 then (some 1004) else (some (-1))) else (some (-1)))))))))) : Option Int32) = some (if gW l K = 0 then -1 else nI (ccO l (gW l K))) := by decide +kernel
theorem gW_a : ∀ l, l < 3 → ∀ K, K < 42 → gW l K = 0 ∨ (1000 ≤ gW l K ∧ gW l K ≤ 1008 ∧ K ≤ 21) := by decide +kernel
theorem gW_b : ∀ l, l < 3 → ∀ K, K < 42 → gW l K = 0 ∨ gW l K ≤ 1001 ∨ (l = 0 ∧ gW l K ≤ 1002) ∨ (l = 1 ∧ 1003 ≤ gW l K ∧ gW l K ≤ 1005) ∨ (l = 2 ∧ 1006 ≤ gW l K) := by decide +kernel
theorem gW_c : ∀ l, l < 3 → ∀ K, K < 42 → ccO l (gW l K) < 1100 := by decide +kernel
theorem r_wordOf {n l K : Nat} {μ : Mu} (h : rI μ 139 15 = nI l) (hl : l < 3) (hK : K < 42) : fX12_wordOf n (nI K) μ = some (if gW l K = 0 then -1 else nI (gW l K - 1000)) := by
  unfold fX12_wordOf
  rw [h]
  exact w_all l hl K hK
theorem c_givenBy {n l K : Nat} {μ : Mu} (h : rI μ 13 5 = nI l) (hl : l < 3) (hK : K < 42) (h2 : K ≠ 23) : fX5_givenBy n (nI (ckN K)) μ = some (if gW l K = 0 then -1 else nI (ccO l (gW l K))) := by
  unfold fX5_givenBy
  rw [h]
  exact g_all l hl K hK h2
theorem gW_alw {l K : Nat} (hl : l < 3) (hK : K < 42) (h : gW l K ≠ 0) : alw l (gW l K) ∧ gW l K < 3000 := by
  have z := gW_b l hl K hK
  rcases gW_a l hl K hK with y | y
  · exact absurd y h
  · refine ⟨?_, by omega⟩
    unfold alw
    omega
/-- one token, one code -/
theorem atom_good {n N M l i len c : Nat} {B : Nat → Nat} {μc μr : Mu} (hX : XC μc B N M l i len) (hR : XR μr B N l i len) (hle : len ≤ i) (hi : i < M) (hM : M ≤ 900) (hl : l < 3) (hn : 1000 < n) : ∃ μc' μr1 μr', fX3_add n 21 (rI (wI μc 13 4 (rI μc 13 4 + 1)) 13 5) (nI (ccO l c)) (wI μc 13 4 (rI μc 13 4 + 1)) = some μc' ∧ fX12_codes n (nI c) μr = some μr1 ∧ fX12_next n μr1 = some μr' ∧ ACC B N M l i len (i + 1) [c] μc μr μc' μr' := by
  have hX' : XC (wI μc 13 4 (rI μc 13 4 + 1)) B N M l (i + 1) len := ⟨hX.1.nx hi, by rw [rI_ii (by decide)]; exact hX.2.1, by rw [rI_ai (by decide)]; exact hX.2.2⟩
  have a1 := c_code (n := n) (c := ccO l c) hX' hl (by omega)
  have a2 := r_code (n := n) (c := c) hR (by omega)
  obtain ⟨c1, c2, c3⟩ := hX'
  obtain ⟨r1, r2, r3⟩ := hR
  have fr : Fg (PXr len) μr (wI (wI μr 143 (1342 + len) (nI c)) 143 1341 (nI (len + 1))) := ((Fg.rfl' _ _).w (Or.inr ⟨rfl, Or.inr (Nat.le_refl _)⟩) _).w (Or.inr ⟨rfl, Or.inl rfl⟩) _
  have k1 : RK (wI (wI μr 143 (1342 + len) (nI c)) 143 1341 (nI (len + 1))) B N i := by
    refine ⟨r1.1.fg fr (fun q => by unfold PXr PN at q; omega) (fun i q => by unfold PXr PN at q; omega), ?_, by rw [rI_ai (by decide), rI_ai (by decide)]; exact r1.2.2⟩
    obtain ⟨t1, t2, t3, t4⟩ := r1.2.1
    exact ⟨by rw [rI_ai (by decide), rI_ai (by decide)]; exact t1, by rw [rI_ai (by decide), rI_ai (by decide)]; exact t2, by rw [rI_ai (by decide), rI_ai (by decide)]; exact t3, fun e => by rw [rI_ai (by decide), rI_ai (by decide)]; exact t4 e⟩
  obtain ⟨m, g1, g2, g3⟩ := k1.nx (n := n) hn
  have nn : ∀ i, ¬ PN 143 i := fun i q => by unfold PN at q; omega
  refine ⟨_, _, m, a1, a2, g1, by omega, by show 1 ≤ i + 1 - i; omega, ⟨⟨?_, hi, fun j hj => ?_⟩, ?_, ?_⟩, ⟨g2, ?_, ?_⟩, fun j hj => ?_, fun _ => ?_, ?_, ?_⟩
  · rw [rI_ai (by decide), rI_ai (by decide), rI_ai (by decide)]; exact c1.1
  · rw [rI_ai (by decide), rI_ai (by decide), rI_ai (by decide), rI_ai (by decide), rI_ai (by decide), rI_ai (by decide)]; exact c1.2.2 j hj
  · rw [rI_ai (by decide), rI_ai (by decide), rI_ai (by decide)]; exact c2
  · rw [rI_ai (by decide), rI_same]; rfl
  · rw [g3.i (fun q => by unfold PN at q; omega), rI_ai (by decide), rI_ai (by decide)]; exact r2
  · rw [g3.i (nn _), rI_same]; rfl
  · have hj : j < 1 := hj
    have e : j = 0 := by omega
    subst e
    rw [g3.i (nn _), rI_ai (by decide), rI_ai (by decide)]
    refine ⟨?_, ?_⟩
    · show rI (wI _ 22 len (nI (ccO l c))) 22 len = _
      rw [rI_same]; rfl
    · rw [rI_ii (by omega)]
      show rI (wI μr 143 (1342 + len) (nI c)) 143 (1342 + len) = _
      rw [rI_same]; rfl
  · rw [rI_same]; rfl
  · exact ((((Fg.rfl' _ _).w (Or.inl ⟨rfl, rfl⟩) _).w (Or.inr (Or.inr (Or.inl ⟨rfl, Nat.le_refl _⟩))) _).w (Or.inr (Or.inl ⟨rfl, rfl⟩)) _).w (Or.inr (Or.inr (Or.inr ⟨rfl, rfl⟩))) _
  · exact fr.tr (g3.mono fun a i q => Or.inl q)
/-- one level deeper -/
theorem deeper {n N M l i len x : Nat} {B : Nat → Nat} {μc μr : Mu} (hD : KD B N M) (hX : XC μc B N M l i len) (hR : XR μr B N l i len) (hx : x ≤ 6) (h4 : kK B N i ≠ 24) (h5 : kK B N i ≠ 25) (hn : 1000 < n) : (x < 6 ∧ ∃ μrn, fX5_goesDeeper n (nI x) μc = some (1, wI μc 13 4 (rI μc 13 4 + 1)) ∧ fX12_goesIn n (nI x) μr = some (1, μrn) ∧ ACC B N M l i len (i + 1) [] μc μr (wI μc 13 4 (rI μc 13 4 + 1)) μrn) ∨ (∃ μc' μr', fX5_goesDeeper n (nI x) μc = some (0, μc') ∧ fX12_goesIn n (nI x) μr = some (0, μr') ∧ BADf μc μr μc' μr') := by
  by_cases e : x < 6
  · left
    obtain ⟨μrn, g1, g2⟩ := (ACC.nil hX hR).nx (hD.lt hX.1.2.1 h4 h5) hn
    refine ⟨e, μrn, ?_, ?_, g2⟩
    · unfold fX5_goesDeeper
      rw [if_pos (show nI x < 6 from (nI_ltI (a := x) (b := 6) (by omega) (by omega)).mpr e)]
    · unfold fX12_goesIn jX12_goesIn_11 jX12_goesIn_22
      rw [if_neg (fun q => by have : x = 6 := (nI_eq (a := x) (b := 6) (by omega) (by omega)).mp q; omega), hR.1.2.2, if_pos rfl, g1, bnd_some, g2.2.2.2.1.1.2.2, if_pos rfl]
  · right
    have e6 : x = 6 := by omega
    subst e6
    have f := r_fails (n := n) (x := 4) hR.1 hD.2.2.1
    rw [if_neg (show ¬ kK B N i = 25 from h5)] at f
    refine ⟨fbI μc B N i 4, frI μr B N i 4, ?_, ?_, bad_here (M := M) (by decide) (Fg.rfl' _ _) (Fg.rfl' _ _)⟩
    · unfold fX5_goesDeeper
      rw [if_neg (by decide), c_blame hD hX.1, bnd2_some]; rfl
    · unfold fX12_goesIn jX12_goesIn_11 jX12_goesIn_22
      rw [if_pos (show nI 6 = 6 from rfl), f, bnd_some]
      have w : rI (wI (wI μr 139 11 4) 139 12 (nI (kA B N i))) 139 11 ≠ 0 := by rw [rI_ii (by decide), rI_same]; decide
      rw [if_neg w, if_neg w]; rfl
/-- a sign that must stand here -/
theorem closes {n N M l i0 l0 i K : Nat} {cs : List Nat} {code : Int32} {B : Nat → Nat} {μc0 μr0 μc μr : Mu} (hD : KD B N M) (ha : ACC B N M l i0 l0 i cs μc0 μr0 μc μr) (hc : ckI B N (tkP B N i) = code ↔ kK B N i = K) (hK : K ≤ 41) (h4 : K ≠ 24) (h5 : K ≠ 25) (hn : 1000 < n) : (∃ μrn, fX5_accept n code μc = some (1, wI μc 13 4 (rI μc 13 4 + 1)) ∧ fX12_eats n (nI K) μr = some (1, μrn) ∧ ACC B N M l i0 l0 (i + 1) cs μc0 μr0 (wI μc 13 4 (rI μc 13 4 + 1)) μrn) ∨ (∃ μc' μr', fX5_accept n code μc = some (0, μc') ∧ fX12_eats n (nI K) μr = some (0, μr) ∧ fX12_fails n 2 μr = some μr' ∧ BADf μc0 μr0 μc' μr') := by
  have a := c_accept (n := n) hD ha.2.2.1.1 hc
  by_cases e : kK B N i = K
  · left
    obtain ⟨μrn, g1, g2⟩ := ha.nx (hD.lt ha.2.2.1.1.2.1 (by omega) (by omega)) hn
    rw [if_pos e] at a
    exact ⟨μrn, a, r_eats' ha.2.2.2.1.1 (by omega) hD.2.2.1 e g1, g2⟩
  · right
    rw [if_neg e] at a
    refine ⟨_, _, a, r_eatsN ha.2.2.2.1.1 (by omega) hD.2.2.1 e, r_fails ha.2.2.2.1.1 hD.2.2.1, ha.bad (bad_here (M := M) (by split <;> decide) (Fg.rfl' _ _) (Fg.rfl' _ _))⟩
