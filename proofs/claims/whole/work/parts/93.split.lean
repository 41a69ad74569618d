/-! TOKENS: the class -/
def rawB (v : Nat) : Int32 := (nI v).toInt8.toInt32
theorem raw_and : ∀ v, v < 256 → rawB v &&& 255 = nI v := by decide +kernel
theorem raw_lt : ∀ v, v < 256 → ((if rawB v < 97 then (some 0 : Option Int32) else if 122 < rawB v then some 0 else some 1) = some (if decide (97 ≤ v ∧ v ≤ 122) = true then 1 else 0)) := by decide +kernel
theorem raw_dg : ∀ v, v < 256 → ((if rawB v < 48 then (some 0 : Option Int32) else if 57 < rawB v then some 0 else some 1) = some (if decide (48 ≤ v ∧ v ≤ 57) = true then 1 else 0)) := by decide +kernel
theorem nat_lt : ∀ v, v < 256 → ((if nI v < 97 then (some 0 : Option Int32) else if 122 < nI v then some 0 else some 1) = some (if decide (97 ≤ v ∧ v ≤ 122) = true then 1 else 0)) := by decide +kernel
theorem nat_dg : ∀ v, v < 256 → ((if nI v < 48 then (some 0 : Option Int32) else if 57 < nI v then some 0 else some 1) = some (if decide (48 ≤ v ∧ v ≤ 57) = true then 1 else 0)) := by decide +kernel
theorem raw_nI : ∀ v, v < 128 → rawB v = nI v := by decide +kernel
theorem raw_sg : ∀ v, v < 256 → (if six 1 (((nI v).toUInt32 % 65536).toInt32) < 0 then (1 : Int32) else nI v) = (if sgK v = 25 then 1 else nI v) := by decide +kernel
def CTp (μ : Mu) (B : Nat → Nat) (N : Nat) : Prop := N ≤ 900 ∧ ∀ k, k < N → B k < 256 ∧ rI μ 1 k = rawB (B k)
theorem CTp.fr {P : Nat → Prop} {μ μ' : Mu} {B : Nat → Nat} {N : Nat} (h : CTp μ B N) (e : Fr P μ μ') (hp : ¬ P 1) : CTp μ' B N := ⟨h.1, fun k hk => ⟨(h.2 k hk).1, by rw [e.i hp]; exact (h.2 k hk).2⟩⟩
theorem c_lt {n k N : Nat} {B : Nat → Nat} {μ m : Mu} (h : CTp μ B N) (hk : k < N) : fX9_isLetter n (rI μ 1 k) m = some (if ltB B k = true then 1 else 0) := by
  rw [(h.2 k hk).2]; exact raw_lt _ (h.2 k hk).1
theorem c_dg {n k N : Nat} {B : Nat → Nat} {μ m : Mu} (h : CTp μ B N) (hk : k < N) : fX9_isDigit n (rI μ 1 k) m = some (if dgB B k = true then 1 else 0) := by
  rw [(h.2 k hk).2]; exact raw_dg _ (h.2 k hk).1
theorem c_runEnd {n a N : Nat} {B : Nat → Nat} {μ : Mu} (h : CTp μ B N) (ha : a < N) (hc : ltB B a = true ∨ dgB B a = true) (hn : 1000 < n) : fX9_runEnd n (nI a) (nI N) μ = some (nI (if ltB B a = true then runE (ltB B) a N else runE (dgB B) a N)) := by
  have hN := h.1
  have go : ∀ (f : Nat → Bool) (x3 : Int32), f a = true → (∀ k, k < N → sX9_runEnd_12 n (nI N) x3 μ (nI k) = if f k = true then some (.inl (nI (k + 1))) else some (.inr (nI k))) → lp n (sX9_runEnd_12 n (nI N) x3 μ) (nI (a + 1)) = some (nI (runE f a N)) := by
    intro f x3 fa hs
    obtain ⟨g1, g2, g3, g4⟩ := run_spec f (show a ≤ N by omega)
    have hx : a < runE f a N := by
      refine Classical.byContradiction fun q => ?_
      have e : runE f a N = a := by omega
      have := g4 (by omega)
      rw [e, fa] at this; cases this
    have key : Rn (lp n (sX9_runEnd_12 n (nI N) x3 μ) (nI (a + 1))) (fun r => r = nI (runE f a N)) := by
      refine Rn.l (runE f a N - (a + 1)) (fun i x => x = nI (a + 1 + i)) _ (by omega) rfl ?_ ?_
      · rintro i x hi rfl
        rw [hs (a + 1 + i) (by omega), if_pos (g3 _ (by omega) (by omega))]
        exact Rn.so rfl
      · rintro x rfl
        rw [show a + 1 + (runE f a N - (a + 1)) = runE f a N by omega]
        by_cases c : runE f a N < N
        · rw [hs _ c, if_neg (by rw [g4 c]; decide)]
          exact Rn.e (r := nI (runE f a N)) rfl rfl
        · refine Rn.e (r := nI (runE f a N)) ?_ rfl
          have z : nI N ≤ nI (runE f a N) := (nI_leI (by omega) (by omega)).mpr (by omega)
          simp only [sX9_runEnd_12, if_pos z]
    obtain ⟨r, r1, r2⟩ := key
    rw [r1, r2]
  unfold fX9_runEnd
  rw [ib_n (by omega) (by omega), gd_true, ix_n (by omega), c_lt h ha, bnd_some, show nI a + 1 = nI (a + 1) from nI_add a 1]
  by_cases c : ltB B a = true
  · rw [if_pos c, if_pos c, go (ltB B) 1 c (fun k hk => ?_), bnd_some]
    have z : ¬ nI N ≤ nI k := fun e => by have := (nI_leI (by omega) (by omega)).mp e; omega
    have k1 : ib (nI k) 900 = true := ib_n (by omega) (by omega)
    simp only [sX9_runEnd_12, if_neg z, show ¬ (1 : Int32) = 0 by decide, if_false, k1, gd_true, ix_n (show k < 2 ^ 31 by omega), c_lt h hk, bnd_some, ifb, show nI k + 1 = nI (k + 1) from nI_add k 1]
  · rw [if_neg c, if_neg c, go (dgB B) 0 (by rcases hc with q | q; exact absurd q c; exact q) (fun k hk => ?_), bnd_some]
    have z : ¬ nI N ≤ nI k := fun e => by have := (nI_leI (by omega) (by omega)).mp e; omega
    have k1 : ib (nI k) 900 = true := ib_n (by omega) (by omega)
    simp only [sX9_runEnd_12, if_neg z, if_true, k1, gd_true, ix_n (show k < 2 ^ 31 by omega), c_dg h hk, bnd_some, ifb, show nI k + 1 = nI (k + 1) from nI_add k 1]
theorem c_number {n a b N : Nat} {B : Nat → Nat} {μ : Mu} (h : CTp μ B N) (hab : a ≤ b) (hb : b ≤ N) (hd : ∀ k, a ≤ k → k < b → dgB B k = true) (hn : 1000 < n) : fX9_numberOf n (nI a) (nI b) μ = some (if b - a ≤ 3 then nI (1000 + nmN B a (b - a)) else 1) := by
  have hN := h.1
  unfold fX9_numberOf
  rw [show nI b - nI a = nI (b - a) from pk_sub hab]
  by_cases c : b - a ≤ 3
  · rw [if_pos ((le_r (k := 3) (by decide) (by omega)).mpr c), if_pos c]
    have dd : ∀ k, k < b - a → 48 ≤ B (a + k) ∧ B (a + k) ≤ 57 := fun k hk => of_decide_eq_true (hd (a + k) (by omega) (by omega))
    have key : Rn (lp n (sX9_numberOf_14 n (nI b) μ) (0, nI a)) (fun r => r = nI (nmN B a (b - a))) := by
      refine Rn.l (b - a) (fun i x => x = (nI (nmN B a i), nI (a + i))) _ (by omega) rfl ?_ ?_
      · rintro i x hi rfl
        have d0 := dd i hi
        have dl := nm_lt (B := B) (a := a) i (fun k hk => dd k (by omega))
        have pl : 10 ^ i ≤ 10 ^ 2 := Nat.pow_le_pow_right (by omega) (by omega)
        have hk := h.2 (a + i) (by omega)
        have z : ¬ nI b ≤ nI (a + i) := fun e => by have := (nI_leI (by omega) (by omega)).mp e; omega
        have k1 : ib (nI (a + i)) 900 = true := ib_n (by omega) (by omega)
        simp only [sX9_numberOf_14, if_neg z, k1, gd_true, ix_n (show a + i < 2 ^ 31 by omega), hk.2, raw_nI _ (show B (a + i) < 128 by omega)]
        refine Rn.so ?_
        show ((nI (nmN B a i) * 10 + nI (B (a + i))) - 48, nI (a + i) + 1) = (nI (10 * nmN B a i + (B (a + i) - 48)), nI (a + (i + 1)))
        rw [show nI (a + i) + 1 = nI (a + (i + 1)) from nI_add _ 1, show nI (nmN B a i) * 10 = nI (nmN B a i * 10) from pk_mul _ 10, nI_add, show (48 : Int32) = nI 48 from rfl, show nI (nmN B a i * 10 + B (a + i)) - nI 48 = nI (nmN B a i * 10 + B (a + i) - 48) from pk_sub (by omega), show nmN B a i * 10 + B (a + i) - 48 = 10 * nmN B a i + (B (a + i) - 48) by omega]
      · rintro x rfl
        have z : nI b ≤ nI (a + (b - a)) := (nI_leI (by omega) (by omega)).mpr (by omega)
        refine Rn.e (r := nI (nmN B a (b - a))) ?_ rfl
        simp only [sX9_numberOf_14, if_pos z]
    obtain ⟨r, r1, r2⟩ := key
    rw [r1, bnd_some]
    show some (1000 + r) = _
    rw [r2, show (1000 : Int32) + nI (nmN B a (b - a)) = nI (1000 + nmN B a (b - a)) from nI_add 1000 _]
  · rw [if_neg (fun q => c ((le_r (k := 3) (by decide) (by omega)).mp q)), if_neg c]
