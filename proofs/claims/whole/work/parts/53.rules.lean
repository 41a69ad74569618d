/-! what the class keeps of its laws -/
def Sr (μ μ' : Mu) : Prop := ∀ a, (a < 29 ∨ 33 < a) → (∀ i, rI μ' a i = rI μ a i) ∧ ∀ i, rL μ' a i = rL μ a i
theorem Sr.rfl' (μ : Mu) : Sr μ μ := fun _ _ => ⟨fun _ => rfl, fun _ => rfl⟩
theorem Sr.tr {a b c : Mu} (h : Sr a b) (h2 : Sr b c) : Sr a c := fun x hx => ⟨fun i => by rw [(h2 x hx).1, (h x hx).1], fun i => by rw [(h2 x hx).2, (h x hx).2]⟩
theorem Sr.w {a b : Mu} (h : Sr a b) {x : Nat} (hx : 29 ≤ x ∧ x ≤ 33) (i : Nat) (v : Int32) : Sr a (wI b x i v) := fun y hy => ⟨fun j => by rw [rI_ai (by omega)]; exact (h y hy).1 j, fun j => (h y hy).2 j⟩
theorem Sr.i {a b : Mu} (h : Sr a b) {x : Nat} (hx : x < 29 ∨ 33 < x) (i : Nat) : rI b x i = rI a x i := (h x hx).1 i
def RU (μ : Mu) (s : SD) : Prop := (∀ h g b, h < 24 → g < 2 → b < sB s → rI μ 29 ((h * 2 + g) * 6 + b) = -1 ∨ rI μ 29 ((h * 2 + g) * 6 + b) = soundS s b h g) ∧ (∀ h g, h < 24 → g < 2 → rI μ 30 (h * 2 + g) = -1 ∨ bs (rI μ 30 (h * 2 + g)) (sC s) (openS s h g)) ∧ (∀ h g k, h < 24 → g < 2 → k ≤ 8 → rI μ 31 ((h * 2 + g) * 9 + k) = -1 ∨ bs (rI μ 31 ((h * 2 + g) * 9 + k)) (sP s) (fun p => lisS s h g p k))
theorem RU.congr {μ μ' : Mu} {s : SD} (h : RU μ s) (e : ∀ a, 29 ≤ a → a ≤ 31 → ∀ i, rI μ' a i = rI μ a i) : RU μ' s := by
  obtain ⟨h1, h2, h3⟩ := h
  refine ⟨fun h g b x y z => ?_, fun h g x y => ?_, fun h g k x y z => ?_⟩
  · rw [e 29 (by decide) (by decide)]; exact h1 h g b x y z
  · rw [e 30 (by decide) (by decide)]; exact h2 h g x y
  · rw [e 31 (by decide) (by decide)]; exact h3 h g k x y z
theorem RU.w29 {μ : Mu} {s : SD} (h : RU μ s) (hB : sB s ≤ 6) {a g b : Nat} (ha : a < 24) (hg : g < 2) (hb : b < sB s) {v : Int32} (e : v = soundS s b a g) : RU (wI μ 29 ((a * 2 + g) * 6 + b) v) s := by
  obtain ⟨h1, h2, h3⟩ := h
  refine ⟨fun h g' b' x y z => ?_, fun h g x y => ?_, fun h g k x y z => ?_⟩
  · by_cases c : (h * 2 + g') * 6 + b' = (a * 2 + g) * 6 + b
    · have e1 : h = a := by omega
      have e2 : g' = g := by omega
      have e3 : b' = b := by omega
      subst e1; subst e2; subst e3
      rw [rI_same]; exact Or.inr e
    · rw [rI_ii c]; exact h1 h g' b' x y z
  · rw [rI_ai (by decide)]; exact h2 h g x y
  · rw [rI_ai (by decide)]; exact h3 h g k x y z
theorem RU.w30 {μ : Mu} {s : SD} (h : RU μ s) {a g : Nat} (ha : a < 24) (hg : g < 2) {v : Int32} (e : bs v (sC s) (openS s a g)) : RU (wI μ 30 (a * 2 + g) v) s := by
  obtain ⟨h1, h2, h3⟩ := h
  refine ⟨fun h g' b' x y z => ?_, fun h g' x y => ?_, fun h g k x y z => ?_⟩
  · rw [rI_ai (by decide)]; exact h1 h g' b' x y z
  · by_cases c : h * 2 + g' = a * 2 + g
    · have e1 : h = a := by omega
      have e2 : g' = g := by omega
      subst e1; subst e2
      rw [rI_same]; exact Or.inr e
    · rw [rI_ii c]; exact h2 h g' x y
  · rw [rI_ai (by decide)]; exact h3 h g k x y z
theorem RU.w31 {μ : Mu} {s : SD} (h : RU μ s) {a g k : Nat} (ha : a < 24) (hg : g < 2) (hk : k ≤ 8) {v : Int32} (e : bs v (sP s) (fun p => lisS s a g p k)) : RU (wI μ 31 ((a * 2 + g) * 9 + k) v) s := by
  obtain ⟨h1, h2, h3⟩ := h
  refine ⟨fun h g' b' x y z => ?_, fun h g' x y => ?_, fun h g' k' x y z => ?_⟩
  · rw [rI_ai (by decide)]; exact h1 h g' b' x y z
  · rw [rI_ai (by decide)]; exact h2 h g' x y
  · by_cases c : (h * 2 + g') * 9 + k' = (a * 2 + g) * 9 + k
    · have e1 : h = a := by omega
      have e2 : g' = g := by omega
      have e3 : k' = k := by omega
      subst e1; subst e2; subst e3
      rw [rI_same]; exact Or.inr e
    · rw [rI_ii c]; exact h3 h g' k' x y z
theorem envS_mod (h g l a b c : Nat) : envS (h % 24) g l a b c = envS h g l a b c := by
  unfold envS
  rw [Nat.mod_mod]
theorem soundS_mod (s : SD) (b h g : Nat) : soundS s b (h % 24) g = soundS s b h g := by unfold soundS; rw [envS_mod]
theorem openS_mod (s : SD) (h g : Nat) : openS s (h % 24) g = openS s h g := by funext c; unfold openS; rw [envS_mod]
theorem lisS_mod (s : SD) (h g p k : Nat) : lisS s (h % 24) g p k = lisS s h g p k := by unfold lisS; rw [envS_mod]
theorem fmod_n {a b : Nat} (ha : a < 2147483648) (hb : b < 2147483648) (hb0 : 0 < b) : fmod (nI a) (nI b) = nI (a % b) := by
  unfold fmod
  rw [if_pos, jrem_n (by omega) hb0 (by omega)]
  rw [Int32.le_iff_toInt_le]
  have h0 : ∀ x : Int32, bt x 31 = false → (0 : Int32).toInt ≤ x.toInt := by
    intro x hx
    have h2 : x.toBitVec.msb = false := by rw [BitVec.msb_eq_getLsbD_last]; exact hx
    have h3 := BitVec.toInt_eq_msb_cond x.toBitVec
    rw [h2] at h3
    have h4 : x.toInt = x.toBitVec.toInt := rfl
    rw [h4, h3]
    simp
  refine h0 _ ?_
  rw [b_xor, b_nI _ _ (by decide), b_nI _ _ (by decide), Nat.testBit_lt_two_pow (by omega), Nat.testBit_lt_two_pow (by omega)]
  rfl
theorem f01 {g : Nat} (hg : g < 2) : (if nI g = 0 then (0 : Int32) else 1) = nI g := by
  rcases (show g = 0 ∨ g = 1 by omega) with rfl | rfl <;> rfl
theorem f01' {g : Nat} (hg : g < 2) : (if g = 0 then (0 : Int32) else 1) = nI g := by
  rcases (show g = 0 ∨ g = 1 by omega) with rfl | rfl <;> rfl
theorem f_slotOf {n h g : Nat} {μ : Mu} (hh : h < 2147483648) (hg : g < 2) : fX6_slotOf n (nI h) (nI g) μ = some (nI (h % 24 * 2 + g)) := by
  unfold fX6_slotOf
  have e : fmod (nI h) 24 = nI (h % 24) := fmod_n hh (by decide) (by decide)
  rw [e, f01 hg]
  simp only [mul_r, nI_add]
theorem f_giveTime {n h g : Nat} {μ : Mu} (hh : h < 2147483648) (hg : g < 2) : fX6_giveTime n (nI h) (nI g) μ = some (wI (wI μ 32 0 (nI (h % 24))) 32 1 (nI g)) := by
  unfold fX6_giveTime
  have e : fmod (nI h) 24 = nI (h % 24) := fmod_n hh (by decide) (by decide)
  rw [e, f01 hg]
theorem CS.cl {μ : Mu} {s : SD} (h : CS μ 2 s) : CL μ 9 s := h.2.2.2.2.2.2.2.2.2.2.2
theorem S33.sr {μ μ' : Mu} (h : S33 μ μ') : Sr μ μ' := fun a ha => h a (by omega)
theorem CS.sr {μ μ' : Mu} {s : SD} (h : CS μ 2 s) (e : Sr μ μ') : CS μ' 2 s := h.congr (fun k hk i => e.i (by omega) i)
theorem clamp_j (v : Int32) : jmax 0 (jmin 99 v) = clamp99 v := by
  unfold jmax jmin clamp99
  simp only [Int32.lt_iff_toInt_lt]
  have e0 : (0 : Int32).toInt = 0 := rfl
  have e9 : (99 : Int32).toInt = 99 := rfl
  by_cases c : v.toInt < (99 : Int32).toInt
  · rw [if_pos c]
    by_cases c2 : (0 : Int32).toInt < v.toInt
    · rw [if_pos c2, if_neg (by omega), if_neg (by omega)]
    · rw [if_neg c2]
      by_cases c3 : v.toInt < (0 : Int32).toInt
      · rw [if_pos c3]
      · rw [if_neg c3, if_neg (by omega)]
        exact (Int32.toInt_inj.mp (by omega)).symm
  · rw [if_neg c, if_pos (by omega), if_neg (by omega)]
    by_cases c3 : (99 : Int32).toInt < v.toInt
    · rw [if_pos c3]
    · rw [if_neg c3]
      exact Int32.toInt_inj.mp (by omega)
theorem f_soundOf {n b h g : Nat} {μ : Mu} {s : SD} (hs : CS μ 2 s) (hv : SV s) (hr : RU μ s) (hb : b < sB s) (hh : h < 2147483648) (hg : g < 2) (hn : 1000 < n) : ∃ μ', fX6_soundOf n (nI b) (nI h) (nI g) μ = some (soundS s b h g, μ') ∧ Sr μ μ' ∧ RU μ' s := by
  have hB := hv.1.2
  have hm24 : h % 24 < 24 := Nat.mod_lt _ (by decide)
  unfold fX6_soundOf
  simp (disch := first | omega | decide) only [f_slotOf hh hg, gd_true, bnd_some, bnd2_some, ix_n, ib_n, add_l, add_r, mul_l, mul_r, nI_add, sub_r, nI_leI, nI_ltI, nI_eq, le_l, le_r, lt_l, lt_r, eq_l, eq_r, eq_m, if_true, if_false, not_false_eq_true, not_true_eq_false]
  generalize hsl : (h % 24 * 2 + g) * 6 + b = sl
  have fin : ∀ m v, Sr μ m → RU m s → clamp99 v = soundS s b h g → ∃ μ', jX6_soundOf_87 n (nI sl) v m = some (soundS s b h g, μ') ∧ Sr μ μ' ∧ RU μ' s := by
    intro m v h1 h2 h3
    unfold jX6_soundOf_87 jX6_soundOf_105
    simp (disch := first | omega | decide) only [gd_true, bnd_some, bnd2_some, ix_n, ib_n, add_l, add_r, mul_l, mul_r, nI_add, sub_r, nI_leI, nI_ltI, nI_eq, le_l, le_r, lt_l, lt_r, eq_l, eq_r, eq_m, if_true, if_false, not_false_eq_true, not_true_eq_false, rI_same, clamp_j, h3]
    refine ⟨_, rfl, h1.w (by decide) _ _, ?_⟩
    rw [← hsl]
    exact h2.w29 hB hm24 hg hb (soundS_mod s b h g).symm
  by_cases c : rI μ 29 sl = -1
  · rw [if_pos c]
    have ht : fX3_isTold n 9 0 μ = some (if sLn s 0 = 0 then 0 else 1) := f_isTold (l := 0) hs.cl (by decide) hv
    rw [ht, bnd_some]
    by_cases c0 : sLn s 0 = 0
    · rw [if_pos c0, if_pos rfl, f01' hg]
      simp only [gd_true, bnd_some, bnd2_some, ix_n, ib_n, add_l, add_r, mul_l, mul_r, nI_add, sub_r, nI_leI, nI_ltI, nI_eq, le_l, le_r, lt_l, lt_r, eq_l, eq_r, eq_m, if_true, if_false, not_false_eq_true, not_true_eq_false]
      refine fin μ _ (Sr.rfl' μ) hr ?_
      unfold soundS clamp99
      rw [if_pos c0, if_neg (nI_pos (by omega)), if_neg]
      simp (disch := first | omega | decide) only [gd_true, bnd_some, bnd2_some, ix_n, ib_n, add_l, add_r, mul_l, mul_r, nI_add, sub_r, nI_leI, nI_ltI, nI_eq, le_l, le_r, lt_l, lt_r, eq_l, eq_r, eq_m, if_true, if_false, not_false_eq_true, not_true_eq_false]; omega
    · rw [if_neg c0, if_neg (by decide), f_giveTime hh hg, bnd_some]
      generalize hm : wI (wI (wI μ 32 0 (nI (h % 24))) 32 1 (nI g)) 32 2 (nI b) = m
      have hsr : Sr μ m := by rw [← hm]; exact (((Sr.rfl' μ).w (by decide) _ _).w (by decide) _ _).w (by decide) _ _
      obtain ⟨μ', h1, h2⟩ := f_valueOf (n := n) (l := 0) (g := envS h g 0 b 0 0) (hs.sr hsr).cl hv (by decide) (by omega) hn ⟨by rw [← hm, rI_ii (by decide), rI_ii (by decide), rI_same]; rfl, by rw [← hm, rI_ii (by decide), rI_same]; rfl, fun _ => by rw [← hm, rI_same]; rfl, (fun q => by omega), (fun q => by omega)⟩
      have h1 : fX3_valueOf n 9 0 m = _ := h1
      rw [h1, bnd2_some]
      refine fin μ' _ (hsr.tr h2.sr) (hr.congr fun a ha hb i => ?_) ?_
      · rw [(h2 a (by omega)).1, ← hm, rI_ai (by omega), rI_ai (by omega), rI_ai (by omega)]
      · unfold soundS; rw [if_neg c0]
  · rw [if_neg c]
    unfold jX6_soundOf_105
    simp (disch := first | omega | decide) only [gd_true, bnd_some, bnd2_some, ix_n, ib_n, add_l, add_r, mul_l, mul_r, nI_add, sub_r, nI_leI, nI_ltI, nI_eq, le_l, le_r, lt_l, lt_r, eq_l, eq_r, eq_m, if_true, if_false, not_false_eq_true, not_true_eq_false]
    have := hr.1 _ g b hm24 hg hb
    rw [hsl, soundS_mod] at this
    exact ⟨μ, by rw [this.resolve_left c], Sr.rfl' μ, hr⟩
theorem bs_01 {x v : Int32} {n : Nat} {f : Nat → Bool} (h : bs x n f) (hn : n < 32) (hv : v = if f n = true then 1 else 0) : bs (x ||| shl v (nI n)) (n + 1) f := by
  have h2 := bs_up2 h hn
  rw [hv]
  by_cases c : f n = true
  · rw [if_pos c] at h2 ⊢; exact h2
  · rw [if_neg c] at h2 ⊢
    have e : shl 0 (nI n) = 0 := b_ext fun i hi => by unfold shl; rw [b_shl n hn 0 hi, b_0, b_0]; simp
    rw [e]; exact h2
/-- a truth is 0 or 1 -/
theorem law_01' {s : SD} (hv : SV s) {l : Nat} (hl : l < 3) (h1 : 1 ≤ l) (hln : 0 < sLn s l) (g : Nat → Int32) : lawV s l g = if decide (lawV s l g = 1) = true then 1 else 0 := by
  rcases law_01 hv hl h1 hln g with h | h <;> rw [h] <;> rfl
