/-- nothing changed but the rows 32, 33 -/
def S32 (μ μ' : Mu) : Prop := ∀ a, a ≠ 32 → a ≠ 33 → (∀ i, rI μ' a i = rI μ a i) ∧ ∀ i, rL μ' a i = rL μ a i
theorem S32.sr {μ μ' : Mu} (h : S32 μ μ') : Sr μ μ' := fun a ha => h a (by omega) (by omega)
theorem S32.ru {μ μ' : Mu} {s : SD} (h : S32 μ μ') (hr : RU μ s) : RU μ' s := hr.congr fun a h1 h2 i => (h a (by omega) (by omega)).1 i
theorem S32.w {a b : Mu} (h : S32 a b) (i : Nat) (v : Int32) : S32 a (wI b 32 i v) := fun y h1 h2 => ⟨fun j => by rw [rI_ai h1]; exact (h y h1 h2).1 j, fun j => (h y h1 h2).2 j⟩
theorem S32.rfl' (μ : Mu) : S32 μ μ := fun _ _ _ => ⟨fun _ => rfl, fun _ => rfl⟩
theorem S32.tr {a b c : Mu} (h : S32 a b) (h2 : S32 b c) : S32 a c := fun x h1 h3 => ⟨fun i => by rw [(h2 x h1 h3).1, (h x h1 h3).1], fun i => by rw [(h2 x h1 h3).2, (h x h1 h3).2]⟩
theorem S33.s32 {μ μ' : Mu} (h : S33 μ μ') : S32 μ μ' := fun a _ ha => h a ha
theorem f_openCurrents {n h g : Nat} {μ : Mu} {s : SD} (hs : CS μ 2 s) (hv : SV s) (hr : RU μ s) (hh : h < 2147483648) (hg : g < 2) (hn : 1000 < n) : ∃ x μ', fX6_openCurrents n (nI h) (nI g) μ = some (x, μ') ∧ bs x (sC s) (openS s h g) ∧ Sr μ μ' ∧ RU μ' s := by
  have hC := hv.2.1
  have hm24 : h % 24 < 24 := Nat.mod_lt _ (by decide)
  unfold fX6_openCurrents
  simp (disch := first | omega | decide) only [f_slotOf hh hg, gd_true, bnd_some, bnd2_some, ix_n, ib_n, add_l, add_r, mul_l, mul_r, nI_add, sub_r, nI_leI, nI_ltI, nI_eq, le_l, le_r, lt_l, lt_r, eq_l, eq_r, eq_m, if_true, if_false, not_false_eq_true, not_true_eq_false]
  generalize hsl : h % 24 * 2 + g = sl
  have fin : ∀ m x, Sr μ m → RU m s → bs x (sC s) (openS s h g) → ∃ y μ', jX6_openCurrents_160 n (nI sl) x m = some (y, μ') ∧ bs y (sC s) (openS s h g) ∧ Sr μ μ' ∧ RU μ' s := by
    intro m x h1 h2 h3
    unfold jX6_openCurrents_160 jX6_openCurrents_168
    simp (disch := first | omega | decide) only [gd_true, bnd_some, bnd2_some, ix_n, ib_n, add_l, add_r, mul_l, mul_r, nI_add, sub_r, nI_leI, nI_ltI, nI_eq, le_l, le_r, lt_l, lt_r, eq_l, eq_r, eq_m, if_true, if_false, not_false_eq_true, not_true_eq_false, rI_same]
    refine ⟨x, _, rfl, h3, h1.w (by decide) _ _, ?_⟩
    rw [← hsl]
    exact h2.w30 hm24 hg (by rw [openS_mod]; exact h3)
  by_cases c : rI μ 30 sl = -1
  · rw [if_pos c]
    have ht : fX3_isTold n 9 1 μ = some (if sLn s 1 = 0 then 0 else 1) := f_isTold (l := 1) hs.cl (by decide) hv
    rw [ht, bnd_some]
    by_cases c0 : sLn s 1 = 0
    · rw [if_pos c0, if_pos rfl, hs.2.1]
      refine fin μ _ (Sr.rfl' μ) hr ?_
      have e : openS s h g = fun _ => decide (g = 0) := by funext q; unfold openS; rw [if_pos c0]
      rw [e]
      rcases (show g = 0 ∨ g = 1 by omega) with rfl | rfl
      · rw [if_pos rfl]; exact bs_full hC
      · rw [if_neg (by decide)]; exact bs_0 _
    · rw [if_neg c0, if_neg (by decide), f_giveTime hh hg, bnd_some]
      generalize hm : wI (wI μ 32 0 (nI (h % 24))) 32 1 (nI g) = m
      have hsr : S32 μ m := by rw [← hm]; exact ((S32.rfl' μ).w _ _).w _ _
      have key : ∃ r, lp n (sX6_openCurrents_67 n (nI sl)) (((0 : Int32), m).1, nI 0, ((0 : Int32), m).2) = some r ∧ S32 μ r.2 ∧ bs r.1 (sC s) (openS s h g) := by
        refine lp_inv (step := sX6_openCurrents_67 n (nI sl)) (sC s) (fun i (q : Int32 × Mu) => (q.1, nI i, q.2)) (fun i q => S32 μ q.2 ∧ bs q.1 i (openS s h g) ∧ rI q.2 32 0 = nI (h % 24) ∧ rI q.2 32 1 = nI g) (fun r => S32 μ r.2 ∧ bs r.1 (sC s) (openS s h g)) ?_ ?_ (n := n) (by omega) (0, m) ⟨hsr, bs_z _, by rw [← hm, rI_ii (by decide), rI_same], by rw [← hm, rI_same]⟩
        · rintro i ⟨x, q⟩ hi ⟨h1, h2, h3, h4⟩
          have hs1 := hs.sr h1.sr
          obtain ⟨o1, o2, o3⟩ := hs1.2.2.2.2.2.2.2.2.1 i hi
          have o0 := hs1.2.1
          simp only at h1 h2 h3 h4 o0 o1 o2 o3
          simp (disch := first | omega | decide) only [sX6_openCurrents_67, gd_true, bnd_some, bnd2_some, ix_n, ib_n, add_l, add_r, mul_l, mul_r, nI_add, sub_r, nI_leI, nI_ltI, nI_eq, le_l, le_r, lt_l, lt_r, eq_l, eq_r, eq_m, if_true, if_false, not_false_eq_true, not_true_eq_false, o0, show ¬ sC s ≤ i by omega, o1, rI_ai (show (4 : Nat) ≠ 32 by decide), rI_ai (show (5 : Nat) ≠ 32 by decide), o2, o3]
          generalize hq : wI (wI (wI q 32 2 (nI (s 1 i))) 32 3 (nI (s 2 i))) 32 4 (nI (s 3 i)) = q1
          have hs2 : S32 μ q1 := by rw [← hq]; exact ((h1.w _ _).w _ _).w _ _
          obtain ⟨μ', g1, g2⟩ := f_valueOf (n := n) (l := 1) (g := envS h g 1 (s 1 i) (s 2 i) (s 3 i)) (hs.sr hs2.sr).cl hv (by decide) (by omega) hn ⟨by rw [← hq, rI_ii (by decide), rI_ii (by decide), rI_ii (by decide), h3]; rfl, by rw [← hq, rI_ii (by decide), rI_ii (by decide), rI_ii (by decide), h4]; rfl, (fun q => by omega), (fun _ => ⟨by rw [← hq, rI_ii (by decide), rI_ii (by decide), rI_same]; rfl, by rw [← hq, rI_ii (by decide), rI_same]; rfl, by rw [← hq, rI_same]; rfl⟩), (fun q => by omega)⟩
          have g1 : fX3_valueOf n 9 1 q1 = _ := g1
          rw [g1, bnd2_some]
          refine ⟨(_, μ'), rfl, hs2.tr g2.s32, bs_01 h2 (by omega) ?_, ?_, ?_⟩
          · rw [law_01' hv (by decide) (by decide) (by omega)]
            unfold openS; rw [if_neg c0]
          · show rI μ' 32 0 = _
            rw [(g2 32 (by decide)).1, ← hq, rI_ii (by decide), rI_ii (by decide), rI_ii (by decide), h3]
          · show rI μ' 32 1 = _
            rw [(g2 32 (by decide)).1, ← hq, rI_ii (by decide), rI_ii (by decide), rI_ii (by decide), h4]
        · rintro ⟨x, q⟩ ⟨h1, h2, h3, h4⟩
          have o0 := (hs.sr h1.sr).2.1
          simp only at o0
          exact ⟨(x, q), by simp (disch := first | omega | decide) only [sX6_openCurrents_67, gd_true, bnd_some, bnd2_some, ix_n, ib_n, add_l, add_r, mul_l, mul_r, nI_add, sub_r, nI_leI, nI_ltI, nI_eq, le_l, le_r, lt_l, lt_r, eq_l, eq_r, eq_m, if_true, if_false, not_false_eq_true, not_true_eq_false, o0, Nat.le_refl], h1, h2⟩
      obtain ⟨⟨x, q⟩, k1, k2, k3⟩ := key
      have k1 : lp n (sX6_openCurrents_67 n (nI sl)) (0, 0, m) = some (x, q) := k1
      rw [k1, bnd_some]
      exact fin q x k2.sr (k2.ru hr) k3
  · rw [if_neg c]
    unfold jX6_openCurrents_168
    simp (disch := first | omega | decide) only [gd_true, bnd_some, bnd2_some, ix_n, ib_n, add_l, add_r, mul_l, mul_r, nI_add, sub_r, nI_leI, nI_ltI, nI_eq, le_l, le_r, lt_l, lt_r, eq_l, eq_r, eq_m, if_true, if_false, not_false_eq_true, not_true_eq_false]
    have := hr.2.1 _ g hm24 hg
    rw [hsl, openS_mod] at this
    exact ⟨_, μ, rfl, this.resolve_left c, Sr.rfl' μ, hr⟩
theorem e6_home {x : Nat} (h : x ≤ 6) : (if e6 x = -1 then (6 : Int32) else e6 x) = nI x := by
  by_cases c : x = 6
  · rw [if_pos ((e6_m1 (by omega)).mpr c), c]; rfl
  · rw [if_neg (fun e => c ((e6_m1 (by omega)).mp e))]; unfold e6; rw [if_neg c]
theorem f_listeners {n h g k : Nat} {μ : Mu} {s : SD} (hs : CS μ 2 s) (hv : SV s) (hr : RU μ s) (hh : h < 2147483648) (hg : g < 2) (hk : k ≤ 8) (hn : 1000 < n) : ∃ x μ', fX6_listeners n (nI h) (nI g) (nI k) μ = some (x, μ') ∧ bs x (sP s) (fun p => lisS s h g p k) ∧ Sr μ μ' ∧ RU μ' s := by
  have hP := hv.2.2.1
  have hm24 : h % 24 < 24 := Nat.mod_lt _ (by decide)
  unfold fX6_listeners
  simp (disch := first | omega | decide) only [f_slotOf hh hg, gd_true, bnd_some, bnd2_some, ix_n, ib_n, add_l, add_r, mul_l, mul_r, nI_add, sub_r, nI_leI, nI_ltI, nI_eq, le_l, le_r, lt_l, lt_r, eq_l, eq_r, eq_m, if_true, if_false, not_false_eq_true, not_true_eq_false]
  generalize hsl : (h % 24 * 2 + g) * 9 + k = sl
  have fin : ∀ m x, Sr μ m → RU m s → bs x (sP s) (fun p => if sLn s 2 = 0 then true else decide (lawV s 2 (envS h g 2 p (s 4 p) k) = 1)) → ∃ y μ', jX6_listeners_157 n (nI sl) x m = some (y, μ') ∧ bs y (sP s) (fun p => lisS s h g p k) ∧ Sr μ μ' ∧ RU μ' s := by
    intro m x h1 h2 h3
    have hd := (hs.sr h1).2.2.2.2.2.2.2.1
    have h4 : bs (x &&& (rI m 2 7 ^^^ (-1))) (sP s) (fun p => lisS s h g p k) := by
      refine bs_congr (bs_andn h3 hd) fun i hi => ?_
      unfold lisS
      have := (hv.2.2.2.2.2.1 i hi).2
      rcases (show s 5 i = 0 ∨ s 5 i = 1 by omega) with e | e <;> simp [e]
    unfold jX6_listeners_157 jX6_listeners_176
    simp (disch := first | omega | decide) only [gd_true, bnd_some, bnd2_some, ix_n, ib_n, add_l, add_r, mul_l, mul_r, nI_add, sub_r, nI_leI, nI_ltI, nI_eq, le_l, le_r, lt_l, lt_r, eq_l, eq_r, eq_m, if_true, if_false, not_false_eq_true, not_true_eq_false, rI_same]
    refine ⟨_, _, rfl, h4, h1.w (by decide) _ _, ?_⟩
    rw [← hsl]
    exact h2.w31 hm24 hg hk (bs_congr h4 fun p _ => (lisS_mod s h g p k).symm)
  by_cases c : rI μ 31 sl = -1
  · rw [if_pos c]
    have ht : fX3_isTold n 9 2 μ = some (if sLn s 2 = 0 then 0 else 1) := f_isTold (l := 2) hs.cl (by decide) hv
    rw [ht, bnd_some]
    by_cases c0 : sLn s 2 = 0
    · rw [if_pos c0, if_pos rfl, hs.2.2.1]
      refine fin μ _ (Sr.rfl' μ) hr (bs_congr (bs_full (by omega)) fun i _ => ?_)
      rw [if_pos c0]
    · rw [if_neg c0, if_neg (by decide), f_giveTime hh hg, bnd_some]
      generalize hm : wI (wI (wI μ 32 0 (nI (h % 24))) 32 1 (nI g)) 32 4 (nI k) = m
      have hsr : S32 μ m := by rw [← hm]; exact (((S32.rfl' μ).w _ _).w _ _).w _ _
      have key : ∃ r, lp n (sX6_listeners_69 n (nI sl)) (((0 : Int32), m).1, nI 0, ((0 : Int32), m).2) = some r ∧ S32 μ r.2 ∧ bs r.1 (sP s) (fun p => decide (lawV s 2 (envS h g 2 p (s 4 p) k) = 1)) := by
        refine lp_inv (step := sX6_listeners_69 n (nI sl)) (sP s) (fun i (q : Int32 × Mu) => (q.1, nI i, q.2)) (fun i q => S32 μ q.2 ∧ bs q.1 i (fun p => decide (lawV s 2 (envS h g 2 p (s 4 p) k) = 1)) ∧ rI q.2 32 0 = nI (h % 24) ∧ rI q.2 32 1 = nI g ∧ rI q.2 32 4 = nI k) (fun r => S32 μ r.2 ∧ bs r.1 (sP s) (fun p => decide (lawV s 2 (envS h g 2 p (s 4 p) k) = 1))) ?_ ?_ (n := n) (by omega) (0, m) ⟨hsr, bs_z _, by rw [← hm, rI_ii (by decide), rI_ii (by decide), rI_same], by rw [← hm, rI_ii (by decide), rI_same], by rw [← hm, rI_same]⟩
        · rintro i ⟨x, q⟩ hi ⟨h1, h2, h3, h4, h5⟩
          have hs1 := hs.sr h1.sr
          have o1 := hs1.2.2.2.2.2.2.2.2.2.1 i hi
          have o0 := hs1.2.2.1
          have hi6 : s 4 i ≤ 6 := by have := (hv.2.2.2.2.2.1 i hi).1; have := hv.1.2; omega
          simp only at h1 h2 h3 h4 h5 o0 o1
          have body : ∃ s' : Int32 × Mu, jX6_listeners_123 n (nI sl) x (nI i) (nI (s 4 i)) 3 (wI q 32 2 (nI i)) = some (.inl (s'.1, nI (i + 1), s'.2)) ∧ S32 μ s'.2 ∧ bs s'.1 (i + 1) (fun p => decide (lawV s 2 (envS h g 2 p (s 4 p) k) = 1)) ∧ rI s'.2 32 0 = nI (h % 24) ∧ rI s'.2 32 1 = nI g ∧ rI s'.2 32 4 = nI k := by
            unfold jX6_listeners_123
            rw [gd_t (by decide), show ix (3 : Int32) = 3 by decide]
            generalize hq : wI (wI q 32 2 (nI i)) 32 3 (nI (s 4 i)) = q1
            have hs2 : S32 μ q1 := by rw [← hq]; exact (h1.w _ _).w _ _
            obtain ⟨μ', g1, g2⟩ := f_valueOf (n := n) (l := 2) (g := envS h g 2 i (s 4 i) k) (hs.sr hs2.sr).cl hv (by decide) (by omega) hn ⟨by rw [← hq, rI_ii (by decide), rI_ii (by decide), h3]; rfl, by rw [← hq, rI_ii (by decide), rI_ii (by decide), h4]; rfl, (fun q => by omega), (fun q => by omega), (fun _ => ⟨by rw [← hq, rI_ii (by decide), rI_same]; rfl, by rw [← hq, rI_same]; rfl, by rw [← hq, rI_ii (by decide), rI_ii (by decide), h5]; rfl⟩)⟩
            have g1 : fX3_valueOf n 9 2 q1 = _ := g1
            rw [g1, bnd2_some]
            refine ⟨(x ||| shl (lawV s 2 (envS h g 2 i (s 4 i) k)) (nI i), μ'), by rw [nI_1], hs2.tr g2.s32, bs_01 h2 (by omega) ?_, ?_, ?_, ?_⟩
            · exact law_01' hv (by decide) (by decide) (by omega) _
            · show rI μ' 32 0 = _
              rw [(g2 32 (by decide)).1, ← hq, rI_ii (by decide), rI_ii (by decide), h3]
            · show rI μ' 32 1 = _
              rw [(g2 32 (by decide)).1, ← hq, rI_ii (by decide), rI_ii (by decide), h4]
            · show rI μ' 32 4 = _
              rw [(g2 32 (by decide)).1, ← hq, rI_ii (by decide), rI_ii (by decide), h5]
          simp (disch := first | omega | decide) only [sX6_listeners_69, gd_true, bnd_some, bnd2_some, ix_n, ib_n, add_l, add_r, mul_l, mul_r, nI_add, sub_r, nI_leI, nI_ltI, nI_eq, le_l, le_r, lt_l, lt_r, eq_l, eq_r, eq_m, if_true, if_false, not_false_eq_true, not_true_eq_false, o0, show ¬ sP s ≤ i by omega, o1, rI_ai (show (6 : Nat) ≠ 32 by decide)]
          by_cases h6 : s 4 i = 6
          · rw [if_pos ((e6_m1 (by omega)).mpr h6)]
            rw [h6] at body
            exact body
          · rw [if_neg (fun e => h6 ((e6_m1 (by omega)).mp e)), show e6 (s 4 i) = nI (s 4 i) by unfold e6; rw [if_neg h6]]
            exact body
        · rintro ⟨x, q⟩ ⟨h1, h2, h3, h4, h5⟩
          have o0 := (hs.sr h1.sr).2.2.1
          simp only at o0
          exact ⟨(x, q), by simp (disch := first | omega | decide) only [sX6_listeners_69, gd_true, bnd_some, bnd2_some, ix_n, ib_n, add_l, add_r, mul_l, mul_r, nI_add, sub_r, nI_leI, nI_ltI, nI_eq, le_l, le_r, lt_l, lt_r, eq_l, eq_r, eq_m, if_true, if_false, not_false_eq_true, not_true_eq_false, o0, Nat.le_refl], h1, h2⟩
      obtain ⟨⟨x, q⟩, k1, k2, k3⟩ := key
      have k1 : lp n (sX6_listeners_69 n (nI sl)) (0, 0, m) = some (x, q) := k1
      rw [k1, bnd_some]
      exact fin q x k2.sr (k2.ru hr) (bs_congr k3 fun i _ => by rw [if_neg c0])
  · rw [if_neg c]
    unfold jX6_listeners_176
    simp (disch := first | omega | decide) only [gd_true, bnd_some, bnd2_some, ix_n, ib_n, add_l, add_r, mul_l, mul_r, nI_add, sub_r, nI_leI, nI_ltI, nI_eq, le_l, le_r, lt_l, lt_r, eq_l, eq_r, eq_m, if_true, if_false, not_false_eq_true, not_true_eq_false]
    have := hr.2.2 _ g k hm24 hg hk
    rw [hsl] at this
    exact ⟨_, μ, rfl, bs_congr (this.resolve_left c) fun p _ => lisS_mod s h g p k, Sr.rfl' μ, hr⟩
