/-! IMAGES: image, restore -/
theorem IMG1.keep {P : Nat → Nat → Prop} {sh sh' : List Sh} {R R' : Rf} {μ μ' : Mu} {B B' j : Nat} (h : IMG1 sh R μ B j) (e : Fg P μ μ') (hB : B ≤ B') (hR : R' 137 j = R 137 j) (hI : ∀ a, R 137 j = some a → 155 ≤ a → isIm sh R a → isIm sh' R' a) (h1 : ¬ P 141 j) (h2 : ∀ k, k < 2242 → ¬ P 140 (2242 * (j + 1) + k)) (h3 : ∀ a, R 137 j = some a → 155 ≤ a → isIm sh R a → ∀ x i, a + 1 ≤ x → x ≤ a + 18 → ¬ P x i) : IMG1 sh' R' μ' B' j := by
  rcases h with ⟨a1, a2⟩ | ⟨a, s, t, a1, a2, a3, a4, a5, a6, a7, a8, a9, a10, a11⟩
  · exact Or.inl ⟨by rw [hR]; exact a1, by rw [e.i h1]; exact a2⟩
  · have q := h3 a a1 a3 a2
    refine Or.inr ⟨a, s, t, by rw [hR]; exact a1, hI a a1 a3 a2, a3, by rw [e.i h1]; exact a4, a5, a6, by omega, a8.congr fun k hk i => e.i (q _ _ (by omega) (by omega)), a9.congr fun k hk i => e.i (q _ _ (by omega) (by omega)), a10.congr a5 fun i hi => e.i (h2 _ (by omega)), a11.congr a6 a5 fun i hi => ?_⟩
    have := h2 (64 + i) (by omega)
    rw [show 2242 * (j + 1) + (64 + i) = 2242 * (j + 1) + 64 + i by omega] at this
    exact e.i this
theorem image_core {n k i a m : Nat} {sh : List Sh} {R : Rf} {μ : Mu} {s : SD} {t : ST} {h : Nat → ST} (hi : i < 2) (ha : 155 ≤ a) (hN : R 137 i = some a) (hIm : isIm sh R a) (hV : VI s t m h (1000 + 50 * k)) (hC : CI μ s t m h) (hR : RI μ s t m h) (hT : TRY μ) (hA : TAP μ) (hO : ∀ j, j < 2 → j ≠ i → IMG1 sh R μ (1000 + 50 * k) j) (hdis : ∀ x y, R 137 0 = some x → R 137 1 = some y → x + 19 ≤ y ∨ y + 19 ≤ x) (hn : 5000 < n) : ∃ μ1 μ2 μ3, fX7_copyFrom n (a + 1) 2 μ = some μ1 ∧ fX8_copyFrom n (a + 12) 34 μ1 = some μ2 ∧ fX12_image n (nI i) μ2 = some (0, μ3) ∧ INV (k + 1) sh R μ3 := by
  obtain ⟨μ1, c1, c2, c3⟩ := f_copySea (n := n) (a := a + 1) (b := 2) (Or.inr (by omega)) hV.1 hC.1
  have cb : CB μ1 34 s t := hC.2.2.1.fr c3 (fun k hk q => by unfold PZ at q; omega)
  obtain ⟨μ2, d1, d2, d3⟩ := f_copyFrom (n := n) (a := a + 12) (b := 34) (Or.inr (by omega)) hV.1 hV.2.1.2.1 cb
  have fC : Fg (fun x _ => a + 1 ≤ x ∧ x ≤ a + 18) μ μ2 := (c3.fg.mono fun x _ q => by have q : PZ (a + 1) x := q; unfold PZ at q; omega).tr (d3.fg.mono fun x _ q => by have q : PS (a + 12) x := q; unfold PS at q; omega)
  obtain ⟨μ3, e1, e2, e3, e4⟩ := ref_image (n := n) (μ := μ2) hi hn
  have hR2 : RI μ2 s t m h := hR.hi hV fC (fun i hi q => by omega) (fun q => by omega)
  refine ⟨μ1, μ2, μ3, c1, d1, e1, s, t, m, h, hV.mono (by omega), ?_, ?_, ?_, ?_, fun j hj => ?_, hdis⟩
  · exact (hC.fg fC (fun x i hx q => by omega)).fg e4 (fun x i hx q => by omega)
  · exact hR2.hi hV e4 (fun i hi q => by omega) (by omega)
  · exact (hT.fg fC (fun x i hx q => by omega)).fg e4 (fun x i hx q => by omega)
  · exact (hA.fg fC (fun x i hx q => by omega)).fg e4 (fun x i hx q => by omega)
  · show IMG1 sh R μ3 (1000 + 50 * (k + 1)) j
    by_cases ej : j = i
    · subst ej
      have hb := hV.2.2.1
      refine Or.inr ⟨a, s, t, hN, hIm, ha, e3, hV.1, hV.2.1, by omega, ?_, ?_, ?_, ?_⟩
      · exact (c2.congr fun k hk i => d3.i (fun q => by unfold PS at q; omega) i).congr fun k hk i => e4.i (by omega)
      · exact d2.congr fun k hk i => e4.i (by omega)
      · exact RS.congr (μ := μ2) (μ' := (fun _ => fun k => rI μ3 140 (2242 * (j + 1) + k), fun _ _ => 0)) hR2.1 hV.1 fun q hq => e2 q (by omega)
      · refine RB.congr hR2.2.1 hV.2.1 hV.1 fun q hq => ?_
        have := e2 (64 + q) (by omega)
        rw [show 2242 * (j + 1) + (64 + q) = 2242 * (j + 1) + 64 + q by omega] at this
        exact this
    · have dis : ∀ b, R 137 j = some b → a + 19 ≤ b ∨ b + 19 ≤ a := fun b hb => by
        have : (i = 0 ∧ j = 1) ∨ (i = 1 ∧ j = 0) := by omega
        rcases this with ⟨x1, x2⟩ | ⟨x1, x2⟩
        · rw [x1] at hN; rw [x2] at hb; exact hdis a b hN hb
        · rw [x1] at hN; rw [x2] at hb; exact (hdis b a hb hN).symm
      have h1 : IMG1 sh R μ2 (1000 + 50 * k) j := (hO j hj ej).keep fC (Nat.le_refl _) rfl (fun _ _ _ q => q) (by omega) (fun k hk q => by omega) (fun b hb hb5 _ x i h1 h2 q => by have := dis b hb; omega)
      exact h1.keep e4 (by omega) rfl (fun _ _ _ q => q) (by omega) (fun k hk q => by
        have : (i = 0 ∧ j = 1) ∨ (i = 1 ∧ j = 0) := by omega
        omega) (fun b hb hb5 _ x i h1 h2 q => by omega)
theorem m_image {n k : Nat} {sh : List Sh} {R : Rf} {μ : Mu} {x : Int32} (hI : INV k sh R μ) (hY : LY sh R) (hn : 5000 < n) : ∃ r sh' R' μ1 μ2, (∀ (l : Launch) (w : WP), CM l w yX11_image cX11_image 2 (some .int) 4 19 1107 sh R [.ref (wb w + 0), .int x] μ (some (.int r)) sh' R' μ1) ∧ fX12_image n x μ1 = some (r, μ2) ∧ INV (k + 1) sh' R' μ2 ∧ LY sh' R' := by
  obtain ⟨s, t, m, h, hV, hC, hR, hT, hA, hG, hdis⟩ := hI
  have hG : ∀ j, j < 2 → IMG1 sh R μ (1000 + 50 * k) j := hG
  rcases two_cases x with ⟨i, hi, rfl⟩ | hx
  · have hb : ib (nI i) 2 = true := ib_n hi (by omega)
    have hix : ix (nI i) = i := ix_n (by omega)
    rcases hG i hi with ⟨hN, -⟩ | ⟨a, s', t', hN, hIm, ha, -⟩
    · -- a new one
      obtain ⟨q1, q2, q3, q4, q5, q6, q7⟩ := im_all (k := sh.length) (i := i) (T := (sh, R, μ)) rfl hY
      have f0 : Fg (fun y _ => sh.length ≤ y) μ (imT i sh.length (sh, R, μ)).2.2 := q7.fg
      obtain ⟨μ1, μ2, μ3, c1, c2, c3, c4⟩ := image_core (n := n) (k := k) (i := i) (a := sh.length) (sh := (imT i sh.length (sh, R, μ)).1) (R := (imT i sh.length (sh, R, μ)).2.1) (μ := (imT i sh.length (sh, R, μ)).2.2) hi q1 q3 q5 hV (hC.fg f0 (fun x i hx q => by omega)) (hR.hi hV f0 (fun i hi q => by omega) (fun q => by omega)) (hT.fg f0 (fun x i hx q => by omega)) (hA.fg f0 (fun x i hx q => by omega)) (fun j hj hji => (hG j hj).keep f0 (Nat.le_refl _) (q4 j hji) (fun a _ h5 hm => (q6 a h5 hm).1) (fun q => by omega) (fun k hk q => by omega) (fun a _ h5 hm x i h1 h2 q => by have := (q6 a h5 hm).2; omega)) (fun x y hx hy => by
        have hc : i = 0 ∨ i = 1 := by omega
        rcases hc with e | e
        · subst e
          rw [q3] at hx
          rw [q4 1 (by decide)] at hy
          have ex : sh.length = x := Option.some.inj hx
          rcases hG 1 (by decide) with ⟨z, -⟩ | ⟨b, _, _, b1, b2, b3, -⟩
          · have hy : R 137 1 = some y := hy
            rw [z] at hy; cases hy
          · have hy : R 137 1 = some y := hy
            have ey : b = y := Option.some.inj (b1.symm.trans hy)
            have := (q6 b b3 b2).2
            omega
        · subst e
          rw [q3] at hy
          rw [q4 0 (by decide)] at hx
          have ey : sh.length = y := Option.some.inj hy
          rcases hG 0 (by decide) with ⟨z, -⟩ | ⟨b, _, _, b1, b2, b3, -⟩
          · have hx : R 137 0 = some x := hx
            rw [z] at hx; cases hx
          · have hx : R 137 0 = some x := hx
            have ex : b = x := Option.some.inj (b1.symm.trans hx)
            have := (q6 b b3 b2).2
            omega) hn
      refine ⟨0, _, _, μ2, μ3, fun l w => ?_, c3, c4, q2⟩
      have z := tX11_imageC (l := l) (w := w) (T := (sh, R, μ)) (k := sh.length) (μ1 := μ1) (μ2 := μ2) rfl hY n (nI i) (w11_in hi) hb (by rw [hix]; exact hN) (by rw [hix]; exact q2) (by rw [hix]; exact q3) (by rw [hix]; exact q5) (by rw [hix]; exact c1) c2
      rw [hix] at z
      exact z
    · obtain ⟨μ1, μ2, μ3, c1, c2, c3, c4⟩ := image_core (n := n) (k := k) hi ha hN hIm hV hC hR hT hA (fun j hj _ => hG j hj) hdis hn
      exact ⟨0, sh, R, μ2, μ3, fun l w => tX11_imageB hY n (nI i) (w11_in hi) hb (by rw [hix]; exact hN) hIm c1 c2, c3, c4, hY⟩
  · have fR : Fg (fun a i => a = 139 ∧ i = 0) μ (wI μ 139 0 0) := (Fg.rfl' _ _).w ⟨rfl, rfl⟩ _
    refine ⟨-2, sh, R, μ, wI μ 139 0 0, fun l w => tX11_imageA hY n x (w11_out hx), ?_, ⟨s, t, m, h, hV.mono (by omega), hC.fg fR (fun x i hx q => by omega), hR.fg hV fR (fun i => by omega) (by omega), hT.fg fR (fun x i hx q => by omega), hA.fg fR (fun x i hx q => by omega), IMG.fg ⟨hG, hdis⟩ fR (by omega) (fun x i hx q => by omega)⟩, hY⟩
    unfold fX12_image
    rw [f_within, bnd_some, ifb, if_neg (fun q => hx (by
      obtain ⟨q1, q2⟩ := of_decide_eq_true q
      exact ⟨i64_mono' q1, i64_mono' q2⟩))]
theorem ref_restore {n i : Nat} {μ : Mu} (hi : i < 2) (h1 : rI μ 141 i = 1) (hn : 5000 < n) : ∃ μ2, fX12_restore n (nI i) μ = some (0, μ2) ∧ (∀ j, j < 2242 → j ≠ 180 → rI μ2 140 j = rI μ 140 (2242 * (i + 1) + j)) ∧ rI μ2 140 180 = 0 ∧ Fg (fun a q => (a = 139 ∧ q = 0) ∨ (a = 140 ∧ q < 2242)) μ μ2 := by
  have key : Rn (lp n (sX12_restore_32 n (nI i)) (0, wI μ 139 0 0)) (fun m => (∀ k, k < 2242 → rI m 140 k = rI μ 140 (2242 * (i + 1) + k)) ∧ Fg (fun a q => a = 140 ∧ q < 2242) (wI μ 139 0 0) m) := by
    refine Rn.l 2242 (fun j q => q.1 = nI j ∧ (∀ k, k < j → rI q.2 140 k = rI μ 140 (2242 * (i + 1) + k)) ∧ Fg (fun a q => a = 140 ∧ q < 2242) (wI μ 139 0 0) q.2) _ (by omega) ⟨rfl, fun k hk => absurd hk (Nat.not_lt_zero _), Fg.rfl' _ _⟩ ?_ ?_
    · rintro j ⟨x, m⟩ hj ⟨e1, e2, e3⟩
      have e1 : x = nI j := e1
      subst e1
      have e2 : ∀ k, k < j → rI m 140 k = rI μ 140 (2242 * (i + 1) + k) := e2
      have e3 : Fg (fun a q => a = 140 ∧ q < 2242) (wI μ 139 0 0) m := e3
      show Rn (if (2242 : Int32) ≤ nI j then _ else _) _
      have ea : (2242 : Int32) * (nI i + 1) + nI j = nI (2242 * (i + 1) + j) := by
        rw [show nI i + 1 = nI (i + 1) from nI_add i 1, show (2242 : Int32) * nI (i + 1) = nI (2242 * (i + 1)) from pk_mul 2242 (i + 1)]
        exact nI_add _ j
      rw [if_neg (fun e => by have : 2242 ≤ j := (le_l (k := 2242) (by decide) (by omega)).mp e; omega), ea, ib_n (by omega) (by omega), gd_true, ib_n (by omega) (by omega), gd_true, ix_n (by omega), ix_n (by omega)]
      refine Rn.so ⟨nI_add j 1, fun k hk => ?_, e3.w ⟨rfl, by omega⟩ _⟩
      show rI (wI m 140 j (rI m 140 (2242 * (i + 1) + j))) 140 k = _
      by_cases e : k = j
      · rw [e, rI_same, e3.i (by omega), rI_ai (by decide)]
      · rw [rI_ii e]; exact e2 k (by omega)
    · rintro ⟨x, m⟩ ⟨e1, e2, e3⟩
      have e1 : x = nI 2242 := e1
      subst e1
      exact Rn.e (r := m) (by
        simp only [sX12_restore_32]
        rw [if_pos (by decide)]) ⟨e2, e3⟩
  obtain ⟨m, g1, g2, g3⟩ := key
  refine ⟨wI m 140 180 0, ?_, fun j hj hne => ?_, rI_same _ _ _ _, ((((Fg.rfl' _ _).w (Or.inl ⟨rfl, rfl⟩) _).tr (g3.mono fun a q z => Or.inr z)).w (Or.inr ⟨rfl, by omega⟩) _)⟩
  · have wn : ∀ i, i < 2 → decide ((0 : Int64) ≤ (nI i).toInt64 ∧ (nI i).toInt64 ≤ 1) = true := by decide
    unfold fX12_restore
    rw [f_within, bnd_some, ifb, if_pos (wn i hi), ib_n hi (by omega), gd_true, ix_n (by omega), rI_ai (by decide), h1, if_neg (by decide), g1, bnd_some]
  · rw [rI_ii hne]; exact g2 j hj
theorem m_restore {n k : Nat} {sh : List Sh} {R : Rf} {μ : Mu} {x : Int32} (hI : INV k sh R μ) (hY : LY sh R) (hn : 5000 < n) : ∃ r μ1 μ2, (∀ (l : Launch) (w : WP), CM l w yX11_restore cX11_restore 2 (some .int) 3 0 0 sh R [.ref (wb w + 0), .int x] μ (some (.int r)) sh R μ1) ∧ fX12_restore n x μ1 = some (r, μ2) ∧ INV (k + 1) sh R μ2 := by
  obtain ⟨s, t, m, h, hV, hC, hR, hT, hA, hG, hdis⟩ := hI
  have hG : ∀ j, j < 2 → IMG1 sh R μ (1000 + 50 * k) j := hG
  have fR : Fg (fun a i => a = 139 ∧ i = 0) μ (wI μ 139 0 0) := (Fg.rfl' _ _).w ⟨rfl, rfl⟩ _
  have same : INV (k + 1) sh R (wI μ 139 0 0) := ⟨s, t, m, h, hV.mono (by omega), hC.fg fR (fun x i hx q => by omega), hR.fg hV fR (fun i => by omega) (by omega), hT.fg fR (fun x i hx q => by omega), hA.fg fR (fun x i hx q => by omega), IMG.fg ⟨hG, hdis⟩ fR (by omega) (fun x i hx q => by omega)⟩
  rcases two_cases x with ⟨i, hi, rfl⟩ | hx
  · have hb : ib (nI i) 2 = true := ib_n hi (by omega)
    have hix : ix (nI i) = i := ix_n (by omega)
    have wn : ∀ i, i < 2 → decide ((0 : Int64) ≤ (nI i).toInt64 ∧ (nI i).toInt64 ≤ 1) = true := by decide
    rcases hG i hi with ⟨hN, h0⟩ | ⟨a, s', t', hN, hIm, ha, h1, v1, v2, v3, v4, v5, v6, v7⟩
    · refine ⟨-5, μ, wI μ 139 0 0, fun l w => tX11_restoreB hY n (nI i) (w11_in hi) hb (by rw [hix]; exact hN), ?_, same⟩
      unfold fX12_restore
      rw [f_within, bnd_some, ifb, if_pos (wn i hi), ib_n hi (by omega), gd_true, ix_n (by omega), rI_ai (by decide), h0, if_pos rfl]
    · obtain ⟨μ1, c1, c2, c3⟩ := f_copySea (n := n) (a := 2) (b := a + 1) (Or.inl (by omega)) v1 v4
      have cb : CB μ1 (a + 12) s' t' := v5.fr c3 (fun k hk q => by unfold PZ at q; omega)
      obtain ⟨μ2, d1, d2, d3⟩ := f_copyFrom (n := n) (a := 34) (b := a + 12) (Or.inl (by omega)) v1 v2.2.1 cb
      have c2' : CS μ2 2 s' := c2.fr d3 (fun k hk q => by unfold PS at q; omega)
      obtain ⟨μ3, e1, e2, e3⟩ := f_forget (n := n) μ2 v1 (by omega)
      have c3' : CS μ3 2 s' := c2'.fr e3 (fun k hk q => by omega)
      have d2' : CB μ3 34 s' t' := d2.fr e3 (fun k hk q => by omega)
      have fC : Fg (fun x i => (2 ≤ x ∧ x ≤ 12) ∨ (29 ≤ x ∧ x ≤ 40) ∨ (x = 48 ∧ i = 2)) μ (wI μ3 48 2 0) := (((c3.fg.mono fun x _ q => by have q : PZ 2 x := q; unfold PZ at q; omega).tr (d3.fg.mono fun x _ q => by have q : PS 34 x := q; unfold PS at q; omega)).tr (e3.fg.mono fun x _ q => by have q : 29 ≤ x ∧ x ≤ 31 := q; omega)).w (by omega) _
      obtain ⟨μ4, g1, g2, g3, g4⟩ := ref_restore (n := n) (μ := wI μ3 48 2 0) hi (by rw [fC.i (by omega)]; exact h1) hn
      have o4 : ∀ q, rI (wI μ3 48 2 0) 140 q = rI μ 140 q := fun q => fC.i (by omega)
      have hG' : ∀ j, j < 2 → IMG1 sh R μ4 (1000 + 50 * (k + 1)) j := fun j hj => ((hG j hj).keep fC (Nat.le_refl _) rfl (fun _ _ _ q => q) (by omega) (fun k hk q => by omega) (fun b _ hb5 _ x i h1 h2 q => by omega)).keep g4 (by omega) rfl (fun _ _ _ q => q) (by omega) (fun k hk q => by omega) (fun b _ hb5 _ x i h1 h2 q => by omega)
      refine ⟨0, wI μ3 48 2 0, μ4, fun l w => tX11_restoreC hY n (nI i) (w11_in hi) hb (by rw [hix]; exact hN) hIm c1 d1 e1 rfl, g1, s', t', 0, h, ⟨v1, v2, by omega, fun j hj => absurd hj (Nat.not_lt_zero _)⟩, ⟨?_, ?_, ?_, ?_⟩, ⟨?_, ?_, ⟨g3, by omega, fun j hj => absurd hj (Nat.not_lt_zero _)⟩, ?_⟩, ?_, ?_, hG', hdis⟩
      · exact (c3'.congr fun k hk i => by rw [rI_ai (by omega)]).congr fun k hk i => g4.i (by omega)
      · exact (e2.congr fun a h1 h2 i => by rw [rI_ai (by omega)]).congr fun a h1 h2 i => g4.i (by omega)
      · exact (d2'.congr fun k hk i => by rw [rI_ai (by omega)]).congr fun k hk i => g4.i (by omega)
      · obtain ⟨-, -, -, q, h4, h5, -⟩ := hC
        exact ⟨q, h4, by rw [g4.i (by omega), fC.i (by omega)]; exact h5, by rw [g4.i (by omega), rI_same]; rfl, by omega, fun j hj => absurd hj (Nat.not_lt_zero _)⟩
      · exact RS.congr (μ := (fun _ => fun k => rI μ 140 (2242 * (i + 1) + k), fun _ _ => 0)) (μ' := μ4) v6 v1 fun q hq => by rw [g2 q (by omega) (by omega), o4]; rfl
      · refine RB.congr v7 v2 v1 fun q hq => ?_
        show rI μ4 140 (64 + q) = rI μ 140 (2242 * (i + 1) + 64 + q)
        rw [g2 (64 + q) (by omega) (by omega), o4, show 2242 * (i + 1) + (64 + q) = 2242 * (i + 1) + 64 + q by omega]
      · rw [g4.i (by omega), fC.i (by omega)]; exact hR.2.2.2
      · exact (hT.fg fC (fun x i hx q => by omega)).fg g4 (fun x i hx q => by omega)
      · exact (hA.fg fC (fun x i hx q => by omega)).fg g4 (fun x i hx q => by omega)
  · refine ⟨-2, μ, wI μ 139 0 0, fun l w => tX11_restoreA hY n x (w11_out hx), ?_, same⟩
    unfold fX12_restore
    rw [f_within, bnd_some, ifb, if_neg (fun q => hx (by
      obtain ⟨q1, q2⟩ := of_decide_eq_true q
      exact ⟨i64_mono' q1, i64_mono' q2⟩))]
