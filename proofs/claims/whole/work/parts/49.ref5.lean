/-- who hears what in the hour's last part -/
def hrS (s : SD) (u : ST) (w p : Nat) : Bool := lisS s (tH u) (gl (tG u)) p (hdS u p) && anyB (fun b => tAt u w b && audS s (tHo u) p b) (sB s)
def phS (s : SD) (u : ST) (pr : Nat → Nat → Bool) : ST := (u.1, tHo u, tAt u, tWe u, fun w p => tHe u w p || (pr p w && hrS s u w p), tLe u)
theorem ph_TV {s : SD} {u : ST} {pr : Nat → Nat → Bool} (h : TV s u) : TV s (phS s u pr) := ⟨h.1, h.2.1, h.2.2.1, h.2.2.2⟩
def nwS (s : SD) (u : ST) (p : Nat) : Nat → Nat := cnt (fun w => hrS s u w p && !tHe u w p)
theorem any_and {x y : Int32} {n : Nat} {f g : Nat → Bool} (h : bs x n f) (h2 : bs y n g) (hn : n ≤ 32) : x &&& y = 0 ↔ anyB (fun b => f b && g b) n = false := by
  rw [bs_nz (bs_and h h2) hn, ← Bool.not_eq_true, anyB_iff]
  constructor
  · rintro h ⟨i, h1, h2⟩
    rw [h i h1] at h2; cases h2
  · intro h i hi
    cases hc : (f i && g i)
    · rfl
    · exact absurd ⟨i, hi, hc⟩ h
set_option maxHeartbeats 4000000 in
theorem f_hearsAll {n p : Nat} {μ : Mu} {s : SD} {u : ST} (hs : RS μ s) (hv : SV s) (hV : TV s u) (hp : p < sP s) (hh : tH u < 1000000000) (hn : 1000 < n) (ht : RT μ s (phS s u (upto p 0))) : ∃ μ', fX12_hearsAll n (nI p) μ = some (nI (nwS s u p (tW u)), μ') ∧ RT μ' s (phS s u (upto p (tW u))) ∧ Sb μ μ' := by
  have hP := hv.2.2.1
  have hB := hv.1.2
  have hW := hV.2.1
  have hTV0 := ph_TV (s := s) (pr := upto p 0) hV
  have hd0 : hdS (phS s u (upto p 0)) p = hdS u p := by
    refine cnt_congr fun w _ => ?_
    show (_ || _) = _
    simp [upto]
  obtain ⟨m3, l1, l2⟩ := f_listens (n := n) (p := p) hs hv ht hTV0 hp hh hn
  rw [hd0] at l1
  have l1 : fX12_listens n (nI p) μ = some (if lisS s (tH u) (gl (tG u)) p (hdS u p) = true then 1 else 0, m3) := l1
  have hs3 : RS m3 s := hs.congr hv (fun i _ => l2.a i)
  have ht3 : RT m3 s (phS s u (upto p 0)) := ht.congr hTV0 hv (fun j _ => l2.a _)
  unfold fX12_hearsAll
  rw [l1, bnd2_some]
  by_cases g0 : lisS s (tH u) (gl (tG u)) p (hdS u p) = true
  · rw [g0, if_pos rfl, if_neg (by decide)]
    obtain ⟨v, v1, v2⟩ := f_hearsAt (n := n) (p := p) hs3 hv ht3 hTV0 hp (by omega)
    have v2 : bs v (sB s) (audS s (tHo u) p) := v2
    rw [v1, bnd_some]
    have key : ∃ r, lp n (sX12_hearsAll_21 n (nI p) v) (nI (nwS s u p 0), nI 0, m3) = some r ∧ (r.1 = nI (nwS s u p (tW u)) ∧ RT r.2 s (phS s u (upto p (tW u))) ∧ Sb μ r.2) := by
      refine lp_inv (step := sX12_hearsAll_21 n (nI p) v) (tW u) (fun i m => (nI (nwS s u p i), nI i, m)) (fun i m => RT m s (phS s u (upto p i)) ∧ Sb μ m) _ ?_ ?_ (n := n) (by omega) m3 ⟨ht3, l2.sb⟩
      · rintro i m hi ⟨hT, hb⟩
        have hTV := ph_TV (s := s) (pr := upto p i) hV
        have a3 : rI m 140 67 = nI (tW u) := hT.2.2.2.1
        obtain ⟨d1, d2, d3, d4⟩ := hT.2.2.2.2.2 i hi
        have d1 : bs (rI m 140 (76 + i)) (sB s) (tAt u i) := by rw [show 76 + i = 64 + (12 + i) by omega]; exact d1
        have he : bt (rI m 140 (92 + i)) p = tHe u i p := by
          rw [show 92 + i = 64 + (28 + i) by omega]
          refine (bs_at d3 hp (by omega)).trans ?_
          show (_ || _) = _
          rw [upto_at]; simp
        have ehe : ∀ w' p', tHe (phS s u (upto p (i + 1))) w' p' = (tHe (phS s u (upto p i)) w' p' || (decide (w' = i) && decide (p' = p) && hrS s u i p)) := by
          intro w' p'
          show (_ || _) = ((_ || _) || _)
          by_cases e : p' = p ∧ w' = i
          · obtain ⟨rfl, rfl⟩ := e
            rw [upto_at1, upto_at]; simp
          · rw [upto_ne e]
            have : (decide (w' = i) && decide (p' = p)) = false := by
              by_cases h : w' = i <;> simp [h]
              intro h2; exact e ⟨h2, h⟩
            rw [this]; simp
        have ecnt : ∀ b : Bool, (hrS s u i p && !tHe u i p) = b → nwS s u p (i + 1) = nwS s u p i + (if b = true then 1 else 0) := fun b hb => by
          rw [← hb]; rfl
        have stay : (hrS s u i p && !tHe u i p) = false → RT m s (phS s u (upto p (i + 1))) ∧ Sb μ m := by
          intro h
          refine ⟨RB.ext hT rfl (fun _ _ => rfl) (fun w' hw' => ⟨fun _ _ => rfl, fun _ _ => ⟨rfl, rfl⟩, fun p' _ => ?_⟩), hb⟩
          rw [ehe]
          by_cases e : w' = i ∧ p' = p
          · obtain ⟨rfl, rfl⟩ := e
            show ((_ || _) || _) = (_ || _)
            rw [upto_at]
            cases h1 : tHe u w' p' <;> cases h2 : hrS s u w' p' <;> simp [h1, h2] at h ⊢
          · have : (decide (w' = i) && decide (p' = p)) = false := by
              by_cases h : w' = i <;> simp [h]
              intro h2; exact e ⟨h, h2⟩
            rw [this]; simp
        simp (disch := first | omega | decide) only [sX12_hearsAll_21, gd_true, bnd_some, bnd2_some, ix_n, ib_n, add_l, add_r, mul_l, mul_r, nI_add, sub_r, nI_leI, nI_ltI, nI_eq, le_l, le_r, lt_l, lt_r, eq_l, eq_r, eq_m, if_true, if_false, not_false_eq_true, not_true_eq_false, a3, show ¬ tW u ≤ i by omega]
        by_cases g1 : rI m 140 (76 + i) &&& v = 0
        · rw [if_pos g1]
          have hf : (hrS s u i p && !tHe u i p) = false := by
            unfold hrS
            rw [(any_and d1 v2 (by omega)).mp g1]; simp
          rw [ecnt _ hf]
          exact ⟨m, rfl, stay hf⟩
        · rw [if_neg g1]
          have hr : hrS s u i p = true := by
            unfold hrS
            rw [g0, Bool.true_and]
            cases hc : anyB (fun b => tAt u i b && audS s (tHo u) p b) (sB s)
            · exact absurd ((any_and d1 v2 (by omega)).mpr hc) g1
            · rfl
          simp (disch := first | omega | decide) only [f_isIn, he, gd_true, bnd_some, bnd2_some, ix_n, ib_n, add_l, add_r, mul_l, mul_r, nI_add, sub_r, nI_leI, nI_ltI, nI_eq, le_l, le_r, lt_l, lt_r, eq_l, eq_r, eq_m, if_true, if_false, not_false_eq_true, not_true_eq_false]
          by_cases g2 : tHe u i p = true
          · rw [g2, if_pos rfl, if_neg (by decide)]
            have hf : (hrS s u i p && !tHe u i p) = false := by rw [g2]; simp
            rw [ecnt _ hf]
            exact ⟨m, rfl, stay hf⟩
          · rw [if_neg g2, if_pos rfl]
            have hf : (hrS s u i p && !tHe u i p) = true := by rw [hr]; simp [g2]
            rw [ecnt _ hf]
            have z := RB_he hT hv hTV hi hp
            have e1 : (fun j => rI (wI m 140 (92 + i) (rI m 140 (92 + i) ||| shl 1 (nI p))) 140 (64 + j)) = upd (fun j => rI m 140 (64 + j)) (28 + i) (rI m 140 (64 + (28 + i)) ||| shl 1 (nI p)) := by
              rw [RT_w (by omega), show 92 + i - 64 = 28 + i by omega, show 92 + i = 64 + (28 + i) by omega]
            rw [← e1] at z
            refine ⟨_, rfl, ?_, hb.w (by omega) (by omega) _⟩
            refine RB.ext z rfl (fun _ _ => rfl) (fun w' hw' => ⟨fun _ _ => rfl, fun _ _ => ⟨rfl, rfl⟩, fun p' _ => ?_⟩)
            rw [ehe, hr]
            show (_ || _) = (_ || _)
            simp
      · rintro m ⟨hT, hb⟩
        have a3 : rI m 140 67 = nI (tW u) := hT.2.2.2.1
        exact ⟨(nI (nwS s u p (tW u)), m), by simp (disch := first | omega | decide) only [sX12_hearsAll_21, gd_true, bnd_some, bnd2_some, ix_n, ib_n, add_l, add_r, mul_l, mul_r, nI_add, sub_r, nI_leI, nI_ltI, nI_eq, le_l, le_r, lt_l, lt_r, eq_l, eq_r, eq_m, if_true, if_false, not_false_eq_true, not_true_eq_false, a3, Nat.le_refl], rfl, hT, hb⟩
    obtain ⟨⟨r1, r2⟩, h1, h2, h3, h4⟩ := key
    have h2 : r1 = nI (nwS s u p (tW u)) := h2
    subst h2
    have h1 : lp n (sX12_hearsAll_21 n (nI p) v) (0, 0, m3) = some (nI (nwS s u p (tW u)), r2) := h1
    rw [h1, bnd_some]
    exact ⟨r2, rfl, h3, h4⟩
  · rw [if_neg g0, if_pos rfl]
    have hz : ∀ (i w : Nat), hrS s u w p = false := fun i w => by unfold hrS; simp [g0]
    have e : nwS s u p (tW u) = 0 := by
      unfold nwS
      generalize tW u = k
      induction k with
      | zero => rfl
      | succ k ih => show cnt _ k + _ = 0; rw [ih]; simp [hz 0 k]
    rw [e]
    refine ⟨m3, rfl, ?_, l2.sb⟩
    refine RB.ext ht3 rfl (fun _ _ => rfl) (fun w' hw' => ⟨fun _ _ => rfl, fun _ _ => ⟨rfl, rfl⟩, fun p' _ => ?_⟩)
    show (_ || _) = (_ || _)
    by_cases h : p' = p
    · subst h; rw [hz 0]; simp
    · have : upto p (tW u) p' w' = upto p 0 p' w' := by unfold upto; simp [h]
      rw [this]
