theorem f_soon {n : Nat} {z : Int32} (m : Mu) : fX12_isSoon n z m = some (if wi z 0 48 = true then 1 else 0) := by
  unfold fX12_isSoon
  rw [show fX12_within n z.toInt64 0 48 m = some (if wi z 0 48 = true then 1 else 0) from w12 0 48, bnd_some, isb_01, gd_true]
theorem m_widest {n k : Nat} {sh : List Sh} {R : Rf} {μ : Mu} {x : Int32} (hI : INV k sh R μ) (hk : k < 512) (hn : 5000 < n) : GO k sh R (fX11_widest n x μ) (fX12_widest n x) := by
  refine GO.q hI hk fun s t hT hp => ?_
  have hB := hp.2.1.1
  have hP := hp.2.1.2.2.1
  have e3 : ∀ m : Mu, fX11_within n x 0 48 m = some (if wi x 0 48 = true then 1 else 0) := fun m => w11 0 48
  unfold fX11_widest fX12_widest
  rw [e3, bnd_some, ifb]
  simp only [f_soon, bnd_some, ifb]
  by_cases k1 : wi x 0 48 = true
  · obtain ⟨N, N1, N2, rfl⟩ := wi_of k1 (by omega) (by omega)
    obtain ⟨m1, g1, g2, g3⟩ := c_look (n := n) (L := N) hp (by omega) (by omega)
    have gb : ∀ b, cnt (erS s no t b 0 N) (sP s) < 2147483648 := fun b => by have := cnt_le (erS s no t b 0 N) (sP s); omega
    have lc : Rn (lp n (sX11_widest_28 n (nI N)) (-1, -1, 0, m1)) (fun r => r.1 = nI (amx (fun b => cnt (erS s no t b 0 N) (sP s)) (sB s)) ∧ CQ s μ r.2) := by
      refine Rn.l (sB s) (fun i q => q.1 = amI (fun b => cnt (erS s no t b 0 N) (sP s)) i ∧ q.2.1 = amV (fun b => cnt (erS s no t b 0 N) (sP s)) i ∧ q.2.2.1 = nI i ∧ LA q.2.2.2 s t N ∧ CQ s μ q.2.2.2) _ (by omega) ⟨rfl, rfl, rfl, g2, g3⟩ ?_ ?_
      · rintro i ⟨a, v, y, m⟩ hi ⟨e1, e2, e3, e4, e5⟩
        have e1 : a = amI (fun b => cnt (erS s no t b 0 N) (sP s)) i := e1
        have e2 : v = amV (fun b => cnt (erS s no t b 0 N) (sP s)) i := e2
        have e3 : y = nI i := e3
        have e5 : CQ s μ m := e5
        subst e3
        obtain ⟨m2, r, l1, l2, l3, l4, l5⟩ := c_call (n := n) (b := i) (w := 0) (N := N) (hp.q e5) e4 (by omega) (by omega) hi bs_no (by omega)
        rw [Nat.zero_add] at l2
        have l1 : fX0_send n (nI i) 0 0 m = some m2 := l1
        have a0 : rI m 2 0 = nI (sB s) := (hp.q e5).1.1
        have bc : bitc r = nI (cnt (erS s no t i 0 N) (sP s)) := bs_bitc l3 (by omega)
        have z := am_step (g := fun b => cnt (erS s no t b 0 N) (sP s)) (i := i) (fun q _ => gb q)
        rw [← e1, ← e2] at z
        simp (disch := first | omega | decide) only [sX11_widest_28, gd_true, bnd_some, bnd2_some, ix_n, ib_n, add_l, add_r, mul_l, mul_r, nI_add, sub_r, nI_leI, nI_ltI, nI_eq, le_l, le_r, lt_l, lt_r, eq_l, eq_r, eq_m, if_true, if_false, not_false_eq_true, not_true_eq_false, a0, show ¬ sB s ≤ i by omega, l1, l2, bc]
        by_cases c : nI (cnt (erS s no t i 0 N) (sP s)) ≤ v
        · rw [if_pos c] at z ⊢
          obtain ⟨z1, z2⟩ := Prod.mk.inj z
          exact Rn.so ⟨z1, z2, rfl, l4, e5.tr l5⟩
        · rw [if_neg c] at z ⊢
          obtain ⟨z1, z2⟩ := Prod.mk.inj z
          exact Rn.so ⟨z1, z2, rfl, l4, e5.tr l5⟩
      · rintro ⟨a, v, y, m⟩ ⟨e1, e2, e3, e4, e5⟩
        have e1 : a = amI (fun b => cnt (erS s no t b 0 N) (sP s)) (sB s) := e1
        have e3 : y = nI (sB s) := e3
        subst e3
        refine Rn.e (r := (a, m)) (ite_le (hp.q e5).1.1) ⟨?_, e5⟩
        rw [e1]; unfold amI; rw [if_neg (by omega)]
    obtain ⟨⟨r, m2⟩, q1, q2, q3⟩ := lc
    have q2 : r = nI (amx (fun b => cnt (erS s no t b 0 N) (sP s)) (sB s)) := q2
    rw [q2] at q1
    refine ⟨nI (amx (fun b => cnt (erS s no t b 0 N) (sP s)) (sB s)), m2, by rw [if_pos k1, g1, bnd_some, q1, bnd_some], q3, fun μ' h _ => ?_⟩
    have h' := h.q (RQ.th _)
    have lr : Rn (lp n (sX12_widest_19 n (nI N)) (0, 1, wI μ' 139 0 0)) (fun r => r.1 = nI (amx (fun b => cnt (erS s no t b 0 N) (sP s)) (sB s)) ∧ RQ (wI μ' 139 0 0) r.2) := by
      refine Rn.l1 (sB s) (by omega) (fun i q => q.1 = nI (amx (fun b => cnt (erS s no t b 0 N) (sP s)) i) ∧ q.2.1 = nI i ∧ RQ (wI μ' 139 0 0) q.2.2) _ (by omega) ⟨rfl, rfl, RQ.rfl' _⟩ ?_ ?_
      · rintro i ⟨a, y, m⟩ i1 hi ⟨e1, e3, e4⟩
        have e1 : a = nI (amx (fun b => cnt (erS s no t b 0 N) (sP s)) i) := e1
        have e3 : y = nI i := e3
        have e4 : RQ (wI μ' 139 0 0) m := e4
        have hl := amx_lt (fun b => cnt (erS s no t b 0 N) (sP s)) (n := i) (by omega)
        have ez := amx_s (g := fun b => cnt (erS s no t b 0 N) (sP s)) (n := i) (by omega)
        generalize ha : amx (fun b => cnt (erS s no t b 0 N) (sP s)) i = ai at e1 hl ez
        subst e1; subst e3
        have q1 := h'.q e4
        obtain ⟨v1, m', o1, o2, o3⟩ := r_hearers (n := n) (b := i) (w := 0) (N := N) q1.rx hi (by omega) (by omega) (by omega)
        obtain ⟨v2, m'', o4, o5, o6⟩ := r_hearers (n := n) (b := ai) (w := 0) (N := N) (q1.q o3).rx (by omega) (by omega) (by omega) (by omega)
        have o1 : fX12_hearersOf n (nI i) 0 (nI N) m = some (v1, m') := o1
        have o4 : fX12_hearersOf n (nI ai) 0 (nI N) m' = some (v2, m'') := o4
        have b1 := f_bitsOf (n := n) (μ := m') o2 (by omega) (by omega)
        have b2 := f_bitsOf (n := n) (μ := m'') o5 (by omega) (by omega)
        have a0 : rI m 140 1 = nI (sB s) := q1.1.2.1
        have gb1 := gb i
        have gb2 := gb ai
        simp (disch := first | omega | decide) only [sX12_widest_19, gd_true, bnd_some, bnd2_some, ix_n, ib_n, add_l, add_r, mul_l, mul_r, nI_add, sub_r, nI_leI, nI_ltI, nI_eq, le_l, le_r, lt_l, lt_r, eq_l, eq_r, eq_m, if_true, if_false, not_false_eq_true, not_true_eq_false, a0, show ¬ sB s ≤ i by omega, o1, o4, b1, b2]
        by_cases c : cnt (erS s no t i 0 N) (sP s) ≤ cnt (erS s no t ai 0 N) (sP s)
        · rw [if_pos c]
          refine Rn.so ⟨?_, rfl, (e4.tr o3).tr o6⟩
          rw [ez, if_neg (by omega)]
        · rw [if_neg c]
          refine Rn.so ⟨?_, rfl, (e4.tr o3).tr o6⟩
          rw [ez, if_pos (by omega)]
      · rintro ⟨a, y, m⟩ ⟨e1, e3, e4⟩
        have e3 : y = nI (sB s) := e3
        have e4 : RQ (wI μ' 139 0 0) m := e4
        subst e3
        exact Rn.e (r := (a, m)) (ite_le (h'.q e4).1.2.1) ⟨e1, e4⟩
    obtain ⟨⟨r', m3⟩, l1, l2, l3⟩ := lr
    have l2 : r' = nI (amx (fun b => cnt (erS s no t b 0 N) (sP s)) (sB s)) := l2
    rw [l2] at l1
    exact ⟨m3, by rw [if_pos k1, l1, bnd_some], (RQ.th _).tr l3⟩
  · exact ⟨-3, μ, by rw [if_neg k1], CQ.rfl' hp, fun μ' h _ => ⟨_, by rw [if_neg k1], RQ.th _⟩⟩
/-- one current shut -/
def on1 (c : Nat) : Nat → Bool := fun i => decide (i = c)
theorem m_needs {n k : Nat} {sh : List Sh} {R : Rf} {μ : Mu} {x y : Int32} (hI : INV k sh R μ) (hk : k < 512) (hn : 5000 < n) : GO k sh R (fX11_needs n x y μ) (fX12_needs n x y) := by
  refine GO.q hI hk fun s t hT hp => ?_
  have hB := hp.2.1.1
  have hP := hp.2.1.2.2.1
  have hC := hp.2.1.2.1
  have e3 : ∀ m : Mu, fX11_within n y 0 48 m = some (if wi y 0 48 = true then 1 else 0) := fun m => w11 0 48
  unfold fX11_needs fX12_needs
  rw [hp.isB, bnd_some, ifb, e3, bnd_some, ifb]
  simp only [f_soon, bnd_some, ifb]
  by_cases k0 : okN x (sB s) = true
  · rw [if_pos k0]
    by_cases k1 : wi y 0 48 = true
    · obtain ⟨b, hb, rfl⟩ := okN_of k0 (by omega)
      obtain ⟨N, N1, N2, rfl⟩ := wi_of k1 (by omega) (by omega)
      rw [if_pos k1]
      obtain ⟨m1, g1, g2, g3⟩ := c_look (n := n) (L := N) hp (by omega) (by omega)
      obtain ⟨m2, r, l1, l2, l3, l4, l5⟩ := c_call (n := n) (b := b) (w := 0) (N := N) (hp.q g3) g2 (by omega) (by omega) hb bs_no (by omega)
      rw [Nat.zero_add] at l2
      have l1 : fX0_send n (nI b) 0 0 m1 = some m2 := l1
      have bc : bitc r = nI (cnt (erS s no t b 0 N) (sP s)) := bs_bitc l3 (by omega)
      have gb : ∀ x', cnt (erS s x' t b 0 N) (sP s) ≤ 6 := fun x' => Nat.le_trans (cnt_le _ _) hP
      have gb0 := gb no
      have cq2 := g3.tr l5
      have lc : Rn (lp n (sX11_needs_60 n (nI b) (nI N) (nI (cnt (erS s no t b 0 N) (sP s)))) (0, 0, m2)) (fun r => bs r.1 (sC s) (fun c => decide (cnt (erS s (on1 c) t b 0 N) (sP s) < cnt (erS s no t b 0 N) (sP s))) ∧ CQ s μ r.2) := by
        refine Rn.l (sC s) (fun i q => bs q.1 i (fun c => decide (cnt (erS s (on1 c) t b 0 N) (sP s) < cnt (erS s no t b 0 N) (sP s))) ∧ q.2.1 = nI i ∧ LA q.2.2 s t N ∧ CQ s μ q.2.2) _ (by omega) ⟨bs_z _, rfl, l4, cq2⟩ ?_ ?_
        · rintro i ⟨v, y, m⟩ hi ⟨e1, e2, e4, e5⟩
          have e2 : y = nI i := e2
          have e5 : CQ s μ m := e5
          subst e2
          obtain ⟨m3, r3, p1, p2, p3, p4, p5⟩ := c_call (n := n) (b := b) (w := 0) (N := N) (x := on1 i) (hp.q e5) e4 (by omega) (by omega) hb (bs_bit hi (by omega)) (by omega)
          rw [Nat.zero_add] at p2
          have p1 : fX0_send n (nI b) 0 (shl 1 (nI i)) m = some m3 := p1
          have a1 : rI m 2 1 = nI (sC s) := (hp.q e5).1.2.1
          have bc3 : bitc r3 = nI (cnt (erS s (on1 i) t b 0 N) (sP s)) := bs_bitc p3 (by omega)
          have gb1 := gb (on1 i)
          have z := bs_up e1 (show i < 32 by omega)
          simp (disch := first | omega | decide) only [sX11_needs_60, gd_true, bnd_some, bnd2_some, ix_n, ib_n, add_l, add_r, mul_l, mul_r, nI_add, sub_r, nI_leI, nI_ltI, nI_eq, le_l, le_r, lt_l, lt_r, eq_l, eq_r, eq_m, if_true, if_false, not_false_eq_true, not_true_eq_false, a1, show ¬ sC s ≤ i by omega, p1, p2, bc3]
          by_cases c : cnt (erS s no t b 0 N) (sP s) ≤ cnt (erS s (on1 i) t b 0 N) (sP s)
          · rw [if_neg (show ¬ decide (cnt (erS s (on1 i) t b 0 N) (sP s) < cnt (erS s no t b 0 N) (sP s)) = true by simpa using c)] at z
            rw [if_pos c]; exact Rn.so ⟨z, rfl, p4, e5.tr p5⟩
          · rw [if_pos (show decide (cnt (erS s (on1 i) t b 0 N) (sP s) < cnt (erS s no t b 0 N) (sP s)) = true by simpa using c)] at z
            rw [if_neg c]; exact Rn.so ⟨z, rfl, p4, e5.tr p5⟩
        · rintro ⟨v, y, m⟩ ⟨e1, e2, e4, e5⟩
          have e2 : y = nI (sC s) := e2
          subst e2
          exact Rn.e (r := (v, m)) (ite_le (hp.q e5).1.2.1) ⟨e1, e5⟩
      obtain ⟨⟨v, m3⟩, q1, q2, q3⟩ := lc
      refine ⟨v, m3, by rw [g1, bnd_some, l1, bnd_some, l2, bnd_some, bc, q1, bnd_some], q3, fun μ' h _ => ?_⟩
      have h' := h.q (RQ.th _)
      obtain ⟨v1, m4, o1, o2, o3⟩ := r_hearers (n := n) (b := b) (w := 0) (N := N) h'.rx hb (by omega) (by omega) (by omega)
      have o1 : fX12_hearersOf n (nI b) 0 (nI N) (wI μ' 139 0 0) = some (v1, m4) := o1
      have b1 := f_bitsOf (n := n) (μ := m4) o2 (by omega) (by omega)
      have lr : Rn (lp n (sX12_needs_44 n (nI b) (nI N) (nI (cnt (erS s no t b 0 N) (sP s)))) (0, 0, m4)) (fun r => bs r.1 (sC s) (fun c => decide (cnt (erS s (on1 c) t b 0 N) (sP s) < cnt (erS s no t b 0 N) (sP s))) ∧ Fg (fun a i => QR a i ∨ (a = 139 ∧ i = 19)) (wI μ' 139 0 0) r.2) := by
        refine Rn.l (sC s) (fun i q => bs q.1 i (fun c => decide (cnt (erS s (on1 c) t b 0 N) (sP s) < cnt (erS s no t b 0 N) (sP s))) ∧ q.2.1 = nI i ∧ Fg (fun a i => QR a i ∨ (a = 139 ∧ i = 19)) (wI μ' 139 0 0) q.2.2) _ (by omega) ⟨bs_z _, rfl, o3.mono fun a i q => Or.inl q⟩ ?_ ?_
        · rintro i ⟨v, y, m⟩ hi ⟨e1, e2, e5⟩
          have e2 : y = nI i := e2
          have e5 : Fg (fun a i => QR a i ∨ (a = 139 ∧ i = 19)) (wI μ' 139 0 0) m := e5
          subst e2
          have o0 : ∀ j, ¬ (fun a i => QR a i ∨ (a = 139 ∧ i = 19)) 140 j := fun j q => by
            rcases q with q | q
            · unfold QR at q; omega
            · omega
          have rx : RX (wI m 139 19 (shl 1 (nI i))) s t (on1 i) := ⟨h'.1.congr h'.2.1 fun j _ => by rw [rI_ai (by decide)]; exact e5.i (o0 _), h'.2.1, RB.congr h'.2.2.1 h'.2.2.2.1 h'.2.1 fun j _ => by rw [rI_ai (by decide)]; exact e5.i (o0 _), h'.2.2.2.1, h'.2.2.2.2.1, by rw [rI_same]; exact bs_bit (by omega) (by omega)⟩
          obtain ⟨v2, m5, p1, p2, p3⟩ := r_hearers (n := n) (b := b) (w := 0) (N := N) rx hb (by omega) (by omega) (by omega)
          have p1 : fX12_hearersOf n (nI b) 0 (nI N) (wI m 139 19 (shl 1 (nI i))) = some (v2, m5) := p1
          have b2 := f_bitsOf (n := n) (μ := m5) p2 (by omega) (by omega)
          have a1 : rI m 140 2 = nI (sC s) := by rw [e5.i (o0 _)]; exact h'.1.2.2.1
          have gb1 := gb (on1 i)
          have z := bs_up2 e1 (show i < 32 by omega)
          simp (disch := first | omega | decide) only [sX12_needs_44, gd_true, bnd_some, bnd2_some, ix_n, ib_n, add_l, add_r, mul_l, mul_r, nI_add, sub_r, nI_leI, nI_ltI, nI_eq, le_l, le_r, lt_l, lt_r, eq_l, eq_r, eq_m, if_true, if_false, not_false_eq_true, not_true_eq_false, a1, show ¬ sC s ≤ i by omega, p1, b2]
          have f5 := (e5.w (show (fun a i => QR a i ∨ (a = 139 ∧ i = 19)) 139 19 from Or.inr ⟨rfl, rfl⟩) (shl 1 (nI i))).tr (p3.mono fun a i q => Or.inl q)
          by_cases c : cnt (erS s no t b 0 N) (sP s) ≤ cnt (erS s (on1 i) t b 0 N) (sP s)
          · rw [if_neg (show ¬ decide (cnt (erS s (on1 i) t b 0 N) (sP s) < cnt (erS s no t b 0 N) (sP s)) = true by simpa using c)] at z
            rw [if_pos c]; exact Rn.so ⟨z, rfl, f5⟩
          · rw [if_pos (show decide (cnt (erS s (on1 i) t b 0 N) (sP s) < cnt (erS s no t b 0 N) (sP s)) = true by simpa using c)] at z
            rw [if_neg c]; exact Rn.so ⟨z, rfl, f5⟩
        · rintro ⟨v, y, m⟩ ⟨e1, e2, e5⟩
          have e2 : y = nI (sC s) := e2
          have e5 : Fg (fun a i => QR a i ∨ (a = 139 ∧ i = 19)) (wI μ' 139 0 0) m := e5
          subst e2
          refine Rn.e (r := (v, m)) (ite_le ?_) ⟨e1, e5⟩
          rw [e5.i (fun q => by
            rcases q with q | q
            · unfold QR at q; omega
            · omega)]; exact h'.1.2.2.1
      obtain ⟨⟨v', m5⟩, p1, p2, p3⟩ := lr
      have p3 : Fg (fun a i => QR a i ∨ (a = 139 ∧ i = 19)) (wI μ' 139 0 0) m5 := p3
      have ev : v' = v := bs_eq p2 q2
      subst ev
      refine ⟨wI m5 139 19 0, ?_, (RQ.th _).tr ⟨fun a i hi => ?_, fun a i h0 hi => ?_⟩⟩
      · rw [h'.isB, bnd_some, ifb, if_pos k0, if_pos k1, o1, bnd2_some, b1, bnd_some, p1, bnd_some]
      · by_cases e : a = 139 ∧ i = 19
        · rw [e.1, e.2, rI_same]; exact h'.2.2.2.2.2.symm
        · rw [rw_I, if_neg e]
          exact p3.i (fun q => by
            rcases q with q | q
            · exact hi q
            · exact e q)
      · show rL m5 a i = _
        refine p3.2 a i h0 fun j q => ?_
        rcases q with q | q
        · exact hi j q
        · exact hi 0 (Or.inl ⟨q.1, by omega, by omega, by omega, by omega⟩)
    · exact ⟨-3, μ, by rw [if_neg k1], CQ.rfl' hp, fun μ' h _ => ⟨_, by rw [(h.q (RQ.th _)).isB, bnd_some, ifb, if_pos k0, if_neg k1], RQ.th _⟩⟩
  · exact ⟨-2, μ, by rw [if_neg k0], CQ.rfl' hp, fun μ' h _ => ⟨_, by rw [(h.q (RQ.th _)).isB, bnd_some, ifb, if_neg k0], RQ.th _⟩⟩
