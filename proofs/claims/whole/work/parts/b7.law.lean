/-! THE READER: a law's line -/
def lawS (s : SD) (l : Nat) (cs : List Nat) : SD := fun a i => if a = 0 ∧ i = 5 + l then cs.length else if a = 7 + l then cs.getD i 0 else s a i
theorem lawS_L {s : SD} {l : Nat} {cs : List Nat} : sLn (lawS s l cs) l = cs.length := if_pos ⟨rfl, rfl⟩
theorem lawS_0 {s : SD} {l j : Nat} {cs : List Nat} (h : j ≠ 5 + l) : lawS s l cs 0 j = s 0 j := by
  unfold lawS; rw [if_neg (by omega), if_neg (by omega)]
theorem lawS_7 {s : SD} {l : Nat} {cs : List Nat} : lawS s l cs (7 + l) = fun i => cs.getD i 0 := funext fun i => by
  unfold lawS; rw [if_neg (by omega), if_pos rfl]
theorem lawS_a {s : SD} {l a i : Nat} {cs : List Nat} (h : 1 ≤ a) (h2 : a ≠ 7 + l) : lawS s l cs a i = s a i := by
  unfold lawS; rw [if_neg (by omega), if_neg h2]
def Pcl (l len : Nat) : Nat → Nat → Prop := fun a i => (a = 13 ∧ (i = 4 ∨ i = 5)) ∨ (a = 21 ∧ i = 1) ∨ (a = 22 ∧ len ≤ i) ∨ (a = 23 ∧ i = l) ∨ (a = 24 ∧ i = l)
def Prl (l len : Nat) : Nat → Nat → Prop := fun a i => PN a i ∨ (a = 139 ∧ i = 15) ∨ (a = 143 ∧ (i = 1341 ∨ 1342 + len ≤ i ∨ i = 5 + l ∨ i = 8 + l ∨ i = 11 + l))
theorem law_sea {μc μr μc' μr' : Mu} {s : SD} {len l : Nat} {cs : List Nat} (hS : SEA μc μr s len) (hl : l < 3) (hc : 0 < cs.length) (h9 : len + cs.length ≤ 900) (hok : okC l (fun i => cs.getD i 0) cs.length) (fc : Fg (Pcl l len) μc μc') (fr : Fg (Prl l len) μr μr') (c1 : rI μc' 21 1 = nI (len + cs.length)) (c2 : rI μc' 23 l = nI len) (c3 : rI μc' 24 l = nI (len + cs.length)) (c4 : ∀ j, j < cs.length → rI μc' 22 (len + j) = nI (ccO l (cs.getD j 0))) (r1 : rI μr' 143 1341 = nI (len + cs.length)) (r2 : rI μr' 143 (5 + l) = 1) (r3 : rI μr' 143 (8 + l) = nI len) (r4 : rI μr' 143 (11 + l) = nI cs.length) (r5 : ∀ j, j < cs.length → rI μr' 143 (1342 + len + j) = nI (cs.getD j 0)) : SEA μc' μr' (lawS s l cs) (len + cs.length) := by
  obtain ⟨hv, ⟨⟨a0, a1, a2, a3, a4, a5, a6, a7⟩, aC, aP, aK, aL1, aL2⟩, ⟨b0, b1, b2, b3, b4, b5, b6, b7, b8, b9⟩, bC, bP, bK, bL1, bL2⟩ := hS
  obtain ⟨v1, v2, v3, v4, v5, v6, v7, v8, v9, v10, v11⟩ := hv
  have e0 : ∀ j, j ≠ 5 + l → lawS s l cs 0 j = s 0 j := fun j hj => lawS_0 hj
  have eB : sB (lawS s l cs) = sB s := e0 0 (by omega)
  have eC : sC (lawS s l cs) = sC s := e0 1 (by omega)
  have eP : sP (lawS s l cs) = sP s := e0 2 (by omega)
  have eS : sS (lawS s l cs) = sS s := e0 3 (by omega)
  have eL : ∀ k, k ≠ l → sLn (lawS s l cs) k = sLn s k := fun k hk => e0 (5 + k) (by omega)
  have eA : ∀ a c, 1 ≤ a → a ≠ 7 + l → lawS s l cs a c = s a c := fun a c h0 h4 => lawS_a h0 h4
  refine ⟨⟨by rw [eB]; exact v1, by rw [eC]; exact v2, by rw [eP]; exact v3, by rw [eS]; exact v4, fun c hcc => ?_, fun p hp => ?_, fun k hk => ?_, fun k hk => ?_, by rw [e0 4 (by omega)]; exact v9, by rw [e0 8 (by omega)]; exact v10, by rw [e0 9 (by omega)]; exact v11⟩, ⟨⟨?_, ?_, ?_, ?_, ?_, ?_, ?_, ?_⟩, fun c hcc => ?_, fun p hp => ?_, fun k hk => ?_, c1, fun k hk => ?_⟩, ⟨?_, ?_, ?_, ?_, ?_, ?_, ?_, ?_, ?_, ?_⟩, fun c hcc => ?_, ⟨fun p hp => ?_, fun p hp hp6 => ?_⟩, fun k hk => ?_, r1, fun k hk => ?_⟩
  · rw [eC] at hcc
    rw [eB, eA 1 c (by omega) (by omega), eA 2 c (by omega) (by omega), eA 3 c (by omega) (by omega)]
    exact v5 c hcc
  · rw [eP] at hp
    rw [eA 4 p (by omega) (by omega), eA 5 p (by omega) (by omega), eB]
    exact v6 p hp
  · rw [eS] at hk
    rw [eA 6 k (by omega) (by omega), eA 10 k (by omega) (by omega), eB, eP]; exact v7 k hk
  · by_cases e : k = l
    · subst e
      rw [lawS_L, lawS_7]
      exact ⟨by omega, fun _ => hok⟩
    · rw [eL k e]
      obtain ⟨w1, w2⟩ := v8 k hk
      refine ⟨w1, fun q => ?_⟩
      rw [show lawS s l cs (7 + k) = s (7 + k) from funext fun i => eA (7 + k) i (by omega) (by omega)]
      exact w2 q
  · rw [eB, fc.i (by unfold Pcl; omega)]; exact a0
  · rw [eC, fc.i (by unfold Pcl; omega)]; exact a1
  · rw [eP, fc.i (by unfold Pcl; omega)]; exact a2
  · rw [eS, fc.i (by unfold Pcl; omega)]; exact a3
  · rw [e0 4 (by omega), fc.i (by unfold Pcl; omega)]; exact a4
  · rw [e0 8 (by omega), fc.i (by unfold Pcl; omega)]; exact a5
  · rw [e0 9 (by omega), fc.i (by unfold Pcl; omega)]; exact a6
  · rw [eP, fc.i (by unfold Pcl; omega)]
    refine bs_congr a7 fun i _ => ?_
    rw [eA 5 i (by omega) (by omega)]
  · rw [eC] at hcc
    rw [eA 1 c (by omega) (by omega), eA 2 c (by omega) (by omega), eA 3 c (by omega) (by omega), fc.i (by unfold Pcl; omega), fc.i (by unfold Pcl; omega), fc.i (by unfold Pcl; omega)]; exact aC c hcc
  · rw [eP] at hp
    rw [eA 4 p (by omega) (by omega), fc.i (by unfold Pcl; omega)]; exact aP p hp
  · rw [eS] at hk
    rw [eA 6 k (by omega) (by omega), eA 10 k (by omega) (by omega), fc.i (by unfold Pcl; omega), fc.i (by unfold Pcl; omega)]; exact aK k hk
  · by_cases e : k = l
    · subst e
      rw [lawS_L, lawS_7]
      exact ⟨len, c2, c3, Nat.le_refl _, c4⟩
    · obtain ⟨f, f1, f2, f3, f4⟩ := aL2 k hk
      rw [eL k e]
      refine ⟨f, by rw [fc.i (by unfold Pcl; omega)]; exact f1, by rw [fc.i (by unfold Pcl; omega)]; exact f2, by omega, fun i hi => ?_⟩
      rw [fc.i (by unfold Pcl; omega), eA (7 + k) i (by omega) (by omega)]; exact f4 i hi
  · rw [e0 4 (by omega), fr.i (by unfold Prl PN; omega)]; exact b0
  · rw [eB, fr.i (by unfold Prl PN; omega)]; exact b1
  · rw [eC, fr.i (by unfold Prl PN; omega)]; exact b2
  · rw [eP, fr.i (by unfold Prl PN; omega)]; exact b3
  · rw [eS, fr.i (by unfold Prl PN; omega)]; exact b4
  · rw [e0 8 (by omega), fr.i (by unfold Prl PN; omega)]; exact b5
  · rw [e0 9 (by omega), fr.i (by unfold Prl PN; omega)]; exact b6
  · rw [fr.i (by unfold Prl PN; omega)]; exact b7
  · rw [fr.i (by unfold Prl PN; omega)]; exact b8
  · rw [fr.i (by unfold Prl PN; omega)]; exact b9
  · rw [eC] at hcc
    rw [eA 1 c (by omega) (by omega), eA 2 c (by omega) (by omega), eA 3 c (by omega) (by omega), fr.i (by unfold Prl PN; omega), fr.i (by unfold Prl PN; omega), fr.i (by unfold Prl PN; omega)]; exact bC c hcc
  · rw [eP] at hp
    rw [eA 4 p (by omega) (by omega), eA 5 p (by omega) (by omega), fr.i (by unfold Prl PN; omega), fr.i (by unfold Prl PN; omega)]; exact bP.1 p hp
  · rw [eP] at hp
    rw [fr.i (by unfold Prl PN; omega)]; exact bP.2 p hp hp6
  · rw [eS] at hk
    rw [eA 6 k (by omega) (by omega), eA 10 k (by omega) (by omega), fr.i (by unfold Prl PN; omega), fr.i (by unfold Prl PN; omega)]; exact bK k hk
  · by_cases e : k = l
    · subst e
      rw [lawS_L, lawS_7, if_neg (by omega)]
      exact ⟨r2, fun _ => ⟨len, r3, Nat.le_refl _, r4, r5⟩⟩
    · obtain ⟨f1, f2⟩ := bL2 k hk
      rw [eL k e]
      refine ⟨by rw [fr.i (by unfold Prl PN; omega)]; exact f1, fun q => ?_⟩
      obtain ⟨f, g1, g2, g3, g4⟩ := f2 q
      refine ⟨f, by rw [fr.i (by unfold Prl PN; omega)]; exact g1, by omega, by rw [fr.i (by unfold Prl PN; omega)]; exact g3, fun i hi => ?_⟩
      rw [fr.i (by unfold Prl PN; omega), eA (7 + k) i (by omega) (by omega)]; exact g4 i hi
theorem Pcl_B {l len a i : Nat} (h : Pcl l len a i) : PBc a i := by unfold Pcl at h; unfold PBc; omega
theorem Pcl_G {l len a i : Nat} (h : Pcl l len a i) : PGc a i := by unfold Pcl at h; unfold PGc; omega
theorem Prl_B {l len a i : Nat} (h : Prl l len a i) : PBr a i := by
  unfold Prl at h; unfold PBr
  rcases h with h | h | h
  · exact Or.inl h
  · exact Or.inr (Or.inl (by omega))
  · exact Or.inr (Or.inr h.1)
theorem rl49_W {n : Nat} {x1 x2 : Int32} {μ : Mu} (h : rI μ 139 11 ≠ 0) : jX12_readLaw_49 n x1 x2 μ = some μ := by
  unfold jX12_readLaw_49
  rw [if_neg h]
theorem rl18_eq {n l k : Nat} {μ : Mu} (hl : l < 3) (hk : k = if l = 0 then 3 else 0) : jX12_readLaw_18 n (nI l) μ = bnd (fX12_P n 60 k (nI 0) (wI μ 139 15 (nI l))) fun m => jX12_readLaw_49 n (nI l) (rI μ 143 1341) m := by
  unfold jX12_readLaw_18
  by_cases e : l = 0
  · subst e
    rw [if_pos (show nI 0 = 0 from rfl), hk, if_pos rfl]; rfl
  · rw [if_neg (show ¬ nI l = 0 from fun q => e ((nI_eq (a := l) (b := 0) (by omega) (by omega)).mp q)), hk, if_neg e]; rfl
theorem l_law {B : Nat → Nat} {N M i n len l k : Nat} {s : SD} {μc μr : Mu} (hD : KD B N M) (h : LSx B N M i s len μc μr) (hl : l < 3) (hk : k = if l = 0 then 3 else 0) (hi : i < M) (hn : 1000 < n) : LNR B N M i s μc μr (bnd2 (fX5_lawLine n (nI l) μc) fun u m => if u = 0 then (some (0, m)) else (bnd2 (fX5_P n 60 k (nI 0) m) fun u2 m2 => if u2 = 0 then (some (0, m2)) else (some (1, m2)))) (fX12_readLaw n (nI l) μr) := by
  obtain ⟨hP, hS, hle, h4⟩ := h
  have hb := hD.2.2.1
  have hM := hD.2.1
  have k1 : rI μc 21 1 = nI len := hS.2.1.2.2.2.2.1
  have q1 : rI μr 143 1341 = nI len := hS.2.2.2.2.2.2.1
  have hk5 : k ≤ 5 := by rw [hk]; split <;> omega
  obtain ⟨m1, n1, p1, f1⟩ := hP.nx (n := n) hi hn
  have b21 : ∀ v, rI (wI (wI μc 13 4 (rI μc 13 4 + 1)) 13 5 v) 21 1 = nI len := fun v => by rw [rI_ai (by decide), rI_ai (by decide)]; exact k1
  have eb : fX3_begin n 21 (nI l) (wI (wI μc 13 4 (rI μc 13 4 + 1)) 13 5 (nI l)) = some (wI (wI (wI (wI μc 13 4 (rI μc 13 4 + 1)) 13 5 (nI l)) 23 l (nI len)) 24 l (nI len)) := by
    unfold fX3_begin
    rw [b21, ib_n hl (by omega), gd_true, gd_true, ix_n (by omega), rI_ai (by decide), b21]
  have pc : PRx B N M (i + 1) (wI (wI (wI (wI μc 13 4 (rI μc 13 4 + 1)) 13 5 (nI l)) 23 l (nI len)) 24 l (nI len)) m1 := (p1.wl.wc (by omega) (by omega)).wc (by omega) (by omega)
  have fcA : Fg (Pcl l len) μc (wI (wI (wI (wI μc 13 4 (rI μc 13 4 + 1)) 13 5 (nI l)) 23 l (nI len)) 24 l (nI len)) := ((((Fg.rfl' _ _).w (Or.inl ⟨rfl, Or.inl rfl⟩) _).w (Or.inl ⟨rfl, Or.inr rfl⟩) _).w (Or.inr (Or.inr (Or.inr (Or.inl ⟨rfl, rfl⟩)))) _).w (Or.inr (Or.inr (Or.inr (Or.inr ⟨rfl, rfl⟩)))) _
  have x5 : rI (wI (wI (wI (wI μc 13 4 (rI μc 13 4 + 1)) 13 5 (nI l)) 23 l (nI len)) 24 l (nI len)) 13 5 = nI l := by rw [rI_ai (by decide), rI_ai (by decide), rI_same]
  have x21 : rI (wI (wI (wI (wI μc 13 4 (rI μc 13 4 + 1)) 13 5 (nI l)) 23 l (nI len)) 24 l (nI len)) 21 1 = nI len := by rw [rI_ai (by decide), rI_ai (by decide), b21]
  have x23 : rI (wI (wI (wI (wI μc 13 4 (rI μc 13 4 + 1)) 13 5 (nI l)) 23 l (nI len)) 24 l (nI len)) 23 l = nI len := by rw [rI_ai (by decide), rI_same]
  generalize hX : wI (wI (wI (wI μc 13 4 (rI μc 13 4 + 1)) 13 5 (nI l)) 23 l (nI len)) 24 l (nI len) = X at eb pc fcA x5 x21 x23
  have frA : Fg (Prl l len) μr m1 := f1.mono fun _ _ q => Or.inl q
  have y1 : rI m1 143 1341 = nI len := by rw [f1.i (by unfold PN; omega)]; exact q1
  unfold fX5_lawLine fX12_readLaw
  rw [eb, bnd_some, n1, bnd_some]
  rcases eat (n := n) (K := 31) (code := 58) hD pc (ck_sign (k := 1) (tkP_le (B := B) (N := N) (i + 1)) hb (by omega)) (by omega) (by omega) (by omega) hn with ⟨m2, d1, d2, d3, p2, f2⟩ | ⟨μc', μr', d1, d2, d3, d4⟩
  · have d3 : fX12_eats n 31 m1 = some (1, m2) := d3
    rw [d2, bnd2_some, show gd (isb 1) (some ((1 : Int32), wI X 13 4 (rI X 13 4 + 1))) = some (1, wI X 13 4 (rI X 13 4 + 1)) from rfl, bnd2_some, if_neg (by decide), d3, bnd2_some, if_neg (by decide), rl18_eq hl hk]
    have fc1 : Fg (Pcl l len) μc (wI X 13 4 (rI X 13 4 + 1)) := fcA.w (Or.inl ⟨rfl, Or.inl rfl⟩) _
    have fr1 : Fg (Prl l len) μr (wI m2 139 15 (nI l)) := (frA.tr (f2.mono fun _ _ q => Or.inl q)).w (Or.inr (Or.inl ⟨rfl, rfl⟩)) _
    have y2 : rI m2 143 1341 = nI len := by rw [f2.i (by unfold PN; omega)]; exact y1
    have hXC : XC (wI X 13 4 (rI X 13 4 + 1)) B N M l (i + 2) len := ⟨p2.1, by rw [rI_ii (by decide)]; exact x5, by rw [rI_ai (by decide)]; exact x21⟩
    have hXR : XR (wI m2 139 15 (nI l)) B N l (i + 2) len := ⟨(p2.w15 (v := nI l)).2, rI_same _ _ _ _, by rw [rI_ai (by decide)]; exact y2⟩
    obtain ⟨u, μc1, μr1, e1, e2, e3⟩ := expr_all hD hl hn 60 k 0 hk5 (by omega) (by unfold fuK; omega) (i + 2) len _ _ hXC hXR (by omega)
    rw [e1, bnd2_some, e2, bnd_some, y2]
    rcases e3 with ⟨eu, i', cs, g1, g2, g3, g4⟩ | ⟨eu, hbd⟩
    · obtain ⟨w1, w2, w3, w4, w5, w6, w7, w8⟩ := g4
      have i9 := w3.1.2.1
      have ly : rI (wI (wI μr1 143 (5 + l) 1) 143 (8 + l) (nI len)) 143 1341 = nI (len + cs.length) := by rw [rI_ii (by omega), rI_ii (by omega)]; exact w4.2.2
      unfold jX12_readLaw_49
      rw [eu, if_neg (by decide), w4.1.2.2, if_pos rfl, show (5 : Int32) + nI l = nI (5 + l) from nI_add 5 l, show (8 : Int32) + nI l = nI (8 + l) from nI_add 8 l, show (11 : Int32) + nI l = nI (11 + l) from nI_add 11 l, ib_n (by omega) (by omega), gd_true, ib_n (by omega) (by omega), gd_true, ib_n (by omega) (by omega), gd_true, ix_n (by omega), ix_n (by omega), ix_n (by omega), ly, nI_subI (by omega)]
      have fcE : Fg (Pcl l len) μc μc1 := fc1.tr (w7.mono fun a j q => by unfold PXc at q; unfold Pcl; omega)
      have frE : Fg (Prl l len) μr (wI (wI (wI μr1 143 (5 + l) 1) 143 (8 + l) (nI len)) 143 (11 + l) (nI cs.length)) := (((fr1.tr (w8.mono fun a j q => by
        unfold PXr at q; unfold Prl
        rcases q with q | q
        · exact Or.inl q
        · exact Or.inr (Or.inr (by omega)))).w (Or.inr (Or.inr ⟨rfl, by omega⟩)) _).w (Or.inr (Or.inr ⟨rfl, by omega⟩)) _).w (Or.inr (Or.inr ⟨rfl, by omega⟩)) _
      have hok : okC l (fun i => cs.getD i 0) cs.length := by
        obtain ⟨t1, t2⟩ := g3 []
        refine okC_of rfl (fun i _ => rfl) t1 t2 ?_ (fun q => ?_)
        · unfold htK; show 0 + _ ≤ 40; omega
        · rw [hk, if_neg (by omega)]; rfl
      refine ⟨1, μc1, _, rfl, rfl, Or.inl ⟨rfl, ⟨i', lawS s l cs, len + cs.length, by omega, ⟨?_, law_sea hS hl g2 (by omega) hok fcE frE w3.2.2 ?_ (w6 g2) (fun j hj => (w5 j hj).1) ?_ ?_ ?_ ?_ (fun j hj => ?_), by omega, ?_⟩, lawS_0 (by omega)⟩, fcE.mono fun _ _ => Pcl_G, frE.mono fun _ _ => Prl_B⟩⟩
      · have pp : PRx B N M i' μc1 μr1 := ⟨w3.1, w4.1⟩
        exact pp.wr.wr.wr
      · rw [w7.i (by unfold PXc; omega), rI_ai (by decide)]; exact x23
      · rw [rI_ii (by omega), rI_ii (by omega), rI_ii (by omega)]; exact w4.2.2
      · rw [rI_ii (by omega), rI_ii (by omega), rI_same]
      · rw [rI_ii (by omega), rI_same]
      · rw [rI_same]
      · rw [rI_ii (by omega), rI_ii (by omega), rI_ii (by omega)]; exact (w5 j hj).2
      · rw [lawS_0 (by omega)]; omega
    · rw [if_pos eu, rl49_W hbd.1]
      exact ⟨0, _, _, rfl, rfl, Or.inr ⟨rfl, hbd.tr (fc1.mono fun _ _ => Pcl_B) (fr1.mono fun _ _ => Prl_B)⟩⟩
  · have d2 : fX12_eats n 31 m1 = some (0, m1) := d2
    have bb := d4.tr (fcA.mono fun _ _ => Pcl_B) (frA.mono fun _ _ => Prl_B)
    have wr : rI (wI μr' 139 15 (nI l)) 139 11 ≠ 0 := by rw [rI_ii (by decide)]; exact bb.1
    rw [d1, bnd2_some, show gd (isb 0) (some ((0 : Int32), μc')) = some (0, μc') from rfl, bnd2_some, if_pos rfl, d2, bnd2_some, if_pos rfl, d3, bnd_some, rl18_eq hl hk, P_W (by omega) 60 k _ _ wr hk5 (by omega), bnd_some, rl49_W wr]
    exact ⟨0, _, _, rfl, rfl, Or.inr ⟨rfl, wr, by rw [rI_ii (by decide)]; exact bb.2.1, by rw [rI_ii (by decide)]; exact bb.2.2.1, bb.2.2.2.1, bb.2.2.2.2.w (Or.inr (Or.inl ⟨rfl, by omega⟩)) _⟩⟩
