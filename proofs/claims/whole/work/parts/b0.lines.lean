/-! THE READER: lines; the sea told so far -/
def ScS (μ : Mu) (s : SD) : Prop := rI μ 14 0 = nI (sB s) ∧ rI μ 14 1 = nI (sC s) ∧ rI μ 14 2 = nI (sP s) ∧ rI μ 14 3 = nI (sS s) ∧ rI μ 14 4 = nI (s 0 4) ∧ rI μ 14 5 = nI (s 0 8) ∧ rI μ 14 6 = nI (s 0 9) ∧ bs (rI μ 14 7) (sP s) (fun p => decide (s 5 p = 1))
def ScC (μ : Mu) (s : SD) : Prop := ∀ c, c < sC s → rI μ 15 c = nI (s 1 c) ∧ rI μ 16 c = nI (s 2 c) ∧ rI μ 17 c = nI (s 3 c)
def ScP (μ : Mu) (s : SD) : Prop := ∀ p, p < sP s → rI μ 18 p = e6 (s 4 p)
def ScK (μ : Mu) (s : SD) : Prop := ∀ k, k < sS s → rI μ 19 k = nI (s 6 k) ∧ rI μ 20 k = e6 (s 10 k)
def ScL (μ : Mu) (s : SD) (len : Nat) : Prop := rI μ 21 1 = nI len ∧ ∀ l, l < 3 → ∃ f, rI μ 23 l = nI f ∧ rI μ 24 l = nI (f + sLn s l) ∧ f + sLn s l ≤ len ∧ ∀ i, i < sLn s l → rI μ 22 (f + i) = nI (ccO l (s (7 + l) i))
def SrS (μ : Mu) (s : SD) : Prop := rI μ 143 0 = nI (s 0 4) ∧ rI μ 143 1 = nI (sB s) ∧ rI μ 143 2 = nI (sC s) ∧ rI μ 143 3 = nI (sP s) ∧ rI μ 143 4 = nI (sS s) ∧ rI μ 143 64 = nI (s 0 8) ∧ rI μ 143 65 = nI (s 0 9) ∧ rI μ 143 66 = 0 ∧ rI μ 143 67 = 0 ∧ rI μ 143 180 = 0
def SrC (μ : Mu) (s : SD) : Prop := ∀ c, c < sC s → rI μ 143 (14 + c) = nI (s 1 c) ∧ rI μ 143 (24 + c) = nI (s 2 c) ∧ rI μ 143 (34 + c) = nI (s 3 c)
def SrP (μ : Mu) (s : SD) : Prop := (∀ p, p < sP s → rI μ 143 (44 + p) = e6 (s 4 p) ∧ rI μ 143 (50 + p) = nI (s 5 p)) ∧ ∀ p, sP s ≤ p → p < 6 → rI μ 143 (50 + p) = 0
def SrK (μ : Mu) (s : SD) : Prop := ∀ k, k < sS s → rI μ 143 (56 + k) = nI (s 6 k) ∧ rI μ 143 (68 + k) = e6 (s 10 k)
def SrL (μ : Mu) (s : SD) (len : Nat) : Prop := rI μ 143 1341 = nI len ∧ ∀ l, l < 3 → rI μ 143 (5 + l) = nI (if sLn s l = 0 then 0 else 1) ∧ (0 < sLn s l → ∃ f, rI μ 143 (8 + l) = nI f ∧ f + sLn s l ≤ len ∧ rI μ 143 (11 + l) = nI (sLn s l) ∧ ∀ i, i < sLn s l → rI μ 143 (1342 + f + i) = nI (s (7 + l) i))
def SEA (μc μr : Mu) (s : SD) (len : Nat) : Prop := SV s ∧ (ScS μc s ∧ ScC μc s ∧ ScP μc s ∧ ScK μc s ∧ ScL μc s len) ∧ (SrS μr s ∧ SrC μr s ∧ SrP μr s ∧ SrK μr s ∧ SrL μr s len)
/-- both read the token i -/
def PRx (B : Nat → Nat) (N M i : Nat) (μc μr : Mu) : Prop := CK μc B N M i ∧ RK μr B N i
def LSx (B : Nat → Nat) (N M i : Nat) (s : SD) (len : Nat) (μc μr : Mu) : Prop := PRx B N M i μc μr ∧ SEA μc μr s len ∧ len ≤ i ∧ s 0 4 ≤ i
def PGc : Nat → Nat → Prop := fun a i => (a = 13 ∧ (i = 4 ∨ i = 5)) ∨ (14 ≤ a ∧ a ≤ 24)
def LNR (B : Nat → Nat) (N M i : Nat) (s : SD) (μc μr : Mu) (rc : Option (Int32 × Mu)) (rr : Option Mu) : Prop := ∃ u μc' μr', rc = some (u, μc') ∧ rr = some μr' ∧ ((u = 1 ∧ (∃ i' s' len', i < i' ∧ LSx B N M i' s' len' μc' μr' ∧ s' 0 4 = s 0 4) ∧ Fg PGc μc μc' ∧ Fg PBr μr μr') ∨ (u = 0 ∧ BADf μc μr μc' μr'))
theorem PRx.wc {B : Nat → Nat} {N M i a k : Nat} {v : Int32} {μc μr : Mu} (h : PRx B N M i μc μr) (h1 : 14 ≤ a) (h2 : a ≤ 24) : PRx B N M i (wI μc a k v) μr := by
  refine ⟨⟨by rw [rI_ai (by omega)]; exact h.1.1, h.1.2.1, fun j hj => ?_⟩, h.2⟩
  rw [rI_ai (by omega), rI_ai (by omega)]
  exact h.1.2.2 j hj
theorem PRx.wl {B : Nat → Nat} {N M i : Nat} {v : Int32} {μc μr : Mu} (h : PRx B N M i μc μr) : PRx B N M i (wI μc 13 5 v) μr := by
  refine ⟨⟨by rw [rI_ii (by omega)]; exact h.1.1, h.1.2.1, fun j hj => ?_⟩, h.2⟩
  rw [rI_ai (by omega), rI_ai (by omega)]
  exact h.1.2.2 j hj
theorem RK.fg {P : Nat → Nat → Prop} {μ μ' : Mu} {B : Nat → Nat} {N i : Nat} (h : RK μ B N i) (e : Fg P μ μ') (hp : ∀ k, k ≤ 11 → ¬ P 139 k) (hq : ∀ k, ¬ P 142 k) : RK μ' B N i := by
  obtain ⟨h1, ⟨t1, t2, t3, t4⟩, h3⟩ := h
  exact ⟨h1.fg e (hp 8 (by omega)) hq, ⟨by rw [e.i (hp 6 (by omega))]; exact t1, by rw [e.i (hp 7 (by omega))]; exact t2, by rw [e.i (hp 9 (by omega))]; exact t3, fun q => by rw [e.i (hp 10 (by omega))]; exact t4 q⟩, by rw [e.i (hp 11 (by omega))]; exact h3⟩
theorem PRx.wr {B : Nat → Nat} {N M i k : Nat} {v : Int32} {μc μr : Mu} (h : PRx B N M i μc μr) : PRx B N M i μc (wI μr 143 k v) := ⟨h.1, h.2.fg ((Fg.rfl' (fun a _ => a = 143) μr).w rfl v) (fun k _ q => by omega) (fun k q => by omega)⟩
theorem PRx.w15 {B : Nat → Nat} {N M i : Nat} {v : Int32} {μc μr : Mu} (h : PRx B N M i μc μr) : PRx B N M i μc (wI μr 139 15 v) := ⟨h.1, h.2.fg ((Fg.rfl' (fun a i => a = 139 ∧ i = 15) μr).w ⟨rfl, rfl⟩ v) (fun k _ q => by omega) (fun k q => by omega)⟩
theorem PRx.nx {B : Nat → Nat} {N M i n : Nat} {μc μr : Mu} (h : PRx B N M i μc μr) (hi : i < M) (hn : 1000 < n) : ∃ μr', fX12_next n μr = some μr' ∧ PRx B N M (i + 1) (wI μc 13 4 (rI μc 13 4 + 1)) μr' ∧ Fg PN μr μr' := by
  obtain ⟨m, g1, g2, g3⟩ := h.2.nx (n := n) hn
  exact ⟨m, g1, ⟨h.1.nx hi, g2⟩, g3⟩
theorem BADf.here {B : Nat → Nat} {N i : Nat} {x : Int32} {μc μr : Mu} (hx : x ≠ 0) : BADf μc μr (fbI μc B N i x) (frI μr B N i x) := bad_here (M := 0) hx (Fg.rfl' _ _) (Fg.rfl' _ _)
/-- a number in both -/
theorem amt {B : Nat → Nat} {N M i n lo : Nat} {hi : Int32} {μc μr : Mu} (hD : KD B N M) (h : PRx B N M i μc μr) (hlo : lo < 1000) (hn : 1000 < n) : (∃ v μr', kK B N i = 23 ∧ v = kV B N i ∧ lo ≤ v ∧ nI v ≤ hi ∧ v < 1000 ∧ fX5_amount n (nI lo) hi μc = some (nI v, wI μc 13 4 (rI μc 13 4 + 1)) ∧ fX12_takes n (nI lo) hi μr = some (nI v, μr') ∧ PRx B N M (i + 1) (wI μc 13 4 (rI μc 13 4 + 1)) μr' ∧ Fg PN μr μr') ∨ (∃ μc' w μr', fX5_amount n (nI lo) hi μc = some (-1, μc') ∧ fX12_takes n (nI lo) hi μr = some (w, μr') ∧ BADf μc μr μc' μr') := by
  have hb := hD.2.2.1
  have a := c_amount (n := n) (lo := lo) (hi := hi) hD h.1 hlo
  by_cases e : kK B N i = 23
  · rw [if_pos e] at a
    have vb : kV B N i < 1000 := ((ck_num (tkP_le (B := B) (N := N) i) hb).2 e).2
    by_cases c : lo ≤ kV B N i ∧ nI (kV B N i) ≤ hi
    · rw [if_pos c] at a
      obtain ⟨m, g1, g2, g3⟩ := r_takes (n := n) h.2 hb e c.1 c.2 hn
      exact Or.inl ⟨_, m, e, rfl, c.1, c.2, vb, a, g1, ⟨h.1.nx (hD.lt h.1.2.1 (by omega) (by omega)), g2⟩, g3⟩
    · rw [if_neg c] at a
      obtain ⟨w, g⟩ := r_takes3 (n := n) h.2 hb e hlo c
      exact Or.inr ⟨_, w, _, a, g, BADf.here (by decide)⟩
  · rw [if_neg e] at a
    obtain ⟨w, g⟩ := r_takes2 (n := n) (lo := nI lo) (hi := hi) h.2 hb e
    exact Or.inr ⟨_, w, _, a, g, BADf.here (by split <;> decide)⟩
/-- a sign or word in both -/
theorem eat {B : Nat → Nat} {N M i n K : Nat} {code : Int32} {μc μr : Mu} (hD : KD B N M) (h : PRx B N M i μc μr) (hc : ckI B N (tkP B N i) = code ↔ kK B N i = K) (hK : K ≤ 41) (h4 : K ≠ 24) (h5 : K ≠ 25) (hn : 1000 < n) : (∃ μr', kK B N i = K ∧ fX5_accept n code μc = some (1, wI μc 13 4 (rI μc 13 4 + 1)) ∧ fX12_eats n (nI K) μr = some (1, μr') ∧ PRx B N M (i + 1) (wI μc 13 4 (rI μc 13 4 + 1)) μr' ∧ Fg PN μr μr') ∨ (∃ μc' μr', fX5_accept n code μc = some (0, μc') ∧ fX12_eats n (nI K) μr = some (0, μr) ∧ fX12_fails n 2 μr = some μr' ∧ BADf μc μr μc' μr') := by
  have a := c_accept (n := n) hD h.1 hc
  by_cases e : kK B N i = K
  · rw [if_pos e] at a
    obtain ⟨m, g1, g2, g3⟩ := h.nx (n := n) (hD.lt h.1.2.1 (by omega) (by omega)) hn
    exact Or.inl ⟨m, e, a, r_eats' h.2 (by omega) hD.2.2.1 e g1, g2, g3⟩
  · rw [if_neg e] at a
    exact Or.inr ⟨_, _, a, r_eatsN h.2 (by omega) hD.2.2.1 e, r_fails h.2 hD.2.2.1, BADf.here (by split <;> decide)⟩
theorem SEA.fg {P Q : Nat → Nat → Prop} {μc μr μc' μr' : Mu} {s : SD} {len : Nat} (h : SEA μc μr s len) (e : Fg P μc μc') (e' : Fg Q μr μr') (hp : ∀ a i, 14 ≤ a → a ≤ 24 → ¬ P a i) (hq : ∀ i, ¬ Q 143 i) : SEA μc' μr' s len := by
  have c : ∀ a i, 14 ≤ a → a ≤ 24 → rI μc' a i = rI μc a i := fun a i h1 h2 => e.i (hp a i h1 h2)
  have r : ∀ i, rI μr' 143 i = rI μr 143 i := fun i => e'.i (hq i)
  obtain ⟨hv, ⟨c1, c2, c3, c4, c5⟩, r1, r2, r3, r4, r5⟩ := h
  refine ⟨hv, ⟨?_, ?_, ?_, ?_, ?_⟩, ?_, ?_, ?_, ?_, ?_⟩
  · unfold ScS; simp only [c 14 _ (by omega) (by omega)]; exact c1
  · unfold ScC; simp only [c 15 _ (by omega) (by omega), c 16 _ (by omega) (by omega), c 17 _ (by omega) (by omega)]; exact c2
  · unfold ScP; simp only [c 18 _ (by omega) (by omega)]; exact c3
  · unfold ScK; simp only [c 19 _ (by omega) (by omega), c 20 _ (by omega) (by omega)]; exact c4
  · unfold ScL; simp only [c 21 _ (by omega) (by omega), c 22 _ (by omega) (by omega), c 23 _ (by omega) (by omega), c 24 _ (by omega) (by omega)]; exact c5
  · unfold SrS; simp only [r]; exact r1
  · unfold SrC; simp only [r]; exact r2
  · unfold SrP; simp only [r]; exact r3
  · unfold SrK; simp only [r]; exact r4
  · unfold SrL; simp only [r]; exact r5
theorem PN_B {a i : Nat} (h : PN a i) : PBr a i := Or.inl h
def upS (s : SD) (a i v : Nat) : SD := fun x y => if x = a ∧ y = i then v else s x y
theorem upS_eq (s : SD) (a i v : Nat) : upS s a i v a i = v := by unfold upS; rw [if_pos ⟨rfl, rfl⟩]
theorem upS_na {s : SD} {a i v x y : Nat} (h : x ≠ a) : upS s a i v x y = s x y := by unfold upS; rw [if_neg (fun q => h q.1)]
theorem upS_ni {s : SD} {a i v x y : Nat} (h : y ≠ i) : upS s a i v x y = s x y := by unfold upS; rw [if_neg (fun q => h q.2)]
theorem le_sub1 {P v : Nat} (hP : P < 1000) (hv : v < 1000) : nI v ≤ nI P - 1 ↔ v < P := by
  by_cases e : P = 0
  · subst e
    constructor
    · intro q
      have q : nI v ≤ (-1 : Int32) := q
      have := Int32.le_iff_toInt_le.mp q
      rw [nI_toI (by omega)] at this
      have : (v : Int) ≤ -1 := this
      omega
    · intro q; omega
  · have : nI P - 1 = nI (P - 1) := pk_sub (show 1 ≤ P by omega)
    rw [this, nI_leI (by omega) (by omega)]
    omega
