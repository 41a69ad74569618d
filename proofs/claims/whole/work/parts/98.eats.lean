/-! THE READER: accept and eats -/
def fbI (μ : Mu) (B : Nat → Nat) (N i : Nat) (x : Int32) : Mu := wI (wI μ 13 1 x) 13 2 (nI (kA B N i))
def frI (μ : Mu) (B : Nat → Nat) (N i : Nat) (x : Int32) : Mu := wI (wI μ 139 11 x) 139 12 (nI (kA B N i))
theorem c_accept {n N M i K : Nat} {code : Int32} {B : Nat → Nat} {μ : Mu} (hD : KD B N M) (h : CK μ B N M i) (hc : ckI B N (tkP B N i) = code ↔ kK B N i = K) : fX5_accept n code μ = some (if kK B N i = K then (1, wI μ 13 4 (rI μ 13 4 + 1)) else (0, fbI μ B N i (if kK B N i = 25 then 1 else 2))) := by
  unfold fX5_accept
  rw [c_kind hD h, bnd_some]
  by_cases e : kK B N i = K
  · rw [if_pos (hc.mpr e), if_pos e]
  · rw [if_neg (fun q => e (hc.mp q)), if_neg e, c_refuse hD h, bnd2_some]
    rfl
theorem r_eats {n N i K : Nat} {B : Nat → Nat} {μ : Mu} (h : RK μ B N i) (hK : K < 2147483648) (hb : ∀ k, k < N → B k < 256) (hn : 1000 < n) (e : kK B N i = K) : ∃ μ', fX12_eats n (nI K) μ = some (1, μ') ∧ RK μ' B N (i + 1) ∧ Fg PN μ μ' := by
  obtain ⟨m, g1, g2, g3⟩ := h.nx hn
  refine ⟨m, ?_, g2, g3⟩
  unfold fX12_eats
  rw [r_is h hK hb, if_pos e, bnd_some, if_neg (by decide), g1, bnd_some]
theorem r_eatsN {n N i K : Nat} {B : Nat → Nat} {μ : Mu} (h : RK μ B N i) (hK : K < 2147483648) (hb : ∀ k, k < N → B k < 256) (e : ¬ kK B N i = K) : fX12_eats n (nI K) μ = some (0, μ) := by
  unfold fX12_eats
  rw [r_is h hK hb, if_neg e, bnd_some, if_pos rfl]
theorem r_eatsW {n : Nat} {x : Int32} {μ : Mu} (h : rI μ 139 11 ≠ 0) : fX12_eats n x μ = some (0, μ) := by
  unfold fX12_eats
  rw [r_isW h, bnd_some, if_pos rfl]
theorem ge_1000 : ∀ x, x < 2000 → ((0 : Int32) ≤ nI x - 1000 ↔ 1000 ≤ x) := by decide +kernel
theorem ck_num {B : Nat → Nat} {N p : Nat} (hp : p ≤ N) (hb : ∀ k, k < N → B k < 256) : (0 ≤ ckI B N p - 1000 ↔ tkK B N p = 23) ∧ (tkK B N p = 23 → ckI B N p - 1000 = nI (tkV B N p) ∧ tkV B N p < 1000) := by
  rcases ck_cases hp hb with ⟨h1, h2⟩ | ⟨h1, h2⟩ | ⟨h1, h0, h2⟩ | ⟨h1, h2⟩ | ⟨h1, h2⟩ | ⟨h1, h0, h2⟩
  · have l1 := cls_le _ h1
    rw [h2, ge_1000 _ (by omega)]; exact ⟨by omega, fun e => by omega⟩
  · rw [h2, ge_1000 _ (by omega)]; exact ⟨by omega, fun e => by omega⟩
  · rw [h2, ge_1000 _ (by omega)]
    exact ⟨by omega, fun _ => ⟨(pk_sub (show 1000 ≤ 1000 + tkV B N p by omega)).trans (congrArg nI (by omega)), h0⟩⟩
  · rw [h2, ge_1000 _ (by omega)]; exact ⟨by omega, fun e => by omega⟩
  · rw [h2, ge_1000 _ (by omega)]; exact ⟨by omega, fun e => by omega⟩
  · have := sgL_bd (tkK B N p - 30) (by omega)
    rw [h2, ge_1000 _ (by omega)]; exact ⟨by omega, fun e => by omega⟩
abbrev kV (B : Nat → Nat) (N i : Nat) : Nat := tkV B N (tkP B N i)
/-- the class's amount -/
theorem c_amount {n N M i lo : Nat} {hi : Int32} {B : Nat → Nat} {μ : Mu} (hD : KD B N M) (h : CK μ B N M i) (hlo : lo < 1000) : fX5_amount n (nI lo) hi μ = some (if kK B N i = 23 then (if lo ≤ kV B N i ∧ nI (kV B N i) ≤ hi then (nI (kV B N i), wI μ 13 4 (rI μ 13 4 + 1)) else (-1, fbI μ B N i 3)) else (-1, fbI μ B N i (if kK B N i = 25 then 1 else 2))) := by
  obtain ⟨c1, c2⟩ := ck_num (tkP_le (B := B) (N := N) i) hD.2.2.1
  unfold fX5_amount jX5_amount_30
  rw [c_kind hD h, bnd_some]
  by_cases e : kK B N i = 23
  · obtain ⟨d1, d2⟩ := c2 e
    have d2 : kV B N i < 1000 := d2
    have d1 : ckI B N (tkP B N i) - 1000 = nI (kV B N i) := d1
    rw [if_pos (c1.mpr e), if_pos e, d1, c_blame hD h, bnd2_some]
    by_cases a : kV B N i < lo
    · rw [if_pos ((nI_ltI (by omega) (by omega)).mpr a), if_neg (by omega)]; rfl
    · rw [if_neg (fun q => a ((nI_ltI (by omega) (by omega)).mp q))]
      by_cases b : nI (kV B N i) ≤ hi
      · rw [if_pos b, if_pos ⟨by omega, b⟩]
      · rw [if_neg b, if_neg (fun q => b q.2)]; rfl
  · rw [if_neg (fun q => e (c1.mp q)), if_neg e, c_refuse hD h, bnd2_some]; rfl
theorem i64_mono {x y : Int32} (h : x ≤ y) : x.toInt64 ≤ y.toInt64 := by
  rw [Int64.le_iff_toInt_le, Int32.toInt_toInt64, Int32.toInt_toInt64]
  exact Int32.le_iff_toInt_le.mp h
theorem i64_mono' {x y : Int32} (h : x.toInt64 ≤ y.toInt64) : x ≤ y := by
  rw [Int64.le_iff_toInt_le, Int32.toInt_toInt64, Int32.toInt_toInt64] at h
  exact Int32.le_iff_toInt_le.mpr h
/-- the reference's number -/
theorem r_takes {n N i lo : Nat} {hi : Int32} {B : Nat → Nat} {μ : Mu} (h : RK μ B N i) (hb : ∀ k, k < N → B k < 256) (e : kK B N i = 23) (h1 : lo ≤ kV B N i) (h2 : nI (kV B N i) ≤ hi) (hn : 1000 < n) : ∃ μ', fX12_takes n (nI lo) hi μ = some (nI (kV B N i), μ') ∧ RK μ' B N (i + 1) ∧ Fg PN μ μ' := by
  obtain ⟨m, g1, g2, g3⟩ := h.nx hn
  have v : rI μ 139 10 = nI (kV B N i) := h.2.1.2.2.2 e
  have vb : kV B N i < 1000 := ((ck_num (tkP_le (B := B) (N := N) i) hb).2 e).2
  refine ⟨m, ?_, g2, g3⟩
  unfold fX12_takes jX12_takes_37
  rw [show (23 : Int32) = nI 23 from rfl, r_is h (by omega) hb, if_pos e, bnd_some, if_neg (by decide), v, f_within, bnd_some, ifb, if_pos (decide_eq_true ⟨i64_mono ((nI_leI (by omega) (by omega)).mpr h1), i64_mono h2⟩), h.2.2, if_pos rfl, g1, bnd_some]
theorem r_takes3 {n N i lo : Nat} {hi : Int32} {B : Nat → Nat} {μ : Mu} (h : RK μ B N i) (hb : ∀ k, k < N → B k < 256) (e : kK B N i = 23) (hl : lo < 1000) (h1 : ¬ (lo ≤ kV B N i ∧ nI (kV B N i) ≤ hi)) : ∃ v, fX12_takes n (nI lo) hi μ = some (v, frI μ B N i 3) := by
  have v : rI μ 139 10 = nI (kV B N i) := h.2.1.2.2.2 e
  have vb : kV B N i < 1000 := ((ck_num (tkP_le (B := B) (N := N) i) hb).2 e).2
  have f := r_fails (n := n) (x := 3) h hb
  rw [if_neg (show ¬ kK B N i = 25 by omega)] at f
  have w : rI (frI μ B N i 3) 139 11 ≠ 0 := by
    unfold frI; rw [rI_ii (by decide), rI_same]; decide
  refine ⟨rI (frI μ B N i 3) 139 10, ?_⟩
  unfold fX12_takes jX12_takes_37
  rw [show (23 : Int32) = nI 23 from rfl, r_is h (by omega) hb, if_pos e, bnd_some, if_neg (by decide), v, f_within, bnd_some, ifb, if_neg (fun q => h1 (by
    obtain ⟨q1, q2⟩ := of_decide_eq_true q
    exact ⟨(nI_leI (by omega) (by omega)).mp (i64_mono' q1), i64_mono' q2⟩)), f, bnd_some]
  exact if_neg w
theorem r_takes2 {n N i : Nat} {lo hi : Int32} {B : Nat → Nat} {μ : Mu} (h : RK μ B N i) (hb : ∀ k, k < N → B k < 256) (e : ¬ kK B N i = 23) : ∃ v, fX12_takes n lo hi μ = some (v, frI μ B N i (if kK B N i = 25 then 1 else 2)) := by
  have f := r_fails (n := n) (x := 2) h hb
  have w : rI (frI μ B N i (if kK B N i = 25 then 1 else 2)) 139 11 ≠ 0 := by
    unfold frI; rw [rI_ii (by decide), rI_same]; split <;> decide
  refine ⟨rI (frI μ B N i (if kK B N i = 25 then 1 else 2)) 139 10, ?_⟩
  unfold fX12_takes jX12_takes_37
  rw [show (23 : Int32) = nI 23 from rfl, r_is h (by omega) hb, if_neg e, bnd_some, if_pos rfl, f, bnd_some]
  exact if_neg w
theorem r_takesW {n : Nat} {lo hi : Int32} {μ : Mu} (h : rI μ 139 11 ≠ 0) : fX12_takes n lo hi μ = some (rI μ 139 10, μ) := by
  unfold fX12_takes jX12_takes_37
  rw [r_isW h, bnd_some, if_pos rfl, r_failsW h, bnd_some, if_neg h]
