/-! THE READER: kinds of tokens in the class and in the reference -/
theorem cls_inj : ∀ a, a ≤ 21 → ∀ b, b ≤ 21 → cls a = cls b → a = b := by decide +kernel
theorem sg_iff : ∀ v, v < 256 → ∀ k, k < 12 → (sgK v = 30 + k ↔ v = sgL.getD k 0) := by decide +kernel
theorem sgL_bd : ∀ k, k < 12 → 40 ≤ sgL.getD k 0 ∧ sgL.getD k 0 ≤ 93 := by decide +kernel
/-- the class's kind, case by case -/
theorem ck_cases {B : Nat → Nat} {N p : Nat} (hp : p ≤ N) (hb : ∀ k, k < N → B k < 256) : (tkK B N p ≤ 21 ∧ ckI B N p = nI (200 + cls (tkK B N p))) ∨ (tkK B N p = 22 ∧ ckI B N p = nI 2) ∨ (tkK B N p = 23 ∧ tkV B N p < 1000 ∧ ckI B N p = nI (1000 + tkV B N p)) ∨ (tkK B N p = 24 ∧ ckI B N p = nI 0) ∨ (tkK B N p = 25 ∧ ckI B N p = nI 1) ∨ (30 ≤ tkK B N p ∧ tkK B N p ≤ 41 ∧ ckI B N p = nI (sgL.getD (tkK B N p - 30) 0)) := by
  have tc := tk_cases hp hb
  unfold ckI
  by_cases c1 : tkK B N p ≤ 21
  · rw [if_pos c1]; exact Or.inl ⟨c1, rfl⟩
  · rw [if_neg c1]
    by_cases c2 : tkK B N p = 22
    · rw [if_pos c2]; exact Or.inr (Or.inl ⟨c2, rfl⟩)
    · rw [if_neg c2]
      by_cases c3 : tkK B N p = 23
      · rw [if_pos c3]; exact Or.inr (Or.inr (Or.inl ⟨c3, by omega, rfl⟩))
      · rw [if_neg c3]
        by_cases c4 : tkK B N p = 24
        · rw [if_pos c4]; exact Or.inr (Or.inr (Or.inr (Or.inl ⟨c4, rfl⟩)))
        · rw [if_neg c4]
          by_cases c5 : tkK B N p = 25
          · rw [if_pos c5]; exact Or.inr (Or.inr (Or.inr (Or.inr (Or.inl ⟨c5, rfl⟩))))
          · rw [if_neg c5]
            have hv : 30 ≤ tkK B N p ∧ tkK B N p ≤ 41 ∧ tkA B N p < N ∧ tkK B N p = sgK (B (tkA B N p)) := by
              rcases tc with q | q | q | q | q
              · omega
              · omega
              · omega
              · omega
              · exact ⟨q.1, q.2.1, q.2.2.1, q.2.2.2.2⟩
            refine Or.inr (Or.inr (Or.inr (Or.inr (Or.inr ⟨hv.1, hv.2.1, ?_⟩))))
            have := (sg_iff (B (tkA B N p)) (hb _ hv.2.2.1) (tkK B N p - 30) (by omega)).mp (by omega)
            rw [← this]
theorem ck_word {B : Nat → Nat} {N p K : Nat} (hp : p ≤ N) (hb : ∀ k, k < N → B k < 256) (hK : K ≤ 21) : ckI B N p = nI (200 + cls K) ↔ tkK B N p = K := by
  have l0 := cls_le K hK
  have z : ∀ x y : Nat, x < 2000 → y < 2000 → (nI x = nI y ↔ x = y) := fun x y hx hy => nI_eq (by omega) (by omega)
  rcases ck_cases hp hb with ⟨h1, h2⟩ | ⟨h1, h2⟩ | ⟨h1, h0, h2⟩ | ⟨h1, h2⟩ | ⟨h1, h2⟩ | ⟨h1, h0, h2⟩
  · have l1 := cls_le _ h1
    rw [h2, z _ _ (by omega) (by omega)]
    constructor
    · intro e; exact cls_inj _ h1 _ hK (by omega)
    · intro e; rw [e]
  · rw [h2, z _ _ (by omega) (by omega)]; omega
  · rw [h2, z _ _ (by omega) (by omega)]; omega
  · rw [h2, z _ _ (by omega) (by omega)]; omega
  · rw [h2, z _ _ (by omega) (by omega)]; omega
  · have := sgL_bd (tkK B N p - 30) (by omega)
    rw [h2, z _ _ (by omega) (by omega)]; omega
theorem sgL_inj : ∀ a, a < 12 → ∀ b, b < 12 → sgL.getD a 0 = sgL.getD b 0 → a = b := by decide +kernel
theorem ck_sign {B : Nat → Nat} {N p k : Nat} (hp : p ≤ N) (hb : ∀ k, k < N → B k < 256) (hk : k < 12) : ckI B N p = nI (sgL.getD k 0) ↔ tkK B N p = 30 + k := by
  have l0 := sgL_bd k hk
  have z : ∀ x y : Nat, x < 2000 → y < 2000 → (nI x = nI y ↔ x = y) := fun x y hx hy => nI_eq (by omega) (by omega)
  rcases ck_cases hp hb with ⟨h1, h2⟩ | ⟨h1, h2⟩ | ⟨h1, h0, h2⟩ | ⟨h1, h2⟩ | ⟨h1, h2⟩ | ⟨h1, h0, h2⟩
  · have l1 := cls_le _ h1
    rw [h2, z _ _ (by omega) (by omega)]; omega
  · rw [h2, z _ _ (by omega) (by omega)]; omega
  · rw [h2, z _ _ (by omega) (by omega)]; omega
  · rw [h2, z _ _ (by omega) (by omega)]; omega
  · rw [h2, z _ _ (by omega) (by omega)]; omega
  · have := sgL_bd (tkK B N p - 30) (by omega)
    rw [h2, z _ _ (by omega) (by omega)]
    constructor
    · intro e; have := sgL_inj _ (by omega) _ hk e; omega
    · intro e; rw [show tkK B N p - 30 = k by omega]
