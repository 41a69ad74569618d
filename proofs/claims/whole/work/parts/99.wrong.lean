/-! THE READER: once something is wrong, the reference's expressions change nothing -/
theorem lp_out {τ ρ : Type} {step : τ → Option (τ ⊕ ρ)} {t : τ} {r : ρ} {n : Nat} (h : step t = some (.inr r)) (hn : 0 < n) : lp n step t = some r := lp_up (step := step) 0 (fun _ => t) r (fun i hi => absurd hi (Nat.not_lt_zero _)) h hn
theorem P_W {n : Nat} (hn : 0 < n) : ∀ d k x μ, rI μ 139 11 ≠ 0 → k ≤ 5 → 6 - k ≤ d → fX12_P n d k x μ = some μ := by
  have atom : ∀ d x μ, rI μ 139 11 ≠ 0 → 1 ≤ d → fX12_P n d 5 x μ = some μ := fun d x μ h hd => by
    obtain ⟨d, rfl⟩ : ∃ e, d = e + 1 := ⟨d - 1, by omega⟩
    show bX12_readAtom n (fX12_P n d) x μ = some μ
    unfold bX12_readAtom jX12_readAtom_66
    rw [r_isW h, bnd_some, if_pos rfl, if_neg h, r_isW h, bnd_some, if_pos rfl, r_failsW h, bnd_some]
  have term : ∀ d x μ, rI μ 139 11 ≠ 0 → 2 ≤ d → fX12_P n d 4 x μ = some μ := fun d x μ h hd => by
    obtain ⟨d, rfl⟩ : ∃ e, d = e + 1 := ⟨d - 1, by omega⟩
    show bX12_readTerm n (fX12_P n d) x μ = some μ
    unfold bX12_readTerm
    rw [atom d x μ h (by omega), bnd_some, lp_out (step := sX12_readTerm_5 n (fX12_P n d) x) (t := μ) (r := μ) (by
      show (bnd2 (fX12_eats n 34 μ) _) = _
      rw [r_eatsW h, bnd2_some, if_pos rfl]) hn, bnd_some]
  have sum : ∀ d x μ, rI μ 139 11 ≠ 0 → 3 ≤ d → fX12_P n d 3 x μ = some μ := fun d x μ h hd => by
    obtain ⟨d, rfl⟩ : ∃ e, d = e + 1 := ⟨d - 1, by omega⟩
    show bX12_readSum n (fX12_P n d) x μ = some μ
    unfold bX12_readSum
    rw [term d x μ h (by omega), bnd_some, lp_out (step := sX12_readSum_5 n (fX12_P n d) x) (t := μ) (r := μ) (by
      show (bnd (fX12_is n 32 μ) _) = _
      rw [r_isW h, bnd_some, if_pos rfl, r_isW h, bnd_some, if_pos rfl]) hn, bnd_some]
  have codes : ∀ x μ, rI μ 139 11 ≠ 0 → fX12_codes n x μ = some μ := fun x μ h => by
    unfold fX12_codes
    rw [if_neg h]
  have unit : ∀ d x μ, rI μ 139 11 ≠ 0 → 4 ≤ d → fX12_P n d 2 x μ = some μ := fun d x μ h hd => by
    obtain ⟨d, rfl⟩ : ∃ e, d = e + 1 := ⟨d - 1, by omega⟩
    show bX12_readUnit n (fX12_P n d) x μ = some μ
    unfold bX12_readUnit jX12_readUnit_111 jX12_readUnit_151
    simp only [r_isW h, bnd_some, if_true, sum d x μ h (by omega), r_failsW h, codes _ μ h]
  have both : ∀ d x μ, rI μ 139 11 ≠ 0 → 5 ≤ d → fX12_P n d 1 x μ = some μ := fun d x μ h hd => by
    obtain ⟨d, rfl⟩ : ∃ e, d = e + 1 := ⟨d - 1, by omega⟩
    show bX12_readBoth n (fX12_P n d) x μ = some μ
    unfold bX12_readBoth
    rw [unit d x μ h (by omega), bnd_some, lp_out (step := sX12_readBoth_5 n (fX12_P n d) x) (t := μ) (r := μ) (by
      show (bnd2 (fX12_eats n 19 μ) _) = _
      rw [r_eatsW h, bnd2_some, if_pos rfl]) hn, bnd_some]
  intro d k x μ h hk hd
  match k, hk with
  | 0, _ =>
    obtain ⟨d, rfl⟩ : ∃ e, d = e + 1 := ⟨d - 1, by omega⟩
    show bX12_readTruth n (fX12_P n d) x μ = some μ
    unfold bX12_readTruth
    rw [both d x μ h (by omega), bnd_some, lp_out (step := sX12_readTruth_5 n (fX12_P n d) x) (t := μ) (r := μ) (by
      show (bnd2 (fX12_eats n 20 μ) _) = _
      rw [r_eatsW h, bnd2_some, if_pos rfl]) hn, bnd_some]
  | 1, _ => exact both d x μ h (by omega)
  | 2, _ => exact unit d x μ h (by omega)
  | 3, _ => exact sum d x μ h (by omega)
  | 4, _ => exact term d x μ h (by omega)
  | 5, _ => exact atom d x μ h (by omega)
