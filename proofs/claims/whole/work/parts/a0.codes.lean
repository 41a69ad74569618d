/-! THE READER: heights and fuel of expressions -/
def fuK (k x : Nat) : Nat := 6 * (6 - x) + (6 - k)
def htK (k x : Nat) : Nat := 3 * (6 - x) + (6 - k)
theorem codes_W {n : Nat} {x : Int32} {μ : Mu} (h : rI μ 139 11 ≠ 0) : fX12_codes n x μ = some μ := by
  unfold fX12_codes
  rw [if_neg h]
theorem goesIn_W {n : Nat} (hn : 0 < n) {x : Int32} {μ : Mu} (h : rI μ 139 11 ≠ 0) : fX12_P n 6 0 x μ = some μ := P_W hn 6 0 x μ h (by omega) (by omega)
