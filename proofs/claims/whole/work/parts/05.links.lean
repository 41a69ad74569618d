noncomputable def nth {α : Type} (l : List α) : Nat → Option α := @List.rec α (fun _ => Nat → Option α) (fun _ => none) (fun a _ ih n => @Nat.rec (fun _ => Option α) (some a) (fun m _ => ih m) n) l
theorem nth_mem {α : Type} {w : α} : ∀ {l : List α} {i : Nat}, nth l i = some w → w ∈ l := by
  intro l
  induction l with
  | nil => intro i h; cases h
  | cons a l ih =>
    intro i h
    cases i with
    | zero =>
      have h2 : some a = some w := h
      cases h2
      exact List.mem_cons_self
    | succ i =>
      have h2 : nth l i = some w := h
      exact List.mem_cons_of_mem _ (ih h2)
theorem GT_c1 {w : Cond} {i : Nat} (h : nth tables_1_1 i = some w) (hg : goodWord w = true) : w ∈ GT := GT_in (List.mem_append_right _ (List.mem_append_left _ (nth_mem h))) hg
theorem GT_c2 {w : Cond} {i : Nat} (h : nth tables_1_2 i = some w) (hg : goodWord w = true) : w ∈ GT := GT_in (List.mem_append_right _ (List.mem_append_right _ (List.mem_append_left _ (nth_mem h)))) hg
theorem GT_c3 {w : Cond} {i : Nat} (h : nth tables_1_3 i = some w) (hg : goodWord w = true) : w ∈ GT := GT_in (List.mem_append_right _ (List.mem_append_right _ (List.mem_append_right _ (List.mem_append_left _ (nth_mem h))))) hg
theorem GT_c4 {w : Cond} {i : Nat} (h : nth tables_1_4 i = some w) (hg : goodWord w = true) : w ∈ GT := GT_in (List.mem_append_right _ (List.mem_append_right _ (List.mem_append_right _ (List.mem_append_right _ (List.mem_append_left _ (nth_mem h)))))) hg
theorem GT_c5 {w : Cond} {i : Nat} (h : nth tables_1_5 i = some w) (hg : goodWord w = true) : w ∈ GT := GT_in (List.mem_append_right _ (List.mem_append_right _ (List.mem_append_right _ (List.mem_append_right _ (List.mem_append_right _ (List.mem_append_left _ (nth_mem h))))))) hg
theorem GT_c6 {w : Cond} {i : Nat} (h : nth tables_1_6 i = some w) (hg : goodWord w = true) : w ∈ GT := GT_in (List.mem_append_right _ (List.mem_append_right _ (List.mem_append_right _ (List.mem_append_right _ (List.mem_append_right _ (List.mem_append_right _ (List.mem_append_left _ (nth_mem h)))))))) hg
theorem GT_c7 {w : Cond} {i : Nat} (h : nth tables_1_7 i = some w) (hg : goodWord w = true) : w ∈ GT := GT_in (List.mem_append_right _ (List.mem_append_right _ (List.mem_append_right _ (List.mem_append_right _ (List.mem_append_right _ (List.mem_append_right _ (List.mem_append_right _ (List.mem_append_left _ (nth_mem h))))))))) hg
theorem GT_c8 {w : Cond} {i : Nat} (h : nth tables_1_8 i = some w) (hg : goodWord w = true) : w ∈ GT := GT_in (List.mem_append_right _ (List.mem_append_right _ (List.mem_append_right _ (List.mem_append_right _ (List.mem_append_right _ (List.mem_append_right _ (List.mem_append_right _ (List.mem_append_right _ (nth_mem h))))))))) hg
theorem GT_s {w : Cond} {i : Nat} (h : nth (k2_sels lw_privs) i = some w) (hg : goodWord w = true) : w ∈ GT := GT_in (List.mem_append_left _ (nth_mem h)) hg
theorem ku0 : ∀ k, k < 8 → u_lay RX0 TX0 k ∈ GT
  | 0, _ => GT_c2 (i := 79) rfl rfl
  | 1, _ => GT_c2 (i := 81) rfl rfl
  | 2, _ => GT_c2 (i := 83) rfl rfl
  | 3, _ => GT_c2 (i := 85) rfl rfl
  | 4, _ => GT_c2 (i := 87) rfl rfl
  | 5, _ => GT_c2 (i := 89) rfl rfl
  | 6, _ => GT_c2 (i := 91) rfl rfl
  | 7, _ => GT_c2 (i := 93) rfl rfl
  | k + 8, h => absurd h (by omega)
theorem kc0 : KC 0 RX0 TX0 8 := ⟨rfl, rfl, fun w hw => by obtain ⟨k, hk, rfl⟩ := List.mem_map.mp hw; exact ku0 k (List.mem_range.mp hk), ⟨tyX0, tyX0_ok⟩, nmX0⟩
theorem ku1 : ∀ k, k < 3 → u_lay RX1 TX1 k ∈ GT
  | 0, _ => GT_c2 (i := 57) rfl rfl
  | 1, _ => GT_c2 (i := 59) rfl rfl
  | 2, _ => GT_c2 (i := 61) rfl rfl
  | k + 3, h => absurd h (by omega)
theorem kc1 : KC 1 RX1 TX1 3 := ⟨rfl, rfl, fun w hw => by obtain ⟨k, hk, rfl⟩ := List.mem_map.mp hw; exact ku1 k (List.mem_range.mp hk), ⟨tyX1, tyX1_ok⟩, nmX1⟩
theorem ku2 : ∀ k, k < 2 → u_lay RX2 TX2 k ∈ GT
  | 0, _ => GT_c5 (i := 230) rfl rfl
  | 1, _ => GT_c5 (i := 232) rfl rfl
  | k + 2, h => absurd h (by omega)
theorem kc2 : KC 2 RX2 TX2 2 := ⟨rfl, rfl, fun w hw => by obtain ⟨k, hk, rfl⟩ := List.mem_map.mp hw; exact ku2 k (List.mem_range.mp hk), ⟨tyX2, tyX2_ok⟩, nmX2⟩
theorem ku3 : ∀ k, k < 4 → u_lay RX3 TX3 k ∈ GT
  | 0, _ => GT_c1 (i := 47) rfl rfl
  | 1, _ => GT_c1 (i := 49) rfl rfl
  | 2, _ => GT_c1 (i := 51) rfl rfl
  | 3, _ => GT_c1 (i := 53) rfl rfl
  | k + 4, h => absurd h (by omega)
theorem kc3 : KC 3 RX3 TX3 4 := ⟨rfl, rfl, fun w hw => by obtain ⟨k, hk, rfl⟩ := List.mem_map.mp hw; exact ku3 k (List.mem_range.mp hk), ⟨tyX3, tyX3_ok⟩, nmX3⟩
theorem ku4 : ∀ k, k < 5 → u_lay RX4 TX4 k ∈ GT
  | 0, _ => GT_c2 (i := 109) rfl rfl
  | 1, _ => GT_c2 (i := 111) rfl rfl
  | 2, _ => GT_c2 (i := 113) rfl rfl
  | 3, _ => GT_c2 (i := 115) rfl rfl
  | 4, _ => GT_c2 (i := 117) rfl rfl
  | k + 5, h => absurd h (by omega)
theorem kc4 : KC 4 RX4 TX4 5 := ⟨rfl, rfl, fun w hw => by obtain ⟨k, hk, rfl⟩ := List.mem_map.mp hw; exact ku4 k (List.mem_range.mp hk), ⟨tyX4, tyX4_ok⟩, nmX4⟩
theorem ku5 : ∀ k, k < 6 → u_lay RX5 TX5 k ∈ GT
  | 0, _ => GT_c1 (i := 195) rfl rfl
  | 1, _ => GT_c1 (i := 197) rfl rfl
  | 2, _ => GT_c1 (i := 199) rfl rfl
  | 3, _ => GT_c1 (i := 201) rfl rfl
  | 4, _ => GT_c1 (i := 203) rfl rfl
  | 5, _ => GT_c1 (i := 205) rfl rfl
  | k + 6, h => absurd h (by omega)
theorem kc5 : KC 5 RX5 TX5 6 := ⟨rfl, rfl, fun w hw => by obtain ⟨k, hk, rfl⟩ := List.mem_map.mp hw; exact ku5 k (List.mem_range.mp hk), ⟨tyX5, tyX5_ok⟩, nmX5⟩
theorem ku6 : ∀ k, k < 6 → u_lay RX6 TX6 k ∈ GT
  | 0, _ => GT_c1 (i := 223) rfl rfl
  | 1, _ => GT_c1 (i := 225) rfl rfl
  | 2, _ => GT_c1 (i := 227) rfl rfl
  | 3, _ => GT_c1 (i := 229) rfl rfl
  | 4, _ => GT_c1 (i := 231) rfl rfl
  | 5, _ => GT_c1 (i := 233) rfl rfl
  | k + 6, h => absurd h (by omega)
theorem kc6 : KC 6 RX6 TX6 6 := ⟨rfl, rfl, fun w hw => by obtain ⟨k, hk, rfl⟩ := List.mem_map.mp hw; exact ku6 k (List.mem_range.mp hk), ⟨tyX6, tyX6_ok⟩, nmX6⟩
theorem ku7 : ∀ k, k < 15 → u_lay RX7 TX7 k ∈ GT
  | 0, _ => GT_c1 (i := 129) rfl rfl
  | 1, _ => GT_c1 (i := 131) rfl rfl
  | 2, _ => GT_c1 (i := 133) rfl rfl
  | 3, _ => GT_c1 (i := 135) rfl rfl
  | 4, _ => GT_c1 (i := 137) rfl rfl
  | 5, _ => GT_c1 (i := 139) rfl rfl
  | 6, _ => GT_c1 (i := 141) rfl rfl
  | 7, _ => GT_c1 (i := 143) rfl rfl
  | 8, _ => GT_c1 (i := 145) rfl rfl
  | 9, _ => GT_c1 (i := 147) rfl rfl
  | 10, _ => GT_c1 (i := 149) rfl rfl
  | 11, _ => GT_c1 (i := 151) rfl rfl
  | 12, _ => GT_c1 (i := 153) rfl rfl
  | 13, _ => GT_c1 (i := 155) rfl rfl
  | 14, _ => GT_c1 (i := 157) rfl rfl
  | k + 15, h => absurd h (by omega)
theorem kc7 : KC 7 RX7 TX7 15 := ⟨rfl, rfl, fun w hw => by obtain ⟨k, hk, rfl⟩ := List.mem_map.mp hw; exact ku7 k (List.mem_range.mp hk), ⟨tyX7, tyX7_ok⟩, nmX7⟩
theorem ku8 : ∀ k, k < 10 → u_lay RX8 TX8 k ∈ GT
  | 0, _ => GT_c2 (i := 23) rfl rfl
  | 1, _ => GT_c2 (i := 25) rfl rfl
  | 2, _ => GT_c2 (i := 27) rfl rfl
  | 3, _ => GT_c2 (i := 29) rfl rfl
  | 4, _ => GT_c2 (i := 31) rfl rfl
  | 5, _ => GT_c2 (i := 33) rfl rfl
  | 6, _ => GT_c2 (i := 35) rfl rfl
  | 7, _ => GT_c2 (i := 37) rfl rfl
  | 8, _ => GT_c2 (i := 39) rfl rfl
  | 9, _ => GT_c2 (i := 41) rfl rfl
  | k + 10, h => absurd h (by omega)
theorem kc8 : KC 8 RX8 TX8 10 := ⟨rfl, rfl, fun w hw => by obtain ⟨k, hk, rfl⟩ := List.mem_map.mp hw; exact ku8 k (List.mem_range.mp hk), ⟨tyX8, tyX8_ok⟩, nmX8⟩
theorem ku9 : ∀ k, k < 3 → u_lay RX9 TX9 k ∈ GT
  | 0, _ => GT_c1 (i := 179) rfl rfl
  | 1, _ => GT_c1 (i := 181) rfl rfl
  | 2, _ => GT_c1 (i := 183) rfl rfl
  | k + 3, h => absurd h (by omega)
theorem kc9 : KC 9 RX9 TX9 3 := ⟨rfl, rfl, fun w hw => by obtain ⟨k, hk, rfl⟩ := List.mem_map.mp hw; exact ku9 k (List.mem_range.mp hk), ⟨tyX9, tyX9_ok⟩, nmX9⟩
theorem ku10 : ∀ k, k < 3 → u_lay RX10 TX10 k ∈ GT
  | 0, _ => GT_c2 (i := 134) rfl rfl
  | 1, _ => GT_c2 (i := 136) rfl rfl
  | 2, _ => GT_c2 (i := 138) rfl rfl
  | k + 3, h => absurd h (by omega)
theorem kc10 : KC 10 RX10 TX10 3 := ⟨rfl, rfl, fun w hw => by obtain ⟨k, hk, rfl⟩ := List.mem_map.mp hw; exact ku10 k (List.mem_range.mp hk), ⟨tyX10, tyX10_ok⟩, nmX10⟩
theorem ku11 : ∀ k, k < 15 → u_lay RX11 TX11 k ∈ GT
  | 0, _ => GT_c2 (i := 159) rfl rfl
  | 1, _ => GT_c2 (i := 161) rfl rfl
  | 2, _ => GT_c2 (i := 163) rfl rfl
  | 3, _ => GT_c2 (i := 165) rfl rfl
  | 4, _ => GT_c2 (i := 167) rfl rfl
  | 5, _ => GT_c2 (i := 169) rfl rfl
  | 6, _ => GT_c2 (i := 171) rfl rfl
  | 7, _ => GT_c2 (i := 173) rfl rfl
  | 8, _ => GT_c2 (i := 175) rfl rfl
  | 9, _ => GT_c2 (i := 177) rfl rfl
  | 10, _ => GT_c2 (i := 179) rfl rfl
  | 11, _ => GT_c2 (i := 181) rfl rfl
  | 12, _ => GT_c2 (i := 183) rfl rfl
  | 13, _ => GT_c2 (i := 185) rfl rfl
  | 14, _ => GT_c2 (i := 187) rfl rfl
  | k + 15, h => absurd h (by omega)
theorem kc11 : KC 11 RX11 TX11 15 := ⟨rfl, rfl, fun w hw => by obtain ⟨k, hk, rfl⟩ := List.mem_map.mp hw; exact ku11 k (List.mem_range.mp hk), ⟨tyX11, tyX11_ok⟩, nmX11⟩
theorem ku12 : ∀ k, k < 30 → u_lay RX12 TX12 k ∈ GT
  | 0, _ => GT_c6 (i := 42) rfl rfl
  | 1, _ => GT_c6 (i := 44) rfl rfl
  | 2, _ => GT_c6 (i := 46) rfl rfl
  | 3, _ => GT_c6 (i := 48) rfl rfl
  | 4, _ => GT_c6 (i := 50) rfl rfl
  | 5, _ => GT_c6 (i := 52) rfl rfl
  | 6, _ => GT_c6 (i := 54) rfl rfl
  | 7, _ => GT_c6 (i := 56) rfl rfl
  | 8, _ => GT_c6 (i := 58) rfl rfl
  | 9, _ => GT_c6 (i := 60) rfl rfl
  | 10, _ => GT_c6 (i := 62) rfl rfl
  | 11, _ => GT_c6 (i := 64) rfl rfl
  | 12, _ => GT_c6 (i := 66) rfl rfl
  | 13, _ => GT_c6 (i := 68) rfl rfl
  | 14, _ => GT_c6 (i := 70) rfl rfl
  | 15, _ => GT_c6 (i := 72) rfl rfl
  | 16, _ => GT_c6 (i := 74) rfl rfl
  | 17, _ => GT_c6 (i := 76) rfl rfl
  | 18, _ => GT_c6 (i := 78) rfl rfl
  | 19, _ => GT_c6 (i := 80) rfl rfl
  | 20, _ => GT_c6 (i := 82) rfl rfl
  | 21, _ => GT_c6 (i := 84) rfl rfl
  | 22, _ => GT_c6 (i := 86) rfl rfl
  | 23, _ => GT_c6 (i := 88) rfl rfl
  | 24, _ => GT_c6 (i := 90) rfl rfl
  | 25, _ => GT_c6 (i := 92) rfl rfl
  | 26, _ => GT_c6 (i := 94) rfl rfl
  | 27, _ => GT_c6 (i := 96) rfl rfl
  | 28, _ => GT_c6 (i := 98) rfl rfl
  | 29, _ => GT_c6 (i := 100) rfl rfl
  | k + 30, h => absurd h (by omega)
theorem kc12 : KC 12 RX12 TX12 30 := ⟨rfl, rfl, fun w hw => by obtain ⟨k, hk, rfl⟩ := List.mem_map.mp hw; exact ku12 k (List.mem_range.mp hk), ⟨tyX12, tyX12_ok⟩, nmX12⟩
theorem flX11_9 : FL RX11 9 11 0 := ⟨_, _, _, kc11, by decide, GT_c2 (i := 144) rfl rfl⟩
theorem flX11_13 : FL RX11 13 11 1 := ⟨_, _, _, kc11, by decide, GT_c2 (i := 145) rfl rfl⟩
theorem fiX11_13 : FLI RX11 13 11 1 := ⟨_, _, _, kc11, by decide, GT_c2 (i := 145) rfl rfl, rfl, by decide +kernel, rfl⟩
theorem flX11_17 : FL RX11 17 11 2 := ⟨_, _, _, kc11, by decide, GT_c2 (i := 146) rfl rfl⟩
theorem fiX11_17 : FLI RX11 17 11 2 := ⟨_, _, _, kc11, by decide, GT_c2 (i := 146) rfl rfl, rfl, by decide +kernel, rfl⟩
theorem flX11_20 : FL RX11 20 11 3 := ⟨_, _, _, kc11, by decide, GT_c2 (i := 147) rfl rfl⟩
theorem fiX11_20 : FLI RX11 20 11 3 := ⟨_, _, _, kc11, by decide, GT_c2 (i := 147) rfl rfl, rfl, by decide +kernel, rfl⟩
theorem flX11_26 : FL RX11 26 11 4 := ⟨_, _, _, kc11, by decide, GT_c2 (i := 148) rfl rfl⟩
theorem flX11_33 : FL RX11 33 11 5 := ⟨_, _, _, kc11, by decide, GT_c2 (i := 149) rfl rfl⟩
theorem flX11_42 : FL RX11 42 11 6 := ⟨_, _, _, kc11, by decide, GT_c2 (i := 150) rfl rfl⟩
theorem flX11_49 : FL RX11 49 11 7 := ⟨_, _, _, kc11, by decide, GT_c2 (i := 151) rfl rfl⟩
theorem flX11_53 : FL RX11 53 11 8 := ⟨_, _, _, kc11, by decide, GT_c2 (i := 152) rfl rfl⟩
theorem flX11_59 : FL RX11 59 11 9 := ⟨_, _, _, kc11, by decide, GT_c2 (i := 153) rfl rfl⟩
theorem flX11_68 : FL RX11 68 11 10 := ⟨_, _, _, kc11, by decide, GT_c2 (i := 154) rfl rfl⟩
theorem flX11_75 : FL RX11 75 11 11 := ⟨_, _, _, kc11, by decide, GT_c2 (i := 155) rfl rfl⟩
theorem flX11_81 : FL RX11 81 11 12 := ⟨_, _, _, kc11, by decide, GT_c2 (i := 156) rfl rfl⟩
theorem flX11_88 : FL RX11 88 11 13 := ⟨_, _, _, kc11, by decide, GT_c2 (i := 157) rfl rfl⟩
theorem flX11_92 : FL RX11 92 11 14 := ⟨_, _, _, kc11, by decide, GT_c2 (i := 158) rfl rfl⟩
theorem flX11_104 : FL RX11 104 5 1 := ⟨_, _, _, kc5, by decide, GT_c1 (i := 189) rfl rfl⟩
theorem fiX11_104 : FLI RX11 104 5 1 := ⟨_, _, _, kc5, by decide, GT_c1 (i := 189) rfl rfl, rfl, by decide +kernel, rfl⟩
theorem flX11_107 : FL RX11 107 5 2 := ⟨_, _, _, kc5, by decide, GT_c1 (i := 191) rfl rfl⟩
theorem fiX11_107 : FLI RX11 107 5 2 := ⟨_, _, _, kc5, by decide, GT_c1 (i := 191) rfl rfl, rfl, by decide +kernel, rfl⟩
theorem flX11_110 : FL RX11 110 5 0 := ⟨_, _, _, kc5, by decide, GT_c1 (i := 187) rfl rfl⟩
theorem flX11_121 : FL RX11 121 7 4 := ⟨_, _, _, kc7, by decide, GT_c1 (i := 82) rfl rfl⟩
theorem fiX11_121 : FLI RX11 121 7 4 := ⟨_, _, _, kc7, by decide, GT_c1 (i := 82) rfl rfl, rfl, by decide +kernel, rfl⟩
theorem flX11_124 : FL RX11 124 7 1 := ⟨_, _, _, kc7, by decide, GT_c1 (i := 66) rfl rfl⟩
theorem fiX11_124 : FLI RX11 124 7 1 := ⟨_, _, _, kc7, by decide, GT_c1 (i := 66) rfl rfl, rfl, by decide +kernel, rfl⟩
theorem flX11_127 : FL RX11 127 7 8 := ⟨_, _, _, kc7, by decide, GT_c1 (i := 98) rfl rfl⟩
theorem flX11_130 : FL RX11 130 7 9 := ⟨_, _, _, kc7, by decide, GT_c1 (i := 103) rfl rfl⟩
theorem flX11_133 : FL RX11 133 7 10 := ⟨_, _, _, kc7, by decide, GT_c1 (i := 109) rfl rfl⟩
theorem flX11_136 : FL RX11 136 8 0 := ⟨_, _, _, kc8, by decide, GT_c2 (i := 4) rfl rfl⟩
theorem fiX11_136 : FLI RX11 136 8 0 := ⟨_, _, _, kc8, by decide, GT_c2 (i := 4) rfl rfl, rfl, by decide +kernel, rfl⟩
theorem flX11_139 : FL RX11 139 8 1 := ⟨_, _, _, kc8, by decide, GT_c2 (i := 7) rfl rfl⟩
theorem fiX11_139 : FLI RX11 139 8 1 := ⟨_, _, _, kc8, by decide, GT_c2 (i := 7) rfl rfl, rfl, by decide +kernel, rfl⟩
theorem flX11_150 : FL RX11 150 7 11 := ⟨_, _, _, kc7, by decide, GT_c1 (i := 114) rfl rfl⟩
theorem flX11_153 : FL RX11 153 7 7 := ⟨_, _, _, kc7, by decide, GT_c1 (i := 91) rfl rfl⟩
theorem fiX11_153 : FLI RX11 153 7 7 := ⟨_, _, _, kc7, by decide, GT_c1 (i := 91) rfl rfl, rfl, by decide +kernel, rfl⟩
theorem flX11_156 : FL RX11 156 8 9 := ⟨_, _, _, kc8, by decide, GT_c2 (i := 22) rfl rfl⟩
theorem flX11_176 : FL RX11 176 7 12 := ⟨_, _, _, kc7, by decide, GT_c1 (i := 119) rfl rfl⟩
theorem flX11_179 : FL RX11 179 8 4 := ⟨_, _, _, kc8, by decide, GT_c2 (i := 13) rfl rfl⟩
theorem flX11_185 : FL RX11 185 8 5 := ⟨_, _, _, kc8, by decide, GT_c2 (i := 16) rfl rfl⟩
theorem flX11_188 : FL RX11 188 8 7 := ⟨_, _, _, kc8, by decide, GT_c2 (i := 19) rfl rfl⟩
theorem flX11_205 : FL RX11 205 8 2 := ⟨_, _, _, kc8, by decide, GT_c2 (i := 9) rfl rfl⟩
theorem fiX11_205 : FLI RX11 205 8 2 := ⟨_, _, _, kc8, by decide, GT_c2 (i := 9) rfl rfl, rfl, by decide +kernel, rfl⟩
theorem flX11_215 : FL RX11 215 8 3 := ⟨_, _, _, kc8, by decide, GT_c2 (i := 11) rfl rfl⟩
theorem fiX11_215 : FLI RX11 215 8 3 := ⟨_, _, _, kc8, by decide, GT_c2 (i := 11) rfl rfl, rfl, by decide +kernel, rfl⟩
theorem flX11_222 : FL RX11 222 1 2 := ⟨_, _, _, kc1, by decide, GT_c2 (i := 56) rfl rfl⟩
theorem fiX11_222 : FLI RX11 222 1 2 := ⟨_, _, _, kc1, by decide, GT_c2 (i := 56) rfl rfl, rfl, by decide +kernel, rfl⟩
theorem flX11_242 : FL RX11 242 10 1 := ⟨_, _, _, kc10, by decide, GT_c2 (i := 132) rfl rfl⟩
theorem fiX11_242 : FLI RX11 242 10 1 := ⟨_, _, _, kc10, by decide, GT_c2 (i := 132) rfl rfl, rfl, by decide +kernel, rfl⟩
theorem flX11_243 : FL RX11 243 10 0 := ⟨_, _, _, kc10, by decide, GT_c2 (i := 129) rfl rfl⟩
theorem flX11_272 : FL RX11 272 0 5 := ⟨_, _, _, kc0, by decide, GT_c2 (i := 76) rfl rfl⟩
theorem flX11_278 : FL RX11 278 7 2 := ⟨_, _, _, kc7, by decide, GT_c1 (i := 74) rfl rfl⟩
theorem fiX11_278 : FLI RX11 278 7 2 := ⟨_, _, _, kc7, by decide, GT_c1 (i := 74) rfl rfl, rfl, by decide +kernel, rfl⟩
theorem flX11_281 : FL RX11 281 7 0 := ⟨_, _, _, kc7, by decide, GT_c1 (i := 62) rfl rfl⟩
theorem fiX11_281 : FLI RX11 281 7 0 := ⟨_, _, _, kc7, by decide, GT_c1 (i := 62) rfl rfl, rfl, by decide +kernel, rfl⟩
theorem flX11_309 : FL RX11 309 7 3 := ⟨_, _, _, kc7, by decide, GT_c1 (i := 79) rfl rfl⟩
theorem fiX11_309 : FLI RX11 309 7 3 := ⟨_, _, _, kc7, by decide, GT_c1 (i := 79) rfl rfl, rfl, by decide +kernel, rfl⟩
theorem flX11_335 : FL RX11 335 4 3 := ⟨_, _, _, kc4, by decide, GT_c2 (i := 107) rfl rfl⟩
theorem fiX11_335 : FLI RX11 335 4 3 := ⟨_, _, _, kc4, by decide, GT_c2 (i := 107) rfl rfl, rfl, by decide +kernel, rfl⟩
theorem flX11_338 : FL RX11 338 4 2 := ⟨_, _, _, kc4, by decide, GT_c2 (i := 105) rfl rfl⟩
theorem flX11_355 : FL RX11 355 2 0 := ⟨_, _, _, kc2, by decide, GT_c5 (i := 227) rfl rfl⟩
theorem flX11_356 : FL RX11 356 2 1 := ⟨_, _, _, kc2, by decide, GT_c5 (i := 229) rfl rfl⟩
theorem flX0_9 : FL RX0 9 0 3 := ⟨_, _, _, kc0, by decide, GT_c2 (i := 73) rfl rfl⟩
theorem flX0_15 : FL RX0 15 0 4 := ⟨_, _, _, kc0, by decide, GT_c2 (i := 74) rfl rfl⟩
theorem flX0_18 : FL RX0 18 0 5 := ⟨_, _, _, kc0, by decide, GT_c2 (i := 75) rfl rfl⟩
theorem flX0_21 : FL RX0 21 0 0 := ⟨_, _, _, kc0, by decide, GT_c2 (i := 70) rfl rfl⟩
theorem flX0_25 : FL RX0 25 0 1 := ⟨_, _, _, kc0, by decide, GT_c2 (i := 71) rfl rfl⟩
theorem flX0_29 : FL RX0 29 0 2 := ⟨_, _, _, kc0, by decide, GT_c2 (i := 72) rfl rfl⟩
theorem flX0_42 : FL RX0 42 0 6 := ⟨_, _, _, kc0, by decide, GT_c2 (i := 77) rfl rfl⟩
theorem fiX0_42 : FLI RX0 42 0 6 := ⟨_, _, _, kc0, by decide, GT_c2 (i := 77) rfl rfl, rfl, by decide +kernel, rfl⟩
theorem flX0_46 : FL RX0 46 8 0 := ⟨_, _, _, kc8, by decide, GT_c2 (i := 3) rfl rfl⟩
theorem fiX0_46 : FLI RX0 46 8 0 := ⟨_, _, _, kc8, by decide, GT_c2 (i := 3) rfl rfl, rfl, by decide +kernel, rfl⟩
theorem flX0_51 : FL RX0 51 8 1 := ⟨_, _, _, kc8, by decide, GT_c2 (i := 6) rfl rfl⟩
theorem fiX0_51 : FLI RX0 51 8 1 := ⟨_, _, _, kc8, by decide, GT_c2 (i := 6) rfl rfl, rfl, by decide +kernel, rfl⟩
theorem flX0_64 : FL RX0 64 7 1 := ⟨_, _, _, kc7, by decide, GT_c1 (i := 64) rfl rfl⟩
theorem fiX0_64 : FLI RX0 64 7 1 := ⟨_, _, _, kc7, by decide, GT_c1 (i := 64) rfl rfl, rfl, by decide +kernel, rfl⟩
theorem flX0_73 : FL RX0 73 7 2 := ⟨_, _, _, kc7, by decide, GT_c1 (i := 70) rfl rfl⟩
theorem fiX0_73 : FLI RX0 73 7 2 := ⟨_, _, _, kc7, by decide, GT_c1 (i := 70) rfl rfl, rfl, by decide +kernel, rfl⟩
theorem flX0_77 : FL RX0 77 0 7 := ⟨_, _, _, kc0, by decide, GT_c2 (i := 78) rfl rfl⟩
theorem fiX0_77 : FLI RX0 77 0 7 := ⟨_, _, _, kc0, by decide, GT_c2 (i := 78) rfl rfl, rfl, by decide +kernel, rfl⟩
theorem flX0_90 : FL RX0 90 7 9 := ⟨_, _, _, kc7, by decide, GT_c1 (i := 101) rfl rfl⟩
theorem flX0_93 : FL RX0 93 7 8 := ⟨_, _, _, kc7, by decide, GT_c1 (i := 96) rfl rfl⟩
theorem flX0_96 : FL RX0 96 7 10 := ⟨_, _, _, kc7, by decide, GT_c1 (i := 108) rfl rfl⟩
theorem flX0_99 : FL RX0 99 7 0 := ⟨_, _, _, kc7, by decide, GT_c1 (i := 59) rfl rfl⟩
theorem fiX0_99 : FLI RX0 99 7 0 := ⟨_, _, _, kc7, by decide, GT_c1 (i := 59) rfl rfl, rfl, by decide +kernel, rfl⟩
theorem flX0_121 : FL RX0 121 7 11 := ⟨_, _, _, kc7, by decide, GT_c1 (i := 116) rfl rfl⟩
theorem flX0_124 : FL RX0 124 7 3 := ⟨_, _, _, kc7, by decide, GT_c1 (i := 77) rfl rfl⟩
theorem fiX0_124 : FLI RX0 124 7 3 := ⟨_, _, _, kc7, by decide, GT_c1 (i := 77) rfl rfl, rfl, by decide +kernel, rfl⟩
theorem flX0_127 : FL RX0 127 8 4 := ⟨_, _, _, kc8, by decide, GT_c2 (i := 14) rfl rfl⟩
theorem flX0_130 : FL RX0 130 7 12 := ⟨_, _, _, kc7, by decide, GT_c1 (i := 121) rfl rfl⟩
theorem flX1_11 : FL RX1 11 1 0 := ⟨_, _, _, kc1, by decide, GT_c2 (i := 53) rfl rfl⟩
theorem flX1_18 : FL RX1 18 1 2 := ⟨_, _, _, kc1, by decide, GT_c2 (i := 55) rfl rfl⟩
theorem fiX1_18 : FLI RX1 18 1 2 := ⟨_, _, _, kc1, by decide, GT_c2 (i := 55) rfl rfl, rfl, by decide +kernel, rfl⟩
theorem flX1_22 : FL RX1 22 1 1 := ⟨_, _, _, kc1, by decide, GT_c2 (i := 54) rfl rfl⟩
theorem fiX1_22 : FLI RX1 22 1 1 := ⟨_, _, _, kc1, by decide, GT_c2 (i := 54) rfl rfl, rfl, by decide +kernel, rfl⟩
theorem flX2_10 : FL RX2 10 2 0 := ⟨_, _, _, kc2, by decide, GT_c5 (i := 226) rfl rfl⟩
theorem flX2_19 : FL RX2 19 2 1 := ⟨_, _, _, kc2, by decide, GT_c5 (i := 228) rfl rfl⟩
theorem flX3_9 : FL RX3 9 3 0 := ⟨_, _, _, kc3, by decide, GT_c1 (i := 43) rfl rfl⟩
theorem flX3_15 : FL RX3 15 3 2 := ⟨_, _, _, kc3, by decide, GT_c1 (i := 45) rfl rfl⟩
theorem flX3_18 : FL RX3 18 3 3 := ⟨_, _, _, kc3, by decide, GT_c1 (i := 46) rfl rfl⟩
theorem flX3_21 : FL RX3 21 3 1 := ⟨_, _, _, kc3, by decide, GT_c1 (i := 44) rfl rfl⟩
theorem fiX3_21 : FLI RX3 21 3 1 := ⟨_, _, _, kc3, by decide, GT_c1 (i := 44) rfl rfl, rfl, by decide +kernel, rfl⟩
theorem flX4_9 : FL RX4 9 4 0 := ⟨_, _, _, kc4, by decide, GT_c2 (i := 102) rfl rfl⟩
theorem flX4_15 : FL RX4 15 4 1 := ⟨_, _, _, kc4, by decide, GT_c2 (i := 103) rfl rfl⟩
theorem flX4_18 : FL RX4 18 4 2 := ⟨_, _, _, kc4, by decide, GT_c2 (i := 104) rfl rfl⟩
theorem flX4_21 : FL RX4 21 4 4 := ⟨_, _, _, kc4, by decide, GT_c2 (i := 108) rfl rfl⟩
theorem fiX4_21 : FLI RX4 21 4 4 := ⟨_, _, _, kc4, by decide, GT_c2 (i := 108) rfl rfl, rfl, by decide +kernel, rfl⟩
theorem flX4_26 : FL RX4 26 4 3 := ⟨_, _, _, kc4, by decide, GT_c2 (i := 106) rfl rfl⟩
theorem fiX4_26 : FLI RX4 26 4 3 := ⟨_, _, _, kc4, by decide, GT_c2 (i := 106) rfl rfl, rfl, by decide +kernel, rfl⟩
theorem flX5_12 : FL RX5 12 5 0 := ⟨_, _, _, kc5, by decide, GT_c1 (i := 186) rfl rfl⟩
theorem flX5_21 : FL RX5 21 5 3 := ⟨_, _, _, kc5, by decide, GT_c1 (i := 192) rfl rfl⟩
theorem flX5_32 : FL RX5 32 5 4 := ⟨_, _, _, kc5, by decide, GT_c1 (i := 193) rfl rfl⟩
theorem fiX5_32 : FLI RX5 32 5 4 := ⟨_, _, _, kc5, by decide, GT_c1 (i := 193) rfl rfl, rfl, by decide +kernel, rfl⟩
theorem flX5_36 : FL RX5 36 5 1 := ⟨_, _, _, kc5, by decide, GT_c1 (i := 188) rfl rfl⟩
theorem fiX5_36 : FLI RX5 36 5 1 := ⟨_, _, _, kc5, by decide, GT_c1 (i := 188) rfl rfl, rfl, by decide +kernel, rfl⟩
theorem flX5_39 : FL RX5 39 5 2 := ⟨_, _, _, kc5, by decide, GT_c1 (i := 190) rfl rfl⟩
theorem fiX5_39 : FLI RX5 39 5 2 := ⟨_, _, _, kc5, by decide, GT_c1 (i := 190) rfl rfl, rfl, by decide +kernel, rfl⟩
theorem flX5_57 : FL RX5 57 7 4 := ⟨_, _, _, kc7, by decide, GT_c1 (i := 81) rfl rfl⟩
theorem fiX5_57 : FLI RX5 57 7 4 := ⟨_, _, _, kc7, by decide, GT_c1 (i := 81) rfl rfl, rfl, by decide +kernel, rfl⟩
theorem flX5_60 : FL RX5 60 9 0 := ⟨_, _, _, kc9, by decide, GT_c1 (i := 175) rfl rfl⟩
theorem flX5_63 : FL RX5 63 9 1 := ⟨_, _, _, kc9, by decide, GT_c1 (i := 177) rfl rfl⟩
theorem flX5_75 : FL RX5 75 7 0 := ⟨_, _, _, kc7, by decide, GT_c1 (i := 60) rfl rfl⟩
theorem fiX5_75 : FLI RX5 75 7 0 := ⟨_, _, _, kc7, by decide, GT_c1 (i := 60) rfl rfl, rfl, by decide +kernel, rfl⟩
theorem flX5_96 : FL RX5 96 7 6 := ⟨_, _, _, kc7, by decide, GT_c1 (i := 88) rfl rfl⟩
theorem fiX5_96 : FLI RX5 96 7 6 := ⟨_, _, _, kc7, by decide, GT_c1 (i := 88) rfl rfl, rfl, by decide +kernel, rfl⟩
theorem flX5_99 : FL RX5 99 7 5 := ⟨_, _, _, kc7, by decide, GT_c1 (i := 85) rfl rfl⟩
theorem fiX5_99 : FLI RX5 99 7 5 := ⟨_, _, _, kc7, by decide, GT_c1 (i := 85) rfl rfl, rfl, by decide +kernel, rfl⟩
theorem flX5_102 : FL RX5 102 7 1 := ⟨_, _, _, kc7, by decide, GT_c1 (i := 68) rfl rfl⟩
theorem fiX5_102 : FLI RX5 102 7 1 := ⟨_, _, _, kc7, by decide, GT_c1 (i := 68) rfl rfl, rfl, by decide +kernel, rfl⟩
theorem flX5_105 : FL RX5 105 7 8 := ⟨_, _, _, kc7, by decide, GT_c1 (i := 99) rfl rfl⟩
theorem flX5_108 : FL RX5 108 7 9 := ⟨_, _, _, kc7, by decide, GT_c1 (i := 105) rfl rfl⟩
theorem flX5_111 : FL RX5 111 7 10 := ⟨_, _, _, kc7, by decide, GT_c1 (i := 111) rfl rfl⟩
theorem flX5_114 : FL RX5 114 7 2 := ⟨_, _, _, kc7, by decide, GT_c1 (i := 73) rfl rfl⟩
theorem fiX5_114 : FLI RX5 114 7 2 := ⟨_, _, _, kc7, by decide, GT_c1 (i := 73) rfl rfl, rfl, by decide +kernel, rfl⟩
theorem flX5_117 : FL RX5 117 7 11 := ⟨_, _, _, kc7, by decide, GT_c1 (i := 117) rfl rfl⟩
theorem flX5_120 : FL RX5 120 7 7 := ⟨_, _, _, kc7, by decide, GT_c1 (i := 92) rfl rfl⟩
theorem fiX5_120 : FLI RX5 120 7 7 := ⟨_, _, _, kc7, by decide, GT_c1 (i := 92) rfl rfl, rfl, by decide +kernel, rfl⟩
theorem flX5_123 : FL RX5 123 7 3 := ⟨_, _, _, kc7, by decide, GT_c1 (i := 78) rfl rfl⟩
theorem fiX5_123 : FLI RX5 123 7 3 := ⟨_, _, _, kc7, by decide, GT_c1 (i := 78) rfl rfl, rfl, by decide +kernel, rfl⟩
theorem flX5_126 : FL RX5 126 7 13 := ⟨_, _, _, kc7, by decide, GT_c1 (i := 125) rfl rfl⟩
theorem flX5_129 : FL RX5 129 7 12 := ⟨_, _, _, kc7, by decide, GT_c1 (i := 122) rfl rfl⟩
theorem flX5_132 : FL RX5 132 5 5 := ⟨_, _, _, kc5, by decide, GT_c1 (i := 194) rfl rfl⟩
theorem fiX5_132 : FLI RX5 132 5 5 := ⟨_, _, _, kc5, by decide, GT_c1 (i := 194) rfl rfl, rfl, by decide +kernel, rfl⟩
theorem flX5_135 : FL RX5 135 7 14 := ⟨_, _, _, kc7, by decide, GT_c1 (i := 128) rfl rfl⟩
theorem flX6_9 : FL RX6 9 6 1 := ⟨_, _, _, kc6, by decide, GT_c1 (i := 218) rfl rfl⟩
theorem flX6_15 : FL RX6 15 6 2 := ⟨_, _, _, kc6, by decide, GT_c1 (i := 219) rfl rfl⟩
theorem flX6_18 : FL RX6 18 6 3 := ⟨_, _, _, kc6, by decide, GT_c1 (i := 220) rfl rfl⟩
theorem flX6_21 : FL RX6 21 6 4 := ⟨_, _, _, kc6, by decide, GT_c1 (i := 221) rfl rfl⟩
theorem flX6_24 : FL RX6 24 6 5 := ⟨_, _, _, kc6, by decide, GT_c1 (i := 222) rfl rfl⟩
theorem flX6_27 : FL RX6 27 6 0 := ⟨_, _, _, kc6, by decide, GT_c1 (i := 217) rfl rfl⟩
theorem flX6_41 : FL RX6 41 7 14 := ⟨_, _, _, kc7, by decide, GT_c1 (i := 127) rfl rfl⟩
theorem flX6_70 : FL RX6 70 7 1 := ⟨_, _, _, kc7, by decide, GT_c1 (i := 65) rfl rfl⟩
theorem fiX6_70 : FLI RX6 70 7 1 := ⟨_, _, _, kc7, by decide, GT_c1 (i := 65) rfl rfl, rfl, by decide +kernel, rfl⟩
theorem flX6_74 : FL RX6 74 7 8 := ⟨_, _, _, kc7, by decide, GT_c1 (i := 95) rfl rfl⟩
theorem flX6_77 : FL RX6 77 7 9 := ⟨_, _, _, kc7, by decide, GT_c1 (i := 102) rfl rfl⟩
theorem flX6_80 : FL RX6 80 7 10 := ⟨_, _, _, kc7, by decide, GT_c1 (i := 107) rfl rfl⟩
theorem flX6_83 : FL RX6 83 7 2 := ⟨_, _, _, kc7, by decide, GT_c1 (i := 72) rfl rfl⟩
theorem fiX6_83 : FLI RX6 83 7 2 := ⟨_, _, _, kc7, by decide, GT_c1 (i := 72) rfl rfl, rfl, by decide +kernel, rfl⟩
theorem flX6_86 : FL RX6 86 7 11 := ⟨_, _, _, kc7, by decide, GT_c1 (i := 113) rfl rfl⟩
theorem flX6_89 : FL RX6 89 7 7 := ⟨_, _, _, kc7, by decide, GT_c1 (i := 90) rfl rfl⟩
theorem fiX6_89 : FLI RX6 89 7 7 := ⟨_, _, _, kc7, by decide, GT_c1 (i := 90) rfl rfl, rfl, by decide +kernel, rfl⟩
theorem flX7_9 : FL RX7 9 7 0 := ⟨_, _, _, kc7, by decide, GT_c1 (i := 58) rfl rfl⟩
theorem fiX7_9 : FLI RX7 9 7 0 := ⟨_, _, _, kc7, by decide, GT_c1 (i := 58) rfl rfl, rfl, by decide +kernel, rfl⟩
theorem flX7_15 : FL RX7 15 7 8 := ⟨_, _, _, kc7, by decide, GT_c1 (i := 94) rfl rfl⟩
theorem flX7_19 : FL RX7 19 7 9 := ⟨_, _, _, kc7, by decide, GT_c1 (i := 100) rfl rfl⟩
theorem flX7_22 : FL RX7 22 7 10 := ⟨_, _, _, kc7, by decide, GT_c1 (i := 106) rfl rfl⟩
theorem flX7_25 : FL RX7 25 7 11 := ⟨_, _, _, kc7, by decide, GT_c1 (i := 112) rfl rfl⟩
theorem flX7_28 : FL RX7 28 7 12 := ⟨_, _, _, kc7, by decide, GT_c1 (i := 118) rfl rfl⟩
theorem flX7_31 : FL RX7 31 7 13 := ⟨_, _, _, kc7, by decide, GT_c1 (i := 123) rfl rfl⟩
theorem flX7_37 : FL RX7 37 7 14 := ⟨_, _, _, kc7, by decide, GT_c1 (i := 126) rfl rfl⟩
theorem flX7_41 : FL RX7 41 7 1 := ⟨_, _, _, kc7, by decide, GT_c1 (i := 63) rfl rfl⟩
theorem fiX7_41 : FLI RX7 41 7 1 := ⟨_, _, _, kc7, by decide, GT_c1 (i := 63) rfl rfl, rfl, by decide +kernel, rfl⟩
theorem flX7_44 : FL RX7 44 7 2 := ⟨_, _, _, kc7, by decide, GT_c1 (i := 69) rfl rfl⟩
theorem fiX7_44 : FLI RX7 44 7 2 := ⟨_, _, _, kc7, by decide, GT_c1 (i := 69) rfl rfl, rfl, by decide +kernel, rfl⟩
theorem flX7_47 : FL RX7 47 7 3 := ⟨_, _, _, kc7, by decide, GT_c1 (i := 75) rfl rfl⟩
theorem fiX7_47 : FLI RX7 47 7 3 := ⟨_, _, _, kc7, by decide, GT_c1 (i := 75) rfl rfl, rfl, by decide +kernel, rfl⟩
theorem flX7_50 : FL RX7 50 7 4 := ⟨_, _, _, kc7, by decide, GT_c1 (i := 80) rfl rfl⟩
theorem fiX7_50 : FLI RX7 50 7 4 := ⟨_, _, _, kc7, by decide, GT_c1 (i := 80) rfl rfl, rfl, by decide +kernel, rfl⟩
theorem flX7_53 : FL RX7 53 7 5 := ⟨_, _, _, kc7, by decide, GT_c1 (i := 84) rfl rfl⟩
theorem fiX7_53 : FLI RX7 53 7 5 := ⟨_, _, _, kc7, by decide, GT_c1 (i := 84) rfl rfl, rfl, by decide +kernel, rfl⟩
theorem flX7_56 : FL RX7 56 7 6 := ⟨_, _, _, kc7, by decide, GT_c1 (i := 87) rfl rfl⟩
theorem fiX7_56 : FLI RX7 56 7 6 := ⟨_, _, _, kc7, by decide, GT_c1 (i := 87) rfl rfl, rfl, by decide +kernel, rfl⟩
theorem flX7_59 : FL RX7 59 7 7 := ⟨_, _, _, kc7, by decide, GT_c1 (i := 89) rfl rfl⟩
theorem fiX7_59 : FLI RX7 59 7 7 := ⟨_, _, _, kc7, by decide, GT_c1 (i := 89) rfl rfl, rfl, by decide +kernel, rfl⟩
theorem flX8_9 : FL RX8 9 8 4 := ⟨_, _, _, kc8, by decide, GT_c2 (i := 12) rfl rfl⟩
theorem flX8_15 : FL RX8 15 8 5 := ⟨_, _, _, kc8, by decide, GT_c2 (i := 15) rfl rfl⟩
theorem flX8_18 : FL RX8 18 8 6 := ⟨_, _, _, kc8, by decide, GT_c2 (i := 17) rfl rfl⟩
theorem flX8_21 : FL RX8 21 8 7 := ⟨_, _, _, kc8, by decide, GT_c2 (i := 18) rfl rfl⟩
theorem flX8_24 : FL RX8 24 8 8 := ⟨_, _, _, kc8, by decide, GT_c2 (i := 20) rfl rfl⟩
theorem flX8_27 : FL RX8 27 8 9 := ⟨_, _, _, kc8, by decide, GT_c2 (i := 21) rfl rfl⟩
theorem flX8_30 : FL RX8 30 7 5 := ⟨_, _, _, kc7, by decide, GT_c1 (i := 83) rfl rfl⟩
theorem fiX8_30 : FLI RX8 30 7 5 := ⟨_, _, _, kc7, by decide, GT_c1 (i := 83) rfl rfl, rfl, by decide +kernel, rfl⟩
theorem flX8_36 : FL RX8 36 8 0 := ⟨_, _, _, kc8, by decide, GT_c2 (i := 2) rfl rfl⟩
theorem fiX8_36 : FLI RX8 36 8 0 := ⟨_, _, _, kc8, by decide, GT_c2 (i := 2) rfl rfl, rfl, by decide +kernel, rfl⟩
theorem flX8_39 : FL RX8 39 7 6 := ⟨_, _, _, kc7, by decide, GT_c1 (i := 86) rfl rfl⟩
theorem fiX8_39 : FLI RX8 39 7 6 := ⟨_, _, _, kc7, by decide, GT_c1 (i := 86) rfl rfl, rfl, by decide +kernel, rfl⟩
theorem flX8_42 : FL RX8 42 8 1 := ⟨_, _, _, kc8, by decide, GT_c2 (i := 5) rfl rfl⟩
theorem fiX8_42 : FLI RX8 42 8 1 := ⟨_, _, _, kc8, by decide, GT_c2 (i := 5) rfl rfl, rfl, by decide +kernel, rfl⟩
theorem flX8_45 : FL RX8 45 8 2 := ⟨_, _, _, kc8, by decide, GT_c2 (i := 8) rfl rfl⟩
theorem fiX8_45 : FLI RX8 45 8 2 := ⟨_, _, _, kc8, by decide, GT_c2 (i := 8) rfl rfl, rfl, by decide +kernel, rfl⟩
theorem flX8_48 : FL RX8 48 8 3 := ⟨_, _, _, kc8, by decide, GT_c2 (i := 10) rfl rfl⟩
theorem fiX8_48 : FLI RX8 48 8 3 := ⟨_, _, _, kc8, by decide, GT_c2 (i := 10) rfl rfl, rfl, by decide +kernel, rfl⟩
theorem flX8_51 : FL RX8 51 7 13 := ⟨_, _, _, kc7, by decide, GT_c1 (i := 124) rfl rfl⟩
theorem flX8_86 : FL RX8 86 7 2 := ⟨_, _, _, kc7, by decide, GT_c1 (i := 71) rfl rfl⟩
theorem fiX8_86 : FLI RX8 86 7 2 := ⟨_, _, _, kc7, by decide, GT_c1 (i := 71) rfl rfl, rfl, by decide +kernel, rfl⟩
theorem flX8_106 : FL RX8 106 7 1 := ⟨_, _, _, kc7, by decide, GT_c1 (i := 67) rfl rfl⟩
theorem fiX8_106 : FLI RX8 106 7 1 := ⟨_, _, _, kc7, by decide, GT_c1 (i := 67) rfl rfl, rfl, by decide +kernel, rfl⟩
theorem flX8_109 : FL RX8 109 7 8 := ⟨_, _, _, kc7, by decide, GT_c1 (i := 97) rfl rfl⟩
theorem flX8_112 : FL RX8 112 7 10 := ⟨_, _, _, kc7, by decide, GT_c1 (i := 110) rfl rfl⟩
theorem flX8_115 : FL RX8 115 7 9 := ⟨_, _, _, kc7, by decide, GT_c1 (i := 104) rfl rfl⟩
theorem flX8_118 : FL RX8 118 7 11 := ⟨_, _, _, kc7, by decide, GT_c1 (i := 115) rfl rfl⟩
theorem flX8_121 : FL RX8 121 7 3 := ⟨_, _, _, kc7, by decide, GT_c1 (i := 76) rfl rfl⟩
theorem fiX8_121 : FLI RX8 121 7 3 := ⟨_, _, _, kc7, by decide, GT_c1 (i := 76) rfl rfl, rfl, by decide +kernel, rfl⟩
theorem flX8_124 : FL RX8 124 7 12 := ⟨_, _, _, kc7, by decide, GT_c1 (i := 120) rfl rfl⟩
theorem flX8_146 : FL RX8 146 7 0 := ⟨_, _, _, kc7, by decide, GT_c1 (i := 61) rfl rfl⟩
theorem fiX8_146 : FLI RX8 146 7 0 := ⟨_, _, _, kc7, by decide, GT_c1 (i := 61) rfl rfl, rfl, by decide +kernel, rfl⟩
theorem flX8_149 : FL RX8 149 10 1 := ⟨_, _, _, kc10, by decide, GT_c2 (i := 131) rfl rfl⟩
theorem fiX8_149 : FLI RX8 149 10 1 := ⟨_, _, _, kc10, by decide, GT_c2 (i := 131) rfl rfl, rfl, by decide +kernel, rfl⟩
theorem flX8_154 : FL RX8 154 10 0 := ⟨_, _, _, kc10, by decide, GT_c2 (i := 128) rfl rfl⟩
theorem flX8_167 : FL RX8 167 7 7 := ⟨_, _, _, kc7, by decide, GT_c1 (i := 93) rfl rfl⟩
theorem fiX8_167 : FLI RX8 167 7 7 := ⟨_, _, _, kc7, by decide, GT_c1 (i := 93) rfl rfl, rfl, by decide +kernel, rfl⟩
theorem flX9_9 : FL RX9 9 9 0 := ⟨_, _, _, kc9, by decide, GT_c1 (i := 174) rfl rfl⟩
theorem flX9_15 : FL RX9 15 9 1 := ⟨_, _, _, kc9, by decide, GT_c1 (i := 176) rfl rfl⟩
theorem flX9_18 : FL RX9 18 9 2 := ⟨_, _, _, kc9, by decide, GT_c1 (i := 178) rfl rfl⟩
theorem fiX9_18 : FLI RX9 18 9 2 := ⟨_, _, _, kc9, by decide, GT_c1 (i := 178) rfl rfl, rfl, by decide +kernel, rfl⟩
theorem flX10_9 : FL RX10 9 10 0 := ⟨_, _, _, kc10, by decide, GT_c2 (i := 127) rfl rfl⟩
theorem flX10_15 : FL RX10 15 10 1 := ⟨_, _, _, kc10, by decide, GT_c2 (i := 130) rfl rfl⟩
theorem fiX10_15 : FLI RX10 15 10 1 := ⟨_, _, _, kc10, by decide, GT_c2 (i := 130) rfl rfl, rfl, by decide +kernel, rfl⟩
theorem flX10_19 : FL RX10 19 10 2 := ⟨_, _, _, kc10, by decide, GT_c2 (i := 133) rfl rfl⟩
theorem fiX10_19 : FLI RX10 19 10 2 := ⟨_, _, _, kc10, by decide, GT_c2 (i := 133) rfl rfl, rfl, by decide +kernel, rfl⟩
theorem flX12_1 : FL RX12 1 12 0 := ⟨_, _, _, kc12, by decide, GT_c6 (i := 12) rfl rfl⟩
theorem fiX12_1 : FLI RX12 1 12 0 := ⟨_, _, _, kc12, by decide, GT_c6 (i := 12) rfl rfl, rfl, by decide +kernel, rfl⟩
theorem flX12_13 : FL RX12 13 12 1 := ⟨_, _, _, kc12, by decide, GT_c6 (i := 13) rfl rfl⟩
theorem flX12_17 : FL RX12 17 12 2 := ⟨_, _, _, kc12, by decide, GT_c6 (i := 14) rfl rfl⟩
theorem flX12_21 : FL RX12 21 12 3 := ⟨_, _, _, kc12, by decide, GT_c6 (i := 15) rfl rfl⟩
theorem flX12_24 : FL RX12 24 12 4 := ⟨_, _, _, kc12, by decide, GT_c6 (i := 16) rfl rfl⟩
theorem flX12_27 : FL RX12 27 12 14 := ⟨_, _, _, kc12, by decide, GT_c6 (i := 26) rfl rfl⟩
theorem fiX12_27 : FLI RX12 27 12 14 := ⟨_, _, _, kc12, by decide, GT_c6 (i := 26) rfl rfl, rfl, by decide +kernel, rfl⟩
theorem flX12_30 : FL RX12 30 12 16 := ⟨_, _, _, kc12, by decide, GT_c6 (i := 28) rfl rfl⟩
theorem flX12_33 : FL RX12 33 12 17 := ⟨_, _, _, kc12, by decide, GT_c6 (i := 29) rfl rfl⟩
theorem flX12_36 : FL RX12 36 12 18 := ⟨_, _, _, kc12, by decide, GT_c6 (i := 30) rfl rfl⟩
theorem flX12_39 : FL RX12 39 12 21 := ⟨_, _, _, kc12, by decide, GT_c6 (i := 33) rfl rfl⟩
theorem flX12_42 : FL RX12 42 12 22 := ⟨_, _, _, kc12, by decide, GT_c6 (i := 34) rfl rfl⟩
theorem flX12_45 : FL RX12 45 12 23 := ⟨_, _, _, kc12, by decide, GT_c6 (i := 35) rfl rfl⟩
theorem flX12_48 : FL RX12 48 12 24 := ⟨_, _, _, kc12, by decide, GT_c6 (i := 36) rfl rfl⟩
theorem flX12_51 : FL RX12 51 12 25 := ⟨_, _, _, kc12, by decide, GT_c6 (i := 37) rfl rfl⟩
theorem flX12_54 : FL RX12 54 12 27 := ⟨_, _, _, kc12, by decide, GT_c6 (i := 39) rfl rfl⟩
theorem flX12_57 : FL RX12 57 12 28 := ⟨_, _, _, kc12, by decide, GT_c6 (i := 40) rfl rfl⟩
theorem flX12_60 : FL RX12 60 12 29 := ⟨_, _, _, kc12, by decide, GT_c6 (i := 41) rfl rfl⟩
theorem flX12_68 : FL RX12 68 12 5 := ⟨_, _, _, kc12, by decide, GT_c6 (i := 17) rfl rfl⟩
theorem fiX12_68 : FLI RX12 68 12 5 := ⟨_, _, _, kc12, by decide, GT_c6 (i := 17) rfl rfl, rfl, by decide +kernel, rfl⟩
theorem flX12_71 : FL RX12 71 12 8 := ⟨_, _, _, kc12, by decide, GT_c6 (i := 20) rfl rfl⟩
theorem fiX12_71 : FLI RX12 71 12 8 := ⟨_, _, _, kc12, by decide, GT_c6 (i := 20) rfl rfl, rfl, by decide +kernel, rfl⟩
theorem flX12_86 : FL RX12 86 12 6 := ⟨_, _, _, kc12, by decide, GT_c6 (i := 18) rfl rfl⟩
theorem fiX12_86 : FLI RX12 86 12 6 := ⟨_, _, _, kc12, by decide, GT_c6 (i := 18) rfl rfl, rfl, by decide +kernel, rfl⟩
theorem flX12_89 : FL RX12 89 12 7 := ⟨_, _, _, kc12, by decide, GT_c6 (i := 19) rfl rfl⟩
theorem fiX12_89 : FLI RX12 89 12 7 := ⟨_, _, _, kc12, by decide, GT_c6 (i := 19) rfl rfl, rfl, by decide +kernel, rfl⟩
theorem flX12_96 : FL RX12 96 12 9 := ⟨_, _, _, kc12, by decide, GT_c6 (i := 21) rfl rfl⟩
theorem fiX12_96 : FLI RX12 96 12 9 := ⟨_, _, _, kc12, by decide, GT_c6 (i := 21) rfl rfl, rfl, by decide +kernel, rfl⟩
theorem flX12_109 : FL RX12 109 12 10 := ⟨_, _, _, kc12, by decide, GT_c6 (i := 22) rfl rfl⟩
theorem fiX12_109 : FLI RX12 109 12 10 := ⟨_, _, _, kc12, by decide, GT_c6 (i := 22) rfl rfl, rfl, by decide +kernel, rfl⟩
theorem flX12_114 : FL RX12 114 12 11 := ⟨_, _, _, kc12, by decide, GT_c6 (i := 23) rfl rfl⟩
theorem fiX12_114 : FLI RX12 114 12 11 := ⟨_, _, _, kc12, by decide, GT_c6 (i := 23) rfl rfl, rfl, by decide +kernel, rfl⟩
theorem flX12_117 : FL RX12 117 12 12 := ⟨_, _, _, kc12, by decide, GT_c6 (i := 24) rfl rfl⟩
theorem fiX12_117 : FLI RX12 117 12 12 := ⟨_, _, _, kc12, by decide, GT_c6 (i := 24) rfl rfl, rfl, by decide +kernel, rfl⟩
theorem flX12_134 : FL RX12 134 12 15 := ⟨_, _, _, kc12, by decide, GT_c6 (i := 27) rfl rfl⟩
theorem fiX12_134 : FLI RX12 134 12 15 := ⟨_, _, _, kc12, by decide, GT_c6 (i := 27) rfl rfl, rfl, by decide +kernel, rfl⟩
theorem flX12_193 : FL RX12 193 12 13 := ⟨_, _, _, kc12, by decide, GT_c6 (i := 25) rfl rfl⟩
theorem fiX12_193 : FLI RX12 193 12 13 := ⟨_, _, _, kc12, by decide, GT_c6 (i := 25) rfl rfl, rfl, by decide +kernel, rfl⟩
theorem flX12_252 : FL RX12 252 12 19 := ⟨_, _, _, kc12, by decide, GT_c6 (i := 31) rfl rfl⟩
theorem fiX12_252 : FLI RX12 252 12 19 := ⟨_, _, _, kc12, by decide, GT_c6 (i := 31) rfl rfl, rfl, by decide +kernel, rfl⟩
theorem flX12_304 : FL RX12 304 12 20 := ⟨_, _, _, kc12, by decide, GT_c6 (i := 32) rfl rfl⟩
theorem fiX12_304 : FLI RX12 304 12 20 := ⟨_, _, _, kc12, by decide, GT_c6 (i := 32) rfl rfl, rfl, by decide +kernel, rfl⟩
theorem flX12_403 : FL RX12 403 12 26 := ⟨_, _, _, kc12, by decide, GT_c6 (i := 38) rfl rfl⟩
theorem fiX12_403 : FLI RX12 403 12 26 := ⟨_, _, _, kc12, by decide, GT_c6 (i := 38) rfl rfl, rfl, by decide +kernel, rfl⟩
theorem pd0 : (parseMethodDescriptor "()B").map (fun d => d.parameters.length) = some 0 := by decide +kernel
theorem pd1 : (parseMethodDescriptor "()I").map (fun d => d.parameters.length) = some 0 := by decide +kernel
theorem pd2 : (parseMethodDescriptor "()V").map (fun d => d.parameters.length) = some 0 := by decide +kernel
theorem pd3 : (parseMethodDescriptor "()Z").map (fun d => d.parameters.length) = some 0 := by decide +kernel
theorem pd4 : (parseMethodDescriptor "(I)C").map (fun d => d.parameters.length) = some 1 := by decide +kernel
theorem pd5 : (parseMethodDescriptor "(I)I").map (fun d => d.parameters.length) = some 1 := by decide +kernel
theorem pd6 : (parseMethodDescriptor "(I)V").map (fun d => d.parameters.length) = some 1 := by decide +kernel
theorem pd7 : (parseMethodDescriptor "(I)Z").map (fun d => d.parameters.length) = some 1 := by decide +kernel
theorem pd8 : (parseMethodDescriptor "(II)I").map (fun d => d.parameters.length) = some 2 := by decide +kernel
theorem pd9 : (parseMethodDescriptor "(II)V").map (fun d => d.parameters.length) = some 2 := by decide +kernel
theorem pd10 : (parseMethodDescriptor "(II)Z").map (fun d => d.parameters.length) = some 2 := by decide +kernel
theorem pd11 : (parseMethodDescriptor "(III)I").map (fun d => d.parameters.length) = some 3 := by decide +kernel
theorem pd12 : (parseMethodDescriptor "(III)V").map (fun d => d.parameters.length) = some 3 := by decide +kernel
theorem pd13 : (parseMethodDescriptor "(III)Z").map (fun d => d.parameters.length) = some 3 := by decide +kernel
theorem pd14 : (parseMethodDescriptor "(IIII)I").map (fun d => d.parameters.length) = some 4 := by decide +kernel
theorem pd15 : (parseMethodDescriptor "(IIIII)I").map (fun d => d.parameters.length) = some 5 := by decide +kernel
theorem pd16 : (parseMethodDescriptor "(IIIIZ)I").map (fun d => d.parameters.length) = some 5 := by decide +kernel
theorem pd17 : (parseMethodDescriptor "(IIILjava/util/function/BiFunction;)I").map (fun d => d.parameters.length) = some 4 := by decide +kernel
theorem pd18 : (parseMethodDescriptor "(IIIZ)I").map (fun d => d.parameters.length) = some 4 := by decide +kernel
theorem pd19 : (parseMethodDescriptor "(IIIZ)V").map (fun d => d.parameters.length) = some 4 := by decide +kernel
theorem pd20 : (parseMethodDescriptor "(IIIZI)Z").map (fun d => d.parameters.length) = some 5 := by decide +kernel
theorem pd21 : (parseMethodDescriptor "(IIJ)J").map (fun d => d.parameters.length) = some 3 := by decide +kernel
theorem pd22 : (parseMethodDescriptor "(IILHallShells$Sea;)I").map (fun d => d.parameters.length) = some 3 := by decide +kernel
theorem pd23 : (parseMethodDescriptor "(IILjava/util/function/BiFunction;)I").map (fun d => d.parameters.length) = some 3 := by decide +kernel
theorem pd24 : (parseMethodDescriptor "(IIZ)I").map (fun d => d.parameters.length) = some 3 := by decide +kernel
theorem pd25 : (parseMethodDescriptor "(II[B)V").map (fun d => d.parameters.length) = some 3 := by decide +kernel
theorem pd26 : (parseMethodDescriptor "(IJ)J").map (fun d => d.parameters.length) = some 2 := by decide +kernel
theorem pd27 : (parseMethodDescriptor "(IJJ)I").map (fun d => d.parameters.length) = some 3 := by decide +kernel
theorem pd28 : (parseMethodDescriptor "(ILHallShells$Sea;)I").map (fun d => d.parameters.length) = some 2 := by decide +kernel
theorem pd29 : (parseMethodDescriptor "(IZ)I").map (fun d => d.parameters.length) = some 2 := by decide +kernel
theorem pd30 : (parseMethodDescriptor "(IZ)V").map (fun d => d.parameters.length) = some 2 := by decide +kernel
theorem pd31 : (parseMethodDescriptor "(IZI)I").map (fun d => d.parameters.length) = some 3 := by decide +kernel
theorem pd32 : (parseMethodDescriptor "(IZI)V").map (fun d => d.parameters.length) = some 3 := by decide +kernel
theorem pd33 : (parseMethodDescriptor "(I[B)V").map (fun d => d.parameters.length) = some 2 := by decide +kernel
theorem pd34 : (parseMethodDescriptor "(I[I[I)I").map (fun d => d.parameters.length) = some 3 := by decide +kernel
theorem pd35 : (parseMethodDescriptor "(J)I").map (fun d => d.parameters.length) = some 1 := by decide +kernel
theorem pd36 : (parseMethodDescriptor "(J)J").map (fun d => d.parameters.length) = some 1 := by decide +kernel
theorem pd37 : (parseMethodDescriptor "(J)Z").map (fun d => d.parameters.length) = some 1 := by decide +kernel
theorem pd38 : (parseMethodDescriptor "(JI)J").map (fun d => d.parameters.length) = some 2 := by decide +kernel
theorem pd39 : (parseMethodDescriptor "(JI)Z").map (fun d => d.parameters.length) = some 2 := by decide +kernel
theorem pd40 : (parseMethodDescriptor "(JJ)J").map (fun d => d.parameters.length) = some 2 := by decide +kernel
theorem pd41 : (parseMethodDescriptor "(JJJ)Z").map (fun d => d.parameters.length) = some 3 := by decide +kernel
theorem pd42 : (parseMethodDescriptor "(JLHallShells$Sea;LHallShells$Rules;)I").map (fun d => d.parameters.length) = some 3 := by decide +kernel
theorem pd43 : (parseMethodDescriptor "(LHallShells$Laws;)V").map (fun d => d.parameters.length) = some 1 := by decide +kernel
theorem pd44 : (parseMethodDescriptor "(LHallShells$Sea;)I").map (fun d => d.parameters.length) = some 1 := by decide +kernel
theorem pd45 : (parseMethodDescriptor "(LHallShells$Sea;)V").map (fun d => d.parameters.length) = some 1 := by decide +kernel
theorem pd46 : (parseMethodDescriptor "(LHallShells$Sea;I)I").map (fun d => d.parameters.length) = some 2 := by decide +kernel
theorem pd47 : (parseMethodDescriptor "(LHallShells$Sea;I)V").map (fun d => d.parameters.length) = some 2 := by decide +kernel
theorem pd48 : (parseMethodDescriptor "(LHallShells$Sea;LHallShells$Rules;)I").map (fun d => d.parameters.length) = some 2 := by decide +kernel
theorem pd49 : (parseMethodDescriptor "(LHallShells$Sea;LHallShells$Rules;)Z").map (fun d => d.parameters.length) = some 2 := by decide +kernel
theorem pd50 : (parseMethodDescriptor "(LHallShells$Sea;LHallShells$Rules;LHallShells$State;)V").map (fun d => d.parameters.length) = some 3 := by decide +kernel
theorem pd51 : (parseMethodDescriptor "(LHallShells$State;)V").map (fun d => d.parameters.length) = some 1 := by decide +kernel
theorem pd52 : (parseMethodDescriptor "(LHallShells$State;I)V").map (fun d => d.parameters.length) = some 2 := by decide +kernel
theorem pd53 : (parseMethodDescriptor "(LHallShells$Tray;)I").map (fun d => d.parameters.length) = some 1 := by decide +kernel
theorem pd54 : (parseMethodDescriptor "(LHallShells$Tray;I)I").map (fun d => d.parameters.length) = some 2 := by decide +kernel
theorem pd55 : (parseMethodDescriptor "(LHallShells$Tray;LHallShells$Sea;LHallShells$Rules;)I").map (fun d => d.parameters.length) = some 3 := by decide +kernel
theorem pd56 : (parseMethodDescriptor "([B)I").map (fun d => d.parameters.length) = some 1 := by decide +kernel
theorem pd57 : (parseMethodDescriptor "([BI)C").map (fun d => d.parameters.length) = some 2 := by decide +kernel
theorem pd58 : (parseMethodDescriptor "([BI)V").map (fun d => d.parameters.length) = some 2 := by decide +kernel
theorem pd59 : (parseMethodDescriptor "([BI)Z").map (fun d => d.parameters.length) = some 2 := by decide +kernel
theorem pd60 : (parseMethodDescriptor "([BII)I").map (fun d => d.parameters.length) = some 3 := by decide +kernel
theorem pd61 : (parseMethodDescriptor "([BIII)I").map (fun d => d.parameters.length) = some 4 := by decide +kernel
theorem pd62 : (parseMethodDescriptor "([I)V").map (fun d => d.parameters.length) = some 1 := by decide +kernel
theorem pd63 : (parseMethodDescriptor "([II)V").map (fun d => d.parameters.length) = some 2 := by decide +kernel
theorem pd64 : (parseMethodDescriptor "([IIIZ)V").map (fun d => d.parameters.length) = some 4 := by decide +kernel
theorem pd65 : (parseMethodDescriptor "([JJ)V").map (fun d => d.parameters.length) = some 2 := by decide +kernel
theorem pn0 : "HallShells" ≠ "java/lang/invoke/MethodHandle" ∧ "HallShells" ≠ "java/lang/invoke/VarHandle" := by decide +kernel
theorem pn1 : "HallShells$Calls" ≠ "java/lang/invoke/MethodHandle" ∧ "HallShells$Calls" ≠ "java/lang/invoke/VarHandle" := by decide +kernel
theorem pn2 : "HallShells$History" ≠ "java/lang/invoke/MethodHandle" ∧ "HallShells$History" ≠ "java/lang/invoke/VarHandle" := by decide +kernel
theorem pn3 : "HallShells$Image" ≠ "java/lang/invoke/MethodHandle" ∧ "HallShells$Image" ≠ "java/lang/invoke/VarHandle" := by decide +kernel
theorem pn4 : "HallShells$Laws" ≠ "java/lang/invoke/MethodHandle" ∧ "HallShells$Laws" ≠ "java/lang/invoke/VarHandle" := by decide +kernel
theorem pn5 : "HallShells$Pairing" ≠ "java/lang/invoke/MethodHandle" ∧ "HallShells$Pairing" ≠ "java/lang/invoke/VarHandle" := by decide +kernel
theorem pn6 : "HallShells$Reader" ≠ "java/lang/invoke/MethodHandle" ∧ "HallShells$Reader" ≠ "java/lang/invoke/VarHandle" := by decide +kernel
theorem pn7 : "HallShells$Rules" ≠ "java/lang/invoke/MethodHandle" ∧ "HallShells$Rules" ≠ "java/lang/invoke/VarHandle" := by decide +kernel
theorem pn8 : "HallShells$Sea" ≠ "java/lang/invoke/MethodHandle" ∧ "HallShells$Sea" ≠ "java/lang/invoke/VarHandle" := by decide +kernel
theorem pn9 : "HallShells$State" ≠ "java/lang/invoke/MethodHandle" ∧ "HallShells$State" ≠ "java/lang/invoke/VarHandle" := by decide +kernel
theorem pn10 : "HallShells$Tokens" ≠ "java/lang/invoke/MethodHandle" ∧ "HallShells$Tokens" ≠ "java/lang/invoke/VarHandle" := by decide +kernel
theorem pn11 : "HallShells$Tray" ≠ "java/lang/invoke/MethodHandle" ∧ "HallShells$Tray" ≠ "java/lang/invoke/VarHandle" := by decide +kernel
theorem pn12 : "HallShellsModel" ≠ "java/lang/invoke/MethodHandle" ∧ "HallShellsModel" ≠ "java/lang/invoke/VarHandle" := by decide +kernel
theorem pn13 : "java/lang/Character" ≠ "java/lang/invoke/MethodHandle" ∧ "java/lang/Character" ≠ "java/lang/invoke/VarHandle" := by decide +kernel
theorem pn14 : "java/lang/Integer" ≠ "java/lang/invoke/MethodHandle" ∧ "java/lang/Integer" ≠ "java/lang/invoke/VarHandle" := by decide +kernel
theorem pn15 : "java/lang/Math" ≠ "java/lang/invoke/MethodHandle" ∧ "java/lang/Math" ≠ "java/lang/invoke/VarHandle" := by decide +kernel
theorem pn16 : "java/lang/String" ≠ "java/lang/invoke/MethodHandle" ∧ "java/lang/String" ≠ "java/lang/invoke/VarHandle" := by decide +kernel
theorem pn17 : "java/lang/StringLatin1" ≠ "java/lang/invoke/MethodHandle" ∧ "java/lang/StringLatin1" ≠ "java/lang/invoke/VarHandle" := by decide +kernel
theorem pn18 : "java/lang/StringUTF16" ≠ "java/lang/invoke/MethodHandle" ∧ "java/lang/StringUTF16" ≠ "java/lang/invoke/VarHandle" := by decide +kernel
theorem pn19 : "java/util/Arrays" ≠ "java/lang/invoke/MethodHandle" ∧ "java/util/Arrays" ≠ "java/lang/invoke/VarHandle" := by decide +kernel
theorem pn20 : "jdk/internal/util/Preconditions" ≠ "java/lang/invoke/MethodHandle" ∧ "jdk/internal/util/Preconditions" ≠ "java/lang/invoke/VarHandle" := by decide +kernel
theorem wcX6_init : Cond.code yX6_init cX6_init 2 none ∈ GT := GT_c1 (i := 212) rfl rfl
theorem wiX6_init : Cond.initialized yX6_init.cls ∈ GT := GT_c1 (i := 6) rfl rfl
theorem wdX6_init : yX6_init.cls ≠ "java/lang/invoke/MethodHandle" ∧ yX6_init.cls ≠ "java/lang/invoke/VarHandle" ∧ (parseMethodDescriptor yX6_init.desc).map (fun d => d.parameters.length) = some 1 := ⟨pn7.1, pn7.2, pd45⟩
theorem wmX6_init : Cond.instanceMethod yX6_init ∈ GT := GT_c1 (i := 211) rfl rfl
theorem mlX11_39 : Cond.methodLink RX11 39 yX6_init ∈ GT := GT_c1 (i := 210) rfl rfl
theorem wcX1_init : Cond.code yX1_init cX1_init 2 none ∈ GT := GT_c2 (i := 48) rfl rfl
theorem wiX1_init : Cond.initialized yX1_init.cls ∈ GT := GT_c1 (i := 9) rfl rfl
theorem wdX1_init : yX1_init.cls ≠ "java/lang/invoke/MethodHandle" ∧ yX1_init.cls ≠ "java/lang/invoke/VarHandle" ∧ (parseMethodDescriptor yX1_init.desc).map (fun d => d.parameters.length) = some 0 := ⟨pn2.1, pn2.2, pd2⟩
theorem wmX1_init : Cond.instanceMethod yX1_init ∈ GT := GT_c2 (i := 47) rfl rfl
theorem mlX11_58 : Cond.methodLink RX11 58 yX1_init ∈ GT := GT_c2 (i := 46) rfl rfl
theorem wcX0_init : Cond.code yX0_init cX0_init 4 none ∈ GT := GT_c2 (i := 68) rfl rfl
theorem wiX0_init : Cond.initialized yX0_init.cls ∈ GT := GT_c1 (i := 10) rfl rfl
theorem wdX0_init : yX0_init.cls ≠ "java/lang/invoke/MethodHandle" ∧ yX0_init.cls ≠ "java/lang/invoke/VarHandle" ∧ (parseMethodDescriptor yX0_init.desc).map (fun d => d.parameters.length) = some 3 := ⟨pn1.1, pn1.2, pd50⟩
theorem wmX0_init : Cond.instanceMethod yX0_init ∈ GT := GT_c2 (i := 67) rfl rfl
theorem mlX11_65 : Cond.methodLink RX11 65 yX0_init ∈ GT := GT_c2 (i := 66) rfl rfl
theorem wcX11_putOnTape : Cond.code yX11_putOnTape cX11_putOnTape 3 none ∈ GT := GT_c2 (i := 197) rfl rfl
theorem wiX11_putOnTape : Cond.initialized yX11_putOnTape.cls ∈ GT := GT_c1 (i := 1) rfl rfl
theorem wdX11_putOnTape : yX11_putOnTape.cls ≠ "java/lang/invoke/MethodHandle" ∧ yX11_putOnTape.cls ≠ "java/lang/invoke/VarHandle" ∧ (parseMethodDescriptor yX11_putOnTape.desc).map (fun d => d.parameters.length) = some 1 := ⟨pn0.1, pn0.2, pd6⟩
theorem wmX11_putOnTape : Cond.instanceMethod yX11_putOnTape ∈ GT := GT_c2 (i := 196) rfl rfl
theorem wsX11_putOnTape : Cond.selects yX11_putOnTape.cls yX11_putOnTape yX11_putOnTape ∈ GT := GT_s (i := 0) rfl rfl
theorem mlX11_96 : VL RX11 96 yX11_putOnTape cX11_putOnTape 3 none 1 := ⟨⟨GT_c2 (i := 194) rfl rfl, wmX11_putOnTape, wsX11_putOnTape, wiX11_putOnTape⟩, wcX11_putOnTape, wdX11_putOnTape⟩
theorem wcX5_read : Cond.code yX5_read cX5_read 5 (some .boolean) ∈ GT := GT_c2 (i := 205) rfl rfl
theorem wiX5_read : Cond.initialized yX5_read.cls ∈ GT := GT_c1 (i := 4) rfl rfl
theorem wdX5_read : yX5_read.cls ≠ "java/lang/invoke/MethodHandle" ∧ yX5_read.cls ≠ "java/lang/invoke/VarHandle" ∧ (parseMethodDescriptor yX5_read.desc).map (fun d => d.parameters.length) = some 2 := ⟨pn6.1, pn6.2, pd59⟩
theorem wmX5_read : Cond.instanceMethod yX5_read ∈ GT := GT_c2 (i := 203) rfl rfl
theorem wsX5_read : Cond.selects yX5_read.cls yX5_read yX5_read ∈ GT := GT_c2 (i := 204) rfl rfl
theorem mlX11_100 : VL RX11 100 yX5_read cX5_read 5 (some .boolean) 2 := ⟨⟨GT_c2 (i := 202) rfl rfl, wmX5_read, wsX5_read, wiX5_read⟩, wcX5_read, wdX5_read⟩
theorem wcX7_copyFrom : Cond.code yX7_copyFrom cX7_copyFrom 2 none ∈ GT := GT_c3 (i := 197) rfl rfl
theorem wiX7_copyFrom : Cond.initialized yX7_copyFrom.cls ∈ GT := GT_c1 (i := 2) rfl rfl
theorem wdX7_copyFrom : yX7_copyFrom.cls ≠ "java/lang/invoke/MethodHandle" ∧ yX7_copyFrom.cls ≠ "java/lang/invoke/VarHandle" ∧ (parseMethodDescriptor yX7_copyFrom.desc).map (fun d => d.parameters.length) = some 1 := ⟨pn8.1, pn8.2, pd45⟩
theorem wmX7_copyFrom : Cond.instanceMethod yX7_copyFrom ∈ GT := GT_c3 (i := 195) rfl rfl
theorem wsX7_copyFrom : Cond.selects yX7_copyFrom.cls yX7_copyFrom yX7_copyFrom ∈ GT := GT_c3 (i := 196) rfl rfl
theorem mlX11_111 : VL RX11 111 yX7_copyFrom cX7_copyFrom 2 none 1 := ⟨⟨GT_c3 (i := 194) rfl rfl, wmX7_copyFrom, wsX7_copyFrom, wiX7_copyFrom⟩, wcX7_copyFrom, wdX7_copyFrom⟩
theorem wcX6_forget : Cond.code yX6_forget cX6_forget 1 none ∈ GT := GT_c3 (i := 209) rfl rfl
theorem wiX6_forget : Cond.initialized yX6_forget.cls ∈ GT := GT_c1 (i := 6) rfl rfl
theorem wdX6_forget : yX6_forget.cls ≠ "java/lang/invoke/MethodHandle" ∧ yX6_forget.cls ≠ "java/lang/invoke/VarHandle" ∧ (parseMethodDescriptor yX6_forget.desc).map (fun d => d.parameters.length) = some 0 := ⟨pn7.1, pn7.2, pd2⟩
theorem wmX6_forget : Cond.instanceMethod yX6_forget ∈ GT := GT_c3 (i := 207) rfl rfl
theorem wsX6_forget : Cond.selects yX6_forget.cls yX6_forget yX6_forget ∈ GT := GT_c3 (i := 208) rfl rfl
theorem mlX11_114 : VL RX11 114 yX6_forget cX6_forget 1 none 0 := ⟨⟨GT_c3 (i := 206) rfl rfl, wmX6_forget, wsX6_forget, wiX6_forget⟩, wcX6_forget, wdX6_forget⟩
theorem wcX8_begin : Cond.code yX8_begin cX8_begin 2 none ∈ GT := GT_c3 (i := 213) rfl rfl
theorem wiX8_begin : Cond.initialized yX8_begin.cls ∈ GT := GT_c1 (i := 8) rfl rfl
theorem wdX8_begin : yX8_begin.cls ≠ "java/lang/invoke/MethodHandle" ∧ yX8_begin.cls ≠ "java/lang/invoke/VarHandle" ∧ (parseMethodDescriptor yX8_begin.desc).map (fun d => d.parameters.length) = some 1 := ⟨pn9.1, pn9.2, pd45⟩
theorem wmX8_begin : Cond.instanceMethod yX8_begin ∈ GT := GT_c3 (i := 211) rfl rfl
theorem wsX8_begin : Cond.selects yX8_begin.cls yX8_begin yX8_begin ∈ GT := GT_c3 (i := 212) rfl rfl
theorem mlX11_117 : VL RX11 117 yX8_begin cX8_begin 2 none 1 := ⟨⟨GT_c3 (i := 210) rfl rfl, wmX8_begin, wsX8_begin, wiX8_begin⟩, wcX8_begin, wdX8_begin⟩
theorem wcX1_forget : Cond.code yX1_forget cX1_forget 1 none ∈ GT := GT_c3 (i := 219) rfl rfl
theorem wiX1_forget : Cond.initialized yX1_forget.cls ∈ GT := GT_c1 (i := 9) rfl rfl
theorem wdX1_forget : yX1_forget.cls ≠ "java/lang/invoke/MethodHandle" ∧ yX1_forget.cls ≠ "java/lang/invoke/VarHandle" ∧ (parseMethodDescriptor yX1_forget.desc).map (fun d => d.parameters.length) = some 0 := ⟨pn2.1, pn2.2, pd2⟩
theorem wmX1_forget : Cond.instanceMethod yX1_forget ∈ GT := GT_c3 (i := 217) rfl rfl
theorem wsX1_forget : Cond.selects yX1_forget.cls yX1_forget yX1_forget ∈ GT := GT_c3 (i := 218) rfl rfl
theorem mlX11_120 : VL RX11 120 yX1_forget cX1_forget 1 none 0 := ⟨⟨GT_c3 (i := 216) rfl rfl, wmX1_forget, wsX1_forget, wiX1_forget⟩, wcX1_forget, wdX1_forget⟩
theorem wcX6_openCurrents : Cond.code yX6_openCurrents cX6_openCurrents 7 (some .int) ∈ GT := GT_c3 (i := 231) rfl rfl
theorem wiX6_openCurrents : Cond.initialized yX6_openCurrents.cls ∈ GT := GT_c1 (i := 6) rfl rfl
theorem wdX6_openCurrents : yX6_openCurrents.cls ≠ "java/lang/invoke/MethodHandle" ∧ yX6_openCurrents.cls ≠ "java/lang/invoke/VarHandle" ∧ (parseMethodDescriptor yX6_openCurrents.desc).map (fun d => d.parameters.length) = some 2 := ⟨pn7.1, pn7.2, pd29⟩
theorem wmX6_openCurrents : Cond.instanceMethod yX6_openCurrents ∈ GT := GT_c3 (i := 229) rfl rfl
theorem wsX6_openCurrents : Cond.selects yX6_openCurrents.cls yX6_openCurrents yX6_openCurrents ∈ GT := GT_c3 (i := 230) rfl rfl
theorem mlX11_142 : VL RX11 142 yX6_openCurrents cX6_openCurrents 7 (some .int) 2 := ⟨⟨GT_c3 (i := 228) rfl rfl, wmX6_openCurrents, wsX6_openCurrents, wiX6_openCurrents⟩, wcX6_openCurrents, wdX6_openCurrents⟩
theorem wcX11_isPerson : Cond.code yX11_isPerson cX11_isPerson 2 (some .boolean) ∈ GT := GT_c4 (i := 29) rfl rfl
theorem wiX11_isPerson : Cond.initialized yX11_isPerson.cls ∈ GT := GT_c1 (i := 1) rfl rfl
theorem wdX11_isPerson : yX11_isPerson.cls ≠ "java/lang/invoke/MethodHandle" ∧ yX11_isPerson.cls ≠ "java/lang/invoke/VarHandle" ∧ (parseMethodDescriptor yX11_isPerson.desc).map (fun d => d.parameters.length) = some 1 := ⟨pn0.1, pn0.2, pd7⟩
theorem wmX11_isPerson : Cond.instanceMethod yX11_isPerson ∈ GT := GT_c4 (i := 28) rfl rfl
theorem wsX11_isPerson : Cond.selects yX11_isPerson.cls yX11_isPerson yX11_isPerson ∈ GT := GT_s (i := 22) rfl rfl
theorem mlX11_146 : VL RX11 146 yX11_isPerson cX11_isPerson 2 (some .boolean) 1 := ⟨⟨GT_c4 (i := 26) rfl rfl, wmX11_isPerson, wsX11_isPerson, wiX11_isPerson⟩, wcX11_isPerson, wdX11_isPerson⟩
theorem wcX8_shellsOf : Cond.code yX8_shellsOf cX8_shellsOf 5 (some .int) ∈ GT := GT_c4 (i := 33) rfl rfl
theorem wiX8_shellsOf : Cond.initialized yX8_shellsOf.cls ∈ GT := GT_c1 (i := 8) rfl rfl
theorem wdX8_shellsOf : yX8_shellsOf.cls ≠ "java/lang/invoke/MethodHandle" ∧ yX8_shellsOf.cls ≠ "java/lang/invoke/VarHandle" ∧ (parseMethodDescriptor yX8_shellsOf.desc).map (fun d => d.parameters.length) = some 2 := ⟨pn9.1, pn9.2, pd46⟩
theorem wmX8_shellsOf : Cond.instanceMethod yX8_shellsOf ∈ GT := GT_c4 (i := 31) rfl rfl
theorem wsX8_shellsOf : Cond.selects yX8_shellsOf.cls yX8_shellsOf yX8_shellsOf ∈ GT := GT_c4 (i := 32) rfl rfl
theorem mlX11_159 : VL RX11 159 yX8_shellsOf cX8_shellsOf 5 (some .int) 2 := ⟨⟨GT_c4 (i := 30) rfl rfl, wmX8_shellsOf, wsX8_shellsOf, wiX8_shellsOf⟩, wcX8_shellsOf, wdX8_shellsOf⟩
theorem wcJ6_bitCount_0f7a4 : Cond.code yJ6_bitCount_0f7a4 cJ6_bitCount_0f7a4 1 (some .int) ∈ GT := GT_c4 (i := 36) rfl rfl
theorem wiJ6_bitCount_0f7a4 : Cond.initialized yJ6_bitCount_0f7a4.cls ∈ GT := GT_c1 (i := 21) rfl rfl
theorem wdJ6_bitCount_0f7a4 : yJ6_bitCount_0f7a4.cls ≠ "java/lang/invoke/MethodHandle" ∧ yJ6_bitCount_0f7a4.cls ≠ "java/lang/invoke/VarHandle" ∧ (parseMethodDescriptor yJ6_bitCount_0f7a4.desc).map (fun d => d.parameters.length) = some 1 := ⟨pn14.1, pn14.2, pd5⟩
theorem wmJ6_bitCount_0f7a4 : Cond.static yJ6_bitCount_0f7a4 ∈ GT := GT_c4 (i := 35) rfl rfl
theorem mlX11_163 : SL RX11 163 yJ6_bitCount_0f7a4 cJ6_bitCount_0f7a4 1 (some .int) 1 := ⟨⟨GT_c4 (i := 34) rfl rfl, wmJ6_bitCount_0f7a4, wiJ6_bitCount_0f7a4⟩, wcJ6_bitCount_0f7a4, wdJ6_bitCount_0f7a4⟩
theorem wcX6_listeners : Cond.code yX6_listeners cX6_listeners 7 (some .int) ∈ GT := GT_c4 (i := 43) rfl rfl
theorem wiX6_listeners : Cond.initialized yX6_listeners.cls ∈ GT := GT_c1 (i := 6) rfl rfl
theorem wdX6_listeners : yX6_listeners.cls ≠ "java/lang/invoke/MethodHandle" ∧ yX6_listeners.cls ≠ "java/lang/invoke/VarHandle" ∧ (parseMethodDescriptor yX6_listeners.desc).map (fun d => d.parameters.length) = some 3 := ⟨pn7.1, pn7.2, pd31⟩
theorem wmX6_listeners : Cond.instanceMethod yX6_listeners ∈ GT := GT_c4 (i := 41) rfl rfl
theorem wsX6_listeners : Cond.selects yX6_listeners.cls yX6_listeners yX6_listeners ∈ GT := GT_c4 (i := 42) rfl rfl
theorem mlX11_169 : VL RX11 169 yX6_listeners cX6_listeners 7 (some .int) 3 := ⟨⟨GT_c4 (i := 40) rfl rfl, wmX6_listeners, wsX6_listeners, wiX6_listeners⟩, wcX6_listeners, wdX6_listeners⟩
theorem wcX11_isShell : Cond.code yX11_isShell cX11_isShell 2 (some .boolean) ∈ GT := GT_c4 (i := 51) rfl rfl
theorem wiX11_isShell : Cond.initialized yX11_isShell.cls ∈ GT := GT_c1 (i := 1) rfl rfl
theorem wdX11_isShell : yX11_isShell.cls ≠ "java/lang/invoke/MethodHandle" ∧ yX11_isShell.cls ≠ "java/lang/invoke/VarHandle" ∧ (parseMethodDescriptor yX11_isShell.desc).map (fun d => d.parameters.length) = some 1 := ⟨pn0.1, pn0.2, pd7⟩
theorem wmX11_isShell : Cond.instanceMethod yX11_isShell ∈ GT := GT_c4 (i := 50) rfl rfl
theorem wsX11_isShell : Cond.selects yX11_isShell.cls yX11_isShell yX11_isShell ∈ GT := GT_s (i := 23) rfl rfl
theorem mlX11_173 : VL RX11 173 yX11_isShell cX11_isShell 2 (some .boolean) 1 := ⟨⟨GT_c4 (i := 48) rfl rfl, wmX11_isShell, wsX11_isShell, wiX11_isShell⟩, wcX11_isShell, wdX11_isShell⟩
theorem wcX11_isWord : Cond.code yX11_isWord cX11_isWord 2 (some .boolean) ∈ GT := GT_c4 (i := 59) rfl rfl
theorem wiX11_isWord : Cond.initialized yX11_isWord.cls ∈ GT := GT_c1 (i := 1) rfl rfl
theorem wdX11_isWord : yX11_isWord.cls ≠ "java/lang/invoke/MethodHandle" ∧ yX11_isWord.cls ≠ "java/lang/invoke/VarHandle" ∧ (parseMethodDescriptor yX11_isWord.desc).map (fun d => d.parameters.length) = some 1 := ⟨pn0.1, pn0.2, pd7⟩
theorem wmX11_isWord : Cond.instanceMethod yX11_isWord ∈ GT := GT_c4 (i := 58) rfl rfl
theorem wsX11_isWord : Cond.selects yX11_isWord.cls yX11_isWord yX11_isWord ∈ GT := GT_s (i := 24) rfl rfl
theorem mlX11_182 : VL RX11 182 yX11_isWord cX11_isWord 2 (some .boolean) 1 := ⟨⟨GT_c4 (i := 56) rfl rfl, wmX11_isWord, wsX11_isWord, wiX11_isWord⟩, wcX11_isWord, wdX11_isWord⟩
theorem wcX8_hearersOf : Cond.code yX8_hearersOf cX8_hearersOf 4 (some .int) ∈ GT := GT_c4 (i := 63) rfl rfl
theorem wiX8_hearersOf : Cond.initialized yX8_hearersOf.cls ∈ GT := GT_c1 (i := 8) rfl rfl
theorem wdX8_hearersOf : yX8_hearersOf.cls ≠ "java/lang/invoke/MethodHandle" ∧ yX8_hearersOf.cls ≠ "java/lang/invoke/VarHandle" ∧ (parseMethodDescriptor yX8_hearersOf.desc).map (fun d => d.parameters.length) = some 1 := ⟨pn9.1, pn9.2, pd5⟩
theorem wmX8_hearersOf : Cond.instanceMethod yX8_hearersOf ∈ GT := GT_c4 (i := 61) rfl rfl
theorem wsX8_hearersOf : Cond.selects yX8_hearersOf.cls yX8_hearersOf yX8_hearersOf ∈ GT := GT_c4 (i := 62) rfl rfl
theorem mlX11_191 : VL RX11 191 yX8_hearersOf cX8_hearersOf 4 (some .int) 1 := ⟨⟨GT_c4 (i := 60) rfl rfl, wmX8_hearersOf, wsX8_hearersOf, wiX8_hearersOf⟩, wcX8_hearersOf, wdX8_hearersOf⟩
theorem wcX11_isBeach : Cond.code yX11_isBeach cX11_isBeach 2 (some .boolean) ∈ GT := GT_c4 (i := 71) rfl rfl
theorem wiX11_isBeach : Cond.initialized yX11_isBeach.cls ∈ GT := GT_c1 (i := 1) rfl rfl
theorem wdX11_isBeach : yX11_isBeach.cls ≠ "java/lang/invoke/MethodHandle" ∧ yX11_isBeach.cls ≠ "java/lang/invoke/VarHandle" ∧ (parseMethodDescriptor yX11_isBeach.desc).map (fun d => d.parameters.length) = some 1 := ⟨pn0.1, pn0.2, pd7⟩
theorem wmX11_isBeach : Cond.instanceMethod yX11_isBeach ∈ GT := GT_c4 (i := 70) rfl rfl
theorem wsX11_isBeach : Cond.selects yX11_isBeach.cls yX11_isBeach yX11_isBeach ∈ GT := GT_s (i := 25) rfl rfl
theorem mlX11_194 : VL RX11 194 yX11_isBeach cX11_isBeach 2 (some .boolean) 1 := ⟨⟨GT_c4 (i := 68) rfl rfl, wmX11_isBeach, wsX11_isBeach, wiX11_isBeach⟩, wcX11_isBeach, wdX11_isBeach⟩
theorem wcX11_within : Cond.code yX11_within cX11_within 3 (some .boolean) ∈ GT := GT_c4 (i := 74) rfl rfl
theorem wiX11_within : Cond.initialized yX11_within.cls ∈ GT := GT_c1 (i := 1) rfl rfl
theorem wdX11_within : yX11_within.cls ≠ "java/lang/invoke/MethodHandle" ∧ yX11_within.cls ≠ "java/lang/invoke/VarHandle" ∧ (parseMethodDescriptor yX11_within.desc).map (fun d => d.parameters.length) = some 3 := ⟨pn0.1, pn0.2, pd13⟩
theorem wmX11_within : Cond.static yX11_within ∈ GT := GT_c4 (i := 73) rfl rfl
theorem mlX11_197 : SL RX11 197 yX11_within cX11_within 3 (some .boolean) 3 := ⟨⟨GT_c4 (i := 72) rfl rfl, wmX11_within, wiX11_within⟩, wcX11_within, wdX11_within⟩
theorem wcX11_soundIn : Cond.code yX11_soundIn cX11_soundIn 3 (some .int) ∈ GT := GT_c4 (i := 78) rfl rfl
theorem wiX11_soundIn : Cond.initialized yX11_soundIn.cls ∈ GT := GT_c1 (i := 1) rfl rfl
theorem wdX11_soundIn : yX11_soundIn.cls ≠ "java/lang/invoke/MethodHandle" ∧ yX11_soundIn.cls ≠ "java/lang/invoke/VarHandle" ∧ (parseMethodDescriptor yX11_soundIn.desc).map (fun d => d.parameters.length) = some 2 := ⟨pn0.1, pn0.2, pd8⟩
theorem wmX11_soundIn : Cond.instanceMethod yX11_soundIn ∈ GT := GT_c4 (i := 77) rfl rfl
theorem wsX11_soundIn : Cond.selects yX11_soundIn.cls yX11_soundIn yX11_soundIn ∈ GT := GT_s (i := 26) rfl rfl
theorem mlX11_201 : VL RX11 201 yX11_soundIn cX11_soundIn 3 (some .int) 2 := ⟨⟨GT_c4 (i := 75) rfl rfl, wmX11_soundIn, wsX11_soundIn, wiX11_soundIn⟩, wcX11_soundIn, wdX11_soundIn⟩
theorem wcX1_keep : Cond.code yX1_keep cX1_keep 2 none ∈ GT := GT_c4 (i := 92) rfl rfl
theorem wiX1_keep : Cond.initialized yX1_keep.cls ∈ GT := GT_c1 (i := 9) rfl rfl
theorem wdX1_keep : yX1_keep.cls ≠ "java/lang/invoke/MethodHandle" ∧ yX1_keep.cls ≠ "java/lang/invoke/VarHandle" ∧ (parseMethodDescriptor yX1_keep.desc).map (fun d => d.parameters.length) = some 1 := ⟨pn2.1, pn2.2, pd51⟩
theorem wmX1_keep : Cond.instanceMethod yX1_keep ∈ GT := GT_c4 (i := 90) rfl rfl
theorem wsX1_keep : Cond.selects yX1_keep.cls yX1_keep yX1_keep ∈ GT := GT_c4 (i := 91) rfl rfl
theorem mlX11_208 : VL RX11 208 yX1_keep cX1_keep 2 none 1 := ⟨⟨GT_c4 (i := 89) rfl rfl, wmX1_keep, wsX1_keep, wiX1_keep⟩, wcX1_keep, wdX1_keep⟩
theorem wcX11_deed : Cond.code yX11_deed cX11_deed 3 (some .int) ∈ GT := GT_c4 (i := 105) rfl rfl
theorem wiX11_deed : Cond.initialized yX11_deed.cls ∈ GT := GT_c1 (i := 1) rfl rfl
theorem wdX11_deed : yX11_deed.cls ≠ "java/lang/invoke/MethodHandle" ∧ yX11_deed.cls ≠ "java/lang/invoke/VarHandle" ∧ (parseMethodDescriptor yX11_deed.desc).map (fun d => d.parameters.length) = some 1 := ⟨pn0.1, pn0.2, pd5⟩
theorem wmX11_deed : Cond.instanceMethod yX11_deed ∈ GT := GT_c4 (i := 104) rfl rfl
theorem wsX11_deed : Cond.selects yX11_deed.cls yX11_deed yX11_deed ∈ GT := GT_s (i := 27) rfl rfl
theorem mlX11_212 : VL RX11 212 yX11_deed cX11_deed 3 (some .int) 1 := ⟨⟨GT_c4 (i := 102) rfl rfl, wmX11_deed, wsX11_deed, wiX11_deed⟩, wcX11_deed, wdX11_deed⟩
theorem wcX8_passHour : Cond.code yX8_passHour cX8_passHour 6 (some .int) ∈ GT := GT_c4 (i := 115) rfl rfl
theorem wiX8_passHour : Cond.initialized yX8_passHour.cls ∈ GT := GT_c1 (i := 8) rfl rfl
theorem wdX8_passHour : yX8_passHour.cls ≠ "java/lang/invoke/MethodHandle" ∧ yX8_passHour.cls ≠ "java/lang/invoke/VarHandle" ∧ (parseMethodDescriptor yX8_passHour.desc).map (fun d => d.parameters.length) = some 2 := ⟨pn9.1, pn9.2, pd48⟩
theorem wmX8_passHour : Cond.instanceMethod yX8_passHour ∈ GT := GT_c4 (i := 113) rfl rfl
theorem wsX8_passHour : Cond.selects yX8_passHour.cls yX8_passHour yX8_passHour ∈ GT := GT_c4 (i := 114) rfl rfl
theorem mlX11_218 : VL RX11 218 yX8_passHour cX8_passHour 6 (some .int) 2 := ⟨⟨GT_c4 (i := 165) rfl rfl, wmX8_passHour, wsX8_passHour, wiX8_passHour⟩, wcX8_passHour, wdX8_passHour⟩
theorem wcX1_takeBack : Cond.code yX1_takeBack cX1_takeBack 3 none ∈ GT := GT_c4 (i := 173) rfl rfl
theorem wiX1_takeBack : Cond.initialized yX1_takeBack.cls ∈ GT := GT_c1 (i := 9) rfl rfl
theorem wdX1_takeBack : yX1_takeBack.cls ≠ "java/lang/invoke/MethodHandle" ∧ yX1_takeBack.cls ≠ "java/lang/invoke/VarHandle" ∧ (parseMethodDescriptor yX1_takeBack.desc).map (fun d => d.parameters.length) = some 2 := ⟨pn2.1, pn2.2, pd52⟩
theorem wmX1_takeBack : Cond.instanceMethod yX1_takeBack ∈ GT := GT_c4 (i := 171) rfl rfl
theorem wsX1_takeBack : Cond.selects yX1_takeBack.cls yX1_takeBack yX1_takeBack ∈ GT := GT_c4 (i := 172) rfl rfl
theorem mlX11_225 : VL RX11 225 yX1_takeBack cX1_takeBack 3 none 2 := ⟨⟨GT_c4 (i := 170) rfl rfl, wmX1_takeBack, wsX1_takeBack, wiX1_takeBack⟩, wcX1_takeBack, wdX1_takeBack⟩
theorem wcX11_isTray : Cond.code yX11_isTray cX11_isTray 2 (some .boolean) ∈ GT := GT_c4 (i := 182) rfl rfl
theorem wiX11_isTray : Cond.initialized yX11_isTray.cls ∈ GT := GT_c1 (i := 1) rfl rfl
theorem wdX11_isTray : yX11_isTray.cls ≠ "java/lang/invoke/MethodHandle" ∧ yX11_isTray.cls ≠ "java/lang/invoke/VarHandle" ∧ (parseMethodDescriptor yX11_isTray.desc).map (fun d => d.parameters.length) = some 1 := ⟨pn0.1, pn0.2, pd7⟩
theorem wmX11_isTray : Cond.instanceMethod yX11_isTray ∈ GT := GT_c4 (i := 181) rfl rfl
theorem wsX11_isTray : Cond.selects yX11_isTray.cls yX11_isTray yX11_isTray ∈ GT := GT_s (i := 34) rfl rfl
theorem mlX11_229 : VL RX11 229 yX11_isTray cX11_isTray 2 (some .boolean) 1 := ⟨⟨GT_c4 (i := 179) rfl rfl, wmX11_isTray, wsX11_isTray, wiX11_isTray⟩, wcX11_isTray, wdX11_isTray⟩
theorem wcX10_isMissing : Cond.code yX10_isMissing cX10_isMissing 1 (some .boolean) ∈ GT := GT_c4 (i := 186) rfl rfl
theorem wiX10_isMissing : Cond.initialized yX10_isMissing.cls ∈ GT := GT_c1 (i := 12) rfl rfl
theorem wdX10_isMissing : yX10_isMissing.cls ≠ "java/lang/invoke/MethodHandle" ∧ yX10_isMissing.cls ≠ "java/lang/invoke/VarHandle" ∧ (parseMethodDescriptor yX10_isMissing.desc).map (fun d => d.parameters.length) = some 0 := ⟨pn11.1, pn11.2, pd3⟩
theorem wmX10_isMissing : Cond.instanceMethod yX10_isMissing ∈ GT := GT_c4 (i := 184) rfl rfl
theorem wsX10_isMissing : Cond.selects yX10_isMissing.cls yX10_isMissing yX10_isMissing ∈ GT := GT_c4 (i := 185) rfl rfl
theorem mlX11_232 : VL RX11 232 yX10_isMissing cX10_isMissing 1 (some .boolean) 0 := ⟨⟨GT_c4 (i := 183) rfl rfl, wmX10_isMissing, wsX10_isMissing, wiX10_isMissing⟩, wcX10_isMissing, wdX10_isMissing⟩
theorem wcX8_copyFrom : Cond.code yX8_copyFrom cX8_copyFrom 2 none ∈ GT := GT_c4 (i := 96) rfl rfl
theorem wiX8_copyFrom : Cond.initialized yX8_copyFrom.cls ∈ GT := GT_c1 (i := 8) rfl rfl
theorem wdX8_copyFrom : yX8_copyFrom.cls ≠ "java/lang/invoke/MethodHandle" ∧ yX8_copyFrom.cls ≠ "java/lang/invoke/VarHandle" ∧ (parseMethodDescriptor yX8_copyFrom.desc).map (fun d => d.parameters.length) = some 1 := ⟨pn9.1, pn9.2, pd51⟩
theorem wmX8_copyFrom : Cond.instanceMethod yX8_copyFrom ∈ GT := GT_c4 (i := 94) rfl rfl
theorem wsX8_copyFrom : Cond.selects yX8_copyFrom.cls yX8_copyFrom yX8_copyFrom ∈ GT := GT_c4 (i := 95) rfl rfl
theorem mlX11_236 : VL RX11 236 yX8_copyFrom cX8_copyFrom 2 none 1 := ⟨⟨GT_c4 (i := 106) rfl rfl, wmX8_copyFrom, wsX8_copyFrom, wiX8_copyFrom⟩, wcX8_copyFrom, wdX8_copyFrom⟩
theorem wcX8_attemptAll : Cond.code yX8_attemptAll cX8_attemptAll 5 (some .int) ∈ GT := GT_c4 (i := 190) rfl rfl
theorem wiX8_attemptAll : Cond.initialized yX8_attemptAll.cls ∈ GT := GT_c1 (i := 8) rfl rfl
theorem wdX8_attemptAll : yX8_attemptAll.cls ≠ "java/lang/invoke/MethodHandle" ∧ yX8_attemptAll.cls ≠ "java/lang/invoke/VarHandle" ∧ (parseMethodDescriptor yX8_attemptAll.desc).map (fun d => d.parameters.length) = some 3 := ⟨pn9.1, pn9.2, pd55⟩
theorem wmX8_attemptAll : Cond.instanceMethod yX8_attemptAll ∈ GT := GT_c4 (i := 188) rfl rfl
theorem wsX8_attemptAll : Cond.selects yX8_attemptAll.cls yX8_attemptAll yX8_attemptAll ∈ GT := GT_c4 (i := 189) rfl rfl
theorem mlX11_238 : VL RX11 238 yX8_attemptAll cX8_attemptAll 5 (some .int) 3 := ⟨⟨GT_c4 (i := 187) rfl rfl, wmX8_attemptAll, wsX8_attemptAll, wiX8_attemptAll⟩, wcX8_attemptAll, wdX8_attemptAll⟩
theorem wcX8_attempt : Cond.code yX8_attempt cX8_attempt 6 (some .int) ∈ GT := GT_c4 (i := 110) rfl rfl
theorem wiX8_attempt : Cond.initialized yX8_attempt.cls ∈ GT := GT_c1 (i := 8) rfl rfl
theorem wdX8_attempt : yX8_attempt.cls ≠ "java/lang/invoke/MethodHandle" ∧ yX8_attempt.cls ≠ "java/lang/invoke/VarHandle" ∧ (parseMethodDescriptor yX8_attempt.desc).map (fun d => d.parameters.length) = some 3 := ⟨pn9.1, pn9.2, pd42⟩
theorem wmX8_attempt : Cond.instanceMethod yX8_attempt ∈ GT := GT_c4 (i := 108) rfl rfl
theorem wsX8_attempt : Cond.selects yX8_attempt.cls yX8_attempt yX8_attempt ∈ GT := GT_c4 (i := 109) rfl rfl
theorem mlX11_247 : VL RX11 247 yX8_attempt cX8_attempt 6 (some .int) 3 := ⟨⟨GT_c4 (i := 107) rfl rfl, wmX8_attempt, wsX8_attempt, wiX8_attempt⟩, wcX8_attempt, wdX8_attempt⟩
theorem wcX8_heardAll : Cond.code yX8_heardAll cX8_heardAll 4 (some .int) ∈ GT := GT_c4 (i := 195) rfl rfl
theorem wiX8_heardAll : Cond.initialized yX8_heardAll.cls ∈ GT := GT_c1 (i := 8) rfl rfl
theorem wdX8_heardAll : yX8_heardAll.cls ≠ "java/lang/invoke/MethodHandle" ∧ yX8_heardAll.cls ≠ "java/lang/invoke/VarHandle" ∧ (parseMethodDescriptor yX8_heardAll.desc).map (fun d => d.parameters.length) = some 1 := ⟨pn9.1, pn9.2, pd44⟩
theorem wmX8_heardAll : Cond.instanceMethod yX8_heardAll ∈ GT := GT_c4 (i := 193) rfl rfl
theorem wsX8_heardAll : Cond.selects yX8_heardAll.cls yX8_heardAll yX8_heardAll ∈ GT := GT_c4 (i := 194) rfl rfl
theorem mlX11_251 : VL RX11 251 yX8_heardAll cX8_heardAll 4 (some .int) 1 := ⟨⟨GT_c4 (i := 192) rfl rfl, wmX8_heardAll, wsX8_heardAll, wiX8_heardAll⟩, wcX8_heardAll, wdX8_heardAll⟩
theorem wcX8_drawDeed : Cond.code yX8_drawDeed cX8_drawDeed 5 (some .boolean) ∈ GT := GT_c4 (i := 207) rfl rfl
theorem wiX8_drawDeed : Cond.initialized yX8_drawDeed.cls ∈ GT := GT_c1 (i := 8) rfl rfl
theorem wdX8_drawDeed : yX8_drawDeed.cls ≠ "java/lang/invoke/MethodHandle" ∧ yX8_drawDeed.cls ≠ "java/lang/invoke/VarHandle" ∧ (parseMethodDescriptor yX8_drawDeed.desc).map (fun d => d.parameters.length) = some 2 := ⟨pn9.1, pn9.2, pd49⟩
theorem wmX8_drawDeed : Cond.instanceMethod yX8_drawDeed ∈ GT := GT_c4 (i := 205) rfl rfl
theorem wsX8_drawDeed : Cond.selects yX8_drawDeed.cls yX8_drawDeed yX8_drawDeed ∈ GT := GT_c4 (i := 206) rfl rfl
theorem mlX11_255 : VL RX11 255 yX8_drawDeed cX8_drawDeed 5 (some .boolean) 2 := ⟨⟨GT_c4 (i := 204) rfl rfl, wmX8_drawDeed, wsX8_drawDeed, wiX8_drawDeed⟩, wcX8_drawDeed, wdX8_drawDeed⟩
theorem wcX11_probeHours : Cond.code yX11_probeHours cX11_probeHours 3 none ∈ GT := GT_c4 (i := 228) rfl rfl
theorem wiX11_probeHours : Cond.initialized yX11_probeHours.cls ∈ GT := GT_c1 (i := 1) rfl rfl
theorem wdX11_probeHours : yX11_probeHours.cls ≠ "java/lang/invoke/MethodHandle" ∧ yX11_probeHours.cls ≠ "java/lang/invoke/VarHandle" ∧ (parseMethodDescriptor yX11_probeHours.desc).map (fun d => d.parameters.length) = some 1 := ⟨pn0.1, pn0.2, pd6⟩
theorem wmX11_probeHours : Cond.instanceMethod yX11_probeHours ∈ GT := GT_c4 (i := 227) rfl rfl
theorem wsX11_probeHours : Cond.selects yX11_probeHours.cls yX11_probeHours yX11_probeHours ∈ GT := GT_s (i := 36) rfl rfl
theorem mlX11_259 : VL RX11 259 yX11_probeHours cX11_probeHours 3 none 1 := ⟨⟨GT_c4 (i := 225) rfl rfl, wmX11_probeHours, wsX11_probeHours, wiX11_probeHours⟩, wcX11_probeHours, wdX11_probeHours⟩
theorem wcX0_lookAhead : Cond.code yX0_lookAhead cX0_lookAhead 6 none ∈ GT := GT_c5 (i := 0) rfl rfl
theorem wiX0_lookAhead : Cond.initialized yX0_lookAhead.cls ∈ GT := GT_c1 (i := 10) rfl rfl
theorem wdX0_lookAhead : yX0_lookAhead.cls ≠ "java/lang/invoke/MethodHandle" ∧ yX0_lookAhead.cls ≠ "java/lang/invoke/VarHandle" ∧ (parseMethodDescriptor yX0_lookAhead.desc).map (fun d => d.parameters.length) = some 1 := ⟨pn1.1, pn1.2, pd6⟩
theorem wmX0_lookAhead : Cond.instanceMethod yX0_lookAhead ∈ GT := GT_c4 (i := 238) rfl rfl
theorem wsX0_lookAhead : Cond.selects yX0_lookAhead.cls yX0_lookAhead yX0_lookAhead ∈ GT := GT_c4 (i := 239) rfl rfl
theorem mlX11_262 : VL RX11 262 yX0_lookAhead cX0_lookAhead 6 none 1 := ⟨⟨GT_c4 (i := 237) rfl rfl, wmX0_lookAhead, wsX0_lookAhead, wiX0_lookAhead⟩, wcX0_lookAhead, wdX0_lookAhead⟩
theorem wcX0_send : Cond.code yX0_send cX0_send 8 none ∈ GT := GT_c5 (i := 13) rfl rfl
theorem wiX0_send : Cond.initialized yX0_send.cls ∈ GT := GT_c1 (i := 10) rfl rfl
theorem wdX0_send : yX0_send.cls ≠ "java/lang/invoke/MethodHandle" ∧ yX0_send.cls ≠ "java/lang/invoke/VarHandle" ∧ (parseMethodDescriptor yX0_send.desc).map (fun d => d.parameters.length) = some 3 := ⟨pn1.1, pn1.2, pd12⟩
theorem wmX0_send : Cond.instanceMethod yX0_send ∈ GT := GT_c5 (i := 11) rfl rfl
theorem wsX0_send : Cond.selects yX0_send.cls yX0_send yX0_send ∈ GT := GT_c5 (i := 12) rfl rfl
theorem mlX11_265 : VL RX11 265 yX0_send cX0_send 8 none 3 := ⟨⟨GT_c5 (i := 10) rfl rfl, wmX0_send, wsX0_send, wiX0_send⟩, wcX0_send, wdX0_send⟩
theorem wcX0_hearersBy : Cond.code yX0_hearersBy cX0_hearersBy 4 (some .int) ∈ GT := GT_c5 (i := 22) rfl rfl
theorem wiX0_hearersBy : Cond.initialized yX0_hearersBy.cls ∈ GT := GT_c1 (i := 10) rfl rfl
theorem wdX0_hearersBy : yX0_hearersBy.cls ≠ "java/lang/invoke/MethodHandle" ∧ yX0_hearersBy.cls ≠ "java/lang/invoke/VarHandle" ∧ (parseMethodDescriptor yX0_hearersBy.desc).map (fun d => d.parameters.length) = some 1 := ⟨pn1.1, pn1.2, pd5⟩
theorem wmX0_hearersBy : Cond.instanceMethod yX0_hearersBy ∈ GT := GT_c5 (i := 20) rfl rfl
theorem wsX0_hearersBy : Cond.selects yX0_hearersBy.cls yX0_hearersBy yX0_hearersBy ∈ GT := GT_c5 (i := 21) rfl rfl
theorem mlX11_269 : VL RX11 269 yX0_hearersBy cX0_hearersBy 4 (some .int) 1 := ⟨⟨GT_c5 (i := 19) rfl rfl, wmX0_hearersBy, wsX0_hearersBy, wiX0_hearersBy⟩, wcX0_hearersBy, wdX0_hearersBy⟩
theorem wcX0_hourHeard : Cond.code yX0_hourHeard cX0_hourHeard 5 (some .int) ∈ GT := GT_c5 (i := 26) rfl rfl
theorem wiX0_hourHeard : Cond.initialized yX0_hourHeard.cls ∈ GT := GT_c1 (i := 10) rfl rfl
theorem wdX0_hourHeard : yX0_hourHeard.cls ≠ "java/lang/invoke/MethodHandle" ∧ yX0_hourHeard.cls ≠ "java/lang/invoke/VarHandle" ∧ (parseMethodDescriptor yX0_hourHeard.desc).map (fun d => d.parameters.length) = some 1 := ⟨pn1.1, pn1.2, pd5⟩
theorem wmX0_hourHeard : Cond.instanceMethod yX0_hourHeard ∈ GT := GT_c5 (i := 24) rfl rfl
theorem wsX0_hourHeard : Cond.selects yX0_hourHeard.cls yX0_hourHeard yX0_hourHeard ∈ GT := GT_c5 (i := 25) rfl rfl
theorem mlX11_275 : VL RX11 275 yX0_hourHeard cX0_hourHeard 5 (some .int) 1 := ⟨⟨GT_c5 (i := 40) rfl rfl, wmX0_hourHeard, wsX0_hourHeard, wiX0_hourHeard⟩, wcX0_hourHeard, wdX0_hourHeard⟩
theorem wcX0_fewestToShut : Cond.code yX0_fewestToShut cX0_fewestToShut 7 (some .int) ∈ GT := GT_c5 (i := 56) rfl rfl
theorem wiX0_fewestToShut : Cond.initialized yX0_fewestToShut.cls ∈ GT := GT_c1 (i := 10) rfl rfl
theorem wdX0_fewestToShut : yX0_fewestToShut.cls ≠ "java/lang/invoke/MethodHandle" ∧ yX0_fewestToShut.cls ≠ "java/lang/invoke/VarHandle" ∧ (parseMethodDescriptor yX0_fewestToShut.desc).map (fun d => d.parameters.length) = some 3 := ⟨pn1.1, pn1.2, pd11⟩
theorem wmX0_fewestToShut : Cond.instanceMethod yX0_fewestToShut ∈ GT := GT_c5 (i := 54) rfl rfl
theorem wsX0_fewestToShut : Cond.selects yX0_fewestToShut.cls yX0_fewestToShut yX0_fewestToShut ∈ GT := GT_c5 (i := 55) rfl rfl
theorem mlX11_284 : VL RX11 284 yX0_fewestToShut cX0_fewestToShut 7 (some .int) 3 := ⟨⟨GT_c5 (i := 53) rfl rfl, wmX0_fewestToShut, wsX0_fewestToShut, wiX0_fewestToShut⟩, wcX0_fewestToShut, wdX0_fewestToShut⟩
theorem wcX11_numberOrSet : Cond.code yX11_numberOrSet cX11_numberOrSet 2 (some .int) ∈ GT := GT_c5 (i := 61) rfl rfl
theorem wiX11_numberOrSet : Cond.initialized yX11_numberOrSet.cls ∈ GT := GT_c1 (i := 1) rfl rfl
theorem wdX11_numberOrSet : yX11_numberOrSet.cls ≠ "java/lang/invoke/MethodHandle" ∧ yX11_numberOrSet.cls ≠ "java/lang/invoke/VarHandle" ∧ (parseMethodDescriptor yX11_numberOrSet.desc).map (fun d => d.parameters.length) = some 2 := ⟨pn0.1, pn0.2, pd8⟩
theorem wmX11_numberOrSet : Cond.static yX11_numberOrSet ∈ GT := GT_c5 (i := 60) rfl rfl
theorem mlX11_288 : SL RX11 288 yX11_numberOrSet cX11_numberOrSet 2 (some .int) 2 := ⟨⟨GT_c5 (i := 59) rfl rfl, wmX11_numberOrSet, wiX11_numberOrSet⟩, wcX11_numberOrSet, wdX11_numberOrSet⟩
theorem wcX0_shellsToTake : Cond.code yX0_shellsToTake cX0_shellsToTake 5 (some .int) ∈ GT := GT_c5 (i := 69) rfl rfl
theorem wiX0_shellsToTake : Cond.initialized yX0_shellsToTake.cls ∈ GT := GT_c1 (i := 10) rfl rfl
theorem wdX0_shellsToTake : yX0_shellsToTake.cls ≠ "java/lang/invoke/MethodHandle" ∧ yX0_shellsToTake.cls ≠ "java/lang/invoke/VarHandle" ∧ (parseMethodDescriptor yX0_shellsToTake.desc).map (fun d => d.parameters.length) = some 2 := ⟨pn1.1, pn1.2, pd8⟩
theorem wmX0_shellsToTake : Cond.instanceMethod yX0_shellsToTake ∈ GT := GT_c5 (i := 67) rfl rfl
theorem wsX0_shellsToTake : Cond.selects yX0_shellsToTake.cls yX0_shellsToTake yX0_shellsToTake ∈ GT := GT_c5 (i := 68) rfl rfl
theorem mlX11_291 : VL RX11 291 yX0_shellsToTake cX0_shellsToTake 5 (some .int) 2 := ⟨⟨GT_c5 (i := 66) rfl rfl, wmX0_shellsToTake, wsX0_shellsToTake, wiX0_shellsToTake⟩, wcX0_shellsToTake, wdX0_shellsToTake⟩
theorem wcX11_findReached : Cond.code yX11_findReached cX11_findReached 3 none ∈ GT := GT_c5 (i := 81) rfl rfl
theorem wiX11_findReached : Cond.initialized yX11_findReached.cls ∈ GT := GT_c1 (i := 1) rfl rfl
theorem wdX11_findReached : yX11_findReached.cls ≠ "java/lang/invoke/MethodHandle" ∧ yX11_findReached.cls ≠ "java/lang/invoke/VarHandle" ∧ (parseMethodDescriptor yX11_findReached.desc).map (fun d => d.parameters.length) = some 1 := ⟨pn0.1, pn0.2, pd6⟩
theorem wmX11_findReached : Cond.instanceMethod yX11_findReached ∈ GT := GT_c5 (i := 80) rfl rfl
theorem wsX11_findReached : Cond.selects yX11_findReached.cls yX11_findReached yX11_findReached ∈ GT := GT_s (i := 40) rfl rfl
theorem mlX11_294 : VL RX11 294 yX11_findReached cX11_findReached 3 none 1 := ⟨⟨GT_c5 (i := 78) rfl rfl, wmX11_findReached, wsX11_findReached, wiX11_findReached⟩, wcX11_findReached, wdX11_findReached⟩
theorem wcX11_bestSpies : Cond.code yX11_bestSpies cX11_bestSpies 5 (some .int) ∈ GT := GT_c5 (i := 89) rfl rfl
theorem wiX11_bestSpies : Cond.initialized yX11_bestSpies.cls ∈ GT := GT_c1 (i := 1) rfl rfl
theorem wdX11_bestSpies : yX11_bestSpies.cls ≠ "java/lang/invoke/MethodHandle" ∧ yX11_bestSpies.cls ≠ "java/lang/invoke/VarHandle" ∧ (parseMethodDescriptor yX11_bestSpies.desc).map (fun d => d.parameters.length) = some 1 := ⟨pn0.1, pn0.2, pd5⟩
theorem wmX11_bestSpies : Cond.instanceMethod yX11_bestSpies ∈ GT := GT_c5 (i := 88) rfl rfl
theorem wsX11_bestSpies : Cond.selects yX11_bestSpies.cls yX11_bestSpies yX11_bestSpies ∈ GT := GT_s (i := 41) rfl rfl
theorem mlX11_297 : VL RX11 297 yX11_bestSpies cX11_bestSpies 5 (some .int) 1 := ⟨⟨GT_c5 (i := 86) rfl rfl, wmX11_bestSpies, wsX11_bestSpies, wiX11_bestSpies⟩, wcX11_bestSpies, wdX11_bestSpies⟩
theorem wcX11_watchedBy : Cond.code yX11_watchedBy cX11_watchedBy 4 (some .int) ∈ GT := GT_c5 (i := 93) rfl rfl
theorem wiX11_watchedBy : Cond.initialized yX11_watchedBy.cls ∈ GT := GT_c1 (i := 1) rfl rfl
theorem wdX11_watchedBy : yX11_watchedBy.cls ≠ "java/lang/invoke/MethodHandle" ∧ yX11_watchedBy.cls ≠ "java/lang/invoke/VarHandle" ∧ (parseMethodDescriptor yX11_watchedBy.desc).map (fun d => d.parameters.length) = some 1 := ⟨pn0.1, pn0.2, pd5⟩
theorem wmX11_watchedBy : Cond.instanceMethod yX11_watchedBy ∈ GT := GT_c5 (i := 92) rfl rfl
theorem wsX11_watchedBy : Cond.selects yX11_watchedBy.cls yX11_watchedBy yX11_watchedBy ∈ GT := GT_s (i := 42) rfl rfl
theorem mlX11_300 : VL RX11 300 yX11_watchedBy cX11_watchedBy 4 (some .int) 1 := ⟨⟨GT_c5 (i := 90) rfl rfl, wmX11_watchedBy, wsX11_watchedBy, wiX11_watchedBy⟩, wcX11_watchedBy, wdX11_watchedBy⟩
theorem wcX8_hearable : Cond.code yX8_hearable cX8_hearable 6 (some .int) ∈ GT := GT_c5 (i := 105) rfl rfl
theorem wiX8_hearable : Cond.initialized yX8_hearable.cls ∈ GT := GT_c1 (i := 8) rfl rfl
theorem wdX8_hearable : yX8_hearable.cls ≠ "java/lang/invoke/MethodHandle" ∧ yX8_hearable.cls ≠ "java/lang/invoke/VarHandle" ∧ (parseMethodDescriptor yX8_hearable.desc).map (fun d => d.parameters.length) = some 2 := ⟨pn9.1, pn9.2, pd46⟩
theorem wmX8_hearable : Cond.instanceMethod yX8_hearable ∈ GT := GT_c5 (i := 103) rfl rfl
theorem wsX8_hearable : Cond.selects yX8_hearable.cls yX8_hearable yX8_hearable ∈ GT := GT_c5 (i := 104) rfl rfl
theorem mlX11_303 : VL RX11 303 yX8_hearable cX8_hearable 6 (some .int) 2 := ⟨⟨GT_c5 (i := 102) rfl rfl, wmX8_hearable, wsX8_hearable, wiX8_hearable⟩, wcX8_hearable, wdX8_hearable⟩
theorem wcX8_mutualTwos : Cond.code yX8_mutualTwos cX8_mutualTwos 6 (some .int) ∈ GT := GT_c5 (i := 113) rfl rfl
theorem wiX8_mutualTwos : Cond.initialized yX8_mutualTwos.cls ∈ GT := GT_c1 (i := 8) rfl rfl
theorem wdX8_mutualTwos : yX8_mutualTwos.cls ≠ "java/lang/invoke/MethodHandle" ∧ yX8_mutualTwos.cls ≠ "java/lang/invoke/VarHandle" ∧ (parseMethodDescriptor yX8_mutualTwos.desc).map (fun d => d.parameters.length) = some 1 := ⟨pn9.1, pn9.2, pd44⟩
theorem wmX8_mutualTwos : Cond.instanceMethod yX8_mutualTwos ∈ GT := GT_c5 (i := 111) rfl rfl
theorem wsX8_mutualTwos : Cond.selects yX8_mutualTwos.cls yX8_mutualTwos yX8_mutualTwos ∈ GT := GT_c5 (i := 112) rfl rfl
theorem mlX11_306 : VL RX11 306 yX8_mutualTwos cX8_mutualTwos 6 (some .int) 1 := ⟨⟨GT_c5 (i := 110) rfl rfl, wmX8_mutualTwos, wsX8_mutualTwos, wiX8_mutualTwos⟩, wcX8_mutualTwos, wdX8_mutualTwos⟩
theorem wcX11_heardCode : Cond.code yX11_heardCode cX11_heardCode 2 (some .int) ∈ GT := GT_c5 (i := 130) rfl rfl
theorem wiX11_heardCode : Cond.initialized yX11_heardCode.cls ∈ GT := GT_c1 (i := 1) rfl rfl
theorem wdX11_heardCode : yX11_heardCode.cls ≠ "java/lang/invoke/MethodHandle" ∧ yX11_heardCode.cls ≠ "java/lang/invoke/VarHandle" ∧ (parseMethodDescriptor yX11_heardCode.desc).map (fun d => d.parameters.length) = some 1 := ⟨pn0.1, pn0.2, pd5⟩
theorem wmX11_heardCode : Cond.instanceMethod yX11_heardCode ∈ GT := GT_c5 (i := 129) rfl rfl
theorem wsX11_heardCode : Cond.selects yX11_heardCode.cls yX11_heardCode yX11_heardCode ∈ GT := GT_s (i := 43) rfl rfl
theorem mlX11_312 : VL RX11 312 yX11_heardCode cX11_heardCode 2 (some .int) 1 := ⟨⟨GT_c5 (i := 127) rfl rfl, wmX11_heardCode, wsX11_heardCode, wiX11_heardCode⟩, wcX11_heardCode, wdX11_heardCode⟩
theorem wcX11_fitting : Cond.code yX11_fitting cX11_fitting 4 (some .int) ∈ GT := GT_c5 (i := 134) rfl rfl
theorem wiX11_fitting : Cond.initialized yX11_fitting.cls ∈ GT := GT_c1 (i := 1) rfl rfl
theorem wdX11_fitting : yX11_fitting.cls ≠ "java/lang/invoke/MethodHandle" ∧ yX11_fitting.cls ≠ "java/lang/invoke/VarHandle" ∧ (parseMethodDescriptor yX11_fitting.desc).map (fun d => d.parameters.length) = some 1 := ⟨pn0.1, pn0.2, pd53⟩
theorem wmX11_fitting : Cond.instanceMethod yX11_fitting ∈ GT := GT_c5 (i := 133) rfl rfl
theorem wsX11_fitting : Cond.selects yX11_fitting.cls yX11_fitting yX11_fitting ∈ GT := GT_s (i := 44) rfl rfl
theorem mlX11_315 : VL RX11 315 yX11_fitting cX11_fitting 4 (some .int) 1 := ⟨⟨GT_c5 (i := 131) rfl rfl, wmX11_fitting, wsX11_fitting, wiX11_fitting⟩, wcX11_fitting, wdX11_fitting⟩
theorem wcX11_slipsOf : Cond.code yX11_slipsOf cX11_slipsOf 5 (some .int) ∈ GT := GT_c5 (i := 138) rfl rfl
theorem wiX11_slipsOf : Cond.initialized yX11_slipsOf.cls ∈ GT := GT_c1 (i := 1) rfl rfl
theorem wdX11_slipsOf : yX11_slipsOf.cls ≠ "java/lang/invoke/MethodHandle" ∧ yX11_slipsOf.cls ≠ "java/lang/invoke/VarHandle" ∧ (parseMethodDescriptor yX11_slipsOf.desc).map (fun d => d.parameters.length) = some 2 := ⟨pn0.1, pn0.2, pd54⟩
theorem wmX11_slipsOf : Cond.instanceMethod yX11_slipsOf ∈ GT := GT_c5 (i := 137) rfl rfl
theorem wsX11_slipsOf : Cond.selects yX11_slipsOf.cls yX11_slipsOf yX11_slipsOf ∈ GT := GT_s (i := 45) rfl rfl
theorem mlX11_319 : VL RX11 319 yX11_slipsOf cX11_slipsOf 5 (some .int) 2 := ⟨⟨GT_c5 (i := 135) rfl rfl, wmX11_slipsOf, wsX11_slipsOf, wiX11_slipsOf⟩, wcX11_slipsOf, wdX11_slipsOf⟩
theorem wcX11_mostAlike : Cond.code yX11_mostAlike cX11_mostAlike 8 (some .int) ∈ GT := GT_c5 (i := 155) rfl rfl
theorem wiX11_mostAlike : Cond.initialized yX11_mostAlike.cls ∈ GT := GT_c1 (i := 1) rfl rfl
theorem wdX11_mostAlike : yX11_mostAlike.cls ≠ "java/lang/invoke/MethodHandle" ∧ yX11_mostAlike.cls ≠ "java/lang/invoke/VarHandle" ∧ (parseMethodDescriptor yX11_mostAlike.desc).map (fun d => d.parameters.length) = some 2 := ⟨pn0.1, pn0.2, pd8⟩
theorem wmX11_mostAlike : Cond.instanceMethod yX11_mostAlike ∈ GT := GT_c5 (i := 154) rfl rfl
theorem wsX11_mostAlike : Cond.selects yX11_mostAlike.cls yX11_mostAlike yX11_mostAlike ∈ GT := GT_s (i := 46) rfl rfl
theorem mlX11_323 : VL RX11 323 yX11_mostAlike cX11_mostAlike 8 (some .int) 2 := ⟨⟨GT_c5 (i := 152) rfl rfl, wmX11_mostAlike, wsX11_mostAlike, wiX11_mostAlike⟩, wcX11_mostAlike, wdX11_mostAlike⟩
theorem wcX11_unlikeHours : Cond.code yX11_unlikeHours cX11_unlikeHours 5 (some .int) ∈ GT := GT_c5 (i := 164) rfl rfl
theorem wiX11_unlikeHours : Cond.initialized yX11_unlikeHours.cls ∈ GT := GT_c1 (i := 1) rfl rfl
theorem wdX11_unlikeHours : yX11_unlikeHours.cls ≠ "java/lang/invoke/MethodHandle" ∧ yX11_unlikeHours.cls ≠ "java/lang/invoke/VarHandle" ∧ (parseMethodDescriptor yX11_unlikeHours.desc).map (fun d => d.parameters.length) = some 2 := ⟨pn0.1, pn0.2, pd8⟩
theorem wmX11_unlikeHours : Cond.instanceMethod yX11_unlikeHours ∈ GT := GT_c5 (i := 163) rfl rfl
theorem wsX11_unlikeHours : Cond.selects yX11_unlikeHours.cls yX11_unlikeHours yX11_unlikeHours ∈ GT := GT_s (i := 47) rfl rfl
theorem mlX11_326 : VL RX11 326 yX11_unlikeHours cX11_unlikeHours 5 (some .int) 2 := ⟨⟨GT_c5 (i := 161) rfl rfl, wmX11_unlikeHours, wsX11_unlikeHours, wiX11_unlikeHours⟩, wcX11_unlikeHours, wdX11_unlikeHours⟩
theorem wcX4_setCost : Cond.code yX4_setCost cX4_setCost 4 none ∈ GT := GT_c5 (i := 172) rfl rfl
theorem wiX4_setCost : Cond.initialized yX4_setCost.cls ∈ GT := GT_c1 (i := 11) rfl rfl
theorem wdX4_setCost : yX4_setCost.cls ≠ "java/lang/invoke/MethodHandle" ∧ yX4_setCost.cls ≠ "java/lang/invoke/VarHandle" ∧ (parseMethodDescriptor yX4_setCost.desc).map (fun d => d.parameters.length) = some 3 := ⟨pn5.1, pn5.2, pd12⟩
theorem wmX4_setCost : Cond.instanceMethod yX4_setCost ∈ GT := GT_c5 (i := 170) rfl rfl
theorem wsX4_setCost : Cond.selects yX4_setCost.cls yX4_setCost yX4_setCost ∈ GT := GT_c5 (i := 171) rfl rfl
theorem mlX11_329 : VL RX11 329 yX4_setCost cX4_setCost 4 none 3 := ⟨⟨GT_c5 (i := 169) rfl rfl, wmX4_setCost, wsX4_setCost, wiX4_setCost⟩, wcX4_setCost, wdX4_setCost⟩
theorem wcX4_solve : Cond.code yX4_solve cX4_solve 2 none ∈ GT := GT_c5 (i := 176) rfl rfl
theorem wiX4_solve : Cond.initialized yX4_solve.cls ∈ GT := GT_c1 (i := 11) rfl rfl
theorem wdX4_solve : yX4_solve.cls ≠ "java/lang/invoke/MethodHandle" ∧ yX4_solve.cls ≠ "java/lang/invoke/VarHandle" ∧ (parseMethodDescriptor yX4_solve.desc).map (fun d => d.parameters.length) = some 1 := ⟨pn5.1, pn5.2, pd6⟩
theorem wmX4_solve : Cond.instanceMethod yX4_solve ∈ GT := GT_c5 (i := 174) rfl rfl
theorem wsX4_solve : Cond.selects yX4_solve.cls yX4_solve yX4_solve ∈ GT := GT_c5 (i := 175) rfl rfl
theorem mlX11_332 : VL RX11 332 yX4_solve cX4_solve 2 none 1 := ⟨⟨GT_c5 (i := 173) rfl rfl, wmX4_solve, wsX4_solve, wiX4_solve⟩, wcX4_solve, wdX4_solve⟩
theorem wcX10_begin : Cond.code yX10_begin cX10_begin 3 none ∈ GT := GT_c5 (i := 190) rfl rfl
theorem wiX10_begin : Cond.initialized yX10_begin.cls ∈ GT := GT_c1 (i := 12) rfl rfl
theorem wdX10_begin : yX10_begin.cls ≠ "java/lang/invoke/MethodHandle" ∧ yX10_begin.cls ≠ "java/lang/invoke/VarHandle" ∧ (parseMethodDescriptor yX10_begin.desc).map (fun d => d.parameters.length) = some 2 := ⟨pn11.1, pn11.2, pd9⟩
theorem wmX10_begin : Cond.instanceMethod yX10_begin ∈ GT := GT_c5 (i := 188) rfl rfl
theorem wsX10_begin : Cond.selects yX10_begin.cls yX10_begin yX10_begin ∈ GT := GT_c5 (i := 189) rfl rfl
theorem mlX11_341 : VL RX11 341 yX10_begin cX10_begin 3 none 2 := ⟨⟨GT_c5 (i := 187) rfl rfl, wmX10_begin, wsX10_begin, wiX10_begin⟩, wcX10_begin, wdX10_begin⟩
theorem wcX10_put : Cond.code yX10_put cX10_put 4 (some .long) ∈ GT := GT_c5 (i := 204) rfl rfl
theorem wiX10_put : Cond.initialized yX10_put.cls ∈ GT := GT_c1 (i := 12) rfl rfl
theorem wdX10_put : yX10_put.cls ≠ "java/lang/invoke/MethodHandle" ∧ yX10_put.cls ≠ "java/lang/invoke/VarHandle" ∧ (parseMethodDescriptor yX10_put.desc).map (fun d => d.parameters.length) = some 2 := ⟨pn11.1, pn11.2, pd26⟩
theorem wmX10_put : Cond.instanceMethod yX10_put ∈ GT := GT_c5 (i := 202) rfl rfl
theorem wsX10_put : Cond.selects yX10_put.cls yX10_put yX10_put ∈ GT := GT_c5 (i := 203) rfl rfl
theorem mlX11_350 : VL RX11 350 yX10_put cX10_put 4 (some .long) 2 := ⟨⟨GT_c5 (i := 201) rfl rfl, wmX10_put, wsX10_put, wiX10_put⟩, wcX10_put, wdX10_put⟩
theorem wcX6_soundOf : Cond.code yX6_soundOf cX6_soundOf 6 (some .int) ∈ GT := GT_c4 (i := 82) rfl rfl
theorem wiX6_soundOf : Cond.initialized yX6_soundOf.cls ∈ GT := GT_c1 (i := 6) rfl rfl
theorem wdX6_soundOf : yX6_soundOf.cls ≠ "java/lang/invoke/MethodHandle" ∧ yX6_soundOf.cls ≠ "java/lang/invoke/VarHandle" ∧ (parseMethodDescriptor yX6_soundOf.desc).map (fun d => d.parameters.length) = some 3 := ⟨pn7.1, pn7.2, pd24⟩
theorem wmX6_soundOf : Cond.instanceMethod yX6_soundOf ∈ GT := GT_c4 (i := 80) rfl rfl
theorem wsX6_soundOf : Cond.selects yX6_soundOf.cls yX6_soundOf yX6_soundOf ∈ GT := GT_c4 (i := 81) rfl rfl
theorem mlX11_359 : VL RX11 359 yX6_soundOf cX6_soundOf 6 (some .int) 3 := ⟨⟨GT_c4 (i := 79) rfl rfl, wmX6_soundOf, wsX6_soundOf, wiX6_soundOf⟩, wcX6_soundOf, wdX6_soundOf⟩
theorem wcX0_beachesBy : Cond.code yX0_beachesBy cX0_beachesBy 4 (some .int) ∈ GT := GT_c5 (i := 85) rfl rfl
theorem wiX0_beachesBy : Cond.initialized yX0_beachesBy.cls ∈ GT := GT_c1 (i := 10) rfl rfl
theorem wdX0_beachesBy : yX0_beachesBy.cls ≠ "java/lang/invoke/MethodHandle" ∧ yX0_beachesBy.cls ≠ "java/lang/invoke/VarHandle" ∧ (parseMethodDescriptor yX0_beachesBy.desc).map (fun d => d.parameters.length) = some 1 := ⟨pn1.1, pn1.2, pd5⟩
theorem wmX0_beachesBy : Cond.instanceMethod yX0_beachesBy ∈ GT := GT_c5 (i := 83) rfl rfl
theorem wsX0_beachesBy : Cond.selects yX0_beachesBy.cls yX0_beachesBy yX0_beachesBy ∈ GT := GT_c5 (i := 84) rfl rfl
theorem mlX11_363 : VL RX11 363 yX0_beachesBy cX0_beachesBy 4 (some .int) 1 := ⟨⟨GT_c5 (i := 82) rfl rfl, wmX0_beachesBy, wsX0_beachesBy, wiX0_beachesBy⟩, wcX0_beachesBy, wdX0_beachesBy⟩
theorem wcJ9_max_7cf53 : Cond.code yJ9_max_7cf53 cJ9_max_7cf53 2 (some .int) ∈ GT := GT_c3 (i := 56) rfl rfl
theorem wiJ9_max_7cf53 : Cond.initialized yJ9_max_7cf53.cls ∈ GT := GT_c1 (i := 18) rfl rfl
theorem wdJ9_max_7cf53 : yJ9_max_7cf53.cls ≠ "java/lang/invoke/MethodHandle" ∧ yJ9_max_7cf53.cls ≠ "java/lang/invoke/VarHandle" ∧ (parseMethodDescriptor yJ9_max_7cf53.desc).map (fun d => d.parameters.length) = some 2 := ⟨pn15.1, pn15.2, pd8⟩
theorem wmJ9_max_7cf53 : Cond.static yJ9_max_7cf53 ∈ GT := GT_c3 (i := 55) rfl rfl
theorem mlX11_368 : SL RX11 368 yJ9_max_7cf53 cJ9_max_7cf53 2 (some .int) 2 := ⟨⟨GT_c5 (i := 156) rfl rfl, wmJ9_max_7cf53, wiJ9_max_7cf53⟩, wcJ9_max_7cf53, wdJ9_max_7cf53⟩
theorem wcJ9_min_7cf53 : Cond.code yJ9_min_7cf53 cJ9_min_7cf53 2 (some .int) ∈ GT := GT_c3 (i := 59) rfl rfl
theorem wiJ9_min_7cf53 : Cond.initialized yJ9_min_7cf53.cls ∈ GT := GT_c1 (i := 18) rfl rfl
theorem wdJ9_min_7cf53 : yJ9_min_7cf53.cls ≠ "java/lang/invoke/MethodHandle" ∧ yJ9_min_7cf53.cls ≠ "java/lang/invoke/VarHandle" ∧ (parseMethodDescriptor yJ9_min_7cf53.desc).map (fun d => d.parameters.length) = some 2 := ⟨pn15.1, pn15.2, pd8⟩
theorem wmJ9_min_7cf53 : Cond.static yJ9_min_7cf53 ∈ GT := GT_c3 (i := 58) rfl rfl
theorem mlX0_33 : SL RX0 33 yJ9_min_7cf53 cJ9_min_7cf53 2 (some .int) 2 := ⟨⟨GT_c5 (i := 1) rfl rfl, wmJ9_min_7cf53, wiJ9_min_7cf53⟩, wcJ9_min_7cf53, wdJ9_min_7cf53⟩
theorem mlX0_39 : SL RX0 39 yJ9_max_7cf53 cJ9_max_7cf53 2 (some .int) 2 := ⟨⟨GT_c5 (i := 2) rfl rfl, wmJ9_max_7cf53, wiJ9_max_7cf53⟩, wcJ9_max_7cf53, wdJ9_max_7cf53⟩
theorem mlX0_54 : VL RX0 54 yX6_openCurrents cX6_openCurrents 7 (some .int) 2 := ⟨⟨GT_c5 (i := 3) rfl rfl, wmX6_openCurrents, wsX6_openCurrents, wiX6_openCurrents⟩, wcX6_openCurrents, wdX6_openCurrents⟩
theorem mlX0_60 : VL RX0 60 yX6_listeners cX6_listeners 7 (some .int) 3 := ⟨⟨GT_c5 (i := 4) rfl rfl, wmX6_listeners, wsX6_listeners, wiX6_listeners⟩, wcX6_listeners, wdX6_listeners⟩
theorem wcX0_fillIn : Cond.code yX0_fillIn cX0_fillIn 5 none ∈ GT := GT_c5 (i := 8) rfl rfl
theorem wiX0_fillIn : Cond.initialized yX0_fillIn.cls ∈ GT := GT_c1 (i := 10) rfl rfl
theorem wdX0_fillIn : yX0_fillIn.cls ≠ "java/lang/invoke/MethodHandle" ∧ yX0_fillIn.cls ≠ "java/lang/invoke/VarHandle" ∧ (parseMethodDescriptor yX0_fillIn.desc).map (fun d => d.parameters.length) = some 4 := ⟨pn1.1, pn1.2, pd64⟩
theorem wmX0_fillIn : Cond.instanceMethod yX0_fillIn ∈ GT := GT_c5 (i := 7) rfl rfl
theorem wsX0_fillIn : Cond.selects yX0_fillIn.cls yX0_fillIn yX0_fillIn ∈ GT := GT_s (i := 37) rfl rfl
theorem mlX0_69 : VL RX0 69 yX0_fillIn cX0_fillIn 5 none 4 := ⟨⟨GT_c5 (i := 5) rfl rfl, wmX0_fillIn, wsX0_fillIn, wiX0_fillIn⟩, wcX0_fillIn, wdX0_fillIn⟩
theorem wcJ7_fill_53178 : Cond.code yJ7_fill_53178 cJ7_fill_53178 4 none ∈ GT := GT_c1 (i := 216) rfl rfl
theorem wiJ7_fill_53178 : Cond.initialized yJ7_fill_53178.cls ∈ GT := GT_c1 (i := 7) rfl rfl
theorem wdJ7_fill_53178 : yJ7_fill_53178.cls ≠ "java/lang/invoke/MethodHandle" ∧ yJ7_fill_53178.cls ≠ "java/lang/invoke/VarHandle" ∧ (parseMethodDescriptor yJ7_fill_53178.desc).map (fun d => d.parameters.length) = some 2 := ⟨pn19.1, pn19.2, pd63⟩
theorem wmJ7_fill_53178 : Cond.static yJ7_fill_53178 ∈ GT := GT_c1 (i := 215) rfl rfl
theorem mlX0_80 : SL RX0 80 yJ7_fill_53178 cJ7_fill_53178 4 none 2 := ⟨⟨GT_c5 (i := 14) rfl rfl, wmJ7_fill_53178, wiJ7_fill_53178⟩, wcJ7_fill_53178, wdJ7_fill_53178⟩
theorem wcX0_arrivalBy : Cond.code yX0_arrivalBy cX0_arrivalBy 3 (some .int) ∈ GT := GT_c5 (i := 18) rfl rfl
theorem wiX0_arrivalBy : Cond.initialized yX0_arrivalBy.cls ∈ GT := GT_c1 (i := 10) rfl rfl
theorem wdX0_arrivalBy : yX0_arrivalBy.cls ≠ "java/lang/invoke/MethodHandle" ∧ yX0_arrivalBy.cls ≠ "java/lang/invoke/VarHandle" ∧ (parseMethodDescriptor yX0_arrivalBy.desc).map (fun d => d.parameters.length) = some 1 := ⟨pn1.1, pn1.2, pd5⟩
theorem wmX0_arrivalBy : Cond.instanceMethod yX0_arrivalBy ∈ GT := GT_c5 (i := 17) rfl rfl
theorem wsX0_arrivalBy : Cond.selects yX0_arrivalBy.cls yX0_arrivalBy yX0_arrivalBy ∈ GT := GT_s (i := 38) rfl rfl
theorem mlX0_86 : VL RX0 86 yX0_arrivalBy cX0_arrivalBy 3 (some .int) 1 := ⟨⟨GT_c5 (i := 15) rfl rfl, wmX0_arrivalBy, wsX0_arrivalBy, wiX0_arrivalBy⟩, wcX0_arrivalBy, wdX0_arrivalBy⟩
theorem wcX8_audible : Cond.code yX8_audible cX8_audible 5 (some .int) ∈ GT := GT_c4 (i := 131) rfl rfl
theorem wiX8_audible : Cond.initialized yX8_audible.cls ∈ GT := GT_c1 (i := 8) rfl rfl
theorem wdX8_audible : yX8_audible.cls ≠ "java/lang/invoke/MethodHandle" ∧ yX8_audible.cls ≠ "java/lang/invoke/VarHandle" ∧ (parseMethodDescriptor yX8_audible.desc).map (fun d => d.parameters.length) = some 2 := ⟨pn9.1, pn9.2, pd46⟩
theorem wmX8_audible : Cond.instanceMethod yX8_audible ∈ GT := GT_c4 (i := 129) rfl rfl
theorem wsX8_audible : Cond.selects yX8_audible.cls yX8_audible yX8_audible ∈ GT := GT_c4 (i := 130) rfl rfl
theorem mlX0_102 : VL RX0 102 yX8_audible cX8_audible 5 (some .int) 2 := ⟨⟨GT_c5 (i := 27) rfl rfl, wmX8_audible, wsX8_audible, wiX8_audible⟩, wcX8_audible, wdX8_audible⟩
theorem wcX0_hourHeardFrom : Cond.code yX0_hourHeardFrom cX0_hourHeardFrom 4 (some .int) ∈ GT := GT_c5 (i := 31) rfl rfl
theorem wiX0_hourHeardFrom : Cond.initialized yX0_hourHeardFrom.cls ∈ GT := GT_c1 (i := 10) rfl rfl
theorem wdX0_hourHeardFrom : yX0_hourHeardFrom.cls ≠ "java/lang/invoke/MethodHandle" ∧ yX0_hourHeardFrom.cls ≠ "java/lang/invoke/VarHandle" ∧ (parseMethodDescriptor yX0_hourHeardFrom.desc).map (fun d => d.parameters.length) = some 2 := ⟨pn1.1, pn1.2, pd8⟩
theorem wmX0_hourHeardFrom : Cond.instanceMethod yX0_hourHeardFrom ∈ GT := GT_c5 (i := 30) rfl rfl
theorem wsX0_hourHeardFrom : Cond.selects yX0_hourHeardFrom.cls yX0_hourHeardFrom yX0_hourHeardFrom ∈ GT := GT_s (i := 39) rfl rfl
theorem mlX0_106 : VL RX0 106 yX0_hourHeardFrom cX0_hourHeardFrom 4 (some .int) 2 := ⟨⟨GT_c5 (i := 28) rfl rfl, wmX0_hourHeardFrom, wsX0_hourHeardFrom, wiX0_hourHeardFrom⟩, wcX0_hourHeardFrom, wdX0_hourHeardFrom⟩
theorem mlX0_109 : VL RX0 109 yX0_hourHeard cX0_hourHeard 5 (some .int) 1 := ⟨⟨GT_c5 (i := 23) rfl rfl, wmX0_hourHeard, wsX0_hourHeard, wiX0_hourHeard⟩, wcX0_hourHeard, wdX0_hourHeard⟩
theorem mlX0_112 : VL RX0 112 yX0_send cX0_send 8 none 3 := ⟨⟨GT_c5 (i := 57) rfl rfl, wmX0_send, wsX0_send, wiX0_send⟩, wcX0_send, wdX0_send⟩
theorem mlX0_116 : SL RX0 116 yJ6_bitCount_0f7a4 cJ6_bitCount_0f7a4 1 (some .int) 1 := ⟨⟨GT_c5 (i := 58) rfl rfl, wmJ6_bitCount_0f7a4, wiJ6_bitCount_0f7a4⟩, wcJ6_bitCount_0f7a4, wdJ6_bitCount_0f7a4⟩
theorem mlX1_25 : VL RX1 25 yX8_copyFrom cX8_copyFrom 2 none 1 := ⟨⟨GT_c4 (i := 93) rfl rfl, wmX8_copyFrom, wsX8_copyFrom, wiX8_copyFrom⟩, wcX8_copyFrom, wdX8_copyFrom⟩
theorem mlX1_29 : SL RX1 29 yJ9_min_7cf53 cJ9_min_7cf53 2 (some .int) 2 := ⟨⟨GT_c4 (i := 97) rfl rfl, wmJ9_min_7cf53, wiJ9_min_7cf53⟩, wcJ9_min_7cf53, wdJ9_min_7cf53⟩
theorem wcJ9_floorMod_7cf53 : Cond.code yJ9_floorMod_7cf53 cJ9_floorMod_7cf53 3 (some .int) ∈ GT := GT_c3 (i := 237) rfl rfl
theorem wiJ9_floorMod_7cf53 : Cond.initialized yJ9_floorMod_7cf53.cls ∈ GT := GT_c1 (i := 18) rfl rfl
theorem wdJ9_floorMod_7cf53 : yJ9_floorMod_7cf53.cls ≠ "java/lang/invoke/MethodHandle" ∧ yJ9_floorMod_7cf53.cls ≠ "java/lang/invoke/VarHandle" ∧ (parseMethodDescriptor yJ9_floorMod_7cf53.desc).map (fun d => d.parameters.length) = some 2 := ⟨pn15.1, pn15.2, pd8⟩
theorem wmJ9_floorMod_7cf53 : Cond.static yJ9_floorMod_7cf53 ∈ GT := GT_c3 (i := 236) rfl rfl
theorem mlX1_35 : SL RX1 35 yJ9_floorMod_7cf53 cJ9_floorMod_7cf53 3 (some .int) 2 := ⟨⟨GT_c4 (i := 174) rfl rfl, wmJ9_floorMod_7cf53, wiJ9_floorMod_7cf53⟩, wcJ9_floorMod_7cf53, wdJ9_floorMod_7cf53⟩
theorem mlX3_25 : SL RX3 25 yJ7_fill_53178 cJ7_fill_53178 4 none 2 := ⟨⟨GT_c3 (i := 106) rfl rfl, wmJ7_fill_53178, wiJ7_fill_53178⟩, wcJ7_fill_53178, wdJ7_fill_53178⟩
theorem mlX3_37 : SL RX3 37 yJ9_min_7cf53 cJ9_min_7cf53 2 (some .int) 2 := ⟨⟨GT_c4 (i := 10) rfl rfl, wmJ9_min_7cf53, wiJ9_min_7cf53⟩, wcJ9_min_7cf53, wdJ9_min_7cf53⟩
theorem wcX3_joined : Cond.code yX3_joined cX3_joined 5 (some .int) ∈ GT := GT_c4 (i := 13) rfl rfl
theorem wiX3_joined : Cond.initialized yX3_joined.cls ∈ GT := GT_c1 (i := 3) rfl rfl
theorem wdX3_joined : yX3_joined.cls ≠ "java/lang/invoke/MethodHandle" ∧ yX3_joined.cls ≠ "java/lang/invoke/VarHandle" ∧ (parseMethodDescriptor yX3_joined.desc).map (fun d => d.parameters.length) = some 3 := ⟨pn4.1, pn4.2, pd27⟩
theorem wmX3_joined : Cond.static yX3_joined ∈ GT := GT_c4 (i := 12) rfl rfl
theorem mlX3_43 : SL RX3 43 yX3_joined cX3_joined 5 (some .int) 3 := ⟨⟨GT_c4 (i := 11) rfl rfl, wmX3_joined, wiX3_joined⟩, wcX3_joined, wdX3_joined⟩
theorem wcJ9_min_f86c9 : Cond.code yJ9_min_f86c9 cJ9_min_f86c9 4 (some .long) ∈ GT := GT_c4 (i := 18) rfl rfl
theorem wiJ9_min_f86c9 : Cond.initialized yJ9_min_f86c9.cls ∈ GT := GT_c1 (i := 18) rfl rfl
theorem wdJ9_min_f86c9 : yJ9_min_f86c9.cls ≠ "java/lang/invoke/MethodHandle" ∧ yJ9_min_f86c9.cls ≠ "java/lang/invoke/VarHandle" ∧ (parseMethodDescriptor yJ9_min_f86c9.desc).map (fun d => d.parameters.length) = some 2 := ⟨pn15.1, pn15.2, pd40⟩
theorem wmJ9_min_f86c9 : Cond.static yJ9_min_f86c9 ∈ GT := GT_c4 (i := 17) rfl rfl
theorem mlX3_51 : SL RX3 51 yJ9_min_f86c9 cJ9_min_f86c9 4 (some .long) 2 := ⟨⟨GT_c4 (i := 16) rfl rfl, wmJ9_min_f86c9, wiJ9_min_f86c9⟩, wcJ9_min_f86c9, wdJ9_min_f86c9⟩
theorem wcJ9_max_f86c9 : Cond.code yJ9_max_f86c9 cJ9_max_f86c9 4 (some .long) ∈ GT := GT_c4 (i := 21) rfl rfl
theorem wiJ9_max_f86c9 : Cond.initialized yJ9_max_f86c9.cls ∈ GT := GT_c1 (i := 18) rfl rfl
theorem wdJ9_max_f86c9 : yJ9_max_f86c9.cls ≠ "java/lang/invoke/MethodHandle" ∧ yJ9_max_f86c9.cls ≠ "java/lang/invoke/VarHandle" ∧ (parseMethodDescriptor yJ9_max_f86c9.desc).map (fun d => d.parameters.length) = some 2 := ⟨pn15.1, pn15.2, pd40⟩
theorem wmJ9_max_f86c9 : Cond.static yJ9_max_f86c9 ∈ GT := GT_c4 (i := 20) rfl rfl
theorem mlX3_54 : SL RX3 54 yJ9_max_f86c9 cJ9_max_f86c9 4 (some .long) 2 := ⟨⟨GT_c4 (i := 19) rfl rfl, wmJ9_max_f86c9, wiJ9_max_f86c9⟩, wcJ9_max_f86c9, wdJ9_max_f86c9⟩
theorem wcX4_pairFrom : Cond.code yX4_pairFrom cX4_pairFrom 6 none ∈ GT := GT_c5 (i := 181) rfl rfl
theorem wiX4_pairFrom : Cond.initialized yX4_pairFrom.cls ∈ GT := GT_c1 (i := 11) rfl rfl
theorem wdX4_pairFrom : yX4_pairFrom.cls ≠ "java/lang/invoke/MethodHandle" ∧ yX4_pairFrom.cls ≠ "java/lang/invoke/VarHandle" ∧ (parseMethodDescriptor yX4_pairFrom.desc).map (fun d => d.parameters.length) = some 4 := ⟨pn5.1, pn5.2, pd19⟩
theorem wmX4_pairFrom : Cond.instanceMethod yX4_pairFrom ∈ GT := GT_c5 (i := 180) rfl rfl
theorem wsX4_pairFrom : Cond.selects yX4_pairFrom.cls yX4_pairFrom yX4_pairFrom ∈ GT := GT_s (i := 48) rfl rfl
theorem mlX4_29 : VL RX4 29 yX4_pairFrom cX4_pairFrom 6 none 4 := ⟨⟨GT_c5 (i := 178) rfl rfl, wmX4_pairFrom, wsX4_pairFrom, wiX4_pairFrom⟩, wcX4_pairFrom, wdX4_pairFrom⟩
theorem wcX9_split : Cond.code yX9_split cX9_split 7 none ∈ GT := GT_c2 (i := 209) rfl rfl
theorem wiX9_split : Cond.initialized yX9_split.cls ∈ GT := GT_c1 (i := 5) rfl rfl
theorem wdX9_split : yX9_split.cls ≠ "java/lang/invoke/MethodHandle" ∧ yX9_split.cls ≠ "java/lang/invoke/VarHandle" ∧ (parseMethodDescriptor yX9_split.desc).map (fun d => d.parameters.length) = some 2 := ⟨pn10.1, pn10.2, pd58⟩
theorem wmX9_split : Cond.instanceMethod yX9_split ∈ GT := GT_c2 (i := 207) rfl rfl
theorem wsX9_split : Cond.selects yX9_split.cls yX9_split yX9_split ∈ GT := GT_c2 (i := 208) rfl rfl
theorem mlX5_25 : VL RX5 25 yX9_split cX9_split 7 none 2 := ⟨⟨GT_c2 (i := 206) rfl rfl, wmX9_split, wsX9_split, wiX9_split⟩, wcX9_split, wdX9_split⟩
theorem wcX7_clear : Cond.code yX7_clear cX7_clear 1 none ∈ GT := GT_c3 (i := 101) rfl rfl
theorem wiX7_clear : Cond.initialized yX7_clear.cls ∈ GT := GT_c1 (i := 2) rfl rfl
theorem wdX7_clear : yX7_clear.cls ≠ "java/lang/invoke/MethodHandle" ∧ yX7_clear.cls ≠ "java/lang/invoke/VarHandle" ∧ (parseMethodDescriptor yX7_clear.desc).map (fun d => d.parameters.length) = some 0 := ⟨pn8.1, pn8.2, pd2⟩
theorem wmX7_clear : Cond.instanceMethod yX7_clear ∈ GT := GT_c3 (i := 99) rfl rfl
theorem wsX7_clear : Cond.selects yX7_clear.cls yX7_clear yX7_clear ∈ GT := GT_c3 (i := 100) rfl rfl
theorem mlX5_29 : VL RX5 29 yX7_clear cX7_clear 1 none 0 := ⟨⟨GT_c3 (i := 98) rfl rfl, wmX7_clear, wsX7_clear, wiX7_clear⟩, wcX7_clear, wdX7_clear⟩
theorem wcX5_firstLine : Cond.code yX5_firstLine cX5_firstLine 2 (some .boolean) ∈ GT := GT_c3 (i := 110) rfl rfl
theorem wiX5_firstLine : Cond.initialized yX5_firstLine.cls ∈ GT := GT_c1 (i := 4) rfl rfl
theorem wdX5_firstLine : yX5_firstLine.cls ≠ "java/lang/invoke/MethodHandle" ∧ yX5_firstLine.cls ≠ "java/lang/invoke/VarHandle" ∧ (parseMethodDescriptor yX5_firstLine.desc).map (fun d => d.parameters.length) = some 0 := ⟨pn6.1, pn6.2, pd3⟩
theorem wmX5_firstLine : Cond.instanceMethod yX5_firstLine ∈ GT := GT_c3 (i := 109) rfl rfl
theorem wsX5_firstLine : Cond.selects yX5_firstLine.cls yX5_firstLine yX5_firstLine ∈ GT := GT_s (i := 2) rfl rfl
theorem mlX5_42 : VL RX5 42 yX5_firstLine cX5_firstLine 2 (some .boolean) 0 := ⟨⟨GT_c3 (i := 107) rfl rfl, wmX5_firstLine, wsX5_firstLine, wiX5_firstLine⟩, wcX5_firstLine, wdX5_firstLine⟩
theorem wcX5_kind : Cond.code yX5_kind cX5_kind 1 (some .int) ∈ GT := GT_c3 (i := 118) rfl rfl
theorem wiX5_kind : Cond.initialized yX5_kind.cls ∈ GT := GT_c1 (i := 4) rfl rfl
theorem wdX5_kind : yX5_kind.cls ≠ "java/lang/invoke/MethodHandle" ∧ yX5_kind.cls ≠ "java/lang/invoke/VarHandle" ∧ (parseMethodDescriptor yX5_kind.desc).map (fun d => d.parameters.length) = some 0 := ⟨pn6.1, pn6.2, pd1⟩
theorem wmX5_kind : Cond.instanceMethod yX5_kind ∈ GT := GT_c3 (i := 117) rfl rfl
theorem wsX5_kind : Cond.selects yX5_kind.cls yX5_kind yX5_kind ∈ GT := GT_s (i := 4) rfl rfl
theorem mlX5_46 : VL RX5 46 yX5_kind cX5_kind 1 (some .int) 0 := ⟨⟨GT_c3 (i := 115) rfl rfl, wmX5_kind, wsX5_kind, wiX5_kind⟩, wcX5_kind, wdX5_kind⟩
theorem wcX5_nextLine : Cond.code yX5_nextLine cX5_nextLine 1 (some .boolean) ∈ GT := GT_c3 (i := 134) rfl rfl
theorem wiX5_nextLine : Cond.initialized yX5_nextLine.cls ∈ GT := GT_c1 (i := 4) rfl rfl
theorem wdX5_nextLine : yX5_nextLine.cls ≠ "java/lang/invoke/MethodHandle" ∧ yX5_nextLine.cls ≠ "java/lang/invoke/VarHandle" ∧ (parseMethodDescriptor yX5_nextLine.desc).map (fun d => d.parameters.length) = some 0 := ⟨pn6.1, pn6.2, pd3⟩
theorem wmX5_nextLine : Cond.instanceMethod yX5_nextLine ∈ GT := GT_c3 (i := 133) rfl rfl
theorem wsX5_nextLine : Cond.selects yX5_nextLine.cls yX5_nextLine yX5_nextLine ∈ GT := GT_s (i := 8) rfl rfl
theorem mlX5_50 : VL RX5 50 yX5_nextLine cX5_nextLine 1 (some .boolean) 0 := ⟨⟨GT_c3 (i := 131) rfl rfl, wmX5_nextLine, wsX5_nextLine, wiX5_nextLine⟩, wcX5_nextLine, wdX5_nextLine⟩
theorem wcX5_accept : Cond.code yX5_accept cX5_accept 2 (some .boolean) ∈ GT := GT_c3 (i := 114) rfl rfl
theorem wiX5_accept : Cond.initialized yX5_accept.cls ∈ GT := GT_c1 (i := 4) rfl rfl
theorem wdX5_accept : yX5_accept.cls ≠ "java/lang/invoke/MethodHandle" ∧ yX5_accept.cls ≠ "java/lang/invoke/VarHandle" ∧ (parseMethodDescriptor yX5_accept.desc).map (fun d => d.parameters.length) = some 1 := ⟨pn6.1, pn6.2, pd7⟩
theorem wmX5_accept : Cond.instanceMethod yX5_accept ∈ GT := GT_c3 (i := 113) rfl rfl
theorem wsX5_accept : Cond.selects yX5_accept.cls yX5_accept yX5_accept ∈ GT := GT_s (i := 3) rfl rfl
theorem mlX5_53 : VL RX5 53 yX5_accept cX5_accept 2 (some .boolean) 1 := ⟨⟨GT_c3 (i := 111) rfl rfl, wmX5_accept, wsX5_accept, wiX5_accept⟩, wcX5_accept, wdX5_accept⟩
theorem wcX5_blame : Cond.code yX5_blame cX5_blame 2 (some .boolean) ∈ GT := GT_c3 (i := 126) rfl rfl
theorem wiX5_blame : Cond.initialized yX5_blame.cls ∈ GT := GT_c1 (i := 4) rfl rfl
theorem wdX5_blame : yX5_blame.cls ≠ "java/lang/invoke/MethodHandle" ∧ yX5_blame.cls ≠ "java/lang/invoke/VarHandle" ∧ (parseMethodDescriptor yX5_blame.desc).map (fun d => d.parameters.length) = some 1 := ⟨pn6.1, pn6.2, pd7⟩
theorem wmX5_blame : Cond.instanceMethod yX5_blame ∈ GT := GT_c3 (i := 125) rfl rfl
theorem wsX5_blame : Cond.selects yX5_blame.cls yX5_blame yX5_blame ∈ GT := GT_s (i := 6) rfl rfl
theorem mlX5_65 : VL RX5 65 yX5_blame cX5_blame 2 (some .boolean) 1 := ⟨⟨GT_c3 (i := 123) rfl rfl, wmX5_blame, wsX5_blame, wiX5_blame⟩, wcX5_blame, wdX5_blame⟩
theorem wcX5_refuse : Cond.code yX5_refuse cX5_refuse 1 (some .boolean) ∈ GT := GT_c3 (i := 122) rfl rfl
theorem wiX5_refuse : Cond.initialized yX5_refuse.cls ∈ GT := GT_c1 (i := 4) rfl rfl
theorem wdX5_refuse : yX5_refuse.cls ≠ "java/lang/invoke/MethodHandle" ∧ yX5_refuse.cls ≠ "java/lang/invoke/VarHandle" ∧ (parseMethodDescriptor yX5_refuse.desc).map (fun d => d.parameters.length) = some 0 := ⟨pn6.1, pn6.2, pd3⟩
theorem wmX5_refuse : Cond.instanceMethod yX5_refuse ∈ GT := GT_c3 (i := 121) rfl rfl
theorem wsX5_refuse : Cond.selects yX5_refuse.cls yX5_refuse yX5_refuse ∈ GT := GT_s (i := 5) rfl rfl
theorem mlX5_68 : VL RX5 68 yX5_refuse cX5_refuse 1 (some .boolean) 0 := ⟨⟨GT_c3 (i := 119) rfl rfl, wmX5_refuse, wsX5_refuse, wiX5_refuse⟩, wcX5_refuse, wdX5_refuse⟩
theorem wcX5_amount : Cond.code yX5_amount cX5_amount 4 (some .int) ∈ GT := GT_c3 (i := 130) rfl rfl
theorem wiX5_amount : Cond.initialized yX5_amount.cls ∈ GT := GT_c1 (i := 4) rfl rfl
theorem wdX5_amount : yX5_amount.cls ≠ "java/lang/invoke/MethodHandle" ∧ yX5_amount.cls ≠ "java/lang/invoke/VarHandle" ∧ (parseMethodDescriptor yX5_amount.desc).map (fun d => d.parameters.length) = some 2 := ⟨pn6.1, pn6.2, pd8⟩
theorem wmX5_amount : Cond.instanceMethod yX5_amount ∈ GT := GT_c3 (i := 129) rfl rfl
theorem wsX5_amount : Cond.selects yX5_amount.cls yX5_amount yX5_amount ∈ GT := GT_s (i := 7) rfl rfl
theorem mlX5_71 : VL RX5 71 yX5_amount cX5_amount 4 (some .int) 2 := ⟨⟨GT_c3 (i := 127) rfl rfl, wmX5_amount, wsX5_amount, wiX5_amount⟩, wcX5_amount, wdX5_amount⟩
theorem wcX5_currentLine : Cond.code yX5_currentLine cX5_currentLine 2 (some .boolean) ∈ GT := GT_c3 (i := 138) rfl rfl
theorem wiX5_currentLine : Cond.initialized yX5_currentLine.cls ∈ GT := GT_c1 (i := 4) rfl rfl
theorem wdX5_currentLine : yX5_currentLine.cls ≠ "java/lang/invoke/MethodHandle" ∧ yX5_currentLine.cls ≠ "java/lang/invoke/VarHandle" ∧ (parseMethodDescriptor yX5_currentLine.desc).map (fun d => d.parameters.length) = some 0 := ⟨pn6.1, pn6.2, pd3⟩
theorem wmX5_currentLine : Cond.instanceMethod yX5_currentLine ∈ GT := GT_c3 (i := 137) rfl rfl
theorem wsX5_currentLine : Cond.selects yX5_currentLine.cls yX5_currentLine yX5_currentLine ∈ GT := GT_s (i := 9) rfl rfl
theorem mlX5_78 : VL RX5 78 yX5_currentLine cX5_currentLine 2 (some .boolean) 0 := ⟨⟨GT_c3 (i := 135) rfl rfl, wmX5_currentLine, wsX5_currentLine, wiX5_currentLine⟩, wcX5_currentLine, wdX5_currentLine⟩
theorem wcX5_personLine : Cond.code yX5_personLine cX5_personLine 4 (some .boolean) ∈ GT := GT_c3 (i := 142) rfl rfl
theorem wiX5_personLine : Cond.initialized yX5_personLine.cls ∈ GT := GT_c1 (i := 4) rfl rfl
theorem wdX5_personLine : yX5_personLine.cls ≠ "java/lang/invoke/MethodHandle" ∧ yX5_personLine.cls ≠ "java/lang/invoke/VarHandle" ∧ (parseMethodDescriptor yX5_personLine.desc).map (fun d => d.parameters.length) = some 0 := ⟨pn6.1, pn6.2, pd3⟩
theorem wmX5_personLine : Cond.instanceMethod yX5_personLine ∈ GT := GT_c3 (i := 141) rfl rfl
theorem wsX5_personLine : Cond.selects yX5_personLine.cls yX5_personLine yX5_personLine ∈ GT := GT_s (i := 10) rfl rfl
theorem mlX5_81 : VL RX5 81 yX5_personLine cX5_personLine 4 (some .boolean) 0 := ⟨⟨GT_c3 (i := 139) rfl rfl, wmX5_personLine, wsX5_personLine, wiX5_personLine⟩, wcX5_personLine, wdX5_personLine⟩
theorem wcX5_shellLine : Cond.code yX5_shellLine cX5_shellLine 2 (some .boolean) ∈ GT := GT_c3 (i := 146) rfl rfl
theorem wiX5_shellLine : Cond.initialized yX5_shellLine.cls ∈ GT := GT_c1 (i := 4) rfl rfl
theorem wdX5_shellLine : yX5_shellLine.cls ≠ "java/lang/invoke/MethodHandle" ∧ yX5_shellLine.cls ≠ "java/lang/invoke/VarHandle" ∧ (parseMethodDescriptor yX5_shellLine.desc).map (fun d => d.parameters.length) = some 0 := ⟨pn6.1, pn6.2, pd3⟩
theorem wmX5_shellLine : Cond.instanceMethod yX5_shellLine ∈ GT := GT_c3 (i := 145) rfl rfl
theorem wsX5_shellLine : Cond.selects yX5_shellLine.cls yX5_shellLine yX5_shellLine ∈ GT := GT_s (i := 11) rfl rfl
theorem mlX5_84 : VL RX5 84 yX5_shellLine cX5_shellLine 2 (some .boolean) 0 := ⟨⟨GT_c3 (i := 143) rfl rfl, wmX5_shellLine, wsX5_shellLine, wiX5_shellLine⟩, wcX5_shellLine, wdX5_shellLine⟩
theorem wcX5_lawLine : Cond.code yX5_lawLine cX5_lawLine 2 (some .boolean) ∈ GT := GT_c3 (i := 150) rfl rfl
theorem wiX5_lawLine : Cond.initialized yX5_lawLine.cls ∈ GT := GT_c1 (i := 4) rfl rfl
theorem wdX5_lawLine : yX5_lawLine.cls ≠ "java/lang/invoke/MethodHandle" ∧ yX5_lawLine.cls ≠ "java/lang/invoke/VarHandle" ∧ (parseMethodDescriptor yX5_lawLine.desc).map (fun d => d.parameters.length) = some 1 := ⟨pn6.1, pn6.2, pd7⟩
theorem wmX5_lawLine : Cond.instanceMethod yX5_lawLine ∈ GT := GT_c3 (i := 149) rfl rfl
theorem wsX5_lawLine : Cond.selects yX5_lawLine.cls yX5_lawLine yX5_lawLine ∈ GT := GT_s (i := 12) rfl rfl
theorem mlX5_87 : VL RX5 87 yX5_lawLine cX5_lawLine 2 (some .boolean) 1 := ⟨⟨GT_c3 (i := 147) rfl rfl, wmX5_lawLine, wsX5_lawLine, wiX5_lawLine⟩, wcX5_lawLine, wdX5_lawLine⟩
theorem wcX5_sum : Cond.code yX5_sum cX5_sum 4 (some .boolean) ∈ GT := GT_c3 (i := 158) rfl rfl
theorem wiX5_sum : Cond.initialized yX5_sum.cls ∈ GT := GT_c1 (i := 4) rfl rfl
theorem wdX5_sum : yX5_sum.cls ≠ "java/lang/invoke/MethodHandle" ∧ yX5_sum.cls ≠ "java/lang/invoke/VarHandle" ∧ (parseMethodDescriptor yX5_sum.desc).map (fun d => d.parameters.length) = some 1 := ⟨pn6.1, pn6.2, pd7⟩
theorem wmX5_sum : Cond.instanceMethod yX5_sum ∈ GT := GT_c3 (i := 157) rfl rfl
theorem wsX5_sum : Cond.selects yX5_sum.cls yX5_sum yX5_sum ∈ GT := GT_s (i := 13) rfl rfl
theorem mlX5_90 : VL RX5 90 yX5_sum cX5_sum 4 (some .boolean) 1 := ⟨⟨GT_c3 (i := 155) rfl rfl, wmX5_sum, wsX5_sum, wiX5_sum⟩, wcX5_sum, wdX5_sum⟩
theorem wcX5_truth : Cond.code yX5_truth cX5_truth 3 (some .boolean) ∈ GT := GT_c3 (i := 182) rfl rfl
theorem wiX5_truth : Cond.initialized yX5_truth.cls ∈ GT := GT_c1 (i := 4) rfl rfl
theorem wdX5_truth : yX5_truth.cls ≠ "java/lang/invoke/MethodHandle" ∧ yX5_truth.cls ≠ "java/lang/invoke/VarHandle" ∧ (parseMethodDescriptor yX5_truth.desc).map (fun d => d.parameters.length) = some 1 := ⟨pn6.1, pn6.2, pd7⟩
theorem wmX5_truth : Cond.instanceMethod yX5_truth ∈ GT := GT_c3 (i := 181) rfl rfl
theorem wsX5_truth : Cond.selects yX5_truth.cls yX5_truth yX5_truth ∈ GT := GT_s (i := 18) rfl rfl
theorem mlX5_93 : VL RX5 93 yX5_truth cX5_truth 3 (some .boolean) 1 := ⟨⟨GT_c3 (i := 179) rfl rfl, wmX5_truth, wsX5_truth, wiX5_truth⟩, wcX5_truth, wdX5_truth⟩
theorem wcX3_begin : Cond.code yX3_begin cX3_begin 2 none ∈ GT := GT_c3 (i := 154) rfl rfl
theorem wiX3_begin : Cond.initialized yX3_begin.cls ∈ GT := GT_c1 (i := 3) rfl rfl
theorem wdX3_begin : yX3_begin.cls ≠ "java/lang/invoke/MethodHandle" ∧ yX3_begin.cls ≠ "java/lang/invoke/VarHandle" ∧ (parseMethodDescriptor yX3_begin.desc).map (fun d => d.parameters.length) = some 1 := ⟨pn4.1, pn4.2, pd6⟩
theorem wmX3_begin : Cond.instanceMethod yX3_begin ∈ GT := GT_c3 (i := 152) rfl rfl
theorem wsX3_begin : Cond.selects yX3_begin.cls yX3_begin yX3_begin ∈ GT := GT_c3 (i := 153) rfl rfl
theorem mlX5_139 : VL RX5 139 yX3_begin cX3_begin 2 none 1 := ⟨⟨GT_c3 (i := 151) rfl rfl, wmX3_begin, wsX3_begin, wiX3_begin⟩, wcX3_begin, wdX3_begin⟩
theorem wcX5_both : Cond.code yX5_both cX5_both 3 (some .boolean) ∈ GT := GT_c3 (i := 186) rfl rfl
theorem wiX5_both : Cond.initialized yX5_both.cls ∈ GT := GT_c1 (i := 4) rfl rfl
theorem wdX5_both : yX5_both.cls ≠ "java/lang/invoke/MethodHandle" ∧ yX5_both.cls ≠ "java/lang/invoke/VarHandle" ∧ (parseMethodDescriptor yX5_both.desc).map (fun d => d.parameters.length) = some 1 := ⟨pn6.1, pn6.2, pd7⟩
theorem wmX5_both : Cond.instanceMethod yX5_both ∈ GT := GT_c3 (i := 185) rfl rfl
theorem wsX5_both : Cond.selects yX5_both.cls yX5_both yX5_both ∈ GT := GT_s (i := 19) rfl rfl
theorem mlX5_145 : VL RX5 145 yX5_both cX5_both 3 (some .boolean) 1 := ⟨⟨GT_c3 (i := 183) rfl rfl, wmX5_both, wsX5_both, wiX5_both⟩, wcX5_both, wdX5_both⟩
theorem wcX3_add : Cond.code yX3_add cX3_add 3 none ∈ GT := GT_c3 (i := 178) rfl rfl
theorem wiX3_add : Cond.initialized yX3_add.cls ∈ GT := GT_c1 (i := 3) rfl rfl
theorem wdX3_add : yX3_add.cls ≠ "java/lang/invoke/MethodHandle" ∧ yX3_add.cls ≠ "java/lang/invoke/VarHandle" ∧ (parseMethodDescriptor yX3_add.desc).map (fun d => d.parameters.length) = some 2 := ⟨pn4.1, pn4.2, pd9⟩
theorem wmX3_add : Cond.instanceMethod yX3_add ∈ GT := GT_c3 (i := 176) rfl rfl
theorem wsX3_add : Cond.selects yX3_add.cls yX3_add yX3_add ∈ GT := GT_c3 (i := 177) rfl rfl
theorem mlX5_148 : VL RX5 148 yX3_add cX3_add 3 none 2 := ⟨⟨GT_c3 (i := 175) rfl rfl, wmX3_add, wsX3_add, wiX3_add⟩, wcX3_add, wdX3_add⟩
theorem wcX5_unit : Cond.code yX5_unit cX5_unit 3 (some .boolean) ∈ GT := GT_c3 (i := 190) rfl rfl
theorem wiX5_unit : Cond.initialized yX5_unit.cls ∈ GT := GT_c1 (i := 4) rfl rfl
theorem wdX5_unit : yX5_unit.cls ≠ "java/lang/invoke/MethodHandle" ∧ yX5_unit.cls ≠ "java/lang/invoke/VarHandle" ∧ (parseMethodDescriptor yX5_unit.desc).map (fun d => d.parameters.length) = some 1 := ⟨pn6.1, pn6.2, pd7⟩
theorem wmX5_unit : Cond.instanceMethod yX5_unit ∈ GT := GT_c3 (i := 189) rfl rfl
theorem wsX5_unit : Cond.selects yX5_unit.cls yX5_unit yX5_unit ∈ GT := GT_s (i := 20) rfl rfl
theorem mlX5_152 : VL RX5 152 yX5_unit cX5_unit 3 (some .boolean) 1 := ⟨⟨GT_c3 (i := 187) rfl rfl, wmX5_unit, wsX5_unit, wiX5_unit⟩, wcX5_unit, wdX5_unit⟩
theorem wcX5_goesDeeper : Cond.code yX5_goesDeeper cX5_goesDeeper 2 (some .boolean) ∈ GT := GT_c3 (i := 170) rfl rfl
theorem wiX5_goesDeeper : Cond.initialized yX5_goesDeeper.cls ∈ GT := GT_c1 (i := 4) rfl rfl
theorem wdX5_goesDeeper : yX5_goesDeeper.cls ≠ "java/lang/invoke/MethodHandle" ∧ yX5_goesDeeper.cls ≠ "java/lang/invoke/VarHandle" ∧ (parseMethodDescriptor yX5_goesDeeper.desc).map (fun d => d.parameters.length) = some 1 := ⟨pn6.1, pn6.2, pd7⟩
theorem wmX5_goesDeeper : Cond.instanceMethod yX5_goesDeeper ∈ GT := GT_c3 (i := 169) rfl rfl
theorem wsX5_goesDeeper : Cond.selects yX5_goesDeeper.cls yX5_goesDeeper yX5_goesDeeper ∈ GT := GT_s (i := 16) rfl rfl
theorem mlX5_155 : VL RX5 155 yX5_goesDeeper cX5_goesDeeper 2 (some .boolean) 1 := ⟨⟨GT_c3 (i := 167) rfl rfl, wmX5_goesDeeper, wsX5_goesDeeper, wiX5_goesDeeper⟩, wcX5_goesDeeper, wdX5_goesDeeper⟩
theorem wcX5_comparing : Cond.code yX5_comparing cX5_comparing 1 (some .int) ∈ GT := GT_c3 (i := 193) rfl rfl
theorem wiX5_comparing : Cond.initialized yX5_comparing.cls ∈ GT := GT_c1 (i := 4) rfl rfl
theorem wdX5_comparing : yX5_comparing.cls ≠ "java/lang/invoke/MethodHandle" ∧ yX5_comparing.cls ≠ "java/lang/invoke/VarHandle" ∧ (parseMethodDescriptor yX5_comparing.desc).map (fun d => d.parameters.length) = some 1 := ⟨pn6.1, pn6.2, pd5⟩
theorem wmX5_comparing : Cond.static yX5_comparing ∈ GT := GT_c3 (i := 192) rfl rfl
theorem mlX5_158 : SL RX5 158 yX5_comparing cX5_comparing 1 (some .int) 1 := ⟨⟨GT_c3 (i := 191) rfl rfl, wmX5_comparing, wiX5_comparing⟩, wcX5_comparing, wdX5_comparing⟩
theorem wcX5_term : Cond.code yX5_term cX5_term 3 (some .boolean) ∈ GT := GT_c3 (i := 162) rfl rfl
theorem wiX5_term : Cond.initialized yX5_term.cls ∈ GT := GT_c1 (i := 4) rfl rfl
theorem wdX5_term : yX5_term.cls ≠ "java/lang/invoke/MethodHandle" ∧ yX5_term.cls ≠ "java/lang/invoke/VarHandle" ∧ (parseMethodDescriptor yX5_term.desc).map (fun d => d.parameters.length) = some 1 := ⟨pn6.1, pn6.2, pd7⟩
theorem wmX5_term : Cond.instanceMethod yX5_term ∈ GT := GT_c3 (i := 161) rfl rfl
theorem wsX5_term : Cond.selects yX5_term.cls yX5_term yX5_term ∈ GT := GT_s (i := 14) rfl rfl
theorem mlX5_162 : VL RX5 162 yX5_term cX5_term 3 (some .boolean) 1 := ⟨⟨GT_c3 (i := 159) rfl rfl, wmX5_term, wsX5_term, wiX5_term⟩, wcX5_term, wdX5_term⟩
theorem wcX5_atom : Cond.code yX5_atom cX5_atom 3 (some .boolean) ∈ GT := GT_c3 (i := 166) rfl rfl
theorem wiX5_atom : Cond.initialized yX5_atom.cls ∈ GT := GT_c1 (i := 4) rfl rfl
theorem wdX5_atom : yX5_atom.cls ≠ "java/lang/invoke/MethodHandle" ∧ yX5_atom.cls ≠ "java/lang/invoke/VarHandle" ∧ (parseMethodDescriptor yX5_atom.desc).map (fun d => d.parameters.length) = some 1 := ⟨pn6.1, pn6.2, pd7⟩
theorem wmX5_atom : Cond.instanceMethod yX5_atom ∈ GT := GT_c3 (i := 165) rfl rfl
theorem wsX5_atom : Cond.selects yX5_atom.cls yX5_atom yX5_atom ∈ GT := GT_s (i := 15) rfl rfl
theorem mlX5_165 : VL RX5 165 yX5_atom cX5_atom 3 (some .boolean) 1 := ⟨⟨GT_c3 (i := 163) rfl rfl, wmX5_atom, wsX5_atom, wiX5_atom⟩, wcX5_atom, wdX5_atom⟩
theorem wcX5_givenBy : Cond.code yX5_givenBy cX5_givenBy 2 (some .int) ∈ GT := GT_c3 (i := 174) rfl rfl
theorem wiX5_givenBy : Cond.initialized yX5_givenBy.cls ∈ GT := GT_c1 (i := 4) rfl rfl
theorem wdX5_givenBy : yX5_givenBy.cls ≠ "java/lang/invoke/MethodHandle" ∧ yX5_givenBy.cls ≠ "java/lang/invoke/VarHandle" ∧ (parseMethodDescriptor yX5_givenBy.desc).map (fun d => d.parameters.length) = some 1 := ⟨pn6.1, pn6.2, pd5⟩
theorem wmX5_givenBy : Cond.instanceMethod yX5_givenBy ∈ GT := GT_c3 (i := 173) rfl rfl
theorem wsX5_givenBy : Cond.selects yX5_givenBy.cls yX5_givenBy yX5_givenBy ∈ GT := GT_s (i := 17) rfl rfl
theorem mlX5_168 : VL RX5 168 yX5_givenBy cX5_givenBy 2 (some .int) 1 := ⟨⟨GT_c3 (i := 171) rfl rfl, wmX5_givenBy, wsX5_givenBy, wiX5_givenBy⟩, wcX5_givenBy, wdX5_givenBy⟩
theorem mlX6_31 : SL RX6 31 yJ7_fill_53178 cJ7_fill_53178 4 none 2 := ⟨⟨GT_c1 (i := 214) rfl rfl, wmJ7_fill_53178, wiJ7_fill_53178⟩, wcJ7_fill_53178, wdJ7_fill_53178⟩
theorem wcX6_slotOf : Cond.code yX6_slotOf cX6_slotOf 2 (some .int) ∈ GT := GT_c3 (i := 234) rfl rfl
theorem wiX6_slotOf : Cond.initialized yX6_slotOf.cls ∈ GT := GT_c1 (i := 6) rfl rfl
theorem wdX6_slotOf : yX6_slotOf.cls ≠ "java/lang/invoke/MethodHandle" ∧ yX6_slotOf.cls ≠ "java/lang/invoke/VarHandle" ∧ (parseMethodDescriptor yX6_slotOf.desc).map (fun d => d.parameters.length) = some 2 := ⟨pn7.1, pn7.2, pd29⟩
theorem wmX6_slotOf : Cond.static yX6_slotOf ∈ GT := GT_c3 (i := 233) rfl rfl
theorem mlX6_37 : SL RX6 37 yX6_slotOf cX6_slotOf 2 (some .int) 2 := ⟨⟨GT_c3 (i := 232) rfl rfl, wmX6_slotOf, wiX6_slotOf⟩, wcX6_slotOf, wdX6_slotOf⟩
theorem wcX3_isTold : Cond.code yX3_isTold cX3_isTold 2 (some .boolean) ∈ GT := GT_c4 (i := 1) rfl rfl
theorem wiX3_isTold : Cond.initialized yX3_isTold.cls ∈ GT := GT_c1 (i := 3) rfl rfl
theorem wdX3_isTold : yX3_isTold.cls ≠ "java/lang/invoke/MethodHandle" ∧ yX3_isTold.cls ≠ "java/lang/invoke/VarHandle" ∧ (parseMethodDescriptor yX3_isTold.desc).map (fun d => d.parameters.length) = some 1 := ⟨pn4.1, pn4.2, pd7⟩
theorem wmX3_isTold : Cond.instanceMethod yX3_isTold ∈ GT := GT_c3 (i := 239) rfl rfl
theorem wsX3_isTold : Cond.selects yX3_isTold.cls yX3_isTold yX3_isTold ∈ GT := GT_c4 (i := 0) rfl rfl
theorem mlX6_47 : VL RX6 47 yX3_isTold cX3_isTold 2 (some .boolean) 1 := ⟨⟨GT_c3 (i := 238) rfl rfl, wmX3_isTold, wsX3_isTold, wiX3_isTold⟩, wcX3_isTold, wdX3_isTold⟩
theorem wcX6_giveTime : Cond.code yX6_giveTime cX6_giveTime 3 none ∈ GT := GT_c4 (i := 5) rfl rfl
theorem wiX6_giveTime : Cond.initialized yX6_giveTime.cls ∈ GT := GT_c1 (i := 6) rfl rfl
theorem wdX6_giveTime : yX6_giveTime.cls ≠ "java/lang/invoke/MethodHandle" ∧ yX6_giveTime.cls ≠ "java/lang/invoke/VarHandle" ∧ (parseMethodDescriptor yX6_giveTime.desc).map (fun d => d.parameters.length) = some 2 := ⟨pn7.1, pn7.2, pd30⟩
theorem wmX6_giveTime : Cond.instanceMethod yX6_giveTime ∈ GT := GT_c4 (i := 4) rfl rfl
theorem wsX6_giveTime : Cond.selects yX6_giveTime.cls yX6_giveTime yX6_giveTime ∈ GT := GT_s (i := 21) rfl rfl
theorem mlX6_53 : VL RX6 53 yX6_giveTime cX6_giveTime 3 none 2 := ⟨⟨GT_c4 (i := 2) rfl rfl, wmX6_giveTime, wsX6_giveTime, wiX6_giveTime⟩, wcX6_giveTime, wdX6_giveTime⟩
theorem wcX3_valueOf : Cond.code yX3_valueOf cX3_valueOf 7 (some .int) ∈ GT := GT_c4 (i := 9) rfl rfl
theorem wiX3_valueOf : Cond.initialized yX3_valueOf.cls ∈ GT := GT_c1 (i := 3) rfl rfl
theorem wdX3_valueOf : yX3_valueOf.cls ≠ "java/lang/invoke/MethodHandle" ∧ yX3_valueOf.cls ≠ "java/lang/invoke/VarHandle" ∧ (parseMethodDescriptor yX3_valueOf.desc).map (fun d => d.parameters.length) = some 3 := ⟨pn4.1, pn4.2, pd34⟩
theorem wmX3_valueOf : Cond.instanceMethod yX3_valueOf ∈ GT := GT_c4 (i := 7) rfl rfl
theorem wsX3_valueOf : Cond.selects yX3_valueOf.cls yX3_valueOf yX3_valueOf ∈ GT := GT_c4 (i := 8) rfl rfl
theorem mlX6_57 : VL RX6 57 yX3_valueOf cX3_valueOf 7 (some .int) 3 := ⟨⟨GT_c4 (i := 6) rfl rfl, wmX3_valueOf, wsX3_valueOf, wiX3_valueOf⟩, wcX3_valueOf, wdX3_valueOf⟩
theorem mlX6_61 : SL RX6 61 yJ9_min_7cf53 cJ9_min_7cf53 2 (some .int) 2 := ⟨⟨GT_c4 (i := 83) rfl rfl, wmJ9_min_7cf53, wiJ9_min_7cf53⟩, wcJ9_min_7cf53, wdJ9_min_7cf53⟩
theorem mlX6_67 : SL RX6 67 yJ9_max_7cf53 cJ9_max_7cf53 2 (some .int) 2 := ⟨⟨GT_c4 (i := 84) rfl rfl, wmJ9_max_7cf53, wiJ9_max_7cf53⟩, wcJ9_max_7cf53, wdJ9_max_7cf53⟩
theorem mlX6_92 : SL RX6 92 yJ9_floorMod_7cf53 cJ9_floorMod_7cf53 3 (some .int) 2 := ⟨⟨GT_c3 (i := 235) rfl rfl, wmJ9_floorMod_7cf53, wiJ9_floorMod_7cf53⟩, wcJ9_floorMod_7cf53, wdJ9_floorMod_7cf53⟩
theorem wcX3_clear : Cond.code yX3_clear cX3_clear 1 none ∈ GT := GT_c3 (i := 105) rfl rfl
theorem wiX3_clear : Cond.initialized yX3_clear.cls ∈ GT := GT_c1 (i := 3) rfl rfl
theorem wdX3_clear : yX3_clear.cls ≠ "java/lang/invoke/MethodHandle" ∧ yX3_clear.cls ≠ "java/lang/invoke/VarHandle" ∧ (parseMethodDescriptor yX3_clear.desc).map (fun d => d.parameters.length) = some 0 := ⟨pn4.1, pn4.2, pd2⟩
theorem wmX3_clear : Cond.instanceMethod yX3_clear ∈ GT := GT_c3 (i := 103) rfl rfl
theorem wsX3_clear : Cond.selects yX3_clear.cls yX3_clear yX3_clear ∈ GT := GT_c3 (i := 104) rfl rfl
theorem mlX7_62 : VL RX7 62 yX3_clear cX3_clear 1 none 0 := ⟨⟨GT_c3 (i := 102) rfl rfl, wmX3_clear, wsX3_clear, wiX3_clear⟩, wcX3_clear, wdX3_clear⟩
theorem wcX3_copyFrom : Cond.code yX3_copyFrom cX3_copyFrom 2 none ∈ GT := GT_c3 (i := 204) rfl rfl
theorem wiX3_copyFrom : Cond.initialized yX3_copyFrom.cls ∈ GT := GT_c1 (i := 3) rfl rfl
theorem wdX3_copyFrom : yX3_copyFrom.cls ≠ "java/lang/invoke/MethodHandle" ∧ yX3_copyFrom.cls ≠ "java/lang/invoke/VarHandle" ∧ (parseMethodDescriptor yX3_copyFrom.desc).map (fun d => d.parameters.length) = some 1 := ⟨pn4.1, pn4.2, pd43⟩
theorem wmX3_copyFrom : Cond.instanceMethod yX3_copyFrom ∈ GT := GT_c3 (i := 202) rfl rfl
theorem wsX3_copyFrom : Cond.selects yX3_copyFrom.cls yX3_copyFrom yX3_copyFrom ∈ GT := GT_c3 (i := 203) rfl rfl
theorem mlX7_71 : VL RX7 71 yX3_copyFrom cX3_copyFrom 2 none 1 := ⟨⟨GT_c3 (i := 201) rfl rfl, wmX3_copyFrom, wsX3_copyFrom, wiX3_copyFrom⟩, wcX3_copyFrom, wdX3_copyFrom⟩
theorem mlX8_60 : SL RX8 60 yJ7_fill_53178 cJ7_fill_53178 4 none 2 := ⟨⟨GT_c3 (i := 215) rfl rfl, wmJ7_fill_53178, wiJ7_fill_53178⟩, wcJ7_fill_53178, wdJ7_fill_53178⟩
theorem mlX8_66 : VL RX8 66 yX6_openCurrents cX6_openCurrents 7 (some .int) 2 := ⟨⟨GT_c4 (i := 116) rfl rfl, wmX6_openCurrents, wsX6_openCurrents, wiX6_openCurrents⟩, wcX6_openCurrents, wdX6_openCurrents⟩
theorem wcX8_goOut : Cond.code yX8_goOut cX8_goOut 6 none ∈ GT := GT_c4 (i := 120) rfl rfl
theorem wiX8_goOut : Cond.initialized yX8_goOut.cls ∈ GT := GT_c1 (i := 8) rfl rfl
theorem wdX8_goOut : yX8_goOut.cls ≠ "java/lang/invoke/MethodHandle" ∧ yX8_goOut.cls ≠ "java/lang/invoke/VarHandle" ∧ (parseMethodDescriptor yX8_goOut.desc).map (fun d => d.parameters.length) = some 2 := ⟨pn9.1, pn9.2, pd47⟩
theorem wmX8_goOut : Cond.instanceMethod yX8_goOut ∈ GT := GT_c4 (i := 119) rfl rfl
theorem wsX8_goOut : Cond.selects yX8_goOut.cls yX8_goOut yX8_goOut ∈ GT := GT_s (i := 28) rfl rfl
theorem mlX8_72 : VL RX8 72 yX8_goOut cX8_goOut 6 none 2 := ⟨⟨GT_c4 (i := 117) rfl rfl, wmX8_goOut, wsX8_goOut, wiX8_goOut⟩, wcX8_goOut, wdX8_goOut⟩
theorem mlX8_76 : SL RX8 76 yJ9_max_7cf53 cJ9_max_7cf53 2 (some .int) 2 := ⟨⟨GT_c4 (i := 121) rfl rfl, wmJ9_max_7cf53, wiJ9_max_7cf53⟩, wcJ9_max_7cf53, wdJ9_max_7cf53⟩
theorem wcX8_comeIn : Cond.code yX8_comeIn cX8_comeIn 4 none ∈ GT := GT_c4 (i := 125) rfl rfl
theorem wiX8_comeIn : Cond.initialized yX8_comeIn.cls ∈ GT := GT_c1 (i := 8) rfl rfl
theorem wdX8_comeIn : yX8_comeIn.cls ≠ "java/lang/invoke/MethodHandle" ∧ yX8_comeIn.cls ≠ "java/lang/invoke/VarHandle" ∧ (parseMethodDescriptor yX8_comeIn.desc).map (fun d => d.parameters.length) = some 1 := ⟨pn9.1, pn9.2, pd45⟩
theorem wmX8_comeIn : Cond.instanceMethod yX8_comeIn ∈ GT := GT_c4 (i := 124) rfl rfl
theorem wsX8_comeIn : Cond.selects yX8_comeIn.cls yX8_comeIn yX8_comeIn ∈ GT := GT_s (i := 29) rfl rfl
theorem mlX8_82 : VL RX8 82 yX8_comeIn cX8_comeIn 4 none 1 := ⟨⟨GT_c4 (i := 122) rfl rfl, wmX8_comeIn, wsX8_comeIn, wiX8_comeIn⟩, wcX8_comeIn, wdX8_comeIn⟩
theorem mlX8_89 : SL RX8 89 yJ6_bitCount_0f7a4 cJ6_bitCount_0f7a4 1 (some .int) 1 := ⟨⟨GT_c4 (i := 126) rfl rfl, wmJ6_bitCount_0f7a4, wiJ6_bitCount_0f7a4⟩, wcJ6_bitCount_0f7a4, wdJ6_bitCount_0f7a4⟩
theorem mlX8_95 : VL RX8 95 yX6_listeners cX6_listeners 7 (some .int) 3 := ⟨⟨GT_c4 (i := 127) rfl rfl, wmX6_listeners, wsX6_listeners, wiX6_listeners⟩, wcX6_listeners, wdX6_listeners⟩
theorem mlX8_99 : VL RX8 99 yX8_audible cX8_audible 5 (some .int) 2 := ⟨⟨GT_c4 (i := 128) rfl rfl, wmX8_audible, wsX8_audible, wiX8_audible⟩, wcX8_audible, wdX8_audible⟩
theorem wcX8_wordsAt : Cond.code yX8_wordsAt cX8_wordsAt 4 (some .int) ∈ GT := GT_c4 (i := 135) rfl rfl
theorem wiX8_wordsAt : Cond.initialized yX8_wordsAt.cls ∈ GT := GT_c1 (i := 8) rfl rfl
theorem wdX8_wordsAt : yX8_wordsAt.cls ≠ "java/lang/invoke/MethodHandle" ∧ yX8_wordsAt.cls ≠ "java/lang/invoke/VarHandle" ∧ (parseMethodDescriptor yX8_wordsAt.desc).map (fun d => d.parameters.length) = some 1 := ⟨pn9.1, pn9.2, pd5⟩
theorem wmX8_wordsAt : Cond.instanceMethod yX8_wordsAt ∈ GT := GT_c4 (i := 134) rfl rfl
theorem wsX8_wordsAt : Cond.selects yX8_wordsAt.cls yX8_wordsAt yX8_wordsAt ∈ GT := GT_s (i := 30) rfl rfl
theorem mlX8_103 : VL RX8 103 yX8_wordsAt cX8_wordsAt 4 (some .int) 1 := ⟨⟨GT_c4 (i := 132) rfl rfl, wmX8_wordsAt, wsX8_wordsAt, wiX8_wordsAt⟩, wcX8_wordsAt, wdX8_wordsAt⟩
theorem mlX8_129 : VL RX8 129 yX8_passHour cX8_passHour 6 (some .int) 2 := ⟨⟨GT_c4 (i := 112) rfl rfl, wmX8_passHour, wsX8_passHour, wiX8_passHour⟩, wcX8_passHour, wdX8_passHour⟩
theorem wcX8_whisperAt : Cond.code yX8_whisperAt cX8_whisperAt 3 (some .int) ∈ GT := GT_c4 (i := 140) rfl rfl
theorem wiX8_whisperAt : Cond.initialized yX8_whisperAt.cls ∈ GT := GT_c1 (i := 8) rfl rfl
theorem wdX8_whisperAt : yX8_whisperAt.cls ≠ "java/lang/invoke/MethodHandle" ∧ yX8_whisperAt.cls ≠ "java/lang/invoke/VarHandle" ∧ (parseMethodDescriptor yX8_whisperAt.desc).map (fun d => d.parameters.length) = some 2 := ⟨pn9.1, pn9.2, pd28⟩
theorem wmX8_whisperAt : Cond.instanceMethod yX8_whisperAt ∈ GT := GT_c4 (i := 139) rfl rfl
theorem wsX8_whisperAt : Cond.selects yX8_whisperAt.cls yX8_whisperAt yX8_whisperAt ∈ GT := GT_s (i := 31) rfl rfl
theorem mlX8_135 : VL RX8 135 yX8_whisperAt cX8_whisperAt 3 (some .int) 2 := ⟨⟨GT_c4 (i := 137) rfl rfl, wmX8_whisperAt, wsX8_whisperAt, wiX8_whisperAt⟩, wcX8_whisperAt, wdX8_whisperAt⟩
theorem wcX8_giveTo : Cond.code yX8_giveTo cX8_giveTo 4 (some .int) ∈ GT := GT_c4 (i := 144) rfl rfl
theorem wiX8_giveTo : Cond.initialized yX8_giveTo.cls ∈ GT := GT_c1 (i := 8) rfl rfl
theorem wdX8_giveTo : yX8_giveTo.cls ≠ "java/lang/invoke/MethodHandle" ∧ yX8_giveTo.cls ≠ "java/lang/invoke/VarHandle" ∧ (parseMethodDescriptor yX8_giveTo.desc).map (fun d => d.parameters.length) = some 3 := ⟨pn9.1, pn9.2, pd22⟩
theorem wmX8_giveTo : Cond.instanceMethod yX8_giveTo ∈ GT := GT_c4 (i := 143) rfl rfl
theorem wsX8_giveTo : Cond.selects yX8_giveTo.cls yX8_giveTo yX8_giveTo ∈ GT := GT_s (i := 32) rfl rfl
theorem mlX8_139 : VL RX8 139 yX8_giveTo cX8_giveTo 4 (some .int) 3 := ⟨⟨GT_c4 (i := 141) rfl rfl, wmX8_giveTo, wsX8_giveTo, wiX8_giveTo⟩, wcX8_giveTo, wdX8_giveTo⟩
theorem wcX8_layDown : Cond.code yX8_layDown cX8_layDown 3 (some .int) ∈ GT := GT_c4 (i := 148) rfl rfl
theorem wiX8_layDown : Cond.initialized yX8_layDown.cls ∈ GT := GT_c1 (i := 8) rfl rfl
theorem wdX8_layDown : yX8_layDown.cls ≠ "java/lang/invoke/MethodHandle" ∧ yX8_layDown.cls ≠ "java/lang/invoke/VarHandle" ∧ (parseMethodDescriptor yX8_layDown.desc).map (fun d => d.parameters.length) = some 2 := ⟨pn9.1, pn9.2, pd28⟩
theorem wmX8_layDown : Cond.instanceMethod yX8_layDown ∈ GT := GT_c4 (i := 147) rfl rfl
theorem wsX8_layDown : Cond.selects yX8_layDown.cls yX8_layDown yX8_layDown ∈ GT := GT_s (i := 33) rfl rfl
theorem mlX8_143 : VL RX8 143 yX8_layDown cX8_layDown 3 (some .int) 2 := ⟨⟨GT_c4 (i := 145) rfl rfl, wmX8_layDown, wsX8_layDown, wiX8_layDown⟩, wcX8_layDown, wdX8_layDown⟩
theorem mlX8_158 : VL RX8 158 yX8_attempt cX8_attempt 6 (some .int) 3 := ⟨⟨GT_c4 (i := 191) rfl rfl, wmX8_attempt, wsX8_attempt, wiX8_attempt⟩, wcX8_attempt, wdX8_attempt⟩
theorem wcX8_draw : Cond.code yX8_draw cX8_draw 1 (some .int) ∈ GT := GT_c4 (i := 211) rfl rfl
theorem wiX8_draw : Cond.initialized yX8_draw.cls ∈ GT := GT_c1 (i := 8) rfl rfl
theorem wdX8_draw : yX8_draw.cls ≠ "java/lang/invoke/MethodHandle" ∧ yX8_draw.cls ≠ "java/lang/invoke/VarHandle" ∧ (parseMethodDescriptor yX8_draw.desc).map (fun d => d.parameters.length) = some 0 := ⟨pn9.1, pn9.2, pd1⟩
theorem wmX8_draw : Cond.instanceMethod yX8_draw ∈ GT := GT_c4 (i := 210) rfl rfl
theorem wsX8_draw : Cond.selects yX8_draw.cls yX8_draw yX8_draw ∈ GT := GT_s (i := 35) rfl rfl
theorem mlX8_162 : VL RX8 162 yX8_draw cX8_draw 1 (some .int) 0 := ⟨⟨GT_c4 (i := 208) rfl rfl, wmX8_draw, wsX8_draw, wiX8_draw⟩, wcX8_draw, wdX8_draw⟩
theorem mlX8_170 : VL RX8 170 yX8_hearable cX8_hearable 6 (some .int) 2 := ⟨⟨GT_c5 (i := 114) rfl rfl, wmX8_hearable, wsX8_hearable, wiX8_hearable⟩, wcX8_hearable, wdX8_hearable⟩
theorem wcX9_isLetter : Cond.code yX9_isLetter cX9_isLetter 1 (some .boolean) ∈ GT := GT_c2 (i := 212) rfl rfl
theorem wiX9_isLetter : Cond.initialized yX9_isLetter.cls ∈ GT := GT_c1 (i := 5) rfl rfl
theorem wdX9_isLetter : yX9_isLetter.cls ≠ "java/lang/invoke/MethodHandle" ∧ yX9_isLetter.cls ≠ "java/lang/invoke/VarHandle" ∧ (parseMethodDescriptor yX9_isLetter.desc).map (fun d => d.parameters.length) = some 1 := ⟨pn10.1, pn10.2, pd7⟩
theorem wmX9_isLetter : Cond.static yX9_isLetter ∈ GT := GT_c2 (i := 211) rfl rfl
theorem mlX9_22 : SL RX9 22 yX9_isLetter cX9_isLetter 1 (some .boolean) 1 := ⟨⟨GT_c2 (i := 210) rfl rfl, wmX9_isLetter, wiX9_isLetter⟩, wcX9_isLetter, wdX9_isLetter⟩
theorem wcX9_isDigit : Cond.code yX9_isDigit cX9_isDigit 1 (some .boolean) ∈ GT := GT_c2 (i := 215) rfl rfl
theorem wiX9_isDigit : Cond.initialized yX9_isDigit.cls ∈ GT := GT_c1 (i := 5) rfl rfl
theorem wdX9_isDigit : yX9_isDigit.cls ≠ "java/lang/invoke/MethodHandle" ∧ yX9_isDigit.cls ≠ "java/lang/invoke/VarHandle" ∧ (parseMethodDescriptor yX9_isDigit.desc).map (fun d => d.parameters.length) = some 1 := ⟨pn10.1, pn10.2, pd7⟩
theorem wmX9_isDigit : Cond.static yX9_isDigit ∈ GT := GT_c2 (i := 214) rfl rfl
theorem mlX9_26 : SL RX9 26 yX9_isDigit cX9_isDigit 1 (some .boolean) 1 := ⟨⟨GT_c2 (i := 213) rfl rfl, wmX9_isDigit, wiX9_isDigit⟩, wcX9_isDigit, wdX9_isDigit⟩
theorem wcX9_runEnd : Cond.code yX9_runEnd cX9_runEnd 5 (some .int) ∈ GT := GT_c2 (i := 218) rfl rfl
theorem wiX9_runEnd : Cond.initialized yX9_runEnd.cls ∈ GT := GT_c1 (i := 5) rfl rfl
theorem wdX9_runEnd : yX9_runEnd.cls ≠ "java/lang/invoke/MethodHandle" ∧ yX9_runEnd.cls ≠ "java/lang/invoke/VarHandle" ∧ (parseMethodDescriptor yX9_runEnd.desc).map (fun d => d.parameters.length) = some 3 := ⟨pn10.1, pn10.2, pd60⟩
theorem wmX9_runEnd : Cond.static yX9_runEnd ∈ GT := GT_c2 (i := 217) rfl rfl
theorem mlX9_29 : SL RX9 29 yX9_runEnd cX9_runEnd 5 (some .int) 3 := ⟨⟨GT_c2 (i := 216) rfl rfl, wmX9_runEnd, wiX9_runEnd⟩, wcX9_runEnd, wdX9_runEnd⟩
theorem wcX9_wordOf : Cond.code yX9_wordOf cX9_wordOf 8 (some .int) ∈ GT := GT_c2 (i := 221) rfl rfl
theorem wiX9_wordOf : Cond.initialized yX9_wordOf.cls ∈ GT := GT_c1 (i := 5) rfl rfl
theorem wdX9_wordOf : yX9_wordOf.cls ≠ "java/lang/invoke/MethodHandle" ∧ yX9_wordOf.cls ≠ "java/lang/invoke/VarHandle" ∧ (parseMethodDescriptor yX9_wordOf.desc).map (fun d => d.parameters.length) = some 3 := ⟨pn10.1, pn10.2, pd60⟩
theorem wmX9_wordOf : Cond.static yX9_wordOf ∈ GT := GT_c2 (i := 220) rfl rfl
theorem mlX9_33 : SL RX9 33 yX9_wordOf cX9_wordOf 8 (some .int) 3 := ⟨⟨GT_c2 (i := 219) rfl rfl, wmX9_wordOf, wiX9_wordOf⟩, wcX9_wordOf, wdX9_wordOf⟩
theorem wcX9_numberOf : Cond.code yX9_numberOf cX9_numberOf 5 (some .int) ∈ GT := GT_c3 (i := 33) rfl rfl
theorem wiX9_numberOf : Cond.initialized yX9_numberOf.cls ∈ GT := GT_c1 (i := 5) rfl rfl
theorem wdX9_numberOf : yX9_numberOf.cls ≠ "java/lang/invoke/MethodHandle" ∧ yX9_numberOf.cls ≠ "java/lang/invoke/VarHandle" ∧ (parseMethodDescriptor yX9_numberOf.desc).map (fun d => d.parameters.length) = some 3 := ⟨pn10.1, pn10.2, pd60⟩
theorem wmX9_numberOf : Cond.static yX9_numberOf ∈ GT := GT_c3 (i := 32) rfl rfl
theorem mlX9_36 : SL RX9 36 yX9_numberOf cX9_numberOf 5 (some .int) 3 := ⟨⟨GT_c3 (i := 31) rfl rfl, wmX9_numberOf, wiX9_numberOf⟩, wcX9_numberOf, wdX9_numberOf⟩
theorem wcX9_add : Cond.code yX9_add cX9_add 3 none ∈ GT := GT_c3 (i := 37) rfl rfl
theorem wiX9_add : Cond.initialized yX9_add.cls ∈ GT := GT_c1 (i := 5) rfl rfl
theorem wdX9_add : yX9_add.cls ≠ "java/lang/invoke/MethodHandle" ∧ yX9_add.cls ≠ "java/lang/invoke/VarHandle" ∧ (parseMethodDescriptor yX9_add.desc).map (fun d => d.parameters.length) = some 2 := ⟨pn10.1, pn10.2, pd9⟩
theorem wmX9_add : Cond.instanceMethod yX9_add ∈ GT := GT_c3 (i := 36) rfl rfl
theorem wsX9_add : Cond.selects yX9_add.cls yX9_add yX9_add ∈ GT := GT_s (i := 1) rfl rfl
theorem mlX9_39 : VL RX9 39 yX9_add cX9_add 3 none 2 := ⟨⟨GT_c3 (i := 34) rfl rfl, wmX9_add, wsX9_add, wiX9_add⟩, wcX9_add, wdX9_add⟩
theorem wcJ0_indexOf_0f7a4 : Cond.code yJ0_indexOf_0f7a4 cJ0_indexOf_0f7a4 2 (some .int) ∈ GT := GT_c3 (i := 42) rfl rfl
theorem wiJ0_indexOf_0f7a4 : Cond.initialized yJ0_indexOf_0f7a4.cls ∈ GT := GT_c1 (i := 14) rfl rfl
theorem wdJ0_indexOf_0f7a4 : yJ0_indexOf_0f7a4.cls ≠ "java/lang/invoke/MethodHandle" ∧ yJ0_indexOf_0f7a4.cls ≠ "java/lang/invoke/VarHandle" ∧ (parseMethodDescriptor yJ0_indexOf_0f7a4.desc).map (fun d => d.parameters.length) = some 1 := ⟨pn16.1, pn16.2, pd5⟩
theorem wmJ0_indexOf_0f7a4 : Cond.instanceMethod yJ0_indexOf_0f7a4 ∈ GT := GT_c3 (i := 40) rfl rfl
theorem wsJ0_indexOf_0f7a4 : Cond.selects yJ0_indexOf_0f7a4.cls yJ0_indexOf_0f7a4 yJ0_indexOf_0f7a4 ∈ GT := GT_c3 (i := 41) rfl rfl
theorem mlX9_45 : VL RX9 45 yJ0_indexOf_0f7a4 cJ0_indexOf_0f7a4 2 (some .int) 1 := ⟨⟨GT_c3 (i := 39) rfl rfl, wmJ0_indexOf_0f7a4, wsJ0_indexOf_0f7a4, wiJ0_indexOf_0f7a4⟩, wcJ0_indexOf_0f7a4, wdJ0_indexOf_0f7a4⟩
theorem wcJ0_length_8abf5 : Cond.code yJ0_length_8abf5 cJ0_length_8abf5 1 (some .int) ∈ GT := GT_c2 (i := 226) rfl rfl
theorem wiJ0_length_8abf5 : Cond.initialized yJ0_length_8abf5.cls ∈ GT := GT_c1 (i := 14) rfl rfl
theorem wdJ0_length_8abf5 : yJ0_length_8abf5.cls ≠ "java/lang/invoke/MethodHandle" ∧ yJ0_length_8abf5.cls ≠ "java/lang/invoke/VarHandle" ∧ (parseMethodDescriptor yJ0_length_8abf5.desc).map (fun d => d.parameters.length) = some 0 := ⟨pn16.1, pn16.2, pd1⟩
theorem wmJ0_length_8abf5 : Cond.instanceMethod yJ0_length_8abf5 ∈ GT := GT_c2 (i := 224) rfl rfl
theorem wsJ0_length_8abf5 : Cond.selects yJ0_length_8abf5.cls yJ0_length_8abf5 yJ0_length_8abf5 ∈ GT := GT_c2 (i := 225) rfl rfl
theorem mlX9_53 : VL RX9 53 yJ0_length_8abf5 cJ0_length_8abf5 1 (some .int) 0 := ⟨⟨GT_c2 (i := 223) rfl rfl, wmJ0_length_8abf5, wsJ0_length_8abf5, wiJ0_length_8abf5⟩, wcJ0_length_8abf5, wdJ0_length_8abf5⟩
theorem wcJ0_charAt_5068e : Cond.code yJ0_charAt_5068e cJ0_charAt_5068e 2 (some .char) ∈ GT := GT_c2 (i := 236) rfl rfl
theorem wiJ0_charAt_5068e : Cond.initialized yJ0_charAt_5068e.cls ∈ GT := GT_c1 (i := 14) rfl rfl
theorem wdJ0_charAt_5068e : yJ0_charAt_5068e.cls ≠ "java/lang/invoke/MethodHandle" ∧ yJ0_charAt_5068e.cls ≠ "java/lang/invoke/VarHandle" ∧ (parseMethodDescriptor yJ0_charAt_5068e.desc).map (fun d => d.parameters.length) = some 1 := ⟨pn16.1, pn16.2, pd4⟩
theorem wmJ0_charAt_5068e : Cond.instanceMethod yJ0_charAt_5068e ∈ GT := GT_c2 (i := 234) rfl rfl
theorem wsJ0_charAt_5068e : Cond.selects yJ0_charAt_5068e.cls yJ0_charAt_5068e yJ0_charAt_5068e ∈ GT := GT_c2 (i := 235) rfl rfl
theorem mlX9_57 : VL RX9 57 yJ0_charAt_5068e cJ0_charAt_5068e 2 (some .char) 1 := ⟨⟨GT_c2 (i := 233) rfl rfl, wmJ0_charAt_5068e, wsJ0_charAt_5068e, wiJ0_charAt_5068e⟩, wcJ0_charAt_5068e, wdJ0_charAt_5068e⟩
theorem wcJ7_fill_d0a16 : Cond.code yJ7_fill_d0a16 cJ7_fill_d0a16 5 none ∈ GT := GT_c5 (i := 193) rfl rfl
theorem wiJ7_fill_d0a16 : Cond.initialized yJ7_fill_d0a16.cls ∈ GT := GT_c1 (i := 7) rfl rfl
theorem wdJ7_fill_d0a16 : yJ7_fill_d0a16.cls ≠ "java/lang/invoke/MethodHandle" ∧ yJ7_fill_d0a16.cls ≠ "java/lang/invoke/VarHandle" ∧ (parseMethodDescriptor yJ7_fill_d0a16.desc).map (fun d => d.parameters.length) = some 2 := ⟨pn19.1, pn19.2, pd65⟩
theorem wmJ7_fill_d0a16 : Cond.static yJ7_fill_d0a16 ∈ GT := GT_c5 (i := 192) rfl rfl
theorem mlX10_22 : SL RX10 22 yJ7_fill_d0a16 cJ7_fill_d0a16 5 none 2 := ⟨⟨GT_c5 (i := 191) rfl rfl, wmJ7_fill_d0a16, wiJ7_fill_d0a16⟩, wcJ7_fill_d0a16, wdJ7_fill_d0a16⟩
theorem wcX10_cut : Cond.code yX10_cut cX10_cut 3 (some .long) ∈ GT := GT_c5 (i := 208) rfl rfl
theorem wiX10_cut : Cond.initialized yX10_cut.cls ∈ GT := GT_c1 (i := 12) rfl rfl
theorem wdX10_cut : yX10_cut.cls ≠ "java/lang/invoke/MethodHandle" ∧ yX10_cut.cls ≠ "java/lang/invoke/VarHandle" ∧ (parseMethodDescriptor yX10_cut.desc).map (fun d => d.parameters.length) = some 1 := ⟨pn11.1, pn11.2, pd36⟩
theorem wmX10_cut : Cond.instanceMethod yX10_cut ∈ GT := GT_c5 (i := 207) rfl rfl
theorem wsX10_cut : Cond.selects yX10_cut.cls yX10_cut yX10_cut ∈ GT := GT_s (i := 49) rfl rfl
theorem mlX10_28 : VL RX10 28 yX10_cut cX10_cut 3 (some .long) 1 := ⟨⟨GT_c5 (i := 205) rfl rfl, wmX10_cut, wsX10_cut, wiX10_cut⟩, wcX10_cut, wdX10_cut⟩
theorem wcX11_init : Cond.code yX11_init cX11_init 2 none ∈ GT := GT_c1 (i := 27) rfl rfl
theorem wiX11_init : Cond.initialized yX11_init.cls ∈ GT := GT_c1 (i := 1) rfl rfl
theorem wdX11_init : yX11_init.cls ≠ "java/lang/invoke/MethodHandle" ∧ yX11_init.cls ≠ "java/lang/invoke/VarHandle" ∧ (parseMethodDescriptor yX11_init.desc).map (fun d => d.parameters.length) = some 0 := ⟨pn0.1, pn0.2, pd2⟩
theorem wmX11_init : Cond.instanceMethod yX11_init ∈ GT := GT_c1 (i := 26) rfl rfl
theorem mlL_9 : Cond.methodLink RL 9 yX11_init ∈ GT := GT_c1 (i := 25) rfl rfl
theorem wcX12_init : Cond.code yX12_init cX12_init 1 none ∈ GT := GT_c6 (i := 7) rfl rfl
theorem wiX12_init : Cond.initialized yX12_init.cls ∈ GT := GT_c1 (i := 13) rfl rfl
theorem wdX12_init : yX12_init.cls ≠ "java/lang/invoke/MethodHandle" ∧ yX12_init.cls ≠ "java/lang/invoke/VarHandle" ∧ (parseMethodDescriptor yX12_init.desc).map (fun d => d.parameters.length) = some 0 := ⟨pn12.1, pn12.2, pd2⟩
theorem wmX12_init : Cond.instanceMethod yX12_init ∈ GT := GT_c6 (i := 6) rfl rfl
theorem mlL_12 : Cond.methodLink RL 12 yX12_init ∈ GT := GT_c6 (i := 5) rfl rfl
theorem wcX11_feed : Cond.code yX11_feed cX11_feed 6 (some .int) ∈ GT := GT_c2 (i := 193) rfl rfl
theorem wiX11_feed : Cond.initialized yX11_feed.cls ∈ GT := GT_c1 (i := 1) rfl rfl
theorem wdX11_feed : yX11_feed.cls ≠ "java/lang/invoke/MethodHandle" ∧ yX11_feed.cls ≠ "java/lang/invoke/VarHandle" ∧ (parseMethodDescriptor yX11_feed.desc).map (fun d => d.parameters.length) = some 5 := ⟨pn0.1, pn0.2, pd15⟩
theorem wmX11_feed : Cond.instanceMethod yX11_feed ∈ GT := GT_c2 (i := 191) rfl rfl
theorem wsX11_feed : Cond.selects yX11_feed.cls yX11_feed yX11_feed ∈ GT := GT_c2 (i := 192) rfl rfl
theorem mlL_13 : VL RL 13 yX11_feed cX11_feed 6 (some .int) 5 := ⟨⟨GT_c2 (i := 190) rfl rfl, wmX11_feed, wsX11_feed, wiX11_feed⟩, wcX11_feed, wdX11_feed⟩
theorem wcX12_feed : Cond.code yX12_feed cX12_feed 8 (some .int) ∈ GT := GT_c6 (i := 107) rfl rfl
theorem wiX12_feed : Cond.initialized yX12_feed.cls ∈ GT := GT_c1 (i := 13) rfl rfl
theorem wdX12_feed : yX12_feed.cls ≠ "java/lang/invoke/MethodHandle" ∧ yX12_feed.cls ≠ "java/lang/invoke/VarHandle" ∧ (parseMethodDescriptor yX12_feed.desc).map (fun d => d.parameters.length) = some 5 := ⟨pn12.1, pn12.2, pd15⟩
theorem wmX12_feed : Cond.instanceMethod yX12_feed ∈ GT := GT_c6 (i := 105) rfl rfl
theorem wsX12_feed : Cond.selects yX12_feed.cls yX12_feed yX12_feed ∈ GT := GT_c6 (i := 106) rfl rfl
theorem mlL_17 : VL RL 17 yX12_feed cX12_feed 8 (some .int) 5 := ⟨⟨GT_c6 (i := 104) rfl rfl, wmX12_feed, wsX12_feed, wiX12_feed⟩, wcX12_feed, wdX12_feed⟩
theorem wcX11_sea : Cond.code yX11_sea cX11_sea 3 (some .int) ∈ GT := GT_c2 (i := 201) rfl rfl
theorem wiX11_sea : Cond.initialized yX11_sea.cls ∈ GT := GT_c1 (i := 1) rfl rfl
theorem wdX11_sea : yX11_sea.cls ≠ "java/lang/invoke/MethodHandle" ∧ yX11_sea.cls ≠ "java/lang/invoke/VarHandle" ∧ (parseMethodDescriptor yX11_sea.desc).map (fun d => d.parameters.length) = some 1 := ⟨pn0.1, pn0.2, pd5⟩
theorem wmX11_sea : Cond.instanceMethod yX11_sea ∈ GT := GT_c2 (i := 199) rfl rfl
theorem wsX11_sea : Cond.selects yX11_sea.cls yX11_sea yX11_sea ∈ GT := GT_c2 (i := 200) rfl rfl
theorem mlL_18 : VL RL 18 yX11_sea cX11_sea 3 (some .int) 1 := ⟨⟨GT_c2 (i := 198) rfl rfl, wmX11_sea, wsX11_sea, wiX11_sea⟩, wcX11_sea, wdX11_sea⟩
theorem wcX12_sea : Cond.code yX12_sea cX12_sea 3 (some .int) ∈ GT := GT_c6 (i := 111) rfl rfl
theorem wiX12_sea : Cond.initialized yX12_sea.cls ∈ GT := GT_c1 (i := 13) rfl rfl
theorem wdX12_sea : yX12_sea.cls ≠ "java/lang/invoke/MethodHandle" ∧ yX12_sea.cls ≠ "java/lang/invoke/VarHandle" ∧ (parseMethodDescriptor yX12_sea.desc).map (fun d => d.parameters.length) = some 1 := ⟨pn12.1, pn12.2, pd5⟩
theorem wmX12_sea : Cond.instanceMethod yX12_sea ∈ GT := GT_c6 (i := 109) rfl rfl
theorem wsX12_sea : Cond.selects yX12_sea.cls yX12_sea yX12_sea ∈ GT := GT_c6 (i := 110) rfl rfl
theorem mlL_22 : VL RL 22 yX12_sea cX12_sea 3 (some .int) 1 := ⟨⟨GT_c6 (i := 108) rfl rfl, wmX12_sea, wsX12_sea, wiX12_sea⟩, wcX12_sea, wdX12_sea⟩
theorem wcX11_fault : Cond.code yX11_fault cX11_fault 2 (some .int) ∈ GT := GT_c3 (i := 223) rfl rfl
theorem wiX11_fault : Cond.initialized yX11_fault.cls ∈ GT := GT_c1 (i := 1) rfl rfl
theorem wdX11_fault : yX11_fault.cls ≠ "java/lang/invoke/MethodHandle" ∧ yX11_fault.cls ≠ "java/lang/invoke/VarHandle" ∧ (parseMethodDescriptor yX11_fault.desc).map (fun d => d.parameters.length) = some 1 := ⟨pn0.1, pn0.2, pd5⟩
theorem wmX11_fault : Cond.instanceMethod yX11_fault ∈ GT := GT_c3 (i := 221) rfl rfl
theorem wsX11_fault : Cond.selects yX11_fault.cls yX11_fault yX11_fault ∈ GT := GT_c3 (i := 222) rfl rfl
theorem mlL_23 : VL RL 23 yX11_fault cX11_fault 2 (some .int) 1 := ⟨⟨GT_c3 (i := 220) rfl rfl, wmX11_fault, wsX11_fault, wiX11_fault⟩, wcX11_fault, wdX11_fault⟩
theorem wcX12_fault : Cond.code yX12_fault cX12_fault 2 (some .int) ∈ GT := GT_c6 (i := 218) rfl rfl
theorem wiX12_fault : Cond.initialized yX12_fault.cls ∈ GT := GT_c1 (i := 13) rfl rfl
theorem wdX12_fault : yX12_fault.cls ≠ "java/lang/invoke/MethodHandle" ∧ yX12_fault.cls ≠ "java/lang/invoke/VarHandle" ∧ (parseMethodDescriptor yX12_fault.desc).map (fun d => d.parameters.length) = some 1 := ⟨pn12.1, pn12.2, pd5⟩
theorem wmX12_fault : Cond.instanceMethod yX12_fault ∈ GT := GT_c6 (i := 216) rfl rfl
theorem wsX12_fault : Cond.selects yX12_fault.cls yX12_fault yX12_fault ∈ GT := GT_c6 (i := 217) rfl rfl
theorem mlL_26 : VL RL 26 yX12_fault cX12_fault 2 (some .int) 1 := ⟨⟨GT_c6 (i := 215) rfl rfl, wmX12_fault, wsX12_fault, wiX12_fault⟩, wcX12_fault, wdX12_fault⟩
theorem wcX11_current : Cond.code yX11_current cX11_current 3 (some .int) ∈ GT := GT_c3 (i := 227) rfl rfl
theorem wiX11_current : Cond.initialized yX11_current.cls ∈ GT := GT_c1 (i := 1) rfl rfl
theorem wdX11_current : yX11_current.cls ≠ "java/lang/invoke/MethodHandle" ∧ yX11_current.cls ≠ "java/lang/invoke/VarHandle" ∧ (parseMethodDescriptor yX11_current.desc).map (fun d => d.parameters.length) = some 2 := ⟨pn0.1, pn0.2, pd8⟩
theorem wmX11_current : Cond.instanceMethod yX11_current ∈ GT := GT_c3 (i := 225) rfl rfl
theorem wsX11_current : Cond.selects yX11_current.cls yX11_current yX11_current ∈ GT := GT_c3 (i := 226) rfl rfl
theorem mlL_27 : VL RL 27 yX11_current cX11_current 3 (some .int) 2 := ⟨⟨GT_c3 (i := 224) rfl rfl, wmX11_current, wsX11_current, wiX11_current⟩, wcX11_current, wdX11_current⟩
theorem wcX12_current : Cond.code yX12_current cX12_current 3 (some .int) ∈ GT := GT_c6 (i := 222) rfl rfl
theorem wiX12_current : Cond.initialized yX12_current.cls ∈ GT := GT_c1 (i := 13) rfl rfl
theorem wdX12_current : yX12_current.cls ≠ "java/lang/invoke/MethodHandle" ∧ yX12_current.cls ≠ "java/lang/invoke/VarHandle" ∧ (parseMethodDescriptor yX12_current.desc).map (fun d => d.parameters.length) = some 2 := ⟨pn12.1, pn12.2, pd8⟩
theorem wmX12_current : Cond.instanceMethod yX12_current ∈ GT := GT_c6 (i := 220) rfl rfl
theorem wsX12_current : Cond.selects yX12_current.cls yX12_current yX12_current ∈ GT := GT_c6 (i := 221) rfl rfl
theorem mlL_31 : VL RL 31 yX12_current cX12_current 3 (some .int) 2 := ⟨⟨GT_c6 (i := 219) rfl rfl, wmX12_current, wsX12_current, wiX12_current⟩, wcX12_current, wdX12_current⟩
theorem wcX11_person : Cond.code yX11_person cX11_person 3 (some .int) ∈ GT := GT_c4 (i := 25) rfl rfl
theorem wiX11_person : Cond.initialized yX11_person.cls ∈ GT := GT_c1 (i := 1) rfl rfl
theorem wdX11_person : yX11_person.cls ≠ "java/lang/invoke/MethodHandle" ∧ yX11_person.cls ≠ "java/lang/invoke/VarHandle" ∧ (parseMethodDescriptor yX11_person.desc).map (fun d => d.parameters.length) = some 2 := ⟨pn0.1, pn0.2, pd8⟩
theorem wmX11_person : Cond.instanceMethod yX11_person ∈ GT := GT_c4 (i := 23) rfl rfl
theorem wsX11_person : Cond.selects yX11_person.cls yX11_person yX11_person ∈ GT := GT_c4 (i := 24) rfl rfl
theorem mlL_32 : VL RL 32 yX11_person cX11_person 3 (some .int) 2 := ⟨⟨GT_c4 (i := 22) rfl rfl, wmX11_person, wsX11_person, wiX11_person⟩, wcX11_person, wdX11_person⟩
theorem wcX12_person : Cond.code yX12_person cX12_person 3 (some .int) ∈ GT := GT_c7 (i := 7) rfl rfl
theorem wiX12_person : Cond.initialized yX12_person.cls ∈ GT := GT_c1 (i := 13) rfl rfl
theorem wdX12_person : yX12_person.cls ≠ "java/lang/invoke/MethodHandle" ∧ yX12_person.cls ≠ "java/lang/invoke/VarHandle" ∧ (parseMethodDescriptor yX12_person.desc).map (fun d => d.parameters.length) = some 2 := ⟨pn12.1, pn12.2, pd8⟩
theorem wmX12_person : Cond.instanceMethod yX12_person ∈ GT := GT_c7 (i := 5) rfl rfl
theorem wsX12_person : Cond.selects yX12_person.cls yX12_person yX12_person ∈ GT := GT_c7 (i := 6) rfl rfl
theorem mlL_35 : VL RL 35 yX12_person cX12_person 3 (some .int) 2 := ⟨⟨GT_c7 (i := 4) rfl rfl, wmX12_person, wsX12_person, wiX12_person⟩, wcX12_person, wdX12_person⟩
theorem wcX11_shell : Cond.code yX11_shell cX11_shell 3 (some .int) ∈ GT := GT_c4 (i := 47) rfl rfl
theorem wiX11_shell : Cond.initialized yX11_shell.cls ∈ GT := GT_c1 (i := 1) rfl rfl
theorem wdX11_shell : yX11_shell.cls ≠ "java/lang/invoke/MethodHandle" ∧ yX11_shell.cls ≠ "java/lang/invoke/VarHandle" ∧ (parseMethodDescriptor yX11_shell.desc).map (fun d => d.parameters.length) = some 2 := ⟨pn0.1, pn0.2, pd8⟩
theorem wmX11_shell : Cond.instanceMethod yX11_shell ∈ GT := GT_c4 (i := 45) rfl rfl
theorem wsX11_shell : Cond.selects yX11_shell.cls yX11_shell yX11_shell ∈ GT := GT_c4 (i := 46) rfl rfl
theorem mlL_36 : VL RL 36 yX11_shell cX11_shell 3 (some .int) 2 := ⟨⟨GT_c4 (i := 44) rfl rfl, wmX11_shell, wsX11_shell, wiX11_shell⟩, wcX11_shell, wdX11_shell⟩
theorem wcX12_shell : Cond.code yX12_shell cX12_shell 3 (some .int) ∈ GT := GT_c7 (i := 34) rfl rfl
theorem wiX12_shell : Cond.initialized yX12_shell.cls ∈ GT := GT_c1 (i := 13) rfl rfl
theorem wdX12_shell : yX12_shell.cls ≠ "java/lang/invoke/MethodHandle" ∧ yX12_shell.cls ≠ "java/lang/invoke/VarHandle" ∧ (parseMethodDescriptor yX12_shell.desc).map (fun d => d.parameters.length) = some 2 := ⟨pn12.1, pn12.2, pd8⟩
theorem wmX12_shell : Cond.instanceMethod yX12_shell ∈ GT := GT_c7 (i := 32) rfl rfl
theorem wsX12_shell : Cond.selects yX12_shell.cls yX12_shell yX12_shell ∈ GT := GT_c7 (i := 33) rfl rfl
theorem mlL_39 : VL RL 39 yX12_shell cX12_shell 3 (some .int) 2 := ⟨⟨GT_c7 (i := 31) rfl rfl, wmX12_shell, wsX12_shell, wiX12_shell⟩, wcX12_shell, wdX12_shell⟩
theorem wcX11_word : Cond.code yX11_word cX11_word 3 (some .int) ∈ GT := GT_c4 (i := 55) rfl rfl
theorem wiX11_word : Cond.initialized yX11_word.cls ∈ GT := GT_c1 (i := 1) rfl rfl
theorem wdX11_word : yX11_word.cls ≠ "java/lang/invoke/MethodHandle" ∧ yX11_word.cls ≠ "java/lang/invoke/VarHandle" ∧ (parseMethodDescriptor yX11_word.desc).map (fun d => d.parameters.length) = some 2 := ⟨pn0.1, pn0.2, pd8⟩
theorem wmX11_word : Cond.instanceMethod yX11_word ∈ GT := GT_c4 (i := 53) rfl rfl
theorem wsX11_word : Cond.selects yX11_word.cls yX11_word yX11_word ∈ GT := GT_c4 (i := 54) rfl rfl
theorem mlL_40 : VL RL 40 yX11_word cX11_word 3 (some .int) 2 := ⟨⟨GT_c4 (i := 52) rfl rfl, wmX11_word, wsX11_word, wiX11_word⟩, wcX11_word, wdX11_word⟩
theorem wcX12_word : Cond.code yX12_word cX12_word 5 (some .int) ∈ GT := GT_c7 (i := 42) rfl rfl
theorem wiX12_word : Cond.initialized yX12_word.cls ∈ GT := GT_c1 (i := 13) rfl rfl
theorem wdX12_word : yX12_word.cls ≠ "java/lang/invoke/MethodHandle" ∧ yX12_word.cls ≠ "java/lang/invoke/VarHandle" ∧ (parseMethodDescriptor yX12_word.desc).map (fun d => d.parameters.length) = some 2 := ⟨pn12.1, pn12.2, pd8⟩
theorem wmX12_word : Cond.instanceMethod yX12_word ∈ GT := GT_c7 (i := 40) rfl rfl
theorem wsX12_word : Cond.selects yX12_word.cls yX12_word yX12_word ∈ GT := GT_c7 (i := 41) rfl rfl
theorem mlL_43 : VL RL 43 yX12_word cX12_word 5 (some .int) 2 := ⟨⟨GT_c7 (i := 39) rfl rfl, wmX12_word, wsX12_word, wiX12_word⟩, wcX12_word, wdX12_word⟩
theorem wcX11_sound : Cond.code yX11_sound cX11_sound 3 (some .int) ∈ GT := GT_c4 (i := 67) rfl rfl
theorem wiX11_sound : Cond.initialized yX11_sound.cls ∈ GT := GT_c1 (i := 1) rfl rfl
theorem wdX11_sound : yX11_sound.cls ≠ "java/lang/invoke/MethodHandle" ∧ yX11_sound.cls ≠ "java/lang/invoke/VarHandle" ∧ (parseMethodDescriptor yX11_sound.desc).map (fun d => d.parameters.length) = some 2 := ⟨pn0.1, pn0.2, pd8⟩
theorem wmX11_sound : Cond.instanceMethod yX11_sound ∈ GT := GT_c4 (i := 65) rfl rfl
theorem wsX11_sound : Cond.selects yX11_sound.cls yX11_sound yX11_sound ∈ GT := GT_c4 (i := 66) rfl rfl
theorem mlL_44 : VL RL 44 yX11_sound cX11_sound 3 (some .int) 2 := ⟨⟨GT_c4 (i := 64) rfl rfl, wmX11_sound, wsX11_sound, wiX11_sound⟩, wcX11_sound, wdX11_sound⟩
theorem wcX12_sound : Cond.code yX12_sound cX12_sound 3 (some .int) ∈ GT := GT_c7 (i := 51) rfl rfl
theorem wiX12_sound : Cond.initialized yX12_sound.cls ∈ GT := GT_c1 (i := 13) rfl rfl
theorem wdX12_sound : yX12_sound.cls ≠ "java/lang/invoke/MethodHandle" ∧ yX12_sound.cls ≠ "java/lang/invoke/VarHandle" ∧ (parseMethodDescriptor yX12_sound.desc).map (fun d => d.parameters.length) = some 2 := ⟨pn12.1, pn12.2, pd8⟩
theorem wmX12_sound : Cond.instanceMethod yX12_sound ∈ GT := GT_c7 (i := 49) rfl rfl
theorem wsX12_sound : Cond.selects yX12_sound.cls yX12_sound yX12_sound ∈ GT := GT_c7 (i := 50) rfl rfl
theorem mlL_47 : VL RL 47 yX12_sound cX12_sound 3 (some .int) 2 := ⟨⟨GT_c7 (i := 48) rfl rfl, wmX12_sound, wsX12_sound, wiX12_sound⟩, wcX12_sound, wdX12_sound⟩
theorem wcX11_seed : Cond.code yX11_seed cX11_seed 3 (some .int) ∈ GT := GT_c4 (i := 88) rfl rfl
theorem wiX11_seed : Cond.initialized yX11_seed.cls ∈ GT := GT_c1 (i := 1) rfl rfl
theorem wdX11_seed : yX11_seed.cls ≠ "java/lang/invoke/MethodHandle" ∧ yX11_seed.cls ≠ "java/lang/invoke/VarHandle" ∧ (parseMethodDescriptor yX11_seed.desc).map (fun d => d.parameters.length) = some 1 := ⟨pn0.1, pn0.2, pd5⟩
theorem wmX11_seed : Cond.instanceMethod yX11_seed ∈ GT := GT_c4 (i := 86) rfl rfl
theorem wsX11_seed : Cond.selects yX11_seed.cls yX11_seed yX11_seed ∈ GT := GT_c4 (i := 87) rfl rfl
theorem mlL_48 : VL RL 48 yX11_seed cX11_seed 3 (some .int) 1 := ⟨⟨GT_c4 (i := 85) rfl rfl, wmX11_seed, wsX11_seed, wiX11_seed⟩, wcX11_seed, wdX11_seed⟩
theorem wcX12_seed : Cond.code yX12_seed cX12_seed 2 (some .int) ∈ GT := GT_c7 (i := 64) rfl rfl
theorem wiX12_seed : Cond.initialized yX12_seed.cls ∈ GT := GT_c1 (i := 13) rfl rfl
theorem wdX12_seed : yX12_seed.cls ≠ "java/lang/invoke/MethodHandle" ∧ yX12_seed.cls ≠ "java/lang/invoke/VarHandle" ∧ (parseMethodDescriptor yX12_seed.desc).map (fun d => d.parameters.length) = some 1 := ⟨pn12.1, pn12.2, pd5⟩
theorem wmX12_seed : Cond.instanceMethod yX12_seed ∈ GT := GT_c7 (i := 62) rfl rfl
theorem wsX12_seed : Cond.selects yX12_seed.cls yX12_seed yX12_seed ∈ GT := GT_c7 (i := 63) rfl rfl
theorem mlL_51 : VL RL 51 yX12_seed cX12_seed 2 (some .int) 1 := ⟨⟨GT_c7 (i := 61) rfl rfl, wmX12_seed, wsX12_seed, wiX12_seed⟩, wcX12_seed, wdX12_seed⟩
theorem wcX11_whisper : Cond.code yX11_whisper cX11_whisper 3 (some .int) ∈ GT := GT_c4 (i := 101) rfl rfl
theorem wiX11_whisper : Cond.initialized yX11_whisper.cls ∈ GT := GT_c1 (i := 1) rfl rfl
theorem wdX11_whisper : yX11_whisper.cls ≠ "java/lang/invoke/MethodHandle" ∧ yX11_whisper.cls ≠ "java/lang/invoke/VarHandle" ∧ (parseMethodDescriptor yX11_whisper.desc).map (fun d => d.parameters.length) = some 1 := ⟨pn0.1, pn0.2, pd5⟩
theorem wmX11_whisper : Cond.instanceMethod yX11_whisper ∈ GT := GT_c4 (i := 99) rfl rfl
theorem wsX11_whisper : Cond.selects yX11_whisper.cls yX11_whisper yX11_whisper ∈ GT := GT_c4 (i := 100) rfl rfl
theorem mlL_52 : VL RL 52 yX11_whisper cX11_whisper 3 (some .int) 1 := ⟨⟨GT_c4 (i := 98) rfl rfl, wmX11_whisper, wsX11_whisper, wiX11_whisper⟩, wcX11_whisper, wdX11_whisper⟩
theorem wcX12_whisper : Cond.code yX12_whisper cX12_whisper 4 (some .int) ∈ GT := GT_c7 (i := 76) rfl rfl
theorem wiX12_whisper : Cond.initialized yX12_whisper.cls ∈ GT := GT_c1 (i := 13) rfl rfl
theorem wdX12_whisper : yX12_whisper.cls ≠ "java/lang/invoke/MethodHandle" ∧ yX12_whisper.cls ≠ "java/lang/invoke/VarHandle" ∧ (parseMethodDescriptor yX12_whisper.desc).map (fun d => d.parameters.length) = some 1 := ⟨pn12.1, pn12.2, pd5⟩
theorem wmX12_whisper : Cond.instanceMethod yX12_whisper ∈ GT := GT_c7 (i := 74) rfl rfl
theorem wsX12_whisper : Cond.selects yX12_whisper.cls yX12_whisper yX12_whisper ∈ GT := GT_c7 (i := 75) rfl rfl
theorem mlL_55 : VL RL 55 yX12_whisper cX12_whisper 4 (some .int) 1 := ⟨⟨GT_c7 (i := 73) rfl rfl, wmX12_whisper, wsX12_whisper, wiX12_whisper⟩, wcX12_whisper, wdX12_whisper⟩
theorem wcX11_give : Cond.code yX11_give cX11_give 4 (some .int) ∈ GT := GT_c4 (i := 152) rfl rfl
theorem wiX11_give : Cond.initialized yX11_give.cls ∈ GT := GT_c1 (i := 1) rfl rfl
theorem wdX11_give : yX11_give.cls ≠ "java/lang/invoke/MethodHandle" ∧ yX11_give.cls ≠ "java/lang/invoke/VarHandle" ∧ (parseMethodDescriptor yX11_give.desc).map (fun d => d.parameters.length) = some 2 := ⟨pn0.1, pn0.2, pd8⟩
theorem wmX11_give : Cond.instanceMethod yX11_give ∈ GT := GT_c4 (i := 150) rfl rfl
theorem wsX11_give : Cond.selects yX11_give.cls yX11_give yX11_give ∈ GT := GT_c4 (i := 151) rfl rfl
theorem mlL_56 : VL RL 56 yX11_give cX11_give 4 (some .int) 2 := ⟨⟨GT_c4 (i := 149) rfl rfl, wmX11_give, wsX11_give, wiX11_give⟩, wcX11_give, wdX11_give⟩
theorem wcX12_give : Cond.code yX12_give cX12_give 3 (some .int) ∈ GT := GT_c7 (i := 88) rfl rfl
theorem wiX12_give : Cond.initialized yX12_give.cls ∈ GT := GT_c1 (i := 13) rfl rfl
theorem wdX12_give : yX12_give.cls ≠ "java/lang/invoke/MethodHandle" ∧ yX12_give.cls ≠ "java/lang/invoke/VarHandle" ∧ (parseMethodDescriptor yX12_give.desc).map (fun d => d.parameters.length) = some 2 := ⟨pn12.1, pn12.2, pd8⟩
theorem wmX12_give : Cond.instanceMethod yX12_give ∈ GT := GT_c7 (i := 86) rfl rfl
theorem wsX12_give : Cond.selects yX12_give.cls yX12_give yX12_give ∈ GT := GT_c7 (i := 87) rfl rfl
theorem mlL_59 : VL RL 59 yX12_give cX12_give 3 (some .int) 2 := ⟨⟨GT_c7 (i := 85) rfl rfl, wmX12_give, wsX12_give, wiX12_give⟩, wcX12_give, wdX12_give⟩
theorem wcX11_lay : Cond.code yX11_lay cX11_lay 4 (some .int) ∈ GT := GT_c4 (i := 156) rfl rfl
theorem wiX11_lay : Cond.initialized yX11_lay.cls ∈ GT := GT_c1 (i := 1) rfl rfl
theorem wdX11_lay : yX11_lay.cls ≠ "java/lang/invoke/MethodHandle" ∧ yX11_lay.cls ≠ "java/lang/invoke/VarHandle" ∧ (parseMethodDescriptor yX11_lay.desc).map (fun d => d.parameters.length) = some 1 := ⟨pn0.1, pn0.2, pd5⟩
theorem wmX11_lay : Cond.instanceMethod yX11_lay ∈ GT := GT_c4 (i := 154) rfl rfl
theorem wsX11_lay : Cond.selects yX11_lay.cls yX11_lay yX11_lay ∈ GT := GT_c4 (i := 155) rfl rfl
theorem mlL_60 : VL RL 60 yX11_lay cX11_lay 4 (some .int) 1 := ⟨⟨GT_c4 (i := 153) rfl rfl, wmX11_lay, wsX11_lay, wiX11_lay⟩, wcX11_lay, wdX11_lay⟩
theorem wcX12_lay : Cond.code yX12_lay cX12_lay 3 (some .int) ∈ GT := GT_c7 (i := 92) rfl rfl
theorem wiX12_lay : Cond.initialized yX12_lay.cls ∈ GT := GT_c1 (i := 13) rfl rfl
theorem wdX12_lay : yX12_lay.cls ≠ "java/lang/invoke/MethodHandle" ∧ yX12_lay.cls ≠ "java/lang/invoke/VarHandle" ∧ (parseMethodDescriptor yX12_lay.desc).map (fun d => d.parameters.length) = some 1 := ⟨pn12.1, pn12.2, pd5⟩
theorem wmX12_lay : Cond.instanceMethod yX12_lay ∈ GT := GT_c7 (i := 90) rfl rfl
theorem wsX12_lay : Cond.selects yX12_lay.cls yX12_lay yX12_lay ∈ GT := GT_c7 (i := 91) rfl rfl
theorem mlL_63 : VL RL 63 yX12_lay cX12_lay 3 (some .int) 1 := ⟨⟨GT_c7 (i := 89) rfl rfl, wmX12_lay, wsX12_lay, wiX12_lay⟩, wcX12_lay, wdX12_lay⟩
theorem wcX11_gale : Cond.code yX11_gale cX11_gale 3 (some .int) ∈ GT := GT_c4 (i := 160) rfl rfl
theorem wiX11_gale : Cond.initialized yX11_gale.cls ∈ GT := GT_c1 (i := 1) rfl rfl
theorem wdX11_gale : yX11_gale.cls ≠ "java/lang/invoke/MethodHandle" ∧ yX11_gale.cls ≠ "java/lang/invoke/VarHandle" ∧ (parseMethodDescriptor yX11_gale.desc).map (fun d => d.parameters.length) = some 1 := ⟨pn0.1, pn0.2, pd5⟩
theorem wmX11_gale : Cond.instanceMethod yX11_gale ∈ GT := GT_c4 (i := 158) rfl rfl
theorem wsX11_gale : Cond.selects yX11_gale.cls yX11_gale yX11_gale ∈ GT := GT_c4 (i := 159) rfl rfl
theorem mlL_64 : VL RL 64 yX11_gale cX11_gale 3 (some .int) 1 := ⟨⟨GT_c4 (i := 157) rfl rfl, wmX11_gale, wsX11_gale, wiX11_gale⟩, wcX11_gale, wdX11_gale⟩
theorem wcX12_gale : Cond.code yX12_gale cX12_gale 2 (some .int) ∈ GT := GT_c7 (i := 100) rfl rfl
theorem wiX12_gale : Cond.initialized yX12_gale.cls ∈ GT := GT_c1 (i := 13) rfl rfl
theorem wdX12_gale : yX12_gale.cls ≠ "java/lang/invoke/MethodHandle" ∧ yX12_gale.cls ≠ "java/lang/invoke/VarHandle" ∧ (parseMethodDescriptor yX12_gale.desc).map (fun d => d.parameters.length) = some 1 := ⟨pn12.1, pn12.2, pd5⟩
theorem wmX12_gale : Cond.instanceMethod yX12_gale ∈ GT := GT_c7 (i := 98) rfl rfl
theorem wsX12_gale : Cond.selects yX12_gale.cls yX12_gale yX12_gale ∈ GT := GT_c7 (i := 99) rfl rfl
theorem mlL_67 : VL RL 67 yX12_gale cX12_gale 2 (some .int) 1 := ⟨⟨GT_c7 (i := 97) rfl rfl, wmX12_gale, wsX12_gale, wiX12_gale⟩, wcX12_gale, wdX12_gale⟩
theorem wcX11_hours : Cond.code yX11_hours cX11_hours 4 (some .int) ∈ GT := GT_c4 (i := 164) rfl rfl
theorem wiX11_hours : Cond.initialized yX11_hours.cls ∈ GT := GT_c1 (i := 1) rfl rfl
theorem wdX11_hours : yX11_hours.cls ≠ "java/lang/invoke/MethodHandle" ∧ yX11_hours.cls ≠ "java/lang/invoke/VarHandle" ∧ (parseMethodDescriptor yX11_hours.desc).map (fun d => d.parameters.length) = some 1 := ⟨pn0.1, pn0.2, pd5⟩
theorem wmX11_hours : Cond.instanceMethod yX11_hours ∈ GT := GT_c4 (i := 162) rfl rfl
theorem wsX11_hours : Cond.selects yX11_hours.cls yX11_hours yX11_hours ∈ GT := GT_c4 (i := 163) rfl rfl
theorem mlL_68 : VL RL 68 yX11_hours cX11_hours 4 (some .int) 1 := ⟨⟨GT_c4 (i := 161) rfl rfl, wmX11_hours, wsX11_hours, wiX11_hours⟩, wcX11_hours, wdX11_hours⟩
theorem wcX12_hours : Cond.code yX12_hours cX12_hours 4 (some .int) ∈ GT := GT_c7 (i := 105) rfl rfl
theorem wiX12_hours : Cond.initialized yX12_hours.cls ∈ GT := GT_c1 (i := 13) rfl rfl
theorem wdX12_hours : yX12_hours.cls ≠ "java/lang/invoke/MethodHandle" ∧ yX12_hours.cls ≠ "java/lang/invoke/VarHandle" ∧ (parseMethodDescriptor yX12_hours.desc).map (fun d => d.parameters.length) = some 1 := ⟨pn12.1, pn12.2, pd5⟩
theorem wmX12_hours : Cond.instanceMethod yX12_hours ∈ GT := GT_c7 (i := 103) rfl rfl
theorem wsX12_hours : Cond.selects yX12_hours.cls yX12_hours yX12_hours ∈ GT := GT_c7 (i := 104) rfl rfl
theorem mlL_71 : VL RL 71 yX12_hours cX12_hours 4 (some .int) 1 := ⟨⟨GT_c7 (i := 102) rfl rfl, wmX12_hours, wsX12_hours, wiX12_hours⟩, wcX12_hours, wdX12_hours⟩
theorem wcX11_undo : Cond.code yX11_undo cX11_undo 2 (some .int) ∈ GT := GT_c4 (i := 169) rfl rfl
theorem wiX11_undo : Cond.initialized yX11_undo.cls ∈ GT := GT_c1 (i := 1) rfl rfl
theorem wdX11_undo : yX11_undo.cls ≠ "java/lang/invoke/MethodHandle" ∧ yX11_undo.cls ≠ "java/lang/invoke/VarHandle" ∧ (parseMethodDescriptor yX11_undo.desc).map (fun d => d.parameters.length) = some 1 := ⟨pn0.1, pn0.2, pd5⟩
theorem wmX11_undo : Cond.instanceMethod yX11_undo ∈ GT := GT_c4 (i := 167) rfl rfl
theorem wsX11_undo : Cond.selects yX11_undo.cls yX11_undo yX11_undo ∈ GT := GT_c4 (i := 168) rfl rfl
theorem mlL_72 : VL RL 72 yX11_undo cX11_undo 2 (some .int) 1 := ⟨⟨GT_c4 (i := 166) rfl rfl, wmX11_undo, wsX11_undo, wiX11_undo⟩, wcX11_undo, wdX11_undo⟩
theorem wcX12_undo : Cond.code yX12_undo cX12_undo 3 (some .int) ∈ GT := GT_c7 (i := 130) rfl rfl
theorem wiX12_undo : Cond.initialized yX12_undo.cls ∈ GT := GT_c1 (i := 13) rfl rfl
theorem wdX12_undo : yX12_undo.cls ≠ "java/lang/invoke/MethodHandle" ∧ yX12_undo.cls ≠ "java/lang/invoke/VarHandle" ∧ (parseMethodDescriptor yX12_undo.desc).map (fun d => d.parameters.length) = some 1 := ⟨pn12.1, pn12.2, pd5⟩
theorem wmX12_undo : Cond.instanceMethod yX12_undo ∈ GT := GT_c7 (i := 128) rfl rfl
theorem wsX12_undo : Cond.selects yX12_undo.cls yX12_undo yX12_undo ∈ GT := GT_c7 (i := 129) rfl rfl
theorem mlL_75 : VL RL 75 yX12_undo cX12_undo 3 (some .int) 1 := ⟨⟨GT_c7 (i := 127) rfl rfl, wmX12_undo, wsX12_undo, wiX12_undo⟩, wcX12_undo, wdX12_undo⟩
theorem wcX11_judge : Cond.code yX11_judge cX11_judge 6 (some .int) ∈ GT := GT_c4 (i := 178) rfl rfl
theorem wiX11_judge : Cond.initialized yX11_judge.cls ∈ GT := GT_c1 (i := 1) rfl rfl
theorem wdX11_judge : yX11_judge.cls ≠ "java/lang/invoke/MethodHandle" ∧ yX11_judge.cls ≠ "java/lang/invoke/VarHandle" ∧ (parseMethodDescriptor yX11_judge.desc).map (fun d => d.parameters.length) = some 2 := ⟨pn0.1, pn0.2, pd8⟩
theorem wmX11_judge : Cond.instanceMethod yX11_judge ∈ GT := GT_c4 (i := 176) rfl rfl
theorem wsX11_judge : Cond.selects yX11_judge.cls yX11_judge yX11_judge ∈ GT := GT_c4 (i := 177) rfl rfl
theorem mlL_76 : VL RL 76 yX11_judge cX11_judge 6 (some .int) 2 := ⟨⟨GT_c4 (i := 175) rfl rfl, wmX11_judge, wsX11_judge, wiX11_judge⟩, wcX11_judge, wdX11_judge⟩
theorem wcX12_judge : Cond.code yX12_judge cX12_judge 7 (some .int) ∈ GT := GT_c7 (i := 134) rfl rfl
theorem wiX12_judge : Cond.initialized yX12_judge.cls ∈ GT := GT_c1 (i := 13) rfl rfl
theorem wdX12_judge : yX12_judge.cls ≠ "java/lang/invoke/MethodHandle" ∧ yX12_judge.cls ≠ "java/lang/invoke/VarHandle" ∧ (parseMethodDescriptor yX12_judge.desc).map (fun d => d.parameters.length) = some 2 := ⟨pn12.1, pn12.2, pd8⟩
theorem wmX12_judge : Cond.instanceMethod yX12_judge ∈ GT := GT_c7 (i := 132) rfl rfl
theorem wsX12_judge : Cond.selects yX12_judge.cls yX12_judge yX12_judge ∈ GT := GT_c7 (i := 133) rfl rfl
theorem mlL_79 : VL RL 79 yX12_judge cX12_judge 7 (some .int) 2 := ⟨⟨GT_c7 (i := 131) rfl rfl, wmX12_judge, wsX12_judge, wiX12_judge⟩, wcX12_judge, wdX12_judge⟩
theorem wcX11_perform : Cond.code yX11_perform cX11_perform 3 (some .int) ∈ GT := GT_c4 (i := 199) rfl rfl
theorem wiX11_perform : Cond.initialized yX11_perform.cls ∈ GT := GT_c1 (i := 1) rfl rfl
theorem wdX11_perform : yX11_perform.cls ≠ "java/lang/invoke/MethodHandle" ∧ yX11_perform.cls ≠ "java/lang/invoke/VarHandle" ∧ (parseMethodDescriptor yX11_perform.desc).map (fun d => d.parameters.length) = some 1 := ⟨pn0.1, pn0.2, pd5⟩
theorem wmX11_perform : Cond.instanceMethod yX11_perform ∈ GT := GT_c4 (i := 197) rfl rfl
theorem wsX11_perform : Cond.selects yX11_perform.cls yX11_perform yX11_perform ∈ GT := GT_c4 (i := 198) rfl rfl
theorem mlL_80 : VL RL 80 yX11_perform cX11_perform 3 (some .int) 1 := ⟨⟨GT_c4 (i := 196) rfl rfl, wmX11_perform, wsX11_perform, wiX11_perform⟩, wcX11_perform, wdX11_perform⟩
theorem wcX12_perform : Cond.code yX12_perform cX12_perform 4 (some .int) ∈ GT := GT_c7 (i := 170) rfl rfl
theorem wiX12_perform : Cond.initialized yX12_perform.cls ∈ GT := GT_c1 (i := 13) rfl rfl
theorem wdX12_perform : yX12_perform.cls ≠ "java/lang/invoke/MethodHandle" ∧ yX12_perform.cls ≠ "java/lang/invoke/VarHandle" ∧ (parseMethodDescriptor yX12_perform.desc).map (fun d => d.parameters.length) = some 1 := ⟨pn12.1, pn12.2, pd5⟩
theorem wmX12_perform : Cond.instanceMethod yX12_perform ∈ GT := GT_c7 (i := 168) rfl rfl
theorem wsX12_perform : Cond.selects yX12_perform.cls yX12_perform yX12_perform ∈ GT := GT_c7 (i := 169) rfl rfl
theorem mlL_83 : VL RL 83 yX12_perform cX12_perform 4 (some .int) 1 := ⟨⟨GT_c7 (i := 167) rfl rfl, wmX12_perform, wsX12_perform, wiX12_perform⟩, wcX12_perform, wdX12_perform⟩
theorem wcX11_days : Cond.code yX11_days cX11_days 5 (some .int) ∈ GT := GT_c4 (i := 203) rfl rfl
theorem wiX11_days : Cond.initialized yX11_days.cls ∈ GT := GT_c1 (i := 1) rfl rfl
theorem wdX11_days : yX11_days.cls ≠ "java/lang/invoke/MethodHandle" ∧ yX11_days.cls ≠ "java/lang/invoke/VarHandle" ∧ (parseMethodDescriptor yX11_days.desc).map (fun d => d.parameters.length) = some 2 := ⟨pn0.1, pn0.2, pd8⟩
theorem wmX11_days : Cond.instanceMethod yX11_days ∈ GT := GT_c4 (i := 201) rfl rfl
theorem wsX11_days : Cond.selects yX11_days.cls yX11_days yX11_days ∈ GT := GT_c4 (i := 202) rfl rfl
theorem mlL_84 : VL RL 84 yX11_days cX11_days 5 (some .int) 2 := ⟨⟨GT_c4 (i := 200) rfl rfl, wmX11_days, wsX11_days, wiX11_days⟩, wcX11_days, wdX11_days⟩
theorem wcX12_days : Cond.code yX12_days cX12_days 6 (some .int) ∈ GT := GT_c7 (i := 174) rfl rfl
theorem wiX12_days : Cond.initialized yX12_days.cls ∈ GT := GT_c1 (i := 13) rfl rfl
theorem wdX12_days : yX12_days.cls ≠ "java/lang/invoke/MethodHandle" ∧ yX12_days.cls ≠ "java/lang/invoke/VarHandle" ∧ (parseMethodDescriptor yX12_days.desc).map (fun d => d.parameters.length) = some 2 := ⟨pn12.1, pn12.2, pd8⟩
theorem wmX12_days : Cond.instanceMethod yX12_days ∈ GT := GT_c7 (i := 172) rfl rfl
theorem wsX12_days : Cond.selects yX12_days.cls yX12_days yX12_days ∈ GT := GT_c7 (i := 173) rfl rfl
theorem mlL_87 : VL RL 87 yX12_days cX12_days 6 (some .int) 2 := ⟨⟨GT_c7 (i := 171) rfl rfl, wmX12_days, wsX12_days, wiX12_days⟩, wcX12_days, wdX12_days⟩
theorem wcX11_comesIn : Cond.code yX11_comesIn cX11_comesIn 4 (some .int) ∈ GT := GT_c4 (i := 216) rfl rfl
theorem wiX11_comesIn : Cond.initialized yX11_comesIn.cls ∈ GT := GT_c1 (i := 1) rfl rfl
theorem wdX11_comesIn : yX11_comesIn.cls ≠ "java/lang/invoke/MethodHandle" ∧ yX11_comesIn.cls ≠ "java/lang/invoke/VarHandle" ∧ (parseMethodDescriptor yX11_comesIn.desc).map (fun d => d.parameters.length) = some 2 := ⟨pn0.1, pn0.2, pd8⟩
theorem wmX11_comesIn : Cond.instanceMethod yX11_comesIn ∈ GT := GT_c4 (i := 214) rfl rfl
theorem wsX11_comesIn : Cond.selects yX11_comesIn.cls yX11_comesIn yX11_comesIn ∈ GT := GT_c4 (i := 215) rfl rfl
theorem mlL_88 : VL RL 88 yX11_comesIn cX11_comesIn 4 (some .int) 2 := ⟨⟨GT_c4 (i := 213) rfl rfl, wmX11_comesIn, wsX11_comesIn, wiX11_comesIn⟩, wcX11_comesIn, wdX11_comesIn⟩
theorem wcX12_comesIn : Cond.code yX12_comesIn cX12_comesIn 5 (some .int) ∈ GT := GT_c7 (i := 188) rfl rfl
theorem wiX12_comesIn : Cond.initialized yX12_comesIn.cls ∈ GT := GT_c1 (i := 13) rfl rfl
theorem wdX12_comesIn : yX12_comesIn.cls ≠ "java/lang/invoke/MethodHandle" ∧ yX12_comesIn.cls ≠ "java/lang/invoke/VarHandle" ∧ (parseMethodDescriptor yX12_comesIn.desc).map (fun d => d.parameters.length) = some 2 := ⟨pn12.1, pn12.2, pd8⟩
theorem wmX12_comesIn : Cond.instanceMethod yX12_comesIn ∈ GT := GT_c7 (i := 186) rfl rfl
theorem wsX12_comesIn : Cond.selects yX12_comesIn.cls yX12_comesIn yX12_comesIn ∈ GT := GT_c7 (i := 187) rfl rfl
theorem mlL_91 : VL RL 91 yX12_comesIn cX12_comesIn 5 (some .int) 2 := ⟨⟨GT_c7 (i := 185) rfl rfl, wmX12_comesIn, wsX12_comesIn, wiX12_comesIn⟩, wcX12_comesIn, wdX12_comesIn⟩
theorem wcX11_hearsIn : Cond.code yX11_hearsIn cX11_hearsIn 4 (some .int) ∈ GT := GT_c4 (i := 220) rfl rfl
theorem wiX11_hearsIn : Cond.initialized yX11_hearsIn.cls ∈ GT := GT_c1 (i := 1) rfl rfl
theorem wdX11_hearsIn : yX11_hearsIn.cls ≠ "java/lang/invoke/MethodHandle" ∧ yX11_hearsIn.cls ≠ "java/lang/invoke/VarHandle" ∧ (parseMethodDescriptor yX11_hearsIn.desc).map (fun d => d.parameters.length) = some 2 := ⟨pn0.1, pn0.2, pd8⟩
theorem wmX11_hearsIn : Cond.instanceMethod yX11_hearsIn ∈ GT := GT_c4 (i := 218) rfl rfl
theorem wsX11_hearsIn : Cond.selects yX11_hearsIn.cls yX11_hearsIn yX11_hearsIn ∈ GT := GT_c4 (i := 219) rfl rfl
theorem mlL_92 : VL RL 92 yX11_hearsIn cX11_hearsIn 4 (some .int) 2 := ⟨⟨GT_c4 (i := 217) rfl rfl, wmX11_hearsIn, wsX11_hearsIn, wiX11_hearsIn⟩, wcX11_hearsIn, wdX11_hearsIn⟩
theorem wcX12_hearsIn : Cond.code yX12_hearsIn cX12_hearsIn 5 (some .int) ∈ GT := GT_c7 (i := 192) rfl rfl
theorem wiX12_hearsIn : Cond.initialized yX12_hearsIn.cls ∈ GT := GT_c1 (i := 13) rfl rfl
theorem wdX12_hearsIn : yX12_hearsIn.cls ≠ "java/lang/invoke/MethodHandle" ∧ yX12_hearsIn.cls ≠ "java/lang/invoke/VarHandle" ∧ (parseMethodDescriptor yX12_hearsIn.desc).map (fun d => d.parameters.length) = some 2 := ⟨pn12.1, pn12.2, pd8⟩
theorem wmX12_hearsIn : Cond.instanceMethod yX12_hearsIn ∈ GT := GT_c7 (i := 190) rfl rfl
theorem wsX12_hearsIn : Cond.selects yX12_hearsIn.cls yX12_hearsIn yX12_hearsIn ∈ GT := GT_c7 (i := 191) rfl rfl
theorem mlL_95 : VL RL 95 yX12_hearsIn cX12_hearsIn 5 (some .int) 2 := ⟨⟨GT_c7 (i := 189) rfl rfl, wmX12_hearsIn, wsX12_hearsIn, wiX12_hearsIn⟩, wcX12_hearsIn, wdX12_hearsIn⟩
theorem wcX11_heard : Cond.code yX11_heard cX11_heard 3 (some .int) ∈ GT := GT_c4 (i := 224) rfl rfl
theorem wiX11_heard : Cond.initialized yX11_heard.cls ∈ GT := GT_c1 (i := 1) rfl rfl
theorem wdX11_heard : yX11_heard.cls ≠ "java/lang/invoke/MethodHandle" ∧ yX11_heard.cls ≠ "java/lang/invoke/VarHandle" ∧ (parseMethodDescriptor yX11_heard.desc).map (fun d => d.parameters.length) = some 2 := ⟨pn0.1, pn0.2, pd8⟩
theorem wmX11_heard : Cond.instanceMethod yX11_heard ∈ GT := GT_c4 (i := 222) rfl rfl
theorem wsX11_heard : Cond.selects yX11_heard.cls yX11_heard yX11_heard ∈ GT := GT_c4 (i := 223) rfl rfl
theorem mlL_96 : VL RL 96 yX11_heard cX11_heard 3 (some .int) 2 := ⟨⟨GT_c4 (i := 221) rfl rfl, wmX11_heard, wsX11_heard, wiX11_heard⟩, wcX11_heard, wdX11_heard⟩
theorem wcX12_heard : Cond.code yX12_heard cX12_heard 4 (some .int) ∈ GT := GT_c7 (i := 196) rfl rfl
theorem wiX12_heard : Cond.initialized yX12_heard.cls ∈ GT := GT_c1 (i := 13) rfl rfl
theorem wdX12_heard : yX12_heard.cls ≠ "java/lang/invoke/MethodHandle" ∧ yX12_heard.cls ≠ "java/lang/invoke/VarHandle" ∧ (parseMethodDescriptor yX12_heard.desc).map (fun d => d.parameters.length) = some 2 := ⟨pn12.1, pn12.2, pd8⟩
theorem wmX12_heard : Cond.instanceMethod yX12_heard ∈ GT := GT_c7 (i := 194) rfl rfl
theorem wsX12_heard : Cond.selects yX12_heard.cls yX12_heard yX12_heard ∈ GT := GT_c7 (i := 195) rfl rfl
theorem mlL_99 : VL RL 99 yX12_heard cX12_heard 4 (some .int) 2 := ⟨⟨GT_c7 (i := 193) rfl rfl, wmX12_heard, wsX12_heard, wiX12_heard⟩, wcX12_heard, wdX12_heard⟩
theorem wcX11_loudest : Cond.code yX11_loudest cX11_loudest 6 (some .int) ∈ GT := GT_c4 (i := 232) rfl rfl
theorem wiX11_loudest : Cond.initialized yX11_loudest.cls ∈ GT := GT_c1 (i := 1) rfl rfl
theorem wdX11_loudest : yX11_loudest.cls ≠ "java/lang/invoke/MethodHandle" ∧ yX11_loudest.cls ≠ "java/lang/invoke/VarHandle" ∧ (parseMethodDescriptor yX11_loudest.desc).map (fun d => d.parameters.length) = some 1 := ⟨pn0.1, pn0.2, pd5⟩
theorem wmX11_loudest : Cond.instanceMethod yX11_loudest ∈ GT := GT_c4 (i := 230) rfl rfl
theorem wsX11_loudest : Cond.selects yX11_loudest.cls yX11_loudest yX11_loudest ∈ GT := GT_c4 (i := 231) rfl rfl
theorem mlL_100 : VL RL 100 yX11_loudest cX11_loudest 6 (some .int) 1 := ⟨⟨GT_c4 (i := 229) rfl rfl, wmX11_loudest, wsX11_loudest, wiX11_loudest⟩, wcX11_loudest, wdX11_loudest⟩
theorem wcX12_loudest : Cond.code yX12_loudest cX12_loudest 4 (some .int) ∈ GT := GT_c7 (i := 204) rfl rfl
theorem wiX12_loudest : Cond.initialized yX12_loudest.cls ∈ GT := GT_c1 (i := 13) rfl rfl
theorem wdX12_loudest : yX12_loudest.cls ≠ "java/lang/invoke/MethodHandle" ∧ yX12_loudest.cls ≠ "java/lang/invoke/VarHandle" ∧ (parseMethodDescriptor yX12_loudest.desc).map (fun d => d.parameters.length) = some 1 := ⟨pn12.1, pn12.2, pd5⟩
theorem wmX12_loudest : Cond.instanceMethod yX12_loudest ∈ GT := GT_c7 (i := 202) rfl rfl
theorem wsX12_loudest : Cond.selects yX12_loudest.cls yX12_loudest yX12_loudest ∈ GT := GT_c7 (i := 203) rfl rfl
theorem mlL_103 : VL RL 103 yX12_loudest cX12_loudest 4 (some .int) 1 := ⟨⟨GT_c7 (i := 201) rfl rfl, wmX12_loudest, wsX12_loudest, wiX12_loudest⟩, wcX12_loudest, wdX12_loudest⟩
theorem wcX11_hearers : Cond.code yX11_hearers cX11_hearers 4 (some .int) ∈ GT := GT_c4 (i := 236) rfl rfl
theorem wiX11_hearers : Cond.initialized yX11_hearers.cls ∈ GT := GT_c1 (i := 1) rfl rfl
theorem wdX11_hearers : yX11_hearers.cls ≠ "java/lang/invoke/MethodHandle" ∧ yX11_hearers.cls ≠ "java/lang/invoke/VarHandle" ∧ (parseMethodDescriptor yX11_hearers.desc).map (fun d => d.parameters.length) = some 3 := ⟨pn0.1, pn0.2, pd11⟩
theorem wmX11_hearers : Cond.instanceMethod yX11_hearers ∈ GT := GT_c4 (i := 234) rfl rfl
theorem wsX11_hearers : Cond.selects yX11_hearers.cls yX11_hearers yX11_hearers ∈ GT := GT_c4 (i := 235) rfl rfl
theorem mlL_104 : VL RL 104 yX11_hearers cX11_hearers 4 (some .int) 3 := ⟨⟨GT_c4 (i := 233) rfl rfl, wmX11_hearers, wsX11_hearers, wiX11_hearers⟩, wcX11_hearers, wdX11_hearers⟩
theorem wcX12_hearers : Cond.code yX12_hearers cX12_hearers 4 (some .int) ∈ GT := GT_c7 (i := 211) rfl rfl
theorem wiX12_hearers : Cond.initialized yX12_hearers.cls ∈ GT := GT_c1 (i := 13) rfl rfl
theorem wdX12_hearers : yX12_hearers.cls ≠ "java/lang/invoke/MethodHandle" ∧ yX12_hearers.cls ≠ "java/lang/invoke/VarHandle" ∧ (parseMethodDescriptor yX12_hearers.desc).map (fun d => d.parameters.length) = some 3 := ⟨pn12.1, pn12.2, pd11⟩
theorem wmX12_hearers : Cond.instanceMethod yX12_hearers ∈ GT := GT_c7 (i := 209) rfl rfl
theorem wsX12_hearers : Cond.selects yX12_hearers.cls yX12_hearers yX12_hearers ∈ GT := GT_c7 (i := 210) rfl rfl
theorem mlL_108 : VL RL 108 yX12_hearers cX12_hearers 4 (some .int) 3 := ⟨⟨GT_c7 (i := 208) rfl rfl, wmX12_hearers, wsX12_hearers, wiX12_hearers⟩, wcX12_hearers, wdX12_hearers⟩
theorem wcX11_far : Cond.code yX11_far cX11_far 4 (some .int) ∈ GT := GT_c5 (i := 35) rfl rfl
theorem wiX11_far : Cond.initialized yX11_far.cls ∈ GT := GT_c1 (i := 1) rfl rfl
theorem wdX11_far : yX11_far.cls ≠ "java/lang/invoke/MethodHandle" ∧ yX11_far.cls ≠ "java/lang/invoke/VarHandle" ∧ (parseMethodDescriptor yX11_far.desc).map (fun d => d.parameters.length) = some 2 := ⟨pn0.1, pn0.2, pd8⟩
theorem wmX11_far : Cond.instanceMethod yX11_far ∈ GT := GT_c5 (i := 33) rfl rfl
theorem wsX11_far : Cond.selects yX11_far.cls yX11_far yX11_far ∈ GT := GT_c5 (i := 34) rfl rfl
theorem mlL_109 : VL RL 109 yX11_far cX11_far 4 (some .int) 2 := ⟨⟨GT_c5 (i := 32) rfl rfl, wmX11_far, wsX11_far, wiX11_far⟩, wcX11_far, wdX11_far⟩
theorem wcX12_far : Cond.code yX12_far cX12_far 5 (some .int) ∈ GT := GT_c7 (i := 227) rfl rfl
theorem wiX12_far : Cond.initialized yX12_far.cls ∈ GT := GT_c1 (i := 13) rfl rfl
theorem wdX12_far : yX12_far.cls ≠ "java/lang/invoke/MethodHandle" ∧ yX12_far.cls ≠ "java/lang/invoke/VarHandle" ∧ (parseMethodDescriptor yX12_far.desc).map (fun d => d.parameters.length) = some 2 := ⟨pn12.1, pn12.2, pd8⟩
theorem wmX12_far : Cond.instanceMethod yX12_far ∈ GT := GT_c7 (i := 225) rfl rfl
theorem wsX12_far : Cond.selects yX12_far.cls yX12_far yX12_far ∈ GT := GT_c7 (i := 226) rfl rfl
theorem mlL_112 : VL RL 112 yX12_far cX12_far 5 (some .int) 2 := ⟨⟨GT_c7 (i := 224) rfl rfl, wmX12_far, wsX12_far, wiX12_far⟩, wcX12_far, wdX12_far⟩
theorem wcX11_reaches : Cond.code yX11_reaches cX11_reaches 4 (some .int) ∈ GT := GT_c5 (i := 39) rfl rfl
theorem wiX11_reaches : Cond.initialized yX11_reaches.cls ∈ GT := GT_c1 (i := 1) rfl rfl
theorem wdX11_reaches : yX11_reaches.cls ≠ "java/lang/invoke/MethodHandle" ∧ yX11_reaches.cls ≠ "java/lang/invoke/VarHandle" ∧ (parseMethodDescriptor yX11_reaches.desc).map (fun d => d.parameters.length) = some 2 := ⟨pn0.1, pn0.2, pd8⟩
theorem wmX11_reaches : Cond.instanceMethod yX11_reaches ∈ GT := GT_c5 (i := 37) rfl rfl
theorem wsX11_reaches : Cond.selects yX11_reaches.cls yX11_reaches yX11_reaches ∈ GT := GT_c5 (i := 38) rfl rfl
theorem mlL_113 : VL RL 113 yX11_reaches cX11_reaches 4 (some .int) 2 := ⟨⟨GT_c5 (i := 36) rfl rfl, wmX11_reaches, wsX11_reaches, wiX11_reaches⟩, wcX11_reaches, wdX11_reaches⟩
theorem wcX12_reaches : Cond.code yX12_reaches cX12_reaches 5 (some .int) ∈ GT := GT_c7 (i := 231) rfl rfl
theorem wiX12_reaches : Cond.initialized yX12_reaches.cls ∈ GT := GT_c1 (i := 13) rfl rfl
theorem wdX12_reaches : yX12_reaches.cls ≠ "java/lang/invoke/MethodHandle" ∧ yX12_reaches.cls ≠ "java/lang/invoke/VarHandle" ∧ (parseMethodDescriptor yX12_reaches.desc).map (fun d => d.parameters.length) = some 2 := ⟨pn12.1, pn12.2, pd8⟩
theorem wmX12_reaches : Cond.instanceMethod yX12_reaches ∈ GT := GT_c7 (i := 229) rfl rfl
theorem wsX12_reaches : Cond.selects yX12_reaches.cls yX12_reaches yX12_reaches ∈ GT := GT_c7 (i := 230) rfl rfl
theorem mlL_116 : VL RL 116 yX12_reaches cX12_reaches 5 (some .int) 2 := ⟨⟨GT_c7 (i := 228) rfl rfl, wmX12_reaches, wsX12_reaches, wiX12_reaches⟩, wcX12_reaches, wdX12_reaches⟩
theorem wcX11_secret : Cond.code yX11_secret cX11_secret 6 (some .int) ∈ GT := GT_c5 (i := 44) rfl rfl
theorem wiX11_secret : Cond.initialized yX11_secret.cls ∈ GT := GT_c1 (i := 1) rfl rfl
theorem wdX11_secret : yX11_secret.cls ≠ "java/lang/invoke/MethodHandle" ∧ yX11_secret.cls ≠ "java/lang/invoke/VarHandle" ∧ (parseMethodDescriptor yX11_secret.desc).map (fun d => d.parameters.length) = some 3 := ⟨pn0.1, pn0.2, pd11⟩
theorem wmX11_secret : Cond.instanceMethod yX11_secret ∈ GT := GT_c5 (i := 42) rfl rfl
theorem wsX11_secret : Cond.selects yX11_secret.cls yX11_secret yX11_secret ∈ GT := GT_c5 (i := 43) rfl rfl
theorem mlL_117 : VL RL 117 yX11_secret cX11_secret 6 (some .int) 3 := ⟨⟨GT_c5 (i := 41) rfl rfl, wmX11_secret, wsX11_secret, wiX11_secret⟩, wcX11_secret, wdX11_secret⟩
theorem wcX12_secret : Cond.code yX12_secret cX12_secret 6 (some .int) ∈ GT := GT_c7 (i := 235) rfl rfl
theorem wiX12_secret : Cond.initialized yX12_secret.cls ∈ GT := GT_c1 (i := 13) rfl rfl
theorem wdX12_secret : yX12_secret.cls ≠ "java/lang/invoke/MethodHandle" ∧ yX12_secret.cls ≠ "java/lang/invoke/VarHandle" ∧ (parseMethodDescriptor yX12_secret.desc).map (fun d => d.parameters.length) = some 3 := ⟨pn12.1, pn12.2, pd11⟩
theorem wmX12_secret : Cond.instanceMethod yX12_secret ∈ GT := GT_c7 (i := 233) rfl rfl
theorem wsX12_secret : Cond.selects yX12_secret.cls yX12_secret yX12_secret ∈ GT := GT_c7 (i := 234) rfl rfl
theorem mlL_120 : VL RL 120 yX12_secret cX12_secret 6 (some .int) 3 := ⟨⟨GT_c7 (i := 232) rfl rfl, wmX12_secret, wsX12_secret, wiX12_secret⟩, wcX12_secret, wdX12_secret⟩
theorem wcX11_widest : Cond.code yX11_widest cX11_widest 6 (some .int) ∈ GT := GT_c5 (i := 48) rfl rfl
theorem wiX11_widest : Cond.initialized yX11_widest.cls ∈ GT := GT_c1 (i := 1) rfl rfl
theorem wdX11_widest : yX11_widest.cls ≠ "java/lang/invoke/MethodHandle" ∧ yX11_widest.cls ≠ "java/lang/invoke/VarHandle" ∧ (parseMethodDescriptor yX11_widest.desc).map (fun d => d.parameters.length) = some 1 := ⟨pn0.1, pn0.2, pd5⟩
theorem wmX11_widest : Cond.instanceMethod yX11_widest ∈ GT := GT_c5 (i := 46) rfl rfl
theorem wsX11_widest : Cond.selects yX11_widest.cls yX11_widest yX11_widest ∈ GT := GT_c5 (i := 47) rfl rfl
theorem mlL_121 : VL RL 121 yX11_widest cX11_widest 6 (some .int) 1 := ⟨⟨GT_c5 (i := 45) rfl rfl, wmX11_widest, wsX11_widest, wiX11_widest⟩, wcX11_widest, wdX11_widest⟩
theorem wcX12_widest : Cond.code yX12_widest cX12_widest 4 (some .int) ∈ GT := GT_c7 (i := 239) rfl rfl
theorem wiX12_widest : Cond.initialized yX12_widest.cls ∈ GT := GT_c1 (i := 13) rfl rfl
theorem wdX12_widest : yX12_widest.cls ≠ "java/lang/invoke/MethodHandle" ∧ yX12_widest.cls ≠ "java/lang/invoke/VarHandle" ∧ (parseMethodDescriptor yX12_widest.desc).map (fun d => d.parameters.length) = some 1 := ⟨pn12.1, pn12.2, pd5⟩
theorem wmX12_widest : Cond.instanceMethod yX12_widest ∈ GT := GT_c7 (i := 237) rfl rfl
theorem wsX12_widest : Cond.selects yX12_widest.cls yX12_widest yX12_widest ∈ GT := GT_c7 (i := 238) rfl rfl
theorem mlL_124 : VL RL 124 yX12_widest cX12_widest 4 (some .int) 1 := ⟨⟨GT_c7 (i := 236) rfl rfl, wmX12_widest, wsX12_widest, wiX12_widest⟩, wcX12_widest, wdX12_widest⟩
theorem wcX11_shut : Cond.code yX11_shut cX11_shut 5 (some .int) ∈ GT := GT_c5 (i := 52) rfl rfl
theorem wiX11_shut : Cond.initialized yX11_shut.cls ∈ GT := GT_c1 (i := 1) rfl rfl
theorem wdX11_shut : yX11_shut.cls ≠ "java/lang/invoke/MethodHandle" ∧ yX11_shut.cls ≠ "java/lang/invoke/VarHandle" ∧ (parseMethodDescriptor yX11_shut.desc).map (fun d => d.parameters.length) = some 4 := ⟨pn0.1, pn0.2, pd14⟩
theorem wmX11_shut : Cond.instanceMethod yX11_shut ∈ GT := GT_c5 (i := 50) rfl rfl
theorem wsX11_shut : Cond.selects yX11_shut.cls yX11_shut yX11_shut ∈ GT := GT_c5 (i := 51) rfl rfl
theorem mlL_125 : VL RL 125 yX11_shut cX11_shut 5 (some .int) 4 := ⟨⟨GT_c5 (i := 49) rfl rfl, wmX11_shut, wsX11_shut, wiX11_shut⟩, wcX11_shut, wdX11_shut⟩
theorem wcX12_shut : Cond.code yX12_shut cX12_shut 5 (some .int) ∈ GT := GT_c8 (i := 3) rfl rfl
theorem wiX12_shut : Cond.initialized yX12_shut.cls ∈ GT := GT_c1 (i := 13) rfl rfl
theorem wdX12_shut : yX12_shut.cls ≠ "java/lang/invoke/MethodHandle" ∧ yX12_shut.cls ≠ "java/lang/invoke/VarHandle" ∧ (parseMethodDescriptor yX12_shut.desc).map (fun d => d.parameters.length) = some 4 := ⟨pn12.1, pn12.2, pd14⟩
theorem wmX12_shut : Cond.instanceMethod yX12_shut ∈ GT := GT_c8 (i := 1) rfl rfl
theorem wsX12_shut : Cond.selects yX12_shut.cls yX12_shut yX12_shut ∈ GT := GT_c8 (i := 2) rfl rfl
theorem mlL_129 : VL RL 129 yX12_shut cX12_shut 5 (some .int) 4 := ⟨⟨GT_c8 (i := 0) rfl rfl, wmX12_shut, wsX12_shut, wiX12_shut⟩, wcX12_shut, wdX12_shut⟩
theorem wcX11_take : Cond.code yX11_take cX11_take 5 (some .int) ∈ GT := GT_c5 (i := 65) rfl rfl
theorem wiX11_take : Cond.initialized yX11_take.cls ∈ GT := GT_c1 (i := 1) rfl rfl
theorem wdX11_take : yX11_take.cls ≠ "java/lang/invoke/MethodHandle" ∧ yX11_take.cls ≠ "java/lang/invoke/VarHandle" ∧ (parseMethodDescriptor yX11_take.desc).map (fun d => d.parameters.length) = some 4 := ⟨pn0.1, pn0.2, pd14⟩
theorem wmX11_take : Cond.instanceMethod yX11_take ∈ GT := GT_c5 (i := 63) rfl rfl
theorem wsX11_take : Cond.selects yX11_take.cls yX11_take yX11_take ∈ GT := GT_c5 (i := 64) rfl rfl
theorem mlL_130 : VL RL 130 yX11_take cX11_take 5 (some .int) 4 := ⟨⟨GT_c5 (i := 62) rfl rfl, wmX11_take, wsX11_take, wiX11_take⟩, wcX11_take, wdX11_take⟩
theorem wcX12_take : Cond.code yX12_take cX12_take 5 (some .int) ∈ GT := GT_c8 (i := 23) rfl rfl
theorem wiX12_take : Cond.initialized yX12_take.cls ∈ GT := GT_c1 (i := 13) rfl rfl
theorem wdX12_take : yX12_take.cls ≠ "java/lang/invoke/MethodHandle" ∧ yX12_take.cls ≠ "java/lang/invoke/VarHandle" ∧ (parseMethodDescriptor yX12_take.desc).map (fun d => d.parameters.length) = some 4 := ⟨pn12.1, pn12.2, pd14⟩
theorem wmX12_take : Cond.instanceMethod yX12_take ∈ GT := GT_c8 (i := 21) rfl rfl
theorem wsX12_take : Cond.selects yX12_take.cls yX12_take yX12_take ∈ GT := GT_c8 (i := 22) rfl rfl
theorem mlL_133 : VL RL 133 yX12_take cX12_take 5 (some .int) 4 := ⟨⟨GT_c8 (i := 20) rfl rfl, wmX12_take, wsX12_take, wiX12_take⟩, wcX12_take, wdX12_take⟩
theorem wcX11_needs : Cond.code yX11_needs cX11_needs 6 (some .int) ∈ GT := GT_c5 (i := 73) rfl rfl
theorem wiX11_needs : Cond.initialized yX11_needs.cls ∈ GT := GT_c1 (i := 1) rfl rfl
theorem wdX11_needs : yX11_needs.cls ≠ "java/lang/invoke/MethodHandle" ∧ yX11_needs.cls ≠ "java/lang/invoke/VarHandle" ∧ (parseMethodDescriptor yX11_needs.desc).map (fun d => d.parameters.length) = some 2 := ⟨pn0.1, pn0.2, pd8⟩
theorem wmX11_needs : Cond.instanceMethod yX11_needs ∈ GT := GT_c5 (i := 71) rfl rfl
theorem wsX11_needs : Cond.selects yX11_needs.cls yX11_needs yX11_needs ∈ GT := GT_c5 (i := 72) rfl rfl
theorem mlL_134 : VL RL 134 yX11_needs cX11_needs 6 (some .int) 2 := ⟨⟨GT_c5 (i := 70) rfl rfl, wmX11_needs, wsX11_needs, wiX11_needs⟩, wcX11_needs, wdX11_needs⟩
theorem wcX12_needs : Cond.code yX12_needs cX12_needs 6 (some .int) ∈ GT := GT_c8 (i := 27) rfl rfl
theorem wiX12_needs : Cond.initialized yX12_needs.cls ∈ GT := GT_c1 (i := 13) rfl rfl
theorem wdX12_needs : yX12_needs.cls ≠ "java/lang/invoke/MethodHandle" ∧ yX12_needs.cls ≠ "java/lang/invoke/VarHandle" ∧ (parseMethodDescriptor yX12_needs.desc).map (fun d => d.parameters.length) = some 2 := ⟨pn12.1, pn12.2, pd8⟩
theorem wmX12_needs : Cond.instanceMethod yX12_needs ∈ GT := GT_c8 (i := 25) rfl rfl
theorem wsX12_needs : Cond.selects yX12_needs.cls yX12_needs yX12_needs ∈ GT := GT_c8 (i := 26) rfl rfl
theorem mlL_137 : VL RL 137 yX12_needs cX12_needs 6 (some .int) 2 := ⟨⟨GT_c8 (i := 24) rfl rfl, wmX12_needs, wsX12_needs, wiX12_needs⟩, wcX12_needs, wdX12_needs⟩
theorem wcX11_spies : Cond.code yX11_spies cX11_spies 5 (some .int) ∈ GT := GT_c5 (i := 77) rfl rfl
theorem wiX11_spies : Cond.initialized yX11_spies.cls ∈ GT := GT_c1 (i := 1) rfl rfl
theorem wdX11_spies : yX11_spies.cls ≠ "java/lang/invoke/MethodHandle" ∧ yX11_spies.cls ≠ "java/lang/invoke/VarHandle" ∧ (parseMethodDescriptor yX11_spies.desc).map (fun d => d.parameters.length) = some 3 := ⟨pn0.1, pn0.2, pd11⟩
theorem wmX11_spies : Cond.instanceMethod yX11_spies ∈ GT := GT_c5 (i := 75) rfl rfl
theorem wsX11_spies : Cond.selects yX11_spies.cls yX11_spies yX11_spies ∈ GT := GT_c5 (i := 76) rfl rfl
theorem mlL_138 : VL RL 138 yX11_spies cX11_spies 5 (some .int) 3 := ⟨⟨GT_c5 (i := 74) rfl rfl, wmX11_spies, wsX11_spies, wiX11_spies⟩, wcX11_spies, wdX11_spies⟩
theorem wcX12_spies : Cond.code yX12_spies cX12_spies 5 (some .int) ∈ GT := GT_c8 (i := 31) rfl rfl
theorem wiX12_spies : Cond.initialized yX12_spies.cls ∈ GT := GT_c1 (i := 13) rfl rfl
theorem wdX12_spies : yX12_spies.cls ≠ "java/lang/invoke/MethodHandle" ∧ yX12_spies.cls ≠ "java/lang/invoke/VarHandle" ∧ (parseMethodDescriptor yX12_spies.desc).map (fun d => d.parameters.length) = some 3 := ⟨pn12.1, pn12.2, pd11⟩
theorem wmX12_spies : Cond.instanceMethod yX12_spies ∈ GT := GT_c8 (i := 29) rfl rfl
theorem wsX12_spies : Cond.selects yX12_spies.cls yX12_spies yX12_spies ∈ GT := GT_c8 (i := 30) rfl rfl
theorem mlL_141 : VL RL 141 yX12_spies cX12_spies 5 (some .int) 3 := ⟨⟨GT_c8 (i := 28) rfl rfl, wmX12_spies, wsX12_spies, wiX12_spies⟩, wcX12_spies, wdX12_spies⟩
theorem wcX11_watch : Cond.code yX11_watch cX11_watch 3 (some .int) ∈ GT := GT_c5 (i := 97) rfl rfl
theorem wiX11_watch : Cond.initialized yX11_watch.cls ∈ GT := GT_c1 (i := 1) rfl rfl
theorem wdX11_watch : yX11_watch.cls ≠ "java/lang/invoke/MethodHandle" ∧ yX11_watch.cls ≠ "java/lang/invoke/VarHandle" ∧ (parseMethodDescriptor yX11_watch.desc).map (fun d => d.parameters.length) = some 1 := ⟨pn0.1, pn0.2, pd5⟩
theorem wmX11_watch : Cond.instanceMethod yX11_watch ∈ GT := GT_c5 (i := 95) rfl rfl
theorem wsX11_watch : Cond.selects yX11_watch.cls yX11_watch yX11_watch ∈ GT := GT_c5 (i := 96) rfl rfl
theorem mlL_142 : VL RL 142 yX11_watch cX11_watch 3 (some .int) 1 := ⟨⟨GT_c5 (i := 94) rfl rfl, wmX11_watch, wsX11_watch, wiX11_watch⟩, wcX11_watch, wdX11_watch⟩
theorem wcX12_watch : Cond.code yX12_watch cX12_watch 3 (some .int) ∈ GT := GT_c8 (i := 47) rfl rfl
theorem wiX12_watch : Cond.initialized yX12_watch.cls ∈ GT := GT_c1 (i := 13) rfl rfl
theorem wdX12_watch : yX12_watch.cls ≠ "java/lang/invoke/MethodHandle" ∧ yX12_watch.cls ≠ "java/lang/invoke/VarHandle" ∧ (parseMethodDescriptor yX12_watch.desc).map (fun d => d.parameters.length) = some 1 := ⟨pn12.1, pn12.2, pd5⟩
theorem wmX12_watch : Cond.instanceMethod yX12_watch ∈ GT := GT_c8 (i := 45) rfl rfl
theorem wsX12_watch : Cond.selects yX12_watch.cls yX12_watch yX12_watch ∈ GT := GT_c8 (i := 46) rfl rfl
theorem mlL_145 : VL RL 145 yX12_watch cX12_watch 3 (some .int) 1 := ⟨⟨GT_c8 (i := 44) rfl rfl, wmX12_watch, wsX12_watch, wiX12_watch⟩, wcX12_watch, wdX12_watch⟩
theorem wcX11_hears : Cond.code yX11_hears cX11_hears 2 (some .int) ∈ GT := GT_c5 (i := 101) rfl rfl
theorem wiX11_hears : Cond.initialized yX11_hears.cls ∈ GT := GT_c1 (i := 1) rfl rfl
theorem wdX11_hears : yX11_hears.cls ≠ "java/lang/invoke/MethodHandle" ∧ yX11_hears.cls ≠ "java/lang/invoke/VarHandle" ∧ (parseMethodDescriptor yX11_hears.desc).map (fun d => d.parameters.length) = some 1 := ⟨pn0.1, pn0.2, pd5⟩
theorem wmX11_hears : Cond.instanceMethod yX11_hears ∈ GT := GT_c5 (i := 99) rfl rfl
theorem wsX11_hears : Cond.selects yX11_hears.cls yX11_hears yX11_hears ∈ GT := GT_c5 (i := 100) rfl rfl
theorem mlL_146 : VL RL 146 yX11_hears cX11_hears 2 (some .int) 1 := ⟨⟨GT_c5 (i := 98) rfl rfl, wmX11_hears, wsX11_hears, wiX11_hears⟩, wcX11_hears, wdX11_hears⟩
theorem wcX12_hears : Cond.code yX12_hears cX12_hears 4 (some .int) ∈ GT := GT_c8 (i := 51) rfl rfl
theorem wiX12_hears : Cond.initialized yX12_hears.cls ∈ GT := GT_c1 (i := 13) rfl rfl
theorem wdX12_hears : yX12_hears.cls ≠ "java/lang/invoke/MethodHandle" ∧ yX12_hears.cls ≠ "java/lang/invoke/VarHandle" ∧ (parseMethodDescriptor yX12_hears.desc).map (fun d => d.parameters.length) = some 1 := ⟨pn12.1, pn12.2, pd5⟩
theorem wmX12_hears : Cond.instanceMethod yX12_hears ∈ GT := GT_c8 (i := 49) rfl rfl
theorem wsX12_hears : Cond.selects yX12_hears.cls yX12_hears yX12_hears ∈ GT := GT_c8 (i := 50) rfl rfl
theorem mlL_149 : VL RL 149 yX12_hears cX12_hears 4 (some .int) 1 := ⟨⟨GT_c8 (i := 48) rfl rfl, wmX12_hears, wsX12_hears, wiX12_hears⟩, wcX12_hears, wdX12_hears⟩
theorem wcX11_mutual : Cond.code yX11_mutual cX11_mutual 1 (some .int) ∈ GT := GT_c5 (i := 109) rfl rfl
theorem wiX11_mutual : Cond.initialized yX11_mutual.cls ∈ GT := GT_c1 (i := 1) rfl rfl
theorem wdX11_mutual : yX11_mutual.cls ≠ "java/lang/invoke/MethodHandle" ∧ yX11_mutual.cls ≠ "java/lang/invoke/VarHandle" ∧ (parseMethodDescriptor yX11_mutual.desc).map (fun d => d.parameters.length) = some 0 := ⟨pn0.1, pn0.2, pd1⟩
theorem wmX11_mutual : Cond.instanceMethod yX11_mutual ∈ GT := GT_c5 (i := 107) rfl rfl
theorem wsX11_mutual : Cond.selects yX11_mutual.cls yX11_mutual yX11_mutual ∈ GT := GT_c5 (i := 108) rfl rfl
theorem mlL_150 : VL RL 150 yX11_mutual cX11_mutual 1 (some .int) 0 := ⟨⟨GT_c5 (i := 106) rfl rfl, wmX11_mutual, wsX11_mutual, wiX11_mutual⟩, wcX11_mutual, wdX11_mutual⟩
theorem wcX12_mutual : Cond.code yX12_mutual cX12_mutual 1 (some .int) ∈ GT := GT_c8 (i := 59) rfl rfl
theorem wiX12_mutual : Cond.initialized yX12_mutual.cls ∈ GT := GT_c1 (i := 13) rfl rfl
theorem wdX12_mutual : yX12_mutual.cls ≠ "java/lang/invoke/MethodHandle" ∧ yX12_mutual.cls ≠ "java/lang/invoke/VarHandle" ∧ (parseMethodDescriptor yX12_mutual.desc).map (fun d => d.parameters.length) = some 0 := ⟨pn12.1, pn12.2, pd1⟩
theorem wmX12_mutual : Cond.instanceMethod yX12_mutual ∈ GT := GT_c8 (i := 57) rfl rfl
theorem wsX12_mutual : Cond.selects yX12_mutual.cls yX12_mutual yX12_mutual ∈ GT := GT_c8 (i := 58) rfl rfl
theorem mlL_154 : VL RL 154 yX12_mutual cX12_mutual 1 (some .int) 0 := ⟨⟨GT_c8 (i := 56) rfl rfl, wmX12_mutual, wsX12_mutual, wiX12_mutual⟩, wcX12_mutual, wdX12_mutual⟩
theorem wcX11_passes : Cond.code yX11_passes cX11_passes 7 (some .int) ∈ GT := GT_c5 (i := 118) rfl rfl
theorem wiX11_passes : Cond.initialized yX11_passes.cls ∈ GT := GT_c1 (i := 1) rfl rfl
theorem wdX11_passes : yX11_passes.cls ≠ "java/lang/invoke/MethodHandle" ∧ yX11_passes.cls ≠ "java/lang/invoke/VarHandle" ∧ (parseMethodDescriptor yX11_passes.desc).map (fun d => d.parameters.length) = some 2 := ⟨pn0.1, pn0.2, pd8⟩
theorem wmX11_passes : Cond.instanceMethod yX11_passes ∈ GT := GT_c5 (i := 116) rfl rfl
theorem wsX11_passes : Cond.selects yX11_passes.cls yX11_passes yX11_passes ∈ GT := GT_c5 (i := 117) rfl rfl
theorem mlL_155 : VL RL 155 yX11_passes cX11_passes 7 (some .int) 2 := ⟨⟨GT_c5 (i := 115) rfl rfl, wmX11_passes, wsX11_passes, wiX11_passes⟩, wcX11_passes, wdX11_passes⟩
theorem wcX12_passes : Cond.code yX12_passes cX12_passes 8 (some .int) ∈ GT := GT_c8 (i := 67) rfl rfl
theorem wiX12_passes : Cond.initialized yX12_passes.cls ∈ GT := GT_c1 (i := 13) rfl rfl
theorem wdX12_passes : yX12_passes.cls ≠ "java/lang/invoke/MethodHandle" ∧ yX12_passes.cls ≠ "java/lang/invoke/VarHandle" ∧ (parseMethodDescriptor yX12_passes.desc).map (fun d => d.parameters.length) = some 2 := ⟨pn12.1, pn12.2, pd8⟩
theorem wmX12_passes : Cond.instanceMethod yX12_passes ∈ GT := GT_c8 (i := 65) rfl rfl
theorem wsX12_passes : Cond.selects yX12_passes.cls yX12_passes yX12_passes ∈ GT := GT_c8 (i := 66) rfl rfl
theorem mlL_158 : VL RL 158 yX12_passes cX12_passes 8 (some .int) 2 := ⟨⟨GT_c8 (i := 64) rfl rfl, wmX12_passes, wsX12_passes, wiX12_passes⟩, wcX12_passes, wdX12_passes⟩
theorem wcX11_gift : Cond.code yX11_gift cX11_gift 6 (some .int) ∈ GT := GT_c5 (i := 122) rfl rfl
theorem wiX11_gift : Cond.initialized yX11_gift.cls ∈ GT := GT_c1 (i := 1) rfl rfl
theorem wdX11_gift : yX11_gift.cls ≠ "java/lang/invoke/MethodHandle" ∧ yX11_gift.cls ≠ "java/lang/invoke/VarHandle" ∧ (parseMethodDescriptor yX11_gift.desc).map (fun d => d.parameters.length) = some 0 := ⟨pn0.1, pn0.2, pd1⟩
theorem wmX11_gift : Cond.instanceMethod yX11_gift ∈ GT := GT_c5 (i := 120) rfl rfl
theorem wsX11_gift : Cond.selects yX11_gift.cls yX11_gift yX11_gift ∈ GT := GT_c5 (i := 121) rfl rfl
theorem mlL_159 : VL RL 159 yX11_gift cX11_gift 6 (some .int) 0 := ⟨⟨GT_c5 (i := 119) rfl rfl, wmX11_gift, wsX11_gift, wiX11_gift⟩, wcX11_gift, wdX11_gift⟩
theorem wcX12_gift : Cond.code yX12_gift cX12_gift 7 (some .int) ∈ GT := GT_c8 (i := 71) rfl rfl
theorem wiX12_gift : Cond.initialized yX12_gift.cls ∈ GT := GT_c1 (i := 13) rfl rfl
theorem wdX12_gift : yX12_gift.cls ≠ "java/lang/invoke/MethodHandle" ∧ yX12_gift.cls ≠ "java/lang/invoke/VarHandle" ∧ (parseMethodDescriptor yX12_gift.desc).map (fun d => d.parameters.length) = some 0 := ⟨pn12.1, pn12.2, pd1⟩
theorem wmX12_gift : Cond.instanceMethod yX12_gift ∈ GT := GT_c8 (i := 69) rfl rfl
theorem wsX12_gift : Cond.selects yX12_gift.cls yX12_gift yX12_gift ∈ GT := GT_c8 (i := 70) rfl rfl
theorem mlL_162 : VL RL 162 yX12_gift cX12_gift 7 (some .int) 0 := ⟨⟨GT_c8 (i := 68) rfl rfl, wmX12_gift, wsX12_gift, wiX12_gift⟩, wcX12_gift, wdX12_gift⟩
theorem wcX11_fits : Cond.code yX11_fits cX11_fits 3 (some .int) ∈ GT := GT_c5 (i := 126) rfl rfl
theorem wiX11_fits : Cond.initialized yX11_fits.cls ∈ GT := GT_c1 (i := 1) rfl rfl
theorem wdX11_fits : yX11_fits.cls ≠ "java/lang/invoke/MethodHandle" ∧ yX11_fits.cls ≠ "java/lang/invoke/VarHandle" ∧ (parseMethodDescriptor yX11_fits.desc).map (fun d => d.parameters.length) = some 1 := ⟨pn0.1, pn0.2, pd5⟩
theorem wmX11_fits : Cond.instanceMethod yX11_fits ∈ GT := GT_c5 (i := 124) rfl rfl
theorem wsX11_fits : Cond.selects yX11_fits.cls yX11_fits yX11_fits ∈ GT := GT_c5 (i := 125) rfl rfl
theorem mlL_163 : VL RL 163 yX11_fits cX11_fits 3 (some .int) 1 := ⟨⟨GT_c5 (i := 123) rfl rfl, wmX11_fits, wsX11_fits, wiX11_fits⟩, wcX11_fits, wdX11_fits⟩
theorem wcX12_fits : Cond.code yX12_fits cX12_fits 3 (some .int) ∈ GT := GT_c8 (i := 75) rfl rfl
theorem wiX12_fits : Cond.initialized yX12_fits.cls ∈ GT := GT_c1 (i := 13) rfl rfl
theorem wdX12_fits : yX12_fits.cls ≠ "java/lang/invoke/MethodHandle" ∧ yX12_fits.cls ≠ "java/lang/invoke/VarHandle" ∧ (parseMethodDescriptor yX12_fits.desc).map (fun d => d.parameters.length) = some 1 := ⟨pn12.1, pn12.2, pd5⟩
theorem wmX12_fits : Cond.instanceMethod yX12_fits ∈ GT := GT_c8 (i := 73) rfl rfl
theorem wsX12_fits : Cond.selects yX12_fits.cls yX12_fits yX12_fits ∈ GT := GT_c8 (i := 74) rfl rfl
theorem mlL_166 : VL RL 166 yX12_fits cX12_fits 3 (some .int) 1 := ⟨⟨GT_c8 (i := 72) rfl rfl, wmX12_fits, wsX12_fits, wiX12_fits⟩, wcX12_fits, wdX12_fits⟩
theorem wcX11_slips : Cond.code yX11_slips cX11_slips 4 (some .int) ∈ GT := GT_c5 (i := 143) rfl rfl
theorem wiX11_slips : Cond.initialized yX11_slips.cls ∈ GT := GT_c1 (i := 1) rfl rfl
theorem wdX11_slips : yX11_slips.cls ≠ "java/lang/invoke/MethodHandle" ∧ yX11_slips.cls ≠ "java/lang/invoke/VarHandle" ∧ (parseMethodDescriptor yX11_slips.desc).map (fun d => d.parameters.length) = some 2 := ⟨pn0.1, pn0.2, pd8⟩
theorem wmX11_slips : Cond.instanceMethod yX11_slips ∈ GT := GT_c5 (i := 141) rfl rfl
theorem wsX11_slips : Cond.selects yX11_slips.cls yX11_slips yX11_slips ∈ GT := GT_c5 (i := 142) rfl rfl
theorem mlL_167 : VL RL 167 yX11_slips cX11_slips 4 (some .int) 2 := ⟨⟨GT_c5 (i := 140) rfl rfl, wmX11_slips, wsX11_slips, wiX11_slips⟩, wcX11_slips, wdX11_slips⟩
theorem wcX12_slips : Cond.code yX12_slips cX12_slips 4 (some .int) ∈ GT := GT_c8 (i := 92) rfl rfl
theorem wiX12_slips : Cond.initialized yX12_slips.cls ∈ GT := GT_c1 (i := 13) rfl rfl
theorem wdX12_slips : yX12_slips.cls ≠ "java/lang/invoke/MethodHandle" ∧ yX12_slips.cls ≠ "java/lang/invoke/VarHandle" ∧ (parseMethodDescriptor yX12_slips.desc).map (fun d => d.parameters.length) = some 2 := ⟨pn12.1, pn12.2, pd8⟩
theorem wmX12_slips : Cond.instanceMethod yX12_slips ∈ GT := GT_c8 (i := 90) rfl rfl
theorem wsX12_slips : Cond.selects yX12_slips.cls yX12_slips yX12_slips ∈ GT := GT_c8 (i := 91) rfl rfl
theorem mlL_170 : VL RL 170 yX12_slips cX12_slips 4 (some .int) 2 := ⟨⟨GT_c8 (i := 89) rfl rfl, wmX12_slips, wsX12_slips, wiX12_slips⟩, wcX12_slips, wdX12_slips⟩
theorem wcX11_likeliest : Cond.code yX11_likeliest cX11_likeliest 7 (some .int) ∈ GT := GT_c5 (i := 147) rfl rfl
theorem wiX11_likeliest : Cond.initialized yX11_likeliest.cls ∈ GT := GT_c1 (i := 1) rfl rfl
theorem wdX11_likeliest : yX11_likeliest.cls ≠ "java/lang/invoke/MethodHandle" ∧ yX11_likeliest.cls ≠ "java/lang/invoke/VarHandle" ∧ (parseMethodDescriptor yX11_likeliest.desc).map (fun d => d.parameters.length) = some 1 := ⟨pn0.1, pn0.2, pd5⟩
theorem wmX11_likeliest : Cond.instanceMethod yX11_likeliest ∈ GT := GT_c5 (i := 145) rfl rfl
theorem wsX11_likeliest : Cond.selects yX11_likeliest.cls yX11_likeliest yX11_likeliest ∈ GT := GT_c5 (i := 146) rfl rfl
theorem mlL_171 : VL RL 171 yX11_likeliest cX11_likeliest 7 (some .int) 1 := ⟨⟨GT_c5 (i := 144) rfl rfl, wmX11_likeliest, wsX11_likeliest, wiX11_likeliest⟩, wcX11_likeliest, wdX11_likeliest⟩
theorem wcX12_likeliest : Cond.code yX12_likeliest cX12_likeliest 5 (some .int) ∈ GT := GT_c8 (i := 96) rfl rfl
theorem wiX12_likeliest : Cond.initialized yX12_likeliest.cls ∈ GT := GT_c1 (i := 13) rfl rfl
theorem wdX12_likeliest : yX12_likeliest.cls ≠ "java/lang/invoke/MethodHandle" ∧ yX12_likeliest.cls ≠ "java/lang/invoke/VarHandle" ∧ (parseMethodDescriptor yX12_likeliest.desc).map (fun d => d.parameters.length) = some 1 := ⟨pn12.1, pn12.2, pd5⟩
theorem wmX12_likeliest : Cond.instanceMethod yX12_likeliest ∈ GT := GT_c8 (i := 94) rfl rfl
theorem wsX12_likeliest : Cond.selects yX12_likeliest.cls yX12_likeliest yX12_likeliest ∈ GT := GT_c8 (i := 95) rfl rfl
theorem mlL_174 : VL RL 174 yX12_likeliest cX12_likeliest 5 (some .int) 1 := ⟨⟨GT_c8 (i := 93) rfl rfl, wmX12_likeliest, wsX12_likeliest, wiX12_likeliest⟩, wcX12_likeliest, wdX12_likeliest⟩
theorem wcX11_look : Cond.code yX11_look cX11_look 8 (some .int) ∈ GT := GT_c5 (i := 151) rfl rfl
theorem wiX11_look : Cond.initialized yX11_look.cls ∈ GT := GT_c1 (i := 1) rfl rfl
theorem wdX11_look : yX11_look.cls ≠ "java/lang/invoke/MethodHandle" ∧ yX11_look.cls ≠ "java/lang/invoke/VarHandle" ∧ (parseMethodDescriptor yX11_look.desc).map (fun d => d.parameters.length) = some 1 := ⟨pn0.1, pn0.2, pd5⟩
theorem wmX11_look : Cond.instanceMethod yX11_look ∈ GT := GT_c5 (i := 149) rfl rfl
theorem wsX11_look : Cond.selects yX11_look.cls yX11_look yX11_look ∈ GT := GT_c5 (i := 150) rfl rfl
theorem mlL_175 : VL RL 175 yX11_look cX11_look 8 (some .int) 1 := ⟨⟨GT_c5 (i := 148) rfl rfl, wmX11_look, wsX11_look, wiX11_look⟩, wcX11_look, wdX11_look⟩
theorem wcX12_look : Cond.code yX12_look cX12_look 6 (some .int) ∈ GT := GT_c8 (i := 100) rfl rfl
theorem wiX12_look : Cond.initialized yX12_look.cls ∈ GT := GT_c1 (i := 13) rfl rfl
theorem wdX12_look : yX12_look.cls ≠ "java/lang/invoke/MethodHandle" ∧ yX12_look.cls ≠ "java/lang/invoke/VarHandle" ∧ (parseMethodDescriptor yX12_look.desc).map (fun d => d.parameters.length) = some 1 := ⟨pn12.1, pn12.2, pd5⟩
theorem wmX12_look : Cond.instanceMethod yX12_look ∈ GT := GT_c8 (i := 98) rfl rfl
theorem wsX12_look : Cond.selects yX12_look.cls yX12_look yX12_look ∈ GT := GT_c8 (i := 99) rfl rfl
theorem mlL_178 : VL RL 178 yX12_look cX12_look 6 (some .int) 1 := ⟨⟨GT_c8 (i := 97) rfl rfl, wmX12_look, wsX12_look, wiX12_look⟩, wcX12_look, wdX12_look⟩
theorem wcX11_unlike : Cond.code yX11_unlike cX11_unlike 3 (some .int) ∈ GT := GT_c5 (i := 160) rfl rfl
theorem wiX11_unlike : Cond.initialized yX11_unlike.cls ∈ GT := GT_c1 (i := 1) rfl rfl
theorem wdX11_unlike : yX11_unlike.cls ≠ "java/lang/invoke/MethodHandle" ∧ yX11_unlike.cls ≠ "java/lang/invoke/VarHandle" ∧ (parseMethodDescriptor yX11_unlike.desc).map (fun d => d.parameters.length) = some 2 := ⟨pn0.1, pn0.2, pd8⟩
theorem wmX11_unlike : Cond.instanceMethod yX11_unlike ∈ GT := GT_c5 (i := 158) rfl rfl
theorem wsX11_unlike : Cond.selects yX11_unlike.cls yX11_unlike yX11_unlike ∈ GT := GT_c5 (i := 159) rfl rfl
theorem mlL_179 : VL RL 179 yX11_unlike cX11_unlike 3 (some .int) 2 := ⟨⟨GT_c5 (i := 157) rfl rfl, wmX11_unlike, wsX11_unlike, wiX11_unlike⟩, wcX11_unlike, wdX11_unlike⟩
theorem wcX12_unlike : Cond.code yX12_unlike cX12_unlike 3 (some .int) ∈ GT := GT_c8 (i := 108) rfl rfl
theorem wiX12_unlike : Cond.initialized yX12_unlike.cls ∈ GT := GT_c1 (i := 13) rfl rfl
theorem wdX12_unlike : yX12_unlike.cls ≠ "java/lang/invoke/MethodHandle" ∧ yX12_unlike.cls ≠ "java/lang/invoke/VarHandle" ∧ (parseMethodDescriptor yX12_unlike.desc).map (fun d => d.parameters.length) = some 2 := ⟨pn12.1, pn12.2, pd8⟩
theorem wmX12_unlike : Cond.instanceMethod yX12_unlike ∈ GT := GT_c8 (i := 106) rfl rfl
theorem wsX12_unlike : Cond.selects yX12_unlike.cls yX12_unlike yX12_unlike ∈ GT := GT_c8 (i := 107) rfl rfl
theorem mlL_182 : VL RL 182 yX12_unlike cX12_unlike 3 (some .int) 2 := ⟨⟨GT_c8 (i := 105) rfl rfl, wmX12_unlike, wsX12_unlike, wiX12_unlike⟩, wcX12_unlike, wdX12_unlike⟩
theorem wcX11_pairs : Cond.code yX11_pairs cX11_pairs 5 (some .int) ∈ GT := GT_c5 (i := 168) rfl rfl
theorem wiX11_pairs : Cond.initialized yX11_pairs.cls ∈ GT := GT_c1 (i := 1) rfl rfl
theorem wdX11_pairs : yX11_pairs.cls ≠ "java/lang/invoke/MethodHandle" ∧ yX11_pairs.cls ≠ "java/lang/invoke/VarHandle" ∧ (parseMethodDescriptor yX11_pairs.desc).map (fun d => d.parameters.length) = some 1 := ⟨pn0.1, pn0.2, pd5⟩
theorem wmX11_pairs : Cond.instanceMethod yX11_pairs ∈ GT := GT_c5 (i := 166) rfl rfl
theorem wsX11_pairs : Cond.selects yX11_pairs.cls yX11_pairs yX11_pairs ∈ GT := GT_c5 (i := 167) rfl rfl
theorem mlL_183 : VL RL 183 yX11_pairs cX11_pairs 5 (some .int) 1 := ⟨⟨GT_c5 (i := 165) rfl rfl, wmX11_pairs, wsX11_pairs, wiX11_pairs⟩, wcX11_pairs, wdX11_pairs⟩
theorem wcX12_pairs : Cond.code yX12_pairs cX12_pairs 4 (some .int) ∈ GT := GT_c8 (i := 116) rfl rfl
theorem wiX12_pairs : Cond.initialized yX12_pairs.cls ∈ GT := GT_c1 (i := 13) rfl rfl
theorem wdX12_pairs : yX12_pairs.cls ≠ "java/lang/invoke/MethodHandle" ∧ yX12_pairs.cls ≠ "java/lang/invoke/VarHandle" ∧ (parseMethodDescriptor yX12_pairs.desc).map (fun d => d.parameters.length) = some 1 := ⟨pn12.1, pn12.2, pd5⟩
theorem wmX12_pairs : Cond.instanceMethod yX12_pairs ∈ GT := GT_c8 (i := 114) rfl rfl
theorem wsX12_pairs : Cond.selects yX12_pairs.cls yX12_pairs yX12_pairs ∈ GT := GT_c8 (i := 115) rfl rfl
theorem mlL_186 : VL RL 186 yX12_pairs cX12_pairs 4 (some .int) 1 := ⟨⟨GT_c8 (i := 113) rfl rfl, wmX12_pairs, wsX12_pairs, wiX12_pairs⟩, wcX12_pairs, wdX12_pairs⟩
theorem wcX11_numbers : Cond.code yX11_numbers cX11_numbers 4 (some .int) ∈ GT := GT_c5 (i := 186) rfl rfl
theorem wiX11_numbers : Cond.initialized yX11_numbers.cls ∈ GT := GT_c1 (i := 1) rfl rfl
theorem wdX11_numbers : yX11_numbers.cls ≠ "java/lang/invoke/MethodHandle" ∧ yX11_numbers.cls ≠ "java/lang/invoke/VarHandle" ∧ (parseMethodDescriptor yX11_numbers.desc).map (fun d => d.parameters.length) = some 3 := ⟨pn0.1, pn0.2, pd11⟩
theorem wmX11_numbers : Cond.instanceMethod yX11_numbers ∈ GT := GT_c5 (i := 184) rfl rfl
theorem wsX11_numbers : Cond.selects yX11_numbers.cls yX11_numbers yX11_numbers ∈ GT := GT_c5 (i := 185) rfl rfl
theorem mlL_187 : VL RL 187 yX11_numbers cX11_numbers 4 (some .int) 3 := ⟨⟨GT_c5 (i := 183) rfl rfl, wmX11_numbers, wsX11_numbers, wiX11_numbers⟩, wcX11_numbers, wdX11_numbers⟩
theorem wcX12_numbers : Cond.code yX12_numbers cX12_numbers 5 (some .int) ∈ GT := GT_c8 (i := 124) rfl rfl
theorem wiX12_numbers : Cond.initialized yX12_numbers.cls ∈ GT := GT_c1 (i := 13) rfl rfl
theorem wdX12_numbers : yX12_numbers.cls ≠ "java/lang/invoke/MethodHandle" ∧ yX12_numbers.cls ≠ "java/lang/invoke/VarHandle" ∧ (parseMethodDescriptor yX12_numbers.desc).map (fun d => d.parameters.length) = some 3 := ⟨pn12.1, pn12.2, pd11⟩
theorem wmX12_numbers : Cond.instanceMethod yX12_numbers ∈ GT := GT_c8 (i := 122) rfl rfl
theorem wsX12_numbers : Cond.selects yX12_numbers.cls yX12_numbers yX12_numbers ∈ GT := GT_c8 (i := 123) rfl rfl
theorem mlL_190 : VL RL 190 yX12_numbers cX12_numbers 5 (some .int) 3 := ⟨⟨GT_c8 (i := 121) rfl rfl, wmX12_numbers, wsX12_numbers, wiX12_numbers⟩, wcX12_numbers, wdX12_numbers⟩
theorem wcX11_write : Cond.code yX11_write cX11_write 5 (some .long) ∈ GT := GT_c5 (i := 197) rfl rfl
theorem wiX11_write : Cond.initialized yX11_write.cls ∈ GT := GT_c1 (i := 1) rfl rfl
theorem wdX11_write : yX11_write.cls ≠ "java/lang/invoke/MethodHandle" ∧ yX11_write.cls ≠ "java/lang/invoke/VarHandle" ∧ (parseMethodDescriptor yX11_write.desc).map (fun d => d.parameters.length) = some 3 := ⟨pn0.1, pn0.2, pd21⟩
theorem wmX11_write : Cond.instanceMethod yX11_write ∈ GT := GT_c5 (i := 195) rfl rfl
theorem wsX11_write : Cond.selects yX11_write.cls yX11_write yX11_write ∈ GT := GT_c5 (i := 196) rfl rfl
theorem mlL_193 : VL RL 193 yX11_write cX11_write 5 (some .long) 3 := ⟨⟨GT_c5 (i := 194) rfl rfl, wmX11_write, wsX11_write, wiX11_write⟩, wcX11_write, wdX11_write⟩
theorem wcX12_write : Cond.code yX12_write cX12_write 6 (some .long) ∈ GT := GT_c8 (i := 129) rfl rfl
theorem wiX12_write : Cond.initialized yX12_write.cls ∈ GT := GT_c1 (i := 13) rfl rfl
theorem wdX12_write : yX12_write.cls ≠ "java/lang/invoke/MethodHandle" ∧ yX12_write.cls ≠ "java/lang/invoke/VarHandle" ∧ (parseMethodDescriptor yX12_write.desc).map (fun d => d.parameters.length) = some 3 := ⟨pn12.1, pn12.2, pd21⟩
theorem wmX12_write : Cond.instanceMethod yX12_write ∈ GT := GT_c8 (i := 127) rfl rfl
theorem wsX12_write : Cond.selects yX12_write.cls yX12_write yX12_write ∈ GT := GT_c8 (i := 128) rfl rfl
theorem mlL_197 : VL RL 197 yX12_write cX12_write 6 (some .long) 3 := ⟨⟨GT_c8 (i := 126) rfl rfl, wmX12_write, wsX12_write, wiX12_write⟩, wcX12_write, wdX12_write⟩
theorem wcX11_lists : Cond.code yX11_lists cX11_lists 5 (some .int) ∈ GT := GT_c5 (i := 212) rfl rfl
theorem wiX11_lists : Cond.initialized yX11_lists.cls ∈ GT := GT_c1 (i := 1) rfl rfl
theorem wdX11_lists : yX11_lists.cls ≠ "java/lang/invoke/MethodHandle" ∧ yX11_lists.cls ≠ "java/lang/invoke/VarHandle" ∧ (parseMethodDescriptor yX11_lists.desc).map (fun d => d.parameters.length) = some 2 := ⟨pn0.1, pn0.2, pd8⟩
theorem wmX11_lists : Cond.instanceMethod yX11_lists ∈ GT := GT_c5 (i := 210) rfl rfl
theorem wsX11_lists : Cond.selects yX11_lists.cls yX11_lists yX11_lists ∈ GT := GT_c5 (i := 211) rfl rfl
theorem mlL_198 : VL RL 198 yX11_lists cX11_lists 5 (some .int) 2 := ⟨⟨GT_c5 (i := 209) rfl rfl, wmX11_lists, wsX11_lists, wiX11_lists⟩, wcX11_lists, wdX11_lists⟩
theorem wcX12_lists : Cond.code yX12_lists cX12_lists 5 (some .int) ∈ GT := GT_c8 (i := 137) rfl rfl
theorem wiX12_lists : Cond.initialized yX12_lists.cls ∈ GT := GT_c1 (i := 13) rfl rfl
theorem wdX12_lists : yX12_lists.cls ≠ "java/lang/invoke/MethodHandle" ∧ yX12_lists.cls ≠ "java/lang/invoke/VarHandle" ∧ (parseMethodDescriptor yX12_lists.desc).map (fun d => d.parameters.length) = some 2 := ⟨pn12.1, pn12.2, pd8⟩
theorem wmX12_lists : Cond.instanceMethod yX12_lists ∈ GT := GT_c8 (i := 135) rfl rfl
theorem wsX12_lists : Cond.selects yX12_lists.cls yX12_lists yX12_lists ∈ GT := GT_c8 (i := 136) rfl rfl
theorem mlL_201 : VL RL 201 yX12_lists cX12_lists 5 (some .int) 2 := ⟨⟨GT_c8 (i := 134) rfl rfl, wmX12_lists, wsX12_lists, wiX12_lists⟩, wcX12_lists, wdX12_lists⟩
theorem wcX11_image : Cond.code yX11_image cX11_image 2 (some .int) ∈ GT := GT_c5 (i := 216) rfl rfl
theorem wiX11_image : Cond.initialized yX11_image.cls ∈ GT := GT_c1 (i := 1) rfl rfl
theorem wdX11_image : yX11_image.cls ≠ "java/lang/invoke/MethodHandle" ∧ yX11_image.cls ≠ "java/lang/invoke/VarHandle" ∧ (parseMethodDescriptor yX11_image.desc).map (fun d => d.parameters.length) = some 1 := ⟨pn0.1, pn0.2, pd5⟩
theorem wmX11_image : Cond.instanceMethod yX11_image ∈ GT := GT_c5 (i := 214) rfl rfl
theorem wsX11_image : Cond.selects yX11_image.cls yX11_image yX11_image ∈ GT := GT_c5 (i := 215) rfl rfl
theorem mlL_202 : VL RL 202 yX11_image cX11_image 2 (some .int) 1 := ⟨⟨GT_c5 (i := 213) rfl rfl, wmX11_image, wsX11_image, wiX11_image⟩, wcX11_image, wdX11_image⟩
theorem wcX12_image : Cond.code yX12_image cX12_image 3 (some .int) ∈ GT := GT_c8 (i := 141) rfl rfl
theorem wiX12_image : Cond.initialized yX12_image.cls ∈ GT := GT_c1 (i := 13) rfl rfl
theorem wdX12_image : yX12_image.cls ≠ "java/lang/invoke/MethodHandle" ∧ yX12_image.cls ≠ "java/lang/invoke/VarHandle" ∧ (parseMethodDescriptor yX12_image.desc).map (fun d => d.parameters.length) = some 1 := ⟨pn12.1, pn12.2, pd5⟩
theorem wmX12_image : Cond.instanceMethod yX12_image ∈ GT := GT_c8 (i := 139) rfl rfl
theorem wsX12_image : Cond.selects yX12_image.cls yX12_image yX12_image ∈ GT := GT_c8 (i := 140) rfl rfl
theorem mlL_205 : VL RL 205 yX12_image cX12_image 3 (some .int) 1 := ⟨⟨GT_c8 (i := 138) rfl rfl, wmX12_image, wsX12_image, wiX12_image⟩, wcX12_image, wdX12_image⟩
theorem wcX11_restore : Cond.code yX11_restore cX11_restore 2 (some .int) ∈ GT := GT_c5 (i := 238) rfl rfl
theorem wiX11_restore : Cond.initialized yX11_restore.cls ∈ GT := GT_c1 (i := 1) rfl rfl
theorem wdX11_restore : yX11_restore.cls ≠ "java/lang/invoke/MethodHandle" ∧ yX11_restore.cls ≠ "java/lang/invoke/VarHandle" ∧ (parseMethodDescriptor yX11_restore.desc).map (fun d => d.parameters.length) = some 1 := ⟨pn0.1, pn0.2, pd5⟩
theorem wmX11_restore : Cond.instanceMethod yX11_restore ∈ GT := GT_c5 (i := 236) rfl rfl
theorem wsX11_restore : Cond.selects yX11_restore.cls yX11_restore yX11_restore ∈ GT := GT_c5 (i := 237) rfl rfl
theorem mlL_206 : VL RL 206 yX11_restore cX11_restore 2 (some .int) 1 := ⟨⟨GT_c5 (i := 235) rfl rfl, wmX11_restore, wsX11_restore, wiX11_restore⟩, wcX11_restore, wdX11_restore⟩
theorem wcX12_restore : Cond.code yX12_restore cX12_restore 3 (some .int) ∈ GT := GT_c8 (i := 145) rfl rfl
theorem wiX12_restore : Cond.initialized yX12_restore.cls ∈ GT := GT_c1 (i := 13) rfl rfl
theorem wdX12_restore : yX12_restore.cls ≠ "java/lang/invoke/MethodHandle" ∧ yX12_restore.cls ≠ "java/lang/invoke/VarHandle" ∧ (parseMethodDescriptor yX12_restore.desc).map (fun d => d.parameters.length) = some 1 := ⟨pn12.1, pn12.2, pd5⟩
theorem wmX12_restore : Cond.instanceMethod yX12_restore ∈ GT := GT_c8 (i := 143) rfl rfl
theorem wsX12_restore : Cond.selects yX12_restore.cls yX12_restore yX12_restore ∈ GT := GT_c8 (i := 144) rfl rfl
theorem mlL_209 : VL RL 209 yX12_restore cX12_restore 3 (some .int) 1 := ⟨⟨GT_c8 (i := 142) rfl rfl, wmX12_restore, wsX12_restore, wiX12_restore⟩, wcX12_restore, wdX12_restore⟩
theorem wcX11_count : Cond.code yX11_count cX11_count 2 (some .int) ∈ GT := GT_c6 (i := 2) rfl rfl
theorem wiX11_count : Cond.initialized yX11_count.cls ∈ GT := GT_c1 (i := 1) rfl rfl
theorem wdX11_count : yX11_count.cls ≠ "java/lang/invoke/MethodHandle" ∧ yX11_count.cls ≠ "java/lang/invoke/VarHandle" ∧ (parseMethodDescriptor yX11_count.desc).map (fun d => d.parameters.length) = some 1 := ⟨pn0.1, pn0.2, pd5⟩
theorem wmX11_count : Cond.instanceMethod yX11_count ∈ GT := GT_c6 (i := 0) rfl rfl
theorem wsX11_count : Cond.selects yX11_count.cls yX11_count yX11_count ∈ GT := GT_c6 (i := 1) rfl rfl
theorem mlL_210 : VL RL 210 yX11_count cX11_count 2 (some .int) 1 := ⟨⟨GT_c5 (i := 239) rfl rfl, wmX11_count, wsX11_count, wiX11_count⟩, wcX11_count, wdX11_count⟩
theorem wcX12_count : Cond.code yX12_count cX12_count 2 (some .int) ∈ GT := GT_c8 (i := 149) rfl rfl
theorem wiX12_count : Cond.initialized yX12_count.cls ∈ GT := GT_c1 (i := 13) rfl rfl
theorem wdX12_count : yX12_count.cls ≠ "java/lang/invoke/MethodHandle" ∧ yX12_count.cls ≠ "java/lang/invoke/VarHandle" ∧ (parseMethodDescriptor yX12_count.desc).map (fun d => d.parameters.length) = some 1 := ⟨pn12.1, pn12.2, pd5⟩
theorem wmX12_count : Cond.instanceMethod yX12_count ∈ GT := GT_c8 (i := 147) rfl rfl
theorem wsX12_count : Cond.selects yX12_count.cls yX12_count yX12_count ∈ GT := GT_c8 (i := 148) rfl rfl
theorem mlL_213 : VL RL 213 yX12_count cX12_count 2 (some .int) 1 := ⟨⟨GT_c8 (i := 146) rfl rfl, wmX12_count, wsX12_count, wiX12_count⟩, wcX12_count, wdX12_count⟩
theorem wcX12_plain : Cond.code yX12_plain cX12_plain 2 none ∈ GT := GT_c6 (i := 11) rfl rfl
theorem wiX12_plain : Cond.initialized yX12_plain.cls ∈ GT := GT_c1 (i := 13) rfl rfl
theorem wdX12_plain : yX12_plain.cls ≠ "java/lang/invoke/MethodHandle" ∧ yX12_plain.cls ≠ "java/lang/invoke/VarHandle" ∧ (parseMethodDescriptor yX12_plain.desc).map (fun d => d.parameters.length) = some 1 := ⟨pn12.1, pn12.2, pd62⟩
theorem wmX12_plain : Cond.static yX12_plain ∈ GT := GT_c6 (i := 10) rfl rfl
theorem mlX12_64 : SL RX12 64 yX12_plain cX12_plain 2 none 1 := ⟨⟨GT_c6 (i := 9) rfl rfl, wmX12_plain, wiX12_plain⟩, wcX12_plain, wdX12_plain⟩
theorem mlX12_76 : VL RX12 76 yJ0_length_8abf5 cJ0_length_8abf5 1 (some .int) 0 := ⟨⟨GT_c6 (i := 131) rfl rfl, wmJ0_length_8abf5, wsJ0_length_8abf5, wiJ0_length_8abf5⟩, wcJ0_length_8abf5, wdJ0_length_8abf5⟩
theorem mlX12_82 : VL RX12 82 yJ0_charAt_5068e cJ0_charAt_5068e 2 (some .char) 1 := ⟨⟨GT_c6 (i := 132) rfl rfl, wmJ0_charAt_5068e, wsJ0_charAt_5068e, wiJ0_charAt_5068e⟩, wcJ0_charAt_5068e, wdJ0_charAt_5068e⟩
theorem wcX12_see : Cond.code yX12_see cX12_see 2 (some .int) ∈ GT := GT_c6 (i := 122) rfl rfl
theorem wiX12_see : Cond.initialized yX12_see.cls ∈ GT := GT_c1 (i := 13) rfl rfl
theorem wdX12_see : yX12_see.cls ≠ "java/lang/invoke/MethodHandle" ∧ yX12_see.cls ≠ "java/lang/invoke/VarHandle" ∧ (parseMethodDescriptor yX12_see.desc).map (fun d => d.parameters.length) = some 1 := ⟨pn12.1, pn12.2, pd5⟩
theorem wmX12_see : Cond.instanceMethod yX12_see ∈ GT := GT_c6 (i := 121) rfl rfl
theorem wsX12_see : Cond.selects yX12_see.cls yX12_see yX12_see ∈ GT := GT_s (i := 51) rfl rfl
theorem mlX12_92 : VL RX12 92 yX12_see cX12_see 2 (some .int) 1 := ⟨⟨GT_c6 (i := 119) rfl rfl, wmX12_see, wsX12_see, wiX12_see⟩, wcX12_see, wdX12_see⟩
theorem wcX12_isSmall : Cond.code yX12_isSmall cX12_isSmall 1 (some .boolean) ∈ GT := GT_c6 (i := 125) rfl rfl
theorem wiX12_isSmall : Cond.initialized yX12_isSmall.cls ∈ GT := GT_c1 (i := 13) rfl rfl
theorem wdX12_isSmall : yX12_isSmall.cls ≠ "java/lang/invoke/MethodHandle" ∧ yX12_isSmall.cls ≠ "java/lang/invoke/VarHandle" ∧ (parseMethodDescriptor yX12_isSmall.desc).map (fun d => d.parameters.length) = some 1 := ⟨pn12.1, pn12.2, pd7⟩
theorem wmX12_isSmall : Cond.static yX12_isSmall ∈ GT := GT_c6 (i := 124) rfl rfl
theorem mlX12_99 : SL RX12 99 yX12_isSmall cX12_isSmall 1 (some .boolean) 1 := ⟨⟨GT_c6 (i := 123) rfl rfl, wmX12_isSmall, wiX12_isSmall⟩, wcX12_isSmall, wdX12_isSmall⟩
theorem wcX12_keyAt : Cond.code yX12_keyAt cX12_keyAt 4 (some .int) ∈ GT := GT_c6 (i := 129) rfl rfl
theorem wiX12_keyAt : Cond.initialized yX12_keyAt.cls ∈ GT := GT_c1 (i := 13) rfl rfl
theorem wdX12_keyAt : yX12_keyAt.cls ≠ "java/lang/invoke/MethodHandle" ∧ yX12_keyAt.cls ≠ "java/lang/invoke/VarHandle" ∧ (parseMethodDescriptor yX12_keyAt.desc).map (fun d => d.parameters.length) = some 0 := ⟨pn12.1, pn12.2, pd1⟩
theorem wmX12_keyAt : Cond.instanceMethod yX12_keyAt ∈ GT := GT_c6 (i := 128) rfl rfl
theorem wsX12_keyAt : Cond.selects yX12_keyAt.cls yX12_keyAt yX12_keyAt ∈ GT := GT_s (i := 52) rfl rfl
theorem mlX12_103 : VL RX12 103 yX12_keyAt cX12_keyAt 4 (some .int) 0 := ⟨⟨GT_c6 (i := 126) rfl rfl, wmX12_keyAt, wsX12_keyAt, wiX12_keyAt⟩, wcX12_keyAt, wdX12_keyAt⟩
theorem wcX12_isDigit : Cond.code yX12_isDigit cX12_isDigit 1 (some .boolean) ∈ GT := GT_c6 (i := 135) rfl rfl
theorem wiX12_isDigit : Cond.initialized yX12_isDigit.cls ∈ GT := GT_c1 (i := 13) rfl rfl
theorem wdX12_isDigit : yX12_isDigit.cls ≠ "java/lang/invoke/MethodHandle" ∧ yX12_isDigit.cls ≠ "java/lang/invoke/VarHandle" ∧ (parseMethodDescriptor yX12_isDigit.desc).map (fun d => d.parameters.length) = some 1 := ⟨pn12.1, pn12.2, pd7⟩
theorem wmX12_isDigit : Cond.static yX12_isDigit ∈ GT := GT_c6 (i := 134) rfl rfl
theorem mlX12_106 : SL RX12 106 yX12_isDigit cX12_isDigit 1 (some .boolean) 1 := ⟨⟨GT_c6 (i := 133) rfl rfl, wmX12_isDigit, wiX12_isDigit⟩, wcX12_isDigit, wdX12_isDigit⟩
theorem wcX12_is : Cond.code yX12_is cX12_is 2 (some .boolean) ∈ GT := GT_c6 (i := 144) rfl rfl
theorem wiX12_is : Cond.initialized yX12_is.cls ∈ GT := GT_c1 (i := 13) rfl rfl
theorem wdX12_is : yX12_is.cls ≠ "java/lang/invoke/MethodHandle" ∧ yX12_is.cls ≠ "java/lang/invoke/VarHandle" ∧ (parseMethodDescriptor yX12_is.desc).map (fun d => d.parameters.length) = some 1 := ⟨pn12.1, pn12.2, pd7⟩
theorem wmX12_is : Cond.instanceMethod yX12_is ∈ GT := GT_c6 (i := 143) rfl rfl
theorem wsX12_is : Cond.selects yX12_is.cls yX12_is yX12_is ∈ GT := GT_s (i := 54) rfl rfl
theorem mlX12_120 : VL RX12 120 yX12_is cX12_is 2 (some .boolean) 1 := ⟨⟨GT_c6 (i := 141) rfl rfl, wmX12_is, wsX12_is, wiX12_is⟩, wcX12_is, wdX12_is⟩
theorem wcX12_next : Cond.code yX12_next cX12_next 2 none ∈ GT := GT_c6 (i := 118) rfl rfl
theorem wiX12_next : Cond.initialized yX12_next.cls ∈ GT := GT_c1 (i := 13) rfl rfl
theorem wdX12_next : yX12_next.cls ≠ "java/lang/invoke/MethodHandle" ∧ yX12_next.cls ≠ "java/lang/invoke/VarHandle" ∧ (parseMethodDescriptor yX12_next.desc).map (fun d => d.parameters.length) = some 0 := ⟨pn12.1, pn12.2, pd2⟩
theorem wmX12_next : Cond.instanceMethod yX12_next ∈ GT := GT_c6 (i := 117) rfl rfl
theorem wsX12_next : Cond.selects yX12_next.cls yX12_next yX12_next ∈ GT := GT_s (i := 50) rfl rfl
theorem mlX12_123 : VL RX12 123 yX12_next cX12_next 2 none 0 := ⟨⟨GT_c6 (i := 115) rfl rfl, wmX12_next, wsX12_next, wiX12_next⟩, wcX12_next, wdX12_next⟩
theorem wcX12_fails : Cond.code yX12_fails cX12_fails 2 none ∈ GT := GT_c6 (i := 148) rfl rfl
theorem wiX12_fails : Cond.initialized yX12_fails.cls ∈ GT := GT_c1 (i := 13) rfl rfl
theorem wdX12_fails : yX12_fails.cls ≠ "java/lang/invoke/MethodHandle" ∧ yX12_fails.cls ≠ "java/lang/invoke/VarHandle" ∧ (parseMethodDescriptor yX12_fails.desc).map (fun d => d.parameters.length) = some 1 := ⟨pn12.1, pn12.2, pd6⟩
theorem wmX12_fails : Cond.instanceMethod yX12_fails ∈ GT := GT_c6 (i := 147) rfl rfl
theorem wsX12_fails : Cond.selects yX12_fails.cls yX12_fails yX12_fails ∈ GT := GT_s (i := 55) rfl rfl
theorem mlX12_126 : VL RX12 126 yX12_fails cX12_fails 2 none 1 := ⟨⟨GT_c6 (i := 145) rfl rfl, wmX12_fails, wsX12_fails, wiX12_fails⟩, wcX12_fails, wdX12_fails⟩
theorem wcX12_within : Cond.code yX12_within cX12_within 6 (some .boolean) ∈ GT := GT_c6 (i := 114) rfl rfl
theorem wiX12_within : Cond.initialized yX12_within.cls ∈ GT := GT_c1 (i := 13) rfl rfl
theorem wdX12_within : yX12_within.cls ≠ "java/lang/invoke/MethodHandle" ∧ yX12_within.cls ≠ "java/lang/invoke/VarHandle" ∧ (parseMethodDescriptor yX12_within.desc).map (fun d => d.parameters.length) = some 3 := ⟨pn12.1, pn12.2, pd41⟩
theorem wmX12_within : Cond.static yX12_within ∈ GT := GT_c6 (i := 113) rfl rfl
theorem mlX12_130 : SL RX12 130 yX12_within cX12_within 6 (some .boolean) 3 := ⟨⟨GT_c6 (i := 112) rfl rfl, wmX12_within, wiX12_within⟩, wcX12_within, wdX12_within⟩
theorem wcX12_codes : Cond.code yX12_codes cX12_codes 2 none ∈ GT := GT_c6 (i := 194) rfl rfl
theorem wiX12_codes : Cond.initialized yX12_codes.cls ∈ GT := GT_c1 (i := 13) rfl rfl
theorem wdX12_codes : yX12_codes.cls ≠ "java/lang/invoke/MethodHandle" ∧ yX12_codes.cls ≠ "java/lang/invoke/VarHandle" ∧ (parseMethodDescriptor yX12_codes.desc).map (fun d => d.parameters.length) = some 1 := ⟨pn12.1, pn12.2, pd6⟩
theorem wmX12_codes : Cond.instanceMethod yX12_codes ∈ GT := GT_c6 (i := 193) rfl rfl
theorem wsX12_codes : Cond.selects yX12_codes.cls yX12_codes yX12_codes ∈ GT := GT_s (i := 66) rfl rfl
theorem mlX12_137 : VL RX12 137 yX12_codes cX12_codes 2 none 1 := ⟨⟨GT_c6 (i := 191) rfl rfl, wmX12_codes, wsX12_codes, wiX12_codes⟩, wcX12_codes, wdX12_codes⟩
theorem wcX12_wordOf : Cond.code yX12_wordOf cX12_wordOf 2 (some .int) ∈ GT := GT_c6 (i := 198) rfl rfl
theorem wiX12_wordOf : Cond.initialized yX12_wordOf.cls ∈ GT := GT_c1 (i := 13) rfl rfl
theorem wdX12_wordOf : yX12_wordOf.cls ≠ "java/lang/invoke/MethodHandle" ∧ yX12_wordOf.cls ≠ "java/lang/invoke/VarHandle" ∧ (parseMethodDescriptor yX12_wordOf.desc).map (fun d => d.parameters.length) = some 1 := ⟨pn12.1, pn12.2, pd5⟩
theorem wmX12_wordOf : Cond.instanceMethod yX12_wordOf ∈ GT := GT_c6 (i := 197) rfl rfl
theorem wsX12_wordOf : Cond.selects yX12_wordOf.cls yX12_wordOf yX12_wordOf ∈ GT := GT_s (i := 67) rfl rfl
theorem mlX12_140 : VL RX12 140 yX12_wordOf cX12_wordOf 2 (some .int) 1 := ⟨⟨GT_c6 (i := 195) rfl rfl, wmX12_wordOf, wsX12_wordOf, wiX12_wordOf⟩, wcX12_wordOf, wdX12_wordOf⟩
theorem wcX12_goesIn : Cond.code yX12_goesIn cX12_goesIn 2 (some .boolean) ∈ GT := GT_c6 (i := 202) rfl rfl
theorem wiX12_goesIn : Cond.initialized yX12_goesIn.cls ∈ GT := GT_c1 (i := 13) rfl rfl
theorem wdX12_goesIn : yX12_goesIn.cls ≠ "java/lang/invoke/MethodHandle" ∧ yX12_goesIn.cls ≠ "java/lang/invoke/VarHandle" ∧ (parseMethodDescriptor yX12_goesIn.desc).map (fun d => d.parameters.length) = some 1 := ⟨pn12.1, pn12.2, pd7⟩
theorem wmX12_goesIn : Cond.instanceMethod yX12_goesIn ∈ GT := GT_c6 (i := 201) rfl rfl
theorem wsX12_goesIn : Cond.selects yX12_goesIn.cls yX12_goesIn yX12_goesIn ∈ GT := GT_s (i := 68) rfl rfl
theorem mlX12_143 : VL RX12 143 yX12_goesIn cX12_goesIn 2 (some .boolean) 1 := ⟨⟨GT_c6 (i := 199) rfl rfl, wmX12_goesIn, wsX12_goesIn, wiX12_goesIn⟩, wcX12_goesIn, wdX12_goesIn⟩
theorem wcX12_readSum : Cond.code yX12_readSum cX12_readSum 3 none ∈ GT := GT_c6 (i := 182) rfl rfl
theorem wiX12_readSum : Cond.initialized yX12_readSum.cls ∈ GT := GT_c1 (i := 13) rfl rfl
theorem wdX12_readSum : yX12_readSum.cls ≠ "java/lang/invoke/MethodHandle" ∧ yX12_readSum.cls ≠ "java/lang/invoke/VarHandle" ∧ (parseMethodDescriptor yX12_readSum.desc).map (fun d => d.parameters.length) = some 1 := ⟨pn12.1, pn12.2, pd6⟩
theorem wmX12_readSum : Cond.instanceMethod yX12_readSum ∈ GT := GT_c6 (i := 181) rfl rfl
theorem wsX12_readSum : Cond.selects yX12_readSum.cls yX12_readSum yX12_readSum ∈ GT := GT_s (i := 63) rfl rfl
theorem mlX12_146 : VL RX12 146 yX12_readSum cX12_readSum 3 none 1 := ⟨⟨GT_c6 (i := 179) rfl rfl, wmX12_readSum, wsX12_readSum, wiX12_readSum⟩, wcX12_readSum, wdX12_readSum⟩
theorem wcX12_eats : Cond.code yX12_eats cX12_eats 2 (some .boolean) ∈ GT := GT_c6 (i := 140) rfl rfl
theorem wiX12_eats : Cond.initialized yX12_eats.cls ∈ GT := GT_c1 (i := 13) rfl rfl
theorem wdX12_eats : yX12_eats.cls ≠ "java/lang/invoke/MethodHandle" ∧ yX12_eats.cls ≠ "java/lang/invoke/VarHandle" ∧ (parseMethodDescriptor yX12_eats.desc).map (fun d => d.parameters.length) = some 1 := ⟨pn12.1, pn12.2, pd7⟩
theorem wmX12_eats : Cond.instanceMethod yX12_eats ∈ GT := GT_c6 (i := 139) rfl rfl
theorem wsX12_eats : Cond.selects yX12_eats.cls yX12_eats yX12_eats ∈ GT := GT_s (i := 53) rfl rfl
theorem mlX12_149 : VL RX12 149 yX12_eats cX12_eats 2 (some .boolean) 1 := ⟨⟨GT_c6 (i := 137) rfl rfl, wmX12_eats, wsX12_eats, wiX12_eats⟩, wcX12_eats, wdX12_eats⟩
theorem wcX12_readAtom : Cond.code yX12_readAtom cX12_readAtom 2 none ∈ GT := GT_c6 (i := 190) rfl rfl
theorem wiX12_readAtom : Cond.initialized yX12_readAtom.cls ∈ GT := GT_c1 (i := 13) rfl rfl
theorem wdX12_readAtom : yX12_readAtom.cls ≠ "java/lang/invoke/MethodHandle" ∧ yX12_readAtom.cls ≠ "java/lang/invoke/VarHandle" ∧ (parseMethodDescriptor yX12_readAtom.desc).map (fun d => d.parameters.length) = some 1 := ⟨pn12.1, pn12.2, pd6⟩
theorem wmX12_readAtom : Cond.instanceMethod yX12_readAtom ∈ GT := GT_c6 (i := 189) rfl rfl
theorem wsX12_readAtom : Cond.selects yX12_readAtom.cls yX12_readAtom yX12_readAtom ∈ GT := GT_s (i := 65) rfl rfl
theorem mlX12_152 : VL RX12 152 yX12_readAtom cX12_readAtom 2 none 1 := ⟨⟨GT_c6 (i := 187) rfl rfl, wmX12_readAtom, wsX12_readAtom, wiX12_readAtom⟩, wcX12_readAtom, wdX12_readAtom⟩
theorem wcX12_readTerm : Cond.code yX12_readTerm cX12_readTerm 2 none ∈ GT := GT_c6 (i := 186) rfl rfl
theorem wiX12_readTerm : Cond.initialized yX12_readTerm.cls ∈ GT := GT_c1 (i := 13) rfl rfl
theorem wdX12_readTerm : yX12_readTerm.cls ≠ "java/lang/invoke/MethodHandle" ∧ yX12_readTerm.cls ≠ "java/lang/invoke/VarHandle" ∧ (parseMethodDescriptor yX12_readTerm.desc).map (fun d => d.parameters.length) = some 1 := ⟨pn12.1, pn12.2, pd6⟩
theorem wmX12_readTerm : Cond.instanceMethod yX12_readTerm ∈ GT := GT_c6 (i := 185) rfl rfl
theorem wsX12_readTerm : Cond.selects yX12_readTerm.cls yX12_readTerm yX12_readTerm ∈ GT := GT_s (i := 64) rfl rfl
theorem mlX12_155 : VL RX12 155 yX12_readTerm cX12_readTerm 2 none 1 := ⟨⟨GT_c6 (i := 183) rfl rfl, wmX12_readTerm, wsX12_readTerm, wiX12_readTerm⟩, wcX12_readTerm, wdX12_readTerm⟩
theorem wcX12_readUnit : Cond.code yX12_readUnit cX12_readUnit 3 none ∈ GT := GT_c6 (i := 214) rfl rfl
theorem wiX12_readUnit : Cond.initialized yX12_readUnit.cls ∈ GT := GT_c1 (i := 13) rfl rfl
theorem wdX12_readUnit : yX12_readUnit.cls ≠ "java/lang/invoke/MethodHandle" ∧ yX12_readUnit.cls ≠ "java/lang/invoke/VarHandle" ∧ (parseMethodDescriptor yX12_readUnit.desc).map (fun d => d.parameters.length) = some 1 := ⟨pn12.1, pn12.2, pd6⟩
theorem wmX12_readUnit : Cond.instanceMethod yX12_readUnit ∈ GT := GT_c6 (i := 213) rfl rfl
theorem wsX12_readUnit : Cond.selects yX12_readUnit.cls yX12_readUnit yX12_readUnit ∈ GT := GT_s (i := 71) rfl rfl
theorem mlX12_158 : VL RX12 158 yX12_readUnit cX12_readUnit 3 none 1 := ⟨⟨GT_c6 (i := 211) rfl rfl, wmX12_readUnit, wsX12_readUnit, wiX12_readUnit⟩, wcX12_readUnit, wdX12_readUnit⟩
theorem wcX12_readTruth : Cond.code yX12_readTruth cX12_readTruth 2 none ∈ GT := GT_c6 (i := 206) rfl rfl
theorem wiX12_readTruth : Cond.initialized yX12_readTruth.cls ∈ GT := GT_c1 (i := 13) rfl rfl
theorem wdX12_readTruth : yX12_readTruth.cls ≠ "java/lang/invoke/MethodHandle" ∧ yX12_readTruth.cls ≠ "java/lang/invoke/VarHandle" ∧ (parseMethodDescriptor yX12_readTruth.desc).map (fun d => d.parameters.length) = some 1 := ⟨pn12.1, pn12.2, pd6⟩
theorem wmX12_readTruth : Cond.instanceMethod yX12_readTruth ∈ GT := GT_c6 (i := 205) rfl rfl
theorem wsX12_readTruth : Cond.selects yX12_readTruth.cls yX12_readTruth yX12_readTruth ∈ GT := GT_s (i := 69) rfl rfl
theorem mlX12_161 : VL RX12 161 yX12_readTruth cX12_readTruth 2 none 1 := ⟨⟨GT_c6 (i := 203) rfl rfl, wmX12_readTruth, wsX12_readTruth, wiX12_readTruth⟩, wcX12_readTruth, wdX12_readTruth⟩
theorem wcX12_readBoth : Cond.code yX12_readBoth cX12_readBoth 2 none ∈ GT := GT_c6 (i := 210) rfl rfl
theorem wiX12_readBoth : Cond.initialized yX12_readBoth.cls ∈ GT := GT_c1 (i := 13) rfl rfl
theorem wdX12_readBoth : yX12_readBoth.cls ≠ "java/lang/invoke/MethodHandle" ∧ yX12_readBoth.cls ≠ "java/lang/invoke/VarHandle" ∧ (parseMethodDescriptor yX12_readBoth.desc).map (fun d => d.parameters.length) = some 1 := ⟨pn12.1, pn12.2, pd6⟩
theorem wmX12_readBoth : Cond.instanceMethod yX12_readBoth ∈ GT := GT_c6 (i := 209) rfl rfl
theorem wsX12_readBoth : Cond.selects yX12_readBoth.cls yX12_readBoth yX12_readBoth ∈ GT := GT_s (i := 70) rfl rfl
theorem mlX12_164 : VL RX12 164 yX12_readBoth cX12_readBoth 2 none 1 := ⟨⟨GT_c6 (i := 207) rfl rfl, wmX12_readBoth, wsX12_readBoth, wiX12_readBoth⟩, wcX12_readBoth, wdX12_readBoth⟩
theorem wcX12_takes : Cond.code yX12_takes cX12_takes 4 (some .int) ∈ GT := GT_c6 (i := 152) rfl rfl
theorem wiX12_takes : Cond.initialized yX12_takes.cls ∈ GT := GT_c1 (i := 13) rfl rfl
theorem wdX12_takes : yX12_takes.cls ≠ "java/lang/invoke/MethodHandle" ∧ yX12_takes.cls ≠ "java/lang/invoke/VarHandle" ∧ (parseMethodDescriptor yX12_takes.desc).map (fun d => d.parameters.length) = some 2 := ⟨pn12.1, pn12.2, pd8⟩
theorem wmX12_takes : Cond.instanceMethod yX12_takes ∈ GT := GT_c6 (i := 151) rfl rfl
theorem wsX12_takes : Cond.selects yX12_takes.cls yX12_takes yX12_takes ∈ GT := GT_s (i := 56) rfl rfl
theorem mlX12_167 : VL RX12 167 yX12_takes cX12_takes 4 (some .int) 2 := ⟨⟨GT_c6 (i := 149) rfl rfl, wmX12_takes, wsX12_takes, wiX12_takes⟩, wcX12_takes, wdX12_takes⟩
theorem wcX12_readCurrent : Cond.code yX12_readCurrent cX12_readCurrent 5 none ∈ GT := GT_c6 (i := 164) rfl rfl
theorem wiX12_readCurrent : Cond.initialized yX12_readCurrent.cls ∈ GT := GT_c1 (i := 13) rfl rfl
theorem wdX12_readCurrent : yX12_readCurrent.cls ≠ "java/lang/invoke/MethodHandle" ∧ yX12_readCurrent.cls ≠ "java/lang/invoke/VarHandle" ∧ (parseMethodDescriptor yX12_readCurrent.desc).map (fun d => d.parameters.length) = some 0 := ⟨pn12.1, pn12.2, pd2⟩
theorem wmX12_readCurrent : Cond.instanceMethod yX12_readCurrent ∈ GT := GT_c6 (i := 163) rfl rfl
theorem wsX12_readCurrent : Cond.selects yX12_readCurrent.cls yX12_readCurrent yX12_readCurrent ∈ GT := GT_s (i := 59) rfl rfl
theorem mlX12_171 : VL RX12 171 yX12_readCurrent cX12_readCurrent 5 none 0 := ⟨⟨GT_c6 (i := 161) rfl rfl, wmX12_readCurrent, wsX12_readCurrent, wiX12_readCurrent⟩, wcX12_readCurrent, wdX12_readCurrent⟩
theorem wcX12_readPerson : Cond.code yX12_readPerson cX12_readPerson 2 none ∈ GT := GT_c6 (i := 168) rfl rfl
theorem wiX12_readPerson : Cond.initialized yX12_readPerson.cls ∈ GT := GT_c1 (i := 13) rfl rfl
theorem wdX12_readPerson : yX12_readPerson.cls ≠ "java/lang/invoke/MethodHandle" ∧ yX12_readPerson.cls ≠ "java/lang/invoke/VarHandle" ∧ (parseMethodDescriptor yX12_readPerson.desc).map (fun d => d.parameters.length) = some 0 := ⟨pn12.1, pn12.2, pd2⟩
theorem wmX12_readPerson : Cond.instanceMethod yX12_readPerson ∈ GT := GT_c6 (i := 167) rfl rfl
theorem wsX12_readPerson : Cond.selects yX12_readPerson.cls yX12_readPerson yX12_readPerson ∈ GT := GT_s (i := 60) rfl rfl
theorem mlX12_174 : VL RX12 174 yX12_readPerson cX12_readPerson 2 none 0 := ⟨⟨GT_c6 (i := 165) rfl rfl, wmX12_readPerson, wsX12_readPerson, wiX12_readPerson⟩, wcX12_readPerson, wdX12_readPerson⟩
theorem wcX12_readShell : Cond.code yX12_readShell cX12_readShell 4 none ∈ GT := GT_c6 (i := 172) rfl rfl
theorem wiX12_readShell : Cond.initialized yX12_readShell.cls ∈ GT := GT_c1 (i := 13) rfl rfl
theorem wdX12_readShell : yX12_readShell.cls ≠ "java/lang/invoke/MethodHandle" ∧ yX12_readShell.cls ≠ "java/lang/invoke/VarHandle" ∧ (parseMethodDescriptor yX12_readShell.desc).map (fun d => d.parameters.length) = some 0 := ⟨pn12.1, pn12.2, pd2⟩
theorem wmX12_readShell : Cond.instanceMethod yX12_readShell ∈ GT := GT_c6 (i := 171) rfl rfl
theorem wsX12_readShell : Cond.selects yX12_readShell.cls yX12_readShell yX12_readShell ∈ GT := GT_s (i := 61) rfl rfl
theorem mlX12_177 : VL RX12 177 yX12_readShell cX12_readShell 4 none 0 := ⟨⟨GT_c6 (i := 169) rfl rfl, wmX12_readShell, wsX12_readShell, wiX12_readShell⟩, wcX12_readShell, wdX12_readShell⟩
theorem wcX12_readLaw : Cond.code yX12_readLaw cX12_readLaw 3 none ∈ GT := GT_c6 (i := 178) rfl rfl
theorem wiX12_readLaw : Cond.initialized yX12_readLaw.cls ∈ GT := GT_c1 (i := 13) rfl rfl
theorem wdX12_readLaw : yX12_readLaw.cls ≠ "java/lang/invoke/MethodHandle" ∧ yX12_readLaw.cls ≠ "java/lang/invoke/VarHandle" ∧ (parseMethodDescriptor yX12_readLaw.desc).map (fun d => d.parameters.length) = some 1 := ⟨pn12.1, pn12.2, pd6⟩
theorem wmX12_readLaw : Cond.instanceMethod yX12_readLaw ∈ GT := GT_c6 (i := 177) rfl rfl
theorem wsX12_readLaw : Cond.selects yX12_readLaw.cls yX12_readLaw yX12_readLaw ∈ GT := GT_s (i := 62) rfl rfl
theorem mlX12_184 : VL RX12 184 yX12_readLaw cX12_readLaw 3 none 1 := ⟨⟨GT_c6 (i := 175) rfl rfl, wmX12_readLaw, wsX12_readLaw, wiX12_readLaw⟩, wcX12_readLaw, wdX12_readLaw⟩
theorem wcX12_ends : Cond.code yX12_ends cX12_ends 1 none ∈ GT := GT_c6 (i := 156) rfl rfl
theorem wiX12_ends : Cond.initialized yX12_ends.cls ∈ GT := GT_c1 (i := 13) rfl rfl
theorem wdX12_ends : yX12_ends.cls ≠ "java/lang/invoke/MethodHandle" ∧ yX12_ends.cls ≠ "java/lang/invoke/VarHandle" ∧ (parseMethodDescriptor yX12_ends.desc).map (fun d => d.parameters.length) = some 0 := ⟨pn12.1, pn12.2, pd2⟩
theorem wmX12_ends : Cond.instanceMethod yX12_ends ∈ GT := GT_c6 (i := 155) rfl rfl
theorem wsX12_ends : Cond.selects yX12_ends.cls yX12_ends yX12_ends ∈ GT := GT_s (i := 57) rfl rfl
theorem mlX12_187 : VL RX12 187 yX12_ends cX12_ends 1 none 0 := ⟨⟨GT_c6 (i := 153) rfl rfl, wmX12_ends, wsX12_ends, wiX12_ends⟩, wcX12_ends, wdX12_ends⟩
theorem wcX12_readLine : Cond.code yX12_readLine cX12_readLine 1 none ∈ GT := GT_c6 (i := 160) rfl rfl
theorem wiX12_readLine : Cond.initialized yX12_readLine.cls ∈ GT := GT_c1 (i := 13) rfl rfl
theorem wdX12_readLine : yX12_readLine.cls ≠ "java/lang/invoke/MethodHandle" ∧ yX12_readLine.cls ≠ "java/lang/invoke/VarHandle" ∧ (parseMethodDescriptor yX12_readLine.desc).map (fun d => d.parameters.length) = some 0 := ⟨pn12.1, pn12.2, pd2⟩
theorem wmX12_readLine : Cond.instanceMethod yX12_readLine ∈ GT := GT_c6 (i := 159) rfl rfl
theorem wsX12_readLine : Cond.selects yX12_readLine.cls yX12_readLine yX12_readLine ∈ GT := GT_s (i := 58) rfl rfl
theorem mlX12_190 : VL RX12 190 yX12_readLine cX12_readLine 1 none 0 := ⟨⟨GT_c6 (i := 157) rfl rfl, wmX12_readLine, wsX12_readLine, wiX12_readLine⟩, wcX12_readLine, wdX12_readLine⟩
theorem wcX12_between : Cond.code yX12_between cX12_between 5 (some .int) ∈ GT := GT_c7 (i := 1) rfl rfl
theorem wiX12_between : Cond.initialized yX12_between.cls ∈ GT := GT_c1 (i := 13) rfl rfl
theorem wdX12_between : yX12_between.cls ≠ "java/lang/invoke/MethodHandle" ∧ yX12_between.cls ≠ "java/lang/invoke/VarHandle" ∧ (parseMethodDescriptor yX12_between.desc).map (fun d => d.parameters.length) = some 3 := ⟨pn12.1, pn12.2, pd11⟩
theorem wmX12_between : Cond.static yX12_between ∈ GT := GT_c7 (i := 0) rfl rfl
theorem mlX12_200 : SL RX12 200 yX12_between cX12_between 5 (some .int) 3 := ⟨⟨GT_c6 (i := 239) rfl rfl, wmX12_between, wiX12_between⟩, wcX12_between, wdX12_between⟩
theorem wcX12_galeIn : Cond.code yX12_galeIn cX12_galeIn 2 (some .int) ∈ GT := GT_c6 (i := 234) rfl rfl
theorem wiX12_galeIn : Cond.initialized yX12_galeIn.cls ∈ GT := GT_c1 (i := 13) rfl rfl
theorem wdX12_galeIn : yX12_galeIn.cls ≠ "java/lang/invoke/MethodHandle" ∧ yX12_galeIn.cls ≠ "java/lang/invoke/VarHandle" ∧ (parseMethodDescriptor yX12_galeIn.desc).map (fun d => d.parameters.length) = some 1 := ⟨pn12.1, pn12.2, pd5⟩
theorem wmX12_galeIn : Cond.instanceMethod yX12_galeIn ∈ GT := GT_c6 (i := 233) rfl rfl
theorem wsX12_galeIn : Cond.selects yX12_galeIn.cls yX12_galeIn yX12_galeIn ∈ GT := GT_s (i := 74) rfl rfl
theorem mlX12_204 : VL RX12 204 yX12_galeIn cX12_galeIn 2 (some .int) 1 := ⟨⟨GT_c6 (i := 231) rfl rfl, wmX12_galeIn, wsX12_galeIn, wiX12_galeIn⟩, wcX12_galeIn, wdX12_galeIn⟩
theorem wcX12_reckons : Cond.code yX12_reckons cX12_reckons 7 (some .int) ∈ GT := GT_c6 (i := 238) rfl rfl
theorem wiX12_reckons : Cond.initialized yX12_reckons.cls ∈ GT := GT_c1 (i := 13) rfl rfl
theorem wdX12_reckons : yX12_reckons.cls ≠ "java/lang/invoke/MethodHandle" ∧ yX12_reckons.cls ≠ "java/lang/invoke/VarHandle" ∧ (parseMethodDescriptor yX12_reckons.desc).map (fun d => d.parameters.length) = some 3 := ⟨pn12.1, pn12.2, pd11⟩
theorem wmX12_reckons : Cond.instanceMethod yX12_reckons ∈ GT := GT_c6 (i := 237) rfl rfl
theorem wsX12_reckons : Cond.selects yX12_reckons.cls yX12_reckons yX12_reckons ∈ GT := GT_s (i := 75) rfl rfl
theorem mlX12_207 : VL RX12 207 yX12_reckons cX12_reckons 7 (some .int) 3 := ⟨⟨GT_c6 (i := 235) rfl rfl, wmX12_reckons, wsX12_reckons, wiX12_reckons⟩, wcX12_reckons, wdX12_reckons⟩
theorem wcX12_heardMany : Cond.code yX12_heardMany cX12_heardMany 4 (some .int) ∈ GT := GT_c7 (i := 30) rfl rfl
theorem wiX12_heardMany : Cond.initialized yX12_heardMany.cls ∈ GT := GT_c1 (i := 13) rfl rfl
theorem wdX12_heardMany : yX12_heardMany.cls ≠ "java/lang/invoke/MethodHandle" ∧ yX12_heardMany.cls ≠ "java/lang/invoke/VarHandle" ∧ (parseMethodDescriptor yX12_heardMany.desc).map (fun d => d.parameters.length) = some 1 := ⟨pn12.1, pn12.2, pd5⟩
theorem wmX12_heardMany : Cond.instanceMethod yX12_heardMany ∈ GT := GT_c7 (i := 29) rfl rfl
theorem wsX12_heardMany : Cond.selects yX12_heardMany.cls yX12_heardMany yX12_heardMany ∈ GT := GT_s (i := 80) rfl rfl
theorem mlX12_210 : VL RX12 210 yX12_heardMany cX12_heardMany 4 (some .int) 1 := ⟨⟨GT_c7 (i := 27) rfl rfl, wmX12_heardMany, wsX12_heardMany, wiX12_heardMany⟩, wcX12_heardMany, wdX12_heardMany⟩
theorem wcX12_isIn : Cond.code yX12_isIn cX12_isIn 3 (some .boolean) ∈ GT := GT_c7 (i := 18) rfl rfl
theorem wiX12_isIn : Cond.initialized yX12_isIn.cls ∈ GT := GT_c1 (i := 13) rfl rfl
theorem wdX12_isIn : yX12_isIn.cls ≠ "java/lang/invoke/MethodHandle" ∧ yX12_isIn.cls ≠ "java/lang/invoke/VarHandle" ∧ (parseMethodDescriptor yX12_isIn.desc).map (fun d => d.parameters.length) = some 2 := ⟨pn12.1, pn12.2, pd39⟩
theorem wmX12_isIn : Cond.static yX12_isIn ∈ GT := GT_c7 (i := 17) rfl rfl
theorem mlX12_213 : SL RX12 213 yX12_isIn cX12_isIn 3 (some .boolean) 2 := ⟨⟨GT_c7 (i := 16) rfl rfl, wmX12_isIn, wiX12_isIn⟩, wcX12_isIn, wdX12_isIn⟩
theorem wcX12_isCurrent : Cond.code yX12_isCurrent cX12_isCurrent 3 (some .boolean) ∈ GT := GT_c6 (i := 226) rfl rfl
theorem wiX12_isCurrent : Cond.initialized yX12_isCurrent.cls ∈ GT := GT_c1 (i := 13) rfl rfl
theorem wdX12_isCurrent : yX12_isCurrent.cls ≠ "java/lang/invoke/MethodHandle" ∧ yX12_isCurrent.cls ≠ "java/lang/invoke/VarHandle" ∧ (parseMethodDescriptor yX12_isCurrent.desc).map (fun d => d.parameters.length) = some 1 := ⟨pn12.1, pn12.2, pd37⟩
theorem wmX12_isCurrent : Cond.instanceMethod yX12_isCurrent ∈ GT := GT_c6 (i := 225) rfl rfl
theorem wsX12_isCurrent : Cond.selects yX12_isCurrent.cls yX12_isCurrent yX12_isCurrent ∈ GT := GT_s (i := 72) rfl rfl
theorem mlX12_217 : VL RX12 217 yX12_isCurrent cX12_isCurrent 3 (some .boolean) 1 := ⟨⟨GT_c6 (i := 223) rfl rfl, wmX12_isCurrent, wsX12_isCurrent, wiX12_isCurrent⟩, wcX12_isCurrent, wdX12_isCurrent⟩
theorem wcX12_isOpen : Cond.code yX12_isOpen cX12_isOpen 2 (some .boolean) ∈ GT := GT_c6 (i := 230) rfl rfl
theorem wiX12_isOpen : Cond.initialized yX12_isOpen.cls ∈ GT := GT_c1 (i := 13) rfl rfl
theorem wdX12_isOpen : yX12_isOpen.cls ≠ "java/lang/invoke/MethodHandle" ∧ yX12_isOpen.cls ≠ "java/lang/invoke/VarHandle" ∧ (parseMethodDescriptor yX12_isOpen.desc).map (fun d => d.parameters.length) = some 1 := ⟨pn12.1, pn12.2, pd7⟩
theorem wmX12_isOpen : Cond.instanceMethod yX12_isOpen ∈ GT := GT_c6 (i := 229) rfl rfl
theorem wsX12_isOpen : Cond.selects yX12_isOpen.cls yX12_isOpen yX12_isOpen ∈ GT := GT_s (i := 73) rfl rfl
theorem mlX12_221 : VL RX12 221 yX12_isOpen cX12_isOpen 2 (some .boolean) 1 := ⟨⟨GT_c6 (i := 227) rfl rfl, wmX12_isOpen, wsX12_isOpen, wiX12_isOpen⟩, wcX12_isOpen, wdX12_isOpen⟩
theorem wcX12_isPerson : Cond.code yX12_isPerson cX12_isPerson 3 (some .boolean) ∈ GT := GT_c7 (i := 11) rfl rfl
theorem wiX12_isPerson : Cond.initialized yX12_isPerson.cls ∈ GT := GT_c1 (i := 13) rfl rfl
theorem wdX12_isPerson : yX12_isPerson.cls ≠ "java/lang/invoke/MethodHandle" ∧ yX12_isPerson.cls ≠ "java/lang/invoke/VarHandle" ∧ (parseMethodDescriptor yX12_isPerson.desc).map (fun d => d.parameters.length) = some 1 := ⟨pn12.1, pn12.2, pd37⟩
theorem wmX12_isPerson : Cond.instanceMethod yX12_isPerson ∈ GT := GT_c7 (i := 10) rfl rfl
theorem wsX12_isPerson : Cond.selects yX12_isPerson.cls yX12_isPerson yX12_isPerson ∈ GT := GT_s (i := 76) rfl rfl
theorem mlX12_224 : VL RX12 224 yX12_isPerson cX12_isPerson 3 (some .boolean) 1 := ⟨⟨GT_c7 (i := 8) rfl rfl, wmX12_isPerson, wsX12_isPerson, wiX12_isPerson⟩, wcX12_isPerson, wdX12_isPerson⟩
theorem wcX12_heardBy : Cond.code yX12_heardBy cX12_heardBy 4 (some .int) ∈ GT := GT_c7 (i := 15) rfl rfl
theorem wiX12_heardBy : Cond.initialized yX12_heardBy.cls ∈ GT := GT_c1 (i := 13) rfl rfl
theorem wdX12_heardBy : yX12_heardBy.cls ≠ "java/lang/invoke/MethodHandle" ∧ yX12_heardBy.cls ≠ "java/lang/invoke/VarHandle" ∧ (parseMethodDescriptor yX12_heardBy.desc).map (fun d => d.parameters.length) = some 1 := ⟨pn12.1, pn12.2, pd5⟩
theorem wmX12_heardBy : Cond.instanceMethod yX12_heardBy ∈ GT := GT_c7 (i := 14) rfl rfl
theorem wsX12_heardBy : Cond.selects yX12_heardBy.cls yX12_heardBy yX12_heardBy ∈ GT := GT_s (i := 77) rfl rfl
theorem mlX12_227 : VL RX12 227 yX12_heardBy cX12_heardBy 4 (some .int) 1 := ⟨⟨GT_c7 (i := 12) rfl rfl, wmX12_heardBy, wsX12_heardBy, wiX12_heardBy⟩, wcX12_heardBy, wdX12_heardBy⟩
theorem wcX12_holdsOf : Cond.code yX12_holdsOf cX12_holdsOf 4 (some .int) ∈ GT := GT_c7 (i := 22) rfl rfl
theorem wiX12_holdsOf : Cond.initialized yX12_holdsOf.cls ∈ GT := GT_c1 (i := 13) rfl rfl
theorem wdX12_holdsOf : yX12_holdsOf.cls ≠ "java/lang/invoke/MethodHandle" ∧ yX12_holdsOf.cls ≠ "java/lang/invoke/VarHandle" ∧ (parseMethodDescriptor yX12_holdsOf.desc).map (fun d => d.parameters.length) = some 1 := ⟨pn12.1, pn12.2, pd5⟩
theorem wmX12_holdsOf : Cond.instanceMethod yX12_holdsOf ∈ GT := GT_c7 (i := 21) rfl rfl
theorem wsX12_holdsOf : Cond.selects yX12_holdsOf.cls yX12_holdsOf yX12_holdsOf ∈ GT := GT_s (i := 78) rfl rfl
theorem mlX12_230 : VL RX12 230 yX12_holdsOf cX12_holdsOf 4 (some .int) 1 := ⟨⟨GT_c7 (i := 19) rfl rfl, wmX12_holdsOf, wsX12_holdsOf, wiX12_holdsOf⟩, wcX12_holdsOf, wdX12_holdsOf⟩
theorem wcX12_listens : Cond.code yX12_listens cX12_listens 2 (some .boolean) ∈ GT := GT_c7 (i := 26) rfl rfl
theorem wiX12_listens : Cond.initialized yX12_listens.cls ∈ GT := GT_c1 (i := 13) rfl rfl
theorem wdX12_listens : yX12_listens.cls ≠ "java/lang/invoke/MethodHandle" ∧ yX12_listens.cls ≠ "java/lang/invoke/VarHandle" ∧ (parseMethodDescriptor yX12_listens.desc).map (fun d => d.parameters.length) = some 1 := ⟨pn12.1, pn12.2, pd7⟩
theorem wmX12_listens : Cond.instanceMethod yX12_listens ∈ GT := GT_c7 (i := 25) rfl rfl
theorem wsX12_listens : Cond.selects yX12_listens.cls yX12_listens yX12_listens ∈ GT := GT_s (i := 79) rfl rfl
theorem mlX12_233 : VL RX12 233 yX12_listens cX12_listens 2 (some .boolean) 1 := ⟨⟨GT_c7 (i := 23) rfl rfl, wmX12_listens, wsX12_listens, wiX12_listens⟩, wcX12_listens, wdX12_listens⟩
theorem wcX12_isShell : Cond.code yX12_isShell cX12_isShell 3 (some .boolean) ∈ GT := GT_c7 (i := 38) rfl rfl
theorem wiX12_isShell : Cond.initialized yX12_isShell.cls ∈ GT := GT_c1 (i := 13) rfl rfl
theorem wdX12_isShell : yX12_isShell.cls ≠ "java/lang/invoke/MethodHandle" ∧ yX12_isShell.cls ≠ "java/lang/invoke/VarHandle" ∧ (parseMethodDescriptor yX12_isShell.desc).map (fun d => d.parameters.length) = some 1 := ⟨pn12.1, pn12.2, pd37⟩
theorem wmX12_isShell : Cond.instanceMethod yX12_isShell ∈ GT := GT_c7 (i := 37) rfl rfl
theorem wsX12_isShell : Cond.selects yX12_isShell.cls yX12_isShell yX12_isShell ∈ GT := GT_s (i := 81) rfl rfl
theorem mlX12_236 : VL RX12 236 yX12_isShell cX12_isShell 3 (some .boolean) 1 := ⟨⟨GT_c7 (i := 35) rfl rfl, wmX12_isShell, wsX12_isShell, wiX12_isShell⟩, wcX12_isShell, wdX12_isShell⟩
theorem wcX12_isWord : Cond.code yX12_isWord cX12_isWord 3 (some .boolean) ∈ GT := GT_c7 (i := 46) rfl rfl
theorem wiX12_isWord : Cond.initialized yX12_isWord.cls ∈ GT := GT_c1 (i := 13) rfl rfl
theorem wdX12_isWord : yX12_isWord.cls ≠ "java/lang/invoke/MethodHandle" ∧ yX12_isWord.cls ≠ "java/lang/invoke/VarHandle" ∧ (parseMethodDescriptor yX12_isWord.desc).map (fun d => d.parameters.length) = some 1 := ⟨pn12.1, pn12.2, pd37⟩
theorem wmX12_isWord : Cond.instanceMethod yX12_isWord ∈ GT := GT_c7 (i := 45) rfl rfl
theorem wsX12_isWord : Cond.selects yX12_isWord.cls yX12_isWord yX12_isWord ∈ GT := GT_s (i := 82) rfl rfl
theorem mlX12_239 : VL RX12 239 yX12_isWord cX12_isWord 3 (some .boolean) 1 := ⟨⟨GT_c7 (i := 43) rfl rfl, wmX12_isWord, wsX12_isWord, wiX12_isWord⟩, wcX12_isWord, wdX12_isWord⟩
theorem wcX12_isBeach : Cond.code yX12_isBeach cX12_isBeach 3 (some .boolean) ∈ GT := GT_c7 (i := 55) rfl rfl
theorem wiX12_isBeach : Cond.initialized yX12_isBeach.cls ∈ GT := GT_c1 (i := 13) rfl rfl
theorem wdX12_isBeach : yX12_isBeach.cls ≠ "java/lang/invoke/MethodHandle" ∧ yX12_isBeach.cls ≠ "java/lang/invoke/VarHandle" ∧ (parseMethodDescriptor yX12_isBeach.desc).map (fun d => d.parameters.length) = some 1 := ⟨pn12.1, pn12.2, pd37⟩
theorem wmX12_isBeach : Cond.instanceMethod yX12_isBeach ∈ GT := GT_c7 (i := 54) rfl rfl
theorem wsX12_isBeach : Cond.selects yX12_isBeach.cls yX12_isBeach yX12_isBeach ∈ GT := GT_s (i := 83) rfl rfl
theorem mlX12_244 : VL RX12 244 yX12_isBeach cX12_isBeach 3 (some .boolean) 1 := ⟨⟨GT_c7 (i := 52) rfl rfl, wmX12_isBeach, wsX12_isBeach, wiX12_isBeach⟩, wcX12_isBeach, wdX12_isBeach⟩
theorem wcX12_soundIn : Cond.code yX12_soundIn cX12_soundIn 4 (some .int) ∈ GT := GT_c7 (i := 60) rfl rfl
theorem wiX12_soundIn : Cond.initialized yX12_soundIn.cls ∈ GT := GT_c1 (i := 13) rfl rfl
theorem wdX12_soundIn : yX12_soundIn.cls ≠ "java/lang/invoke/MethodHandle" ∧ yX12_soundIn.cls ≠ "java/lang/invoke/VarHandle" ∧ (parseMethodDescriptor yX12_soundIn.desc).map (fun d => d.parameters.length) = some 2 := ⟨pn12.1, pn12.2, pd8⟩
theorem wmX12_soundIn : Cond.instanceMethod yX12_soundIn ∈ GT := GT_c7 (i := 59) rfl rfl
theorem wsX12_soundIn : Cond.selects yX12_soundIn.cls yX12_soundIn yX12_soundIn ∈ GT := GT_s (i := 84) rfl rfl
theorem mlX12_249 : VL RX12 249 yX12_soundIn cX12_soundIn 4 (some .int) 2 := ⟨⟨GT_c7 (i := 57) rfl rfl, wmX12_soundIn, wsX12_soundIn, wiX12_soundIn⟩, wcX12_soundIn, wdX12_soundIn⟩
theorem wcX12_hearsAt : Cond.code yX12_hearsAt cX12_hearsAt 4 (some .int) ∈ GT := GT_c7 (i := 126) rfl rfl
theorem wiX12_hearsAt : Cond.initialized yX12_hearsAt.cls ∈ GT := GT_c1 (i := 13) rfl rfl
theorem wdX12_hearsAt : yX12_hearsAt.cls ≠ "java/lang/invoke/MethodHandle" ∧ yX12_hearsAt.cls ≠ "java/lang/invoke/VarHandle" ∧ (parseMethodDescriptor yX12_hearsAt.desc).map (fun d => d.parameters.length) = some 1 := ⟨pn12.1, pn12.2, pd5⟩
theorem wmX12_hearsAt : Cond.instanceMethod yX12_hearsAt ∈ GT := GT_c7 (i := 125) rfl rfl
theorem wsX12_hearsAt : Cond.selects yX12_hearsAt.cls yX12_hearsAt yX12_hearsAt ∈ GT := GT_s (i := 94) rfl rfl
theorem mlX12_255 : VL RX12 255 yX12_hearsAt cX12_hearsAt 4 (some .int) 1 := ⟨⟨GT_c7 (i := 123) rfl rfl, wmX12_hearsAt, wsX12_hearsAt, wiX12_hearsAt⟩, wcX12_hearsAt, wdX12_hearsAt⟩
theorem wcX12_goesOut : Cond.code yX12_goesOut cX12_goesOut 3 none ∈ GT := GT_c7 (i := 114) rfl rfl
theorem wiX12_goesOut : Cond.initialized yX12_goesOut.cls ∈ GT := GT_c1 (i := 13) rfl rfl
theorem wdX12_goesOut : yX12_goesOut.cls ≠ "java/lang/invoke/MethodHandle" ∧ yX12_goesOut.cls ≠ "java/lang/invoke/VarHandle" ∧ (parseMethodDescriptor yX12_goesOut.desc).map (fun d => d.parameters.length) = some 1 := ⟨pn12.1, pn12.2, pd6⟩
theorem wmX12_goesOut : Cond.instanceMethod yX12_goesOut ∈ GT := GT_c7 (i := 113) rfl rfl
theorem wsX12_goesOut : Cond.selects yX12_goesOut.cls yX12_goesOut yX12_goesOut ∈ GT := GT_s (i := 91) rfl rfl
theorem mlX12_258 : VL RX12 258 yX12_goesOut cX12_goesOut 3 none 1 := ⟨⟨GT_c7 (i := 111) rfl rfl, wmX12_goesOut, wsX12_goesOut, wiX12_goesOut⟩, wcX12_goesOut, wdX12_goesOut⟩
theorem wcX12_comesAll : Cond.code yX12_comesAll cX12_comesAll 4 none ∈ GT := GT_c7 (i := 118) rfl rfl
theorem wiX12_comesAll : Cond.initialized yX12_comesAll.cls ∈ GT := GT_c1 (i := 13) rfl rfl
theorem wdX12_comesAll : yX12_comesAll.cls ≠ "java/lang/invoke/MethodHandle" ∧ yX12_comesAll.cls ≠ "java/lang/invoke/VarHandle" ∧ (parseMethodDescriptor yX12_comesAll.desc).map (fun d => d.parameters.length) = some 1 := ⟨pn12.1, pn12.2, pd6⟩
theorem wmX12_comesAll : Cond.instanceMethod yX12_comesAll ∈ GT := GT_c7 (i := 117) rfl rfl
theorem wsX12_comesAll : Cond.selects yX12_comesAll.cls yX12_comesAll yX12_comesAll ∈ GT := GT_s (i := 92) rfl rfl
theorem mlX12_261 : VL RX12 261 yX12_comesAll cX12_comesAll 4 none 1 := ⟨⟨GT_c7 (i := 115) rfl rfl, wmX12_comesAll, wsX12_comesAll, wiX12_comesAll⟩, wcX12_comesAll, wdX12_comesAll⟩
theorem wcX12_hearsAll : Cond.code yX12_hearsAll cX12_hearsAll 5 (some .int) ∈ GT := GT_c7 (i := 122) rfl rfl
theorem wiX12_hearsAll : Cond.initialized yX12_hearsAll.cls ∈ GT := GT_c1 (i := 13) rfl rfl
theorem wdX12_hearsAll : yX12_hearsAll.cls ≠ "java/lang/invoke/MethodHandle" ∧ yX12_hearsAll.cls ≠ "java/lang/invoke/VarHandle" ∧ (parseMethodDescriptor yX12_hearsAll.desc).map (fun d => d.parameters.length) = some 1 := ⟨pn12.1, pn12.2, pd5⟩
theorem wmX12_hearsAll : Cond.instanceMethod yX12_hearsAll ∈ GT := GT_c7 (i := 121) rfl rfl
theorem wsX12_hearsAll : Cond.selects yX12_hearsAll.cls yX12_hearsAll yX12_hearsAll ∈ GT := GT_s (i := 93) rfl rfl
theorem mlX12_264 : VL RX12 264 yX12_hearsAll cX12_hearsAll 5 (some .int) 1 := ⟨⟨GT_c7 (i := 119) rfl rfl, wmX12_hearsAll, wsX12_hearsAll, wiX12_hearsAll⟩, wcX12_hearsAll, wdX12_hearsAll⟩
theorem wcX12_keeps : Cond.code yX12_keeps cX12_keeps 2 none ∈ GT := GT_c7 (i := 68) rfl rfl
theorem wiX12_keeps : Cond.initialized yX12_keeps.cls ∈ GT := GT_c1 (i := 13) rfl rfl
theorem wdX12_keeps : yX12_keeps.cls ≠ "java/lang/invoke/MethodHandle" ∧ yX12_keeps.cls ≠ "java/lang/invoke/VarHandle" ∧ (parseMethodDescriptor yX12_keeps.desc).map (fun d => d.parameters.length) = some 0 := ⟨pn12.1, pn12.2, pd2⟩
theorem wmX12_keeps : Cond.instanceMethod yX12_keeps ∈ GT := GT_c7 (i := 67) rfl rfl
theorem wsX12_keeps : Cond.selects yX12_keeps.cls yX12_keeps yX12_keeps ∈ GT := GT_s (i := 85) rfl rfl
theorem mlX12_267 : VL RX12 267 yX12_keeps cX12_keeps 2 none 0 := ⟨⟨GT_c7 (i := 65) rfl rfl, wmX12_keeps, wsX12_keeps, wiX12_keeps⟩, wcX12_keeps, wdX12_keeps⟩
theorem wcX12_notes : Cond.code yX12_notes cX12_notes 2 none ∈ GT := GT_c7 (i := 72) rfl rfl
theorem wiX12_notes : Cond.initialized yX12_notes.cls ∈ GT := GT_c1 (i := 13) rfl rfl
theorem wdX12_notes : yX12_notes.cls ≠ "java/lang/invoke/MethodHandle" ∧ yX12_notes.cls ≠ "java/lang/invoke/VarHandle" ∧ (parseMethodDescriptor yX12_notes.desc).map (fun d => d.parameters.length) = some 0 := ⟨pn12.1, pn12.2, pd2⟩
theorem wmX12_notes : Cond.instanceMethod yX12_notes ∈ GT := GT_c7 (i := 71) rfl rfl
theorem wsX12_notes : Cond.selects yX12_notes.cls yX12_notes yX12_notes ∈ GT := GT_s (i := 86) rfl rfl
theorem mlX12_270 : VL RX12 270 yX12_notes cX12_notes 2 none 0 := ⟨⟨GT_c7 (i := 69) rfl rfl, wmX12_notes, wsX12_notes, wiX12_notes⟩, wcX12_notes, wdX12_notes⟩
theorem wcX12_whyWhisper : Cond.code yX12_whyWhisper cX12_whyWhisper 3 (some .int) ∈ GT := GT_c7 (i := 80) rfl rfl
theorem wiX12_whyWhisper : Cond.initialized yX12_whyWhisper.cls ∈ GT := GT_c1 (i := 13) rfl rfl
theorem wdX12_whyWhisper : yX12_whyWhisper.cls ≠ "java/lang/invoke/MethodHandle" ∧ yX12_whyWhisper.cls ≠ "java/lang/invoke/VarHandle" ∧ (parseMethodDescriptor yX12_whyWhisper.desc).map (fun d => d.parameters.length) = some 1 := ⟨pn12.1, pn12.2, pd35⟩
theorem wmX12_whyWhisper : Cond.instanceMethod yX12_whyWhisper ∈ GT := GT_c7 (i := 79) rfl rfl
theorem wsX12_whyWhisper : Cond.selects yX12_whyWhisper.cls yX12_whyWhisper yX12_whyWhisper ∈ GT := GT_s (i := 87) rfl rfl
theorem mlX12_273 : VL RX12 273 yX12_whyWhisper cX12_whyWhisper 3 (some .int) 1 := ⟨⟨GT_c7 (i := 77) rfl rfl, wmX12_whyWhisper, wsX12_whyWhisper, wiX12_whyWhisper⟩, wcX12_whyWhisper, wdX12_whyWhisper⟩
theorem wcX12_whispers : Cond.code yX12_whispers cX12_whispers 4 (some .int) ∈ GT := GT_c7 (i := 84) rfl rfl
theorem wiX12_whispers : Cond.initialized yX12_whispers.cls ∈ GT := GT_c1 (i := 13) rfl rfl
theorem wdX12_whispers : yX12_whispers.cls ≠ "java/lang/invoke/MethodHandle" ∧ yX12_whispers.cls ≠ "java/lang/invoke/VarHandle" ∧ (parseMethodDescriptor yX12_whispers.desc).map (fun d => d.parameters.length) = some 1 := ⟨pn12.1, pn12.2, pd5⟩
theorem wmX12_whispers : Cond.instanceMethod yX12_whispers ∈ GT := GT_c7 (i := 83) rfl rfl
theorem wsX12_whispers : Cond.selects yX12_whispers.cls yX12_whispers yX12_whispers ∈ GT := GT_s (i := 88) rfl rfl
theorem mlX12_277 : VL RX12 277 yX12_whispers cX12_whispers 4 (some .int) 1 := ⟨⟨GT_c7 (i := 81) rfl rfl, wmX12_whispers, wsX12_whispers, wiX12_whispers⟩, wcX12_whispers, wdX12_whispers⟩
theorem wcX12_whyLay : Cond.code yX12_whyLay cX12_whyLay 3 (some .int) ∈ GT := GT_c7 (i := 96) rfl rfl
theorem wiX12_whyLay : Cond.initialized yX12_whyLay.cls ∈ GT := GT_c1 (i := 13) rfl rfl
theorem wdX12_whyLay : yX12_whyLay.cls ≠ "java/lang/invoke/MethodHandle" ∧ yX12_whyLay.cls ≠ "java/lang/invoke/VarHandle" ∧ (parseMethodDescriptor yX12_whyLay.desc).map (fun d => d.parameters.length) = some 1 := ⟨pn12.1, pn12.2, pd35⟩
theorem wmX12_whyLay : Cond.instanceMethod yX12_whyLay ∈ GT := GT_c7 (i := 95) rfl rfl
theorem wsX12_whyLay : Cond.selects yX12_whyLay.cls yX12_whyLay yX12_whyLay ∈ GT := GT_s (i := 89) rfl rfl
theorem mlX12_280 : VL RX12 280 yX12_whyLay cX12_whyLay 3 (some .int) 1 := ⟨⟨GT_c7 (i := 93) rfl rfl, wmX12_whyLay, wsX12_whyLay, wiX12_whyLay⟩, wcX12_whyLay, wdX12_whyLay⟩
theorem wcX12_goesHour : Cond.code yX12_goesHour cX12_goesHour 3 (some .int) ∈ GT := GT_c7 (i := 110) rfl rfl
theorem wiX12_goesHour : Cond.initialized yX12_goesHour.cls ∈ GT := GT_c1 (i := 13) rfl rfl
theorem wdX12_goesHour : yX12_goesHour.cls ≠ "java/lang/invoke/MethodHandle" ∧ yX12_goesHour.cls ≠ "java/lang/invoke/VarHandle" ∧ (parseMethodDescriptor yX12_goesHour.desc).map (fun d => d.parameters.length) = some 0 := ⟨pn12.1, pn12.2, pd1⟩
theorem wmX12_goesHour : Cond.instanceMethod yX12_goesHour ∈ GT := GT_c7 (i := 109) rfl rfl
theorem wsX12_goesHour : Cond.selects yX12_goesHour.cls yX12_goesHour yX12_goesHour ∈ GT := GT_s (i := 90) rfl rfl
theorem mlX12_287 : VL RX12 287 yX12_goesHour cX12_goesHour 3 (some .int) 0 := ⟨⟨GT_c7 (i := 107) rfl rfl, wmX12_goesHour, wsX12_goesHour, wiX12_goesHour⟩, wcX12_goesHour, wdX12_goesHour⟩
theorem wcX12_whyNot : Cond.code yX12_whyNot cX12_whyNot 3 (some .int) ∈ GT := GT_c7 (i := 147) rfl rfl
theorem wiX12_whyNot : Cond.initialized yX12_whyNot.cls ∈ GT := GT_c1 (i := 13) rfl rfl
theorem wdX12_whyNot : yX12_whyNot.cls ≠ "java/lang/invoke/MethodHandle" ∧ yX12_whyNot.cls ≠ "java/lang/invoke/VarHandle" ∧ (parseMethodDescriptor yX12_whyNot.desc).map (fun d => d.parameters.length) = some 1 := ⟨pn12.1, pn12.2, pd35⟩
theorem wmX12_whyNot : Cond.instanceMethod yX12_whyNot ∈ GT := GT_c7 (i := 146) rfl rfl
theorem wsX12_whyNot : Cond.selects yX12_whyNot.cls yX12_whyNot yX12_whyNot ∈ GT := GT_s (i := 97) rfl rfl
theorem mlX12_307 : VL RX12 307 yX12_whyNot cX12_whyNot 3 (some .int) 1 := ⟨⟨GT_c7 (i := 144) rfl rfl, wmX12_whyNot, wsX12_whyNot, wiX12_whyNot⟩, wcX12_whyNot, wdX12_whyNot⟩
theorem wcX12_does : Cond.code yX12_does cX12_does 2 none ∈ GT := GT_c7 (i := 158) rfl rfl
theorem wiX12_does : Cond.initialized yX12_does.cls ∈ GT := GT_c1 (i := 13) rfl rfl
theorem wdX12_does : yX12_does.cls ≠ "java/lang/invoke/MethodHandle" ∧ yX12_does.cls ≠ "java/lang/invoke/VarHandle" ∧ (parseMethodDescriptor yX12_does.desc).map (fun d => d.parameters.length) = some 1 := ⟨pn12.1, pn12.2, pd6⟩
theorem wmX12_does : Cond.instanceMethod yX12_does ∈ GT := GT_c7 (i := 157) rfl rfl
theorem wsX12_does : Cond.selects yX12_does.cls yX12_does yX12_does ∈ GT := GT_s (i := 98) rfl rfl
theorem mlX12_310 : VL RX12 310 yX12_does cX12_does 2 none 1 := ⟨⟨GT_c7 (i := 155) rfl rfl, wmX12_does, wsX12_does, wiX12_does⟩, wcX12_does, wdX12_does⟩
theorem wcX12_noTray : Cond.code yX12_noTray cX12_noTray 2 (some .int) ∈ GT := GT_c7 (i := 139) rfl rfl
theorem wiX12_noTray : Cond.initialized yX12_noTray.cls ∈ GT := GT_c1 (i := 13) rfl rfl
theorem wdX12_noTray : yX12_noTray.cls ≠ "java/lang/invoke/MethodHandle" ∧ yX12_noTray.cls ≠ "java/lang/invoke/VarHandle" ∧ (parseMethodDescriptor yX12_noTray.desc).map (fun d => d.parameters.length) = some 1 := ⟨pn12.1, pn12.2, pd5⟩
theorem wmX12_noTray : Cond.instanceMethod yX12_noTray ∈ GT := GT_c7 (i := 138) rfl rfl
theorem wsX12_noTray : Cond.selects yX12_noTray.cls yX12_noTray yX12_noTray ∈ GT := GT_s (i := 95) rfl rfl
theorem mlX12_315 : VL RX12 315 yX12_noTray cX12_noTray 2 (some .int) 1 := ⟨⟨GT_c7 (i := 136) rfl rfl, wmX12_noTray, wsX12_noTray, wiX12_noTray⟩, wcX12_noTray, wdX12_noTray⟩
theorem wcX12_tells : Cond.code yX12_tells cX12_tells 3 (some .int) ∈ GT := GT_c7 (i := 143) rfl rfl
theorem wiX12_tells : Cond.initialized yX12_tells.cls ∈ GT := GT_c1 (i := 13) rfl rfl
theorem wdX12_tells : yX12_tells.cls ≠ "java/lang/invoke/MethodHandle" ∧ yX12_tells.cls ≠ "java/lang/invoke/VarHandle" ∧ (parseMethodDescriptor yX12_tells.desc).map (fun d => d.parameters.length) = some 1 := ⟨pn12.1, pn12.2, pd5⟩
theorem wmX12_tells : Cond.instanceMethod yX12_tells ∈ GT := GT_c7 (i := 142) rfl rfl
theorem wsX12_tells : Cond.selects yX12_tells.cls yX12_tells yX12_tells ∈ GT := GT_s (i := 96) rfl rfl
theorem mlX12_318 : VL RX12 318 yX12_tells cX12_tells 3 (some .int) 1 := ⟨⟨GT_c7 (i := 140) rfl rfl, wmX12_tells, wsX12_tells, wiX12_tells⟩, wcX12_tells, wdX12_tells⟩
theorem wcX12_heardAll : Cond.code yX12_heardAll cX12_heardAll 3 (some .int) ∈ GT := GT_c7 (i := 162) rfl rfl
theorem wiX12_heardAll : Cond.initialized yX12_heardAll.cls ∈ GT := GT_c1 (i := 13) rfl rfl
theorem wdX12_heardAll : yX12_heardAll.cls ≠ "java/lang/invoke/MethodHandle" ∧ yX12_heardAll.cls ≠ "java/lang/invoke/VarHandle" ∧ (parseMethodDescriptor yX12_heardAll.desc).map (fun d => d.parameters.length) = some 0 := ⟨pn12.1, pn12.2, pd1⟩
theorem wmX12_heardAll : Cond.instanceMethod yX12_heardAll ∈ GT := GT_c7 (i := 161) rfl rfl
theorem wsX12_heardAll : Cond.selects yX12_heardAll.cls yX12_heardAll yX12_heardAll ∈ GT := GT_s (i := 99) rfl rfl
theorem mlX12_321 : VL RX12 321 yX12_heardAll cX12_heardAll 3 (some .int) 0 := ⟨⟨GT_c7 (i := 159) rfl rfl, wmX12_heardAll, wsX12_heardAll, wiX12_heardAll⟩, wcX12_heardAll, wdX12_heardAll⟩
theorem wcX12_isAgain : Cond.code yX12_isAgain cX12_isAgain 2 none ∈ GT := GT_c7 (i := 166) rfl rfl
theorem wiX12_isAgain : Cond.initialized yX12_isAgain.cls ∈ GT := GT_c1 (i := 13) rfl rfl
theorem wdX12_isAgain : yX12_isAgain.cls ≠ "java/lang/invoke/MethodHandle" ∧ yX12_isAgain.cls ≠ "java/lang/invoke/VarHandle" ∧ (parseMethodDescriptor yX12_isAgain.desc).map (fun d => d.parameters.length) = some 0 := ⟨pn12.1, pn12.2, pd2⟩
theorem wmX12_isAgain : Cond.instanceMethod yX12_isAgain ∈ GT := GT_c7 (i := 165) rfl rfl
theorem wsX12_isAgain : Cond.selects yX12_isAgain.cls yX12_isAgain yX12_isAgain ∈ GT := GT_s (i := 100) rfl rfl
theorem mlX12_324 : VL RX12 324 yX12_isAgain cX12_isAgain 2 none 0 := ⟨⟨GT_c7 (i := 163) rfl rfl, wmX12_isAgain, wsX12_isAgain, wiX12_isAgain⟩, wcX12_isAgain, wdX12_isAgain⟩
theorem wcX12_draw : Cond.code yX12_draw cX12_draw 2 (some .int) ∈ GT := GT_c7 (i := 183) rfl rfl
theorem wiX12_draw : Cond.initialized yX12_draw.cls ∈ GT := GT_c1 (i := 13) rfl rfl
theorem wdX12_draw : yX12_draw.cls ≠ "java/lang/invoke/MethodHandle" ∧ yX12_draw.cls ≠ "java/lang/invoke/VarHandle" ∧ (parseMethodDescriptor yX12_draw.desc).map (fun d => d.parameters.length) = some 1 := ⟨pn12.1, pn12.2, pd5⟩
theorem wmX12_draw : Cond.instanceMethod yX12_draw ∈ GT := GT_c7 (i := 182) rfl rfl
theorem wsX12_draw : Cond.selects yX12_draw.cls yX12_draw yX12_draw ∈ GT := GT_s (i := 102) rfl rfl
theorem mlX12_328 : VL RX12 328 yX12_draw cX12_draw 2 (some .int) 1 := ⟨⟨GT_c7 (i := 180) rfl rfl, wmX12_draw, wsX12_draw, wiX12_draw⟩, wcX12_draw, wdX12_draw⟩
theorem wcX12_drawn : Cond.code yX12_drawn cX12_drawn 3 (some .int) ∈ GT := GT_c7 (i := 179) rfl rfl
theorem wiX12_drawn : Cond.initialized yX12_drawn.cls ∈ GT := GT_c1 (i := 13) rfl rfl
theorem wdX12_drawn : yX12_drawn.cls ≠ "java/lang/invoke/MethodHandle" ∧ yX12_drawn.cls ≠ "java/lang/invoke/VarHandle" ∧ (parseMethodDescriptor yX12_drawn.desc).map (fun d => d.parameters.length) = some 0 := ⟨pn12.1, pn12.2, pd1⟩
theorem wmX12_drawn : Cond.instanceMethod yX12_drawn ∈ GT := GT_c7 (i := 178) rfl rfl
theorem wsX12_drawn : Cond.selects yX12_drawn.cls yX12_drawn yX12_drawn ∈ GT := GT_s (i := 101) rfl rfl
theorem mlX12_333 : VL RX12 333 yX12_drawn cX12_drawn 3 (some .int) 0 := ⟨⟨GT_c7 (i := 176) rfl rfl, wmX12_drawn, wsX12_drawn, wiX12_drawn⟩, wcX12_drawn, wdX12_drawn⟩
theorem wcX12_goesHours : Cond.code yX12_goesHours cX12_goesHours 3 none ∈ GT := GT_c7 (i := 200) rfl rfl
theorem wiX12_goesHours : Cond.initialized yX12_goesHours.cls ∈ GT := GT_c1 (i := 13) rfl rfl
theorem wdX12_goesHours : yX12_goesHours.cls ≠ "java/lang/invoke/MethodHandle" ∧ yX12_goesHours.cls ≠ "java/lang/invoke/VarHandle" ∧ (parseMethodDescriptor yX12_goesHours.desc).map (fun d => d.parameters.length) = some 1 := ⟨pn12.1, pn12.2, pd6⟩
theorem wmX12_goesHours : Cond.instanceMethod yX12_goesHours ∈ GT := GT_c7 (i := 199) rfl rfl
theorem wsX12_goesHours : Cond.selects yX12_goesHours.cls yX12_goesHours yX12_goesHours ∈ GT := GT_s (i := 103) rfl rfl
theorem mlX12_336 : VL RX12 336 yX12_goesHours cX12_goesHours 3 none 1 := ⟨⟨GT_c7 (i := 197) rfl rfl, wmX12_goesHours, wsX12_goesHours, wiX12_goesHours⟩, wcX12_goesHours, wdX12_goesHours⟩
theorem wcX12_bitsOf : Cond.code yX12_bitsOf cX12_bitsOf 3 (some .int) ∈ GT := GT_c7 (i := 207) rfl rfl
theorem wiX12_bitsOf : Cond.initialized yX12_bitsOf.cls ∈ GT := GT_c1 (i := 13) rfl rfl
theorem wdX12_bitsOf : yX12_bitsOf.cls ≠ "java/lang/invoke/MethodHandle" ∧ yX12_bitsOf.cls ≠ "java/lang/invoke/VarHandle" ∧ (parseMethodDescriptor yX12_bitsOf.desc).map (fun d => d.parameters.length) = some 1 := ⟨pn12.1, pn12.2, pd5⟩
theorem wmX12_bitsOf : Cond.static yX12_bitsOf ∈ GT := GT_c7 (i := 206) rfl rfl
theorem mlX12_339 : SL RX12 339 yX12_bitsOf cX12_bitsOf 3 (some .int) 1 := ⟨⟨GT_c7 (i := 205) rfl rfl, wmX12_bitsOf, wiX12_bitsOf⟩, wcX12_bitsOf, wdX12_bitsOf⟩
theorem wcX12_calls : Cond.code yX12_calls cX12_calls 4 none ∈ GT := GT_c7 (i := 223) rfl rfl
theorem wiX12_calls : Cond.initialized yX12_calls.cls ∈ GT := GT_c1 (i := 13) rfl rfl
theorem wdX12_calls : yX12_calls.cls ≠ "java/lang/invoke/MethodHandle" ∧ yX12_calls.cls ≠ "java/lang/invoke/VarHandle" ∧ (parseMethodDescriptor yX12_calls.desc).map (fun d => d.parameters.length) = some 3 := ⟨pn12.1, pn12.2, pd12⟩
theorem wmX12_calls : Cond.instanceMethod yX12_calls ∈ GT := GT_c7 (i := 222) rfl rfl
theorem wsX12_calls : Cond.selects yX12_calls.cls yX12_calls yX12_calls ∈ GT := GT_s (i := 105) rfl rfl
theorem mlX12_342 : VL RX12 342 yX12_calls cX12_calls 4 none 3 := ⟨⟨GT_c7 (i := 220) rfl rfl, wmX12_calls, wsX12_calls, wiX12_calls⟩, wcX12_calls, wdX12_calls⟩
theorem wcX12_isSoon : Cond.code yX12_isSoon cX12_isSoon 1 (some .boolean) ∈ GT := GT_c7 (i := 215) rfl rfl
theorem wiX12_isSoon : Cond.initialized yX12_isSoon.cls ∈ GT := GT_c1 (i := 13) rfl rfl
theorem wdX12_isSoon : yX12_isSoon.cls ≠ "java/lang/invoke/MethodHandle" ∧ yX12_isSoon.cls ≠ "java/lang/invoke/VarHandle" ∧ (parseMethodDescriptor yX12_isSoon.desc).map (fun d => d.parameters.length) = some 1 := ⟨pn12.1, pn12.2, pd7⟩
theorem wmX12_isSoon : Cond.static yX12_isSoon ∈ GT := GT_c7 (i := 214) rfl rfl
theorem mlX12_348 : SL RX12 348 yX12_isSoon cX12_isSoon 1 (some .boolean) 1 := ⟨⟨GT_c7 (i := 213) rfl rfl, wmX12_isSoon, wiX12_isSoon⟩, wcX12_isSoon, wdX12_isSoon⟩
theorem wcX12_hearersOf : Cond.code yX12_hearersOf cX12_hearersOf 5 (some .int) ∈ GT := GT_c7 (i := 219) rfl rfl
theorem wiX12_hearersOf : Cond.initialized yX12_hearersOf.cls ∈ GT := GT_c1 (i := 13) rfl rfl
theorem wdX12_hearersOf : yX12_hearersOf.cls ≠ "java/lang/invoke/MethodHandle" ∧ yX12_hearersOf.cls ≠ "java/lang/invoke/VarHandle" ∧ (parseMethodDescriptor yX12_hearersOf.desc).map (fun d => d.parameters.length) = some 3 := ⟨pn12.1, pn12.2, pd11⟩
theorem wmX12_hearersOf : Cond.instanceMethod yX12_hearersOf ∈ GT := GT_c7 (i := 218) rfl rfl
theorem wsX12_hearersOf : Cond.selects yX12_hearersOf.cls yX12_hearersOf yX12_hearersOf ∈ GT := GT_s (i := 104) rfl rfl
theorem mlX12_351 : VL RX12 351 yX12_hearersOf cX12_hearersOf 5 (some .int) 3 := ⟨⟨GT_c7 (i := 216) rfl rfl, wmX12_hearersOf, wsX12_hearersOf, wiX12_hearersOf⟩, wcX12_hearersOf, wdX12_hearersOf⟩
theorem wcX12_isWithout : Cond.code yX12_isWithout cX12_isWithout 8 (some .boolean) ∈ GT := GT_c8 (i := 15) rfl rfl
theorem wiX12_isWithout : Cond.initialized yX12_isWithout.cls ∈ GT := GT_c1 (i := 13) rfl rfl
theorem wdX12_isWithout : yX12_isWithout.cls ≠ "java/lang/invoke/MethodHandle" ∧ yX12_isWithout.cls ≠ "java/lang/invoke/VarHandle" ∧ (parseMethodDescriptor yX12_isWithout.desc).map (fun d => d.parameters.length) = some 5 := ⟨pn12.1, pn12.2, pd20⟩
theorem wmX12_isWithout : Cond.instanceMethod yX12_isWithout ∈ GT := GT_c8 (i := 14) rfl rfl
theorem wsX12_isWithout : Cond.selects yX12_isWithout.cls yX12_isWithout yX12_isWithout ∈ GT := GT_s (i := 108) rfl rfl
theorem mlX12_354 : VL RX12 354 yX12_isWithout cX12_isWithout 8 (some .boolean) 5 := ⟨⟨GT_c8 (i := 12) rfl rfl, wmX12_isWithout, wsX12_isWithout, wiX12_isWithout⟩, wcX12_isWithout, wdX12_isWithout⟩
theorem wcX12_isHearer : Cond.code yX12_isHearer cX12_isHearer 4 (some .boolean) ∈ GT := GT_c8 (i := 19) rfl rfl
theorem wiX12_isHearer : Cond.initialized yX12_isHearer.cls ∈ GT := GT_c1 (i := 13) rfl rfl
theorem wdX12_isHearer : yX12_isHearer.cls ≠ "java/lang/invoke/MethodHandle" ∧ yX12_isHearer.cls ≠ "java/lang/invoke/VarHandle" ∧ (parseMethodDescriptor yX12_isHearer.desc).map (fun d => d.parameters.length) = some 3 := ⟨pn12.1, pn12.2, pd13⟩
theorem wmX12_isHearer : Cond.instanceMethod yX12_isHearer ∈ GT := GT_c8 (i := 18) rfl rfl
theorem wsX12_isHearer : Cond.selects yX12_isHearer.cls yX12_isHearer yX12_isHearer ∈ GT := GT_s (i := 109) rfl rfl
theorem mlX12_358 : VL RX12 358 yX12_isHearer cX12_isHearer 4 (some .boolean) 3 := ⟨⟨GT_c8 (i := 16) rfl rfl, wmX12_isHearer, wsX12_isHearer, wiX12_isHearer⟩, wcX12_isHearer, wdX12_isHearer⟩
theorem wcX12_fewestFor : Cond.code yX12_fewestFor cX12_fewestFor 7 (some .int) ∈ GT := GT_c8 (i := 11) rfl rfl
theorem wiX12_fewestFor : Cond.initialized yX12_fewestFor.cls ∈ GT := GT_c1 (i := 13) rfl rfl
theorem wdX12_fewestFor : yX12_fewestFor.cls ≠ "java/lang/invoke/MethodHandle" ∧ yX12_fewestFor.cls ≠ "java/lang/invoke/VarHandle" ∧ (parseMethodDescriptor yX12_fewestFor.desc).map (fun d => d.parameters.length) = some 4 := ⟨pn12.1, pn12.2, pd18⟩
theorem wmX12_fewestFor : Cond.instanceMethod yX12_fewestFor ∈ GT := GT_c8 (i := 10) rfl rfl
theorem wsX12_fewestFor : Cond.selects yX12_fewestFor.cls yX12_fewestFor yX12_fewestFor ∈ GT := GT_s (i := 107) rfl rfl
theorem mlX12_362 : VL RX12 362 yX12_fewestFor cX12_fewestFor 7 (some .int) 4 := ⟨⟨GT_c8 (i := 8) rfl rfl, wmX12_fewestFor, wsX12_fewestFor, wiX12_fewestFor⟩, wcX12_fewestFor, wdX12_fewestFor⟩
theorem wcX12_without : Cond.code yX12_without cX12_without 7 (some .int) ∈ GT := GT_c8 (i := 7) rfl rfl
theorem wiX12_without : Cond.initialized yX12_without.cls ∈ GT := GT_c1 (i := 13) rfl rfl
theorem wdX12_without : yX12_without.cls ≠ "java/lang/invoke/MethodHandle" ∧ yX12_without.cls ≠ "java/lang/invoke/VarHandle" ∧ (parseMethodDescriptor yX12_without.desc).map (fun d => d.parameters.length) = some 5 := ⟨pn12.1, pn12.2, pd16⟩
theorem wmX12_without : Cond.instanceMethod yX12_without ∈ GT := GT_c8 (i := 6) rfl rfl
theorem wsX12_without : Cond.selects yX12_without.cls yX12_without yX12_without ∈ GT := GT_s (i := 106) rfl rfl
theorem mlX12_366 : VL RX12 366 yX12_without cX12_without 7 (some .int) 5 := ⟨⟨GT_c8 (i := 4) rfl rfl, wmX12_without, wsX12_without, wiX12_without⟩, wcX12_without, wdX12_without⟩
theorem wcX12_seenBy : Cond.code yX12_seenBy cX12_seenBy 4 (some .int) ∈ GT := GT_c8 (i := 43) rfl rfl
theorem wiX12_seenBy : Cond.initialized yX12_seenBy.cls ∈ GT := GT_c1 (i := 13) rfl rfl
theorem wdX12_seenBy : yX12_seenBy.cls ≠ "java/lang/invoke/MethodHandle" ∧ yX12_seenBy.cls ≠ "java/lang/invoke/VarHandle" ∧ (parseMethodDescriptor yX12_seenBy.desc).map (fun d => d.parameters.length) = some 1 := ⟨pn12.1, pn12.2, pd5⟩
theorem wmX12_seenBy : Cond.instanceMethod yX12_seenBy ∈ GT := GT_c8 (i := 42) rfl rfl
theorem wsX12_seenBy : Cond.selects yX12_seenBy.cls yX12_seenBy yX12_seenBy ∈ GT := GT_s (i := 112) rfl rfl
theorem mlX12_370 : VL RX12 370 yX12_seenBy cX12_seenBy 4 (some .int) 1 := ⟨⟨GT_c8 (i := 40) rfl rfl, wmX12_seenBy, wsX12_seenBy, wiX12_seenBy⟩, wcX12_seenBy, wdX12_seenBy⟩
theorem wcX12_laysComes : Cond.code yX12_laysComes cX12_laysComes 3 none ∈ GT := GT_c8 (i := 35) rfl rfl
theorem wiX12_laysComes : Cond.initialized yX12_laysComes.cls ∈ GT := GT_c1 (i := 13) rfl rfl
theorem wdX12_laysComes : yX12_laysComes.cls ≠ "java/lang/invoke/MethodHandle" ∧ yX12_laysComes.cls ≠ "java/lang/invoke/VarHandle" ∧ (parseMethodDescriptor yX12_laysComes.desc).map (fun d => d.parameters.length) = some 1 := ⟨pn12.1, pn12.2, pd6⟩
theorem wmX12_laysComes : Cond.instanceMethod yX12_laysComes ∈ GT := GT_c8 (i := 34) rfl rfl
theorem wsX12_laysComes : Cond.selects yX12_laysComes.cls yX12_laysComes yX12_laysComes ∈ GT := GT_s (i := 110) rfl rfl
theorem mlX12_373 : VL RX12 373 yX12_laysComes cX12_laysComes 3 none 1 := ⟨⟨GT_c8 (i := 32) rfl rfl, wmX12_laysComes, wsX12_laysComes, wiX12_laysComes⟩, wcX12_laysComes, wdX12_laysComes⟩
theorem wcX12_bestSpies : Cond.code yX12_bestSpies cX12_bestSpies 4 (some .int) ∈ GT := GT_c8 (i := 39) rfl rfl
theorem wiX12_bestSpies : Cond.initialized yX12_bestSpies.cls ∈ GT := GT_c1 (i := 13) rfl rfl
theorem wdX12_bestSpies : yX12_bestSpies.cls ≠ "java/lang/invoke/MethodHandle" ∧ yX12_bestSpies.cls ≠ "java/lang/invoke/VarHandle" ∧ (parseMethodDescriptor yX12_bestSpies.desc).map (fun d => d.parameters.length) = some 1 := ⟨pn12.1, pn12.2, pd5⟩
theorem wmX12_bestSpies : Cond.instanceMethod yX12_bestSpies ∈ GT := GT_c8 (i := 38) rfl rfl
theorem wsX12_bestSpies : Cond.selects yX12_bestSpies.cls yX12_bestSpies yX12_bestSpies ∈ GT := GT_s (i := 111) rfl rfl
theorem mlX12_376 : VL RX12 376 yX12_bestSpies cX12_bestSpies 4 (some .int) 1 := ⟨⟨GT_c8 (i := 36) rfl rfl, wmX12_bestSpies, wsX12_bestSpies, wiX12_bestSpies⟩, wcX12_bestSpies, wdX12_bestSpies⟩
theorem wcX12_isHeard : Cond.code yX12_isHeard cX12_isHeard 3 (some .boolean) ∈ GT := GT_c8 (i := 55) rfl rfl
theorem wiX12_isHeard : Cond.initialized yX12_isHeard.cls ∈ GT := GT_c1 (i := 13) rfl rfl
theorem wdX12_isHeard : yX12_isHeard.cls ≠ "java/lang/invoke/MethodHandle" ∧ yX12_isHeard.cls ≠ "java/lang/invoke/VarHandle" ∧ (parseMethodDescriptor yX12_isHeard.desc).map (fun d => d.parameters.length) = some 2 := ⟨pn12.1, pn12.2, pd10⟩
theorem wmX12_isHeard : Cond.instanceMethod yX12_isHeard ∈ GT := GT_c8 (i := 54) rfl rfl
theorem wsX12_isHeard : Cond.selects yX12_isHeard.cls yX12_isHeard yX12_isHeard ∈ GT := GT_s (i := 113) rfl rfl
theorem mlX12_379 : VL RX12 379 yX12_isHeard cX12_isHeard 3 (some .boolean) 2 := ⟨⟨GT_c8 (i := 52) rfl rfl, wmX12_isHeard, wsX12_isHeard, wiX12_isHeard⟩, wcX12_isHeard, wdX12_isHeard⟩
theorem wcX12_mutualMany : Cond.code yX12_mutualMany cX12_mutualMany 4 (some .int) ∈ GT := GT_c8 (i := 63) rfl rfl
theorem wiX12_mutualMany : Cond.initialized yX12_mutualMany.cls ∈ GT := GT_c1 (i := 13) rfl rfl
theorem wdX12_mutualMany : yX12_mutualMany.cls ≠ "java/lang/invoke/MethodHandle" ∧ yX12_mutualMany.cls ≠ "java/lang/invoke/VarHandle" ∧ (parseMethodDescriptor yX12_mutualMany.desc).map (fun d => d.parameters.length) = some 0 := ⟨pn12.1, pn12.2, pd1⟩
theorem wmX12_mutualMany : Cond.instanceMethod yX12_mutualMany ∈ GT := GT_c8 (i := 62) rfl rfl
theorem wsX12_mutualMany : Cond.selects yX12_mutualMany.cls yX12_mutualMany yX12_mutualMany ∈ GT := GT_s (i := 114) rfl rfl
theorem mlX12_383 : VL RX12 383 yX12_mutualMany cX12_mutualMany 4 (some .int) 0 := ⟨⟨GT_c8 (i := 60) rfl rfl, wmX12_mutualMany, wsX12_mutualMany, wiX12_mutualMany⟩, wcX12_mutualMany, wdX12_mutualMany⟩
theorem wcX12_slipsOf : Cond.code yX12_slipsOf cX12_slipsOf 5 (some .int) ∈ GT := GT_c8 (i := 88) rfl rfl
theorem wiX12_slipsOf : Cond.initialized yX12_slipsOf.cls ∈ GT := GT_c1 (i := 13) rfl rfl
theorem wdX12_slipsOf : yX12_slipsOf.cls ≠ "java/lang/invoke/MethodHandle" ∧ yX12_slipsOf.cls ≠ "java/lang/invoke/VarHandle" ∧ (parseMethodDescriptor yX12_slipsOf.desc).map (fun d => d.parameters.length) = some 2 := ⟨pn12.1, pn12.2, pd8⟩
theorem wmX12_slipsOf : Cond.instanceMethod yX12_slipsOf ∈ GT := GT_c8 (i := 87) rfl rfl
theorem wsX12_slipsOf : Cond.selects yX12_slipsOf.cls yX12_slipsOf yX12_slipsOf ∈ GT := GT_s (i := 117) rfl rfl
theorem mlX12_388 : VL RX12 388 yX12_slipsOf cX12_slipsOf 5 (some .int) 2 := ⟨⟨GT_c8 (i := 85) rfl rfl, wmX12_slipsOf, wsX12_slipsOf, wiX12_slipsOf⟩, wcX12_slipsOf, wdX12_slipsOf⟩
theorem wcX12_noHeard : Cond.code yX12_noHeard cX12_noHeard 3 (some .int) ∈ GT := GT_c8 (i := 79) rfl rfl
theorem wiX12_noHeard : Cond.initialized yX12_noHeard.cls ∈ GT := GT_c1 (i := 13) rfl rfl
theorem wdX12_noHeard : yX12_noHeard.cls ≠ "java/lang/invoke/MethodHandle" ∧ yX12_noHeard.cls ≠ "java/lang/invoke/VarHandle" ∧ (parseMethodDescriptor yX12_noHeard.desc).map (fun d => d.parameters.length) = some 1 := ⟨pn12.1, pn12.2, pd5⟩
theorem wmX12_noHeard : Cond.instanceMethod yX12_noHeard ∈ GT := GT_c8 (i := 78) rfl rfl
theorem wsX12_noHeard : Cond.selects yX12_noHeard.cls yX12_noHeard yX12_noHeard ∈ GT := GT_s (i := 115) rfl rfl
theorem mlX12_391 : VL RX12 391 yX12_noHeard cX12_noHeard 3 (some .int) 1 := ⟨⟨GT_c8 (i := 76) rfl rfl, wmX12_noHeard, wsX12_noHeard, wiX12_noHeard⟩, wcX12_noHeard, wdX12_noHeard⟩
theorem wcX12_fitting : Cond.code yX12_fitting cX12_fitting 4 (some .int) ∈ GT := GT_c8 (i := 84) rfl rfl
theorem wiX12_fitting : Cond.initialized yX12_fitting.cls ∈ GT := GT_c1 (i := 13) rfl rfl
theorem wdX12_fitting : yX12_fitting.cls ≠ "java/lang/invoke/MethodHandle" ∧ yX12_fitting.cls ≠ "java/lang/invoke/VarHandle" ∧ (parseMethodDescriptor yX12_fitting.desc).map (fun d => d.parameters.length) = some 1 := ⟨pn12.1, pn12.2, pd5⟩
theorem wmX12_fitting : Cond.instanceMethod yX12_fitting ∈ GT := GT_c8 (i := 83) rfl rfl
theorem wsX12_fitting : Cond.selects yX12_fitting.cls yX12_fitting yX12_fitting ∈ GT := GT_s (i := 116) rfl rfl
theorem mlX12_394 : VL RX12 394 yX12_fitting cX12_fitting 4 (some .int) 1 := ⟨⟨GT_c8 (i := 81) rfl rfl, wmX12_fitting, wsX12_fitting, wiX12_fitting⟩, wcX12_fitting, wdX12_fitting⟩
theorem wcX12_mostAlike : Cond.code yX12_mostAlike cX12_mostAlike 7 (some .int) ∈ GT := GT_c8 (i := 104) rfl rfl
theorem wiX12_mostAlike : Cond.initialized yX12_mostAlike.cls ∈ GT := GT_c1 (i := 13) rfl rfl
theorem wdX12_mostAlike : yX12_mostAlike.cls ≠ "java/lang/invoke/MethodHandle" ∧ yX12_mostAlike.cls ≠ "java/lang/invoke/VarHandle" ∧ (parseMethodDescriptor yX12_mostAlike.desc).map (fun d => d.parameters.length) = some 2 := ⟨pn12.1, pn12.2, pd8⟩
theorem wmX12_mostAlike : Cond.instanceMethod yX12_mostAlike ∈ GT := GT_c8 (i := 103) rfl rfl
theorem wsX12_mostAlike : Cond.selects yX12_mostAlike.cls yX12_mostAlike yX12_mostAlike ∈ GT := GT_s (i := 118) rfl rfl
theorem mlX12_397 : VL RX12 397 yX12_mostAlike cX12_mostAlike 7 (some .int) 2 := ⟨⟨GT_c8 (i := 101) rfl rfl, wmX12_mostAlike, wsX12_mostAlike, wiX12_mostAlike⟩, wcX12_mostAlike, wdX12_mostAlike⟩
theorem wcX12_unlikeOf : Cond.code yX12_unlikeOf cX12_unlikeOf 5 (some .int) ∈ GT := GT_c8 (i := 112) rfl rfl
theorem wiX12_unlikeOf : Cond.initialized yX12_unlikeOf.cls ∈ GT := GT_c1 (i := 13) rfl rfl
theorem wdX12_unlikeOf : yX12_unlikeOf.cls ≠ "java/lang/invoke/MethodHandle" ∧ yX12_unlikeOf.cls ≠ "java/lang/invoke/VarHandle" ∧ (parseMethodDescriptor yX12_unlikeOf.desc).map (fun d => d.parameters.length) = some 2 := ⟨pn12.1, pn12.2, pd8⟩
theorem wmX12_unlikeOf : Cond.instanceMethod yX12_unlikeOf ∈ GT := GT_c8 (i := 111) rfl rfl
theorem wsX12_unlikeOf : Cond.selects yX12_unlikeOf.cls yX12_unlikeOf yX12_unlikeOf ∈ GT := GT_s (i := 119) rfl rfl
theorem mlX12_400 : VL RX12 400 yX12_unlikeOf cX12_unlikeOf 5 (some .int) 2 := ⟨⟨GT_c8 (i := 109) rfl rfl, wmX12_unlikeOf, wsX12_unlikeOf, wiX12_unlikeOf⟩, wcX12_unlikeOf, wdX12_unlikeOf⟩
theorem wcX12_goesPairs : Cond.code yX12_goesPairs cX12_goesPairs 6 none ∈ GT := GT_c8 (i := 120) rfl rfl
theorem wiX12_goesPairs : Cond.initialized yX12_goesPairs.cls ∈ GT := GT_c1 (i := 13) rfl rfl
theorem wdX12_goesPairs : yX12_goesPairs.cls ≠ "java/lang/invoke/MethodHandle" ∧ yX12_goesPairs.cls ≠ "java/lang/invoke/VarHandle" ∧ (parseMethodDescriptor yX12_goesPairs.desc).map (fun d => d.parameters.length) = some 3 := ⟨pn12.1, pn12.2, pd32⟩
theorem wmX12_goesPairs : Cond.instanceMethod yX12_goesPairs ∈ GT := GT_c8 (i := 119) rfl rfl
theorem wsX12_goesPairs : Cond.selects yX12_goesPairs.cls yX12_goesPairs yX12_goesPairs ∈ GT := GT_s (i := 120) rfl rfl
theorem mlX12_406 : VL RX12 406 yX12_goesPairs cX12_goesPairs 6 none 3 := ⟨⟨GT_c8 (i := 117) rfl rfl, wmX12_goesPairs, wsX12_goesPairs, wiX12_goesPairs⟩, wcX12_goesPairs, wdX12_goesPairs⟩
theorem wcX12_cut : Cond.code yX12_cut cX12_cut 3 (some .long) ∈ GT := GT_c8 (i := 133) rfl rfl
theorem wiX12_cut : Cond.initialized yX12_cut.cls ∈ GT := GT_c1 (i := 13) rfl rfl
theorem wdX12_cut : yX12_cut.cls ≠ "java/lang/invoke/MethodHandle" ∧ yX12_cut.cls ≠ "java/lang/invoke/VarHandle" ∧ (parseMethodDescriptor yX12_cut.desc).map (fun d => d.parameters.length) = some 2 := ⟨pn12.1, pn12.2, pd38⟩
theorem wmX12_cut : Cond.static yX12_cut ∈ GT := GT_c8 (i := 132) rfl rfl
theorem mlX12_414 : SL RX12 414 yX12_cut cX12_cut 3 (some .long) 2 := ⟨⟨GT_c8 (i := 131) rfl rfl, wmX12_cut, wiX12_cut⟩, wcX12_cut, wdX12_cut⟩
theorem wcJ0_coder_7d493 : Cond.code yJ0_coder_7d493 cJ0_coder_7d493 1 (some .byte) ∈ GT := GT_c2 (i := 230) rfl rfl
theorem wiJ0_coder_7d493 : Cond.initialized yJ0_coder_7d493.cls ∈ GT := GT_c1 (i := 14) rfl rfl
theorem wdJ0_coder_7d493 : yJ0_coder_7d493.cls ≠ "java/lang/invoke/MethodHandle" ∧ yJ0_coder_7d493.cls ≠ "java/lang/invoke/VarHandle" ∧ (parseMethodDescriptor yJ0_coder_7d493.desc).map (fun d => d.parameters.length) = some 0 := ⟨pn16.1, pn16.2, pd0⟩
theorem wmJ0_coder_7d493 : Cond.instanceMethod yJ0_coder_7d493 ∈ GT := GT_c2 (i := 228) rfl rfl
theorem wsJ0_coder_7d493 : Cond.selects yJ0_coder_7d493.cls yJ0_coder_7d493 yJ0_coder_7d493 ∈ GT := GT_c2 (i := 229) rfl rfl
theorem mlJ0_335 : VL RJ0 335 yJ0_coder_7d493 cJ0_coder_7d493 1 (some .byte) 0 := ⟨⟨GT_c2 (i := 227) rfl rfl, wmJ0_coder_7d493, wsJ0_coder_7d493, wiJ0_coder_7d493⟩, wcJ0_coder_7d493, wdJ0_coder_7d493⟩
theorem wcJ0_isLatin1_aae02 : Cond.code yJ0_isLatin1_aae02 cJ0_isLatin1_aae02 1 (some .boolean) ∈ GT := GT_c3 (i := 0) rfl rfl
theorem wiJ0_isLatin1_aae02 : Cond.initialized yJ0_isLatin1_aae02.cls ∈ GT := GT_c1 (i := 14) rfl rfl
theorem wdJ0_isLatin1_aae02 : yJ0_isLatin1_aae02.cls ≠ "java/lang/invoke/MethodHandle" ∧ yJ0_isLatin1_aae02.cls ≠ "java/lang/invoke/VarHandle" ∧ (parseMethodDescriptor yJ0_isLatin1_aae02.desc).map (fun d => d.parameters.length) = some 0 := ⟨pn16.1, pn16.2, pd3⟩
theorem wmJ0_isLatin1_aae02 : Cond.instanceMethod yJ0_isLatin1_aae02 ∈ GT := GT_c2 (i := 238) rfl rfl
theorem wsJ0_isLatin1_aae02 : Cond.selects yJ0_isLatin1_aae02.cls yJ0_isLatin1_aae02 yJ0_isLatin1_aae02 ∈ GT := GT_c2 (i := 239) rfl rfl
theorem mlJ0_492 : VL RJ0 492 yJ0_isLatin1_aae02 cJ0_isLatin1_aae02 1 (some .boolean) 0 := ⟨⟨GT_c2 (i := 237) rfl rfl, wmJ0_isLatin1_aae02, wsJ0_isLatin1_aae02, wiJ0_isLatin1_aae02⟩, wcJ0_isLatin1_aae02, wdJ0_isLatin1_aae02⟩
theorem wcJ1_charAt_3b067 : Cond.code yJ1_charAt_3b067 cJ1_charAt_3b067 2 (some .char) ∈ GT := GT_c3 (i := 3) rfl rfl
theorem wiJ1_charAt_3b067 : Cond.initialized yJ1_charAt_3b067.cls ∈ GT := GT_c1 (i := 15) rfl rfl
theorem wdJ1_charAt_3b067 : yJ1_charAt_3b067.cls ≠ "java/lang/invoke/MethodHandle" ∧ yJ1_charAt_3b067.cls ≠ "java/lang/invoke/VarHandle" ∧ (parseMethodDescriptor yJ1_charAt_3b067.desc).map (fun d => d.parameters.length) = some 2 := ⟨pn17.1, pn17.2, pd57⟩
theorem wmJ1_charAt_3b067 : Cond.static yJ1_charAt_3b067 ∈ GT := GT_c3 (i := 2) rfl rfl
theorem mlJ0_495 : SL RJ0 495 yJ1_charAt_3b067 cJ1_charAt_3b067 2 (some .char) 2 := ⟨⟨GT_c3 (i := 1) rfl rfl, wmJ1_charAt_3b067, wiJ1_charAt_3b067⟩, wcJ1_charAt_3b067, wdJ1_charAt_3b067⟩
theorem wcJ2_charAt_3b067 : Cond.code yJ2_charAt_3b067 cJ2_charAt_3b067 2 (some .char) ∈ GT := GT_c3 (i := 14) rfl rfl
theorem wiJ2_charAt_3b067 : Cond.initialized yJ2_charAt_3b067.cls ∈ GT := GT_c1 (i := 17) rfl rfl
theorem wdJ2_charAt_3b067 : yJ2_charAt_3b067.cls ≠ "java/lang/invoke/MethodHandle" ∧ yJ2_charAt_3b067.cls ≠ "java/lang/invoke/VarHandle" ∧ (parseMethodDescriptor yJ2_charAt_3b067.desc).map (fun d => d.parameters.length) = some 2 := ⟨pn18.1, pn18.2, pd57⟩
theorem wmJ2_charAt_3b067 : Cond.static yJ2_charAt_3b067 ∈ GT := GT_c3 (i := 13) rfl rfl
theorem mlJ0_498 : SL RJ0 498 yJ2_charAt_3b067 cJ2_charAt_3b067 2 (some .char) 2 := ⟨⟨GT_c3 (i := 12) rfl rfl, wmJ2_charAt_3b067, wiJ2_charAt_3b067⟩, wcJ2_charAt_3b067, wdJ2_charAt_3b067⟩
theorem mlJ0_505 : VL RJ0 505 yJ0_length_8abf5 cJ0_length_8abf5 1 (some .int) 0 := ⟨⟨GT_c3 (i := 47) rfl rfl, wmJ0_length_8abf5, wsJ0_length_8abf5, wiJ0_length_8abf5⟩, wcJ0_length_8abf5, wdJ0_length_8abf5⟩
theorem wcJ0_indexOf_7cf53 : Cond.code yJ0_indexOf_7cf53 cJ0_indexOf_7cf53 3 (some .int) ∈ GT := GT_c3 (i := 46) rfl rfl
theorem wiJ0_indexOf_7cf53 : Cond.initialized yJ0_indexOf_7cf53.cls ∈ GT := GT_c1 (i := 14) rfl rfl
theorem wdJ0_indexOf_7cf53 : yJ0_indexOf_7cf53.cls ≠ "java/lang/invoke/MethodHandle" ∧ yJ0_indexOf_7cf53.cls ≠ "java/lang/invoke/VarHandle" ∧ (parseMethodDescriptor yJ0_indexOf_7cf53.desc).map (fun d => d.parameters.length) = some 2 := ⟨pn16.1, pn16.2, pd8⟩
theorem wmJ0_indexOf_7cf53 : Cond.instanceMethod yJ0_indexOf_7cf53 ∈ GT := GT_c3 (i := 44) rfl rfl
theorem wsJ0_indexOf_7cf53 : Cond.selects yJ0_indexOf_7cf53.cls yJ0_indexOf_7cf53 yJ0_indexOf_7cf53 ∈ GT := GT_c3 (i := 45) rfl rfl
theorem mlJ0_633 : VL RJ0 633 yJ0_indexOf_7cf53 cJ0_indexOf_7cf53 3 (some .int) 2 := ⟨⟨GT_c3 (i := 43) rfl rfl, wmJ0_indexOf_7cf53, wsJ0_indexOf_7cf53, wiJ0_indexOf_7cf53⟩, wcJ0_indexOf_7cf53, wdJ0_indexOf_7cf53⟩
theorem wcJ1_indexOf_4cfef : Cond.code yJ1_indexOf_4cfef cJ1_indexOf_4cfef 4 (some .int) ∈ GT := GT_c3 (i := 50) rfl rfl
theorem wiJ1_indexOf_4cfef : Cond.initialized yJ1_indexOf_4cfef.cls ∈ GT := GT_c1 (i := 15) rfl rfl
theorem wdJ1_indexOf_4cfef : yJ1_indexOf_4cfef.cls ≠ "java/lang/invoke/MethodHandle" ∧ yJ1_indexOf_4cfef.cls ≠ "java/lang/invoke/VarHandle" ∧ (parseMethodDescriptor yJ1_indexOf_4cfef.desc).map (fun d => d.parameters.length) = some 4 := ⟨pn17.1, pn17.2, pd61⟩
theorem wmJ1_indexOf_4cfef : Cond.static yJ1_indexOf_4cfef ∈ GT := GT_c3 (i := 49) rfl rfl
theorem mlJ0_637 : SL RJ0 637 yJ1_indexOf_4cfef cJ1_indexOf_4cfef 4 (some .int) 4 := ⟨⟨GT_c3 (i := 48) rfl rfl, wmJ1_indexOf_4cfef, wiJ1_indexOf_4cfef⟩, wcJ1_indexOf_4cfef, wdJ1_indexOf_4cfef⟩
theorem wcJ2_indexOf_4cfef : Cond.code yJ2_indexOf_4cfef cJ2_indexOf_4cfef 4 (some .int) ∈ GT := GT_c3 (i := 65) rfl rfl
theorem wiJ2_indexOf_4cfef : Cond.initialized yJ2_indexOf_4cfef.cls ∈ GT := GT_c1 (i := 17) rfl rfl
theorem wdJ2_indexOf_4cfef : yJ2_indexOf_4cfef.cls ≠ "java/lang/invoke/MethodHandle" ∧ yJ2_indexOf_4cfef.cls ≠ "java/lang/invoke/VarHandle" ∧ (parseMethodDescriptor yJ2_indexOf_4cfef.desc).map (fun d => d.parameters.length) = some 4 := ⟨pn18.1, pn18.2, pd61⟩
theorem wmJ2_indexOf_4cfef : Cond.static yJ2_indexOf_4cfef ∈ GT := GT_c3 (i := 64) rfl rfl
theorem mlJ0_640 : SL RJ0 640 yJ2_indexOf_4cfef cJ2_indexOf_4cfef 4 (some .int) 4 := ⟨⟨GT_c3 (i := 63) rfl rfl, wmJ2_indexOf_4cfef, wiJ2_indexOf_4cfef⟩, wcJ2_indexOf_4cfef, wdJ2_indexOf_4cfef⟩
theorem wcJ3_checkIndex_8e157 : Cond.code yJ3_checkIndex_8e157 cJ3_checkIndex_8e157 3 (some .int) ∈ GT := GT_c3 (i := 11) rfl rfl
theorem wiJ3_checkIndex_8e157 : Cond.initialized yJ3_checkIndex_8e157.cls ∈ GT := GT_c1 (i := 16) rfl rfl
theorem wdJ3_checkIndex_8e157 : yJ3_checkIndex_8e157.cls ≠ "java/lang/invoke/MethodHandle" ∧ yJ3_checkIndex_8e157.cls ≠ "java/lang/invoke/VarHandle" ∧ (parseMethodDescriptor yJ3_checkIndex_8e157.desc).map (fun d => d.parameters.length) = some 3 := ⟨pn20.1, pn20.2, pd23⟩
theorem wmJ3_checkIndex_8e157 : Cond.static yJ3_checkIndex_8e157 ∈ GT := GT_c3 (i := 10) rfl rfl
theorem mlJ0_1059 : SL RJ0 1059 yJ3_checkIndex_8e157 cJ3_checkIndex_8e157 3 (some .int) 3 := ⟨⟨GT_c3 (i := 9) rfl rfl, wmJ3_checkIndex_8e157, wiJ3_checkIndex_8e157⟩, wcJ3_checkIndex_8e157, wdJ3_checkIndex_8e157⟩
theorem wcJ3_checkFromToIndex_8c36e : Cond.code yJ3_checkFromToIndex_8c36e cJ3_checkFromToIndex_8c36e 4 (some .int) ∈ GT := GT_c3 (i := 80) rfl rfl
theorem wiJ3_checkFromToIndex_8c36e : Cond.initialized yJ3_checkFromToIndex_8c36e.cls ∈ GT := GT_c1 (i := 16) rfl rfl
theorem wdJ3_checkFromToIndex_8c36e : yJ3_checkFromToIndex_8c36e.cls ≠ "java/lang/invoke/MethodHandle" ∧ yJ3_checkFromToIndex_8c36e.cls ≠ "java/lang/invoke/VarHandle" ∧ (parseMethodDescriptor yJ3_checkFromToIndex_8c36e.desc).map (fun d => d.parameters.length) = some 4 := ⟨pn20.1, pn20.2, pd17⟩
theorem wmJ3_checkFromToIndex_8c36e : Cond.static yJ3_checkFromToIndex_8c36e ∈ GT := GT_c3 (i := 79) rfl rfl
theorem mlJ0_1062 : SL RJ0 1062 yJ3_checkFromToIndex_8c36e cJ3_checkFromToIndex_8c36e 4 (some .int) 4 := ⟨⟨GT_c3 (i := 78) rfl rfl, wmJ3_checkFromToIndex_8c36e, wiJ3_checkFromToIndex_8c36e⟩, wcJ3_checkFromToIndex_8c36e, wdJ3_checkFromToIndex_8c36e⟩
theorem wcJ0_checkIndex_df160 : Cond.code yJ0_checkIndex_df160 cJ0_checkIndex_df160 2 none ∈ GT := GT_c3 (i := 6) rfl rfl
theorem wiJ0_checkIndex_df160 : Cond.initialized yJ0_checkIndex_df160.cls ∈ GT := GT_c1 (i := 14) rfl rfl
theorem wdJ0_checkIndex_df160 : yJ0_checkIndex_df160.cls ≠ "java/lang/invoke/MethodHandle" ∧ yJ0_checkIndex_df160.cls ≠ "java/lang/invoke/VarHandle" ∧ (parseMethodDescriptor yJ0_checkIndex_df160.desc).map (fun d => d.parameters.length) = some 2 := ⟨pn16.1, pn16.2, pd9⟩
theorem wmJ0_checkIndex_df160 : Cond.static yJ0_checkIndex_df160 ∈ GT := GT_c3 (i := 5) rfl rfl
theorem mlJ1_9 : SL RJ1 9 yJ0_checkIndex_df160 cJ0_checkIndex_df160 2 none 2 := ⟨⟨GT_c3 (i := 4) rfl rfl, wmJ0_checkIndex_df160, wiJ0_checkIndex_df160⟩, wcJ0_checkIndex_df160, wdJ0_checkIndex_df160⟩
theorem mlJ1_38 : SL RJ1 38 yJ9_min_7cf53 cJ9_min_7cf53 2 (some .int) 2 := ⟨⟨GT_c3 (i := 57) rfl rfl, wmJ9_min_7cf53, wiJ9_min_7cf53⟩, wcJ9_min_7cf53, wdJ9_min_7cf53⟩
theorem wcJ1_canEncode_9a6ad : Cond.code yJ1_canEncode_9a6ad cJ1_canEncode_9a6ad 1 (some .boolean) ∈ GT := GT_c3 (i := 53) rfl rfl
theorem wiJ1_canEncode_9a6ad : Cond.initialized yJ1_canEncode_9a6ad.cls ∈ GT := GT_c1 (i := 15) rfl rfl
theorem wdJ1_canEncode_9a6ad : yJ1_canEncode_9a6ad.cls ≠ "java/lang/invoke/MethodHandle" ∧ yJ1_canEncode_9a6ad.cls ≠ "java/lang/invoke/VarHandle" ∧ (parseMethodDescriptor yJ1_canEncode_9a6ad.desc).map (fun d => d.parameters.length) = some 1 := ⟨pn17.1, pn17.2, pd7⟩
theorem wmJ1_canEncode_9a6ad : Cond.static yJ1_canEncode_9a6ad ∈ GT := GT_c3 (i := 52) rfl rfl
theorem mlJ1_88 : SL RJ1 88 yJ1_canEncode_9a6ad cJ1_canEncode_9a6ad 1 (some .boolean) 1 := ⟨⟨GT_c3 (i := 51) rfl rfl, wmJ1_canEncode_9a6ad, wiJ1_canEncode_9a6ad⟩, wcJ1_canEncode_9a6ad, wdJ1_canEncode_9a6ad⟩
theorem mlJ1_92 : SL RJ1 92 yJ9_max_7cf53 cJ9_max_7cf53 2 (some .int) 2 := ⟨⟨GT_c3 (i := 54) rfl rfl, wmJ9_max_7cf53, wiJ9_max_7cf53⟩, wcJ9_max_7cf53, wdJ9_max_7cf53⟩
theorem wcJ1_indexOfChar_4cfef : Cond.code yJ1_indexOfChar_4cfef cJ1_indexOfChar_4cfef 6 (some .int) ∈ GT := GT_c3 (i := 62) rfl rfl
theorem wiJ1_indexOfChar_4cfef : Cond.initialized yJ1_indexOfChar_4cfef.cls ∈ GT := GT_c1 (i := 15) rfl rfl
theorem wdJ1_indexOfChar_4cfef : yJ1_indexOfChar_4cfef.cls ≠ "java/lang/invoke/MethodHandle" ∧ yJ1_indexOfChar_4cfef.cls ≠ "java/lang/invoke/VarHandle" ∧ (parseMethodDescriptor yJ1_indexOfChar_4cfef.desc).map (fun d => d.parameters.length) = some 4 := ⟨pn17.1, pn17.2, pd61⟩
theorem wmJ1_indexOfChar_4cfef : Cond.static yJ1_indexOfChar_4cfef ∈ GT := GT_c3 (i := 61) rfl rfl
theorem mlJ1_95 : SL RJ1 95 yJ1_indexOfChar_4cfef cJ1_indexOfChar_4cfef 6 (some .int) 4 := ⟨⟨GT_c3 (i := 60) rfl rfl, wmJ1_indexOfChar_4cfef, wiJ1_indexOfChar_4cfef⟩, wcJ1_indexOfChar_4cfef, wdJ1_indexOfChar_4cfef⟩
theorem wcJ2_length_9d52b : Cond.code yJ2_length_9d52b cJ2_length_9d52b 1 (some .int) ∈ GT := GT_c3 (i := 20) rfl rfl
theorem wiJ2_length_9d52b : Cond.initialized yJ2_length_9d52b.cls ∈ GT := GT_c1 (i := 17) rfl rfl
theorem wdJ2_length_9d52b : yJ2_length_9d52b.cls ≠ "java/lang/invoke/MethodHandle" ∧ yJ2_length_9d52b.cls ≠ "java/lang/invoke/VarHandle" ∧ (parseMethodDescriptor yJ2_length_9d52b.desc).map (fun d => d.parameters.length) = some 1 := ⟨pn18.1, pn18.2, pd56⟩
theorem wmJ2_length_9d52b : Cond.static yJ2_length_9d52b ∈ GT := GT_c3 (i := 19) rfl rfl
theorem mlJ2_48 : SL RJ2 48 yJ2_length_9d52b cJ2_length_9d52b 1 (some .int) 1 := ⟨⟨GT_c3 (i := 18) rfl rfl, wmJ2_length_9d52b, wiJ2_length_9d52b⟩, wcJ2_length_9d52b, wdJ2_length_9d52b⟩
theorem wcJ2_checkIndex_2214a : Cond.code yJ2_checkIndex_2214a cJ2_checkIndex_2214a 2 none ∈ GT := GT_c3 (i := 17) rfl rfl
theorem wiJ2_checkIndex_2214a : Cond.initialized yJ2_checkIndex_2214a.cls ∈ GT := GT_c1 (i := 17) rfl rfl
theorem wdJ2_checkIndex_2214a : yJ2_checkIndex_2214a.cls ≠ "java/lang/invoke/MethodHandle" ∧ yJ2_checkIndex_2214a.cls ≠ "java/lang/invoke/VarHandle" ∧ (parseMethodDescriptor yJ2_checkIndex_2214a.desc).map (fun d => d.parameters.length) = some 2 := ⟨pn18.1, pn18.2, pd33⟩
theorem wmJ2_checkIndex_2214a : Cond.static yJ2_checkIndex_2214a ∈ GT := GT_c3 (i := 16) rfl rfl
theorem mlJ2_67 : SL RJ2 67 yJ2_checkIndex_2214a cJ2_checkIndex_2214a 2 none 2 := ⟨⟨GT_c3 (i := 15) rfl rfl, wmJ2_checkIndex_2214a, wiJ2_checkIndex_2214a⟩, wcJ2_checkIndex_2214a, wdJ2_checkIndex_2214a⟩
theorem wcJ2_getChar_3b067 : Cond.code yJ2_getChar_3b067 cJ2_getChar_3b067 2 (some .char) ∈ GT := GT_c3 (i := 24) rfl rfl
theorem wiJ2_getChar_3b067 : Cond.initialized yJ2_getChar_3b067.cls ∈ GT := GT_c1 (i := 17) rfl rfl
theorem wdJ2_getChar_3b067 : yJ2_getChar_3b067.cls ≠ "java/lang/invoke/MethodHandle" ∧ yJ2_getChar_3b067.cls ≠ "java/lang/invoke/VarHandle" ∧ (parseMethodDescriptor yJ2_getChar_3b067.desc).map (fun d => d.parameters.length) = some 2 := ⟨pn18.1, pn18.2, pd57⟩
theorem wmJ2_getChar_3b067 : Cond.static yJ2_getChar_3b067 ∈ GT := GT_c3 (i := 23) rfl rfl
theorem mlJ2_71 : SL RJ2 71 yJ2_getChar_3b067 cJ2_getChar_3b067 2 (some .char) 2 := ⟨⟨GT_c3 (i := 22) rfl rfl, wmJ2_getChar_3b067, wiJ2_getChar_3b067⟩, wcJ2_getChar_3b067, wdJ2_getChar_3b067⟩
theorem wcJ2_checkBoundsBeginEnd_d044e : Cond.code yJ2_checkBoundsBeginEnd_d044e cJ2_checkBoundsBeginEnd_d044e 3 none ∈ GT := GT_c3 (i := 74) rfl rfl
theorem wiJ2_checkBoundsBeginEnd_d044e : Cond.initialized yJ2_checkBoundsBeginEnd_d044e.cls ∈ GT := GT_c1 (i := 17) rfl rfl
theorem wdJ2_checkBoundsBeginEnd_d044e : yJ2_checkBoundsBeginEnd_d044e.cls ≠ "java/lang/invoke/MethodHandle" ∧ yJ2_checkBoundsBeginEnd_d044e.cls ≠ "java/lang/invoke/VarHandle" ∧ (parseMethodDescriptor yJ2_checkBoundsBeginEnd_d044e.desc).map (fun d => d.parameters.length) = some 3 := ⟨pn18.1, pn18.2, pd25⟩
theorem wmJ2_checkBoundsBeginEnd_d044e : Cond.static yJ2_checkBoundsBeginEnd_d044e ∈ GT := GT_c3 (i := 73) rfl rfl
theorem mlJ2_96 : SL RJ2 96 yJ2_checkBoundsBeginEnd_d044e cJ2_checkBoundsBeginEnd_d044e 3 none 3 := ⟨⟨GT_c3 (i := 72) rfl rfl, wmJ2_checkBoundsBeginEnd_d044e, wiJ2_checkBoundsBeginEnd_d044e⟩, wcJ2_checkBoundsBeginEnd_d044e, wdJ2_checkBoundsBeginEnd_d044e⟩
theorem wcJ11_highSurrogate_5068e : Cond.code yJ11_highSurrogate_5068e cJ11_highSurrogate_5068e 1 (some .char) ∈ GT := GT_c3 (i := 92) rfl rfl
theorem wiJ11_highSurrogate_5068e : Cond.initialized yJ11_highSurrogate_5068e.cls ∈ GT := GT_c1 (i := 19) rfl rfl
theorem wdJ11_highSurrogate_5068e : yJ11_highSurrogate_5068e.cls ≠ "java/lang/invoke/MethodHandle" ∧ yJ11_highSurrogate_5068e.cls ≠ "java/lang/invoke/VarHandle" ∧ (parseMethodDescriptor yJ11_highSurrogate_5068e.desc).map (fun d => d.parameters.length) = some 1 := ⟨pn13.1, pn13.2, pd4⟩
theorem wmJ11_highSurrogate_5068e : Cond.static yJ11_highSurrogate_5068e ∈ GT := GT_c3 (i := 91) rfl rfl
theorem mlJ2_157 : SL RJ2 157 yJ11_highSurrogate_5068e cJ11_highSurrogate_5068e 1 (some .char) 1 := ⟨⟨GT_c3 (i := 90) rfl rfl, wmJ11_highSurrogate_5068e, wiJ11_highSurrogate_5068e⟩, wcJ11_highSurrogate_5068e, wdJ11_highSurrogate_5068e⟩
theorem wcJ11_lowSurrogate_5068e : Cond.code yJ11_lowSurrogate_5068e cJ11_lowSurrogate_5068e 1 (some .char) ∈ GT := GT_c3 (i := 96) rfl rfl
theorem wiJ11_lowSurrogate_5068e : Cond.initialized yJ11_lowSurrogate_5068e.cls ∈ GT := GT_c1 (i := 19) rfl rfl
theorem wdJ11_lowSurrogate_5068e : yJ11_lowSurrogate_5068e.cls ≠ "java/lang/invoke/MethodHandle" ∧ yJ11_lowSurrogate_5068e.cls ≠ "java/lang/invoke/VarHandle" ∧ (parseMethodDescriptor yJ11_lowSurrogate_5068e.desc).map (fun d => d.parameters.length) = some 1 := ⟨pn13.1, pn13.2, pd4⟩
theorem wmJ11_lowSurrogate_5068e : Cond.static yJ11_lowSurrogate_5068e ∈ GT := GT_c3 (i := 95) rfl rfl
theorem mlJ2_161 : SL RJ2 161 yJ11_lowSurrogate_5068e cJ11_lowSurrogate_5068e 1 (some .char) 1 := ⟨⟨GT_c3 (i := 94) rfl rfl, wmJ11_lowSurrogate_5068e, wiJ11_lowSurrogate_5068e⟩, wcJ11_lowSurrogate_5068e, wdJ11_lowSurrogate_5068e⟩
theorem wcJ11_isValidCodePoint_9a6ad : Cond.code yJ11_isValidCodePoint_9a6ad cJ11_isValidCodePoint_9a6ad 2 (some .boolean) ∈ GT := GT_c3 (i := 89) rfl rfl
theorem wiJ11_isValidCodePoint_9a6ad : Cond.initialized yJ11_isValidCodePoint_9a6ad.cls ∈ GT := GT_c1 (i := 19) rfl rfl
theorem wdJ11_isValidCodePoint_9a6ad : yJ11_isValidCodePoint_9a6ad.cls ≠ "java/lang/invoke/MethodHandle" ∧ yJ11_isValidCodePoint_9a6ad.cls ≠ "java/lang/invoke/VarHandle" ∧ (parseMethodDescriptor yJ11_isValidCodePoint_9a6ad.desc).map (fun d => d.parameters.length) = some 1 := ⟨pn13.1, pn13.2, pd7⟩
theorem wmJ11_isValidCodePoint_9a6ad : Cond.static yJ11_isValidCodePoint_9a6ad ∈ GT := GT_c3 (i := 88) rfl rfl
theorem mlJ2_164 : SL RJ2 164 yJ11_isValidCodePoint_9a6ad cJ11_isValidCodePoint_9a6ad 2 (some .boolean) 1 := ⟨⟨GT_c3 (i := 87) rfl rfl, wmJ11_isValidCodePoint_9a6ad, wiJ11_isValidCodePoint_9a6ad⟩, wcJ11_isValidCodePoint_9a6ad, wdJ11_isValidCodePoint_9a6ad⟩
theorem mlJ2_183 : SL RJ2 183 yJ9_min_7cf53 cJ9_min_7cf53 2 (some .int) 2 := ⟨⟨GT_c3 (i := 67) rfl rfl, wmJ9_min_7cf53, wiJ9_min_7cf53⟩, wcJ9_min_7cf53, wdJ9_min_7cf53⟩
theorem mlJ2_224 : SL RJ2 224 yJ9_max_7cf53 cJ9_max_7cf53 2 (some .int) 2 := ⟨⟨GT_c3 (i := 66) rfl rfl, wmJ9_max_7cf53, wiJ9_max_7cf53⟩, wcJ9_max_7cf53, wdJ9_max_7cf53⟩
theorem wcJ2_indexOfChar_4cfef : Cond.code yJ2_indexOfChar_4cfef cJ2_indexOfChar_4cfef 4 (some .int) ∈ GT := GT_c3 (i := 71) rfl rfl
theorem wiJ2_indexOfChar_4cfef : Cond.initialized yJ2_indexOfChar_4cfef.cls ∈ GT := GT_c1 (i := 17) rfl rfl
theorem wdJ2_indexOfChar_4cfef : yJ2_indexOfChar_4cfef.cls ≠ "java/lang/invoke/MethodHandle" ∧ yJ2_indexOfChar_4cfef.cls ≠ "java/lang/invoke/VarHandle" ∧ (parseMethodDescriptor yJ2_indexOfChar_4cfef.desc).map (fun d => d.parameters.length) = some 4 := ⟨pn18.1, pn18.2, pd61⟩
theorem wmJ2_indexOfChar_4cfef : Cond.static yJ2_indexOfChar_4cfef ∈ GT := GT_c3 (i := 70) rfl rfl
theorem mlJ2_228 : SL RJ2 228 yJ2_indexOfChar_4cfef cJ2_indexOfChar_4cfef 4 (some .int) 4 := ⟨⟨GT_c3 (i := 69) rfl rfl, wmJ2_indexOfChar_4cfef, wiJ2_indexOfChar_4cfef⟩, wcJ2_indexOfChar_4cfef, wdJ2_indexOfChar_4cfef⟩
theorem wcJ2_indexOfSupplementary_4cfef : Cond.code yJ2_indexOfSupplementary_4cfef cJ2_indexOfSupplementary_4cfef 7 (some .int) ∈ GT := GT_c3 (i := 86) rfl rfl
theorem wiJ2_indexOfSupplementary_4cfef : Cond.initialized yJ2_indexOfSupplementary_4cfef.cls ∈ GT := GT_c1 (i := 17) rfl rfl
theorem wdJ2_indexOfSupplementary_4cfef : yJ2_indexOfSupplementary_4cfef.cls ≠ "java/lang/invoke/MethodHandle" ∧ yJ2_indexOfSupplementary_4cfef.cls ≠ "java/lang/invoke/VarHandle" ∧ (parseMethodDescriptor yJ2_indexOfSupplementary_4cfef.desc).map (fun d => d.parameters.length) = some 4 := ⟨pn18.1, pn18.2, pd61⟩
theorem wmJ2_indexOfSupplementary_4cfef : Cond.static yJ2_indexOfSupplementary_4cfef ∈ GT := GT_c3 (i := 85) rfl rfl
theorem mlJ2_232 : SL RJ2 232 yJ2_indexOfSupplementary_4cfef cJ2_indexOfSupplementary_4cfef 7 (some .int) 4 := ⟨⟨GT_c3 (i := 84) rfl rfl, wmJ2_indexOfSupplementary_4cfef, wiJ2_indexOfSupplementary_4cfef⟩, wcJ2_indexOfSupplementary_4cfef, wdJ2_indexOfSupplementary_4cfef⟩
theorem wcJ0_checkBoundsBeginEnd_23922 : Cond.code yJ0_checkBoundsBeginEnd_23922 cJ0_checkBoundsBeginEnd_23922 3 none ∈ GT := GT_c3 (i := 77) rfl rfl
theorem wiJ0_checkBoundsBeginEnd_23922 : Cond.initialized yJ0_checkBoundsBeginEnd_23922.cls ∈ GT := GT_c1 (i := 14) rfl rfl
theorem wdJ0_checkBoundsBeginEnd_23922 : yJ0_checkBoundsBeginEnd_23922.cls ≠ "java/lang/invoke/MethodHandle" ∧ yJ0_checkBoundsBeginEnd_23922.cls ≠ "java/lang/invoke/VarHandle" ∧ (parseMethodDescriptor yJ0_checkBoundsBeginEnd_23922.desc).map (fun d => d.parameters.length) = some 3 := ⟨pn16.1, pn16.2, pd12⟩
theorem wmJ0_checkBoundsBeginEnd_23922 : Cond.static yJ0_checkBoundsBeginEnd_23922 ∈ GT := GT_c3 (i := 76) rfl rfl
theorem mlJ2_241 : SL RJ2 241 yJ0_checkBoundsBeginEnd_23922 cJ0_checkBoundsBeginEnd_23922 3 none 3 := ⟨⟨GT_c3 (i := 75) rfl rfl, wmJ0_checkBoundsBeginEnd_23922, wiJ0_checkBoundsBeginEnd_23922⟩, wcJ0_checkBoundsBeginEnd_23922, wdJ0_checkBoundsBeginEnd_23922⟩
theorem wcJ2_indexOfCharUnsafe_4cfef : Cond.code yJ2_indexOfCharUnsafe_4cfef cJ2_indexOfCharUnsafe_4cfef 5 (some .int) ∈ GT := GT_c3 (i := 83) rfl rfl
theorem wiJ2_indexOfCharUnsafe_4cfef : Cond.initialized yJ2_indexOfCharUnsafe_4cfef.cls ∈ GT := GT_c1 (i := 17) rfl rfl
theorem wdJ2_indexOfCharUnsafe_4cfef : yJ2_indexOfCharUnsafe_4cfef.cls ≠ "java/lang/invoke/MethodHandle" ∧ yJ2_indexOfCharUnsafe_4cfef.cls ≠ "java/lang/invoke/VarHandle" ∧ (parseMethodDescriptor yJ2_indexOfCharUnsafe_4cfef.desc).map (fun d => d.parameters.length) = some 4 := ⟨pn18.1, pn18.2, pd61⟩
theorem wmJ2_indexOfCharUnsafe_4cfef : Cond.static yJ2_indexOfCharUnsafe_4cfef ∈ GT := GT_c3 (i := 82) rfl rfl
theorem mlJ2_244 : SL RJ2 244 yJ2_indexOfCharUnsafe_4cfef cJ2_indexOfCharUnsafe_4cfef 5 (some .int) 4 := ⟨⟨GT_c3 (i := 81) rfl rfl, wmJ2_indexOfCharUnsafe_4cfef, wiJ2_indexOfCharUnsafe_4cfef⟩, wcJ2_indexOfCharUnsafe_4cfef, wdJ2_indexOfCharUnsafe_4cfef⟩
theorem mlJ2_414 : SL RJ2 414 yJ0_checkIndex_df160 cJ0_checkIndex_df160 2 none 2 := ⟨⟨GT_c3 (i := 21) rfl rfl, wmJ0_checkIndex_df160, wiJ0_checkIndex_df160⟩, wcJ0_checkIndex_df160, wdJ0_checkIndex_df160⟩
theorem wcX7_init : Cond.code yX7_init cX7_init 1 none ∈ GT := GT_c1 (i := 35) rfl rfl
theorem wiX7_init : Cond.initialized yX7_init.cls ∈ GT := GT_c1 (i := 2) rfl rfl
theorem wdX7_init : yX7_init.cls ≠ "java/lang/invoke/MethodHandle" ∧ yX7_init.cls ≠ "java/lang/invoke/VarHandle" ∧ (parseMethodDescriptor yX7_init.desc).map (fun d => d.parameters.length) = some 0 := ⟨pn8.1, pn8.2, pd2⟩
theorem wmX7_init : Cond.instanceMethod yX7_init ∈ GT := GT_c1 (i := 34) rfl rfl
theorem wcX5_init : Cond.code yX5_init cX5_init 1 none ∈ GT := GT_c1 (i := 164) rfl rfl
theorem wiX5_init : Cond.initialized yX5_init.cls ∈ GT := GT_c1 (i := 4) rfl rfl
theorem wdX5_init : yX5_init.cls ≠ "java/lang/invoke/MethodHandle" ∧ yX5_init.cls ≠ "java/lang/invoke/VarHandle" ∧ (parseMethodDescriptor yX5_init.desc).map (fun d => d.parameters.length) = some 0 := ⟨pn6.1, pn6.2, pd2⟩
theorem wmX5_init : Cond.instanceMethod yX5_init ∈ GT := GT_c1 (i := 163) rfl rfl
theorem wcX8_init : Cond.code yX8_init cX8_init 1 none ∈ GT := GT_c2 (i := 0) rfl rfl
theorem wiX8_init : Cond.initialized yX8_init.cls ∈ GT := GT_c1 (i := 8) rfl rfl
theorem wdX8_init : yX8_init.cls ≠ "java/lang/invoke/MethodHandle" ∧ yX8_init.cls ≠ "java/lang/invoke/VarHandle" ∧ (parseMethodDescriptor yX8_init.desc).map (fun d => d.parameters.length) = some 0 := ⟨pn9.1, pn9.2, pd2⟩
theorem wmX8_init : Cond.instanceMethod yX8_init ∈ GT := GT_c1 (i := 239) rfl rfl
theorem wcX4_init : Cond.code yX4_init cX4_init 1 none ∈ GT := GT_c2 (i := 100) rfl rfl
theorem wiX4_init : Cond.initialized yX4_init.cls ∈ GT := GT_c1 (i := 11) rfl rfl
theorem wdX4_init : yX4_init.cls ≠ "java/lang/invoke/MethodHandle" ∧ yX4_init.cls ≠ "java/lang/invoke/VarHandle" ∧ (parseMethodDescriptor yX4_init.desc).map (fun d => d.parameters.length) = some 0 := ⟨pn5.1, pn5.2, pd2⟩
theorem wmX4_init : Cond.instanceMethod yX4_init ∈ GT := GT_c2 (i := 99) rfl rfl
theorem wcX10_init : Cond.code yX10_init cX10_init 1 none ∈ GT := GT_c2 (i := 125) rfl rfl
theorem wiX10_init : Cond.initialized yX10_init.cls ∈ GT := GT_c1 (i := 12) rfl rfl
theorem wdX10_init : yX10_init.cls ≠ "java/lang/invoke/MethodHandle" ∧ yX10_init.cls ≠ "java/lang/invoke/VarHandle" ∧ (parseMethodDescriptor yX10_init.desc).map (fun d => d.parameters.length) = some 0 := ⟨pn11.1, pn11.2, pd2⟩
theorem wmX10_init : Cond.instanceMethod yX10_init ∈ GT := GT_c2 (i := 124) rfl rfl
theorem wcX2_init : Cond.code yX2_init cX2_init 1 none ∈ GT := GT_c5 (i := 220) rfl rfl
theorem wiX2_init : Cond.initialized yX2_init.cls ∈ GT := GT_c1 (i := 22) rfl rfl
theorem wdX2_init : yX2_init.cls ≠ "java/lang/invoke/MethodHandle" ∧ yX2_init.cls ≠ "java/lang/invoke/VarHandle" ∧ (parseMethodDescriptor yX2_init.desc).map (fun d => d.parameters.length) = some 0 := ⟨pn3.1, pn3.2, pd2⟩
theorem wmX2_init : Cond.instanceMethod yX2_init ∈ GT := GT_c5 (i := 219) rfl rfl
theorem wcX9_init : Cond.code yX9_init cX9_init 1 none ∈ GT := GT_c1 (i := 172) rfl rfl
theorem wiX9_init : Cond.initialized yX9_init.cls ∈ GT := GT_c1 (i := 5) rfl rfl
theorem wdX9_init : yX9_init.cls ≠ "java/lang/invoke/MethodHandle" ∧ yX9_init.cls ≠ "java/lang/invoke/VarHandle" ∧ (parseMethodDescriptor yX9_init.desc).map (fun d => d.parameters.length) = some 0 := ⟨pn10.1, pn10.2, pd2⟩
theorem wmX9_init : Cond.instanceMethod yX9_init ∈ GT := GT_c1 (i := 171) rfl rfl
theorem wcX3_init : Cond.code yX3_init cX3_init 1 none ∈ GT := GT_c1 (i := 41) rfl rfl
theorem wiX3_init : Cond.initialized yX3_init.cls ∈ GT := GT_c1 (i := 3) rfl rfl
theorem wdX3_init : yX3_init.cls ≠ "java/lang/invoke/MethodHandle" ∧ yX3_init.cls ≠ "java/lang/invoke/VarHandle" ∧ (parseMethodDescriptor yX3_init.desc).map (fun d => d.parameters.length) = some 0 := ⟨pn4.1, pn4.2, pd2⟩
theorem wmX3_init : Cond.instanceMethod yX3_init ∈ GT := GT_c1 (i := 40) rfl rfl
theorem acX3_31 : Cond.methodLink RX3 31 arraycopyName ∈ GT := GT_c3 (i := 205) rfl rfl
theorem acX4_33 : Cond.methodLink RX4 33 arraycopyName ∈ GT := GT_c5 (i := 182) rfl rfl
theorem acX7_65 : Cond.methodLink RX7 65 arraycopyName ∈ GT := GT_c3 (i := 198) rfl rfl
theorem acX8_54 : Cond.methodLink RX8 54 arraycopyName ∈ GT := GT_c3 (i := 214) rfl rfl
theorem acw : Cond.native arraycopyName ∈ GT ∧ Cond.static arraycopyName ∈ GT ∧ Cond.initialized "java/lang/System" ∈ GT := ⟨GT_c3 (i := 200) rfl rfl, GT_c3 (i := 199) rfl rfl, GT_c1 (i := 20) rfl rfl⟩
theorem kkX0_76 : Cond.constant RX0 76 (100000) ∈ GT := GT_c5 (i := 9) rfl rfl
theorem kkX4_25 : Cond.constant RX4 25 (100000) ∈ GT := GT_c5 (i := 177) rfl rfl
theorem kkX8_166 : Cond.constant RX8 166 (1103515245) ∈ GT := GT_c4 (i := 212) rfl rfl
theorem kkX12_327 : Cond.constant RX12 327 (1103515245) ∈ GT := GT_c7 (i := 184) rfl rfl
theorem kkJ11_76 : Cond.constant RJ11 76 (56320) ∈ GT := GT_c3 (i := 97) rfl rfl
theorem kkJ11_110 : Cond.constant RJ11 110 (55232) ∈ GT := GT_c3 (i := 93) rfl rfl
theorem kkJ6_265 : Cond.constant RJ6 265 (1431655765) ∈ GT := GT_c4 (i := 37) rfl rfl
theorem kkJ6_266 : Cond.constant RJ6 266 (858993459) ∈ GT := GT_c4 (i := 38) rfl rfl
theorem kkJ6_267 : Cond.constant RJ6 267 (252645135) ∈ GT := GT_c4 (i := 39) rfl rfl
theorem kkJ2_227 : Cond.constant RJ2 227 (65536) ∈ GT := GT_c3 (i := 68) rfl rfl
theorem klX11_344 : Cond.constantLong RX11 344 (-2) ∈ GT := GT_c5 (i := 198) rfl rfl
theorem klX11_346 : Cond.constantLong RX11 346 (-6) ∈ GT := GT_c5 (i := 199) rfl rfl
theorem klX11_348 : Cond.constantLong RX11 348 (-7) ∈ GT := GT_c5 (i := 200) rfl rfl
theorem klX11_366 : Cond.constantLong RX11 366 (-1) ∈ GT := GT_c5 (i := 139) rfl rfl
theorem klX3_47 : Cond.constantLong RX3 47 (-1000000) ∈ GT := GT_c4 (i := 14) rfl rfl
theorem klX3_49 : Cond.constantLong RX3 49 (1000000) ∈ GT := GT_c4 (i := 15) rfl rfl
theorem klX8_127 : Cond.constantLong RX8 127 (-1) ∈ GT := GT_c4 (i := 111) rfl rfl
theorem klX8_133 : Cond.constantLong RX8 133 (2100) ∈ GT := GT_c4 (i := 136) rfl rfl
theorem klL_191 : Cond.constantLong RL 191 (4294967295) ∈ GT := GT_c8 (i := 150) rfl rfl
theorem klX12_180 : Cond.constantLong RX12 180 (8) ∈ GT := GT_c6 (i := 173) rfl rfl
theorem klX12_182 : Cond.constantLong RX12 182 (10) ∈ GT := GT_c6 (i := 174) rfl rfl
theorem klX12_196 : Cond.constantLong RX12 196 (1000000) ∈ GT := GT_c7 (i := 2) rfl rfl
theorem klX12_198 : Cond.constantLong RX12 198 (-1000000) ∈ GT := GT_c7 (i := 3) rfl rfl
theorem klX12_242 : Cond.constantLong RX12 242 (2) ∈ GT := GT_c7 (i := 47) rfl rfl
theorem klX12_247 : Cond.constantLong RX12 247 (999) ∈ GT := GT_c7 (i := 56) rfl rfl
theorem klX12_283 : Cond.constantLong RX12 283 (99) ∈ GT := GT_c7 (i := 101) rfl rfl
theorem klX12_285 : Cond.constantLong RX12 285 (48) ∈ GT := GT_c7 (i := 106) rfl rfl
theorem klX12_290 : Cond.constantLong RX12 290 (-1) ∈ GT := GT_c7 (i := 148) rfl rfl
theorem klX12_292 : Cond.constantLong RX12 292 (100) ∈ GT := GT_c7 (i := 149) rfl rfl
theorem klX12_294 : Cond.constantLong RX12 294 (899) ∈ GT := GT_c7 (i := 150) rfl rfl
theorem klX12_296 : Cond.constantLong RX12 296 (1000) ∈ GT := GT_c7 (i := 151) rfl rfl
theorem klX12_298 : Cond.constantLong RX12 298 (1099) ∈ GT := GT_c7 (i := 152) rfl rfl
theorem klX12_300 : Cond.constantLong RX12 300 (2000) ∈ GT := GT_c7 (i := 153) rfl rfl
theorem klX12_302 : Cond.constantLong RX12 302 (2099) ∈ GT := GT_c7 (i := 154) rfl rfl
theorem klX12_313 : Cond.constantLong RX12 313 (3) ∈ GT := GT_c7 (i := 135) rfl rfl
theorem klX12_331 : Cond.constantLong RX12 331 (30) ∈ GT := GT_c7 (i := 175) rfl rfl
theorem klX12_346 : Cond.constantLong RX12 346 (23) ∈ GT := GT_c7 (i := 212) rfl rfl
theorem klX12_386 : Cond.constantLong RX12 386 (24) ∈ GT := GT_c8 (i := 80) rfl rfl
theorem klX12_410 : Cond.constantLong RX12 410 (40) ∈ GT := GT_c8 (i := 125) rfl rfl
theorem klX12_412 : Cond.constantLong RX12 412 (-7) ∈ GT := GT_c8 (i := 130) rfl rfl
