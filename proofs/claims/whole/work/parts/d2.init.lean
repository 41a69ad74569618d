/-! NEW CELLS: the constructors of the parts -/
theorem df0 : ∀ j, j < 8 → defaultValue (tyX0 j) = if fr 0 j = true then .null else .int 0
  | 0, _ => rfl
  | 1, _ => rfl
  | 2, _ => rfl
  | 3, _ => rfl
  | 4, _ => rfl
  | 5, _ => rfl
  | 6, _ => rfl
  | 7, _ => rfl
  | k + 8, h => absurd h (by omega)
theorem in0 : Cond.instantiable RX0 8 ∈ GT := GT_c2 (i := 65) rfl rfl
theorem ii0 : Cond.initialized RX0 ∈ GT := GT_c1 (i := 10) rfl rfl
theorem df1 : ∀ j, j < 3 → defaultValue (tyX1 j) = if fr 1 j = true then .null else .int 0
  | 0, _ => rfl
  | 1, _ => rfl
  | 2, _ => rfl
  | k + 3, h => absurd h (by omega)
theorem in1 : Cond.instantiable RX1 3 ∈ GT := GT_c2 (i := 45) rfl rfl
theorem ii1 : Cond.initialized RX1 ∈ GT := GT_c1 (i := 9) rfl rfl
theorem df2 : ∀ j, j < 2 → defaultValue (tyX2 j) = if fr 2 j = true then .null else .int 0
  | 0, _ => rfl
  | 1, _ => rfl
  | k + 2, h => absurd h (by omega)
theorem in2 : Cond.instantiable RX2 2 ∈ GT := GT_c5 (i := 217) rfl rfl
theorem ii2 : Cond.initialized RX2 ∈ GT := GT_c1 (i := 22) rfl rfl
theorem df3 : ∀ j, j < 4 → defaultValue (tyX3 j) = if fr 3 j = true then .null else .int 0
  | 0, _ => rfl
  | 1, _ => rfl
  | 2, _ => rfl
  | 3, _ => rfl
  | k + 4, h => absurd h (by omega)
theorem in3 : Cond.instantiable RX3 4 ∈ GT := GT_c1 (i := 38) rfl rfl
theorem ii3 : Cond.initialized RX3 ∈ GT := GT_c1 (i := 3) rfl rfl
theorem df4 : ∀ j, j < 5 → defaultValue (tyX4 j) = if fr 4 j = true then .null else .int 0
  | 0, _ => rfl
  | 1, _ => rfl
  | 2, _ => rfl
  | 3, _ => rfl
  | 4, _ => rfl
  | k + 5, h => absurd h (by omega)
theorem in4 : Cond.instantiable RX4 5 ∈ GT := GT_c2 (i := 97) rfl rfl
theorem ii4 : Cond.initialized RX4 ∈ GT := GT_c1 (i := 11) rfl rfl
theorem df5 : ∀ j, j < 6 → defaultValue (tyX5 j) = if fr 5 j = true then .null else .int 0
  | 0, _ => rfl
  | 1, _ => rfl
  | 2, _ => rfl
  | 3, _ => rfl
  | 4, _ => rfl
  | 5, _ => rfl
  | k + 6, h => absurd h (by omega)
theorem in5 : Cond.instantiable RX5 6 ∈ GT := GT_c1 (i := 161) rfl rfl
theorem ii5 : Cond.initialized RX5 ∈ GT := GT_c1 (i := 4) rfl rfl
theorem df6 : ∀ j, j < 6 → defaultValue (tyX6 j) = if fr 6 j = true then .null else .int 0
  | 0, _ => rfl
  | 1, _ => rfl
  | 2, _ => rfl
  | 3, _ => rfl
  | 4, _ => rfl
  | 5, _ => rfl
  | k + 6, h => absurd h (by omega)
theorem in6 : Cond.instantiable RX6 6 ∈ GT := GT_c1 (i := 209) rfl rfl
theorem ii6 : Cond.initialized RX6 ∈ GT := GT_c1 (i := 6) rfl rfl
theorem df7 : ∀ j, j < 15 → defaultValue (tyX7 j) = if fr 7 j = true then .null else .int 0
  | 0, _ => rfl
  | 1, _ => rfl
  | 2, _ => rfl
  | 3, _ => rfl
  | 4, _ => rfl
  | 5, _ => rfl
  | 6, _ => rfl
  | 7, _ => rfl
  | 8, _ => rfl
  | 9, _ => rfl
  | 10, _ => rfl
  | 11, _ => rfl
  | 12, _ => rfl
  | 13, _ => rfl
  | 14, _ => rfl
  | k + 15, h => absurd h (by omega)
theorem in7 : Cond.instantiable RX7 15 ∈ GT := GT_c1 (i := 32) rfl rfl
theorem ii7 : Cond.initialized RX7 ∈ GT := GT_c1 (i := 2) rfl rfl
theorem df8 : ∀ j, j < 10 → defaultValue (tyX8 j) = if fr 8 j = true then .null else .int 0
  | 0, _ => rfl
  | 1, _ => rfl
  | 2, _ => rfl
  | 3, _ => rfl
  | 4, _ => rfl
  | 5, _ => rfl
  | 6, _ => rfl
  | 7, _ => rfl
  | 8, _ => rfl
  | 9, _ => rfl
  | k + 10, h => absurd h (by omega)
theorem in8 : Cond.instantiable RX8 10 ∈ GT := GT_c1 (i := 237) rfl rfl
theorem ii8 : Cond.initialized RX8 ∈ GT := GT_c1 (i := 8) rfl rfl
theorem df9 : ∀ j, j < 3 → defaultValue (tyX9 j) = if fr 9 j = true then .null else .int 0
  | 0, _ => rfl
  | 1, _ => rfl
  | 2, _ => rfl
  | k + 3, h => absurd h (by omega)
theorem in9 : Cond.instantiable RX9 3 ∈ GT := GT_c1 (i := 169) rfl rfl
theorem ii9 : Cond.initialized RX9 ∈ GT := GT_c1 (i := 5) rfl rfl
theorem df10 : ∀ j, j < 3 → defaultValue (tyX10 j) = if fr 10 j = true then .null else .int 0
  | 0, _ => rfl
  | 1, _ => rfl
  | 2, _ => rfl
  | k + 3, h => absurd h (by omega)
theorem in10 : Cond.instantiable RX10 3 ∈ GT := GT_c2 (i := 122) rfl rfl
theorem ii10 : Cond.initialized RX10 ∈ GT := GT_c1 (i := 12) rfl rfl
theorem df11 : ∀ j, j < 15 → defaultValue (tyX11 j) = if fr 11 j = true then .null else .int 0
  | 0, _ => rfl
  | 1, _ => rfl
  | 2, _ => rfl
  | 3, _ => rfl
  | 4, _ => rfl
  | 5, _ => rfl
  | 6, _ => rfl
  | 7, _ => rfl
  | 8, _ => rfl
  | 9, _ => rfl
  | 10, _ => rfl
  | 11, _ => rfl
  | 12, _ => rfl
  | 13, _ => rfl
  | 14, _ => rfl
  | k + 15, h => absurd h (by omega)
theorem in11 : Cond.instantiable RX11 15 ∈ GT := GT_c1 (i := 24) rfl rfl
theorem ii11 : Cond.initialized RX11 ∈ GT := GT_c1 (i := 1) rfl rfl
theorem df12 : ∀ j, j < 30 → defaultValue (tyX12 j) = if fr 12 j = true then .null else .int 0
  | 0, _ => rfl
  | 1, _ => rfl
  | 2, _ => rfl
  | 3, _ => rfl
  | 4, _ => rfl
  | 5, _ => rfl
  | 6, _ => rfl
  | 7, _ => rfl
  | 8, _ => rfl
  | 9, _ => rfl
  | 10, _ => rfl
  | 11, _ => rfl
  | 12, _ => rfl
  | 13, _ => rfl
  | 14, _ => rfl
  | 15, _ => rfl
  | 16, _ => rfl
  | 17, _ => rfl
  | 18, _ => rfl
  | 19, _ => rfl
  | 20, _ => rfl
  | 21, _ => rfl
  | 22, _ => rfl
  | 23, _ => rfl
  | 24, _ => rfl
  | 25, _ => rfl
  | 26, _ => rfl
  | 27, _ => rfl
  | 28, _ => rfl
  | 29, _ => rfl
  | k + 30, h => absurd h (by omega)
theorem in12 : Cond.instantiable RX12 30 ∈ GT := GT_c6 (i := 4) rfl rfl
theorem ii12 : Cond.initialized RX12 ∈ GT := GT_c1 (i := 13) rfl rfl
theorem clX11_23 : Cond.classLink RX11 23 RX7 ∈ GT := GT_c1 (i := 31) rfl rfl
theorem clX11_30 : Cond.classLink RX11 30 RX5 ∈ GT := GT_c1 (i := 160) rfl rfl
theorem clX11_37 : Cond.classLink RX11 37 RX6 ∈ GT := GT_c1 (i := 208) rfl rfl
theorem clX11_46 : Cond.classLink RX11 46 RX8 ∈ GT := GT_c1 (i := 236) rfl rfl
theorem clX11_56 : Cond.classLink RX11 56 RX1 ∈ GT := GT_c2 (i := 44) rfl rfl
theorem clX11_63 : Cond.classLink RX11 63 RX0 ∈ GT := GT_c2 (i := 64) rfl rfl
theorem clX11_72 : Cond.classLink RX11 72 RX4 ∈ GT := GT_c2 (i := 96) rfl rfl
theorem clX11_79 : Cond.classLink RX11 79 RX10 ∈ GT := GT_c2 (i := 120) rfl rfl
theorem clX11_86 : Cond.classLink RX11 86 RX2 ∈ GT := GT_c2 (i := 142) rfl rfl
theorem clX1_9 : Cond.classLink RX1 9 RX8 ∈ GT := GT_c2 (i := 50) rfl rfl
theorem clX2_7 : Cond.classLink RX2 7 RX7 ∈ GT := GT_c5 (i := 222) rfl rfl
theorem clX2_16 : Cond.classLink RX2 16 RX8 ∈ GT := GT_c5 (i := 224) rfl rfl
theorem clX5_9 : Cond.classLink RX5 9 RX7 ∈ GT := GT_c1 (i := 166) rfl rfl
theorem clX5_18 : Cond.classLink RX5 18 RX9 ∈ GT := GT_c1 (i := 168) rfl rfl
theorem clX7_34 : Cond.classLink RX7 34 RX3 ∈ GT := GT_c1 (i := 37) rfl rfl
theorem clL_7 : Cond.classLink RL 7 RX11 ∈ GT := GT_c1 (i := 23) rfl rfl
theorem clL_10 : Cond.classLink RL 10 RX12 ∈ GT := GT_c6 (i := 3) rfl rfl
theorem oiX11_1 : Cond.methodLink RX11 1 Lib.objectInit ∈ GT := GT_c1 (i := 28) rfl rfl
theorem oiX0_3 : Cond.methodLink RX0 3 Lib.objectInit ∈ GT := GT_c2 (i := 69) rfl rfl
theorem oiX1_3 : Cond.methodLink RX1 3 Lib.objectInit ∈ GT := GT_c2 (i := 49) rfl rfl
theorem oiX2_1 : Cond.methodLink RX2 1 Lib.objectInit ∈ GT := GT_c5 (i := 221) rfl rfl
theorem oiX3_3 : Cond.methodLink RX3 3 Lib.objectInit ∈ GT := GT_c1 (i := 42) rfl rfl
theorem oiX4_3 : Cond.methodLink RX4 3 Lib.objectInit ∈ GT := GT_c2 (i := 101) rfl rfl
theorem oiX5_3 : Cond.methodLink RX5 3 Lib.objectInit ∈ GT := GT_c1 (i := 165) rfl rfl
theorem oiX6_3 : Cond.methodLink RX6 3 Lib.objectInit ∈ GT := GT_c1 (i := 213) rfl rfl
theorem oiX7_3 : Cond.methodLink RX7 3 Lib.objectInit ∈ GT := GT_c1 (i := 36) rfl rfl
theorem oiX8_3 : Cond.methodLink RX8 3 Lib.objectInit ∈ GT := GT_c2 (i := 1) rfl rfl
theorem oiX9_3 : Cond.methodLink RX9 3 Lib.objectInit ∈ GT := GT_c1 (i := 173) rfl rfl
theorem oiX10_3 : Cond.methodLink RX10 3 Lib.objectInit ∈ GT := GT_c2 (i := 126) rfl rfl
theorem oiX12_7 : Cond.methodLink RX12 7 Lib.objectInit ∈ GT := GT_c6 (i := 8) rfl rfl
theorem ffX0_9 : FLF RX0 9 0 3 := ⟨_, _, _, tyX0 3, kc0, by decide, GT_c2 (i := 73) rfl rfl, rfl, rfl, tyX0_ok 3 (by decide), fun q => ⟨rfl, rfl⟩, rfl⟩
theorem ffX0_15 : FLF RX0 15 0 4 := ⟨_, _, _, tyX0 4, kc0, by decide, GT_c2 (i := 74) rfl rfl, rfl, rfl, tyX0_ok 4 (by decide), fun q => ⟨rfl, rfl⟩, rfl⟩
theorem ffX0_18 : FLF RX0 18 0 5 := ⟨_, _, _, tyX0 5, kc0, by decide, GT_c2 (i := 75) rfl rfl, rfl, rfl, tyX0_ok 5 (by decide), fun q => ⟨rfl, rfl⟩, rfl⟩
theorem ffX0_21 : FLF RX0 21 0 0 := ⟨_, _, _, tyX0 0, kc0, by decide, GT_c2 (i := 70) rfl rfl, rfl, rfl, tyX0_ok 0 (by decide), fun q => ⟨rfl, rfl⟩, rfl⟩
theorem ffX0_25 : FLF RX0 25 0 1 := ⟨_, _, _, tyX0 1, kc0, by decide, GT_c2 (i := 71) rfl rfl, rfl, rfl, tyX0_ok 1 (by decide), fun q => ⟨rfl, rfl⟩, rfl⟩
theorem ffX0_29 : FLF RX0 29 0 2 := ⟨_, _, _, tyX0 2, kc0, by decide, GT_c2 (i := 72) rfl rfl, rfl, rfl, tyX0_ok 2 (by decide), fun q => ⟨rfl, rfl⟩, rfl⟩
theorem ffX1_11 : FLF RX1 11 1 0 := ⟨_, _, _, tyX1 0, kc1, by decide, GT_c2 (i := 53) rfl rfl, rfl, rfl, tyX1_ok 0 (by decide), fun q => ⟨rfl, rfl⟩, rfl⟩
theorem ffX2_10 : FLF RX2 10 2 0 := ⟨_, _, _, tyX2 0, kc2, by decide, GT_c5 (i := 226) rfl rfl, rfl, rfl, tyX2_ok 0 (by decide), fun q => ⟨rfl, rfl⟩, rfl⟩
theorem ffX2_19 : FLF RX2 19 2 1 := ⟨_, _, _, tyX2 1, kc2, by decide, GT_c5 (i := 228) rfl rfl, rfl, rfl, tyX2_ok 1 (by decide), fun q => ⟨rfl, rfl⟩, rfl⟩
theorem ffX3_9 : FLF RX3 9 3 0 := ⟨_, _, _, tyX3 0, kc3, by decide, GT_c1 (i := 43) rfl rfl, rfl, rfl, tyX3_ok 0 (by decide), fun q => ⟨rfl, rfl⟩, rfl⟩
theorem ffX3_15 : FLF RX3 15 3 2 := ⟨_, _, _, tyX3 2, kc3, by decide, GT_c1 (i := 45) rfl rfl, rfl, rfl, tyX3_ok 2 (by decide), fun q => ⟨rfl, rfl⟩, rfl⟩
theorem ffX3_18 : FLF RX3 18 3 3 := ⟨_, _, _, tyX3 3, kc3, by decide, GT_c1 (i := 46) rfl rfl, rfl, rfl, tyX3_ok 3 (by decide), fun q => ⟨rfl, rfl⟩, rfl⟩
theorem ffX4_9 : FLF RX4 9 4 0 := ⟨_, _, _, tyX4 0, kc4, by decide, GT_c2 (i := 102) rfl rfl, rfl, rfl, tyX4_ok 0 (by decide), fun q => ⟨rfl, rfl⟩, rfl⟩
theorem ffX4_15 : FLF RX4 15 4 1 := ⟨_, _, _, tyX4 1, kc4, by decide, GT_c2 (i := 103) rfl rfl, rfl, rfl, tyX4_ok 1 (by decide), fun q => ⟨rfl, rfl⟩, rfl⟩
theorem ffX4_18 : FLF RX4 18 4 2 := ⟨_, _, _, tyX4 2, kc4, by decide, GT_c2 (i := 104) rfl rfl, rfl, rfl, tyX4_ok 2 (by decide), fun q => ⟨rfl, rfl⟩, rfl⟩
theorem ffX5_12 : FLF RX5 12 5 0 := ⟨_, _, _, tyX5 0, kc5, by decide, GT_c1 (i := 186) rfl rfl, rfl, rfl, tyX5_ok 0 (by decide), fun q => ⟨rfl, rfl⟩, rfl⟩
theorem ffX5_21 : FLF RX5 21 5 3 := ⟨_, _, _, tyX5 3, kc5, by decide, GT_c1 (i := 192) rfl rfl, rfl, rfl, tyX5_ok 3 (by decide), fun q => ⟨rfl, rfl⟩, rfl⟩
theorem ffX6_9 : FLF RX6 9 6 1 := ⟨_, _, _, tyX6 1, kc6, by decide, GT_c1 (i := 218) rfl rfl, rfl, rfl, tyX6_ok 1 (by decide), fun q => ⟨rfl, rfl⟩, rfl⟩
theorem ffX6_15 : FLF RX6 15 6 2 := ⟨_, _, _, tyX6 2, kc6, by decide, GT_c1 (i := 219) rfl rfl, rfl, rfl, tyX6_ok 2 (by decide), fun q => ⟨rfl, rfl⟩, rfl⟩
theorem ffX6_18 : FLF RX6 18 6 3 := ⟨_, _, _, tyX6 3, kc6, by decide, GT_c1 (i := 220) rfl rfl, rfl, rfl, tyX6_ok 3 (by decide), fun q => ⟨rfl, rfl⟩, rfl⟩
theorem ffX6_21 : FLF RX6 21 6 4 := ⟨_, _, _, tyX6 4, kc6, by decide, GT_c1 (i := 221) rfl rfl, rfl, rfl, tyX6_ok 4 (by decide), fun q => ⟨rfl, rfl⟩, rfl⟩
theorem ffX6_24 : FLF RX6 24 6 5 := ⟨_, _, _, tyX6 5, kc6, by decide, GT_c1 (i := 222) rfl rfl, rfl, rfl, tyX6_ok 5 (by decide), fun q => ⟨rfl, rfl⟩, rfl⟩
theorem ffX6_27 : FLF RX6 27 6 0 := ⟨_, _, _, tyX6 0, kc6, by decide, GT_c1 (i := 217) rfl rfl, rfl, rfl, tyX6_ok 0 (by decide), fun q => ⟨rfl, rfl⟩, rfl⟩
theorem ffX7_15 : FLF RX7 15 7 8 := ⟨_, _, _, tyX7 8, kc7, by decide, GT_c1 (i := 94) rfl rfl, rfl, rfl, tyX7_ok 8 (by decide), fun q => ⟨rfl, rfl⟩, rfl⟩
theorem ffX7_19 : FLF RX7 19 7 9 := ⟨_, _, _, tyX7 9, kc7, by decide, GT_c1 (i := 100) rfl rfl, rfl, rfl, tyX7_ok 9 (by decide), fun q => ⟨rfl, rfl⟩, rfl⟩
theorem ffX7_22 : FLF RX7 22 7 10 := ⟨_, _, _, tyX7 10, kc7, by decide, GT_c1 (i := 106) rfl rfl, rfl, rfl, tyX7_ok 10 (by decide), fun q => ⟨rfl, rfl⟩, rfl⟩
theorem ffX7_25 : FLF RX7 25 7 11 := ⟨_, _, _, tyX7 11, kc7, by decide, GT_c1 (i := 112) rfl rfl, rfl, rfl, tyX7_ok 11 (by decide), fun q => ⟨rfl, rfl⟩, rfl⟩
theorem ffX7_28 : FLF RX7 28 7 12 := ⟨_, _, _, tyX7 12, kc7, by decide, GT_c1 (i := 118) rfl rfl, rfl, rfl, tyX7_ok 12 (by decide), fun q => ⟨rfl, rfl⟩, rfl⟩
theorem ffX7_31 : FLF RX7 31 7 13 := ⟨_, _, _, tyX7 13, kc7, by decide, GT_c1 (i := 123) rfl rfl, rfl, rfl, tyX7_ok 13 (by decide), fun q => ⟨rfl, rfl⟩, rfl⟩
theorem ffX7_37 : FLF RX7 37 7 14 := ⟨_, _, _, tyX7 14, kc7, by decide, GT_c1 (i := 126) rfl rfl, rfl, rfl, tyX7_ok 14 (by decide), fun q => ⟨rfl, rfl⟩, rfl⟩
theorem ffX8_9 : FLF RX8 9 8 4 := ⟨_, _, _, tyX8 4, kc8, by decide, GT_c2 (i := 12) rfl rfl, rfl, rfl, tyX8_ok 4 (by decide), fun q => ⟨rfl, rfl⟩, rfl⟩
theorem ffX8_15 : FLF RX8 15 8 5 := ⟨_, _, _, tyX8 5, kc8, by decide, GT_c2 (i := 15) rfl rfl, rfl, rfl, tyX8_ok 5 (by decide), fun q => ⟨rfl, rfl⟩, rfl⟩
theorem ffX8_18 : FLF RX8 18 8 6 := ⟨_, _, _, tyX8 6, kc8, by decide, GT_c2 (i := 17) rfl rfl, rfl, rfl, tyX8_ok 6 (by decide), fun q => ⟨rfl, rfl⟩, rfl⟩
theorem ffX8_21 : FLF RX8 21 8 7 := ⟨_, _, _, tyX8 7, kc8, by decide, GT_c2 (i := 18) rfl rfl, rfl, rfl, tyX8_ok 7 (by decide), fun q => ⟨rfl, rfl⟩, rfl⟩
theorem ffX8_24 : FLF RX8 24 8 8 := ⟨_, _, _, tyX8 8, kc8, by decide, GT_c2 (i := 20) rfl rfl, rfl, rfl, tyX8_ok 8 (by decide), fun q => ⟨rfl, rfl⟩, rfl⟩
theorem ffX8_27 : FLF RX8 27 8 9 := ⟨_, _, _, tyX8 9, kc8, by decide, GT_c2 (i := 21) rfl rfl, rfl, rfl, tyX8_ok 9 (by decide), fun q => ⟨rfl, rfl⟩, rfl⟩
theorem ffX9_9 : FLF RX9 9 9 0 := ⟨_, _, _, tyX9 0, kc9, by decide, GT_c1 (i := 174) rfl rfl, rfl, rfl, tyX9_ok 0 (by decide), fun q => ⟨rfl, rfl⟩, rfl⟩
theorem ffX9_15 : FLF RX9 15 9 1 := ⟨_, _, _, tyX9 1, kc9, by decide, GT_c1 (i := 176) rfl rfl, rfl, rfl, tyX9_ok 1 (by decide), fun q => ⟨rfl, rfl⟩, rfl⟩
theorem ffX10_9 : FLF RX10 9 10 0 := ⟨_, _, _, tyX10 0, kc10, by decide, GT_c2 (i := 127) rfl rfl, rfl, rfl, tyX10_ok 0 (by decide), fun q => ⟨rfl, rfl⟩, rfl⟩
theorem ffX11_9 : FLF RX11 9 11 0 := ⟨_, _, _, tyX11 0, kc11, by decide, GT_c2 (i := 144) rfl rfl, rfl, rfl, tyX11_ok 0 (by decide), fun q => ⟨rfl, rfl⟩, rfl⟩
theorem ffX11_26 : FLF RX11 26 11 4 := ⟨_, _, _, tyX11 4, kc11, by decide, GT_c2 (i := 148) rfl rfl, rfl, rfl, tyX11_ok 4 (by decide), fun q => ⟨rfl, rfl⟩, rfl⟩
theorem ffX11_33 : FLF RX11 33 11 5 := ⟨_, _, _, tyX11 5, kc11, by decide, GT_c2 (i := 149) rfl rfl, rfl, rfl, tyX11_ok 5 (by decide), fun q => ⟨rfl, rfl⟩, rfl⟩
theorem ffX11_42 : FLF RX11 42 11 6 := ⟨_, _, _, tyX11 6, kc11, by decide, GT_c2 (i := 150) rfl rfl, rfl, rfl, tyX11_ok 6 (by decide), fun q => ⟨rfl, rfl⟩, rfl⟩
theorem ffX11_49 : FLF RX11 49 11 7 := ⟨_, _, _, tyX11 7, kc11, by decide, GT_c2 (i := 151) rfl rfl, rfl, rfl, tyX11_ok 7 (by decide), fun q => ⟨rfl, rfl⟩, rfl⟩
theorem ffX11_53 : FLF RX11 53 11 8 := ⟨_, _, _, tyX11 8, kc11, by decide, GT_c2 (i := 152) rfl rfl, rfl, rfl, tyX11_ok 8 (by decide), fun q => ⟨rfl, rfl⟩, rfl⟩
theorem ffX11_59 : FLF RX11 59 11 9 := ⟨_, _, _, tyX11 9, kc11, by decide, GT_c2 (i := 153) rfl rfl, rfl, rfl, tyX11_ok 9 (by decide), fun q => ⟨rfl, rfl⟩, rfl⟩
theorem ffX11_68 : FLF RX11 68 11 10 := ⟨_, _, _, tyX11 10, kc11, by decide, GT_c2 (i := 154) rfl rfl, rfl, rfl, tyX11_ok 10 (by decide), fun q => ⟨rfl, rfl⟩, rfl⟩
theorem ffX11_75 : FLF RX11 75 11 11 := ⟨_, _, _, tyX11 11, kc11, by decide, GT_c2 (i := 155) rfl rfl, rfl, rfl, tyX11_ok 11 (by decide), fun q => ⟨rfl, rfl⟩, rfl⟩
theorem ffX11_81 : FLF RX11 81 11 12 := ⟨_, _, _, tyX11 12, kc11, by decide, GT_c2 (i := 156) rfl rfl, rfl, rfl, tyX11_ok 12 (by decide), fun q => ⟨rfl, rfl⟩, rfl⟩
theorem ffX11_88 : FLF RX11 88 11 13 := ⟨_, _, _, tyX11 13, kc11, by decide, GT_c2 (i := 157) rfl rfl, rfl, rfl, tyX11_ok 13 (by decide), fun q => ⟨rfl, rfl⟩, rfl⟩
theorem ffX11_92 : FLF RX11 92 11 14 := ⟨_, _, _, tyX11 14, kc11, by decide, GT_c2 (i := 158) rfl rfl, rfl, rfl, tyX11_ok 14 (by decide), fun q => ⟨rfl, rfl⟩, rfl⟩
theorem ffX12_13 : FLF RX12 13 12 1 := ⟨_, _, _, tyX12 1, kc12, by decide, GT_c6 (i := 13) rfl rfl, rfl, rfl, tyX12_ok 1 (by decide), fun q => ⟨rfl, rfl⟩, rfl⟩
theorem ffX12_17 : FLF RX12 17 12 2 := ⟨_, _, _, tyX12 2, kc12, by decide, GT_c6 (i := 14) rfl rfl, rfl, rfl, tyX12_ok 2 (by decide), fun q => ⟨rfl, rfl⟩, rfl⟩
theorem ffX12_21 : FLF RX12 21 12 3 := ⟨_, _, _, tyX12 3, kc12, by decide, GT_c6 (i := 15) rfl rfl, rfl, rfl, tyX12_ok 3 (by decide), fun q => ⟨rfl, rfl⟩, rfl⟩
theorem ffX12_24 : FLF RX12 24 12 4 := ⟨_, _, _, tyX12 4, kc12, by decide, GT_c6 (i := 16) rfl rfl, rfl, rfl, tyX12_ok 4 (by decide), fun q => ⟨rfl, rfl⟩, rfl⟩
theorem ffX12_30 : FLF RX12 30 12 16 := ⟨_, _, _, tyX12 16, kc12, by decide, GT_c6 (i := 28) rfl rfl, rfl, rfl, tyX12_ok 16 (by decide), fun q => ⟨rfl, rfl⟩, rfl⟩
theorem ffX12_33 : FLF RX12 33 12 17 := ⟨_, _, _, tyX12 17, kc12, by decide, GT_c6 (i := 29) rfl rfl, rfl, rfl, tyX12_ok 17 (by decide), fun q => ⟨rfl, rfl⟩, rfl⟩
theorem ffX12_36 : FLF RX12 36 12 18 := ⟨_, _, _, tyX12 18, kc12, by decide, GT_c6 (i := 30) rfl rfl, rfl, rfl, tyX12_ok 18 (by decide), fun q => ⟨rfl, rfl⟩, rfl⟩
theorem ffX12_39 : FLF RX12 39 12 21 := ⟨_, _, _, tyX12 21, kc12, by decide, GT_c6 (i := 33) rfl rfl, rfl, rfl, tyX12_ok 21 (by decide), fun q => ⟨rfl, rfl⟩, rfl⟩
theorem ffX12_42 : FLF RX12 42 12 22 := ⟨_, _, _, tyX12 22, kc12, by decide, GT_c6 (i := 34) rfl rfl, rfl, rfl, tyX12_ok 22 (by decide), fun q => ⟨rfl, rfl⟩, rfl⟩
theorem ffX12_45 : FLF RX12 45 12 23 := ⟨_, _, _, tyX12 23, kc12, by decide, GT_c6 (i := 35) rfl rfl, rfl, rfl, tyX12_ok 23 (by decide), fun q => ⟨rfl, rfl⟩, rfl⟩
theorem ffX12_48 : FLF RX12 48 12 24 := ⟨_, _, _, tyX12 24, kc12, by decide, GT_c6 (i := 36) rfl rfl, rfl, rfl, tyX12_ok 24 (by decide), fun q => ⟨rfl, rfl⟩, rfl⟩
theorem ffX12_51 : FLF RX12 51 12 25 := ⟨_, _, _, tyX12 25, kc12, by decide, GT_c6 (i := 37) rfl rfl, rfl, rfl, tyX12_ok 25 (by decide), fun q => ⟨rfl, rfl⟩, rfl⟩
theorem ffX12_54 : FLF RX12 54 12 27 := ⟨_, _, _, tyX12 27, kc12, by decide, GT_c6 (i := 39) rfl rfl, rfl, rfl, tyX12_ok 27 (by decide), fun q => ⟨rfl, rfl⟩, rfl⟩
theorem ffX12_57 : FLF RX12 57 12 28 := ⟨_, _, _, tyX12 28, kc12, by decide, GT_c6 (i := 40) rfl rfl, rfl, rfl, tyX12_ok 28 (by decide), fun q => ⟨rfl, rfl⟩, rfl⟩
theorem ffX12_60 : FLF RX12 60 12 29 := ⟨_, _, _, tyX12 29, kc12, by decide, GT_c6 (i := 41) rfl rfl, rfl, rfl, tyX12_ok 29 (by decide), fun q => ⟨rfl, rfl⟩, rfl⟩
def iX3 (a k : Nat) (T : TT) : TT := (prT a 3 (k + 2) (nwT (k + 2) (.inr (0, 3)) (prT a 2 (k + 1) (nwT (k + 1) (.inr (0, 3)) (prT a 0 k (nwT k (.inr (0, 900)) T))))))
theorem iX3_px {a k : Nat} {T : TT} : PX T (iX3 a k T) := (((((((PX.rfl' T).nw _ _).pr _ _ _).nw _ _).pr _ _ _).nw _ _).pr _ _ _)
theorem iX3_len {a k : Nat} {T : TT} (hl : T.1.length = k) : (iX3 a k T).1.length = k + 3 := (nw_len (show _ = k + 2 from (nw_len (show _ = k + 1 from (nw_len (show _ = k from hl))))))
set_option maxRecDepth 100000 in
set_option maxHeartbeats 4000000 in
theorem tX3_init {l : Launch} {w : WP} {T : TT} {a k : Nat} (hl : T.1.length = k) (ha : T.1[a]? = some (.inl 3)) : CM l w yX3_init cX3_init 1 none 1 3 906 T.1 T.2.1 [.ref (wb w + a)] T.2.2 none (iX3 a k T).1 (iX3 a k T).2.1 (iX3 a k T).2.2 := by
  refine CM.of (plainFor_of_name pf_X3) (Nat.le_of_ble_eq_true rfl) fun Z C hr hm hR hw hl0 hE => ?_
  subst hw; subst hl0
  have C : CX Z cX3_init 1 RX3 := C
  have hm : (zme Z).name = "<init>" := hm
  show Wm Z (0, 0, T.1, T.2.1) T.2.2 0 [(0, .ref (wb (zw Z) + a))] []
  refine r_aload_n C dX3_init_0 0 rfl ?_
  refine r_oinit C oiX3_3 ow dX3_init_1 (by rw [hR]; exact ⟨by decide, by decide⟩) (by decide) ?_
  refine r_aload_n C dX3_init_4 0 rfl ?_
  refine r_sipush (v := 900) C dX3_init_5 (by decide) ?_
  refine q_newi (T := T) (n := 900) (show (T).1.length = k from hl) C dX3_init_8 (by decide) (by decide) (by decide) (by rw [hR]; exact ⟨by decide, by decide⟩) ?_
  refine q_putR (T := (nwT k (.inr (0, 900)) T)) (b := k) C ffX3_9 hm dX3_init_10 (((PX.rfl' T).nw _ _).get ha) ?_
  refine r_aload_n C dX3_init_13 0 rfl ?_
  refine r_iconst (v := 3) C dX3_init_14 (by decide) ?_
  refine q_newi (T := (prT a 0 k (nwT k (.inr (0, 900)) T))) (n := 3) (show ((prT a 0 k (nwT k (.inr (0, 900)) T))).1.length = k + 1 from (nw_len (show _ = k from hl))) C dX3_init_15 (by decide) (by decide) (by decide) (by rw [hR]; exact ⟨by decide, by decide⟩) ?_
  refine q_putR (T := (nwT (k + 1) (.inr (0, 3)) (prT a 0 k (nwT k (.inr (0, 900)) T)))) (b := k + 1) C ffX3_15 hm dX3_init_17 (((((PX.rfl' T).nw _ _).pr _ _ _).nw _ _).get ha) ?_
  refine r_aload_n C dX3_init_20 0 rfl ?_
  refine r_iconst (v := 3) C dX3_init_21 (by decide) ?_
  refine q_newi (T := (prT a 2 (k + 1) (nwT (k + 1) (.inr (0, 3)) (prT a 0 k (nwT k (.inr (0, 900)) T))))) (n := 3) (show ((prT a 2 (k + 1) (nwT (k + 1) (.inr (0, 3)) (prT a 0 k (nwT k (.inr (0, 900)) T))))).1.length = k + 2 from (nw_len (show _ = k + 1 from (nw_len (show _ = k from hl))))) C dX3_init_22 (by decide) (by decide) (by decide) (by rw [hR]; exact ⟨by decide, by decide⟩) ?_
  refine q_putR (T := (nwT (k + 2) (.inr (0, 3)) (prT a 2 (k + 1) (nwT (k + 1) (.inr (0, 3)) (prT a 0 k (nwT k (.inr (0, 900)) T)))))) (b := k + 2) C ffX3_18 hm dX3_init_24 (((((((PX.rfl' T).nw _ _).pr _ _ _).nw _ _).pr _ _ _).nw _ _).get ha) ?_
  exact r_vret C dX3_init_27 hr hE
def iX7 (a k : Nat) (T : TT) : TT := (prT a 14 (k + 6) (iX3 (k + 6) (k + 7) (nwT (k + 6) (.inl 3) (prT a 13 (k + 5) (nwT (k + 5) (.inr (0, 8)) (prT a 12 (k + 4) (nwT (k + 4) (.inr (0, 8)) (prT a 11 (k + 3) (nwT (k + 3) (.inr (0, 6)) (prT a 10 (k + 2) (nwT (k + 2) (.inr (0, 10)) (prT a 9 (k + 1) (nwT (k + 1) (.inr (0, 10)) (prT a 8 k (nwT k (.inr (0, 10)) (piT a 0 1 T))))))))))))))))
theorem iX7_px {a k : Nat} {T : TT} : PX T (iX7 a k T) := (((((((((((((((((PX.rfl' T).pi _ _ _).nw _ _).pr _ _ _).nw _ _).pr _ _ _).nw _ _).pr _ _ _).nw _ _).pr _ _ _).nw _ _).pr _ _ _).nw _ _).pr _ _ _).nw _ _).tr iX3_px).pr _ _ _)
theorem iX7_len {a k : Nat} {T : TT} (hl : T.1.length = k) : (iX7 a k T).1.length = k + 10 := (iX3_len (show ((nwT (k + 6) (.inl 3) (prT a 13 (k + 5) (nwT (k + 5) (.inr (0, 8)) (prT a 12 (k + 4) (nwT (k + 4) (.inr (0, 8)) (prT a 11 (k + 3) (nwT (k + 3) (.inr (0, 6)) (prT a 10 (k + 2) (nwT (k + 2) (.inr (0, 10)) (prT a 9 (k + 1) (nwT (k + 1) (.inr (0, 10)) (prT a 8 k (nwT k (.inr (0, 10)) (piT a 0 1 T))))))))))))))).1.length = k + 7 from (nw_len (show _ = k + 6 from (nw_len (show _ = k + 5 from (nw_len (show _ = k + 4 from (nw_len (show _ = k + 3 from (nw_len (show _ = k + 2 from (nw_len (show _ = k + 1 from (nw_len (show _ = k from hl))))))))))))))))
set_option maxRecDepth 100000 in
set_option maxHeartbeats 4000000 in
theorem tX7_init {l : Launch} {w : WP} {T : TT} {a k : Nat} (hl : T.1.length = k) (ha : T.1[a]? = some (.inl 7)) : CM l w yX7_init cX7_init 1 none 2 10 962 T.1 T.2.1 [.ref (wb w + a)] T.2.2 none (iX7 a k T).1 (iX7 a k T).2.1 (iX7 a k T).2.2 := by
  refine CM.of (plainFor_of_name pf_X7) (Nat.le_of_ble_eq_true rfl) fun Z C hr hm hR hw hl0 hE => ?_
  subst hw; subst hl0
  have C : CX Z cX7_init 1 RX7 := C
  have hm : (zme Z).name = "<init>" := hm
  show Wm Z (0, 0, T.1, T.2.1) T.2.2 0 [(0, .ref (wb (zw Z) + a))] []
  refine r_aload_n C dX7_init_0 0 rfl ?_
  refine r_oinit C oiX7_3 ow dX7_init_1 (by rw [hR]; exact ⟨by decide, by decide⟩) (by decide) ?_
  refine r_aload_n C dX7_init_4 0 rfl ?_
  refine r_iconst (v := 1) C dX7_init_5 (by decide) ?_
  refine q_putI (T := T) C fiX7_9 dX7_init_6 ((PX.rfl' T).get ha) ?_
  refine r_aload_n C dX7_init_9 0 rfl ?_
  refine r_bipush (v := 10) C dX7_init_10 (by decide) ?_
  refine q_newi (T := (piT a 0 1 T)) (n := 10) (show ((piT a 0 1 T)).1.length = k from hl) C dX7_init_12 (by decide) (by decide) (by decide) (by rw [hR]; exact ⟨by decide, by decide⟩) ?_
  refine q_putR (T := (nwT k (.inr (0, 10)) (piT a 0 1 T))) (b := k) C ffX7_15 hm dX7_init_14 ((((PX.rfl' T).pi _ _ _).nw _ _).get ha) ?_
  refine r_aload_n C dX7_init_17 0 rfl ?_
  refine r_bipush (v := 10) C dX7_init_18 (by decide) ?_
  refine q_newi (T := (prT a 8 k (nwT k (.inr (0, 10)) (piT a 0 1 T)))) (n := 10) (show ((prT a 8 k (nwT k (.inr (0, 10)) (piT a 0 1 T)))).1.length = k + 1 from (nw_len (show _ = k from hl))) C dX7_init_20 (by decide) (by decide) (by decide) (by rw [hR]; exact ⟨by decide, by decide⟩) ?_
  refine q_putR (T := (nwT (k + 1) (.inr (0, 10)) (prT a 8 k (nwT k (.inr (0, 10)) (piT a 0 1 T))))) (b := k + 1) C ffX7_19 hm dX7_init_22 ((((((PX.rfl' T).pi _ _ _).nw _ _).pr _ _ _).nw _ _).get ha) ?_
  refine r_aload_n C dX7_init_25 0 rfl ?_
  refine r_bipush (v := 10) C dX7_init_26 (by decide) ?_
  refine q_newi (T := (prT a 9 (k + 1) (nwT (k + 1) (.inr (0, 10)) (prT a 8 k (nwT k (.inr (0, 10)) (piT a 0 1 T)))))) (n := 10) (show ((prT a 9 (k + 1) (nwT (k + 1) (.inr (0, 10)) (prT a 8 k (nwT k (.inr (0, 10)) (piT a 0 1 T)))))).1.length = k + 2 from (nw_len (show _ = k + 1 from (nw_len (show _ = k from hl))))) C dX7_init_28 (by decide) (by decide) (by decide) (by rw [hR]; exact ⟨by decide, by decide⟩) ?_
  refine q_putR (T := (nwT (k + 2) (.inr (0, 10)) (prT a 9 (k + 1) (nwT (k + 1) (.inr (0, 10)) (prT a 8 k (nwT k (.inr (0, 10)) (piT a 0 1 T))))))) (b := k + 2) C ffX7_22 hm dX7_init_30 ((((((((PX.rfl' T).pi _ _ _).nw _ _).pr _ _ _).nw _ _).pr _ _ _).nw _ _).get ha) ?_
  refine r_aload_n C dX7_init_33 0 rfl ?_
  refine r_bipush (v := 6) C dX7_init_34 (by decide) ?_
  refine q_newi (T := (prT a 10 (k + 2) (nwT (k + 2) (.inr (0, 10)) (prT a 9 (k + 1) (nwT (k + 1) (.inr (0, 10)) (prT a 8 k (nwT k (.inr (0, 10)) (piT a 0 1 T)))))))) (n := 6) (show ((prT a 10 (k + 2) (nwT (k + 2) (.inr (0, 10)) (prT a 9 (k + 1) (nwT (k + 1) (.inr (0, 10)) (prT a 8 k (nwT k (.inr (0, 10)) (piT a 0 1 T)))))))).1.length = k + 3 from (nw_len (show _ = k + 2 from (nw_len (show _ = k + 1 from (nw_len (show _ = k from hl))))))) C dX7_init_36 (by decide) (by decide) (by decide) (by rw [hR]; exact ⟨by decide, by decide⟩) ?_
  refine q_putR (T := (nwT (k + 3) (.inr (0, 6)) (prT a 10 (k + 2) (nwT (k + 2) (.inr (0, 10)) (prT a 9 (k + 1) (nwT (k + 1) (.inr (0, 10)) (prT a 8 k (nwT k (.inr (0, 10)) (piT a 0 1 T))))))))) (b := k + 3) C ffX7_25 hm dX7_init_38 ((((((((((PX.rfl' T).pi _ _ _).nw _ _).pr _ _ _).nw _ _).pr _ _ _).nw _ _).pr _ _ _).nw _ _).get ha) ?_
  refine r_aload_n C dX7_init_41 0 rfl ?_
  refine r_bipush (v := 8) C dX7_init_42 (by decide) ?_
  refine q_newi (T := (prT a 11 (k + 3) (nwT (k + 3) (.inr (0, 6)) (prT a 10 (k + 2) (nwT (k + 2) (.inr (0, 10)) (prT a 9 (k + 1) (nwT (k + 1) (.inr (0, 10)) (prT a 8 k (nwT k (.inr (0, 10)) (piT a 0 1 T)))))))))) (n := 8) (show ((prT a 11 (k + 3) (nwT (k + 3) (.inr (0, 6)) (prT a 10 (k + 2) (nwT (k + 2) (.inr (0, 10)) (prT a 9 (k + 1) (nwT (k + 1) (.inr (0, 10)) (prT a 8 k (nwT k (.inr (0, 10)) (piT a 0 1 T)))))))))).1.length = k + 4 from (nw_len (show _ = k + 3 from (nw_len (show _ = k + 2 from (nw_len (show _ = k + 1 from (nw_len (show _ = k from hl))))))))) C dX7_init_44 (by decide) (by decide) (by decide) (by rw [hR]; exact ⟨by decide, by decide⟩) ?_
  refine q_putR (T := (nwT (k + 4) (.inr (0, 8)) (prT a 11 (k + 3) (nwT (k + 3) (.inr (0, 6)) (prT a 10 (k + 2) (nwT (k + 2) (.inr (0, 10)) (prT a 9 (k + 1) (nwT (k + 1) (.inr (0, 10)) (prT a 8 k (nwT k (.inr (0, 10)) (piT a 0 1 T))))))))))) (b := k + 4) C ffX7_28 hm dX7_init_46 ((((((((((((PX.rfl' T).pi _ _ _).nw _ _).pr _ _ _).nw _ _).pr _ _ _).nw _ _).pr _ _ _).nw _ _).pr _ _ _).nw _ _).get ha) ?_
  refine r_aload_n C dX7_init_49 0 rfl ?_
  refine r_bipush (v := 8) C dX7_init_50 (by decide) ?_
  refine q_newi (T := (prT a 12 (k + 4) (nwT (k + 4) (.inr (0, 8)) (prT a 11 (k + 3) (nwT (k + 3) (.inr (0, 6)) (prT a 10 (k + 2) (nwT (k + 2) (.inr (0, 10)) (prT a 9 (k + 1) (nwT (k + 1) (.inr (0, 10)) (prT a 8 k (nwT k (.inr (0, 10)) (piT a 0 1 T)))))))))))) (n := 8) (show ((prT a 12 (k + 4) (nwT (k + 4) (.inr (0, 8)) (prT a 11 (k + 3) (nwT (k + 3) (.inr (0, 6)) (prT a 10 (k + 2) (nwT (k + 2) (.inr (0, 10)) (prT a 9 (k + 1) (nwT (k + 1) (.inr (0, 10)) (prT a 8 k (nwT k (.inr (0, 10)) (piT a 0 1 T)))))))))))).1.length = k + 5 from (nw_len (show _ = k + 4 from (nw_len (show _ = k + 3 from (nw_len (show _ = k + 2 from (nw_len (show _ = k + 1 from (nw_len (show _ = k from hl))))))))))) C dX7_init_52 (by decide) (by decide) (by decide) (by rw [hR]; exact ⟨by decide, by decide⟩) ?_
  refine q_putR (T := (nwT (k + 5) (.inr (0, 8)) (prT a 12 (k + 4) (nwT (k + 4) (.inr (0, 8)) (prT a 11 (k + 3) (nwT (k + 3) (.inr (0, 6)) (prT a 10 (k + 2) (nwT (k + 2) (.inr (0, 10)) (prT a 9 (k + 1) (nwT (k + 1) (.inr (0, 10)) (prT a 8 k (nwT k (.inr (0, 10)) (piT a 0 1 T))))))))))))) (b := k + 5) C ffX7_31 hm dX7_init_54 ((((((((((((((PX.rfl' T).pi _ _ _).nw _ _).pr _ _ _).nw _ _).pr _ _ _).nw _ _).pr _ _ _).nw _ _).pr _ _ _).nw _ _).pr _ _ _).nw _ _).get ha) ?_
  refine r_aload_n C dX7_init_57 0 rfl ?_
  refine q_new (T := (prT a 13 (k + 5) (nwT (k + 5) (.inr (0, 8)) (prT a 12 (k + 4) (nwT (k + 4) (.inr (0, 8)) (prT a 11 (k + 3) (nwT (k + 3) (.inr (0, 6)) (prT a 10 (k + 2) (nwT (k + 2) (.inr (0, 10)) (prT a 9 (k + 1) (nwT (k + 1) (.inr (0, 10)) (prT a 8 k (nwT k (.inr (0, 10)) (piT a 0 1 T)))))))))))))) (show ((prT a 13 (k + 5) (nwT (k + 5) (.inr (0, 8)) (prT a 12 (k + 4) (nwT (k + 4) (.inr (0, 8)) (prT a 11 (k + 3) (nwT (k + 3) (.inr (0, 6)) (prT a 10 (k + 2) (nwT (k + 2) (.inr (0, 10)) (prT a 9 (k + 1) (nwT (k + 1) (.inr (0, 10)) (prT a 8 k (nwT k (.inr (0, 10)) (piT a 0 1 T)))))))))))))).1.length = k + 6 from (nw_len (show _ = k + 5 from (nw_len (show _ = k + 4 from (nw_len (show _ = k + 3 from (nw_len (show _ = k + 2 from (nw_len (show _ = k + 1 from (nw_len (show _ = k from hl))))))))))))) C kc3 tyX3_ok df3 clX7_34 in3 ii3 dX7_init_58 (by rw [hR]; exact ⟨by decide, by decide⟩) ?_
  refine r_dup C dX7_init_61 rfl ?_
  refine r_callIN (a := k + 6) (As := []) (rest := [.ref (wb (zw Z) + (k + 6)), .ref (wb (zw Z) + a)]) C (by decide) wmX3_init wiX3_init wcX3_init wdX3_init rfl dX7_init_62 (tX3_init (T := (nwT (k + 6) (.inl 3) (prT a 13 (k + 5) (nwT (k + 5) (.inr (0, 8)) (prT a 12 (k + 4) (nwT (k + 4) (.inr (0, 8)) (prT a 11 (k + 3) (nwT (k + 3) (.inr (0, 6)) (prT a 10 (k + 2) (nwT (k + 2) (.inr (0, 10)) (prT a 9 (k + 1) (nwT (k + 1) (.inr (0, 10)) (prT a 8 k (nwT k (.inr (0, 10)) (piT a 0 1 T))))))))))))))) (a := k + 6) (k := k + 7) (show ((nwT (k + 6) (.inl 3) (prT a 13 (k + 5) (nwT (k + 5) (.inr (0, 8)) (prT a 12 (k + 4) (nwT (k + 4) (.inr (0, 8)) (prT a 11 (k + 3) (nwT (k + 3) (.inr (0, 6)) (prT a 10 (k + 2) (nwT (k + 2) (.inr (0, 10)) (prT a 9 (k + 1) (nwT (k + 1) (.inr (0, 10)) (prT a 8 k (nwT k (.inr (0, 10)) (piT a 0 1 T))))))))))))))).1.length = k + 7 from (nw_len (show _ = k + 6 from (nw_len (show _ = k + 5 from (nw_len (show _ = k + 4 from (nw_len (show _ = k + 3 from (nw_len (show _ = k + 2 from (nw_len (show _ = k + 1 from (nw_len (show _ = k from hl))))))))))))))) (by exact nw_new (show ((prT a 13 (k + 5) (nwT (k + 5) (.inr (0, 8)) (prT a 12 (k + 4) (nwT (k + 4) (.inr (0, 8)) (prT a 11 (k + 3) (nwT (k + 3) (.inr (0, 6)) (prT a 10 (k + 2) (nwT (k + 2) (.inr (0, 10)) (prT a 9 (k + 1) (nwT (k + 1) (.inr (0, 10)) (prT a 8 k (nwT k (.inr (0, 10)) (piT a 0 1 T)))))))))))))).1.length = k + 6 from (nw_len (show _ = k + 5 from (nw_len (show _ = k + 4 from (nw_len (show _ = k + 3 from (nw_len (show _ = k + 2 from (nw_len (show _ = k + 1 from (nw_len (show _ = k from hl))))))))))))))) rfl rfl (by rw [hR]; exact ⟨nle rfl, nle rfl⟩) (by rw [hR]; exact ⟨nle rfl, nle rfl⟩) (nle rfl) ?_
  show Wm Z (10, 962, (iX3 (k + 6) (k + 7) (nwT (k + 6) (.inl 3) (prT a 13 (k + 5) (nwT (k + 5) (.inr (0, 8)) (prT a 12 (k + 4) (nwT (k + 4) (.inr (0, 8)) (prT a 11 (k + 3) (nwT (k + 3) (.inr (0, 6)) (prT a 10 (k + 2) (nwT (k + 2) (.inr (0, 10)) (prT a 9 (k + 1) (nwT (k + 1) (.inr (0, 10)) (prT a 8 k (nwT k (.inr (0, 10)) (piT a 0 1 T))))))))))))))).1, (iX3 (k + 6) (k + 7) (nwT (k + 6) (.inl 3) (prT a 13 (k + 5) (nwT (k + 5) (.inr (0, 8)) (prT a 12 (k + 4) (nwT (k + 4) (.inr (0, 8)) (prT a 11 (k + 3) (nwT (k + 3) (.inr (0, 6)) (prT a 10 (k + 2) (nwT (k + 2) (.inr (0, 10)) (prT a 9 (k + 1) (nwT (k + 1) (.inr (0, 10)) (prT a 8 k (nwT k (.inr (0, 10)) (piT a 0 1 T))))))))))))))).2.1) (iX3 (k + 6) (k + 7) (nwT (k + 6) (.inl 3) (prT a 13 (k + 5) (nwT (k + 5) (.inr (0, 8)) (prT a 12 (k + 4) (nwT (k + 4) (.inr (0, 8)) (prT a 11 (k + 3) (nwT (k + 3) (.inr (0, 6)) (prT a 10 (k + 2) (nwT (k + 2) (.inr (0, 10)) (prT a 9 (k + 1) (nwT (k + 1) (.inr (0, 10)) (prT a 8 k (nwT k (.inr (0, 10)) (piT a 0 1 T))))))))))))))).2.2 65 [(0, .ref (wb (zw Z) + a))] [.ref (wb (zw Z) + (k + 6)), .ref (wb (zw Z) + a)]
  refine q_putR (T := (iX3 (k + 6) (k + 7) (nwT (k + 6) (.inl 3) (prT a 13 (k + 5) (nwT (k + 5) (.inr (0, 8)) (prT a 12 (k + 4) (nwT (k + 4) (.inr (0, 8)) (prT a 11 (k + 3) (nwT (k + 3) (.inr (0, 6)) (prT a 10 (k + 2) (nwT (k + 2) (.inr (0, 10)) (prT a 9 (k + 1) (nwT (k + 1) (.inr (0, 10)) (prT a 8 k (nwT k (.inr (0, 10)) (piT a 0 1 T)))))))))))))))) (b := k + 6) C ffX7_37 hm dX7_init_65 (((((((((((((((((PX.rfl' T).pi _ _ _).nw _ _).pr _ _ _).nw _ _).pr _ _ _).nw _ _).pr _ _ _).nw _ _).pr _ _ _).nw _ _).pr _ _ _).nw _ _).pr _ _ _).nw _ _).tr iX3_px).get ha) ?_
  exact r_vret C dX7_init_68 hr hE
def iX8 (a k : Nat) (T : TT) : TT := (prT a 9 (k + 5) (nwT (k + 5) (.inr (0, 6)) (prT a 8 (k + 4) (nwT (k + 4) (.inr (0, 80)) (prT a 7 (k + 3) (nwT (k + 3) (.inr (0, 8)) (prT a 6 (k + 2) (nwT (k + 2) (.inr (0, 8)) (prT a 5 (k + 1) (nwT (k + 1) (.inr (0, 8)) (prT a 4 k (nwT k (.inr (0, 8)) T))))))))))))
theorem iX8_px {a k : Nat} {T : TT} : PX T (iX8 a k T) := (((((((((((((PX.rfl' T).nw _ _).pr _ _ _).nw _ _).pr _ _ _).nw _ _).pr _ _ _).nw _ _).pr _ _ _).nw _ _).pr _ _ _).nw _ _).pr _ _ _)
theorem iX8_len {a k : Nat} {T : TT} (hl : T.1.length = k) : (iX8 a k T).1.length = k + 6 := (nw_len (show _ = k + 5 from (nw_len (show _ = k + 4 from (nw_len (show _ = k + 3 from (nw_len (show _ = k + 2 from (nw_len (show _ = k + 1 from (nw_len (show _ = k from hl))))))))))))
set_option maxRecDepth 100000 in
set_option maxHeartbeats 4000000 in
theorem tX8_init {l : Launch} {w : WP} {T : TT} {a k : Nat} (hl : T.1.length = k) (ha : T.1[a]? = some (.inl 8)) : CM l w yX8_init cX8_init 1 none 1 6 118 T.1 T.2.1 [.ref (wb w + a)] T.2.2 none (iX8 a k T).1 (iX8 a k T).2.1 (iX8 a k T).2.2 := by
  refine CM.of (plainFor_of_name pf_X8) (Nat.le_of_ble_eq_true rfl) fun Z C hr hm hR hw hl0 hE => ?_
  subst hw; subst hl0
  have C : CX Z cX8_init 1 RX8 := C
  have hm : (zme Z).name = "<init>" := hm
  show Wm Z (0, 0, T.1, T.2.1) T.2.2 0 [(0, .ref (wb (zw Z) + a))] []
  refine r_aload_n C dX8_init_0 0 rfl ?_
  refine r_oinit C oiX8_3 ow dX8_init_1 (by rw [hR]; exact ⟨by decide, by decide⟩) (by decide) ?_
  refine r_aload_n C dX8_init_4 0 rfl ?_
  refine r_bipush (v := 8) C dX8_init_5 (by decide) ?_
  refine q_newi (T := T) (n := 8) (show (T).1.length = k from hl) C dX8_init_7 (by decide) (by decide) (by decide) (by rw [hR]; exact ⟨by decide, by decide⟩) ?_
  refine q_putR (T := (nwT k (.inr (0, 8)) T)) (b := k) C ffX8_9 hm dX8_init_9 (((PX.rfl' T).nw _ _).get ha) ?_
  refine r_aload_n C dX8_init_12 0 rfl ?_
  refine r_bipush (v := 8) C dX8_init_13 (by decide) ?_
  refine q_newi (T := (prT a 4 k (nwT k (.inr (0, 8)) T))) (n := 8) (show ((prT a 4 k (nwT k (.inr (0, 8)) T))).1.length = k + 1 from (nw_len (show _ = k from hl))) C dX8_init_15 (by decide) (by decide) (by decide) (by rw [hR]; exact ⟨by decide, by decide⟩) ?_
  refine q_putR (T := (nwT (k + 1) (.inr (0, 8)) (prT a 4 k (nwT k (.inr (0, 8)) T)))) (b := k + 1) C ffX8_15 hm dX8_init_17 (((((PX.rfl' T).nw _ _).pr _ _ _).nw _ _).get ha) ?_
  refine r_aload_n C dX8_init_20 0 rfl ?_
  refine r_bipush (v := 8) C dX8_init_21 (by decide) ?_
  refine q_newi (T := (prT a 5 (k + 1) (nwT (k + 1) (.inr (0, 8)) (prT a 4 k (nwT k (.inr (0, 8)) T))))) (n := 8) (show ((prT a 5 (k + 1) (nwT (k + 1) (.inr (0, 8)) (prT a 4 k (nwT k (.inr (0, 8)) T))))).1.length = k + 2 from (nw_len (show _ = k + 1 from (nw_len (show _ = k from hl))))) C dX8_init_23 (by decide) (by decide) (by decide) (by rw [hR]; exact ⟨by decide, by decide⟩) ?_
  refine q_putR (T := (nwT (k + 2) (.inr (0, 8)) (prT a 5 (k + 1) (nwT (k + 1) (.inr (0, 8)) (prT a 4 k (nwT k (.inr (0, 8)) T)))))) (b := k + 2) C ffX8_18 hm dX8_init_25 (((((((PX.rfl' T).nw _ _).pr _ _ _).nw _ _).pr _ _ _).nw _ _).get ha) ?_
  refine r_aload_n C dX8_init_28 0 rfl ?_
  refine r_bipush (v := 8) C dX8_init_29 (by decide) ?_
  refine q_newi (T := (prT a 6 (k + 2) (nwT (k + 2) (.inr (0, 8)) (prT a 5 (k + 1) (nwT (k + 1) (.inr (0, 8)) (prT a 4 k (nwT k (.inr (0, 8)) T))))))) (n := 8) (show ((prT a 6 (k + 2) (nwT (k + 2) (.inr (0, 8)) (prT a 5 (k + 1) (nwT (k + 1) (.inr (0, 8)) (prT a 4 k (nwT k (.inr (0, 8)) T))))))).1.length = k + 3 from (nw_len (show _ = k + 2 from (nw_len (show _ = k + 1 from (nw_len (show _ = k from hl))))))) C dX8_init_31 (by decide) (by decide) (by decide) (by rw [hR]; exact ⟨by decide, by decide⟩) ?_
  refine q_putR (T := (nwT (k + 3) (.inr (0, 8)) (prT a 6 (k + 2) (nwT (k + 2) (.inr (0, 8)) (prT a 5 (k + 1) (nwT (k + 1) (.inr (0, 8)) (prT a 4 k (nwT k (.inr (0, 8)) T)))))))) (b := k + 3) C ffX8_21 hm dX8_init_33 (((((((((PX.rfl' T).nw _ _).pr _ _ _).nw _ _).pr _ _ _).nw _ _).pr _ _ _).nw _ _).get ha) ?_
  refine r_aload_n C dX8_init_36 0 rfl ?_
  refine r_bipush (v := 80) C dX8_init_37 (by decide) ?_
  refine q_newi (T := (prT a 7 (k + 3) (nwT (k + 3) (.inr (0, 8)) (prT a 6 (k + 2) (nwT (k + 2) (.inr (0, 8)) (prT a 5 (k + 1) (nwT (k + 1) (.inr (0, 8)) (prT a 4 k (nwT k (.inr (0, 8)) T))))))))) (n := 80) (show ((prT a 7 (k + 3) (nwT (k + 3) (.inr (0, 8)) (prT a 6 (k + 2) (nwT (k + 2) (.inr (0, 8)) (prT a 5 (k + 1) (nwT (k + 1) (.inr (0, 8)) (prT a 4 k (nwT k (.inr (0, 8)) T))))))))).1.length = k + 4 from (nw_len (show _ = k + 3 from (nw_len (show _ = k + 2 from (nw_len (show _ = k + 1 from (nw_len (show _ = k from hl))))))))) C dX8_init_39 (by decide) (by decide) (by decide) (by rw [hR]; exact ⟨by decide, by decide⟩) ?_
  refine q_putR (T := (nwT (k + 4) (.inr (0, 80)) (prT a 7 (k + 3) (nwT (k + 3) (.inr (0, 8)) (prT a 6 (k + 2) (nwT (k + 2) (.inr (0, 8)) (prT a 5 (k + 1) (nwT (k + 1) (.inr (0, 8)) (prT a 4 k (nwT k (.inr (0, 8)) T)))))))))) (b := k + 4) C ffX8_24 hm dX8_init_41 (((((((((((PX.rfl' T).nw _ _).pr _ _ _).nw _ _).pr _ _ _).nw _ _).pr _ _ _).nw _ _).pr _ _ _).nw _ _).get ha) ?_
  refine r_aload_n C dX8_init_44 0 rfl ?_
  refine r_bipush (v := 6) C dX8_init_45 (by decide) ?_
  refine q_newi (T := (prT a 8 (k + 4) (nwT (k + 4) (.inr (0, 80)) (prT a 7 (k + 3) (nwT (k + 3) (.inr (0, 8)) (prT a 6 (k + 2) (nwT (k + 2) (.inr (0, 8)) (prT a 5 (k + 1) (nwT (k + 1) (.inr (0, 8)) (prT a 4 k (nwT k (.inr (0, 8)) T))))))))))) (n := 6) (show ((prT a 8 (k + 4) (nwT (k + 4) (.inr (0, 80)) (prT a 7 (k + 3) (nwT (k + 3) (.inr (0, 8)) (prT a 6 (k + 2) (nwT (k + 2) (.inr (0, 8)) (prT a 5 (k + 1) (nwT (k + 1) (.inr (0, 8)) (prT a 4 k (nwT k (.inr (0, 8)) T))))))))))).1.length = k + 5 from (nw_len (show _ = k + 4 from (nw_len (show _ = k + 3 from (nw_len (show _ = k + 2 from (nw_len (show _ = k + 1 from (nw_len (show _ = k from hl))))))))))) C dX8_init_47 (by decide) (by decide) (by decide) (by rw [hR]; exact ⟨by decide, by decide⟩) ?_
  refine q_putR (T := (nwT (k + 5) (.inr (0, 6)) (prT a 8 (k + 4) (nwT (k + 4) (.inr (0, 80)) (prT a 7 (k + 3) (nwT (k + 3) (.inr (0, 8)) (prT a 6 (k + 2) (nwT (k + 2) (.inr (0, 8)) (prT a 5 (k + 1) (nwT (k + 1) (.inr (0, 8)) (prT a 4 k (nwT k (.inr (0, 8)) T)))))))))))) (b := k + 5) C ffX8_27 hm dX8_init_49 (((((((((((((PX.rfl' T).nw _ _).pr _ _ _).nw _ _).pr _ _ _).nw _ _).pr _ _ _).nw _ _).pr _ _ _).nw _ _).pr _ _ _).nw _ _).get ha) ?_
  exact r_vret C dX8_init_52 hr hE
def iX9 (a k : Nat) (T : TT) : TT := (prT a 1 (k + 1) (nwT (k + 1) (.inr (0, 901)) (prT a 0 k (nwT k (.inr (0, 901)) T))))
theorem iX9_px {a k : Nat} {T : TT} : PX T (iX9 a k T) := (((((PX.rfl' T).nw _ _).pr _ _ _).nw _ _).pr _ _ _)
theorem iX9_len {a k : Nat} {T : TT} (hl : T.1.length = k) : (iX9 a k T).1.length = k + 2 := (nw_len (show _ = k + 1 from (nw_len (show _ = k from hl))))
set_option maxRecDepth 100000 in
set_option maxHeartbeats 4000000 in
theorem tX9_init {l : Launch} {w : WP} {T : TT} {a k : Nat} (hl : T.1.length = k) (ha : T.1[a]? = some (.inl 9)) : CM l w yX9_init cX9_init 1 none 1 2 1802 T.1 T.2.1 [.ref (wb w + a)] T.2.2 none (iX9 a k T).1 (iX9 a k T).2.1 (iX9 a k T).2.2 := by
  refine CM.of (plainFor_of_name pf_X9) (Nat.le_of_ble_eq_true rfl) fun Z C hr hm hR hw hl0 hE => ?_
  subst hw; subst hl0
  have C : CX Z cX9_init 1 RX9 := C
  have hm : (zme Z).name = "<init>" := hm
  show Wm Z (0, 0, T.1, T.2.1) T.2.2 0 [(0, .ref (wb (zw Z) + a))] []
  refine r_aload_n C dX9_init_0 0 rfl ?_
  refine r_oinit C oiX9_3 ow dX9_init_1 (by rw [hR]; exact ⟨by decide, by decide⟩) (by decide) ?_
  refine r_aload_n C dX9_init_4 0 rfl ?_
  refine r_sipush (v := 901) C dX9_init_5 (by decide) ?_
  refine q_newi (T := T) (n := 901) (show (T).1.length = k from hl) C dX9_init_8 (by decide) (by decide) (by decide) (by rw [hR]; exact ⟨by decide, by decide⟩) ?_
  refine q_putR (T := (nwT k (.inr (0, 901)) T)) (b := k) C ffX9_9 hm dX9_init_10 (((PX.rfl' T).nw _ _).get ha) ?_
  refine r_aload_n C dX9_init_13 0 rfl ?_
  refine r_sipush (v := 901) C dX9_init_14 (by decide) ?_
  refine q_newi (T := (prT a 0 k (nwT k (.inr (0, 901)) T))) (n := 901) (show ((prT a 0 k (nwT k (.inr (0, 901)) T))).1.length = k + 1 from (nw_len (show _ = k from hl))) C dX9_init_17 (by decide) (by decide) (by decide) (by rw [hR]; exact ⟨by decide, by decide⟩) ?_
  refine q_putR (T := (nwT (k + 1) (.inr (0, 901)) (prT a 0 k (nwT k (.inr (0, 901)) T)))) (b := k + 1) C ffX9_15 hm dX9_init_19 (((((PX.rfl' T).nw _ _).pr _ _ _).nw _ _).get ha) ?_
  exact r_vret C dX9_init_22 hr hE
def iX5 (a k : Nat) (T : TT) : TT := (prT a 3 (k + 11) (iX9 (k + 11) (k + 12) (nwT (k + 11) (.inl 9) (prT a 0 k (iX7 k (k + 1) (nwT k (.inl 7) T))))))
theorem iX5_px {a k : Nat} {T : TT} : PX T (iX5 a k T) := (((((((PX.rfl' T).nw _ _).tr iX7_px).pr _ _ _).nw _ _).tr iX9_px).pr _ _ _)
theorem iX5_len {a k : Nat} {T : TT} (hl : T.1.length = k) : (iX5 a k T).1.length = k + 14 := (iX9_len (show ((nwT (k + 11) (.inl 9) (prT a 0 k (iX7 k (k + 1) (nwT k (.inl 7) T))))).1.length = k + 12 from (nw_len (show _ = k + 11 from (iX7_len (show ((nwT k (.inl 7) T)).1.length = k + 1 from (nw_len (show _ = k from hl))))))))
set_option maxRecDepth 100000 in
set_option maxHeartbeats 4000000 in
theorem tX5_init {l : Launch} {w : WP} {T : TT} {a k : Nat} (hl : T.1.length = k) (ha : T.1[a]? = some (.inl 5)) : CM l w yX5_init cX5_init 1 none 3 14 2782 T.1 T.2.1 [.ref (wb w + a)] T.2.2 none (iX5 a k T).1 (iX5 a k T).2.1 (iX5 a k T).2.2 := by
  refine CM.of (plainFor_of_name pf_X5) (Nat.le_of_ble_eq_true rfl) fun Z C hr hm hR hw hl0 hE => ?_
  subst hw; subst hl0
  have C : CX Z cX5_init 1 RX5 := C
  have hm : (zme Z).name = "<init>" := hm
  show Wm Z (0, 0, T.1, T.2.1) T.2.2 0 [(0, .ref (wb (zw Z) + a))] []
  refine r_aload_n C dX5_init_0 0 rfl ?_
  refine r_oinit C oiX5_3 ow dX5_init_1 (by rw [hR]; exact ⟨by decide, by decide⟩) (by decide) ?_
  refine r_aload_n C dX5_init_4 0 rfl ?_
  refine q_new (T := T) (show (T).1.length = k from hl) C kc7 tyX7_ok df7 clX5_9 in7 ii7 dX5_init_5 (by rw [hR]; exact ⟨by decide, by decide⟩) ?_
  refine r_dup C dX5_init_8 rfl ?_
  refine r_callIN (a := k) (As := []) (rest := [.ref (wb (zw Z) + k), .ref (wb (zw Z) + a)]) C (by decide) wmX7_init wiX7_init wcX7_init wdX7_init rfl dX5_init_9 (tX7_init (T := (nwT k (.inl 7) T)) (a := k) (k := k + 1) (show ((nwT k (.inl 7) T)).1.length = k + 1 from (nw_len (show _ = k from hl))) (by exact nw_new (show (T).1.length = k from hl))) rfl rfl (by rw [hR]; exact ⟨nle rfl, nle rfl⟩) (by rw [hR]; exact ⟨nle rfl, nle rfl⟩) (nle rfl) ?_
  show Wm Z (11, 977, (iX7 k (k + 1) (nwT k (.inl 7) T)).1, (iX7 k (k + 1) (nwT k (.inl 7) T)).2.1) (iX7 k (k + 1) (nwT k (.inl 7) T)).2.2 12 [(0, .ref (wb (zw Z) + a))] [.ref (wb (zw Z) + k), .ref (wb (zw Z) + a)]
  refine q_putR (T := (iX7 k (k + 1) (nwT k (.inl 7) T))) (b := k) C ffX5_12 hm dX5_init_12 ((((PX.rfl' T).nw _ _).tr iX7_px).get ha) ?_
  refine r_aload_n C dX5_init_15 0 rfl ?_
  refine q_new (T := (prT a 0 k (iX7 k (k + 1) (nwT k (.inl 7) T)))) (show ((prT a 0 k (iX7 k (k + 1) (nwT k (.inl 7) T)))).1.length = k + 11 from (iX7_len (show ((nwT k (.inl 7) T)).1.length = k + 1 from (nw_len (show _ = k from hl))))) C kc9 tyX9_ok df9 clX5_18 in9 ii9 dX5_init_16 (by rw [hR]; exact ⟨by decide, by decide⟩) ?_
  refine r_dup C dX5_init_19 rfl ?_
  refine r_callIN (a := k + 11) (As := []) (rest := [.ref (wb (zw Z) + (k + 11)), .ref (wb (zw Z) + a)]) C (by decide) wmX9_init wiX9_init wcX9_init wdX9_init rfl dX5_init_20 (tX9_init (T := (nwT (k + 11) (.inl 9) (prT a 0 k (iX7 k (k + 1) (nwT k (.inl 7) T))))) (a := k + 11) (k := k + 12) (show ((nwT (k + 11) (.inl 9) (prT a 0 k (iX7 k (k + 1) (nwT k (.inl 7) T))))).1.length = k + 12 from (nw_len (show _ = k + 11 from (iX7_len (show ((nwT k (.inl 7) T)).1.length = k + 1 from (nw_len (show _ = k from hl))))))) (by exact nw_new (show ((prT a 0 k (iX7 k (k + 1) (nwT k (.inl 7) T)))).1.length = k + 11 from (iX7_len (show ((nwT k (.inl 7) T)).1.length = k + 1 from (nw_len (show _ = k from hl))))))) rfl rfl (by rw [hR]; exact ⟨nle rfl, nle rfl⟩) (by rw [hR]; exact ⟨nle rfl, nle rfl⟩) (nle rfl) ?_
  show Wm Z (14, 2782, (iX9 (k + 11) (k + 12) (nwT (k + 11) (.inl 9) (prT a 0 k (iX7 k (k + 1) (nwT k (.inl 7) T))))).1, (iX9 (k + 11) (k + 12) (nwT (k + 11) (.inl 9) (prT a 0 k (iX7 k (k + 1) (nwT k (.inl 7) T))))).2.1) (iX9 (k + 11) (k + 12) (nwT (k + 11) (.inl 9) (prT a 0 k (iX7 k (k + 1) (nwT k (.inl 7) T))))).2.2 23 [(0, .ref (wb (zw Z) + a))] [.ref (wb (zw Z) + (k + 11)), .ref (wb (zw Z) + a)]
  refine q_putR (T := (iX9 (k + 11) (k + 12) (nwT (k + 11) (.inl 9) (prT a 0 k (iX7 k (k + 1) (nwT k (.inl 7) T)))))) (b := k + 11) C ffX5_21 hm dX5_init_23 (((((((PX.rfl' T).nw _ _).tr iX7_px).pr _ _ _).nw _ _).tr iX9_px).get ha) ?_
  exact r_vret C dX5_init_26 hr hE
def iX4 (a k : Nat) (T : TT) : TT := (prT a 2 (k + 2) (nwT (k + 2) (.inr (0, 8)) (prT a 1 (k + 1) (nwT (k + 1) (.inr (0, 8)) (prT a 0 k (nwT k (.inr (0, 64)) T))))))
theorem iX4_px {a k : Nat} {T : TT} : PX T (iX4 a k T) := (((((((PX.rfl' T).nw _ _).pr _ _ _).nw _ _).pr _ _ _).nw _ _).pr _ _ _)
theorem iX4_len {a k : Nat} {T : TT} (hl : T.1.length = k) : (iX4 a k T).1.length = k + 3 := (nw_len (show _ = k + 2 from (nw_len (show _ = k + 1 from (nw_len (show _ = k from hl))))))
set_option maxRecDepth 100000 in
set_option maxHeartbeats 4000000 in
theorem tX4_init {l : Launch} {w : WP} {T : TT} {a k : Nat} (hl : T.1.length = k) (ha : T.1[a]? = some (.inl 4)) : CM l w yX4_init cX4_init 1 none 1 3 80 T.1 T.2.1 [.ref (wb w + a)] T.2.2 none (iX4 a k T).1 (iX4 a k T).2.1 (iX4 a k T).2.2 := by
  refine CM.of (plainFor_of_name pf_X4) (Nat.le_of_ble_eq_true rfl) fun Z C hr hm hR hw hl0 hE => ?_
  subst hw; subst hl0
  have C : CX Z cX4_init 1 RX4 := C
  have hm : (zme Z).name = "<init>" := hm
  show Wm Z (0, 0, T.1, T.2.1) T.2.2 0 [(0, .ref (wb (zw Z) + a))] []
  refine r_aload_n C dX4_init_0 0 rfl ?_
  refine r_oinit C oiX4_3 ow dX4_init_1 (by rw [hR]; exact ⟨by decide, by decide⟩) (by decide) ?_
  refine r_aload_n C dX4_init_4 0 rfl ?_
  refine r_bipush (v := 64) C dX4_init_5 (by decide) ?_
  refine q_newi (T := T) (n := 64) (show (T).1.length = k from hl) C dX4_init_7 (by decide) (by decide) (by decide) (by rw [hR]; exact ⟨by decide, by decide⟩) ?_
  refine q_putR (T := (nwT k (.inr (0, 64)) T)) (b := k) C ffX4_9 hm dX4_init_9 (((PX.rfl' T).nw _ _).get ha) ?_
  refine r_aload_n C dX4_init_12 0 rfl ?_
  refine r_bipush (v := 8) C dX4_init_13 (by decide) ?_
  refine q_newi (T := (prT a 0 k (nwT k (.inr (0, 64)) T))) (n := 8) (show ((prT a 0 k (nwT k (.inr (0, 64)) T))).1.length = k + 1 from (nw_len (show _ = k from hl))) C dX4_init_15 (by decide) (by decide) (by decide) (by rw [hR]; exact ⟨by decide, by decide⟩) ?_
  refine q_putR (T := (nwT (k + 1) (.inr (0, 8)) (prT a 0 k (nwT k (.inr (0, 64)) T)))) (b := k + 1) C ffX4_15 hm dX4_init_17 (((((PX.rfl' T).nw _ _).pr _ _ _).nw _ _).get ha) ?_
  refine r_aload_n C dX4_init_20 0 rfl ?_
  refine r_bipush (v := 8) C dX4_init_21 (by decide) ?_
  refine q_newi (T := (prT a 1 (k + 1) (nwT (k + 1) (.inr (0, 8)) (prT a 0 k (nwT k (.inr (0, 64)) T))))) (n := 8) (show ((prT a 1 (k + 1) (nwT (k + 1) (.inr (0, 8)) (prT a 0 k (nwT k (.inr (0, 64)) T))))).1.length = k + 2 from (nw_len (show _ = k + 1 from (nw_len (show _ = k from hl))))) C dX4_init_23 (by decide) (by decide) (by decide) (by rw [hR]; exact ⟨by decide, by decide⟩) ?_
  refine q_putR (T := (nwT (k + 2) (.inr (0, 8)) (prT a 1 (k + 1) (nwT (k + 1) (.inr (0, 8)) (prT a 0 k (nwT k (.inr (0, 64)) T)))))) (b := k + 2) C ffX4_18 hm dX4_init_25 (((((((PX.rfl' T).nw _ _).pr _ _ _).nw _ _).pr _ _ _).nw _ _).get ha) ?_
  exact r_vret C dX4_init_28 hr hE
def iX10 (a k : Nat) (T : TT) : TT := (piT a 1 (-1) (prT a 0 k (nwT k (.inr (3, 40)) T)))
theorem iX10_px {a k : Nat} {T : TT} : PX T (iX10 a k T) := ((((PX.rfl' T).nw _ _).pr _ _ _).pi _ _ _)
theorem iX10_len {a k : Nat} {T : TT} (hl : T.1.length = k) : (iX10 a k T).1.length = k + 1 := (nw_len (show _ = k from hl))
set_option maxRecDepth 100000 in
set_option maxHeartbeats 4000000 in
theorem tX10_init {l : Launch} {w : WP} {T : TT} {a k : Nat} (hl : T.1.length = k) (ha : T.1[a]? = some (.inl 10)) : CM l w yX10_init cX10_init 1 none 1 1 40 T.1 T.2.1 [.ref (wb w + a)] T.2.2 none (iX10 a k T).1 (iX10 a k T).2.1 (iX10 a k T).2.2 := by
  refine CM.of (plainFor_of_name pf_X10) (Nat.le_of_ble_eq_true rfl) fun Z C hr hm hR hw hl0 hE => ?_
  subst hw; subst hl0
  have C : CX Z cX10_init 1 RX10 := C
  have hm : (zme Z).name = "<init>" := hm
  show Wm Z (0, 0, T.1, T.2.1) T.2.2 0 [(0, .ref (wb (zw Z) + a))] []
  refine r_aload_n C dX10_init_0 0 rfl ?_
  refine r_oinit C oiX10_3 ow dX10_init_1 (by rw [hR]; exact ⟨by decide, by decide⟩) (by decide) ?_
  refine r_aload_n C dX10_init_4 0 rfl ?_
  refine r_bipush (v := 40) C dX10_init_5 (by decide) ?_
  refine q_newl (T := T) (n := 40) (show (T).1.length = k from hl) C dX10_init_7 (by decide) (by decide) (by decide) (by rw [hR]; exact ⟨by decide, by decide⟩) ?_
  refine q_putR (T := (nwT k (.inr (3, 40)) T)) (b := k) C ffX10_9 hm dX10_init_9 (((PX.rfl' T).nw _ _).get ha) ?_
  refine r_aload_n C dX10_init_12 0 rfl ?_
  refine r_iconst (v := (-1)) C dX10_init_13 (by decide) ?_
  refine q_putI (T := (prT a 0 k (nwT k (.inr (3, 40)) T))) C fiX10_15 dX10_init_14 ((((PX.rfl' T).nw _ _).pr _ _ _).get ha) ?_
  exact r_vret C dX10_init_17 hr hE
def iX0 (a k b1 b2 b3 : Nat) (T : TT) : TT := (prT a 2 b3 (prT a 1 b2 (prT a 0 b1 (prT a 5 (k + 2) (nwT (k + 2) (.inr (0, 6)) (prT a 4 (k + 1) (nwT (k + 1) (.inr (0, 432)) (prT a 3 k (nwT k (.inr (0, 720)) T)))))))))
theorem iX0_px {a k b1 b2 b3 : Nat} {T : TT} : PX T (iX0 a k b1 b2 b3 T) := ((((((((((PX.rfl' T).nw _ _).pr _ _ _).nw _ _).pr _ _ _).nw _ _).pr _ _ _).pr _ _ _).pr _ _ _).pr _ _ _)
theorem iX0_len {a k b1 b2 b3 : Nat} {T : TT} (hl : T.1.length = k) : (iX0 a k b1 b2 b3 T).1.length = k + 3 := (nw_len (show _ = k + 2 from (nw_len (show _ = k + 1 from (nw_len (show _ = k from hl))))))
set_option maxRecDepth 100000 in
set_option maxHeartbeats 4000000 in
theorem tX0_init {l : Launch} {w : WP} {T : TT} {a k : Nat} {b1 b2 b3 : Nat} (hl : T.1.length = k) (ha : T.1[a]? = some (.inl 0)) : CM l w yX0_init cX0_init 4 none 1 3 1158 T.1 T.2.1 [.ref (wb w + a), .ref (wb w + b1), .ref (wb w + b2), .ref (wb w + b3)] T.2.2 none (iX0 a k b1 b2 b3 T).1 (iX0 a k b1 b2 b3 T).2.1 (iX0 a k b1 b2 b3 T).2.2 := by
  refine CM.of (plainFor_of_name pf_X0) (Nat.le_of_ble_eq_true rfl) fun Z C hr hm hR hw hl0 hE => ?_
  subst hw; subst hl0
  have C : CX Z cX0_init 4 RX0 := C
  have hm : (zme Z).name = "<init>" := hm
  show Wm Z (0, 0, T.1, T.2.1) T.2.2 0 [(0, .ref (wb (zw Z) + a)), (1, .ref (wb (zw Z) + b1)), (2, .ref (wb (zw Z) + b2)), (3, .ref (wb (zw Z) + b3))] []
  refine r_aload_n C dX0_init_0 0 rfl ?_
  refine r_oinit C oiX0_3 ow dX0_init_1 (by rw [hR]; exact ⟨by decide, by decide⟩) (by decide) ?_
  refine r_aload_n C dX0_init_4 0 rfl ?_
  refine r_sipush (v := 720) C dX0_init_5 (by decide) ?_
  refine q_newi (T := T) (n := 720) (show (T).1.length = k from hl) C dX0_init_8 (by decide) (by decide) (by decide) (by rw [hR]; exact ⟨by decide, by decide⟩) ?_
  refine q_putR (T := (nwT k (.inr (0, 720)) T)) (b := k) C ffX0_9 hm dX0_init_10 (((PX.rfl' T).nw _ _).get ha) ?_
  refine r_aload_n C dX0_init_13 0 rfl ?_
  refine r_sipush (v := 432) C dX0_init_14 (by decide) ?_
  refine q_newi (T := (prT a 3 k (nwT k (.inr (0, 720)) T))) (n := 432) (show ((prT a 3 k (nwT k (.inr (0, 720)) T))).1.length = k + 1 from (nw_len (show _ = k from hl))) C dX0_init_17 (by decide) (by decide) (by decide) (by rw [hR]; exact ⟨by decide, by decide⟩) ?_
  refine q_putR (T := (nwT (k + 1) (.inr (0, 432)) (prT a 3 k (nwT k (.inr (0, 720)) T)))) (b := k + 1) C ffX0_15 hm dX0_init_19 (((((PX.rfl' T).nw _ _).pr _ _ _).nw _ _).get ha) ?_
  refine r_aload_n C dX0_init_22 0 rfl ?_
  refine r_bipush (v := 6) C dX0_init_23 (by decide) ?_
  refine q_newi (T := (prT a 4 (k + 1) (nwT (k + 1) (.inr (0, 432)) (prT a 3 k (nwT k (.inr (0, 720)) T))))) (n := 6) (show ((prT a 4 (k + 1) (nwT (k + 1) (.inr (0, 432)) (prT a 3 k (nwT k (.inr (0, 720)) T))))).1.length = k + 2 from (nw_len (show _ = k + 1 from (nw_len (show _ = k from hl))))) C dX0_init_25 (by decide) (by decide) (by decide) (by rw [hR]; exact ⟨by decide, by decide⟩) ?_
  refine q_putR (T := (nwT (k + 2) (.inr (0, 6)) (prT a 4 (k + 1) (nwT (k + 1) (.inr (0, 432)) (prT a 3 k (nwT k (.inr (0, 720)) T)))))) (b := k + 2) C ffX0_18 hm dX0_init_27 (((((((PX.rfl' T).nw _ _).pr _ _ _).nw _ _).pr _ _ _).nw _ _).get ha) ?_
  refine r_aload_n C dX0_init_30 0 rfl ?_
  refine r_aload_n C dX0_init_31 1 rfl ?_
  refine q_putR (T := (prT a 5 (k + 2) (nwT (k + 2) (.inr (0, 6)) (prT a 4 (k + 1) (nwT (k + 1) (.inr (0, 432)) (prT a 3 k (nwT k (.inr (0, 720)) T))))))) (b := b1) C ffX0_21 hm dX0_init_32 ((((((((PX.rfl' T).nw _ _).pr _ _ _).nw _ _).pr _ _ _).nw _ _).pr _ _ _).get ha) ?_
  refine r_aload_n C dX0_init_35 0 rfl ?_
  refine r_aload_n C dX0_init_36 2 rfl ?_
  refine q_putR (T := (prT a 0 b1 (prT a 5 (k + 2) (nwT (k + 2) (.inr (0, 6)) (prT a 4 (k + 1) (nwT (k + 1) (.inr (0, 432)) (prT a 3 k (nwT k (.inr (0, 720)) T)))))))) (b := b2) C ffX0_25 hm dX0_init_37 (((((((((PX.rfl' T).nw _ _).pr _ _ _).nw _ _).pr _ _ _).nw _ _).pr _ _ _).pr _ _ _).get ha) ?_
  refine r_aload_n C dX0_init_40 0 rfl ?_
  refine r_aload_n C dX0_init_41 3 rfl ?_
  refine q_putR (T := (prT a 1 b2 (prT a 0 b1 (prT a 5 (k + 2) (nwT (k + 2) (.inr (0, 6)) (prT a 4 (k + 1) (nwT (k + 1) (.inr (0, 432)) (prT a 3 k (nwT k (.inr (0, 720)) T))))))))) (b := b3) C ffX0_29 hm dX0_init_42 ((((((((((PX.rfl' T).nw _ _).pr _ _ _).nw _ _).pr _ _ _).nw _ _).pr _ _ _).pr _ _ _).pr _ _ _).get ha) ?_
  exact r_vret C dX0_init_45 hr hE
def iX2 (a k : Nat) (T : TT) : TT := (prT a 1 (k + 11) (iX8 (k + 11) (k + 12) (nwT (k + 11) (.inl 8) (prT a 0 k (iX7 k (k + 1) (nwT k (.inl 7) T))))))
theorem iX2_px {a k : Nat} {T : TT} : PX T (iX2 a k T) := (((((((PX.rfl' T).nw _ _).tr iX7_px).pr _ _ _).nw _ _).tr iX8_px).pr _ _ _)
theorem iX2_len {a k : Nat} {T : TT} (hl : T.1.length = k) : (iX2 a k T).1.length = k + 18 := (iX8_len (show ((nwT (k + 11) (.inl 8) (prT a 0 k (iX7 k (k + 1) (nwT k (.inl 7) T))))).1.length = k + 12 from (nw_len (show _ = k + 11 from (iX7_len (show ((nwT k (.inl 7) T)).1.length = k + 1 from (nw_len (show _ = k from hl))))))))
set_option maxRecDepth 100000 in
set_option maxHeartbeats 4000000 in
theorem tX2_init {l : Launch} {w : WP} {T : TT} {a k : Nat} (hl : T.1.length = k) (ha : T.1[a]? = some (.inl 2)) : CM l w yX2_init cX2_init 1 none 3 18 1105 T.1 T.2.1 [.ref (wb w + a)] T.2.2 none (iX2 a k T).1 (iX2 a k T).2.1 (iX2 a k T).2.2 := by
  refine CM.of (plainFor_of_name pf_X2) (Nat.le_of_ble_eq_true rfl) fun Z C hr hm hR hw hl0 hE => ?_
  subst hw; subst hl0
  have C : CX Z cX2_init 1 RX2 := C
  have hm : (zme Z).name = "<init>" := hm
  show Wm Z (0, 0, T.1, T.2.1) T.2.2 0 [(0, .ref (wb (zw Z) + a))] []
  refine r_aload_n C dX2_init_0 0 rfl ?_
  refine r_oinit C oiX2_1 ow dX2_init_1 (by rw [hR]; exact ⟨by decide, by decide⟩) (by decide) ?_
  refine r_aload_n C dX2_init_4 0 rfl ?_
  refine q_new (T := T) (show (T).1.length = k from hl) C kc7 tyX7_ok df7 clX2_7 in7 ii7 dX2_init_5 (by rw [hR]; exact ⟨by decide, by decide⟩) ?_
  refine r_dup C dX2_init_8 rfl ?_
  refine r_callIN (a := k) (As := []) (rest := [.ref (wb (zw Z) + k), .ref (wb (zw Z) + a)]) C (by decide) wmX7_init wiX7_init wcX7_init wdX7_init rfl dX2_init_9 (tX7_init (T := (nwT k (.inl 7) T)) (a := k) (k := k + 1) (show ((nwT k (.inl 7) T)).1.length = k + 1 from (nw_len (show _ = k from hl))) (by exact nw_new (show (T).1.length = k from hl))) rfl rfl (by rw [hR]; exact ⟨nle rfl, nle rfl⟩) (by rw [hR]; exact ⟨nle rfl, nle rfl⟩) (nle rfl) ?_
  show Wm Z (11, 977, (iX7 k (k + 1) (nwT k (.inl 7) T)).1, (iX7 k (k + 1) (nwT k (.inl 7) T)).2.1) (iX7 k (k + 1) (nwT k (.inl 7) T)).2.2 12 [(0, .ref (wb (zw Z) + a))] [.ref (wb (zw Z) + k), .ref (wb (zw Z) + a)]
  refine q_putR (T := (iX7 k (k + 1) (nwT k (.inl 7) T))) (b := k) C ffX2_10 hm dX2_init_12 ((((PX.rfl' T).nw _ _).tr iX7_px).get ha) ?_
  refine r_aload_n C dX2_init_15 0 rfl ?_
  refine q_new (T := (prT a 0 k (iX7 k (k + 1) (nwT k (.inl 7) T)))) (show ((prT a 0 k (iX7 k (k + 1) (nwT k (.inl 7) T)))).1.length = k + 11 from (iX7_len (show ((nwT k (.inl 7) T)).1.length = k + 1 from (nw_len (show _ = k from hl))))) C kc8 tyX8_ok df8 clX2_16 in8 ii8 dX2_init_16 (by rw [hR]; exact ⟨by decide, by decide⟩) ?_
  refine r_dup C dX2_init_19 rfl ?_
  refine r_callIN (a := k + 11) (As := []) (rest := [.ref (wb (zw Z) + (k + 11)), .ref (wb (zw Z) + a)]) C (by decide) wmX8_init wiX8_init wcX8_init wdX8_init rfl dX2_init_20 (tX8_init (T := (nwT (k + 11) (.inl 8) (prT a 0 k (iX7 k (k + 1) (nwT k (.inl 7) T))))) (a := k + 11) (k := k + 12) (show ((nwT (k + 11) (.inl 8) (prT a 0 k (iX7 k (k + 1) (nwT k (.inl 7) T))))).1.length = k + 12 from (nw_len (show _ = k + 11 from (iX7_len (show ((nwT k (.inl 7) T)).1.length = k + 1 from (nw_len (show _ = k from hl))))))) (by exact nw_new (show ((prT a 0 k (iX7 k (k + 1) (nwT k (.inl 7) T)))).1.length = k + 11 from (iX7_len (show ((nwT k (.inl 7) T)).1.length = k + 1 from (nw_len (show _ = k from hl))))))) rfl rfl (by rw [hR]; exact ⟨nle rfl, nle rfl⟩) (by rw [hR]; exact ⟨nle rfl, nle rfl⟩) (nle rfl) ?_
  show Wm Z (18, 1105, (iX8 (k + 11) (k + 12) (nwT (k + 11) (.inl 8) (prT a 0 k (iX7 k (k + 1) (nwT k (.inl 7) T))))).1, (iX8 (k + 11) (k + 12) (nwT (k + 11) (.inl 8) (prT a 0 k (iX7 k (k + 1) (nwT k (.inl 7) T))))).2.1) (iX8 (k + 11) (k + 12) (nwT (k + 11) (.inl 8) (prT a 0 k (iX7 k (k + 1) (nwT k (.inl 7) T))))).2.2 23 [(0, .ref (wb (zw Z) + a))] [.ref (wb (zw Z) + (k + 11)), .ref (wb (zw Z) + a)]
  refine q_putR (T := (iX8 (k + 11) (k + 12) (nwT (k + 11) (.inl 8) (prT a 0 k (iX7 k (k + 1) (nwT k (.inl 7) T)))))) (b := k + 11) C ffX2_19 hm dX2_init_23 (((((((PX.rfl' T).nw _ _).tr iX7_px).pr _ _ _).nw _ _).tr iX8_px).get ha) ?_
  exact r_vret C dX2_init_26 hr hE
