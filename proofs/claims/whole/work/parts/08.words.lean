theorem kx_X0 : ∀ u ∈ u_ws RX0 TX0 2, u ∈ Ug := by
  intro u hu
  obtain ⟨k, hk, rfl⟩ := List.mem_map.mp hu
  have hk := List.mem_range.mp hk
  match k, hk with
  | 0, _ => exact ug_2 (List.mem_of_getElem? (i := 14) rfl) rfl
  | 1, _ => exact ug_2 (List.mem_of_getElem? (i := 16) rfl) rfl
  | k + 2, h => exact absurd h (by omega)
theorem kf_X0 : Kf 0 RX0 TX0 2 tyX0 := ⟨kx_X0, rfl, tyX0_ok, nmX0⟩
theorem kx_X1 : ∀ u ∈ u_ws RX1 TX1 4, u ∈ Ug := by
  intro u hu
  obtain ⟨k, hk, rfl⟩ := List.mem_map.mp hu
  have hk := List.mem_range.mp hk
  match k, hk with
  | 0, _ => exact ug_1 (List.mem_of_getElem? (i := 97) rfl) rfl
  | 1, _ => exact ug_1 (List.mem_of_getElem? (i := 99) rfl) rfl
  | 2, _ => exact ug_1 (List.mem_of_getElem? (i := 101) rfl) rfl
  | 3, _ => exact ug_1 (List.mem_of_getElem? (i := 103) rfl) rfl
  | k + 4, h => exact absurd h (by omega)
theorem kf_X1 : Kf 1 RX1 TX1 4 tyX1 := ⟨kx_X1, rfl, tyX1_ok, nmX1⟩
theorem kx_X2 : ∀ u ∈ u_ws RX2 TX2 7, u ∈ Ug := by
  intro u hu
  obtain ⟨k, hk, rfl⟩ := List.mem_map.mp hu
  have hk := List.mem_range.mp hk
  match k, hk with
  | 0, _ => exact ug_1 (List.mem_of_getElem? (i := 231) rfl) rfl
  | 1, _ => exact ug_1 (List.mem_of_getElem? (i := 233) rfl) rfl
  | 2, _ => exact ug_1 (List.mem_of_getElem? (i := 235) rfl) rfl
  | 3, _ => exact ug_1 (List.mem_of_getElem? (i := 237) rfl) rfl
  | 4, _ => exact ug_1 (List.mem_of_getElem? (i := 239) rfl) rfl
  | 5, _ => exact ug_2 (List.mem_of_getElem? (i := 1) rfl) rfl
  | 6, _ => exact ug_2 (List.mem_of_getElem? (i := 3) rfl) rfl
  | k + 7, h => exact absurd h (by omega)
theorem kf_X2 : Kf 2 RX2 TX2 7 tyX2 := ⟨kx_X2, rfl, tyX2_ok, nmX2⟩
theorem kx_X3 : ∀ u ∈ u_ws RX3 TX3 5, u ∈ Ug := by
  intro u hu
  obtain ⟨k, hk, rfl⟩ := List.mem_map.mp hu
  have hk := List.mem_range.mp hk
  match k, hk with
  | 0, _ => exact ug_1 (List.mem_of_getElem? (i := 207) rfl) rfl
  | 1, _ => exact ug_1 (List.mem_of_getElem? (i := 209) rfl) rfl
  | 2, _ => exact ug_1 (List.mem_of_getElem? (i := 211) rfl) rfl
  | 3, _ => exact ug_1 (List.mem_of_getElem? (i := 213) rfl) rfl
  | 4, _ => exact ug_1 (List.mem_of_getElem? (i := 215) rfl) rfl
  | k + 5, h => exact absurd h (by omega)
theorem kf_X3 : Kf 3 RX3 TX3 5 tyX3 := ⟨kx_X3, rfl, tyX3_ok, nmX3⟩
theorem kx_X4 : ∀ u ∈ u_ws RX4 TX4 12, u ∈ Ug := by
  intro u hu
  obtain ⟨k, hk, rfl⟩ := List.mem_map.mp hu
  have hk := List.mem_range.mp hk
  match k, hk with
  | 0, _ => exact ug_1 (List.mem_of_getElem? (i := 174) rfl) rfl
  | 1, _ => exact ug_1 (List.mem_of_getElem? (i := 176) rfl) rfl
  | 2, _ => exact ug_1 (List.mem_of_getElem? (i := 178) rfl) rfl
  | 3, _ => exact ug_1 (List.mem_of_getElem? (i := 180) rfl) rfl
  | 4, _ => exact ug_1 (List.mem_of_getElem? (i := 182) rfl) rfl
  | 5, _ => exact ug_1 (List.mem_of_getElem? (i := 184) rfl) rfl
  | 6, _ => exact ug_1 (List.mem_of_getElem? (i := 186) rfl) rfl
  | 7, _ => exact ug_1 (List.mem_of_getElem? (i := 188) rfl) rfl
  | 8, _ => exact ug_1 (List.mem_of_getElem? (i := 190) rfl) rfl
  | 9, _ => exact ug_1 (List.mem_of_getElem? (i := 192) rfl) rfl
  | 10, _ => exact ug_1 (List.mem_of_getElem? (i := 194) rfl) rfl
  | 11, _ => exact ug_1 (List.mem_of_getElem? (i := 196) rfl) rfl
  | k + 12, h => exact absurd h (by omega)
theorem kf_X4 : Kf 4 RX4 TX4 12 tyX4 := ⟨kx_X4, rfl, tyX4_ok, nmX4⟩
theorem kx_X7 : ∀ u ∈ u_ws RX7 TX7 2, u ∈ Ug := by
  intro u hu
  obtain ⟨k, hk, rfl⟩ := List.mem_map.mp hu
  have hk := List.mem_range.mp hk
  match k, hk with
  | 0, _ => exact ug_1 (List.mem_of_getElem? (i := 44) rfl) rfl
  | 1, _ => exact ug_1 (List.mem_of_getElem? (i := 46) rfl) rfl
  | k + 2, h => exact absurd h (by omega)
theorem kf_X7 : Kf 5 RX7 TX7 2 tyX7 := ⟨kx_X7, rfl, tyX7_ok, nmX7⟩
theorem kx_X8 : ∀ u ∈ u_ws RX8 TX8 4, u ∈ Ug := by
  intro u hu
  obtain ⟨k, hk, rfl⟩ := List.mem_map.mp hu
  have hk := List.mem_range.mp hk
  match k, hk with
  | 0, _ => exact ug_1 (List.mem_of_getElem? (i := 141) rfl) rfl
  | 1, _ => exact ug_1 (List.mem_of_getElem? (i := 143) rfl) rfl
  | 2, _ => exact ug_1 (List.mem_of_getElem? (i := 145) rfl) rfl
  | 3, _ => exact ug_1 (List.mem_of_getElem? (i := 147) rfl) rfl
  | k + 4, h => exact absurd h (by omega)
theorem kf_X8 : Kf 6 RX8 TX8 4 tyX8 := ⟨kx_X8, rfl, tyX8_ok, nmX8⟩
theorem kx_X9 : ∀ u ∈ u_ws RX9 TX9 4, u ∈ Ug := by
  intro u hu
  obtain ⟨k, hk, rfl⟩ := List.mem_map.mp hu
  have hk := List.mem_range.mp hk
  match k, hk with
  | 0, _ => exact ug_1 (List.mem_of_getElem? (i := 120) rfl) rfl
  | 1, _ => exact ug_1 (List.mem_of_getElem? (i := 122) rfl) rfl
  | 2, _ => exact ug_1 (List.mem_of_getElem? (i := 124) rfl) rfl
  | 3, _ => exact ug_1 (List.mem_of_getElem? (i := 126) rfl) rfl
  | k + 4, h => exact absurd h (by omega)
theorem kf_X9 : Kf 7 RX9 TX9 4 tyX9 := ⟨kx_X9, rfl, tyX9_ok, nmX9⟩
theorem kx_X10 : ∀ u ∈ u_ws RX10 TX10 8, u ∈ Ug := by
  intro u hu
  obtain ⟨k, hk, rfl⟩ := List.mem_map.mp hu
  have hk := List.mem_range.mp hk
  match k, hk with
  | 0, _ => exact ug_1 (List.mem_of_getElem? (i := 69) rfl) rfl
  | 1, _ => exact ug_1 (List.mem_of_getElem? (i := 71) rfl) rfl
  | 2, _ => exact ug_1 (List.mem_of_getElem? (i := 73) rfl) rfl
  | 3, _ => exact ug_1 (List.mem_of_getElem? (i := 75) rfl) rfl
  | 4, _ => exact ug_1 (List.mem_of_getElem? (i := 77) rfl) rfl
  | 5, _ => exact ug_1 (List.mem_of_getElem? (i := 79) rfl) rfl
  | 6, _ => exact ug_1 (List.mem_of_getElem? (i := 81) rfl) rfl
  | 7, _ => exact ug_1 (List.mem_of_getElem? (i := 83) rfl) rfl
  | k + 8, h => exact absurd h (by omega)
theorem kf_X10 : Kf 8 RX10 TX10 8 tyX10 := ⟨kx_X10, rfl, tyX10_ok, nmX10⟩
theorem kx_X11 : ∀ u ∈ u_ws RX11 TX11 12, u ∈ Ug := by
  intro u hu
  obtain ⟨k, hk, rfl⟩ := List.mem_map.mp hu
  have hk := List.mem_range.mp hk
  match k, hk with
  | 0, _ => exact ug_2 (List.mem_of_getElem? (i := 32) rfl) rfl
  | 1, _ => exact ug_2 (List.mem_of_getElem? (i := 34) rfl) rfl
  | 2, _ => exact ug_2 (List.mem_of_getElem? (i := 36) rfl) rfl
  | 3, _ => exact ug_2 (List.mem_of_getElem? (i := 38) rfl) rfl
  | 4, _ => exact ug_2 (List.mem_of_getElem? (i := 40) rfl) rfl
  | 5, _ => exact ug_2 (List.mem_of_getElem? (i := 42) rfl) rfl
  | 6, _ => exact ug_2 (List.mem_of_getElem? (i := 44) rfl) rfl
  | 7, _ => exact ug_2 (List.mem_of_getElem? (i := 46) rfl) rfl
  | 8, _ => exact ug_2 (List.mem_of_getElem? (i := 48) rfl) rfl
  | 9, _ => exact ug_2 (List.mem_of_getElem? (i := 50) rfl) rfl
  | 10, _ => exact ug_2 (List.mem_of_getElem? (i := 52) rfl) rfl
  | 11, _ => exact ug_2 (List.mem_of_getElem? (i := 54) rfl) rfl
  | k + 12, h => exact absurd h (by omega)
theorem kf_X11 : Kf 9 RX11 TX11 12 tyX11 := ⟨kx_X11, rfl, tyX11_ok, nmX11⟩
theorem kx_X12 : ∀ u ∈ u_ws RX12 TX12 51, u ∈ Ug := by
  intro u hu
  obtain ⟨k, hk, rfl⟩ := List.mem_map.mp hu
  have hk := List.mem_range.mp hk
  match k, hk with
  | 0, _ => exact ug_4 (List.mem_of_getElem? (i := 95) rfl) rfl
  | 1, _ => exact ug_4 (List.mem_of_getElem? (i := 97) rfl) rfl
  | 2, _ => exact ug_4 (List.mem_of_getElem? (i := 99) rfl) rfl
  | 3, _ => exact ug_4 (List.mem_of_getElem? (i := 101) rfl) rfl
  | 4, _ => exact ug_4 (List.mem_of_getElem? (i := 103) rfl) rfl
  | 5, _ => exact ug_4 (List.mem_of_getElem? (i := 105) rfl) rfl
  | 6, _ => exact ug_4 (List.mem_of_getElem? (i := 107) rfl) rfl
  | 7, _ => exact ug_4 (List.mem_of_getElem? (i := 109) rfl) rfl
  | 8, _ => exact ug_4 (List.mem_of_getElem? (i := 111) rfl) rfl
  | 9, _ => exact ug_4 (List.mem_of_getElem? (i := 113) rfl) rfl
  | 10, _ => exact ug_4 (List.mem_of_getElem? (i := 115) rfl) rfl
  | 11, _ => exact ug_4 (List.mem_of_getElem? (i := 117) rfl) rfl
  | 12, _ => exact ug_4 (List.mem_of_getElem? (i := 119) rfl) rfl
  | 13, _ => exact ug_4 (List.mem_of_getElem? (i := 121) rfl) rfl
  | 14, _ => exact ug_4 (List.mem_of_getElem? (i := 123) rfl) rfl
  | 15, _ => exact ug_4 (List.mem_of_getElem? (i := 125) rfl) rfl
  | 16, _ => exact ug_4 (List.mem_of_getElem? (i := 127) rfl) rfl
  | 17, _ => exact ug_4 (List.mem_of_getElem? (i := 129) rfl) rfl
  | 18, _ => exact ug_4 (List.mem_of_getElem? (i := 131) rfl) rfl
  | 19, _ => exact ug_4 (List.mem_of_getElem? (i := 133) rfl) rfl
  | 20, _ => exact ug_4 (List.mem_of_getElem? (i := 135) rfl) rfl
  | 21, _ => exact ug_4 (List.mem_of_getElem? (i := 137) rfl) rfl
  | 22, _ => exact ug_4 (List.mem_of_getElem? (i := 139) rfl) rfl
  | 23, _ => exact ug_4 (List.mem_of_getElem? (i := 141) rfl) rfl
  | 24, _ => exact ug_4 (List.mem_of_getElem? (i := 143) rfl) rfl
  | 25, _ => exact ug_4 (List.mem_of_getElem? (i := 145) rfl) rfl
  | 26, _ => exact ug_4 (List.mem_of_getElem? (i := 147) rfl) rfl
  | 27, _ => exact ug_4 (List.mem_of_getElem? (i := 149) rfl) rfl
  | 28, _ => exact ug_4 (List.mem_of_getElem? (i := 151) rfl) rfl
  | 29, _ => exact ug_4 (List.mem_of_getElem? (i := 153) rfl) rfl
  | 30, _ => exact ug_4 (List.mem_of_getElem? (i := 155) rfl) rfl
  | 31, _ => exact ug_4 (List.mem_of_getElem? (i := 157) rfl) rfl
  | 32, _ => exact ug_4 (List.mem_of_getElem? (i := 159) rfl) rfl
  | 33, _ => exact ug_4 (List.mem_of_getElem? (i := 161) rfl) rfl
  | 34, _ => exact ug_4 (List.mem_of_getElem? (i := 163) rfl) rfl
  | 35, _ => exact ug_4 (List.mem_of_getElem? (i := 165) rfl) rfl
  | 36, _ => exact ug_4 (List.mem_of_getElem? (i := 167) rfl) rfl
  | 37, _ => exact ug_4 (List.mem_of_getElem? (i := 169) rfl) rfl
  | 38, _ => exact ug_4 (List.mem_of_getElem? (i := 171) rfl) rfl
  | 39, _ => exact ug_4 (List.mem_of_getElem? (i := 173) rfl) rfl
  | 40, _ => exact ug_4 (List.mem_of_getElem? (i := 175) rfl) rfl
  | 41, _ => exact ug_4 (List.mem_of_getElem? (i := 177) rfl) rfl
  | 42, _ => exact ug_4 (List.mem_of_getElem? (i := 179) rfl) rfl
  | 43, _ => exact ug_4 (List.mem_of_getElem? (i := 181) rfl) rfl
  | 44, _ => exact ug_4 (List.mem_of_getElem? (i := 183) rfl) rfl
  | 45, _ => exact ug_4 (List.mem_of_getElem? (i := 185) rfl) rfl
  | 46, _ => exact ug_4 (List.mem_of_getElem? (i := 187) rfl) rfl
  | 47, _ => exact ug_4 (List.mem_of_getElem? (i := 189) rfl) rfl
  | 48, _ => exact ug_4 (List.mem_of_getElem? (i := 191) rfl) rfl
  | 49, _ => exact ug_4 (List.mem_of_getElem? (i := 193) rfl) rfl
  | 50, _ => exact ug_4 (List.mem_of_getElem? (i := 195) rfl) rfl
  | k + 51, h => exact absurd h (by omega)
theorem kf_X12 : Kf 10 RX12 TX12 51 tyX12 := ⟨kx_X12, rfl, tyX12_ok, nmX12⟩
theorem ml_L_9 : Cond.methodLink RL 9 yX11_init ∈ Ug := ug_1 (List.mem_of_getElem? (i := 20) rfl) rfl
theorem ml_X11_11 : Cond.methodLink RX11 11 yX10_init ∈ Ug := ug_1 (List.mem_of_getElem? (i := 28) rfl) rfl
theorem fl_X7_9 : Fl RX7 9 5 0 RX7 TX7 2 tyX7 true := ⟨kf_X7, Nat.le_of_ble_eq_true rfl, rfl, rfl, ug_1 (List.mem_of_getElem? (i := 39) rfl) rfl⟩
theorem fl_X7_15 : Fl RX7 15 5 1 RX7 TX7 2 tyX7 false := ⟨kf_X7, Nat.le_of_ble_eq_true rfl, rfl, rfl, ug_1 (List.mem_of_getElem? (i := 40) rfl) rfl⟩
theorem fl_X8_66 : Fl RX8 66 5 1 RX7 TX7 2 tyX7 false := ⟨kf_X7, Nat.le_of_ble_eq_true rfl, rfl, rfl, ug_1 (List.mem_of_getElem? (i := 41) rfl) rfl⟩
theorem fl_X10_61 : Fl RX10 61 5 1 RX7 TX7 2 tyX7 false := ⟨kf_X7, Nat.le_of_ble_eq_true rfl, rfl, rfl, ug_1 (List.mem_of_getElem? (i := 42) rfl) rfl⟩
theorem fl_X11_156 : Fl RX11 156 5 1 RX7 TX7 2 tyX7 false := ⟨kf_X7, Nat.le_of_ble_eq_true rfl, rfl, rfl, ug_1 (List.mem_of_getElem? (i := 43) rfl) rfl⟩
theorem fl_X10_9 : Fl RX10 9 8 0 RX10 TX10 8 tyX10 false := ⟨kf_X10, Nat.le_of_ble_eq_true rfl, rfl, rfl, ug_1 (List.mem_of_getElem? (i := 50) rfl) rfl⟩
theorem fl_X11_88 : Fl RX11 88 8 0 RX10 TX10 8 tyX10 false := ⟨kf_X10, Nat.le_of_ble_eq_true rfl, rfl, rfl, ug_1 (List.mem_of_getElem? (i := 51) rfl) rfl⟩
theorem fl_X10_15 : Fl RX10 15 8 1 RX10 TX10 8 tyX10 true := ⟨kf_X10, Nat.le_of_ble_eq_true rfl, rfl, rfl, ug_1 (List.mem_of_getElem? (i := 52) rfl) rfl⟩
theorem fl_X8_49 : Fl RX8 49 8 1 RX10 TX10 8 tyX10 true := ⟨kf_X10, Nat.le_of_ble_eq_true rfl, rfl, rfl, ug_1 (List.mem_of_getElem? (i := 53) rfl) rfl⟩
theorem fl_X4_62 : Fl RX4 62 8 1 RX10 TX10 8 tyX10 true := ⟨kf_X10, Nat.le_of_ble_eq_true rfl, rfl, rfl, ug_1 (List.mem_of_getElem? (i := 54) rfl) rfl⟩
theorem fl_X6_21 : Fl RX6 21 8 1 RX10 TX10 8 tyX10 true := ⟨kf_X10, Nat.le_of_ble_eq_true rfl, rfl, rfl, ug_1 (List.mem_of_getElem? (i := 55) rfl) rfl⟩
theorem fl_X11_110 : Fl RX11 110 8 1 RX10 TX10 8 tyX10 true := ⟨kf_X10, Nat.le_of_ble_eq_true rfl, rfl, rfl, ug_1 (List.mem_of_getElem? (i := 56) rfl) rfl⟩
theorem fl_X10_19 : Fl RX10 19 8 2 RX10 TX10 8 tyX10 false := ⟨kf_X10, Nat.le_of_ble_eq_true rfl, rfl, rfl, ug_1 (List.mem_of_getElem? (i := 57) rfl) rfl⟩
theorem fl_X11_124 : Fl RX11 124 8 2 RX10 TX10 8 tyX10 false := ⟨kf_X10, Nat.le_of_ble_eq_true rfl, rfl, rfl, ug_1 (List.mem_of_getElem? (i := 58) rfl) rfl⟩
theorem fl_X10_22 : Fl RX10 22 8 3 RX10 TX10 8 tyX10 false := ⟨kf_X10, Nat.le_of_ble_eq_true rfl, rfl, rfl, ug_1 (List.mem_of_getElem? (i := 59) rfl) rfl⟩
theorem fl_X11_139 : Fl RX11 139 8 3 RX10 TX10 8 tyX10 false := ⟨kf_X10, Nat.le_of_ble_eq_true rfl, rfl, rfl, ug_1 (List.mem_of_getElem? (i := 60) rfl) rfl⟩
theorem fl_X10_25 : Fl RX10 25 8 4 RX10 TX10 8 tyX10 true := ⟨kf_X10, Nat.le_of_ble_eq_true rfl, rfl, rfl, ug_1 (List.mem_of_getElem? (i := 61) rfl) rfl⟩
theorem fl_X10_31 : Fl RX10 31 8 5 RX10 TX10 8 tyX10 true := ⟨kf_X10, Nat.le_of_ble_eq_true rfl, rfl, rfl, ug_1 (List.mem_of_getElem? (i := 62) rfl) rfl⟩
theorem fl_X8_55 : Fl RX8 55 8 5 RX10 TX10 8 tyX10 true := ⟨kf_X10, Nat.le_of_ble_eq_true rfl, rfl, rfl, ug_1 (List.mem_of_getElem? (i := 63) rfl) rfl⟩
theorem fl_X11_153 : Fl RX11 153 8 5 RX10 TX10 8 tyX10 true := ⟨kf_X10, Nat.le_of_ble_eq_true rfl, rfl, rfl, ug_1 (List.mem_of_getElem? (i := 64) rfl) rfl⟩
theorem fl_X10_35 : Fl RX10 35 8 6 RX10 TX10 8 tyX10 false := ⟨kf_X10, Nat.le_of_ble_eq_true rfl, rfl, rfl, ug_1 (List.mem_of_getElem? (i := 65) rfl) rfl⟩
theorem fl_X11_230 : Fl RX11 230 8 6 RX10 TX10 8 tyX10 false := ⟨kf_X10, Nat.le_of_ble_eq_true rfl, rfl, rfl, ug_1 (List.mem_of_getElem? (i := 66) rfl) rfl⟩
theorem fl_X10_38 : Fl RX10 38 8 7 RX10 TX10 8 tyX10 true := ⟨kf_X10, Nat.le_of_ble_eq_true rfl, rfl, rfl, ug_1 (List.mem_of_getElem? (i := 67) rfl) rfl⟩
theorem fl_X11_233 : Fl RX11 233 8 7 RX10 TX10 8 tyX10 true := ⟨kf_X10, Nat.le_of_ble_eq_true rfl, rfl, rfl, ug_1 (List.mem_of_getElem? (i := 68) rfl) rfl⟩
theorem fl_X1_9 : Fl RX1 9 1 0 RX1 TX1 4 tyX1 true := ⟨kf_X1, Nat.le_of_ble_eq_true rfl, rfl, rfl, ug_1 (List.mem_of_getElem? (i := 92) rfl) rfl⟩
theorem fl_X1_15 : Fl RX1 15 1 1 RX1 TX1 4 tyX1 true := ⟨kf_X1, Nat.le_of_ble_eq_true rfl, rfl, rfl, ug_1 (List.mem_of_getElem? (i := 93) rfl) rfl⟩
theorem fl_X1_18 : Fl RX1 18 1 2 RX1 TX1 4 tyX1 false := ⟨kf_X1, Nat.le_of_ble_eq_true rfl, rfl, rfl, ug_1 (List.mem_of_getElem? (i := 94) rfl) rfl⟩
theorem fl_X1_22 : Fl RX1 22 1 3 RX1 TX1 4 tyX1 false := ⟨kf_X1, Nat.le_of_ble_eq_true rfl, rfl, rfl, ug_1 (List.mem_of_getElem? (i := 95) rfl) rfl⟩
theorem fl_X11_107 : Fl RX11 107 1 3 RX1 TX1 4 tyX1 false := ⟨kf_X1, Nat.le_of_ble_eq_true rfl, rfl, rfl, ug_1 (List.mem_of_getElem? (i := 96) rfl) rfl⟩
theorem fl_X9_9 : Fl RX9 9 7 0 RX9 TX9 4 tyX9 true := ⟨kf_X9, Nat.le_of_ble_eq_true rfl, rfl, rfl, ug_1 (List.mem_of_getElem? (i := 112) rfl) rfl⟩
theorem fl_X9_15 : Fl RX9 15 7 1 RX9 TX9 4 tyX9 false := ⟨kf_X9, Nat.le_of_ble_eq_true rfl, rfl, rfl, ug_1 (List.mem_of_getElem? (i := 113) rfl) rfl⟩
theorem fl_X11_117 : Fl RX11 117 7 1 RX9 TX9 4 tyX9 false := ⟨kf_X9, Nat.le_of_ble_eq_true rfl, rfl, rfl, ug_1 (List.mem_of_getElem? (i := 114) rfl) rfl⟩
theorem fl_X9_19 : Fl RX9 19 7 2 RX9 TX9 4 tyX9 false := ⟨kf_X9, Nat.le_of_ble_eq_true rfl, rfl, rfl, ug_1 (List.mem_of_getElem? (i := 115) rfl) rfl⟩
theorem fl_X5_33 : Fl RX5 33 7 2 RX9 TX9 4 tyX9 false := ⟨kf_X9, Nat.le_of_ble_eq_true rfl, rfl, rfl, ug_1 (List.mem_of_getElem? (i := 116) rfl) rfl⟩
theorem fl_X8_103 : Fl RX8 103 7 2 RX9 TX9 4 tyX9 false := ⟨kf_X9, Nat.le_of_ble_eq_true rfl, rfl, rfl, ug_1 (List.mem_of_getElem? (i := 117) rfl) rfl⟩
theorem fl_X9_22 : Fl RX9 22 7 3 RX9 TX9 4 tyX9 false := ⟨kf_X9, Nat.le_of_ble_eq_true rfl, rfl, rfl, ug_1 (List.mem_of_getElem? (i := 118) rfl) rfl⟩
theorem fl_X11_133 : Fl RX11 133 7 3 RX9 TX9 4 tyX9 false := ⟨kf_X9, Nat.le_of_ble_eq_true rfl, rfl, rfl, ug_1 (List.mem_of_getElem? (i := 119) rfl) rfl⟩
theorem ml_X11_50 : Cond.methodLink RX11 50 yX8_init ∈ Ug := ug_1 (List.mem_of_getElem? (i := 131) rfl) rfl
theorem fl_X8_26 : Fl RX8 26 6 0 RX8 TX8 4 tyX8 true := ⟨kf_X8, Nat.le_of_ble_eq_true rfl, rfl, rfl, ug_1 (List.mem_of_getElem? (i := 137) rfl) rfl⟩
theorem fl_X8_12 : Fl RX8 12 6 1 RX8 TX8 4 tyX8 true := ⟨kf_X8, Nat.le_of_ble_eq_true rfl, rfl, rfl, ug_1 (List.mem_of_getElem? (i := 138) rfl) rfl⟩
theorem fl_X8_18 : Fl RX8 18 6 2 RX8 TX8 4 tyX8 true := ⟨kf_X8, Nat.le_of_ble_eq_true rfl, rfl, rfl, ug_1 (List.mem_of_getElem? (i := 139) rfl) rfl⟩
theorem fl_X8_22 : Fl RX8 22 6 3 RX8 TX8 4 tyX8 false := ⟨kf_X8, Nat.le_of_ble_eq_true rfl, rfl, rfl, ug_1 (List.mem_of_getElem? (i := 140) rfl) rfl⟩
theorem ml_X11_59 : Cond.methodLink RX11 59 yX3_init ∈ Ug := ug_1 (List.mem_of_getElem? (i := 152) rfl) rfl
theorem ml_X3_29 : Cond.methodLink RX3 29 yX4_init ∈ Ug := ug_1 (List.mem_of_getElem? (i := 158) rfl) rfl
theorem fl_X4_46 : Fl RX4 46 4 0 RX4 TX4 12 tyX4 true := ⟨kf_X4, Nat.le_of_ble_eq_true rfl, rfl, rfl, ug_1 (List.mem_of_getElem? (i := 162) rfl) rfl⟩
theorem fl_X4_9 : Fl RX4 9 4 1 RX4 TX4 12 tyX4 false := ⟨kf_X4, Nat.le_of_ble_eq_true rfl, rfl, rfl, ug_1 (List.mem_of_getElem? (i := 163) rfl) rfl⟩
theorem fl_X4_15 : Fl RX4 15 4 2 RX4 TX4 12 tyX4 true := ⟨kf_X4, Nat.le_of_ble_eq_true rfl, rfl, rfl, ug_1 (List.mem_of_getElem? (i := 164) rfl) rfl⟩
theorem fl_X4_19 : Fl RX4 19 4 3 RX4 TX4 12 tyX4 true := ⟨kf_X4, Nat.le_of_ble_eq_true rfl, rfl, rfl, ug_1 (List.mem_of_getElem? (i := 165) rfl) rfl⟩
theorem fl_X4_22 : Fl RX4 22 4 4 RX4 TX4 12 tyX4 false := ⟨kf_X4, Nat.le_of_ble_eq_true rfl, rfl, rfl, ug_1 (List.mem_of_getElem? (i := 166) rfl) rfl⟩
theorem fl_X4_25 : Fl RX4 25 4 5 RX4 TX4 12 tyX4 true := ⟨kf_X4, Nat.le_of_ble_eq_true rfl, rfl, rfl, ug_1 (List.mem_of_getElem? (i := 167) rfl) rfl⟩
theorem fl_X4_28 : Fl RX4 28 4 6 RX4 TX4 12 tyX4 true := ⟨kf_X4, Nat.le_of_ble_eq_true rfl, rfl, rfl, ug_1 (List.mem_of_getElem? (i := 168) rfl) rfl⟩
theorem fl_X4_31 : Fl RX4 31 4 7 RX4 TX4 12 tyX4 true := ⟨kf_X4, Nat.le_of_ble_eq_true rfl, rfl, rfl, ug_1 (List.mem_of_getElem? (i := 169) rfl) rfl⟩
theorem fl_X4_34 : Fl RX4 34 4 8 RX4 TX4 12 tyX4 true := ⟨kf_X4, Nat.le_of_ble_eq_true rfl, rfl, rfl, ug_1 (List.mem_of_getElem? (i := 170) rfl) rfl⟩
theorem fl_X4_37 : Fl RX4 37 4 9 RX4 TX4 12 tyX4 true := ⟨kf_X4, Nat.le_of_ble_eq_true rfl, rfl, rfl, ug_1 (List.mem_of_getElem? (i := 171) rfl) rfl⟩
theorem fl_X4_40 : Fl RX4 40 4 10 RX4 TX4 12 tyX4 true := ⟨kf_X4, Nat.le_of_ble_eq_true rfl, rfl, rfl, ug_1 (List.mem_of_getElem? (i := 172) rfl) rfl⟩
theorem fl_X4_43 : Fl RX4 43 4 11 RX4 TX4 12 tyX4 true := ⟨kf_X4, Nat.le_of_ble_eq_true rfl, rfl, rfl, ug_1 (List.mem_of_getElem? (i := 173) rfl) rfl⟩
theorem fl_X3_23 : Fl RX3 23 3 0 RX3 TX3 5 tyX3 true := ⟨kf_X3, Nat.le_of_ble_eq_true rfl, rfl, rfl, ug_1 (List.mem_of_getElem? (i := 199) rfl) rfl⟩
theorem fl_X0_39 : Fl RX0 39 3 0 RX3 TX3 5 tyX3 true := ⟨kf_X3, Nat.le_of_ble_eq_true rfl, rfl, rfl, ug_1 (List.mem_of_getElem? (i := 200) rfl) rfl⟩
theorem fl_X3_32 : Fl RX3 32 3 1 RX3 TX3 5 tyX3 true := ⟨kf_X3, Nat.le_of_ble_eq_true rfl, rfl, rfl, ug_1 (List.mem_of_getElem? (i := 201) rfl) rfl⟩
theorem fl_X3_9 : Fl RX3 9 3 2 RX3 TX3 5 tyX3 true := ⟨kf_X3, Nat.le_of_ble_eq_true rfl, rfl, rfl, ug_1 (List.mem_of_getElem? (i := 202) rfl) rfl⟩
theorem fl_X3_15 : Fl RX3 15 3 3 RX3 TX3 5 tyX3 false := ⟨kf_X3, Nat.le_of_ble_eq_true rfl, rfl, rfl, ug_1 (List.mem_of_getElem? (i := 203) rfl) rfl⟩
theorem fl_X3_19 : Fl RX3 19 3 4 RX3 TX3 5 tyX3 false := ⟨kf_X3, Nat.le_of_ble_eq_true rfl, rfl, rfl, ug_1 (List.mem_of_getElem? (i := 204) rfl) rfl⟩
theorem fl_X2_39 : Fl RX2 39 3 4 RX3 TX3 5 tyX3 false := ⟨kf_X3, Nat.le_of_ble_eq_true rfl, rfl, rfl, ug_1 (List.mem_of_getElem? (i := 205) rfl) rfl⟩
theorem fl_X11_185 : Fl RX11 185 3 4 RX3 TX3 5 tyX3 false := ⟨kf_X3, Nat.le_of_ble_eq_true rfl, rfl, rfl, ug_1 (List.mem_of_getElem? (i := 206) rfl) rfl⟩
theorem ml_X11_66 : Cond.methodLink RX11 66 yX2_init ∈ Ug := ug_1 (List.mem_of_getElem? (i := 220) rfl) rfl
theorem fl_X2_29 : Fl RX2 29 2 0 RX2 TX2 7 tyX2 true := ⟨kf_X2, Nat.le_of_ble_eq_true rfl, rfl, rfl, ug_1 (List.mem_of_getElem? (i := 224) rfl) rfl⟩
theorem fl_X2_7 : Fl RX2 7 2 1 RX2 TX2 7 tyX2 false := ⟨kf_X2, Nat.le_of_ble_eq_true rfl, rfl, rfl, ug_1 (List.mem_of_getElem? (i := 225) rfl) rfl⟩
theorem fl_X2_13 : Fl RX2 13 2 2 RX2 TX2 7 tyX2 false := ⟨kf_X2, Nat.le_of_ble_eq_true rfl, rfl, rfl, ug_1 (List.mem_of_getElem? (i := 226) rfl) rfl⟩
theorem fl_X2_16 : Fl RX2 16 2 3 RX2 TX2 7 tyX2 false := ⟨kf_X2, Nat.le_of_ble_eq_true rfl, rfl, rfl, ug_1 (List.mem_of_getElem? (i := 227) rfl) rfl⟩
theorem fl_X2_19 : Fl RX2 19 2 4 RX2 TX2 7 tyX2 false := ⟨kf_X2, Nat.le_of_ble_eq_true rfl, rfl, rfl, ug_1 (List.mem_of_getElem? (i := 228) rfl) rfl⟩
theorem fl_X2_22 : Fl RX2 22 2 5 RX2 TX2 7 tyX2 false := ⟨kf_X2, Nat.le_of_ble_eq_true rfl, rfl, rfl, ug_1 (List.mem_of_getElem? (i := 229) rfl) rfl⟩
theorem fl_X2_25 : Fl RX2 25 2 6 RX2 TX2 7 tyX2 false := ⟨kf_X2, Nat.le_of_ble_eq_true rfl, rfl, rfl, ug_1 (List.mem_of_getElem? (i := 230) rfl) rfl⟩
theorem ml_X11_75 : Cond.methodLink RX11 75 yX0_init ∈ Ug := ug_2 (List.mem_of_getElem? (i := 8) rfl) rfl
theorem fl_X0_15 : Fl RX0 15 0 0 RX0 TX0 2 tyX0 true := ⟨kf_X0, Nat.le_of_ble_eq_true rfl, rfl, rfl, ug_2 (List.mem_of_getElem? (i := 12) rfl) rfl⟩
theorem fl_X0_11 : Fl RX0 11 0 1 RX0 TX0 2 tyX0 true := ⟨kf_X0, Nat.le_of_ble_eq_true rfl, rfl, rfl, ug_2 (List.mem_of_getElem? (i := 13) rfl) rfl⟩
theorem fl_X11_12 : Fl RX11 12 9 0 RX11 TX11 12 tyX11 true := ⟨kf_X11, Nat.le_of_ble_eq_true rfl, rfl, rfl, ug_2 (List.mem_of_getElem? (i := 20) rfl) rfl⟩
theorem fl_X11_16 : Fl RX11 16 9 1 RX11 TX11 12 tyX11 true := ⟨kf_X11, Nat.le_of_ble_eq_true rfl, rfl, rfl, ug_2 (List.mem_of_getElem? (i := 21) rfl) rfl⟩
theorem fl_X11_19 : Fl RX11 19 9 2 RX11 TX11 12 tyX11 false := ⟨kf_X11, Nat.le_of_ble_eq_true rfl, rfl, rfl, ug_2 (List.mem_of_getElem? (i := 22) rfl) rfl⟩
theorem fl_X11_26 : Fl RX11 26 9 3 RX11 TX11 12 tyX11 true := ⟨kf_X11, Nat.le_of_ble_eq_true rfl, rfl, rfl, ug_2 (List.mem_of_getElem? (i := 23) rfl) rfl⟩
theorem fl_X11_33 : Fl RX11 33 9 4 RX11 TX11 12 tyX11 true := ⟨kf_X11, Nat.le_of_ble_eq_true rfl, rfl, rfl, ug_2 (List.mem_of_getElem? (i := 24) rfl) rfl⟩
theorem fl_X11_37 : Fl RX11 37 9 5 RX11 TX11 12 tyX11 true := ⟨kf_X11, Nat.le_of_ble_eq_true rfl, rfl, rfl, ug_2 (List.mem_of_getElem? (i := 25) rfl) rfl⟩
theorem fl_X11_41 : Fl RX11 41 9 6 RX11 TX11 12 tyX11 false := ⟨kf_X11, Nat.le_of_ble_eq_true rfl, rfl, rfl, ug_2 (List.mem_of_getElem? (i := 26) rfl) rfl⟩
theorem fl_X11_45 : Fl RX11 45 9 7 RX11 TX11 12 tyX11 true := ⟨kf_X11, Nat.le_of_ble_eq_true rfl, rfl, rfl, ug_2 (List.mem_of_getElem? (i := 27) rfl) rfl⟩
theorem fl_X11_53 : Fl RX11 53 9 8 RX11 TX11 12 tyX11 true := ⟨kf_X11, Nat.le_of_ble_eq_true rfl, rfl, rfl, ug_2 (List.mem_of_getElem? (i := 28) rfl) rfl⟩
theorem fl_X11_60 : Fl RX11 60 9 9 RX11 TX11 12 tyX11 true := ⟨kf_X11, Nat.le_of_ble_eq_true rfl, rfl, rfl, ug_2 (List.mem_of_getElem? (i := 29) rfl) rfl⟩
theorem fl_X11_69 : Fl RX11 69 9 10 RX11 TX11 12 tyX11 true := ⟨kf_X11, Nat.le_of_ble_eq_true rfl, rfl, rfl, ug_2 (List.mem_of_getElem? (i := 30) rfl) rfl⟩
theorem fl_X11_76 : Fl RX11 76 9 11 RX11 TX11 12 tyX11 true := ⟨kf_X11, Nat.le_of_ble_eq_true rfl, rfl, rfl, ug_2 (List.mem_of_getElem? (i := 31) rfl) rfl⟩
theorem ml_L_13 : Cond.methodLink RL 13 yX11_harbour ∈ Ug := ug_2 (List.mem_of_getElem? (i := 57) rfl) rfl
theorem ml_X11_80 : Cond.methodLink RX11 80 yX11_refuse ∈ Ug := ug_2 (List.mem_of_getElem? (i := 61) rfl) rfl
theorem ml_X11_84 : Cond.methodLink RX11 84 yX10_isHarbour ∈ Ug := ug_2 (List.mem_of_getElem? (i := 65) rfl) rfl
theorem ml_X11_91 : Cond.methodLink RX11 91 yX3_forget ∈ Ug := ug_2 (List.mem_of_getElem? (i := 69) rfl) rfl
theorem ml_L_18 : Cond.methodLink RL 18 yX11_tell ∈ Ug := ug_2 (List.mem_of_getElem? (i := 73) rfl) rfl
theorem sl_X11_94 : Cond.fieldLink RX11 94 "FerryPlans" "GREATEST" "[I" ∈ Ug := ug_2 (List.mem_of_getElem? (i := 77) rfl) rfl
theorem ml_X11_97 : Cond.methodLink RX11 97 yX11_change ∈ Ug := ug_2 (List.mem_of_getElem? (i := 79) rfl) rfl
theorem ml_X11_245 : Cond.methodLink RX11 245 yX1_note ∈ Ug := ug_2 (List.mem_of_getElem? (i := 83) rfl) rfl
theorem ml_L_23 : Cond.methodLink RL 23 yX11_move ∈ Ug := ug_2 (List.mem_of_getElem? (i := 87) rfl) rfl
theorem ml_L_27 : Cond.methodLink RL 27 yX11_set ∈ Ug := ug_2 (List.mem_of_getElem? (i := 91) rfl) rfl
theorem sl_X11_101 : Cond.fieldLink RX11 101 "FerryPlans" "COMMON_LEAST" "[I" ∈ Ug := ug_2 (List.mem_of_getElem? (i := 95) rfl) rfl
theorem sl_X11_104 : Cond.fieldLink RX11 104 "FerryPlans" "COMMON_GREATEST" "[I" ∈ Ug := ug_2 (List.mem_of_getElem? (i := 97) rfl) rfl
theorem ml_L_32 : Cond.methodLink RL 32 yX11_undo ∈ Ug := ug_2 (List.mem_of_getElem? (i := 99) rfl) rfl
theorem ml_X11_113 : Cond.methodLink RX11 113 yX1_takeBack ∈ Ug := ug_2 (List.mem_of_getElem? (i := 103) rfl) rfl
theorem ml_L_39 : Cond.methodLink RL 39 yX11_feed ∈ Ug := ug_2 (List.mem_of_getElem? (i := 107) rfl) rfl
theorem ml_X11_120 : Cond.methodLink RX11 120 yX9_append ∈ Ug := ug_2 (List.mem_of_getElem? (i := 111) rfl) rfl
theorem kc_X9_25 : Cond.constantLong RX9 25 (255) ∈ Ug := ug_2 (List.mem_of_getElem? (i := 115) rfl) rfl
theorem ml_L_44 : Cond.methodLink RL 44 yX11_law ∈ Ug := ug_2 (List.mem_of_getElem? (i := 116) rfl) rfl
theorem ml_X11_127 : Cond.methodLink RX11 127 yX5_worldsOf ∈ Ug := ug_2 (List.mem_of_getElem? (i := 120) rfl) rfl
theorem ml_X5_9 : Cond.methodLink RX5 9 yX9_begin ∈ Ug := ug_2 (List.mem_of_getElem? (i := 123) rfl) rfl
theorem ml_X5_14 : Cond.methodLink RX5 14 yX5_readTest ∈ Ug := ug_2 (List.mem_of_getElem? (i := 127) rfl) rfl
theorem ml_X5_23 : Cond.methodLink RX5 23 yX5_readTerm ∈ Ug := ug_2 (List.mem_of_getElem? (i := 130) rfl) rfl
theorem ml_X5_30 : Cond.methodLink RX5 30 yX5_readPart ∈ Ug := ug_2 (List.mem_of_getElem? (i := 133) rfl) rfl
theorem ml_X5_26 : Cond.methodLink RX5 26 yX9_take ∈ Ug := ug_2 (List.mem_of_getElem? (i := 136) rfl) rfl
theorem ml_X9_27 : Cond.methodLink RX9 27 yX9_peek ∈ Ug := ug_2 (List.mem_of_getElem? (i := 140) rfl) rfl
theorem ml_X5_37 : Cond.methodLink RX5 37 yX9_digit ∈ Ug := ug_2 (List.mem_of_getElem? (i := 144) rfl) rfl
theorem ml_X9_31 : Cond.methodLink RX9 31 yX9_fail ∈ Ug := ug_2 (List.mem_of_getElem? (i := 148) rfl) rfl
theorem ml_X5_41 : Cond.methodLink RX5 41 yX5_worldsBad ∈ Ug := ug_2 (List.mem_of_getElem? (i := 152) rfl) rfl
theorem kc_X5_53 : Cond.constant RX5 53 (65535) ∈ Ug := ug_2 (List.mem_of_getElem? (i := 155) rfl) rfl
theorem ml_X5_45 : Cond.methodLink RX5 45 yX5_readCount ∈ Ug := ug_2 (List.mem_of_getElem? (i := 159) rfl) rfl
theorem ml_X5_54 : Cond.methodLink RX5 54 yX9_peek ∈ Ug := ug_2 (List.mem_of_getElem? (i := 162) rfl) rfl
theorem ml_X5_49 : Cond.methodLink RX5 49 yX9_fail ∈ Ug := ug_2 (List.mem_of_getElem? (i := 163) rfl) rfl
theorem ml_X5_57 : Cond.methodLink RX5 57 yJ6_bitCount_0f7a4 ∈ Ug := ug_2 (List.mem_of_getElem? (i := 164) rfl) rfl
theorem kc_J6_265 : Cond.constant RJ6 265 (1431655765) ∈ Ug := ug_2 (List.mem_of_getElem? (i := 167) rfl) rfl
theorem kc_J6_266 : Cond.constant RJ6 266 (858993459) ∈ Ug := ug_2 (List.mem_of_getElem? (i := 168) rfl) rfl
theorem kc_J6_267 : Cond.constant RJ6 267 (252645135) ∈ Ug := ug_2 (List.mem_of_getElem? (i := 169) rfl) rfl
theorem ml_X5_20 : Cond.methodLink RX5 20 yX9_end ∈ Ug := ug_2 (List.mem_of_getElem? (i := 170) rfl) rfl
theorem ml_X11_136 : Cond.methodLink RX11 136 yX10_addLaw ∈ Ug := ug_2 (List.mem_of_getElem? (i := 174) rfl) rfl
theorem ml_L_48 : Cond.methodLink RL 48 yX11_holds ∈ Ug := ug_2 (List.mem_of_getElem? (i := 178) rfl) rfl
theorem ml_L_53 : Cond.methodLink RL 53 yX11_rule ∈ Ug := ug_2 (List.mem_of_getElem? (i := 182) rfl) rfl
theorem ml_X11_142 : Cond.methodLink RX11 142 yX10_seenBy ∈ Ug := ug_2 (List.mem_of_getElem? (i := 186) rfl) rfl
theorem ml_X11_145 : Cond.methodLink RX11 145 yX8_read ∈ Ug := ug_2 (List.mem_of_getElem? (i := 190) rfl) rfl
theorem ml_X8_69 : Cond.methodLink RX8 69 yX9_begin ∈ Ug := ug_2 (List.mem_of_getElem? (i := 194) rfl) rfl
theorem ml_X8_74 : Cond.methodLink RX8 74 yX8_readSum ∈ Ug := ug_2 (List.mem_of_getElem? (i := 195) rfl) rfl
theorem ml_X8_85 : Cond.methodLink RX8 85 yX8_readProduct ∈ Ug := ug_2 (List.mem_of_getElem? (i := 199) rfl) rfl
theorem ml_X8_100 : Cond.methodLink RX8 100 yX8_readUnit ∈ Ug := ug_2 (List.mem_of_getElem? (i := 203) rfl) rfl
theorem ml_X8_106 : Cond.methodLink RX8 106 yX9_atDigit ∈ Ug := ug_2 (List.mem_of_getElem? (i := 207) rfl) rfl
theorem ml_X8_110 : Cond.methodLink RX8 110 yX8_readNumber ∈ Ug := ug_2 (List.mem_of_getElem? (i := 211) rfl) rfl
theorem ml_X8_114 : Cond.methodLink RX8 114 yX9_digit ∈ Ug := ug_2 (List.mem_of_getElem? (i := 215) rfl) rfl
theorem ml_X8_96 : Cond.methodLink RX8 96 yX7_add ∈ Ug := ug_2 (List.mem_of_getElem? (i := 216) rfl) rfl
theorem ml_X8_92 : Cond.methodLink RX8 92 yX9_take ∈ Ug := ug_2 (List.mem_of_getElem? (i := 220) rfl) rfl
theorem ml_X8_117 : Cond.methodLink RX8 117 yX8_readSeen ∈ Ug := ug_2 (List.mem_of_getElem? (i := 221) rfl) rfl
theorem ml_X8_120 : Cond.methodLink RX8 120 yX9_fail ∈ Ug := ug_2 (List.mem_of_getElem? (i := 225) rfl) rfl
theorem ml_X8_88 : Cond.methodLink RX8 88 yX9_peek ∈ Ug := ug_2 (List.mem_of_getElem? (i := 226) rfl) rfl
theorem ml_X8_78 : Cond.methodLink RX8 78 yX9_end ∈ Ug := ug_2 (List.mem_of_getElem? (i := 227) rfl) rfl
theorem ml_X11_149 : Cond.methodLink RX11 149 yX8_keep ∈ Ug := ug_2 (List.mem_of_getElem? (i := 228) rfl) rfl
theorem ml_X8_81 : Cond.methodLink RX8 81 yX7_copy ∈ Ug := ug_2 (List.mem_of_getElem? (i := 232) rfl) rfl
theorem ml_X7_19 : Cond.methodLink RX7 19 arraycopyName ∈ Ug := ug_2 (List.mem_of_getElem? (i := 236) rfl) rfl
theorem ml_L_57 : Cond.methodLink RL 57 yX11_unrule ∈ Ug := ug_2 (List.mem_of_getElem? (i := 239) rfl) rfl
theorem ml_L_61 : Cond.methodLink RL 61 yX11_inSet ∈ Ug := ug_3 (List.mem_of_getElem? (i := 3) rfl) rfl
theorem ml_X11_159 : Cond.methodLink RX11 159 yX11_theSet ∈ Ug := ug_3 (List.mem_of_getElem? (i := 7) rfl) rfl
theorem ml_X11_212 : Cond.methodLink RX11 212 yX10_worldsWith ∈ Ug := ug_3 (List.mem_of_getElem? (i := 11) rfl) rfl
theorem ml_X10_51 : Cond.methodLink RX10 51 yX10_isWorld ∈ Ug := ug_3 (List.mem_of_getElem? (i := 15) rfl) rfl
theorem ml_X10_55 : Cond.methodLink RX10 55 yJ6_bitCount_0f7a4 ∈ Ug := ug_3 (List.mem_of_getElem? (i := 19) rfl) rfl
theorem ml_L_65 : Cond.methodLink RL 65 yX11_later ∈ Ug := ug_3 (List.mem_of_getElem? (i := 20) rfl) rfl
theorem ml_X11_163 : Cond.methodLink RX11 163 yX10_isPlan ∈ Ug := ug_3 (List.mem_of_getElem? (i := 24) rfl) rfl
theorem ml_X11_166 : Cond.methodLink RX11 166 yX10_isWorld ∈ Ug := ug_3 (List.mem_of_getElem? (i := 28) rfl) rfl
theorem ml_X11_169 : Cond.methodLink RX11 169 yX3_of ∈ Ug := ug_3 (List.mem_of_getElem? (i := 29) rfl) rfl
theorem ml_X3_36 : Cond.methodLink RX3 36 yJ7_fill_53178 ∈ Ug := ug_3 (List.mem_of_getElem? (i := 33) rfl) rfl
theorem ml_X3_42 : Cond.methodLink RX3 42 yX4_weigh ∈ Ug := ug_3 (List.mem_of_getElem? (i := 36) rfl) rfl
theorem ml_X4_50 : Cond.methodLink RX4 50 yJ7_fill_53178 ∈ Ug := ug_3 (List.mem_of_getElem? (i := 40) rfl) rfl
theorem ml_X4_56 : Cond.methodLink RX4 56 yX10_balance ∈ Ug := ug_3 (List.mem_of_getElem? (i := 41) rfl) rfl
theorem ml_X3_46 : Cond.methodLink RX3 46 yX10_fare ∈ Ug := ug_3 (List.mem_of_getElem? (i := 45) rfl) rfl
theorem ml_X3_52 : Cond.methodLink RX3 52 yX4_leastLater ∈ Ug := ug_3 (List.mem_of_getElem? (i := 49) rfl) rfl
theorem ml_X4_65 : Cond.methodLink RX4 65 yX4_findOwnWay ∈ Ug := ug_3 (List.mem_of_getElem? (i := 53) rfl) rfl
theorem ml_X4_69 : Cond.methodLink RX4 69 yX4_serve ∈ Ug := ug_3 (List.mem_of_getElem? (i := 57) rfl) rfl
theorem ml_X4_73 : Cond.methodLink RX4 73 yX4_roomOf ∈ Ug := ug_3 (List.mem_of_getElem? (i := 61) rfl) rfl
theorem ml_X4_76 : Cond.methodLink RX4 76 yJ9_min_7cf53 ∈ Ug := ug_3 (List.mem_of_getElem? (i := 65) rfl) rfl
theorem ml_X4_82 : Cond.methodLink RX4 82 yX4_goOwnWay ∈ Ug := ug_3 (List.mem_of_getElem? (i := 68) rfl) rfl
theorem ml_X11_173 : Cond.methodLink RX11 173 yX10_fare ∈ Ug := ug_3 (List.mem_of_getElem? (i := 72) rfl) rfl
theorem ml_L_69 : Cond.methodLink RL 69 yX11_cost ∈ Ug := ug_3 (List.mem_of_getElem? (i := 73) rfl) rfl
theorem ml_L_73 : Cond.methodLink RL 73 yX11_worst ∈ Ug := ug_3 (List.mem_of_getElem? (i := 77) rfl) rfl
theorem ml_X11_176 : Cond.methodLink RX11 176 yX3_worstOver ∈ Ug := ug_3 (List.mem_of_getElem? (i := 81) rfl) rfl
theorem ml_X3_60 : Cond.methodLink RX3 60 yX3_worstWorld ∈ Ug := ug_3 (List.mem_of_getElem? (i := 85) rfl) rfl
theorem ml_X3_56 : Cond.methodLink RX3 56 yX3_of ∈ Ug := ug_3 (List.mem_of_getElem? (i := 89) rfl) rfl
theorem ml_X11_179 : Cond.methodLink RX11 179 yX3_worstWorld ∈ Ug := ug_3 (List.mem_of_getElem? (i := 90) rfl) rfl
theorem ml_L_77 : Cond.methodLink RL 77 yX11_best ∈ Ug := ug_3 (List.mem_of_getElem? (i := 91) rfl) rfl
theorem ml_X11_182 : Cond.methodLink RX11 182 yX3_bestOver ∈ Ug := ug_3 (List.mem_of_getElem? (i := 95) rfl) rfl
theorem ml_X3_63 : Cond.methodLink RX3 63 yX10_isPlan ∈ Ug := ug_3 (List.mem_of_getElem? (i := 99) rfl) rfl
theorem ml_L_81 : Cond.methodLink RL 81 yX11_byRules ∈ Ug := ug_3 (List.mem_of_getElem? (i := 100) rfl) rfl
theorem ml_X11_188 : Cond.methodLink RX11 188 yX8_costOf ∈ Ug := ug_3 (List.mem_of_getElem? (i := 104) rfl) rfl
theorem ml_X8_30 : Cond.methodLink RX8 30 yX10_fare ∈ Ug := ug_3 (List.mem_of_getElem? (i := 108) rfl) rfl
theorem ml_X8_36 : Cond.methodLink RX8 36 yX8_hadAt ∈ Ug := ug_3 (List.mem_of_getElem? (i := 109) rfl) rfl
theorem ml_X8_59 : Cond.methodLink RX8 59 yX7_value ∈ Ug := ug_3 (List.mem_of_getElem? (i := 113) rfl) rfl
theorem ml_X7_25 : Cond.methodLink RX7 25 yX7_valueOf ∈ Ug := ug_3 (List.mem_of_getElem? (i := 117) rfl) rfl
theorem ml_X7_29 : Cond.methodLink RX7 29 yX7_joined ∈ Ug := ug_3 (List.mem_of_getElem? (i := 120) rfl) rfl
theorem ml_X8_63 : Cond.methodLink RX8 63 yJ9_min_7cf53 ∈ Ug := ug_3 (List.mem_of_getElem? (i := 123) rfl) rfl
theorem ml_X8_43 : Cond.methodLink RX8 43 yJ9_max_7cf53 ∈ Ug := ug_3 (List.mem_of_getElem? (i := 124) rfl) rfl
theorem ml_X8_40 : Cond.methodLink RX8 40 yX10_balance ∈ Ug := ug_3 (List.mem_of_getElem? (i := 127) rfl) rfl
theorem ml_L_85 : Cond.methodLink RL 85 yX11_ruled ∈ Ug := ug_3 (List.mem_of_getElem? (i := 128) rfl) rfl
theorem ml_X11_191 : Cond.methodLink RX11 191 yX8_worstOver ∈ Ug := ug_3 (List.mem_of_getElem? (i := 132) rfl) rfl
theorem ml_X8_52 : Cond.methodLink RX8 52 yX8_costOf ∈ Ug := ug_3 (List.mem_of_getElem? (i := 136) rfl) rfl
theorem ml_L_89 : Cond.methodLink RL 89 yX11_close ∈ Ug := ug_3 (List.mem_of_getElem? (i := 137) rfl) rfl
theorem ml_X11_192 : Cond.methodLink RX11 192 yX2_run ∈ Ug := ug_3 (List.mem_of_getElem? (i := 141) rfl) rfl
theorem ml_X2_33 : Cond.methodLink RX2 33 yX3_bestOver ∈ Ug := ug_3 (List.mem_of_getElem? (i := 145) rfl) rfl
theorem ml_X2_42 : Cond.methodLink RX2 42 yX3_worstWorld ∈ Ug := ug_3 (List.mem_of_getElem? (i := 146) rfl) rfl
theorem ml_X2_46 : Cond.methodLink RX2 46 yX3_of ∈ Ug := ug_3 (List.mem_of_getElem? (i := 147) rfl) rfl
theorem ml_X11_196 : Cond.methodLink RX11 196 yX2_answer ∈ Ug := ug_3 (List.mem_of_getElem? (i := 148) rfl) rfl
theorem ml_X2_49 : Cond.methodLink RX2 49 yJ6_bitCount_0f7a4 ∈ Ug := ug_3 (List.mem_of_getElem? (i := 152) rfl) rfl
theorem ml_L_93 : Cond.methodLink RL 93 yX11_put ∈ Ug := ug_3 (List.mem_of_getElem? (i := 153) rfl) rfl
theorem ml_L_97 : Cond.methodLink RL 97 yX11_prove ∈ Ug := ug_3 (List.mem_of_getElem? (i := 157) rfl) rfl
theorem ml_X11_199 : Cond.methodLink RX11 199 yX6_failureOf ∈ Ug := ug_3 (List.mem_of_getElem? (i := 161) rfl) rfl
theorem ml_X6_9 : Cond.methodLink RX6 9 yX10_balance ∈ Ug := ug_3 (List.mem_of_getElem? (i := 164) rfl) rfl
theorem ml_X6_15 : Cond.methodLink RX6 15 yX6_failureAt ∈ Ug := ug_3 (List.mem_of_getElem? (i := 165) rfl) rfl
theorem ml_X11_205 : Cond.methodLink RX11 205 yX6_worthOf ∈ Ug := ug_3 (List.mem_of_getElem? (i := 168) rfl) rfl
theorem ml_X6_25 : Cond.methodLink RX6 25 yJ9_max_7cf53 ∈ Ug := ug_3 (List.mem_of_getElem? (i := 171) rfl) rfl
theorem ml_L_101 : Cond.methodLink RL 101 yX11_promise ∈ Ug := ug_3 (List.mem_of_getElem? (i := 172) rfl) rfl
theorem ml_X11_208 : Cond.methodLink RX11 208 yX11_alike ∈ Ug := ug_3 (List.mem_of_getElem? (i := 176) rfl) rfl
theorem ml_L_105 : Cond.methodLink RL 105 yX11_corner ∈ Ug := ug_3 (List.mem_of_getElem? (i := 177) rfl) rfl
theorem ml_L_109 : Cond.methodLink RL 109 yX11_flat ∈ Ug := ug_3 (List.mem_of_getElem? (i := 181) rfl) rfl
theorem ml_L_113 : Cond.methodLink RL 113 yX11_foreknown ∈ Ug := ug_3 (List.mem_of_getElem? (i := 185) rfl) rfl
theorem ml_X11_215 : Cond.methodLink RX11 215 yX11_costWithWord ∈ Ug := ug_3 (List.mem_of_getElem? (i := 189) rfl) rfl
theorem ml_X11_248 : Cond.methodLink RX11 248 yJ9_max_7cf53 ∈ Ug := ug_3 (List.mem_of_getElem? (i := 193) rfl) rfl
theorem ml_L_117 : Cond.methodLink RL 117 yX11_dearest ∈ Ug := ug_3 (List.mem_of_getElem? (i := 194) rfl) rfl
theorem ml_L_121 : Cond.methodLink RL 121 yX11_who ∈ Ug := ug_3 (List.mem_of_getElem? (i := 198) rfl) rfl
theorem ml_X11_218 : Cond.methodLink RX11 218 yX8_mostLeft ∈ Ug := ug_3 (List.mem_of_getElem? (i := 202) rfl) rfl
theorem ml_L_125 : Cond.methodLink RL 125 yX11_none ∈ Ug := ug_3 (List.mem_of_getElem? (i := 206) rfl) rfl
theorem kc_X11_221 : Cond.constant RX11 221 (99999) ∈ Ug := ug_3 (List.mem_of_getElem? (i := 210) rfl) rfl
theorem ml_X11_222 : Cond.methodLink RX11 222 yX0_fewest ∈ Ug := ug_3 (List.mem_of_getElem? (i := 211) rfl) rfl
theorem ml_X0_19 : Cond.methodLink RX0 19 yX3_bestOver ∈ Ug := ug_3 (List.mem_of_getElem? (i := 215) rfl) rfl
theorem ml_X0_25 : Cond.methodLink RX0 25 yX0_find ∈ Ug := ug_3 (List.mem_of_getElem? (i := 216) rfl) rfl
theorem ml_X0_33 : Cond.methodLink RX0 33 yJ7_fill_d0a16 ∈ Ug := ug_3 (List.mem_of_getElem? (i := 220) rfl) rfl
theorem ml_X0_43 : Cond.methodLink RX0 43 yX10_isPlan ∈ Ug := ug_3 (List.mem_of_getElem? (i := 223) rfl) rfl
theorem ml_X0_49 : Cond.methodLink RX0 49 yX10_fare ∈ Ug := ug_3 (List.mem_of_getElem? (i := 224) rfl) rfl
theorem ml_X0_52 : Cond.methodLink RX0 52 yX3_of ∈ Ug := ug_3 (List.mem_of_getElem? (i := 225) rfl) rfl
theorem ml_X0_29 : Cond.methodLink RX0 29 yX0_leastOf ∈ Ug := ug_3 (List.mem_of_getElem? (i := 226) rfl) rfl
theorem ml_X0_55 : Cond.methodLink RX0 55 yJ6_bitCount_0f7a4 ∈ Ug := ug_3 (List.mem_of_getElem? (i := 230) rfl) rfl
theorem ml_X0_60 : Cond.methodLink RX0 60 yX0_isBorneByNone ∈ Ug := ug_3 (List.mem_of_getElem? (i := 231) rfl) rfl
theorem ml_X11_225 : Cond.methodLink RX11 225 yJ6_bitCount_0f7a4 ∈ Ug := ug_3 (List.mem_of_getElem? (i := 235) rfl) rfl
theorem ml_L_129 : Cond.methodLink RL 129 yX11_year ∈ Ug := ug_3 (List.mem_of_getElem? (i := 236) rfl) rfl
theorem ml_L_133 : Cond.methodLink RL 133 yX11_out ∈ Ug := ug_4 (List.mem_of_getElem? (i := 0) rfl) rfl
theorem ml_X11_236 : Cond.methodLink RX11 236 yX10_yearsIn ∈ Ug := ug_4 (List.mem_of_getElem? (i := 4) rfl) rfl
theorem ml_L_137 : Cond.methodLink RL 137 yX11_dearYears ∈ Ug := ug_4 (List.mem_of_getElem? (i := 8) rfl) rfl
theorem ml_L_141 : Cond.methodLink RL 141 yX11_drawn ∈ Ug := ug_4 (List.mem_of_getElem? (i := 12) rfl) rfl
theorem ml_L_145 : Cond.methodLink RL 145 yX11_image ∈ Ug := ug_4 (List.mem_of_getElem? (i := 16) rfl) rfl
theorem ml_X11_239 : Cond.methodLink RX11 239 yX10_copy ∈ Ug := ug_4 (List.mem_of_getElem? (i := 20) rfl) rfl
theorem ml_X10_41 : Cond.methodLink RX10 41 arraycopyName ∈ Ug := ug_4 (List.mem_of_getElem? (i := 24) rfl) rfl
theorem ml_X10_47 : Cond.methodLink RX10 47 yX7_copy ∈ Ug := ug_4 (List.mem_of_getElem? (i := 25) rfl) rfl
theorem ml_L_149 : Cond.methodLink RL 149 yX11_restore ∈ Ug := ug_4 (List.mem_of_getElem? (i := 26) rfl) rfl
theorem ml_L_153 : Cond.methodLink RL 153 yX11_count ∈ Ug := ug_4 (List.mem_of_getElem? (i := 30) rfl) rfl
theorem ml_X11_242 : Cond.methodLink RX11 242 yX10_rulesTold ∈ Ug := ug_4 (List.mem_of_getElem? (i := 34) rfl) rfl
theorem ml_L_12 : Cond.methodLink RL 12 yX12_init ∈ Ug := ug_4 (List.mem_of_getElem? (i := 40) rfl) rfl
theorem fl_X12_7 : Fl RX12 7 10 0 RX12 TX12 51 tyX12 true := ⟨kf_X12, Nat.le_of_ble_eq_true rfl, rfl, rfl, ug_4 (List.mem_of_getElem? (i := 44) rfl) rfl⟩
theorem fl_X12_13 : Fl RX12 13 10 1 RX12 TX12 51 tyX12 true := ⟨kf_X12, Nat.le_of_ble_eq_true rfl, rfl, rfl, ug_4 (List.mem_of_getElem? (i := 45) rfl) rfl⟩
theorem fl_X12_121 : Fl RX12 121 10 2 RX12 TX12 51 tyX12 false := ⟨kf_X12, Nat.le_of_ble_eq_true rfl, rfl, rfl, ug_4 (List.mem_of_getElem? (i := 46) rfl) rfl⟩
theorem fl_X12_16 : Fl RX12 16 10 3 RX12 TX12 51 tyX12 true := ⟨kf_X12, Nat.le_of_ble_eq_true rfl, rfl, rfl, ug_4 (List.mem_of_getElem? (i := 47) rfl) rfl⟩
theorem fl_X12_19 : Fl RX12 19 10 4 RX12 TX12 51 tyX12 true := ⟨kf_X12, Nat.le_of_ble_eq_true rfl, rfl, rfl, ug_4 (List.mem_of_getElem? (i := 48) rfl) rfl⟩
theorem fl_X12_125 : Fl RX12 125 10 5 RX12 TX12 51 tyX12 false := ⟨kf_X12, Nat.le_of_ble_eq_true rfl, rfl, rfl, ug_4 (List.mem_of_getElem? (i := 49) rfl) rfl⟩
theorem fl_X12_22 : Fl RX12 22 10 6 RX12 TX12 51 tyX12 true := ⟨kf_X12, Nat.le_of_ble_eq_true rfl, rfl, rfl, ug_4 (List.mem_of_getElem? (i := 50) rfl) rfl⟩
theorem fl_X12_25 : Fl RX12 25 10 7 RX12 TX12 51 tyX12 true := ⟨kf_X12, Nat.le_of_ble_eq_true rfl, rfl, rfl, ug_4 (List.mem_of_getElem? (i := 51) rfl) rfl⟩
theorem fl_X12_28 : Fl RX12 28 10 8 RX12 TX12 51 tyX12 true := ⟨kf_X12, Nat.le_of_ble_eq_true rfl, rfl, rfl, ug_4 (List.mem_of_getElem? (i := 52) rfl) rfl⟩
theorem fl_X12_31 : Fl RX12 31 10 9 RX12 TX12 51 tyX12 true := ⟨kf_X12, Nat.le_of_ble_eq_true rfl, rfl, rfl, ug_4 (List.mem_of_getElem? (i := 53) rfl) rfl⟩
theorem fl_X12_34 : Fl RX12 34 10 10 RX12 TX12 51 tyX12 true := ⟨kf_X12, Nat.le_of_ble_eq_true rfl, rfl, rfl, ug_4 (List.mem_of_getElem? (i := 54) rfl) rfl⟩
theorem fl_X12_37 : Fl RX12 37 10 11 RX12 TX12 51 tyX12 true := ⟨kf_X12, Nat.le_of_ble_eq_true rfl, rfl, rfl, ug_4 (List.mem_of_getElem? (i := 55) rfl) rfl⟩
theorem fl_X12_40 : Fl RX12 40 10 12 RX12 TX12 51 tyX12 true := ⟨kf_X12, Nat.le_of_ble_eq_true rfl, rfl, rfl, ug_4 (List.mem_of_getElem? (i := 56) rfl) rfl⟩
theorem fl_X12_44 : Fl RX12 44 10 13 RX12 TX12 51 tyX12 true := ⟨kf_X12, Nat.le_of_ble_eq_true rfl, rfl, rfl, ug_4 (List.mem_of_getElem? (i := 57) rfl) rfl⟩
theorem fl_X12_160 : Fl RX12 160 10 14 RX12 TX12 51 tyX12 false := ⟨kf_X12, Nat.le_of_ble_eq_true rfl, rfl, rfl, ug_4 (List.mem_of_getElem? (i := 58) rfl) rfl⟩
theorem fl_X12_186 : Fl RX12 186 10 15 RX12 TX12 51 tyX12 false := ⟨kf_X12, Nat.le_of_ble_eq_true rfl, rfl, rfl, ug_4 (List.mem_of_getElem? (i := 59) rfl) rfl⟩
theorem fl_X12_163 : Fl RX12 163 10 16 RX12 TX12 51 tyX12 false := ⟨kf_X12, Nat.le_of_ble_eq_true rfl, rfl, rfl, ug_4 (List.mem_of_getElem? (i := 60) rfl) rfl⟩
theorem fl_X12_177 : Fl RX12 177 10 17 RX12 TX12 51 tyX12 false := ⟨kf_X12, Nat.le_of_ble_eq_true rfl, rfl, rfl, ug_4 (List.mem_of_getElem? (i := 61) rfl) rfl⟩
theorem fl_X12_47 : Fl RX12 47 10 18 RX12 TX12 51 tyX12 true := ⟨kf_X12, Nat.le_of_ble_eq_true rfl, rfl, rfl, ug_4 (List.mem_of_getElem? (i := 62) rfl) rfl⟩
theorem fl_X12_50 : Fl RX12 50 10 19 RX12 TX12 51 tyX12 true := ⟨kf_X12, Nat.le_of_ble_eq_true rfl, rfl, rfl, ug_4 (List.mem_of_getElem? (i := 63) rfl) rfl⟩
theorem fl_X12_201 : Fl RX12 201 10 20 RX12 TX12 51 tyX12 false := ⟨kf_X12, Nat.le_of_ble_eq_true rfl, rfl, rfl, ug_4 (List.mem_of_getElem? (i := 64) rfl) rfl⟩
theorem fl_X12_198 : Fl RX12 198 10 21 RX12 TX12 51 tyX12 false := ⟨kf_X12, Nat.le_of_ble_eq_true rfl, rfl, rfl, ug_4 (List.mem_of_getElem? (i := 65) rfl) rfl⟩
theorem fl_X12_204 : Fl RX12 204 10 22 RX12 TX12 51 tyX12 false := ⟨kf_X12, Nat.le_of_ble_eq_true rfl, rfl, rfl, ug_4 (List.mem_of_getElem? (i := 66) rfl) rfl⟩
theorem fl_X12_53 : Fl RX12 53 10 23 RX12 TX12 51 tyX12 true := ⟨kf_X12, Nat.le_of_ble_eq_true rfl, rfl, rfl, ug_4 (List.mem_of_getElem? (i := 67) rfl) rfl⟩
theorem fl_X12_56 : Fl RX12 56 10 24 RX12 TX12 51 tyX12 true := ⟨kf_X12, Nat.le_of_ble_eq_true rfl, rfl, rfl, ug_4 (List.mem_of_getElem? (i := 68) rfl) rfl⟩
theorem fl_X12_59 : Fl RX12 59 10 25 RX12 TX12 51 tyX12 true := ⟨kf_X12, Nat.le_of_ble_eq_true rfl, rfl, rfl, ug_4 (List.mem_of_getElem? (i := 69) rfl) rfl⟩
theorem fl_X12_235 : Fl RX12 235 10 26 RX12 TX12 51 tyX12 false := ⟨kf_X12, Nat.le_of_ble_eq_true rfl, rfl, rfl, ug_4 (List.mem_of_getElem? (i := 70) rfl) rfl⟩
theorem fl_X12_248 : Fl RX12 248 10 27 RX12 TX12 51 tyX12 false := ⟨kf_X12, Nat.le_of_ble_eq_true rfl, rfl, rfl, ug_4 (List.mem_of_getElem? (i := 71) rfl) rfl⟩
theorem fl_X12_251 : Fl RX12 251 10 28 RX12 TX12 51 tyX12 false := ⟨kf_X12, Nat.le_of_ble_eq_true rfl, rfl, rfl, ug_4 (List.mem_of_getElem? (i := 72) rfl) rfl⟩
theorem fl_X12_62 : Fl RX12 62 10 29 RX12 TX12 51 tyX12 true := ⟨kf_X12, Nat.le_of_ble_eq_true rfl, rfl, rfl, ug_4 (List.mem_of_getElem? (i := 73) rfl) rfl⟩
theorem fl_X12_65 : Fl RX12 65 10 30 RX12 TX12 51 tyX12 true := ⟨kf_X12, Nat.le_of_ble_eq_true rfl, rfl, rfl, ug_4 (List.mem_of_getElem? (i := 74) rfl) rfl⟩
theorem fl_X12_68 : Fl RX12 68 10 31 RX12 TX12 51 tyX12 true := ⟨kf_X12, Nat.le_of_ble_eq_true rfl, rfl, rfl, ug_4 (List.mem_of_getElem? (i := 75) rfl) rfl⟩
theorem fl_X12_71 : Fl RX12 71 10 32 RX12 TX12 51 tyX12 true := ⟨kf_X12, Nat.le_of_ble_eq_true rfl, rfl, rfl, ug_4 (List.mem_of_getElem? (i := 76) rfl) rfl⟩
theorem fl_X12_285 : Fl RX12 285 10 33 RX12 TX12 51 tyX12 false := ⟨kf_X12, Nat.le_of_ble_eq_true rfl, rfl, rfl, ug_4 (List.mem_of_getElem? (i := 77) rfl) rfl⟩
theorem fl_X12_292 : Fl RX12 292 10 34 RX12 TX12 51 tyX12 false := ⟨kf_X12, Nat.le_of_ble_eq_true rfl, rfl, rfl, ug_4 (List.mem_of_getElem? (i := 78) rfl) rfl⟩
theorem fl_X12_74 : Fl RX12 74 10 35 RX12 TX12 51 tyX12 true := ⟨kf_X12, Nat.le_of_ble_eq_true rfl, rfl, rfl, ug_4 (List.mem_of_getElem? (i := 79) rfl) rfl⟩
theorem fl_X12_77 : Fl RX12 77 10 36 RX12 TX12 51 tyX12 true := ⟨kf_X12, Nat.le_of_ble_eq_true rfl, rfl, rfl, ug_4 (List.mem_of_getElem? (i := 80) rfl) rfl⟩
theorem fl_X12_313 : Fl RX12 313 10 37 RX12 TX12 51 tyX12 false := ⟨kf_X12, Nat.le_of_ble_eq_true rfl, rfl, rfl, ug_4 (List.mem_of_getElem? (i := 81) rfl) rfl⟩
theorem fl_X12_80 : Fl RX12 80 10 38 RX12 TX12 51 tyX12 true := ⟨kf_X12, Nat.le_of_ble_eq_true rfl, rfl, rfl, ug_4 (List.mem_of_getElem? (i := 82) rfl) rfl⟩
theorem fl_X12_330 : Fl RX12 330 10 39 RX12 TX12 51 tyX12 false := ⟨kf_X12, Nat.le_of_ble_eq_true rfl, rfl, rfl, ug_4 (List.mem_of_getElem? (i := 83) rfl) rfl⟩
theorem fl_X12_83 : Fl RX12 83 10 40 RX12 TX12 51 tyX12 true := ⟨kf_X12, Nat.le_of_ble_eq_true rfl, rfl, rfl, ug_4 (List.mem_of_getElem? (i := 84) rfl) rfl⟩
theorem fl_X12_86 : Fl RX12 86 10 41 RX12 TX12 51 tyX12 true := ⟨kf_X12, Nat.le_of_ble_eq_true rfl, rfl, rfl, ug_4 (List.mem_of_getElem? (i := 85) rfl) rfl⟩
theorem fl_X12_89 : Fl RX12 89 10 42 RX12 TX12 51 tyX12 true := ⟨kf_X12, Nat.le_of_ble_eq_true rfl, rfl, rfl, ug_4 (List.mem_of_getElem? (i := 86) rfl) rfl⟩
theorem fl_X12_92 : Fl RX12 92 10 43 RX12 TX12 51 tyX12 true := ⟨kf_X12, Nat.le_of_ble_eq_true rfl, rfl, rfl, ug_4 (List.mem_of_getElem? (i := 87) rfl) rfl⟩
theorem fl_X12_95 : Fl RX12 95 10 44 RX12 TX12 51 tyX12 true := ⟨kf_X12, Nat.le_of_ble_eq_true rfl, rfl, rfl, ug_4 (List.mem_of_getElem? (i := 88) rfl) rfl⟩
theorem fl_X12_98 : Fl RX12 98 10 45 RX12 TX12 51 tyX12 true := ⟨kf_X12, Nat.le_of_ble_eq_true rfl, rfl, rfl, ug_4 (List.mem_of_getElem? (i := 89) rfl) rfl⟩
theorem fl_X12_101 : Fl RX12 101 10 46 RX12 TX12 51 tyX12 true := ⟨kf_X12, Nat.le_of_ble_eq_true rfl, rfl, rfl, ug_4 (List.mem_of_getElem? (i := 90) rfl) rfl⟩
theorem fl_X12_104 : Fl RX12 104 10 47 RX12 TX12 51 tyX12 true := ⟨kf_X12, Nat.le_of_ble_eq_true rfl, rfl, rfl, ug_4 (List.mem_of_getElem? (i := 91) rfl) rfl⟩
theorem fl_X12_338 : Fl RX12 338 10 48 RX12 TX12 51 tyX12 false := ⟨kf_X12, Nat.le_of_ble_eq_true rfl, rfl, rfl, ug_4 (List.mem_of_getElem? (i := 92) rfl) rfl⟩
theorem fl_X12_341 : Fl RX12 341 10 49 RX12 TX12 51 tyX12 false := ⟨kf_X12, Nat.le_of_ble_eq_true rfl, rfl, rfl, ug_4 (List.mem_of_getElem? (i := 93) rfl) rfl⟩
theorem fl_X12_335 : Fl RX12 335 10 50 RX12 TX12 51 tyX12 false := ⟨kf_X12, Nat.le_of_ble_eq_true rfl, rfl, rfl, ug_4 (List.mem_of_getElem? (i := 94) rfl) rfl⟩
theorem ml_L_17 : Cond.methodLink RL 17 yX12_harbour ∈ Ug := ug_4 (List.mem_of_getElem? (i := 199) rfl) rfl
theorem kc_X12_107 : Cond.constantLong RX12 107 (3) ∈ Ug := ug_4 (List.mem_of_getElem? (i := 203) rfl) rfl
theorem ml_X12_109 : Cond.methodLink RX12 109 yX12_isIn ∈ Ug := ug_4 (List.mem_of_getElem? (i := 204) rfl) rfl
theorem ml_X12_113 : Cond.methodLink RX12 113 yX12_no ∈ Ug := ug_4 (List.mem_of_getElem? (i := 207) rfl) rfl
theorem ml_X12_117 : Cond.methodLink RX12 117 yX12_isThere ∈ Ug := ug_4 (List.mem_of_getElem? (i := 211) rfl) rfl
theorem ml_L_22 : Cond.methodLink RL 22 yX12_tell ∈ Ug := ug_4 (List.mem_of_getElem? (i := 215) rfl) rfl
theorem kc_X12_129 : Cond.constantLong RX12 129 (5) ∈ Ug := ug_4 (List.mem_of_getElem? (i := 219) rfl) rfl
theorem kc_X12_131 : Cond.constantLong RX12 131 (999) ∈ Ug := ug_4 (List.mem_of_getElem? (i := 220) rfl) rfl
theorem kc_X12_133 : Cond.constantLong RX12 133 (9) ∈ Ug := ug_4 (List.mem_of_getElem? (i := 221) rfl) rfl
theorem kc_X12_135 : Cond.constantLong RX12 135 (99) ∈ Ug := ug_4 (List.mem_of_getElem? (i := 222) rfl) rfl
theorem ml_X12_137 : Cond.methodLink RX12 137 yX12_outOf ∈ Ug := ug_4 (List.mem_of_getElem? (i := 223) rfl) rfl
theorem ml_X12_141 : Cond.methodLink RX12 141 yX12_becomes ∈ Ug := ug_4 (List.mem_of_getElem? (i := 226) rfl) rfl
theorem ml_L_26 : Cond.methodLink RL 26 yX12_move ∈ Ug := ug_4 (List.mem_of_getElem? (i := 230) rfl) rfl
theorem ml_L_31 : Cond.methodLink RL 31 yX12_set ∈ Ug := ug_4 (List.mem_of_getElem? (i := 234) rfl) rfl
theorem kc_X12_145 : Cond.constantLong RX12 145 (2) ∈ Ug := ug_4 (List.mem_of_getElem? (i := 238) rfl) rfl
theorem kc_X12_147 : Cond.constantLong RX12 147 (50) ∈ Ug := ug_4 (List.mem_of_getElem? (i := 239) rfl) rfl
theorem kc_X12_149 : Cond.constantLong RX12 149 (4) ∈ Ug := ug_5 (List.mem_of_getElem? (i := 0) rfl) rfl
theorem ml_L_36 : Cond.methodLink RL 36 yX12_undo ∈ Ug := ug_5 (List.mem_of_getElem? (i := 1) rfl) rfl
theorem ml_L_43 : Cond.methodLink RL 43 yX12_feed ∈ Ug := ug_5 (List.mem_of_getElem? (i := 5) rfl) rfl
theorem kc_X12_158 : Cond.constantLong RX12 158 (8) ∈ Ug := ug_5 (List.mem_of_getElem? (i := 9) rfl) rfl
theorem kc_X12_153 : Cond.constantLong RX12 153 (255) ∈ Ug := ug_5 (List.mem_of_getElem? (i := 10) rfl) rfl
theorem ml_L_47 : Cond.methodLink RL 47 yX12_law ∈ Ug := ug_5 (List.mem_of_getElem? (i := 11) rfl) rfl
theorem ml_X12_189 : Cond.methodLink RX12 189 yX12_isLaw ∈ Ug := ug_5 (List.mem_of_getElem? (i := 15) rfl) rfl
theorem ml_X12_166 : Cond.methodLink RX12 166 yX12_sign ∈ Ug := ug_5 (List.mem_of_getElem? (i := 19) rfl) rfl
theorem ml_X12_180 : Cond.methodLink RX12 180 yX12_part ∈ Ug := ug_5 (List.mem_of_getElem? (i := 23) rfl) rfl
theorem ml_X12_173 : Cond.methodLink RX12 173 yX12_digit ∈ Ug := ug_5 (List.mem_of_getElem? (i := 27) rfl) rfl
theorem ml_X12_170 : Cond.methodLink RX12 170 yX12_isDigit ∈ Ug := ug_5 (List.mem_of_getElem? (i := 31) rfl) rfl
theorem ml_X12_183 : Cond.methodLink RX12 183 yX12_closes ∈ Ug := ug_5 (List.mem_of_getElem? (i := 34) rfl) rfl
theorem ml_L_52 : Cond.methodLink RL 52 yX12_holds ∈ Ug := ug_5 (List.mem_of_getElem? (i := 38) rfl) rfl
theorem ml_L_56 : Cond.methodLink RL 56 yX12_rule ∈ Ug := ug_5 (List.mem_of_getElem? (i := 42) rfl) rfl
theorem ml_X12_195 : Cond.methodLink RX12 195 yX12_isRule ∈ Ug := ug_5 (List.mem_of_getElem? (i := 46) rfl) rfl
theorem ml_X12_192 : Cond.methodLink RX12 192 yX12_unit ∈ Ug := ug_5 (List.mem_of_getElem? (i := 50) rfl) rfl
theorem ml_L_60 : Cond.methodLink RL 60 yX12_unrule ∈ Ug := ug_5 (List.mem_of_getElem? (i := 54) rfl) rfl
theorem ml_L_64 : Cond.methodLink RL 64 yX12_inSet ∈ Ug := ug_5 (List.mem_of_getElem? (i := 58) rfl) rfl
theorem ml_X12_282 : Cond.methodLink RX12 282 yX12_finds ∈ Ug := ug_5 (List.mem_of_getElem? (i := 62) rfl) rfl
theorem ml_X12_267 : Cond.methodLink RX12 267 yX12_lets ∈ Ug := ug_5 (List.mem_of_getElem? (i := 66) rfl) rfl
theorem ml_X12_260 : Cond.methodLink RX12 260 yX12_letsBy ∈ Ug := ug_5 (List.mem_of_getElem? (i := 70) rfl) rfl
theorem ml_X12_210 : Cond.methodLink RX12 210 yX12_lawSign ∈ Ug := ug_5 (List.mem_of_getElem? (i := 74) rfl) rfl
theorem ml_X12_216 : Cond.methodLink RX12 216 yX12_compared ∈ Ug := ug_5 (List.mem_of_getElem? (i := 78) rfl) rfl
theorem ml_X12_213 : Cond.methodLink RX12 213 yX12_bits ∈ Ug := ug_5 (List.mem_of_getElem? (i := 82) rfl) rfl
theorem ml_X12_219 : Cond.methodLink RX12 219 yX12_push ∈ Ug := ug_5 (List.mem_of_getElem? (i := 85) rfl) rfl
theorem ml_X12_223 : Cond.methodLink RX12 223 yX12_works ∈ Ug := ug_5 (List.mem_of_getElem? (i := 89) rfl) rfl
theorem ml_X12_207 : Cond.methodLink RX12 207 yX12_rank ∈ Ug := ug_5 (List.mem_of_getElem? (i := 93) rfl) rfl
theorem ml_X12_226 : Cond.methodLink RX12 226 yX12_waitsFor ∈ Ug := ug_5 (List.mem_of_getElem? (i := 96) rfl) rfl
theorem ml_X12_264 : Cond.methodLink RX12 264 yX12_isWorld ∈ Ug := ug_5 (List.mem_of_getElem? (i := 100) rfl) rfl
theorem kc_X12_151 : Cond.constantLong RX12 151 (15) ∈ Ug := ug_5 (List.mem_of_getElem? (i := 104) rfl) rfl
theorem ml_X12_270 : Cond.methodLink RX12 270 yX12_isPlan ∈ Ug := ug_5 (List.mem_of_getElem? (i := 105) rfl) rfl
theorem ml_X12_155 : Cond.methodLink RX12 155 yX12_ferries ∈ Ug := ug_5 (List.mem_of_getElem? (i := 109) rfl) rfl
theorem ml_X12_273 : Cond.methodLink RX12 273 yX12_hired ∈ Ug := ug_5 (List.mem_of_getElem? (i := 112) rfl) rfl
theorem ml_X12_276 : Cond.methodLink RX12 276 yX12_laterOf ∈ Ug := ug_5 (List.mem_of_getElem? (i := 116) rfl) rfl
theorem ml_X12_244 : Cond.methodLink RX12 244 yX12_findLacks ∈ Ug := ug_5 (List.mem_of_getElem? (i := 120) rfl) rfl
theorem ml_X12_241 : Cond.methodLink RX12 241 yX12_tries ∈ Ug := ug_5 (List.mem_of_getElem? (i := 124) rfl) rfl
theorem ml_X12_232 : Cond.methodLink RX12 232 yX12_worth ∈ Ug := ug_5 (List.mem_of_getElem? (i := 128) rfl) rfl
theorem ml_X12_229 : Cond.methodLink RX12 229 yX12_least ∈ Ug := ug_5 (List.mem_of_getElem? (i := 132) rfl) rfl
theorem ml_X12_254 : Cond.methodLink RX12 254 yX12_triesLevel ∈ Ug := ug_5 (List.mem_of_getElem? (i := 135) rfl) rfl
theorem ml_X12_238 : Cond.methodLink RX12 238 yX12_priceOf ∈ Ug := ug_5 (List.mem_of_getElem? (i := 139) rfl) rfl
theorem ml_X12_257 : Cond.methodLink RX12 257 yX12_triesTwo ∈ Ug := ug_5 (List.mem_of_getElem? (i := 143) rfl) rfl
theorem ml_X12_279 : Cond.methodLink RX12 279 yX12_draws ∈ Ug := ug_5 (List.mem_of_getElem? (i := 147) rfl) rfl
theorem ml_L_68 : Cond.methodLink RL 68 yX12_later ∈ Ug := ug_5 (List.mem_of_getElem? (i := 151) rfl) rfl
theorem ml_L_72 : Cond.methodLink RL 72 yX12_cost ∈ Ug := ug_5 (List.mem_of_getElem? (i := 155) rfl) rfl
theorem ml_L_76 : Cond.methodLink RL 76 yX12_worst ∈ Ug := ug_5 (List.mem_of_getElem? (i := 159) rfl) rfl
theorem ml_X12_288 : Cond.methodLink RX12 288 yX12_worstOf ∈ Ug := ug_5 (List.mem_of_getElem? (i := 163) rfl) rfl
theorem ml_L_80 : Cond.methodLink RL 80 yX12_best ∈ Ug := ug_5 (List.mem_of_getElem? (i := 167) rfl) rfl
theorem ml_X12_295 : Cond.methodLink RX12 295 yX12_bestOf ∈ Ug := ug_5 (List.mem_of_getElem? (i := 171) rfl) rfl
theorem ml_L_84 : Cond.methodLink RL 84 yX12_byRules ∈ Ug := ug_5 (List.mem_of_getElem? (i := 175) rfl) rfl
theorem ml_X12_307 : Cond.methodLink RX12 307 yX12_byRulesOf ∈ Ug := ug_5 (List.mem_of_getElem? (i := 179) rfl) rfl
theorem ml_X12_298 : Cond.methodLink RX12 298 yX12_hadOf ∈ Ug := ug_5 (List.mem_of_getElem? (i := 183) rfl) rfl
theorem ml_X12_301 : Cond.methodLink RX12 301 yX12_ruleWorth ∈ Ug := ug_5 (List.mem_of_getElem? (i := 187) rfl) rfl
theorem ml_X12_304 : Cond.methodLink RX12 304 yX12_leftOf ∈ Ug := ug_5 (List.mem_of_getElem? (i := 191) rfl) rfl
theorem ml_L_88 : Cond.methodLink RL 88 yX12_ruled ∈ Ug := ug_5 (List.mem_of_getElem? (i := 195) rfl) rfl
theorem ml_L_92 : Cond.methodLink RL 92 yX12_close ∈ Ug := ug_5 (List.mem_of_getElem? (i := 199) rfl) rfl
theorem ml_X12_310 : Cond.methodLink RX12 310 yX12_borneMost ∈ Ug := ug_5 (List.mem_of_getElem? (i := 203) rfl) rfl
theorem ml_L_96 : Cond.methodLink RL 96 yX12_put ∈ Ug := ug_5 (List.mem_of_getElem? (i := 207) rfl) rfl
theorem ml_L_100 : Cond.methodLink RL 100 yX12_prove ∈ Ug := ug_5 (List.mem_of_getElem? (i := 211) rfl) rfl
theorem ml_X12_318 : Cond.methodLink RX12 318 yX12_fails ∈ Ug := ug_5 (List.mem_of_getElem? (i := 215) rfl) rfl
theorem kc_X12_316 : Cond.constantLong RX12 316 (9999) ∈ Ug := ug_5 (List.mem_of_getElem? (i := 219) rfl) rfl
theorem ml_L_104 : Cond.methodLink RL 104 yX12_promise ∈ Ug := ug_5 (List.mem_of_getElem? (i := 220) rfl) rfl
theorem ml_L_108 : Cond.methodLink RL 108 yX12_corner ∈ Ug := ug_5 (List.mem_of_getElem? (i := 224) rfl) rfl
theorem ml_L_112 : Cond.methodLink RL 112 yX12_flat ∈ Ug := ug_5 (List.mem_of_getElem? (i := 228) rfl) rfl
theorem ml_L_116 : Cond.methodLink RL 116 yX12_foreknown ∈ Ug := ug_5 (List.mem_of_getElem? (i := 232) rfl) rfl
theorem ml_X12_321 : Cond.methodLink RX12 321 yX12_known ∈ Ug := ug_5 (List.mem_of_getElem? (i := 236) rfl) rfl
theorem ml_L_120 : Cond.methodLink RL 120 yX12_dearest ∈ Ug := ug_6 (List.mem_of_getElem? (i := 0) rfl) rfl
theorem ml_L_124 : Cond.methodLink RL 124 yX12_who ∈ Ug := ug_6 (List.mem_of_getElem? (i := 4) rfl) rfl
theorem ml_L_128 : Cond.methodLink RL 128 yX12_none ∈ Ug := ug_6 (List.mem_of_getElem? (i := 8) rfl) rfl
theorem kc_X12_324 : Cond.constantLong RX12 324 (99999) ∈ Ug := ug_6 (List.mem_of_getElem? (i := 12) rfl) rfl
theorem kc_X12_326 : Cond.constant RX12 326 (65536) ∈ Ug := ug_6 (List.mem_of_getElem? (i := 13) rfl) rfl
theorem ml_X12_327 : Cond.methodLink RX12 327 yX12_isNoneFor ∈ Ug := ug_6 (List.mem_of_getElem? (i := 14) rfl) rfl
theorem ml_L_132 : Cond.methodLink RL 132 yX12_year ∈ Ug := ug_6 (List.mem_of_getElem? (i := 18) rfl) rfl
theorem ml_L_136 : Cond.methodLink RL 136 yX12_out ∈ Ug := ug_6 (List.mem_of_getElem? (i := 22) rfl) rfl
theorem ml_L_140 : Cond.methodLink RL 140 yX12_dearYears ∈ Ug := ug_6 (List.mem_of_getElem? (i := 26) rfl) rfl
theorem ml_L_144 : Cond.methodLink RL 144 yX12_drawn ∈ Ug := ug_6 (List.mem_of_getElem? (i := 30) rfl) rfl
theorem kc_X12_333 : Cond.constantLong RX12 333 (60) ∈ Ug := ug_6 (List.mem_of_getElem? (i := 34) rfl) rfl
theorem ml_L_148 : Cond.methodLink RL 148 yX12_image ∈ Ug := ug_6 (List.mem_of_getElem? (i := 35) rfl) rfl
theorem ml_X12_344 : Cond.methodLink RX12 344 yX12_harbours ∈ Ug := ug_6 (List.mem_of_getElem? (i := 39) rfl) rfl
theorem ml_L_152 : Cond.methodLink RL 152 yX12_restore ∈ Ug := ug_6 (List.mem_of_getElem? (i := 43) rfl) rfl
theorem ml_L_156 : Cond.methodLink RL 156 yX12_count ∈ Ug := ug_6 (List.mem_of_getElem? (i := 47) rfl) rfl
theorem kc_X12_347 : Cond.constantLong RX12 347 (11) ∈ Ug := ug_6 (List.mem_of_getElem? (i := 51) rfl) rfl
theorem kc_X12_349 : Cond.constantLong RX12 349 (16) ∈ Ug := ug_6 (List.mem_of_getElem? (i := 52) rfl) rfl
theorem kc_L_37 : Cond.constantLong RL 37 (4294967295) ∈ Ug := ug_6 (List.mem_of_getElem? (i := 53) rfl) rfl
theorem ac_n : Cond.native arraycopyName ∈ Ug := ug_2 (List.mem_of_getElem? (i := 238) rfl) rfl
theorem ac_s : Cond.static arraycopyName ∈ Ug := ug_2 (List.mem_of_getElem? (i := 237) rfl) rfl
theorem ac_i : Cond.initialized "java/lang/System" ∈ Ug := ug_1 (List.mem_of_getElem? (i := 14) rfl) rfl
theorem mm_max_s : Cond.static Lib.Math.max.name ∈ Ug := ug_3 (List.mem_of_getElem? (i := 125) rfl) rfl
theorem mm_max_c : Cond.code Lib.Math.max.name Lib.Math.max.code 2 (some .int) ∈ Ug := ug_3 (List.mem_of_getElem? (i := 126) rfl) rfl
theorem mm_X8_43 : Cond.methodLink RX8 43 Lib.Math.max.name ∈ Ug := ug_3 (List.mem_of_getElem? (i := 124) rfl) rfl
theorem mm_X6_25 : Cond.methodLink RX6 25 Lib.Math.max.name ∈ Ug := ug_3 (List.mem_of_getElem? (i := 171) rfl) rfl
theorem mm_X11_248 : Cond.methodLink RX11 248 Lib.Math.max.name ∈ Ug := ug_3 (List.mem_of_getElem? (i := 193) rfl) rfl
theorem mm_min_s : Cond.static Lib.Math.min.name ∈ Ug := ug_3 (List.mem_of_getElem? (i := 66) rfl) rfl
theorem mm_min_c : Cond.code Lib.Math.min.name Lib.Math.min.code 2 (some .int) ∈ Ug := ug_3 (List.mem_of_getElem? (i := 67) rfl) rfl
theorem mm_X4_76 : Cond.methodLink RX4 76 Lib.Math.min.name ∈ Ug := ug_3 (List.mem_of_getElem? (i := 65) rfl) rfl
theorem mm_X8_63 : Cond.methodLink RX8 63 Lib.Math.min.name ∈ Ug := ug_3 (List.mem_of_getElem? (i := 123) rfl) rfl
theorem mm_i : Cond.initialized "java/lang/Math" ∈ Ug := ug_1 (List.mem_of_getElem? (i := 16) rfl) rfl
theorem mw_X11_init : Mw yX11_init cX11_init 1 none 0 := ⟨ug_1 (List.mem_of_getElem? (i := 22) rfl) rfl, ug_1 (List.mem_of_getElem? (i := 1) rfl) rfl, ⟨by decide +kernel, by decide +kernel, by decide +kernel⟩, Nat.le_of_ble_eq_true rfl⟩
theorem mw_X10_init : Mw yX10_init cX10_init 2 none 0 := ⟨ug_1 (List.mem_of_getElem? (i := 30) rfl) rfl, ug_1 (List.mem_of_getElem? (i := 2) rfl) rfl, ⟨by decide +kernel, by decide +kernel, by decide +kernel⟩, Nat.le_of_ble_eq_true rfl⟩
theorem mw_X7_init : Mw yX7_init cX7_init 1 none 0 := ⟨ug_1 (List.mem_of_getElem? (i := 37) rfl) rfl, ug_1 (List.mem_of_getElem? (i := 3) rfl) rfl, ⟨by decide +kernel, by decide +kernel, by decide +kernel⟩, Nat.le_of_ble_eq_true rfl⟩
theorem mw_X1_init : Mw yX1_init cX1_init 1 none 0 := ⟨ug_1 (List.mem_of_getElem? (i := 90) rfl) rfl, ug_1 (List.mem_of_getElem? (i := 4) rfl) rfl, ⟨by decide +kernel, by decide +kernel, by decide +kernel⟩, Nat.le_of_ble_eq_true rfl⟩
theorem mw_X9_init : Mw yX9_init cX9_init 1 none 0 := ⟨ug_1 (List.mem_of_getElem? (i := 110) rfl) rfl, ug_1 (List.mem_of_getElem? (i := 5) rfl) rfl, ⟨by decide +kernel, by decide +kernel, by decide +kernel⟩, Nat.le_of_ble_eq_true rfl⟩
theorem mw_X8_init : Mw yX8_init cX8_init 2 none 1 := ⟨ug_1 (List.mem_of_getElem? (i := 133) rfl) rfl, ug_1 (List.mem_of_getElem? (i := 6) rfl) rfl, ⟨by decide +kernel, by decide +kernel, by decide +kernel⟩, Nat.le_of_ble_eq_true rfl⟩
theorem mw_X3_init : Mw yX3_init cX3_init 2 none 1 := ⟨ug_1 (List.mem_of_getElem? (i := 154) rfl) rfl, ug_1 (List.mem_of_getElem? (i := 7) rfl) rfl, ⟨by decide +kernel, by decide +kernel, by decide +kernel⟩, Nat.le_of_ble_eq_true rfl⟩
theorem mw_X4_init : Mw yX4_init cX4_init 2 none 1 := ⟨ug_1 (List.mem_of_getElem? (i := 160) rfl) rfl, ug_1 (List.mem_of_getElem? (i := 8) rfl) rfl, ⟨by decide +kernel, by decide +kernel, by decide +kernel⟩, Nat.le_of_ble_eq_true rfl⟩
theorem mw_X2_init : Mw yX2_init cX2_init 2 none 1 := ⟨ug_1 (List.mem_of_getElem? (i := 222) rfl) rfl, ug_1 (List.mem_of_getElem? (i := 9) rfl) rfl, ⟨by decide +kernel, by decide +kernel, by decide +kernel⟩, Nat.le_of_ble_eq_true rfl⟩
theorem mw_X0_init : Mw yX0_init cX0_init 2 none 1 := ⟨ug_2 (List.mem_of_getElem? (i := 10) rfl) rfl, ug_1 (List.mem_of_getElem? (i := 10) rfl) rfl, ⟨by decide +kernel, by decide +kernel, by decide +kernel⟩, Nat.le_of_ble_eq_true rfl⟩
theorem mw_X11_harbour : Mw yX11_harbour cX11_harbour 2 (some .int) 1 := ⟨ug_2 (List.mem_of_getElem? (i := 60) rfl) rfl, ug_1 (List.mem_of_getElem? (i := 1) rfl) rfl, ⟨by decide +kernel, by decide +kernel, by decide +kernel⟩, Nat.le_of_ble_eq_true rfl⟩
theorem mv_X11_harbour : Mv yX11_harbour := ⟨ug_2 (List.mem_of_getElem? (i := 58) rfl) rfl, ug_2 (List.mem_of_getElem? (i := 59) rfl) rfl⟩
theorem mw_X11_refuse : Mw yX11_refuse cX11_refuse 3 (some .int) 1 := ⟨ug_2 (List.mem_of_getElem? (i := 64) rfl) rfl, ug_1 (List.mem_of_getElem? (i := 1) rfl) rfl, ⟨by decide +kernel, by decide +kernel, by decide +kernel⟩, Nat.le_of_ble_eq_true rfl⟩
theorem mv_X11_refuse : Mv yX11_refuse := ⟨ug_2 (List.mem_of_getElem? (i := 63) rfl) rfl, ug_p (q := (yX11_refuse, 12)) (List.mem_append_left _ (List.mem_of_getElem? (i := 0) rfl))⟩
theorem mw_X10_isHarbour : Mw yX10_isHarbour cX10_isHarbour 2 (some .boolean) 1 := ⟨ug_2 (List.mem_of_getElem? (i := 68) rfl) rfl, ug_1 (List.mem_of_getElem? (i := 2) rfl) rfl, ⟨by decide +kernel, by decide +kernel, by decide +kernel⟩, Nat.le_of_ble_eq_true rfl⟩
theorem mv_X10_isHarbour : Mv yX10_isHarbour := ⟨ug_2 (List.mem_of_getElem? (i := 66) rfl) rfl, ug_2 (List.mem_of_getElem? (i := 67) rfl) rfl⟩
theorem mw_X3_forget : Mw yX3_forget cX3_forget 1 none 0 := ⟨ug_2 (List.mem_of_getElem? (i := 72) rfl) rfl, ug_1 (List.mem_of_getElem? (i := 7) rfl) rfl, ⟨by decide +kernel, by decide +kernel, by decide +kernel⟩, Nat.le_of_ble_eq_true rfl⟩
theorem mv_X3_forget : Mv yX3_forget := ⟨ug_2 (List.mem_of_getElem? (i := 70) rfl) rfl, ug_2 (List.mem_of_getElem? (i := 71) rfl) rfl⟩
theorem mw_X11_tell : Mw yX11_tell cX11_tell 4 (some .int) 3 := ⟨ug_2 (List.mem_of_getElem? (i := 76) rfl) rfl, ug_1 (List.mem_of_getElem? (i := 1) rfl) rfl, ⟨by decide +kernel, by decide +kernel, by decide +kernel⟩, Nat.le_of_ble_eq_true rfl⟩
theorem mv_X11_tell : Mv yX11_tell := ⟨ug_2 (List.mem_of_getElem? (i := 74) rfl) rfl, ug_2 (List.mem_of_getElem? (i := 75) rfl) rfl⟩
theorem mw_X11_change : Mw yX11_change cX11_change 6 (some .int) 4 := ⟨ug_2 (List.mem_of_getElem? (i := 82) rfl) rfl, ug_1 (List.mem_of_getElem? (i := 1) rfl) rfl, ⟨by decide +kernel, by decide +kernel, by decide +kernel⟩, Nat.le_of_ble_eq_true rfl⟩
theorem mv_X11_change : Mv yX11_change := ⟨ug_2 (List.mem_of_getElem? (i := 81) rfl) rfl, ug_p (q := (yX11_change, 12)) (List.mem_append_left _ (List.mem_of_getElem? (i := 1) rfl))⟩
theorem mw_X1_note : Mw yX1_note cX1_note 3 none 2 := ⟨ug_2 (List.mem_of_getElem? (i := 86) rfl) rfl, ug_1 (List.mem_of_getElem? (i := 4) rfl) rfl, ⟨by decide +kernel, by decide +kernel, by decide +kernel⟩, Nat.le_of_ble_eq_true rfl⟩
theorem mv_X1_note : Mv yX1_note := ⟨ug_2 (List.mem_of_getElem? (i := 84) rfl) rfl, ug_2 (List.mem_of_getElem? (i := 85) rfl) rfl⟩
theorem mw_X11_move : Mw yX11_move cX11_move 4 (some .int) 3 := ⟨ug_2 (List.mem_of_getElem? (i := 90) rfl) rfl, ug_1 (List.mem_of_getElem? (i := 1) rfl) rfl, ⟨by decide +kernel, by decide +kernel, by decide +kernel⟩, Nat.le_of_ble_eq_true rfl⟩
theorem mv_X11_move : Mv yX11_move := ⟨ug_2 (List.mem_of_getElem? (i := 88) rfl) rfl, ug_2 (List.mem_of_getElem? (i := 89) rfl) rfl⟩
theorem mw_X11_set : Mw yX11_set cX11_set 3 (some .int) 2 := ⟨ug_2 (List.mem_of_getElem? (i := 94) rfl) rfl, ug_1 (List.mem_of_getElem? (i := 1) rfl) rfl, ⟨by decide +kernel, by decide +kernel, by decide +kernel⟩, Nat.le_of_ble_eq_true rfl⟩
theorem mv_X11_set : Mv yX11_set := ⟨ug_2 (List.mem_of_getElem? (i := 92) rfl) rfl, ug_2 (List.mem_of_getElem? (i := 93) rfl) rfl⟩
theorem mw_X11_undo : Mw yX11_undo cX11_undo 1 (some .int) 0 := ⟨ug_2 (List.mem_of_getElem? (i := 102) rfl) rfl, ug_1 (List.mem_of_getElem? (i := 1) rfl) rfl, ⟨by decide +kernel, by decide +kernel, by decide +kernel⟩, Nat.le_of_ble_eq_true rfl⟩
theorem mv_X11_undo : Mv yX11_undo := ⟨ug_2 (List.mem_of_getElem? (i := 100) rfl) rfl, ug_2 (List.mem_of_getElem? (i := 101) rfl) rfl⟩
theorem mw_X1_takeBack : Mw yX1_takeBack cX1_takeBack 3 none 1 := ⟨ug_2 (List.mem_of_getElem? (i := 106) rfl) rfl, ug_1 (List.mem_of_getElem? (i := 4) rfl) rfl, ⟨by decide +kernel, by decide +kernel, by decide +kernel⟩, Nat.le_of_ble_eq_true rfl⟩
theorem mv_X1_takeBack : Mv yX1_takeBack := ⟨ug_2 (List.mem_of_getElem? (i := 104) rfl) rfl, ug_2 (List.mem_of_getElem? (i := 105) rfl) rfl⟩
theorem mw_X11_feed : Mw yX11_feed cX11_feed 4 (some .int) 2 := ⟨ug_2 (List.mem_of_getElem? (i := 110) rfl) rfl, ug_1 (List.mem_of_getElem? (i := 1) rfl) rfl, ⟨by decide +kernel, by decide +kernel, by decide +kernel⟩, Nat.le_of_ble_eq_true rfl⟩
theorem mv_X11_feed : Mv yX11_feed := ⟨ug_2 (List.mem_of_getElem? (i := 108) rfl) rfl, ug_2 (List.mem_of_getElem? (i := 109) rfl) rfl⟩
theorem mw_X9_append : Mw yX9_append cX9_append 5 none 2 := ⟨ug_2 (List.mem_of_getElem? (i := 114) rfl) rfl, ug_1 (List.mem_of_getElem? (i := 5) rfl) rfl, ⟨by decide +kernel, by decide +kernel, by decide +kernel⟩, Nat.le_of_ble_eq_true rfl⟩
theorem mv_X9_append : Mv yX9_append := ⟨ug_2 (List.mem_of_getElem? (i := 112) rfl) rfl, ug_2 (List.mem_of_getElem? (i := 113) rfl) rfl⟩
theorem mw_X11_law : Mw yX11_law cX11_law 2 (some .int) 0 := ⟨ug_2 (List.mem_of_getElem? (i := 119) rfl) rfl, ug_1 (List.mem_of_getElem? (i := 1) rfl) rfl, ⟨by decide +kernel, by decide +kernel, by decide +kernel⟩, Nat.le_of_ble_eq_true rfl⟩
theorem mv_X11_law : Mv yX11_law := ⟨ug_2 (List.mem_of_getElem? (i := 117) rfl) rfl, ug_2 (List.mem_of_getElem? (i := 118) rfl) rfl⟩
theorem mw_X5_worldsOf : Mw yX5_worldsOf cX5_worldsOf 2 (some .int) 1 := ⟨ug_2 (List.mem_of_getElem? (i := 122) rfl) rfl, ug_1 (List.mem_of_getElem? (i := 12) rfl) rfl, ⟨by decide +kernel, by decide +kernel, by decide +kernel⟩, Nat.le_of_ble_eq_true rfl⟩
theorem ms_X5_worldsOf : Cond.static yX5_worldsOf ∈ Ug := ug_2 (List.mem_of_getElem? (i := 121) rfl) rfl
theorem mw_X9_begin : Mw yX9_begin cX9_begin 1 none 0 := ⟨ug_2 (List.mem_of_getElem? (i := 126) rfl) rfl, ug_1 (List.mem_of_getElem? (i := 5) rfl) rfl, ⟨by decide +kernel, by decide +kernel, by decide +kernel⟩, Nat.le_of_ble_eq_true rfl⟩
theorem mv_X9_begin : Mv yX9_begin := ⟨ug_2 (List.mem_of_getElem? (i := 124) rfl) rfl, ug_2 (List.mem_of_getElem? (i := 125) rfl) rfl⟩
theorem mw_X5_readTest : Mw yX5_readTest cX5_readTest 4 (some .int) 2 := ⟨ug_2 (List.mem_of_getElem? (i := 129) rfl) rfl, ug_1 (List.mem_of_getElem? (i := 12) rfl) rfl, ⟨by decide +kernel, by decide +kernel, by decide +kernel⟩, Nat.le_of_ble_eq_true rfl⟩
theorem ms_X5_readTest : Cond.static yX5_readTest ∈ Ug := ug_2 (List.mem_of_getElem? (i := 128) rfl) rfl
theorem mw_X5_readTerm : Mw yX5_readTerm cX5_readTerm 4 (some .int) 2 := ⟨ug_2 (List.mem_of_getElem? (i := 132) rfl) rfl, ug_1 (List.mem_of_getElem? (i := 12) rfl) rfl, ⟨by decide +kernel, by decide +kernel, by decide +kernel⟩, Nat.le_of_ble_eq_true rfl⟩
theorem ms_X5_readTerm : Cond.static yX5_readTerm ∈ Ug := ug_2 (List.mem_of_getElem? (i := 131) rfl) rfl
theorem mw_X5_readPart : Mw yX5_readPart cX5_readPart 5 (some .int) 2 := ⟨ug_2 (List.mem_of_getElem? (i := 135) rfl) rfl, ug_1 (List.mem_of_getElem? (i := 12) rfl) rfl, ⟨by decide +kernel, by decide +kernel, by decide +kernel⟩, Nat.le_of_ble_eq_true rfl⟩
theorem ms_X5_readPart : Cond.static yX5_readPart ∈ Ug := ug_2 (List.mem_of_getElem? (i := 134) rfl) rfl
theorem mw_X9_take : Mw yX9_take cX9_take 2 (some .boolean) 1 := ⟨ug_2 (List.mem_of_getElem? (i := 139) rfl) rfl, ug_1 (List.mem_of_getElem? (i := 5) rfl) rfl, ⟨by decide +kernel, by decide +kernel, by decide +kernel⟩, Nat.le_of_ble_eq_true rfl⟩
theorem mv_X9_take : Mv yX9_take := ⟨ug_2 (List.mem_of_getElem? (i := 137) rfl) rfl, ug_2 (List.mem_of_getElem? (i := 138) rfl) rfl⟩
theorem mw_X9_peek : Mw yX9_peek cX9_peek 1 (some .int) 0 := ⟨ug_2 (List.mem_of_getElem? (i := 143) rfl) rfl, ug_1 (List.mem_of_getElem? (i := 5) rfl) rfl, ⟨by decide +kernel, by decide +kernel, by decide +kernel⟩, Nat.le_of_ble_eq_true rfl⟩
theorem mv_X9_peek : Mv yX9_peek := ⟨ug_2 (List.mem_of_getElem? (i := 141) rfl) rfl, ug_2 (List.mem_of_getElem? (i := 142) rfl) rfl⟩
theorem mw_X9_digit : Mw yX9_digit cX9_digit 2 (some .int) 0 := ⟨ug_2 (List.mem_of_getElem? (i := 147) rfl) rfl, ug_1 (List.mem_of_getElem? (i := 5) rfl) rfl, ⟨by decide +kernel, by decide +kernel, by decide +kernel⟩, Nat.le_of_ble_eq_true rfl⟩
theorem mv_X9_digit : Mv yX9_digit := ⟨ug_2 (List.mem_of_getElem? (i := 145) rfl) rfl, ug_2 (List.mem_of_getElem? (i := 146) rfl) rfl⟩
theorem mw_X9_fail : Mw yX9_fail cX9_fail 2 none 1 := ⟨ug_2 (List.mem_of_getElem? (i := 151) rfl) rfl, ug_1 (List.mem_of_getElem? (i := 5) rfl) rfl, ⟨by decide +kernel, by decide +kernel, by decide +kernel⟩, Nat.le_of_ble_eq_true rfl⟩
theorem mv_X9_fail : Mv yX9_fail := ⟨ug_2 (List.mem_of_getElem? (i := 149) rfl) rfl, ug_2 (List.mem_of_getElem? (i := 150) rfl) rfl⟩
theorem mw_X5_worldsBad : Mw yX5_worldsBad cX5_worldsBad 1 (some .int) 1 := ⟨ug_2 (List.mem_of_getElem? (i := 154) rfl) rfl, ug_1 (List.mem_of_getElem? (i := 12) rfl) rfl, ⟨by decide +kernel, by decide +kernel, by decide +kernel⟩, Nat.le_of_ble_eq_true rfl⟩
theorem ms_X5_worldsBad : Cond.static yX5_worldsBad ∈ Ug := ug_2 (List.mem_of_getElem? (i := 153) rfl) rfl
theorem mw_X11_alike : Mw yX11_alike cX11_alike 5 (some .int) 3 := ⟨ug_2 (List.mem_of_getElem? (i := 158) rfl) rfl, ug_1 (List.mem_of_getElem? (i := 1) rfl) rfl, ⟨by decide +kernel, by decide +kernel, by decide +kernel⟩, Nat.le_of_ble_eq_true rfl⟩
theorem ms_X11_alike : Cond.static yX11_alike ∈ Ug := ug_2 (List.mem_of_getElem? (i := 157) rfl) rfl
theorem mw_X5_readCount : Mw yX5_readCount cX5_readCount 7 (some .int) 1 := ⟨ug_2 (List.mem_of_getElem? (i := 161) rfl) rfl, ug_1 (List.mem_of_getElem? (i := 12) rfl) rfl, ⟨by decide +kernel, by decide +kernel, by decide +kernel⟩, Nat.le_of_ble_eq_true rfl⟩
theorem ms_X5_readCount : Cond.static yX5_readCount ∈ Ug := ug_2 (List.mem_of_getElem? (i := 160) rfl) rfl
theorem mw_J6_bitCount_0f7a4 : Mw yJ6_bitCount_0f7a4 cJ6_bitCount_0f7a4 1 (some .int) 1 := ⟨ug_2 (List.mem_of_getElem? (i := 166) rfl) rfl, ug_1 (List.mem_of_getElem? (i := 13) rfl) rfl, ⟨by decide +kernel, by decide +kernel, by decide +kernel⟩, Nat.le_of_ble_eq_true rfl⟩
theorem ms_J6_bitCount_0f7a4 : Cond.static yJ6_bitCount_0f7a4 ∈ Ug := ug_2 (List.mem_of_getElem? (i := 165) rfl) rfl
theorem mw_X9_end : Mw yX9_end cX9_end 1 none 0 := ⟨ug_2 (List.mem_of_getElem? (i := 173) rfl) rfl, ug_1 (List.mem_of_getElem? (i := 5) rfl) rfl, ⟨by decide +kernel, by decide +kernel, by decide +kernel⟩, Nat.le_of_ble_eq_true rfl⟩
theorem mv_X9_end : Mv yX9_end := ⟨ug_2 (List.mem_of_getElem? (i := 171) rfl) rfl, ug_2 (List.mem_of_getElem? (i := 172) rfl) rfl⟩
theorem mw_X10_addLaw : Mw yX10_addLaw cX10_addLaw 2 (some .int) 1 := ⟨ug_2 (List.mem_of_getElem? (i := 177) rfl) rfl, ug_1 (List.mem_of_getElem? (i := 2) rfl) rfl, ⟨by decide +kernel, by decide +kernel, by decide +kernel⟩, Nat.le_of_ble_eq_true rfl⟩
theorem mv_X10_addLaw : Mv yX10_addLaw := ⟨ug_2 (List.mem_of_getElem? (i := 175) rfl) rfl, ug_2 (List.mem_of_getElem? (i := 176) rfl) rfl⟩
theorem mw_X11_holds : Mw yX11_holds cX11_holds 4 (some .int) 2 := ⟨ug_2 (List.mem_of_getElem? (i := 181) rfl) rfl, ug_1 (List.mem_of_getElem? (i := 1) rfl) rfl, ⟨by decide +kernel, by decide +kernel, by decide +kernel⟩, Nat.le_of_ble_eq_true rfl⟩
theorem mv_X11_holds : Mv yX11_holds := ⟨ug_2 (List.mem_of_getElem? (i := 179) rfl) rfl, ug_2 (List.mem_of_getElem? (i := 180) rfl) rfl⟩
theorem mw_X11_rule : Mw yX11_rule cX11_rule 3 (some .int) 2 := ⟨ug_2 (List.mem_of_getElem? (i := 185) rfl) rfl, ug_1 (List.mem_of_getElem? (i := 1) rfl) rfl, ⟨by decide +kernel, by decide +kernel, by decide +kernel⟩, Nat.le_of_ble_eq_true rfl⟩
theorem mv_X11_rule : Mv yX11_rule := ⟨ug_2 (List.mem_of_getElem? (i := 183) rfl) rfl, ug_2 (List.mem_of_getElem? (i := 184) rfl) rfl⟩
theorem mw_X10_seenBy : Mw yX10_seenBy cX10_seenBy 4 (some .int) 1 := ⟨ug_2 (List.mem_of_getElem? (i := 189) rfl) rfl, ug_1 (List.mem_of_getElem? (i := 2) rfl) rfl, ⟨by decide +kernel, by decide +kernel, by decide +kernel⟩, Nat.le_of_ble_eq_true rfl⟩
theorem mv_X10_seenBy : Mv yX10_seenBy := ⟨ug_2 (List.mem_of_getElem? (i := 187) rfl) rfl, ug_2 (List.mem_of_getElem? (i := 188) rfl) rfl⟩
theorem mw_X8_read : Mw yX8_read cX8_read 3 none 2 := ⟨ug_2 (List.mem_of_getElem? (i := 193) rfl) rfl, ug_1 (List.mem_of_getElem? (i := 6) rfl) rfl, ⟨by decide +kernel, by decide +kernel, by decide +kernel⟩, Nat.le_of_ble_eq_true rfl⟩
theorem mv_X8_read : Mv yX8_read := ⟨ug_2 (List.mem_of_getElem? (i := 191) rfl) rfl, ug_2 (List.mem_of_getElem? (i := 192) rfl) rfl⟩
theorem mw_X8_readSum : Mw yX8_readSum cX8_readSum 5 none 2 := ⟨ug_2 (List.mem_of_getElem? (i := 198) rfl) rfl, ug_1 (List.mem_of_getElem? (i := 6) rfl) rfl, ⟨by decide +kernel, by decide +kernel, by decide +kernel⟩, Nat.le_of_ble_eq_true rfl⟩
theorem mv_X8_readSum : Mv yX8_readSum := ⟨ug_2 (List.mem_of_getElem? (i := 197) rfl) rfl, ug_p (q := (yX8_readSum, 4)) (List.mem_append_left _ (List.mem_of_getElem? (i := 2) rfl))⟩
theorem mw_X8_readProduct : Mw yX8_readProduct cX8_readProduct 4 none 2 := ⟨ug_2 (List.mem_of_getElem? (i := 202) rfl) rfl, ug_1 (List.mem_of_getElem? (i := 6) rfl) rfl, ⟨by decide +kernel, by decide +kernel, by decide +kernel⟩, Nat.le_of_ble_eq_true rfl⟩
theorem mv_X8_readProduct : Mv yX8_readProduct := ⟨ug_2 (List.mem_of_getElem? (i := 201) rfl) rfl, ug_p (q := (yX8_readProduct, 4)) (List.mem_append_left _ (List.mem_of_getElem? (i := 3) rfl))⟩
theorem mw_X8_readUnit : Mw yX8_readUnit cX8_readUnit 5 none 2 := ⟨ug_2 (List.mem_of_getElem? (i := 206) rfl) rfl, ug_1 (List.mem_of_getElem? (i := 6) rfl) rfl, ⟨by decide +kernel, by decide +kernel, by decide +kernel⟩, Nat.le_of_ble_eq_true rfl⟩
theorem mv_X8_readUnit : Mv yX8_readUnit := ⟨ug_2 (List.mem_of_getElem? (i := 205) rfl) rfl, ug_p (q := (yX8_readUnit, 4)) (List.mem_append_left _ (List.mem_of_getElem? (i := 4) rfl))⟩
theorem mw_X9_atDigit : Mw yX9_atDigit cX9_atDigit 2 (some .boolean) 0 := ⟨ug_2 (List.mem_of_getElem? (i := 210) rfl) rfl, ug_1 (List.mem_of_getElem? (i := 5) rfl) rfl, ⟨by decide +kernel, by decide +kernel, by decide +kernel⟩, Nat.le_of_ble_eq_true rfl⟩
theorem mv_X9_atDigit : Mv yX9_atDigit := ⟨ug_2 (List.mem_of_getElem? (i := 208) rfl) rfl, ug_2 (List.mem_of_getElem? (i := 209) rfl) rfl⟩
theorem mw_X8_readNumber : Mw yX8_readNumber cX8_readNumber 4 none 1 := ⟨ug_2 (List.mem_of_getElem? (i := 214) rfl) rfl, ug_1 (List.mem_of_getElem? (i := 6) rfl) rfl, ⟨by decide +kernel, by decide +kernel, by decide +kernel⟩, Nat.le_of_ble_eq_true rfl⟩
theorem mv_X8_readNumber : Mv yX8_readNumber := ⟨ug_2 (List.mem_of_getElem? (i := 213) rfl) rfl, ug_p (q := (yX8_readNumber, 4)) (List.mem_append_left _ (List.mem_of_getElem? (i := 5) rfl))⟩
theorem mw_X7_add : Mw yX7_add cX7_add 2 none 1 := ⟨ug_2 (List.mem_of_getElem? (i := 219) rfl) rfl, ug_1 (List.mem_of_getElem? (i := 3) rfl) rfl, ⟨by decide +kernel, by decide +kernel, by decide +kernel⟩, Nat.le_of_ble_eq_true rfl⟩
theorem mv_X7_add : Mv yX7_add := ⟨ug_2 (List.mem_of_getElem? (i := 217) rfl) rfl, ug_2 (List.mem_of_getElem? (i := 218) rfl) rfl⟩
theorem mw_X8_readSeen : Mw yX8_readSeen cX8_readSeen 4 none 1 := ⟨ug_2 (List.mem_of_getElem? (i := 224) rfl) rfl, ug_1 (List.mem_of_getElem? (i := 6) rfl) rfl, ⟨by decide +kernel, by decide +kernel, by decide +kernel⟩, Nat.le_of_ble_eq_true rfl⟩
theorem mv_X8_readSeen : Mv yX8_readSeen := ⟨ug_2 (List.mem_of_getElem? (i := 223) rfl) rfl, ug_p (q := (yX8_readSeen, 4)) (List.mem_append_left _ (List.mem_of_getElem? (i := 6) rfl))⟩
theorem mw_X8_keep : Mw yX8_keep cX8_keep 2 none 1 := ⟨ug_2 (List.mem_of_getElem? (i := 231) rfl) rfl, ug_1 (List.mem_of_getElem? (i := 6) rfl) rfl, ⟨by decide +kernel, by decide +kernel, by decide +kernel⟩, Nat.le_of_ble_eq_true rfl⟩
theorem mv_X8_keep : Mv yX8_keep := ⟨ug_2 (List.mem_of_getElem? (i := 229) rfl) rfl, ug_2 (List.mem_of_getElem? (i := 230) rfl) rfl⟩
theorem mw_X7_copy : Mw yX7_copy cX7_copy 2 none 1 := ⟨ug_2 (List.mem_of_getElem? (i := 235) rfl) rfl, ug_1 (List.mem_of_getElem? (i := 3) rfl) rfl, ⟨by decide +kernel, by decide +kernel, by decide +kernel⟩, Nat.le_of_ble_eq_true rfl⟩
theorem mv_X7_copy : Mv yX7_copy := ⟨ug_2 (List.mem_of_getElem? (i := 233) rfl) rfl, ug_2 (List.mem_of_getElem? (i := 234) rfl) rfl⟩
theorem mw_X11_unrule : Mw yX11_unrule cX11_unrule 2 (some .int) 1 := ⟨ug_3 (List.mem_of_getElem? (i := 2) rfl) rfl, ug_1 (List.mem_of_getElem? (i := 1) rfl) rfl, ⟨by decide +kernel, by decide +kernel, by decide +kernel⟩, Nat.le_of_ble_eq_true rfl⟩
theorem mv_X11_unrule : Mv yX11_unrule := ⟨ug_3 (List.mem_of_getElem? (i := 0) rfl) rfl, ug_3 (List.mem_of_getElem? (i := 1) rfl) rfl⟩
theorem mw_X11_inSet : Mw yX11_inSet cX11_inSet 2 (some .int) 1 := ⟨ug_3 (List.mem_of_getElem? (i := 6) rfl) rfl, ug_1 (List.mem_of_getElem? (i := 1) rfl) rfl, ⟨by decide +kernel, by decide +kernel, by decide +kernel⟩, Nat.le_of_ble_eq_true rfl⟩
theorem mv_X11_inSet : Mv yX11_inSet := ⟨ug_3 (List.mem_of_getElem? (i := 4) rfl) rfl, ug_3 (List.mem_of_getElem? (i := 5) rfl) rfl⟩
theorem mw_X11_theSet : Mw yX11_theSet cX11_theSet 1 (some .int) 0 := ⟨ug_3 (List.mem_of_getElem? (i := 10) rfl) rfl, ug_1 (List.mem_of_getElem? (i := 1) rfl) rfl, ⟨by decide +kernel, by decide +kernel, by decide +kernel⟩, Nat.le_of_ble_eq_true rfl⟩
theorem mv_X11_theSet : Mv yX11_theSet := ⟨ug_3 (List.mem_of_getElem? (i := 9) rfl) rfl, ug_p (q := (yX11_theSet, 12)) (List.mem_append_left _ (List.mem_of_getElem? (i := 7) rfl))⟩
theorem mw_X10_worldsWith : Mw yX10_worldsWith cX10_worldsWith 4 (some .int) 1 := ⟨ug_3 (List.mem_of_getElem? (i := 14) rfl) rfl, ug_1 (List.mem_of_getElem? (i := 2) rfl) rfl, ⟨by decide +kernel, by decide +kernel, by decide +kernel⟩, Nat.le_of_ble_eq_true rfl⟩
theorem mv_X10_worldsWith : Mv yX10_worldsWith := ⟨ug_3 (List.mem_of_getElem? (i := 12) rfl) rfl, ug_3 (List.mem_of_getElem? (i := 13) rfl) rfl⟩
theorem mw_X10_isWorld : Mw yX10_isWorld cX10_isWorld 2 (some .boolean) 1 := ⟨ug_3 (List.mem_of_getElem? (i := 18) rfl) rfl, ug_1 (List.mem_of_getElem? (i := 2) rfl) rfl, ⟨by decide +kernel, by decide +kernel, by decide +kernel⟩, Nat.le_of_ble_eq_true rfl⟩
theorem mv_X10_isWorld : Mv yX10_isWorld := ⟨ug_3 (List.mem_of_getElem? (i := 16) rfl) rfl, ug_3 (List.mem_of_getElem? (i := 17) rfl) rfl⟩
theorem mw_X11_later : Mw yX11_later cX11_later 3 (some .int) 2 := ⟨ug_3 (List.mem_of_getElem? (i := 23) rfl) rfl, ug_1 (List.mem_of_getElem? (i := 1) rfl) rfl, ⟨by decide +kernel, by decide +kernel, by decide +kernel⟩, Nat.le_of_ble_eq_true rfl⟩
theorem mv_X11_later : Mv yX11_later := ⟨ug_3 (List.mem_of_getElem? (i := 21) rfl) rfl, ug_3 (List.mem_of_getElem? (i := 22) rfl) rfl⟩
theorem mw_X10_isPlan : Mw yX10_isPlan cX10_isPlan 3 (some .boolean) 1 := ⟨ug_3 (List.mem_of_getElem? (i := 27) rfl) rfl, ug_1 (List.mem_of_getElem? (i := 2) rfl) rfl, ⟨by decide +kernel, by decide +kernel, by decide +kernel⟩, Nat.le_of_ble_eq_true rfl⟩
theorem mv_X10_isPlan : Mv yX10_isPlan := ⟨ug_3 (List.mem_of_getElem? (i := 25) rfl) rfl, ug_3 (List.mem_of_getElem? (i := 26) rfl) rfl⟩
theorem mw_X3_of : Mw yX3_of cX3_of 4 (some .int) 2 := ⟨ug_3 (List.mem_of_getElem? (i := 32) rfl) rfl, ug_1 (List.mem_of_getElem? (i := 7) rfl) rfl, ⟨by decide +kernel, by decide +kernel, by decide +kernel⟩, Nat.le_of_ble_eq_true rfl⟩
theorem mv_X3_of : Mv yX3_of := ⟨ug_3 (List.mem_of_getElem? (i := 30) rfl) rfl, ug_3 (List.mem_of_getElem? (i := 31) rfl) rfl⟩
theorem mw_J7_fill_53178 : Mw yJ7_fill_53178 cJ7_fill_53178 4 none 2 := ⟨ug_3 (List.mem_of_getElem? (i := 35) rfl) rfl, ug_1 (List.mem_of_getElem? (i := 15) rfl) rfl, ⟨by decide +kernel, by decide +kernel, by decide +kernel⟩, Nat.le_of_ble_eq_true rfl⟩
theorem ms_J7_fill_53178 : Cond.static yJ7_fill_53178 ∈ Ug := ug_3 (List.mem_of_getElem? (i := 34) rfl) rfl
theorem mw_X4_weigh : Mw yX4_weigh cX4_weigh 5 none 2 := ⟨ug_3 (List.mem_of_getElem? (i := 39) rfl) rfl, ug_1 (List.mem_of_getElem? (i := 8) rfl) rfl, ⟨by decide +kernel, by decide +kernel, by decide +kernel⟩, Nat.le_of_ble_eq_true rfl⟩
theorem mv_X4_weigh : Mv yX4_weigh := ⟨ug_3 (List.mem_of_getElem? (i := 37) rfl) rfl, ug_3 (List.mem_of_getElem? (i := 38) rfl) rfl⟩
theorem mw_X10_balance : Mw yX10_balance cX10_balance 6 (some .int) 3 := ⟨ug_3 (List.mem_of_getElem? (i := 44) rfl) rfl, ug_1 (List.mem_of_getElem? (i := 2) rfl) rfl, ⟨by decide +kernel, by decide +kernel, by decide +kernel⟩, Nat.le_of_ble_eq_true rfl⟩
theorem mv_X10_balance : Mv yX10_balance := ⟨ug_3 (List.mem_of_getElem? (i := 42) rfl) rfl, ug_3 (List.mem_of_getElem? (i := 43) rfl) rfl⟩
theorem mw_X10_fare : Mw yX10_fare cX10_fare 4 (some .int) 1 := ⟨ug_3 (List.mem_of_getElem? (i := 48) rfl) rfl, ug_1 (List.mem_of_getElem? (i := 2) rfl) rfl, ⟨by decide +kernel, by decide +kernel, by decide +kernel⟩, Nat.le_of_ble_eq_true rfl⟩
theorem mv_X10_fare : Mv yX10_fare := ⟨ug_3 (List.mem_of_getElem? (i := 46) rfl) rfl, ug_3 (List.mem_of_getElem? (i := 47) rfl) rfl⟩
theorem mw_X4_leastLater : Mw yX4_leastLater cX4_leastLater 5 (some .int) 0 := ⟨ug_3 (List.mem_of_getElem? (i := 52) rfl) rfl, ug_1 (List.mem_of_getElem? (i := 8) rfl) rfl, ⟨by decide +kernel, by decide +kernel, by decide +kernel⟩, Nat.le_of_ble_eq_true rfl⟩
theorem mv_X4_leastLater : Mv yX4_leastLater := ⟨ug_3 (List.mem_of_getElem? (i := 50) rfl) rfl, ug_3 (List.mem_of_getElem? (i := 51) rfl) rfl⟩
theorem mw_X4_findOwnWay : Mw yX4_findOwnWay cX4_findOwnWay 5 none 1 := ⟨ug_3 (List.mem_of_getElem? (i := 56) rfl) rfl, ug_1 (List.mem_of_getElem? (i := 8) rfl) rfl, ⟨by decide +kernel, by decide +kernel, by decide +kernel⟩, Nat.le_of_ble_eq_true rfl⟩
theorem mv_X4_findOwnWay : Mv yX4_findOwnWay := ⟨ug_3 (List.mem_of_getElem? (i := 55) rfl) rfl, ug_p (q := (yX4_findOwnWay, 12)) (List.mem_append_left _ (List.mem_of_getElem? (i := 8) rfl))⟩
theorem mw_X4_serve : Mw yX4_serve cX4_serve 8 (some .int) 1 := ⟨ug_3 (List.mem_of_getElem? (i := 60) rfl) rfl, ug_1 (List.mem_of_getElem? (i := 8) rfl) rfl, ⟨by decide +kernel, by decide +kernel, by decide +kernel⟩, Nat.le_of_ble_eq_true rfl⟩
theorem mv_X4_serve : Mv yX4_serve := ⟨ug_3 (List.mem_of_getElem? (i := 59) rfl) rfl, ug_p (q := (yX4_serve, 12)) (List.mem_append_left _ (List.mem_of_getElem? (i := 9) rfl))⟩
theorem mw_X4_roomOf : Mw yX4_roomOf cX4_roomOf 3 (some .int) 1 := ⟨ug_3 (List.mem_of_getElem? (i := 64) rfl) rfl, ug_1 (List.mem_of_getElem? (i := 8) rfl) rfl, ⟨by decide +kernel, by decide +kernel, by decide +kernel⟩, Nat.le_of_ble_eq_true rfl⟩
theorem mv_X4_roomOf : Mv yX4_roomOf := ⟨ug_3 (List.mem_of_getElem? (i := 63) rfl) rfl, ug_p (q := (yX4_roomOf, 12)) (List.mem_append_left _ (List.mem_of_getElem? (i := 10) rfl))⟩
theorem mw_X4_goOwnWay : Mw yX4_goOwnWay cX4_goOwnWay 4 none 2 := ⟨ug_3 (List.mem_of_getElem? (i := 71) rfl) rfl, ug_1 (List.mem_of_getElem? (i := 8) rfl) rfl, ⟨by decide +kernel, by decide +kernel, by decide +kernel⟩, Nat.le_of_ble_eq_true rfl⟩
theorem mv_X4_goOwnWay : Mv yX4_goOwnWay := ⟨ug_3 (List.mem_of_getElem? (i := 70) rfl) rfl, ug_p (q := (yX4_goOwnWay, 12)) (List.mem_append_left _ (List.mem_of_getElem? (i := 11) rfl))⟩
theorem mw_X11_cost : Mw yX11_cost cX11_cost 3 (some .int) 2 := ⟨ug_3 (List.mem_of_getElem? (i := 76) rfl) rfl, ug_1 (List.mem_of_getElem? (i := 1) rfl) rfl, ⟨by decide +kernel, by decide +kernel, by decide +kernel⟩, Nat.le_of_ble_eq_true rfl⟩
theorem mv_X11_cost : Mv yX11_cost := ⟨ug_3 (List.mem_of_getElem? (i := 74) rfl) rfl, ug_3 (List.mem_of_getElem? (i := 75) rfl) rfl⟩
theorem mw_X11_worst : Mw yX11_worst cX11_worst 3 (some .int) 2 := ⟨ug_3 (List.mem_of_getElem? (i := 80) rfl) rfl, ug_1 (List.mem_of_getElem? (i := 1) rfl) rfl, ⟨by decide +kernel, by decide +kernel, by decide +kernel⟩, Nat.le_of_ble_eq_true rfl⟩
theorem mv_X11_worst : Mv yX11_worst := ⟨ug_3 (List.mem_of_getElem? (i := 78) rfl) rfl, ug_3 (List.mem_of_getElem? (i := 79) rfl) rfl⟩
theorem mw_X3_worstOver : Mw yX3_worstOver cX3_worstOver 3 (some .int) 2 := ⟨ug_3 (List.mem_of_getElem? (i := 84) rfl) rfl, ug_1 (List.mem_of_getElem? (i := 7) rfl) rfl, ⟨by decide +kernel, by decide +kernel, by decide +kernel⟩, Nat.le_of_ble_eq_true rfl⟩
theorem mv_X3_worstOver : Mv yX3_worstOver := ⟨ug_3 (List.mem_of_getElem? (i := 82) rfl) rfl, ug_3 (List.mem_of_getElem? (i := 83) rfl) rfl⟩
theorem mw_X3_worstWorld : Mw yX3_worstWorld cX3_worstWorld 7 (some .int) 2 := ⟨ug_3 (List.mem_of_getElem? (i := 88) rfl) rfl, ug_1 (List.mem_of_getElem? (i := 7) rfl) rfl, ⟨by decide +kernel, by decide +kernel, by decide +kernel⟩, Nat.le_of_ble_eq_true rfl⟩
theorem mv_X3_worstWorld : Mv yX3_worstWorld := ⟨ug_3 (List.mem_of_getElem? (i := 86) rfl) rfl, ug_3 (List.mem_of_getElem? (i := 87) rfl) rfl⟩
theorem mw_X11_best : Mw yX11_best cX11_best 3 (some .int) 1 := ⟨ug_3 (List.mem_of_getElem? (i := 94) rfl) rfl, ug_1 (List.mem_of_getElem? (i := 1) rfl) rfl, ⟨by decide +kernel, by decide +kernel, by decide +kernel⟩, Nat.le_of_ble_eq_true rfl⟩
theorem mv_X11_best : Mv yX11_best := ⟨ug_3 (List.mem_of_getElem? (i := 92) rfl) rfl, ug_3 (List.mem_of_getElem? (i := 93) rfl) rfl⟩
theorem mw_X3_bestOver : Mw yX3_bestOver cX3_bestOver 7 (some .int) 1 := ⟨ug_3 (List.mem_of_getElem? (i := 98) rfl) rfl, ug_1 (List.mem_of_getElem? (i := 7) rfl) rfl, ⟨by decide +kernel, by decide +kernel, by decide +kernel⟩, Nat.le_of_ble_eq_true rfl⟩
theorem mv_X3_bestOver : Mv yX3_bestOver := ⟨ug_3 (List.mem_of_getElem? (i := 96) rfl) rfl, ug_3 (List.mem_of_getElem? (i := 97) rfl) rfl⟩
theorem mw_X11_byRules : Mw yX11_byRules cX11_byRules 3 (some .int) 2 := ⟨ug_3 (List.mem_of_getElem? (i := 103) rfl) rfl, ug_1 (List.mem_of_getElem? (i := 1) rfl) rfl, ⟨by decide +kernel, by decide +kernel, by decide +kernel⟩, Nat.le_of_ble_eq_true rfl⟩
theorem mv_X11_byRules : Mv yX11_byRules := ⟨ug_3 (List.mem_of_getElem? (i := 101) rfl) rfl, ug_3 (List.mem_of_getElem? (i := 102) rfl) rfl⟩
theorem mw_X8_costOf : Mw yX8_costOf cX8_costOf 7 (some .int) 2 := ⟨ug_3 (List.mem_of_getElem? (i := 107) rfl) rfl, ug_1 (List.mem_of_getElem? (i := 6) rfl) rfl, ⟨by decide +kernel, by decide +kernel, by decide +kernel⟩, Nat.le_of_ble_eq_true rfl⟩
theorem mv_X8_costOf : Mv yX8_costOf := ⟨ug_3 (List.mem_of_getElem? (i := 105) rfl) rfl, ug_3 (List.mem_of_getElem? (i := 106) rfl) rfl⟩
theorem mw_X8_hadAt : Mw yX8_hadAt cX8_hadAt 5 (some .int) 3 := ⟨ug_3 (List.mem_of_getElem? (i := 112) rfl) rfl, ug_1 (List.mem_of_getElem? (i := 6) rfl) rfl, ⟨by decide +kernel, by decide +kernel, by decide +kernel⟩, Nat.le_of_ble_eq_true rfl⟩
theorem mv_X8_hadAt : Mv yX8_hadAt := ⟨ug_3 (List.mem_of_getElem? (i := 111) rfl) rfl, ug_p (q := (yX8_hadAt, 4)) (List.mem_append_left _ (List.mem_of_getElem? (i := 12) rfl))⟩
theorem mw_X7_value : Mw yX7_value cX7_value 7 (some .int) 3 := ⟨ug_3 (List.mem_of_getElem? (i := 116) rfl) rfl, ug_1 (List.mem_of_getElem? (i := 3) rfl) rfl, ⟨by decide +kernel, by decide +kernel, by decide +kernel⟩, Nat.le_of_ble_eq_true rfl⟩
theorem mv_X7_value : Mv yX7_value := ⟨ug_3 (List.mem_of_getElem? (i := 114) rfl) rfl, ug_3 (List.mem_of_getElem? (i := 115) rfl) rfl⟩
theorem mw_X7_valueOf : Mw yX7_valueOf cX7_valueOf 3 (some .int) 3 := ⟨ug_3 (List.mem_of_getElem? (i := 119) rfl) rfl, ug_1 (List.mem_of_getElem? (i := 3) rfl) rfl, ⟨by decide +kernel, by decide +kernel, by decide +kernel⟩, Nat.le_of_ble_eq_true rfl⟩
theorem ms_X7_valueOf : Cond.static yX7_valueOf ∈ Ug := ug_3 (List.mem_of_getElem? (i := 118) rfl) rfl
theorem mw_X7_joined : Mw yX7_joined cX7_joined 3 (some .int) 3 := ⟨ug_3 (List.mem_of_getElem? (i := 122) rfl) rfl, ug_1 (List.mem_of_getElem? (i := 3) rfl) rfl, ⟨by decide +kernel, by decide +kernel, by decide +kernel⟩, Nat.le_of_ble_eq_true rfl⟩
theorem ms_X7_joined : Cond.static yX7_joined ∈ Ug := ug_3 (List.mem_of_getElem? (i := 121) rfl) rfl
theorem mw_X11_ruled : Mw yX11_ruled cX11_ruled 5 (some .int) 2 := ⟨ug_3 (List.mem_of_getElem? (i := 131) rfl) rfl, ug_1 (List.mem_of_getElem? (i := 1) rfl) rfl, ⟨by decide +kernel, by decide +kernel, by decide +kernel⟩, Nat.le_of_ble_eq_true rfl⟩
theorem mv_X11_ruled : Mv yX11_ruled := ⟨ug_3 (List.mem_of_getElem? (i := 129) rfl) rfl, ug_3 (List.mem_of_getElem? (i := 130) rfl) rfl⟩
theorem mw_X8_worstOver : Mw yX8_worstOver cX8_worstOver 5 (some .int) 2 := ⟨ug_3 (List.mem_of_getElem? (i := 135) rfl) rfl, ug_1 (List.mem_of_getElem? (i := 6) rfl) rfl, ⟨by decide +kernel, by decide +kernel, by decide +kernel⟩, Nat.le_of_ble_eq_true rfl⟩
theorem mv_X8_worstOver : Mv yX8_worstOver := ⟨ug_3 (List.mem_of_getElem? (i := 133) rfl) rfl, ug_3 (List.mem_of_getElem? (i := 134) rfl) rfl⟩
theorem mw_X11_close : Mw yX11_close cX11_close 4 (some .int) 2 := ⟨ug_3 (List.mem_of_getElem? (i := 140) rfl) rfl, ug_1 (List.mem_of_getElem? (i := 1) rfl) rfl, ⟨by decide +kernel, by decide +kernel, by decide +kernel⟩, Nat.le_of_ble_eq_true rfl⟩
theorem mv_X11_close : Mv yX11_close := ⟨ug_3 (List.mem_of_getElem? (i := 138) rfl) rfl, ug_3 (List.mem_of_getElem? (i := 139) rfl) rfl⟩
theorem mw_X2_run : Mw yX2_run cX2_run 7 none 2 := ⟨ug_3 (List.mem_of_getElem? (i := 144) rfl) rfl, ug_1 (List.mem_of_getElem? (i := 9) rfl) rfl, ⟨by decide +kernel, by decide +kernel, by decide +kernel⟩, Nat.le_of_ble_eq_true rfl⟩
theorem mv_X2_run : Mv yX2_run := ⟨ug_3 (List.mem_of_getElem? (i := 142) rfl) rfl, ug_3 (List.mem_of_getElem? (i := 143) rfl) rfl⟩
theorem mw_X2_answer : Mw yX2_answer cX2_answer 2 (some .int) 1 := ⟨ug_3 (List.mem_of_getElem? (i := 151) rfl) rfl, ug_1 (List.mem_of_getElem? (i := 9) rfl) rfl, ⟨by decide +kernel, by decide +kernel, by decide +kernel⟩, Nat.le_of_ble_eq_true rfl⟩
theorem mv_X2_answer : Mv yX2_answer := ⟨ug_3 (List.mem_of_getElem? (i := 149) rfl) rfl, ug_3 (List.mem_of_getElem? (i := 150) rfl) rfl⟩
theorem mw_X11_put : Mw yX11_put cX11_put 2 (some .int) 1 := ⟨ug_3 (List.mem_of_getElem? (i := 156) rfl) rfl, ug_1 (List.mem_of_getElem? (i := 1) rfl) rfl, ⟨by decide +kernel, by decide +kernel, by decide +kernel⟩, Nat.le_of_ble_eq_true rfl⟩
theorem mv_X11_put : Mv yX11_put := ⟨ug_3 (List.mem_of_getElem? (i := 154) rfl) rfl, ug_3 (List.mem_of_getElem? (i := 155) rfl) rfl⟩
theorem mw_X11_prove : Mw yX11_prove cX11_prove 4 (some .int) 2 := ⟨ug_3 (List.mem_of_getElem? (i := 160) rfl) rfl, ug_1 (List.mem_of_getElem? (i := 1) rfl) rfl, ⟨by decide +kernel, by decide +kernel, by decide +kernel⟩, Nat.le_of_ble_eq_true rfl⟩
theorem mv_X11_prove : Mv yX11_prove := ⟨ug_3 (List.mem_of_getElem? (i := 158) rfl) rfl, ug_3 (List.mem_of_getElem? (i := 159) rfl) rfl⟩
theorem mw_X6_failureOf : Mw yX6_failureOf cX6_failureOf 6 (some .int) 4 := ⟨ug_3 (List.mem_of_getElem? (i := 163) rfl) rfl, ug_1 (List.mem_of_getElem? (i := 17) rfl) rfl, ⟨by decide +kernel, by decide +kernel, by decide +kernel⟩, Nat.le_of_ble_eq_true rfl⟩
theorem ms_X6_failureOf : Cond.static yX6_failureOf ∈ Ug := ug_3 (List.mem_of_getElem? (i := 162) rfl) rfl
theorem mw_X6_failureAt : Mw yX6_failureAt cX6_failureAt 8 (some .int) 5 := ⟨ug_3 (List.mem_of_getElem? (i := 167) rfl) rfl, ug_1 (List.mem_of_getElem? (i := 17) rfl) rfl, ⟨by decide +kernel, by decide +kernel, by decide +kernel⟩, Nat.le_of_ble_eq_true rfl⟩
theorem ms_X6_failureAt : Cond.static yX6_failureAt ∈ Ug := ug_3 (List.mem_of_getElem? (i := 166) rfl) rfl
theorem mw_X6_worthOf : Mw yX6_worthOf cX6_worthOf 7 (some .int) 4 := ⟨ug_3 (List.mem_of_getElem? (i := 170) rfl) rfl, ug_1 (List.mem_of_getElem? (i := 17) rfl) rfl, ⟨by decide +kernel, by decide +kernel, by decide +kernel⟩, Nat.le_of_ble_eq_true rfl⟩
theorem ms_X6_worthOf : Cond.static yX6_worthOf ∈ Ug := ug_3 (List.mem_of_getElem? (i := 169) rfl) rfl
theorem mw_X11_promise : Mw yX11_promise cX11_promise 4 (some .int) 3 := ⟨ug_3 (List.mem_of_getElem? (i := 175) rfl) rfl, ug_1 (List.mem_of_getElem? (i := 1) rfl) rfl, ⟨by decide +kernel, by decide +kernel, by decide +kernel⟩, Nat.le_of_ble_eq_true rfl⟩
theorem mv_X11_promise : Mv yX11_promise := ⟨ug_3 (List.mem_of_getElem? (i := 173) rfl) rfl, ug_3 (List.mem_of_getElem? (i := 174) rfl) rfl⟩
theorem mw_X11_corner : Mw yX11_corner cX11_corner 2 (some .int) 1 := ⟨ug_3 (List.mem_of_getElem? (i := 180) rfl) rfl, ug_1 (List.mem_of_getElem? (i := 1) rfl) rfl, ⟨by decide +kernel, by decide +kernel, by decide +kernel⟩, Nat.le_of_ble_eq_true rfl⟩
theorem mv_X11_corner : Mv yX11_corner := ⟨ug_3 (List.mem_of_getElem? (i := 178) rfl) rfl, ug_3 (List.mem_of_getElem? (i := 179) rfl) rfl⟩
theorem mw_X11_flat : Mw yX11_flat cX11_flat 6 (some .int) 0 := ⟨ug_3 (List.mem_of_getElem? (i := 184) rfl) rfl, ug_1 (List.mem_of_getElem? (i := 1) rfl) rfl, ⟨by decide +kernel, by decide +kernel, by decide +kernel⟩, Nat.le_of_ble_eq_true rfl⟩
theorem mv_X11_flat : Mv yX11_flat := ⟨ug_3 (List.mem_of_getElem? (i := 182) rfl) rfl, ug_3 (List.mem_of_getElem? (i := 183) rfl) rfl⟩
theorem mw_X11_foreknown : Mw yX11_foreknown cX11_foreknown 5 (some .int) 2 := ⟨ug_3 (List.mem_of_getElem? (i := 188) rfl) rfl, ug_1 (List.mem_of_getElem? (i := 1) rfl) rfl, ⟨by decide +kernel, by decide +kernel, by decide +kernel⟩, Nat.le_of_ble_eq_true rfl⟩
theorem mv_X11_foreknown : Mv yX11_foreknown := ⟨ug_3 (List.mem_of_getElem? (i := 186) rfl) rfl, ug_3 (List.mem_of_getElem? (i := 187) rfl) rfl⟩
theorem mw_X11_costWithWord : Mw yX11_costWithWord cX11_costWithWord 4 (some .int) 2 := ⟨ug_3 (List.mem_of_getElem? (i := 192) rfl) rfl, ug_1 (List.mem_of_getElem? (i := 1) rfl) rfl, ⟨by decide +kernel, by decide +kernel, by decide +kernel⟩, Nat.le_of_ble_eq_true rfl⟩
theorem mv_X11_costWithWord : Mv yX11_costWithWord := ⟨ug_3 (List.mem_of_getElem? (i := 191) rfl) rfl, ug_p (q := (yX11_costWithWord, 12)) (List.mem_append_left _ (List.mem_of_getElem? (i := 13) rfl))⟩
theorem mw_X11_dearest : Mw yX11_dearest cX11_dearest 6 (some .int) 0 := ⟨ug_3 (List.mem_of_getElem? (i := 197) rfl) rfl, ug_1 (List.mem_of_getElem? (i := 1) rfl) rfl, ⟨by decide +kernel, by decide +kernel, by decide +kernel⟩, Nat.le_of_ble_eq_true rfl⟩
theorem mv_X11_dearest : Mv yX11_dearest := ⟨ug_3 (List.mem_of_getElem? (i := 195) rfl) rfl, ug_3 (List.mem_of_getElem? (i := 196) rfl) rfl⟩
theorem mw_X11_who : Mw yX11_who cX11_who 8 (some .int) 2 := ⟨ug_3 (List.mem_of_getElem? (i := 201) rfl) rfl, ug_1 (List.mem_of_getElem? (i := 1) rfl) rfl, ⟨by decide +kernel, by decide +kernel, by decide +kernel⟩, Nat.le_of_ble_eq_true rfl⟩
theorem mv_X11_who : Mv yX11_who := ⟨ug_3 (List.mem_of_getElem? (i := 199) rfl) rfl, ug_3 (List.mem_of_getElem? (i := 200) rfl) rfl⟩
theorem mw_X8_mostLeft : Mw yX8_mostLeft cX8_mostLeft 6 (some .int) 3 := ⟨ug_3 (List.mem_of_getElem? (i := 205) rfl) rfl, ug_1 (List.mem_of_getElem? (i := 6) rfl) rfl, ⟨by decide +kernel, by decide +kernel, by decide +kernel⟩, Nat.le_of_ble_eq_true rfl⟩
theorem mv_X8_mostLeft : Mv yX8_mostLeft := ⟨ug_3 (List.mem_of_getElem? (i := 203) rfl) rfl, ug_3 (List.mem_of_getElem? (i := 204) rfl) rfl⟩
theorem mw_X11_none : Mw yX11_none cX11_none 4 (some .int) 2 := ⟨ug_3 (List.mem_of_getElem? (i := 209) rfl) rfl, ug_1 (List.mem_of_getElem? (i := 1) rfl) rfl, ⟨by decide +kernel, by decide +kernel, by decide +kernel⟩, Nat.le_of_ble_eq_true rfl⟩
theorem mv_X11_none : Mv yX11_none := ⟨ug_3 (List.mem_of_getElem? (i := 207) rfl) rfl, ug_3 (List.mem_of_getElem? (i := 208) rfl) rfl⟩
theorem mw_X0_fewest : Mw yX0_fewest cX0_fewest 5 (some .int) 2 := ⟨ug_3 (List.mem_of_getElem? (i := 214) rfl) rfl, ug_1 (List.mem_of_getElem? (i := 10) rfl) rfl, ⟨by decide +kernel, by decide +kernel, by decide +kernel⟩, Nat.le_of_ble_eq_true rfl⟩
theorem mv_X0_fewest : Mv yX0_fewest := ⟨ug_3 (List.mem_of_getElem? (i := 212) rfl) rfl, ug_3 (List.mem_of_getElem? (i := 213) rfl) rfl⟩
theorem mw_X0_find : Mw yX0_find cX0_find 5 none 2 := ⟨ug_3 (List.mem_of_getElem? (i := 219) rfl) rfl, ug_1 (List.mem_of_getElem? (i := 10) rfl) rfl, ⟨by decide +kernel, by decide +kernel, by decide +kernel⟩, Nat.le_of_ble_eq_true rfl⟩
theorem mv_X0_find : Mv yX0_find := ⟨ug_3 (List.mem_of_getElem? (i := 218) rfl) rfl, ug_p (q := (yX0_find, 2)) (List.mem_append_left _ (List.mem_of_getElem? (i := 14) rfl))⟩
theorem mw_J7_fill_d0a16 : Mw yJ7_fill_d0a16 cJ7_fill_d0a16 5 none 2 := ⟨ug_3 (List.mem_of_getElem? (i := 222) rfl) rfl, ug_1 (List.mem_of_getElem? (i := 15) rfl) rfl, ⟨by decide +kernel, by decide +kernel, by decide +kernel⟩, Nat.le_of_ble_eq_true rfl⟩
theorem ms_J7_fill_d0a16 : Cond.static yJ7_fill_d0a16 ∈ Ug := ug_3 (List.mem_of_getElem? (i := 221) rfl) rfl
theorem mw_X0_leastOf : Mw yX0_leastOf cX0_leastOf 7 (some .int) 2 := ⟨ug_3 (List.mem_of_getElem? (i := 229) rfl) rfl, ug_1 (List.mem_of_getElem? (i := 10) rfl) rfl, ⟨by decide +kernel, by decide +kernel, by decide +kernel⟩, Nat.le_of_ble_eq_true rfl⟩
theorem mv_X0_leastOf : Mv yX0_leastOf := ⟨ug_3 (List.mem_of_getElem? (i := 228) rfl) rfl, ug_p (q := (yX0_leastOf, 2)) (List.mem_append_left _ (List.mem_of_getElem? (i := 15) rfl))⟩
theorem mw_X0_isBorneByNone : Mw yX0_isBorneByNone cX0_isBorneByNone 5 (some .boolean) 3 := ⟨ug_3 (List.mem_of_getElem? (i := 234) rfl) rfl, ug_1 (List.mem_of_getElem? (i := 10) rfl) rfl, ⟨by decide +kernel, by decide +kernel, by decide +kernel⟩, Nat.le_of_ble_eq_true rfl⟩
theorem mv_X0_isBorneByNone : Mv yX0_isBorneByNone := ⟨ug_3 (List.mem_of_getElem? (i := 233) rfl) rfl, ug_p (q := (yX0_isBorneByNone, 2)) (List.mem_append_right _ (List.mem_append_left _ (List.mem_of_getElem? (i := 0) rfl)))⟩
theorem mw_X11_year : Mw yX11_year cX11_year 2 (some .int) 1 := ⟨ug_3 (List.mem_of_getElem? (i := 239) rfl) rfl, ug_1 (List.mem_of_getElem? (i := 1) rfl) rfl, ⟨by decide +kernel, by decide +kernel, by decide +kernel⟩, Nat.le_of_ble_eq_true rfl⟩
theorem mv_X11_year : Mv yX11_year := ⟨ug_3 (List.mem_of_getElem? (i := 237) rfl) rfl, ug_3 (List.mem_of_getElem? (i := 238) rfl) rfl⟩
theorem mw_X11_out : Mw yX11_out cX11_out 1 (some .int) 0 := ⟨ug_4 (List.mem_of_getElem? (i := 3) rfl) rfl, ug_1 (List.mem_of_getElem? (i := 1) rfl) rfl, ⟨by decide +kernel, by decide +kernel, by decide +kernel⟩, Nat.le_of_ble_eq_true rfl⟩
theorem mv_X11_out : Mv yX11_out := ⟨ug_4 (List.mem_of_getElem? (i := 1) rfl) rfl, ug_4 (List.mem_of_getElem? (i := 2) rfl) rfl⟩
theorem mw_X10_yearsIn : Mw yX10_yearsIn cX10_yearsIn 4 (some .int) 1 := ⟨ug_4 (List.mem_of_getElem? (i := 7) rfl) rfl, ug_1 (List.mem_of_getElem? (i := 2) rfl) rfl, ⟨by decide +kernel, by decide +kernel, by decide +kernel⟩, Nat.le_of_ble_eq_true rfl⟩
theorem mv_X10_yearsIn : Mv yX10_yearsIn := ⟨ug_4 (List.mem_of_getElem? (i := 5) rfl) rfl, ug_4 (List.mem_of_getElem? (i := 6) rfl) rfl⟩
theorem mw_X11_dearYears : Mw yX11_dearYears cX11_dearYears 7 (some .int) 1 := ⟨ug_4 (List.mem_of_getElem? (i := 11) rfl) rfl, ug_1 (List.mem_of_getElem? (i := 1) rfl) rfl, ⟨by decide +kernel, by decide +kernel, by decide +kernel⟩, Nat.le_of_ble_eq_true rfl⟩
theorem mv_X11_dearYears : Mv yX11_dearYears := ⟨ug_4 (List.mem_of_getElem? (i := 9) rfl) rfl, ug_4 (List.mem_of_getElem? (i := 10) rfl) rfl⟩
theorem mw_X11_drawn : Mw yX11_drawn cX11_drawn 3 (some .int) 1 := ⟨ug_4 (List.mem_of_getElem? (i := 15) rfl) rfl, ug_1 (List.mem_of_getElem? (i := 1) rfl) rfl, ⟨by decide +kernel, by decide +kernel, by decide +kernel⟩, Nat.le_of_ble_eq_true rfl⟩
theorem mv_X11_drawn : Mv yX11_drawn := ⟨ug_4 (List.mem_of_getElem? (i := 13) rfl) rfl, ug_4 (List.mem_of_getElem? (i := 14) rfl) rfl⟩
theorem mw_X11_image : Mw yX11_image cX11_image 1 (some .int) 0 := ⟨ug_4 (List.mem_of_getElem? (i := 19) rfl) rfl, ug_1 (List.mem_of_getElem? (i := 1) rfl) rfl, ⟨by decide +kernel, by decide +kernel, by decide +kernel⟩, Nat.le_of_ble_eq_true rfl⟩
theorem mv_X11_image : Mv yX11_image := ⟨ug_4 (List.mem_of_getElem? (i := 17) rfl) rfl, ug_4 (List.mem_of_getElem? (i := 18) rfl) rfl⟩
theorem mw_X10_copy : Mw yX10_copy cX10_copy 3 none 1 := ⟨ug_4 (List.mem_of_getElem? (i := 23) rfl) rfl, ug_1 (List.mem_of_getElem? (i := 2) rfl) rfl, ⟨by decide +kernel, by decide +kernel, by decide +kernel⟩, Nat.le_of_ble_eq_true rfl⟩
theorem mv_X10_copy : Mv yX10_copy := ⟨ug_4 (List.mem_of_getElem? (i := 21) rfl) rfl, ug_4 (List.mem_of_getElem? (i := 22) rfl) rfl⟩
theorem mw_X11_restore : Mw yX11_restore cX11_restore 1 (some .int) 0 := ⟨ug_4 (List.mem_of_getElem? (i := 29) rfl) rfl, ug_1 (List.mem_of_getElem? (i := 1) rfl) rfl, ⟨by decide +kernel, by decide +kernel, by decide +kernel⟩, Nat.le_of_ble_eq_true rfl⟩
theorem mv_X11_restore : Mv yX11_restore := ⟨ug_4 (List.mem_of_getElem? (i := 27) rfl) rfl, ug_4 (List.mem_of_getElem? (i := 28) rfl) rfl⟩
theorem mw_X11_count : Mw yX11_count cX11_count 2 (some .int) 1 := ⟨ug_4 (List.mem_of_getElem? (i := 33) rfl) rfl, ug_1 (List.mem_of_getElem? (i := 1) rfl) rfl, ⟨by decide +kernel, by decide +kernel, by decide +kernel⟩, Nat.le_of_ble_eq_true rfl⟩
theorem mv_X11_count : Mv yX11_count := ⟨ug_4 (List.mem_of_getElem? (i := 31) rfl) rfl, ug_4 (List.mem_of_getElem? (i := 32) rfl) rfl⟩
theorem mw_X10_rulesTold : Mw yX10_rulesTold cX10_rulesTold 3 (some .int) 0 := ⟨ug_4 (List.mem_of_getElem? (i := 37) rfl) rfl, ug_1 (List.mem_of_getElem? (i := 2) rfl) rfl, ⟨by decide +kernel, by decide +kernel, by decide +kernel⟩, Nat.le_of_ble_eq_true rfl⟩
theorem mv_X10_rulesTold : Mv yX10_rulesTold := ⟨ug_4 (List.mem_of_getElem? (i := 35) rfl) rfl, ug_4 (List.mem_of_getElem? (i := 36) rfl) rfl⟩
theorem mw_X12_init : Mw yX12_init cX12_init 2 none 0 := ⟨ug_4 (List.mem_of_getElem? (i := 42) rfl) rfl, ug_1 (List.mem_of_getElem? (i := 11) rfl) rfl, ⟨by decide +kernel, by decide +kernel, by decide +kernel⟩, Nat.le_of_ble_eq_true rfl⟩
theorem mw_X12_harbour : Mw yX12_harbour cX12_harbour 3 (some .int) 1 := ⟨ug_4 (List.mem_of_getElem? (i := 202) rfl) rfl, ug_1 (List.mem_of_getElem? (i := 11) rfl) rfl, ⟨by decide +kernel, by decide +kernel, by decide +kernel⟩, Nat.le_of_ble_eq_true rfl⟩
theorem mv_X12_harbour : Mv yX12_harbour := ⟨ug_4 (List.mem_of_getElem? (i := 200) rfl) rfl, ug_4 (List.mem_of_getElem? (i := 201) rfl) rfl⟩
theorem mw_X12_isIn : Mw yX12_isIn cX12_isIn 6 (some .boolean) 3 := ⟨ug_4 (List.mem_of_getElem? (i := 206) rfl) rfl, ug_1 (List.mem_of_getElem? (i := 11) rfl) rfl, ⟨by decide +kernel, by decide +kernel, by decide +kernel⟩, Nat.le_of_ble_eq_true rfl⟩
theorem ms_X12_isIn : Cond.static yX12_isIn ∈ Ug := ug_4 (List.mem_of_getElem? (i := 205) rfl) rfl
theorem mw_X12_no : Mw yX12_no cX12_no 2 (some .int) 1 := ⟨ug_4 (List.mem_of_getElem? (i := 210) rfl) rfl, ug_1 (List.mem_of_getElem? (i := 11) rfl) rfl, ⟨by decide +kernel, by decide +kernel, by decide +kernel⟩, Nat.le_of_ble_eq_true rfl⟩
theorem mv_X12_no : Mv yX12_no := ⟨ug_4 (List.mem_of_getElem? (i := 209) rfl) rfl, ug_p (q := (yX12_no, 51)) (List.mem_append_right _ (List.mem_append_left _ (List.mem_of_getElem? (i := 1) rfl)))⟩
theorem mw_X12_isThere : Mw yX12_isThere cX12_isThere 2 (some .boolean) 1 := ⟨ug_4 (List.mem_of_getElem? (i := 214) rfl) rfl, ug_1 (List.mem_of_getElem? (i := 11) rfl) rfl, ⟨by decide +kernel, by decide +kernel, by decide +kernel⟩, Nat.le_of_ble_eq_true rfl⟩
theorem mv_X12_isThere : Mv yX12_isThere := ⟨ug_4 (List.mem_of_getElem? (i := 213) rfl) rfl, ug_p (q := (yX12_isThere, 51)) (List.mem_append_right _ (List.mem_append_left _ (List.mem_of_getElem? (i := 2) rfl)))⟩
theorem mw_X12_tell : Mw yX12_tell cX12_tell 5 (some .int) 3 := ⟨ug_4 (List.mem_of_getElem? (i := 218) rfl) rfl, ug_1 (List.mem_of_getElem? (i := 11) rfl) rfl, ⟨by decide +kernel, by decide +kernel, by decide +kernel⟩, Nat.le_of_ble_eq_true rfl⟩
theorem mv_X12_tell : Mv yX12_tell := ⟨ug_4 (List.mem_of_getElem? (i := 216) rfl) rfl, ug_4 (List.mem_of_getElem? (i := 217) rfl) rfl⟩
theorem mw_X12_outOf : Mw yX12_outOf cX12_outOf 6 (some .int) 3 := ⟨ug_4 (List.mem_of_getElem? (i := 225) rfl) rfl, ug_1 (List.mem_of_getElem? (i := 11) rfl) rfl, ⟨by decide +kernel, by decide +kernel, by decide +kernel⟩, Nat.le_of_ble_eq_true rfl⟩
theorem ms_X12_outOf : Cond.static yX12_outOf ∈ Ug := ug_4 (List.mem_of_getElem? (i := 224) rfl) rfl
theorem mw_X12_becomes : Mw yX12_becomes cX12_becomes 4 (some .int) 2 := ⟨ug_4 (List.mem_of_getElem? (i := 229) rfl) rfl, ug_1 (List.mem_of_getElem? (i := 11) rfl) rfl, ⟨by decide +kernel, by decide +kernel, by decide +kernel⟩, Nat.le_of_ble_eq_true rfl⟩
theorem mv_X12_becomes : Mv yX12_becomes := ⟨ug_4 (List.mem_of_getElem? (i := 228) rfl) rfl, ug_p (q := (yX12_becomes, 51)) (List.mem_append_right _ (List.mem_append_left _ (List.mem_of_getElem? (i := 3) rfl)))⟩
theorem mw_X12_move : Mw yX12_move cX12_move 5 (some .int) 3 := ⟨ug_4 (List.mem_of_getElem? (i := 233) rfl) rfl, ug_1 (List.mem_of_getElem? (i := 11) rfl) rfl, ⟨by decide +kernel, by decide +kernel, by decide +kernel⟩, Nat.le_of_ble_eq_true rfl⟩
theorem mv_X12_move : Mv yX12_move := ⟨ug_4 (List.mem_of_getElem? (i := 231) rfl) rfl, ug_4 (List.mem_of_getElem? (i := 232) rfl) rfl⟩
theorem mw_X12_set : Mw yX12_set cX12_set 4 (some .int) 2 := ⟨ug_4 (List.mem_of_getElem? (i := 237) rfl) rfl, ug_1 (List.mem_of_getElem? (i := 11) rfl) rfl, ⟨by decide +kernel, by decide +kernel, by decide +kernel⟩, Nat.le_of_ble_eq_true rfl⟩
theorem mv_X12_set : Mv yX12_set := ⟨ug_4 (List.mem_of_getElem? (i := 235) rfl) rfl, ug_4 (List.mem_of_getElem? (i := 236) rfl) rfl⟩
theorem mw_X12_undo : Mw yX12_undo cX12_undo 1 (some .int) 0 := ⟨ug_5 (List.mem_of_getElem? (i := 4) rfl) rfl, ug_1 (List.mem_of_getElem? (i := 11) rfl) rfl, ⟨by decide +kernel, by decide +kernel, by decide +kernel⟩, Nat.le_of_ble_eq_true rfl⟩
theorem mv_X12_undo : Mv yX12_undo := ⟨ug_5 (List.mem_of_getElem? (i := 2) rfl) rfl, ug_5 (List.mem_of_getElem? (i := 3) rfl) rfl⟩
theorem mw_X12_feed : Mw yX12_feed cX12_feed 6 (some .int) 2 := ⟨ug_5 (List.mem_of_getElem? (i := 8) rfl) rfl, ug_1 (List.mem_of_getElem? (i := 11) rfl) rfl, ⟨by decide +kernel, by decide +kernel, by decide +kernel⟩, Nat.le_of_ble_eq_true rfl⟩
theorem mv_X12_feed : Mv yX12_feed := ⟨ug_5 (List.mem_of_getElem? (i := 6) rfl) rfl, ug_5 (List.mem_of_getElem? (i := 7) rfl) rfl⟩
theorem mw_X12_law : Mw yX12_law cX12_law 4 (some .int) 0 := ⟨ug_5 (List.mem_of_getElem? (i := 14) rfl) rfl, ug_1 (List.mem_of_getElem? (i := 11) rfl) rfl, ⟨by decide +kernel, by decide +kernel, by decide +kernel⟩, Nat.le_of_ble_eq_true rfl⟩
theorem mv_X12_law : Mv yX12_law := ⟨ug_5 (List.mem_of_getElem? (i := 12) rfl) rfl, ug_5 (List.mem_of_getElem? (i := 13) rfl) rfl⟩
theorem mw_X12_isLaw : Mw yX12_isLaw cX12_isLaw 1 (some .boolean) 0 := ⟨ug_5 (List.mem_of_getElem? (i := 18) rfl) rfl, ug_1 (List.mem_of_getElem? (i := 11) rfl) rfl, ⟨by decide +kernel, by decide +kernel, by decide +kernel⟩, Nat.le_of_ble_eq_true rfl⟩
theorem mv_X12_isLaw : Mv yX12_isLaw := ⟨ug_5 (List.mem_of_getElem? (i := 17) rfl) rfl, ug_p (q := (yX12_isLaw, 51)) (List.mem_append_right _ (List.mem_append_left _ (List.mem_of_getElem? (i := 4) rfl)))⟩
theorem mw_X12_sign : Mw yX12_sign cX12_sign 1 (some .int) 0 := ⟨ug_5 (List.mem_of_getElem? (i := 22) rfl) rfl, ug_1 (List.mem_of_getElem? (i := 11) rfl) rfl, ⟨by decide +kernel, by decide +kernel, by decide +kernel⟩, Nat.le_of_ble_eq_true rfl⟩
theorem mv_X12_sign : Mv yX12_sign := ⟨ug_5 (List.mem_of_getElem? (i := 21) rfl) rfl, ug_p (q := (yX12_sign, 51)) (List.mem_append_right _ (List.mem_append_left _ (List.mem_of_getElem? (i := 5) rfl)))⟩
theorem mw_X12_part : Mw yX12_part cX12_part 2 (some .boolean) 0 := ⟨ug_5 (List.mem_of_getElem? (i := 26) rfl) rfl, ug_1 (List.mem_of_getElem? (i := 11) rfl) rfl, ⟨by decide +kernel, by decide +kernel, by decide +kernel⟩, Nat.le_of_ble_eq_true rfl⟩
theorem mv_X12_part : Mv yX12_part := ⟨ug_5 (List.mem_of_getElem? (i := 25) rfl) rfl, ug_p (q := (yX12_part, 51)) (List.mem_append_right _ (List.mem_append_left _ (List.mem_of_getElem? (i := 6) rfl)))⟩
theorem mw_X12_digit : Mw yX12_digit cX12_digit 1 (some .boolean) 0 := ⟨ug_5 (List.mem_of_getElem? (i := 30) rfl) rfl, ug_1 (List.mem_of_getElem? (i := 11) rfl) rfl, ⟨by decide +kernel, by decide +kernel, by decide +kernel⟩, Nat.le_of_ble_eq_true rfl⟩
theorem mv_X12_digit : Mv yX12_digit := ⟨ug_5 (List.mem_of_getElem? (i := 29) rfl) rfl, ug_p (q := (yX12_digit, 51)) (List.mem_append_right _ (List.mem_append_left _ (List.mem_of_getElem? (i := 7) rfl)))⟩
theorem mw_X12_isDigit : Mw yX12_isDigit cX12_isDigit 1 (some .boolean) 1 := ⟨ug_5 (List.mem_of_getElem? (i := 33) rfl) rfl, ug_1 (List.mem_of_getElem? (i := 11) rfl) rfl, ⟨by decide +kernel, by decide +kernel, by decide +kernel⟩, Nat.le_of_ble_eq_true rfl⟩
theorem ms_X12_isDigit : Cond.static yX12_isDigit ∈ Ug := ug_5 (List.mem_of_getElem? (i := 32) rfl) rfl
theorem mw_X12_closes : Mw yX12_closes cX12_closes 1 none 0 := ⟨ug_5 (List.mem_of_getElem? (i := 37) rfl) rfl, ug_1 (List.mem_of_getElem? (i := 11) rfl) rfl, ⟨by decide +kernel, by decide +kernel, by decide +kernel⟩, Nat.le_of_ble_eq_true rfl⟩
theorem mv_X12_closes : Mv yX12_closes := ⟨ug_5 (List.mem_of_getElem? (i := 36) rfl) rfl, ug_p (q := (yX12_closes, 51)) (List.mem_append_right _ (List.mem_append_left _ (List.mem_of_getElem? (i := 8) rfl)))⟩
theorem mw_X12_holds : Mw yX12_holds cX12_holds 3 (some .int) 2 := ⟨ug_5 (List.mem_of_getElem? (i := 41) rfl) rfl, ug_1 (List.mem_of_getElem? (i := 11) rfl) rfl, ⟨by decide +kernel, by decide +kernel, by decide +kernel⟩, Nat.le_of_ble_eq_true rfl⟩
theorem mv_X12_holds : Mv yX12_holds := ⟨ug_5 (List.mem_of_getElem? (i := 39) rfl) rfl, ug_5 (List.mem_of_getElem? (i := 40) rfl) rfl⟩
theorem mw_X12_rule : Mw yX12_rule cX12_rule 7 (some .int) 2 := ⟨ug_5 (List.mem_of_getElem? (i := 45) rfl) rfl, ug_1 (List.mem_of_getElem? (i := 11) rfl) rfl, ⟨by decide +kernel, by decide +kernel, by decide +kernel⟩, Nat.le_of_ble_eq_true rfl⟩
theorem mv_X12_rule : Mv yX12_rule := ⟨ug_5 (List.mem_of_getElem? (i := 43) rfl) rfl, ug_5 (List.mem_of_getElem? (i := 44) rfl) rfl⟩
theorem mw_X12_isRule : Mw yX12_isRule cX12_isRule 3 (some .boolean) 1 := ⟨ug_5 (List.mem_of_getElem? (i := 49) rfl) rfl, ug_1 (List.mem_of_getElem? (i := 11) rfl) rfl, ⟨by decide +kernel, by decide +kernel, by decide +kernel⟩, Nat.le_of_ble_eq_true rfl⟩
theorem mv_X12_isRule : Mv yX12_isRule := ⟨ug_5 (List.mem_of_getElem? (i := 48) rfl) rfl, ug_p (q := (yX12_isRule, 51)) (List.mem_append_right _ (List.mem_append_left _ (List.mem_of_getElem? (i := 9) rfl)))⟩
theorem mw_X12_unit : Mw yX12_unit cX12_unit 4 (some .boolean) 1 := ⟨ug_5 (List.mem_of_getElem? (i := 53) rfl) rfl, ug_1 (List.mem_of_getElem? (i := 11) rfl) rfl, ⟨by decide +kernel, by decide +kernel, by decide +kernel⟩, Nat.le_of_ble_eq_true rfl⟩
theorem mv_X12_unit : Mv yX12_unit := ⟨ug_5 (List.mem_of_getElem? (i := 52) rfl) rfl, ug_p (q := (yX12_unit, 51)) (List.mem_append_right _ (List.mem_append_left _ (List.mem_of_getElem? (i := 10) rfl)))⟩
theorem mw_X12_unrule : Mw yX12_unrule cX12_unrule 3 (some .int) 1 := ⟨ug_5 (List.mem_of_getElem? (i := 57) rfl) rfl, ug_1 (List.mem_of_getElem? (i := 11) rfl) rfl, ⟨by decide +kernel, by decide +kernel, by decide +kernel⟩, Nat.le_of_ble_eq_true rfl⟩
theorem mv_X12_unrule : Mv yX12_unrule := ⟨ug_5 (List.mem_of_getElem? (i := 55) rfl) rfl, ug_5 (List.mem_of_getElem? (i := 56) rfl) rfl⟩
theorem mw_X12_inSet : Mw yX12_inSet cX12_inSet 2 (some .int) 1 := ⟨ug_5 (List.mem_of_getElem? (i := 61) rfl) rfl, ug_1 (List.mem_of_getElem? (i := 11) rfl) rfl, ⟨by decide +kernel, by decide +kernel, by decide +kernel⟩, Nat.le_of_ble_eq_true rfl⟩
theorem mv_X12_inSet : Mv yX12_inSet := ⟨ug_5 (List.mem_of_getElem? (i := 59) rfl) rfl, ug_5 (List.mem_of_getElem? (i := 60) rfl) rfl⟩
theorem mw_X12_finds : Mw yX12_finds cX12_finds 3 none 0 := ⟨ug_5 (List.mem_of_getElem? (i := 65) rfl) rfl, ug_1 (List.mem_of_getElem? (i := 11) rfl) rfl, ⟨by decide +kernel, by decide +kernel, by decide +kernel⟩, Nat.le_of_ble_eq_true rfl⟩
theorem mv_X12_finds : Mv yX12_finds := ⟨ug_5 (List.mem_of_getElem? (i := 64) rfl) rfl, ug_p (q := (yX12_finds, 51)) (List.mem_append_right _ (List.mem_append_left _ (List.mem_of_getElem? (i := 11) rfl)))⟩
theorem mw_X12_lets : Mw yX12_lets cX12_lets 3 (some .boolean) 1 := ⟨ug_5 (List.mem_of_getElem? (i := 69) rfl) rfl, ug_1 (List.mem_of_getElem? (i := 11) rfl) rfl, ⟨by decide +kernel, by decide +kernel, by decide +kernel⟩, Nat.le_of_ble_eq_true rfl⟩
theorem mv_X12_lets : Mv yX12_lets := ⟨ug_5 (List.mem_of_getElem? (i := 68) rfl) rfl, ug_p (q := (yX12_lets, 51)) (List.mem_append_right _ (List.mem_append_left _ (List.mem_of_getElem? (i := 12) rfl)))⟩
theorem mw_X12_letsBy : Mw yX12_letsBy cX12_letsBy 4 (some .boolean) 2 := ⟨ug_5 (List.mem_of_getElem? (i := 73) rfl) rfl, ug_1 (List.mem_of_getElem? (i := 11) rfl) rfl, ⟨by decide +kernel, by decide +kernel, by decide +kernel⟩, Nat.le_of_ble_eq_true rfl⟩
theorem mv_X12_letsBy : Mv yX12_letsBy := ⟨ug_5 (List.mem_of_getElem? (i := 72) rfl) rfl, ug_p (q := (yX12_letsBy, 51)) (List.mem_append_right _ (List.mem_append_left _ (List.mem_of_getElem? (i := 13) rfl)))⟩
theorem mw_X12_lawSign : Mw yX12_lawSign cX12_lawSign 2 (some .int) 1 := ⟨ug_5 (List.mem_of_getElem? (i := 77) rfl) rfl, ug_1 (List.mem_of_getElem? (i := 11) rfl) rfl, ⟨by decide +kernel, by decide +kernel, by decide +kernel⟩, Nat.le_of_ble_eq_true rfl⟩
theorem mv_X12_lawSign : Mv yX12_lawSign := ⟨ug_5 (List.mem_of_getElem? (i := 76) rfl) rfl, ug_p (q := (yX12_lawSign, 51)) (List.mem_append_right _ (List.mem_append_left _ (List.mem_of_getElem? (i := 14) rfl)))⟩
theorem mw_X12_compared : Mw yX12_compared cX12_compared 7 (some .int) 2 := ⟨ug_5 (List.mem_of_getElem? (i := 81) rfl) rfl, ug_1 (List.mem_of_getElem? (i := 11) rfl) rfl, ⟨by decide +kernel, by decide +kernel, by decide +kernel⟩, Nat.le_of_ble_eq_true rfl⟩
theorem mv_X12_compared : Mv yX12_compared := ⟨ug_5 (List.mem_of_getElem? (i := 80) rfl) rfl, ug_p (q := (yX12_compared, 51)) (List.mem_append_right _ (List.mem_append_left _ (List.mem_of_getElem? (i := 15) rfl)))⟩
theorem mw_X12_bits : Mw yX12_bits cX12_bits 3 (some .int) 1 := ⟨ug_5 (List.mem_of_getElem? (i := 84) rfl) rfl, ug_1 (List.mem_of_getElem? (i := 11) rfl) rfl, ⟨by decide +kernel, by decide +kernel, by decide +kernel⟩, Nat.le_of_ble_eq_true rfl⟩
theorem ms_X12_bits : Cond.static yX12_bits ∈ Ug := ug_5 (List.mem_of_getElem? (i := 83) rfl) rfl
theorem mw_X12_push : Mw yX12_push cX12_push 2 none 1 := ⟨ug_5 (List.mem_of_getElem? (i := 88) rfl) rfl, ug_1 (List.mem_of_getElem? (i := 11) rfl) rfl, ⟨by decide +kernel, by decide +kernel, by decide +kernel⟩, Nat.le_of_ble_eq_true rfl⟩
theorem mv_X12_push : Mv yX12_push := ⟨ug_5 (List.mem_of_getElem? (i := 87) rfl) rfl, ug_p (q := (yX12_push, 51)) (List.mem_append_right _ (List.mem_append_right _ (List.mem_append_left _ (List.mem_of_getElem? (i := 0) rfl))))⟩
theorem mw_X12_works : Mw yX12_works cX12_works 5 none 1 := ⟨ug_5 (List.mem_of_getElem? (i := 92) rfl) rfl, ug_1 (List.mem_of_getElem? (i := 11) rfl) rfl, ⟨by decide +kernel, by decide +kernel, by decide +kernel⟩, Nat.le_of_ble_eq_true rfl⟩
theorem mv_X12_works : Mv yX12_works := ⟨ug_5 (List.mem_of_getElem? (i := 91) rfl) rfl, ug_p (q := (yX12_works, 51)) (List.mem_append_right _ (List.mem_append_right _ (List.mem_append_left _ (List.mem_of_getElem? (i := 1) rfl))))⟩
theorem mw_X12_rank : Mw yX12_rank cX12_rank 1 (some .int) 1 := ⟨ug_5 (List.mem_of_getElem? (i := 95) rfl) rfl, ug_1 (List.mem_of_getElem? (i := 11) rfl) rfl, ⟨by decide +kernel, by decide +kernel, by decide +kernel⟩, Nat.le_of_ble_eq_true rfl⟩
theorem ms_X12_rank : Cond.static yX12_rank ∈ Ug := ug_5 (List.mem_of_getElem? (i := 94) rfl) rfl
theorem mw_X12_waitsFor : Mw yX12_waitsFor cX12_waitsFor 2 none 1 := ⟨ug_5 (List.mem_of_getElem? (i := 99) rfl) rfl, ug_1 (List.mem_of_getElem? (i := 11) rfl) rfl, ⟨by decide +kernel, by decide +kernel, by decide +kernel⟩, Nat.le_of_ble_eq_true rfl⟩
theorem mv_X12_waitsFor : Mv yX12_waitsFor := ⟨ug_5 (List.mem_of_getElem? (i := 98) rfl) rfl, ug_p (q := (yX12_waitsFor, 51)) (List.mem_append_right _ (List.mem_append_right _ (List.mem_append_left _ (List.mem_of_getElem? (i := 2) rfl))))⟩
theorem mw_X12_isWorld : Mw yX12_isWorld cX12_isWorld 3 (some .boolean) 1 := ⟨ug_5 (List.mem_of_getElem? (i := 103) rfl) rfl, ug_1 (List.mem_of_getElem? (i := 11) rfl) rfl, ⟨by decide +kernel, by decide +kernel, by decide +kernel⟩, Nat.le_of_ble_eq_true rfl⟩
theorem mv_X12_isWorld : Mv yX12_isWorld := ⟨ug_5 (List.mem_of_getElem? (i := 102) rfl) rfl, ug_p (q := (yX12_isWorld, 51)) (List.mem_append_right _ (List.mem_append_right _ (List.mem_append_left _ (List.mem_of_getElem? (i := 3) rfl))))⟩
theorem mw_X12_isPlan : Mw yX12_isPlan cX12_isPlan 3 (some .boolean) 1 := ⟨ug_5 (List.mem_of_getElem? (i := 108) rfl) rfl, ug_1 (List.mem_of_getElem? (i := 11) rfl) rfl, ⟨by decide +kernel, by decide +kernel, by decide +kernel⟩, Nat.le_of_ble_eq_true rfl⟩
theorem mv_X12_isPlan : Mv yX12_isPlan := ⟨ug_5 (List.mem_of_getElem? (i := 107) rfl) rfl, ug_p (q := (yX12_isPlan, 51)) (List.mem_append_right _ (List.mem_append_right _ (List.mem_append_left _ (List.mem_of_getElem? (i := 4) rfl))))⟩
theorem mw_X12_ferries : Mw yX12_ferries cX12_ferries 2 (some .int) 2 := ⟨ug_5 (List.mem_of_getElem? (i := 111) rfl) rfl, ug_1 (List.mem_of_getElem? (i := 11) rfl) rfl, ⟨by decide +kernel, by decide +kernel, by decide +kernel⟩, Nat.le_of_ble_eq_true rfl⟩
theorem ms_X12_ferries : Cond.static yX12_ferries ∈ Ug := ug_5 (List.mem_of_getElem? (i := 110) rfl) rfl
theorem mw_X12_hired : Mw yX12_hired cX12_hired 4 (some .int) 1 := ⟨ug_5 (List.mem_of_getElem? (i := 115) rfl) rfl, ug_1 (List.mem_of_getElem? (i := 11) rfl) rfl, ⟨by decide +kernel, by decide +kernel, by decide +kernel⟩, Nat.le_of_ble_eq_true rfl⟩
theorem mv_X12_hired : Mv yX12_hired := ⟨ug_5 (List.mem_of_getElem? (i := 114) rfl) rfl, ug_p (q := (yX12_hired, 51)) (List.mem_append_right _ (List.mem_append_right _ (List.mem_append_left _ (List.mem_of_getElem? (i := 5) rfl))))⟩
theorem mw_X12_laterOf : Mw yX12_laterOf cX12_laterOf 7 (some .int) 2 := ⟨ug_5 (List.mem_of_getElem? (i := 119) rfl) rfl, ug_1 (List.mem_of_getElem? (i := 11) rfl) rfl, ⟨by decide +kernel, by decide +kernel, by decide +kernel⟩, Nat.le_of_ble_eq_true rfl⟩
theorem mv_X12_laterOf : Mv yX12_laterOf := ⟨ug_5 (List.mem_of_getElem? (i := 118) rfl) rfl, ug_p (q := (yX12_laterOf, 51)) (List.mem_append_right _ (List.mem_append_right _ (List.mem_append_left _ (List.mem_of_getElem? (i := 6) rfl))))⟩
theorem mw_X12_findLacks : Mw yX12_findLacks cX12_findLacks 5 none 2 := ⟨ug_5 (List.mem_of_getElem? (i := 123) rfl) rfl, ug_1 (List.mem_of_getElem? (i := 11) rfl) rfl, ⟨by decide +kernel, by decide +kernel, by decide +kernel⟩, Nat.le_of_ble_eq_true rfl⟩
theorem mv_X12_findLacks : Mv yX12_findLacks := ⟨ug_5 (List.mem_of_getElem? (i := 122) rfl) rfl, ug_p (q := (yX12_findLacks, 51)) (List.mem_append_right _ (List.mem_append_right _ (List.mem_append_left _ (List.mem_of_getElem? (i := 7) rfl))))⟩
theorem mw_X12_tries : Mw yX12_tries cX12_tries 2 none 0 := ⟨ug_5 (List.mem_of_getElem? (i := 127) rfl) rfl, ug_1 (List.mem_of_getElem? (i := 11) rfl) rfl, ⟨by decide +kernel, by decide +kernel, by decide +kernel⟩, Nat.le_of_ble_eq_true rfl⟩
theorem mv_X12_tries : Mv yX12_tries := ⟨ug_5 (List.mem_of_getElem? (i := 126) rfl) rfl, ug_p (q := (yX12_tries, 51)) (List.mem_append_right _ (List.mem_append_right _ (List.mem_append_left _ (List.mem_of_getElem? (i := 8) rfl))))⟩
theorem mw_X12_worth : Mw yX12_worth cX12_worth 6 (some .int) 0 := ⟨ug_5 (List.mem_of_getElem? (i := 131) rfl) rfl, ug_1 (List.mem_of_getElem? (i := 11) rfl) rfl, ⟨by decide +kernel, by decide +kernel, by decide +kernel⟩, Nat.le_of_ble_eq_true rfl⟩
theorem mv_X12_worth : Mv yX12_worth := ⟨ug_5 (List.mem_of_getElem? (i := 130) rfl) rfl, ug_p (q := (yX12_worth, 51)) (List.mem_append_right _ (List.mem_append_right _ (List.mem_append_left _ (List.mem_of_getElem? (i := 9) rfl))))⟩
theorem mw_X12_least : Mw yX12_least cX12_least 2 (some .int) 2 := ⟨ug_5 (List.mem_of_getElem? (i := 134) rfl) rfl, ug_1 (List.mem_of_getElem? (i := 11) rfl) rfl, ⟨by decide +kernel, by decide +kernel, by decide +kernel⟩, Nat.le_of_ble_eq_true rfl⟩
theorem ms_X12_least : Cond.static yX12_least ∈ Ug := ug_5 (List.mem_of_getElem? (i := 133) rfl) rfl
theorem mw_X12_triesLevel : Mw yX12_triesLevel cX12_triesLevel 5 none 2 := ⟨ug_5 (List.mem_of_getElem? (i := 138) rfl) rfl, ug_1 (List.mem_of_getElem? (i := 11) rfl) rfl, ⟨by decide +kernel, by decide +kernel, by decide +kernel⟩, Nat.le_of_ble_eq_true rfl⟩
theorem mv_X12_triesLevel : Mv yX12_triesLevel := ⟨ug_5 (List.mem_of_getElem? (i := 137) rfl) rfl, ug_p (q := (yX12_triesLevel, 51)) (List.mem_append_right _ (List.mem_append_right _ (List.mem_append_left _ (List.mem_of_getElem? (i := 10) rfl))))⟩
theorem mw_X12_priceOf : Mw yX12_priceOf cX12_priceOf 5 (some .int) 2 := ⟨ug_5 (List.mem_of_getElem? (i := 142) rfl) rfl, ug_1 (List.mem_of_getElem? (i := 11) rfl) rfl, ⟨by decide +kernel, by decide +kernel, by decide +kernel⟩, Nat.le_of_ble_eq_true rfl⟩
theorem mv_X12_priceOf : Mv yX12_priceOf := ⟨ug_5 (List.mem_of_getElem? (i := 141) rfl) rfl, ug_p (q := (yX12_priceOf, 51)) (List.mem_append_right _ (List.mem_append_right _ (List.mem_append_left _ (List.mem_of_getElem? (i := 11) rfl))))⟩
theorem mw_X12_triesTwo : Mw yX12_triesTwo cX12_triesTwo 6 none 2 := ⟨ug_5 (List.mem_of_getElem? (i := 146) rfl) rfl, ug_1 (List.mem_of_getElem? (i := 11) rfl) rfl, ⟨by decide +kernel, by decide +kernel, by decide +kernel⟩, Nat.le_of_ble_eq_true rfl⟩
theorem mv_X12_triesTwo : Mv yX12_triesTwo := ⟨ug_5 (List.mem_of_getElem? (i := 145) rfl) rfl, ug_p (q := (yX12_triesTwo, 51)) (List.mem_append_right _ (List.mem_append_right _ (List.mem_append_left _ (List.mem_of_getElem? (i := 12) rfl))))⟩
theorem mw_X12_draws : Mw yX12_draws cX12_draws 3 none 1 := ⟨ug_5 (List.mem_of_getElem? (i := 150) rfl) rfl, ug_1 (List.mem_of_getElem? (i := 11) rfl) rfl, ⟨by decide +kernel, by decide +kernel, by decide +kernel⟩, Nat.le_of_ble_eq_true rfl⟩
theorem mv_X12_draws : Mv yX12_draws := ⟨ug_5 (List.mem_of_getElem? (i := 149) rfl) rfl, ug_p (q := (yX12_draws, 51)) (List.mem_append_right _ (List.mem_append_right _ (List.mem_append_left _ (List.mem_of_getElem? (i := 13) rfl))))⟩
theorem mw_X12_later : Mw yX12_later cX12_later 3 (some .int) 2 := ⟨ug_5 (List.mem_of_getElem? (i := 154) rfl) rfl, ug_1 (List.mem_of_getElem? (i := 11) rfl) rfl, ⟨by decide +kernel, by decide +kernel, by decide +kernel⟩, Nat.le_of_ble_eq_true rfl⟩
theorem mv_X12_later : Mv yX12_later := ⟨ug_5 (List.mem_of_getElem? (i := 152) rfl) rfl, ug_5 (List.mem_of_getElem? (i := 153) rfl) rfl⟩
theorem mw_X12_cost : Mw yX12_cost cX12_cost 3 (some .int) 2 := ⟨ug_5 (List.mem_of_getElem? (i := 158) rfl) rfl, ug_1 (List.mem_of_getElem? (i := 11) rfl) rfl, ⟨by decide +kernel, by decide +kernel, by decide +kernel⟩, Nat.le_of_ble_eq_true rfl⟩
theorem mv_X12_cost : Mv yX12_cost := ⟨ug_5 (List.mem_of_getElem? (i := 156) rfl) rfl, ug_5 (List.mem_of_getElem? (i := 157) rfl) rfl⟩
theorem mw_X12_worst : Mw yX12_worst cX12_worst 4 (some .int) 2 := ⟨ug_5 (List.mem_of_getElem? (i := 162) rfl) rfl, ug_1 (List.mem_of_getElem? (i := 11) rfl) rfl, ⟨by decide +kernel, by decide +kernel, by decide +kernel⟩, Nat.le_of_ble_eq_true rfl⟩
theorem mv_X12_worst : Mv yX12_worst := ⟨ug_5 (List.mem_of_getElem? (i := 160) rfl) rfl, ug_5 (List.mem_of_getElem? (i := 161) rfl) rfl⟩
theorem mw_X12_worstOf : Mw yX12_worstOf cX12_worstOf 5 (some .int) 3 := ⟨ug_5 (List.mem_of_getElem? (i := 166) rfl) rfl, ug_1 (List.mem_of_getElem? (i := 11) rfl) rfl, ⟨by decide +kernel, by decide +kernel, by decide +kernel⟩, Nat.le_of_ble_eq_true rfl⟩
theorem mv_X12_worstOf : Mv yX12_worstOf := ⟨ug_5 (List.mem_of_getElem? (i := 165) rfl) rfl, ug_p (q := (yX12_worstOf, 51)) (List.mem_append_right _ (List.mem_append_right _ (List.mem_append_left _ (List.mem_of_getElem? (i := 14) rfl))))⟩
theorem mw_X12_best : Mw yX12_best cX12_best 3 (some .int) 1 := ⟨ug_5 (List.mem_of_getElem? (i := 170) rfl) rfl, ug_1 (List.mem_of_getElem? (i := 11) rfl) rfl, ⟨by decide +kernel, by decide +kernel, by decide +kernel⟩, Nat.le_of_ble_eq_true rfl⟩
theorem mv_X12_best : Mv yX12_best := ⟨ug_5 (List.mem_of_getElem? (i := 168) rfl) rfl, ug_5 (List.mem_of_getElem? (i := 169) rfl) rfl⟩
theorem mw_X12_bestOf : Mw yX12_bestOf cX12_bestOf 6 (some .int) 2 := ⟨ug_5 (List.mem_of_getElem? (i := 174) rfl) rfl, ug_1 (List.mem_of_getElem? (i := 11) rfl) rfl, ⟨by decide +kernel, by decide +kernel, by decide +kernel⟩, Nat.le_of_ble_eq_true rfl⟩
theorem mv_X12_bestOf : Mv yX12_bestOf := ⟨ug_5 (List.mem_of_getElem? (i := 173) rfl) rfl, ug_p (q := (yX12_bestOf, 51)) (List.mem_append_right _ (List.mem_append_right _ (List.mem_append_left _ (List.mem_of_getElem? (i := 15) rfl))))⟩
theorem mw_X12_byRules : Mw yX12_byRules cX12_byRules 3 (some .int) 2 := ⟨ug_5 (List.mem_of_getElem? (i := 178) rfl) rfl, ug_1 (List.mem_of_getElem? (i := 11) rfl) rfl, ⟨by decide +kernel, by decide +kernel, by decide +kernel⟩, Nat.le_of_ble_eq_true rfl⟩
theorem mv_X12_byRules : Mv yX12_byRules := ⟨ug_5 (List.mem_of_getElem? (i := 176) rfl) rfl, ug_5 (List.mem_of_getElem? (i := 177) rfl) rfl⟩
theorem mw_X12_byRulesOf : Mw yX12_byRulesOf cX12_byRulesOf 5 (some .int) 2 := ⟨ug_5 (List.mem_of_getElem? (i := 182) rfl) rfl, ug_1 (List.mem_of_getElem? (i := 11) rfl) rfl, ⟨by decide +kernel, by decide +kernel, by decide +kernel⟩, Nat.le_of_ble_eq_true rfl⟩
theorem mv_X12_byRulesOf : Mv yX12_byRulesOf := ⟨ug_5 (List.mem_of_getElem? (i := 181) rfl) rfl, ug_p (q := (yX12_byRulesOf, 51)) (List.mem_append_right _ (List.mem_append_right _ (List.mem_append_right _ (List.mem_of_getElem? (i := 0) rfl))))⟩
theorem mw_X12_hadOf : Mw yX12_hadOf cX12_hadOf 5 (some .int) 3 := ⟨ug_5 (List.mem_of_getElem? (i := 186) rfl) rfl, ug_1 (List.mem_of_getElem? (i := 11) rfl) rfl, ⟨by decide +kernel, by decide +kernel, by decide +kernel⟩, Nat.le_of_ble_eq_true rfl⟩
theorem mv_X12_hadOf : Mv yX12_hadOf := ⟨ug_5 (List.mem_of_getElem? (i := 185) rfl) rfl, ug_p (q := (yX12_hadOf, 51)) (List.mem_append_right _ (List.mem_append_right _ (List.mem_append_right _ (List.mem_of_getElem? (i := 1) rfl))))⟩
theorem mw_X12_ruleWorth : Mw yX12_ruleWorth cX12_ruleWorth 6 (some .int) 3 := ⟨ug_5 (List.mem_of_getElem? (i := 190) rfl) rfl, ug_1 (List.mem_of_getElem? (i := 11) rfl) rfl, ⟨by decide +kernel, by decide +kernel, by decide +kernel⟩, Nat.le_of_ble_eq_true rfl⟩
theorem mv_X12_ruleWorth : Mv yX12_ruleWorth := ⟨ug_5 (List.mem_of_getElem? (i := 189) rfl) rfl, ug_p (q := (yX12_ruleWorth, 51)) (List.mem_append_right _ (List.mem_append_right _ (List.mem_append_right _ (List.mem_of_getElem? (i := 2) rfl))))⟩
theorem mw_X12_leftOf : Mw yX12_leftOf cX12_leftOf 5 (some .int) 3 := ⟨ug_5 (List.mem_of_getElem? (i := 194) rfl) rfl, ug_1 (List.mem_of_getElem? (i := 11) rfl) rfl, ⟨by decide +kernel, by decide +kernel, by decide +kernel⟩, Nat.le_of_ble_eq_true rfl⟩
theorem mv_X12_leftOf : Mv yX12_leftOf := ⟨ug_5 (List.mem_of_getElem? (i := 193) rfl) rfl, ug_p (q := (yX12_leftOf, 51)) (List.mem_append_right _ (List.mem_append_right _ (List.mem_append_right _ (List.mem_of_getElem? (i := 3) rfl))))⟩
theorem mw_X12_ruled : Mw yX12_ruled cX12_ruled 5 (some .int) 2 := ⟨ug_5 (List.mem_of_getElem? (i := 198) rfl) rfl, ug_1 (List.mem_of_getElem? (i := 11) rfl) rfl, ⟨by decide +kernel, by decide +kernel, by decide +kernel⟩, Nat.le_of_ble_eq_true rfl⟩
theorem mv_X12_ruled : Mv yX12_ruled := ⟨ug_5 (List.mem_of_getElem? (i := 196) rfl) rfl, ug_5 (List.mem_of_getElem? (i := 197) rfl) rfl⟩
theorem mw_X12_close : Mw yX12_close cX12_close 12 (some .int) 2 := ⟨ug_5 (List.mem_of_getElem? (i := 202) rfl) rfl, ug_1 (List.mem_of_getElem? (i := 11) rfl) rfl, ⟨by decide +kernel, by decide +kernel, by decide +kernel⟩, Nat.le_of_ble_eq_true rfl⟩
theorem mv_X12_close : Mv yX12_close := ⟨ug_5 (List.mem_of_getElem? (i := 200) rfl) rfl, ug_5 (List.mem_of_getElem? (i := 201) rfl) rfl⟩
theorem mw_X12_borneMost : Mw yX12_borneMost cX12_borneMost 4 (some .int) 1 := ⟨ug_5 (List.mem_of_getElem? (i := 206) rfl) rfl, ug_1 (List.mem_of_getElem? (i := 11) rfl) rfl, ⟨by decide +kernel, by decide +kernel, by decide +kernel⟩, Nat.le_of_ble_eq_true rfl⟩
theorem mv_X12_borneMost : Mv yX12_borneMost := ⟨ug_5 (List.mem_of_getElem? (i := 205) rfl) rfl, ug_p (q := (yX12_borneMost, 51)) (List.mem_append_right _ (List.mem_append_right _ (List.mem_append_right _ (List.mem_of_getElem? (i := 4) rfl))))⟩
theorem mw_X12_put : Mw yX12_put cX12_put 2 (some .int) 1 := ⟨ug_5 (List.mem_of_getElem? (i := 210) rfl) rfl, ug_1 (List.mem_of_getElem? (i := 11) rfl) rfl, ⟨by decide +kernel, by decide +kernel, by decide +kernel⟩, Nat.le_of_ble_eq_true rfl⟩
theorem mv_X12_put : Mv yX12_put := ⟨ug_5 (List.mem_of_getElem? (i := 208) rfl) rfl, ug_5 (List.mem_of_getElem? (i := 209) rfl) rfl⟩
theorem mw_X12_prove : Mw yX12_prove cX12_prove 6 (some .int) 2 := ⟨ug_5 (List.mem_of_getElem? (i := 214) rfl) rfl, ug_1 (List.mem_of_getElem? (i := 11) rfl) rfl, ⟨by decide +kernel, by decide +kernel, by decide +kernel⟩, Nat.le_of_ble_eq_true rfl⟩
theorem mv_X12_prove : Mv yX12_prove := ⟨ug_5 (List.mem_of_getElem? (i := 212) rfl) rfl, ug_5 (List.mem_of_getElem? (i := 213) rfl) rfl⟩
theorem mw_X12_fails : Mw yX12_fails cX12_fails 3 (some .int) 0 := ⟨ug_5 (List.mem_of_getElem? (i := 218) rfl) rfl, ug_1 (List.mem_of_getElem? (i := 11) rfl) rfl, ⟨by decide +kernel, by decide +kernel, by decide +kernel⟩, Nat.le_of_ble_eq_true rfl⟩
theorem mv_X12_fails : Mv yX12_fails := ⟨ug_5 (List.mem_of_getElem? (i := 217) rfl) rfl, ug_p (q := (yX12_fails, 51)) (List.mem_append_right _ (List.mem_append_right _ (List.mem_append_right _ (List.mem_of_getElem? (i := 5) rfl))))⟩
theorem mw_X12_promise : Mw yX12_promise cX12_promise 7 (some .int) 3 := ⟨ug_5 (List.mem_of_getElem? (i := 223) rfl) rfl, ug_1 (List.mem_of_getElem? (i := 11) rfl) rfl, ⟨by decide +kernel, by decide +kernel, by decide +kernel⟩, Nat.le_of_ble_eq_true rfl⟩
theorem mv_X12_promise : Mv yX12_promise := ⟨ug_5 (List.mem_of_getElem? (i := 221) rfl) rfl, ug_5 (List.mem_of_getElem? (i := 222) rfl) rfl⟩
theorem mw_X12_corner : Mw yX12_corner cX12_corner 4 (some .int) 1 := ⟨ug_5 (List.mem_of_getElem? (i := 227) rfl) rfl, ug_1 (List.mem_of_getElem? (i := 11) rfl) rfl, ⟨by decide +kernel, by decide +kernel, by decide +kernel⟩, Nat.le_of_ble_eq_true rfl⟩
theorem mv_X12_corner : Mv yX12_corner := ⟨ug_5 (List.mem_of_getElem? (i := 225) rfl) rfl, ug_5 (List.mem_of_getElem? (i := 226) rfl) rfl⟩
theorem mw_X12_flat : Mw yX12_flat cX12_flat 5 (some .int) 0 := ⟨ug_5 (List.mem_of_getElem? (i := 231) rfl) rfl, ug_1 (List.mem_of_getElem? (i := 11) rfl) rfl, ⟨by decide +kernel, by decide +kernel, by decide +kernel⟩, Nat.le_of_ble_eq_true rfl⟩
theorem mv_X12_flat : Mv yX12_flat := ⟨ug_5 (List.mem_of_getElem? (i := 229) rfl) rfl, ug_5 (List.mem_of_getElem? (i := 230) rfl) rfl⟩
theorem mw_X12_foreknown : Mw yX12_foreknown cX12_foreknown 4 (some .int) 2 := ⟨ug_5 (List.mem_of_getElem? (i := 235) rfl) rfl, ug_1 (List.mem_of_getElem? (i := 11) rfl) rfl, ⟨by decide +kernel, by decide +kernel, by decide +kernel⟩, Nat.le_of_ble_eq_true rfl⟩
theorem mv_X12_foreknown : Mv yX12_foreknown := ⟨ug_5 (List.mem_of_getElem? (i := 233) rfl) rfl, ug_5 (List.mem_of_getElem? (i := 234) rfl) rfl⟩
theorem mw_X12_known : Mw yX12_known cX12_known 4 (some .int) 1 := ⟨ug_5 (List.mem_of_getElem? (i := 239) rfl) rfl, ug_1 (List.mem_of_getElem? (i := 11) rfl) rfl, ⟨by decide +kernel, by decide +kernel, by decide +kernel⟩, Nat.le_of_ble_eq_true rfl⟩
theorem mv_X12_known : Mv yX12_known := ⟨ug_5 (List.mem_of_getElem? (i := 238) rfl) rfl, ug_p (q := (yX12_known, 51)) (List.mem_append_right _ (List.mem_append_right _ (List.mem_append_right _ (List.mem_of_getElem? (i := 6) rfl))))⟩
theorem mw_X12_dearest : Mw yX12_dearest cX12_dearest 4 (some .int) 0 := ⟨ug_6 (List.mem_of_getElem? (i := 3) rfl) rfl, ug_1 (List.mem_of_getElem? (i := 11) rfl) rfl, ⟨by decide +kernel, by decide +kernel, by decide +kernel⟩, Nat.le_of_ble_eq_true rfl⟩
theorem mv_X12_dearest : Mv yX12_dearest := ⟨ug_6 (List.mem_of_getElem? (i := 1) rfl) rfl, ug_6 (List.mem_of_getElem? (i := 2) rfl) rfl⟩
theorem mw_X12_who : Mw yX12_who cX12_who 8 (some .int) 2 := ⟨ug_6 (List.mem_of_getElem? (i := 7) rfl) rfl, ug_1 (List.mem_of_getElem? (i := 11) rfl) rfl, ⟨by decide +kernel, by decide +kernel, by decide +kernel⟩, Nat.le_of_ble_eq_true rfl⟩
theorem mv_X12_who : Mv yX12_who := ⟨ug_6 (List.mem_of_getElem? (i := 5) rfl) rfl, ug_6 (List.mem_of_getElem? (i := 6) rfl) rfl⟩
theorem mw_X12_none : Mw yX12_none cX12_none 7 (some .int) 2 := ⟨ug_6 (List.mem_of_getElem? (i := 11) rfl) rfl, ug_1 (List.mem_of_getElem? (i := 11) rfl) rfl, ⟨by decide +kernel, by decide +kernel, by decide +kernel⟩, Nat.le_of_ble_eq_true rfl⟩
theorem mv_X12_none : Mv yX12_none := ⟨ug_6 (List.mem_of_getElem? (i := 9) rfl) rfl, ug_6 (List.mem_of_getElem? (i := 10) rfl) rfl⟩
theorem mw_X12_isNoneFor : Mw yX12_isNoneFor cX12_isNoneFor 6 (some .boolean) 2 := ⟨ug_6 (List.mem_of_getElem? (i := 17) rfl) rfl, ug_1 (List.mem_of_getElem? (i := 11) rfl) rfl, ⟨by decide +kernel, by decide +kernel, by decide +kernel⟩, Nat.le_of_ble_eq_true rfl⟩
theorem mv_X12_isNoneFor : Mv yX12_isNoneFor := ⟨ug_6 (List.mem_of_getElem? (i := 16) rfl) rfl, ug_p (q := (yX12_isNoneFor, 51)) (List.mem_append_right _ (List.mem_append_right _ (List.mem_append_right _ (List.mem_of_getElem? (i := 7) rfl))))⟩
theorem mw_X12_year : Mw yX12_year cX12_year 2 (some .int) 1 := ⟨ug_6 (List.mem_of_getElem? (i := 21) rfl) rfl, ug_1 (List.mem_of_getElem? (i := 11) rfl) rfl, ⟨by decide +kernel, by decide +kernel, by decide +kernel⟩, Nat.le_of_ble_eq_true rfl⟩
theorem mv_X12_year : Mv yX12_year := ⟨ug_6 (List.mem_of_getElem? (i := 19) rfl) rfl, ug_6 (List.mem_of_getElem? (i := 20) rfl) rfl⟩
theorem mw_X12_out : Mw yX12_out cX12_out 3 (some .int) 0 := ⟨ug_6 (List.mem_of_getElem? (i := 25) rfl) rfl, ug_1 (List.mem_of_getElem? (i := 11) rfl) rfl, ⟨by decide +kernel, by decide +kernel, by decide +kernel⟩, Nat.le_of_ble_eq_true rfl⟩
theorem mv_X12_out : Mv yX12_out := ⟨ug_6 (List.mem_of_getElem? (i := 23) rfl) rfl, ug_6 (List.mem_of_getElem? (i := 24) rfl) rfl⟩
theorem mw_X12_dearYears : Mw yX12_dearYears cX12_dearYears 5 (some .int) 1 := ⟨ug_6 (List.mem_of_getElem? (i := 29) rfl) rfl, ug_1 (List.mem_of_getElem? (i := 11) rfl) rfl, ⟨by decide +kernel, by decide +kernel, by decide +kernel⟩, Nat.le_of_ble_eq_true rfl⟩
theorem mv_X12_dearYears : Mv yX12_dearYears := ⟨ug_6 (List.mem_of_getElem? (i := 27) rfl) rfl, ug_6 (List.mem_of_getElem? (i := 28) rfl) rfl⟩
theorem mw_X12_drawn : Mw yX12_drawn cX12_drawn 6 (some .int) 1 := ⟨ug_6 (List.mem_of_getElem? (i := 33) rfl) rfl, ug_1 (List.mem_of_getElem? (i := 11) rfl) rfl, ⟨by decide +kernel, by decide +kernel, by decide +kernel⟩, Nat.le_of_ble_eq_true rfl⟩
theorem mv_X12_drawn : Mv yX12_drawn := ⟨ug_6 (List.mem_of_getElem? (i := 31) rfl) rfl, ug_6 (List.mem_of_getElem? (i := 32) rfl) rfl⟩
theorem mw_X12_image : Mw yX12_image cX12_image 2 (some .int) 0 := ⟨ug_6 (List.mem_of_getElem? (i := 38) rfl) rfl, ug_1 (List.mem_of_getElem? (i := 11) rfl) rfl, ⟨by decide +kernel, by decide +kernel, by decide +kernel⟩, Nat.le_of_ble_eq_true rfl⟩
theorem mv_X12_image : Mv yX12_image := ⟨ug_6 (List.mem_of_getElem? (i := 36) rfl) rfl, ug_6 (List.mem_of_getElem? (i := 37) rfl) rfl⟩
theorem mw_X12_harbours : Mw yX12_harbours cX12_harbours 1 (some .int) 0 := ⟨ug_6 (List.mem_of_getElem? (i := 42) rfl) rfl, ug_1 (List.mem_of_getElem? (i := 11) rfl) rfl, ⟨by decide +kernel, by decide +kernel, by decide +kernel⟩, Nat.le_of_ble_eq_true rfl⟩
theorem mv_X12_harbours : Mv yX12_harbours := ⟨ug_6 (List.mem_of_getElem? (i := 41) rfl) rfl, ug_p (q := (yX12_harbours, 51)) (List.mem_append_right _ (List.mem_append_right _ (List.mem_append_right _ (List.mem_of_getElem? (i := 8) rfl))))⟩
theorem mw_X12_restore : Mw yX12_restore cX12_restore 2 (some .int) 0 := ⟨ug_6 (List.mem_of_getElem? (i := 46) rfl) rfl, ug_1 (List.mem_of_getElem? (i := 11) rfl) rfl, ⟨by decide +kernel, by decide +kernel, by decide +kernel⟩, Nat.le_of_ble_eq_true rfl⟩
theorem mv_X12_restore : Mv yX12_restore := ⟨ug_6 (List.mem_of_getElem? (i := 44) rfl) rfl, ug_6 (List.mem_of_getElem? (i := 45) rfl) rfl⟩
theorem mw_X12_count : Mw yX12_count cX12_count 4 (some .int) 1 := ⟨ug_6 (List.mem_of_getElem? (i := 50) rfl) rfl, ug_1 (List.mem_of_getElem? (i := 11) rfl) rfl, ⟨by decide +kernel, by decide +kernel, by decide +kernel⟩, Nat.le_of_ble_eq_true rfl⟩
theorem mv_X12_count : Mv yX12_count := ⟨ug_6 (List.mem_of_getElem? (i := 48) rfl) rfl, ug_6 (List.mem_of_getElem? (i := 49) rfl) rfl⟩
