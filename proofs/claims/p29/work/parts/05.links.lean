/-! ===== THE TWO SHAPES; LINKS: fields, methods, constants, each once ===== -/
def SX : List SC := [(0, 7, [(2, 1), (2, 2), (2, 3), (2, 4), (2, 5), (2, 6), (2, 15), (2, 16), (2, 17), (1, 0), (0, 0), (0, 0), (0, 0)]), (0, 1, [(2, 18), (2, 19), (2, 20), (2, 21), (0, 0), (0, 0), (0, 0), (0, 0), (1, 0), (1, 0), (1, 0), (1, 0), (1, 0)]), (0, 6, [(2, 1), (2, 22), (1, 0), (1, 0), (1, 0), (1, 0), (1, 0), (1, 0), (0, 0), (0, 0)]), (0, 4, [(2, 1), (2, 2), (2, 23), (2, 24), (2, 25), (2, 26), (2, 27), (0, 0), (0, 0)]), (0, 0, [(2, 1), (2, 2), (0, 0)]), (0, 2, [(2, 1), (2, 2), (2, 28), (2, 29), (1, 0), (0, 0)]), (0, 3, [(2, 1), (2, 2), (0, 0)]), (0, 5, [(2, 11), (0, 0), (0, 0)]), (0, 5, [(2, 12), (0, 0), (0, 0)]), (0, 5, [(2, 13), (0, 0), (0, 0)]), (0, 5, [(2, 14), (0, 0), (0, 0)]), (1, 60, []), (1, 60, []), (1, 60, []), (1, 60, []), (4, 4, [(2, 7), (2, 8), (2, 9), (2, 10)]), (3, 200, []), (3, 3, []), (1, 6, []), (1, 6, []), (1, 4, []), (1, 144, []), (1, 6, []), (3, 1500, []), (1, 1500, []), (1, 1500, []), (1, 1500, []), (1, 4096, []), (1, 3, []), (1, 3, [])]
theorem sx_sheets : ∀ j, j < 4 → ([(2, 7), (2, 8), (2, 9), (2, 10)] : List (Nat × Nat))[j]? = some (2, 7 + j) := by
  intro j hj
  rcases (show j = 0 ∨ j = 1 ∨ j = 2 ∨ j = 3 by omega) with rfl | rfl | rfl | rfl <;> rfl
theorem sx_obj {o : Nat} (h : shOk o) : SX[o]? = some (0, 5, [(2, o + 4), (0, 0), (0, 0)]) := by
  obtain ⟨h1, h2⟩ := h
  rcases (show o = 7 ∨ o = 8 ∨ o = 9 ∨ o = 10 by omega) with rfl | rfl | rfl | rfl <;> rfl
theorem sx_arr {o : Nat} (h : shOk o) : SX[o + 4]? = some (1, 60, []) := by
  obtain ⟨h1, h2⟩ := h
  rcases (show o = 7 ∨ o = 8 ∨ o = 9 ∨ o = 10 by omega) with rfl | rfl | rfl | rfl <;> rfl
theorem kb_m100 : (Int8.ofInt (-100)).toInt32 = (-100 : Int32) := by decide +kernel
theorem kb_m20 : (Int8.ofInt (-20)).toInt32 = (-20 : Int32) := by decide +kernel
theorem kb_m10 : (Int8.ofInt (-10)).toInt32 = (-10 : Int32) := by decide +kernel
theorem kb_m9 : (Int8.ofInt (-9)).toInt32 = (-9 : Int32) := by decide +kernel
theorem kb_m6 : (Int8.ofInt (-6)).toInt32 = (-6 : Int32) := by decide +kernel
theorem kb_m5 : (Int8.ofInt (-5)).toInt32 = (-5 : Int32) := by decide +kernel
theorem kb_m4 : (Int8.ofInt (-4)).toInt32 = (-4 : Int32) := by decide +kernel
theorem kb_m3 : (Int8.ofInt (-3)).toInt32 = (-3 : Int32) := by decide +kernel
theorem kb_m2 : (Int8.ofInt (-2)).toInt32 = (-2 : Int32) := by decide +kernel
theorem kb_6 : (Int8.ofInt (6)).toInt32 = (6 : Int32) := by decide +kernel
theorem kb_10 : (Int8.ofInt (10)).toInt32 = (10 : Int32) := by decide +kernel
theorem kb_35 : (Int8.ofInt (35)).toInt32 = (35 : Int32) := by decide +kernel
theorem kb_36 : (Int8.ofInt (36)).toInt32 = (36 : Int32) := by decide +kernel
theorem kb_37 : (Int8.ofInt (37)).toInt32 = (37 : Int32) := by decide +kernel
theorem kb_46 : (Int8.ofInt (46)).toInt32 = (46 : Int32) := by decide +kernel
theorem kb_48 : (Int8.ofInt (48)).toInt32 = (48 : Int32) := by decide +kernel
theorem kb_51 : (Int8.ofInt (51)).toInt32 = (51 : Int32) := by decide +kernel
theorem kb_52 : (Int8.ofInt (52)).toInt32 = (52 : Int32) := by decide +kernel
theorem kb_54 : (Int8.ofInt (54)).toInt32 = (54 : Int32) := by decide +kernel
theorem kb_59 : (Int8.ofInt (59)).toInt32 = (59 : Int32) := by decide +kernel
theorem kb_60 : (Int8.ofInt (60)).toInt32 = (60 : Int32) := by decide +kernel
theorem kb_97 : (Int8.ofInt (97)).toInt32 = (97 : Int32) := by decide +kernel
theorem kb_98 : (Int8.ofInt (98)).toInt32 = (98 : Int32) := by decide +kernel
theorem kb_99 : (Int8.ofInt (99)).toInt32 = (99 : Int32) := by decide +kernel
theorem kb_105 : (Int8.ofInt (105)).toInt32 = (105 : Int32) := by decide +kernel
theorem kb_115 : (Int8.ofInt (115)).toInt32 = (115 : Int32) := by decide +kernel
theorem ki_m1 : Int32.ofInt (-1) = (-1 : Int32) := by decide +kernel
theorem ki_0 : Int32.ofInt (0) = (0 : Int32) := by decide +kernel
theorem ki_1 : Int32.ofInt (1) = (1 : Int32) := by decide +kernel
theorem ki_2 : Int32.ofInt (2) = (2 : Int32) := by decide +kernel
theorem ki_3 : Int32.ofInt (3) = (3 : Int32) := by decide +kernel
theorem ki_4 : Int32.ofInt (4) = (4 : Int32) := by decide +kernel
theorem kl_0 : Int64.ofNat (((0 : Fin 2) : Nat)) = (0 : Int64) := by decide +kernel
theorem kl_1 : Int64.ofNat (((1 : Fin 2) : Nat)) = (1 : Int64) := by decide +kernel
theorem ks_200 : (Int16.ofInt (200)).toInt32 = (200 : Int32) := by decide +kernel
theorem ks_1500 : (Int16.ofInt (1500)).toInt32 = (1500 : Int32) := by decide +kernel
theorem ks_4095 : (Int16.ofInt (4095)).toInt32 = (4095 : Int32) := by decide +kernel
theorem ks_4096 : (Int16.ofInt (4096)).toInt32 = (4096 : Int32) := by decide +kernel
theorem lay_RX0 : ∀ w ∈ u_ws RX0 TX0 3, w ∈ BW := by
  intro w hw
  obtain ⟨k, hk, rfl⟩ := List.mem_map.mp hw
  have hk := List.mem_range.mp hk
  match k, hk with
  | 0, _ => exact bw1 171 rfl rfl
  | 1, _ => exact bw1 173 rfl rfl
  | 2, _ => exact bw1 175 rfl rfl
  | k + 3, hk => exact absurd hk (by omega)
theorem lay_RX1 : ∀ w ∈ u_ws RX1 TX1 13, w ∈ BW := by
  intro w hw
  obtain ⟨k, hk, rfl⟩ := List.mem_map.mp hw
  have hk := List.mem_range.mp hk
  match k, hk with
  | 0, _ => exact bw1 49 rfl rfl
  | 1, _ => exact bw1 51 rfl rfl
  | 2, _ => exact bw1 53 rfl rfl
  | 3, _ => exact bw1 55 rfl rfl
  | 4, _ => exact bw1 57 rfl rfl
  | 5, _ => exact bw1 59 rfl rfl
  | 6, _ => exact bw1 61 rfl rfl
  | 7, _ => exact bw1 63 rfl rfl
  | 8, _ => exact bw1 65 rfl rfl
  | 9, _ => exact bw1 67 rfl rfl
  | 10, _ => exact bw1 69 rfl rfl
  | 11, _ => exact bw1 71 rfl rfl
  | 12, _ => exact bw1 73 rfl rfl
  | k + 13, hk => exact absurd hk (by omega)
theorem lay_RX2 : ∀ w ∈ u_ws RX2 TX2 6, w ∈ BW := by
  intro w hw
  obtain ⟨k, hk, rfl⟩ := List.mem_map.mp hw
  have hk := List.mem_range.mp hk
  match k, hk with
  | 0, _ => exact bw1 190 rfl rfl
  | 1, _ => exact bw1 192 rfl rfl
  | 2, _ => exact bw1 194 rfl rfl
  | 3, _ => exact bw1 196 rfl rfl
  | 4, _ => exact bw1 198 rfl rfl
  | 5, _ => exact bw1 200 rfl rfl
  | k + 6, hk => exact absurd hk (by omega)
theorem lay_RX3 : ∀ w ∈ u_ws RX3 TX3 3, w ∈ BW := by
  intro w hw
  obtain ⟨k, hk, rfl⟩ := List.mem_map.mp hw
  have hk := List.mem_range.mp hk
  match k, hk with
  | 0, _ => exact bw1 213 rfl rfl
  | 1, _ => exact bw1 215 rfl rfl
  | 2, _ => exact bw1 217 rfl rfl
  | k + 3, hk => exact absurd hk (by omega)
theorem lay_RX4 : ∀ w ∈ u_ws RX4 TX4 9, w ∈ BW := by
  intro w hw
  obtain ⟨k, hk, rfl⟩ := List.mem_map.mp hw
  have hk := List.mem_range.mp hk
  match k, hk with
  | 0, _ => exact bw1 141 rfl rfl
  | 1, _ => exact bw1 143 rfl rfl
  | 2, _ => exact bw1 145 rfl rfl
  | 3, _ => exact bw1 147 rfl rfl
  | 4, _ => exact bw1 149 rfl rfl
  | 5, _ => exact bw1 151 rfl rfl
  | 6, _ => exact bw1 153 rfl rfl
  | 7, _ => exact bw1 155 rfl rfl
  | 8, _ => exact bw1 157 rfl rfl
  | k + 9, hk => exact absurd hk (by omega)
theorem lay_RX5 : ∀ w ∈ u_ws RX5 TX5 3, w ∈ BW := by
  intro w hw
  obtain ⟨k, hk, rfl⟩ := List.mem_map.mp hw
  have hk := List.mem_range.mp hk
  match k, hk with
  | 0, _ => exact bw1 230 rfl rfl
  | 1, _ => exact bw1 232 rfl rfl
  | 2, _ => exact bw1 234 rfl rfl
  | k + 3, hk => exact absurd hk (by omega)
theorem lay_RX6 : ∀ w ∈ u_ws RX6 TX6 10, w ∈ BW := by
  intro w hw
  obtain ⟨k, hk, rfl⟩ := List.mem_map.mp hw
  have hk := List.mem_range.mp hk
  match k, hk with
  | 0, _ => exact bw1 105 rfl rfl
  | 1, _ => exact bw1 107 rfl rfl
  | 2, _ => exact bw1 109 rfl rfl
  | 3, _ => exact bw1 111 rfl rfl
  | 4, _ => exact bw1 113 rfl rfl
  | 5, _ => exact bw1 115 rfl rfl
  | 6, _ => exact bw1 117 rfl rfl
  | 7, _ => exact bw1 119 rfl rfl
  | 8, _ => exact bw1 121 rfl rfl
  | 9, _ => exact bw1 123 rfl rfl
  | k + 10, hk => exact absurd hk (by omega)
theorem lay_RX8 : ∀ w ∈ u_ws RX8 TX8 13, w ∈ BW := by
  intro w hw
  obtain ⟨k, hk, rfl⟩ := List.mem_map.mp hw
  have hk := List.mem_range.mp hk
  match k, hk with
  | 0, _ => exact bw2 10 rfl rfl
  | 1, _ => exact bw2 12 rfl rfl
  | 2, _ => exact bw2 14 rfl rfl
  | 3, _ => exact bw2 16 rfl rfl
  | 4, _ => exact bw2 18 rfl rfl
  | 5, _ => exact bw2 20 rfl rfl
  | 6, _ => exact bw2 22 rfl rfl
  | 7, _ => exact bw2 24 rfl rfl
  | 8, _ => exact bw2 26 rfl rfl
  | 9, _ => exact bw2 28 rfl rfl
  | 10, _ => exact bw2 30 rfl rfl
  | 11, _ => exact bw2 32 rfl rfl
  | 12, _ => exact bw2 34 rfl rfl
  | k + 13, hk => exact absurd hk (by omega)
theorem cl_RX2_58 : Cond.constantLong RX2 58 (-1 : Int64) ∈ BW := bw2 188 rfl rfl
theorem cl_RX3_57 : Cond.constantLong RX3 57 (-1 : Int64) ∈ BW := bw2 216 rfl rfl
theorem cl_RX4_85 : Cond.constantLong RX4 85 (-7046029254386353131 : Int64) ∈ BW := bw2 129 rfl rfl
theorem cl_RX6_15 : Cond.constantLong RX6 15 (-1 : Int64) ∈ BW := bw1 83 rfl rfl
theorem cl_RX8_266 : Cond.constantLong RX8 266 (63 : Int64) ∈ BW := bw2 56 rfl rfl
theorem cl_RX8_68 : Cond.constantLong RX8 68 (-1 : Int64) ∈ BW := bw1 237 rfl rfl
theorem fg_RX0_15 : FG RX0 15 0 0 := ⟨RX0, TX0, 3, rfl, by decide, bw1 167 rfl rfl, lay_RX0⟩
theorem fg_RX0_19 : FG RX0 19 0 1 := ⟨RX0, TX0, 3, rfl, by decide, bw1 168 rfl rfl, lay_RX0⟩
theorem fg_RX0_27 : FG RX0 27 1 6 := ⟨RX1, TX1, 13, rfl, by decide, bw1 35 rfl rfl, lay_RX1⟩
theorem fg_RX0_38 : FG RX0 38 6 9 := ⟨RX6, TX6, 10, rfl, by decide, bw1 102 rfl rfl, lay_RX6⟩
theorem fg_RX0_41 : FG RX0 41 6 6 := ⟨RX6, TX6, 10, rfl, by decide, bw1 92 rfl rfl, lay_RX6⟩
theorem fg_RX0_9 : FG RX0 9 0 2 := ⟨RX0, TX0, 3, rfl, by decide, bw1 169 rfl rfl, lay_RX0⟩
theorem fg_RX1_15 : FG RX1 15 1 1 := ⟨RX1, TX1, 13, rfl, by decide, bw1 27 rfl rfl, lay_RX1⟩
theorem fg_RX1_18 : FG RX1 18 1 2 := ⟨RX1, TX1, 13, rfl, by decide, bw1 28 rfl rfl, lay_RX1⟩
theorem fg_RX1_21 : FG RX1 21 1 3 := ⟨RX1, TX1, 13, rfl, by decide, bw1 29 rfl rfl, lay_RX1⟩
theorem fg_RX1_24 : FG RX1 24 1 4 := ⟨RX1, TX1, 13, rfl, by decide, bw1 30 rfl rfl, lay_RX1⟩
theorem fg_RX1_28 : FG RX1 28 1 5 := ⟨RX1, TX1, 13, rfl, by decide, bw1 31 rfl rfl, lay_RX1⟩
theorem fg_RX1_31 : FG RX1 31 1 6 := ⟨RX1, TX1, 13, rfl, by decide, bw1 33 rfl rfl, lay_RX1⟩
theorem fg_RX1_44 : FG RX1 44 1 7 := ⟨RX1, TX1, 13, rfl, by decide, bw1 39 rfl rfl, lay_RX1⟩
theorem fg_RX1_47 : FG RX1 47 1 8 := ⟨RX1, TX1, 13, rfl, by decide, bw1 40 rfl rfl, lay_RX1⟩
theorem fg_RX1_51 : FG RX1 51 1 9 := ⟨RX1, TX1, 13, rfl, by decide, bw1 42 rfl rfl, lay_RX1⟩
theorem fg_RX1_54 : FG RX1 54 1 10 := ⟨RX1, TX1, 13, rfl, by decide, bw1 44 rfl rfl, lay_RX1⟩
theorem fg_RX1_57 : FG RX1 57 1 11 := ⟨RX1, TX1, 13, rfl, by decide, bw1 46 rfl rfl, lay_RX1⟩
theorem fg_RX1_60 : FG RX1 60 1 12 := ⟨RX1, TX1, 13, rfl, by decide, bw1 48 rfl rfl, lay_RX1⟩
theorem fg_RX1_9 : FG RX1 9 1 0 := ⟨RX1, TX1, 13, rfl, by decide, bw1 26 rfl rfl, lay_RX1⟩
theorem fg_RX2_11 : FG RX2 11 2 2 := ⟨RX2, TX2, 6, rfl, by decide, bw1 186 rfl rfl, lay_RX2⟩
theorem fg_RX2_15 : FG RX2 15 2 3 := ⟨RX2, TX2, 6, rfl, by decide, bw1 187 rfl rfl, lay_RX2⟩
theorem fg_RX2_18 : FG RX2 18 2 0 := ⟨RX2, TX2, 6, rfl, by decide, bw1 184 rfl rfl, lay_RX2⟩
theorem fg_RX2_22 : FG RX2 22 2 1 := ⟨RX2, TX2, 6, rfl, by decide, bw1 185 rfl rfl, lay_RX2⟩
theorem fg_RX2_26 : FG RX2 26 2 4 := ⟨RX2, TX2, 6, rfl, by decide, bw1 188 rfl rfl, lay_RX2⟩
theorem fg_RX2_30 : FG RX2 30 2 5 := ⟨RX2, TX2, 6, rfl, by decide, bw1 189 rfl rfl, lay_RX2⟩
theorem fg_RX2_44 : FG RX2 44 1 6 := ⟨RX1, TX1, 13, rfl, by decide, bw1 37 rfl rfl, lay_RX1⟩
theorem fg_RX2_55 : FG RX2 55 6 7 := ⟨RX6, TX6, 10, rfl, by decide, bw1 98 rfl rfl, lay_RX6⟩
theorem fg_RX2_63 : FG RX2 63 6 6 := ⟨RX6, TX6, 10, rfl, by decide, bw1 95 rfl rfl, lay_RX6⟩
theorem fg_RX3_15 : FG RX3 15 3 1 := ⟨RX3, TX3, 3, rfl, by decide, bw1 210 rfl rfl, lay_RX3⟩
theorem fg_RX3_51 : FG RX3 51 1 12 := ⟨RX1, TX1, 13, rfl, by decide, bw1 47 rfl rfl, lay_RX1⟩
theorem fg_RX3_54 : FG RX3 54 1 6 := ⟨RX1, TX1, 13, rfl, by decide, bw1 34 rfl rfl, lay_RX1⟩
theorem fg_RX3_63 : FG RX3 63 6 8 := ⟨RX6, TX6, 10, rfl, by decide, bw1 100 rfl rfl, lay_RX6⟩
theorem fg_RX3_66 : FG RX3 66 6 9 := ⟨RX6, TX6, 10, rfl, by decide, bw1 103 rfl rfl, lay_RX6⟩
theorem fg_RX3_69 : FG RX3 69 6 6 := ⟨RX6, TX6, 10, rfl, by decide, bw1 93 rfl rfl, lay_RX6⟩
theorem fg_RX3_9 : FG RX3 9 3 0 := ⟨RX3, TX3, 3, rfl, by decide, bw1 209 rfl rfl, lay_RX3⟩
theorem fg_RX4_11 : FG RX4 11 4 2 := ⟨RX4, TX4, 9, rfl, by decide, bw1 134 rfl rfl, lay_RX4⟩
theorem fg_RX4_15 : FG RX4 15 4 3 := ⟨RX4, TX4, 9, rfl, by decide, bw1 135 rfl rfl, lay_RX4⟩
theorem fg_RX4_19 : FG RX4 19 4 4 := ⟨RX4, TX4, 9, rfl, by decide, bw1 136 rfl rfl, lay_RX4⟩
theorem fg_RX4_22 : FG RX4 22 4 5 := ⟨RX4, TX4, 9, rfl, by decide, bw1 137 rfl rfl, lay_RX4⟩
theorem fg_RX4_25 : FG RX4 25 4 6 := ⟨RX4, TX4, 9, rfl, by decide, bw1 138 rfl rfl, lay_RX4⟩
theorem fg_RX4_28 : FG RX4 28 4 0 := ⟨RX4, TX4, 9, rfl, by decide, bw1 132 rfl rfl, lay_RX4⟩
theorem fg_RX4_32 : FG RX4 32 4 1 := ⟨RX4, TX4, 9, rfl, by decide, bw1 133 rfl rfl, lay_RX4⟩
theorem fg_RX4_42 : FG RX4 42 4 7 := ⟨RX4, TX4, 9, rfl, by decide, bw1 139 rfl rfl, lay_RX4⟩
theorem fg_RX4_46 : FG RX4 46 4 8 := ⟨RX4, TX4, 9, rfl, by decide, bw1 140 rfl rfl, lay_RX4⟩
theorem fg_RX4_57 : FG RX4 57 1 6 := ⟨RX1, TX1, 13, rfl, by decide, bw1 38 rfl rfl, lay_RX1⟩
theorem fg_RX4_67 : FG RX4 67 6 9 := ⟨RX6, TX6, 10, rfl, by decide, bw1 104 rfl rfl, lay_RX6⟩
theorem fg_RX4_77 : FG RX4 77 6 6 := ⟨RX6, TX6, 10, rfl, by decide, bw1 94 rfl rfl, lay_RX6⟩
theorem fg_RX5_11 : FG RX5 11 5 0 := ⟨RX5, TX5, 3, rfl, by decide, bw1 227 rfl rfl, lay_RX5⟩
theorem fg_RX5_15 : FG RX5 15 5 1 := ⟨RX5, TX5, 3, rfl, by decide, bw1 228 rfl rfl, lay_RX5⟩
theorem fg_RX5_19 : FG RX5 19 5 2 := ⟨RX5, TX5, 3, rfl, by decide, bw1 229 rfl rfl, lay_RX5⟩
theorem fg_RX6_17 : FG RX6 17 6 2 := ⟨RX6, TX6, 10, rfl, by decide, bw1 86 rfl rfl, lay_RX6⟩
theorem fg_RX6_21 : FG RX6 21 6 0 := ⟨RX6, TX6, 10, rfl, by decide, bw1 84 rfl rfl, lay_RX6⟩
theorem fg_RX6_29 : FG RX6 29 6 6 := ⟨RX6, TX6, 10, rfl, by decide, bw1 91 rfl rfl, lay_RX6⟩
theorem fg_RX6_32 : FG RX6 32 6 7 := ⟨RX6, TX6, 10, rfl, by decide, bw1 97 rfl rfl, lay_RX6⟩
theorem fg_RX6_39 : FG RX6 39 6 9 := ⟨RX6, TX6, 10, rfl, by decide, bw1 101 rfl rfl, lay_RX6⟩
theorem fg_RX6_52 : FG RX6 52 6 3 := ⟨RX6, TX6, 10, rfl, by decide, bw1 87 rfl rfl, lay_RX6⟩
theorem fg_RX6_55 : FG RX6 55 1 6 := ⟨RX1, TX1, 13, rfl, by decide, bw1 36 rfl rfl, lay_RX1⟩
theorem fg_RX6_66 : FG RX6 66 6 4 := ⟨RX6, TX6, 10, rfl, by decide, bw1 88 rfl rfl, lay_RX6⟩
theorem fg_RX6_72 : FG RX6 72 1 9 := ⟨RX1, TX1, 13, rfl, by decide, bw1 41 rfl rfl, lay_RX1⟩
theorem fg_RX6_75 : FG RX6 75 6 5 := ⟨RX6, TX6, 10, rfl, by decide, bw1 90 rfl rfl, lay_RX6⟩
theorem fg_RX6_78 : FG RX6 78 1 10 := ⟨RX1, TX1, 13, rfl, by decide, bw1 43 rfl rfl, lay_RX1⟩
theorem fg_RX6_81 : FG RX6 81 1 11 := ⟨RX1, TX1, 13, rfl, by decide, bw1 45 rfl rfl, lay_RX1⟩
theorem fg_RX6_9 : FG RX6 9 6 1 := ⟨RX6, TX6, 10, rfl, by decide, bw1 85 rfl rfl, lay_RX6⟩
theorem fg_RX8_106 : FG RX8 106 1 6 := ⟨RX1, TX1, 13, rfl, by decide, bw1 32 rfl rfl, lay_RX1⟩
theorem fg_RX8_119 : FG RX8 119 7 9 := ⟨RX8, TX8, 13, rfl, by decide, bw2 7 rfl rfl, lay_RX8⟩
theorem fg_RX8_123 : FG RX8 123 7 10 := ⟨RX8, TX8, 13, rfl, by decide, bw2 8 rfl rfl, lay_RX8⟩
theorem fg_RX8_14 : FG RX8 14 7 0 := ⟨RX8, TX8, 13, rfl, by decide, bw1 238 rfl rfl, lay_RX8⟩
theorem fg_RX8_157 : FG RX8 157 6 6 := ⟨RX6, TX6, 10, rfl, by decide, bw1 96 rfl rfl, lay_RX6⟩
theorem fg_RX8_181 : FG RX8 181 0 2 := ⟨RX0, TX0, 3, rfl, by decide, bw1 170 rfl rfl, lay_RX0⟩
theorem fg_RX8_193 : FG RX8 193 3 2 := ⟨RX3, TX3, 3, rfl, by decide, bw1 212 rfl rfl, lay_RX3⟩
theorem fg_RX8_23 : FG RX8 23 7 1 := ⟨RX8, TX8, 13, rfl, by decide, bw1 239 rfl rfl, lay_RX8⟩
theorem fg_RX8_32 : FG RX8 32 7 2 := ⟨RX8, TX8, 13, rfl, by decide, bw2 0 rfl rfl, lay_RX8⟩
theorem fg_RX8_39 : FG RX8 39 7 3 := ⟨RX8, TX8, 13, rfl, by decide, bw2 1 rfl rfl, lay_RX8⟩
theorem fg_RX8_46 : FG RX8 46 7 4 := ⟨RX8, TX8, 13, rfl, by decide, bw2 2 rfl rfl, lay_RX8⟩
theorem fg_RX8_53 : FG RX8 53 7 5 := ⟨RX8, TX8, 13, rfl, by decide, bw2 3 rfl rfl, lay_RX8⟩
theorem fg_RX8_60 : FG RX8 60 7 6 := ⟨RX8, TX8, 13, rfl, by decide, bw2 4 rfl rfl, lay_RX8⟩
theorem fg_RX8_64 : FG RX8 64 7 7 := ⟨RX8, TX8, 13, rfl, by decide, bw2 5 rfl rfl, lay_RX8⟩
theorem fg_RX8_70 : FG RX8 70 7 8 := ⟨RX8, TX8, 13, rfl, by decide, bw2 6 rfl rfl, lay_RX8⟩
theorem fp_RX0_9 : FP RX0 9 0 2 .int := ⟨RX0, TX0, 3, tyX0, rfl, by decide, bw1 169 rfl rfl, lay_RX0, tyX0_ok, nmX0, rfl, by decide +kernel⟩
theorem fp_RX1_24 : FP RX1 24 1 4 .int := ⟨RX1, TX1, 13, tyX1, rfl, by decide, bw1 30 rfl rfl, lay_RX1, tyX1_ok, nmX1, rfl, by decide +kernel⟩
theorem fp_RX1_28 : FP RX1 28 1 5 .int := ⟨RX1, TX1, 13, tyX1, rfl, by decide, bw1 31 rfl rfl, lay_RX1, tyX1_ok, nmX1, rfl, by decide +kernel⟩
theorem fp_RX1_31 : FP RX1 31 1 6 .int := ⟨RX1, TX1, 13, tyX1, rfl, by decide, bw1 33 rfl rfl, lay_RX1, tyX1_ok, nmX1, rfl, by decide +kernel⟩
theorem fp_RX1_44 : FP RX1 44 1 7 .int := ⟨RX1, TX1, 13, tyX1, rfl, by decide, bw1 39 rfl rfl, lay_RX1, tyX1_ok, nmX1, rfl, by decide +kernel⟩
theorem fp_RX1_47 : FP RX1 47 1 8 .long := ⟨RX1, TX1, 13, tyX1, rfl, by decide, bw1 40 rfl rfl, lay_RX1, tyX1_ok, nmX1, rfl, by decide +kernel⟩
theorem fp_RX1_51 : FP RX1 51 1 9 .long := ⟨RX1, TX1, 13, tyX1, rfl, by decide, bw1 42 rfl rfl, lay_RX1, tyX1_ok, nmX1, rfl, by decide +kernel⟩
theorem fp_RX1_54 : FP RX1 54 1 10 .long := ⟨RX1, TX1, 13, tyX1, rfl, by decide, bw1 44 rfl rfl, lay_RX1, tyX1_ok, nmX1, rfl, by decide +kernel⟩
theorem fp_RX1_57 : FP RX1 57 1 11 .long := ⟨RX1, TX1, 13, tyX1, rfl, by decide, bw1 46 rfl rfl, lay_RX1, tyX1_ok, nmX1, rfl, by decide +kernel⟩
theorem fp_RX1_60 : FP RX1 60 1 12 .long := ⟨RX1, TX1, 13, tyX1, rfl, by decide, bw1 48 rfl rfl, lay_RX1, tyX1_ok, nmX1, rfl, by decide +kernel⟩
theorem fp_RX2_26 : FP RX2 26 2 4 .long := ⟨RX2, TX2, 6, tyX2, rfl, by decide, bw1 188 rfl rfl, lay_RX2, tyX2_ok, nmX2, rfl, by decide +kernel⟩
theorem fp_RX2_30 : FP RX2 30 2 5 .int := ⟨RX2, TX2, 6, tyX2, rfl, by decide, bw1 189 rfl rfl, lay_RX2, tyX2_ok, nmX2, rfl, by decide +kernel⟩
theorem fp_RX3_37 : FP RX3 37 6 5 .long := ⟨RX6, TX6, 10, tyX6, rfl, by decide, bw1 89 rfl rfl, lay_RX6, tyX6_ok, nmX6, rfl, by decide +kernel⟩
theorem fp_RX3_47 : FP RX3 47 3 2 .int := ⟨RX3, TX3, 3, tyX3, rfl, by decide, bw1 211 rfl rfl, lay_RX3, tyX3_ok, nmX3, rfl, by decide +kernel⟩
theorem fp_RX4_42 : FP RX4 42 4 7 .int := ⟨RX4, TX4, 9, tyX4, rfl, by decide, bw1 139 rfl rfl, lay_RX4, tyX4_ok, nmX4, rfl, by decide +kernel⟩
theorem fp_RX4_46 : FP RX4 46 4 8 .int := ⟨RX4, TX4, 9, tyX4, rfl, by decide, bw1 140 rfl rfl, lay_RX4, tyX4_ok, nmX4, rfl, by decide +kernel⟩
theorem fp_RX5_15 : FP RX5 15 5 1 .int := ⟨RX5, TX5, 3, tyX5, rfl, by decide, bw1 228 rfl rfl, lay_RX5, tyX5_ok, nmX5, rfl, by decide +kernel⟩
theorem fp_RX5_19 : FP RX5 19 5 2 .int := ⟨RX5, TX5, 3, tyX5, rfl, by decide, bw1 229 rfl rfl, lay_RX5, tyX5_ok, nmX5, rfl, by decide +kernel⟩
theorem fp_RX6_17 : FP RX6 17 6 2 .long := ⟨RX6, TX6, 10, tyX6, rfl, by decide, bw1 86 rfl rfl, lay_RX6, tyX6_ok, nmX6, rfl, by decide +kernel⟩
theorem fp_RX6_29 : FP RX6 29 6 6 .long := ⟨RX6, TX6, 10, tyX6, rfl, by decide, bw1 91 rfl rfl, lay_RX6, tyX6_ok, nmX6, rfl, by decide +kernel⟩
theorem fp_RX6_32 : FP RX6 32 6 7 .long := ⟨RX6, TX6, 10, tyX6, rfl, by decide, bw1 97 rfl rfl, lay_RX6, tyX6_ok, nmX6, rfl, by decide +kernel⟩
theorem fp_RX6_35 : FP RX6 35 6 8 .int := ⟨RX6, TX6, 10, tyX6, rfl, by decide, bw1 99 rfl rfl, lay_RX6, tyX6_ok, nmX6, rfl, by decide +kernel⟩
theorem fp_RX6_39 : FP RX6 39 6 9 .int := ⟨RX6, TX6, 10, tyX6, rfl, by decide, bw1 101 rfl rfl, lay_RX6, tyX6_ok, nmX6, rfl, by decide +kernel⟩
theorem fp_RX6_52 : FP RX6 52 6 3 .long := ⟨RX6, TX6, 10, tyX6, rfl, by decide, bw1 87 rfl rfl, lay_RX6, tyX6_ok, nmX6, rfl, by decide +kernel⟩
theorem fp_RX6_66 : FP RX6 66 6 4 .long := ⟨RX6, TX6, 10, tyX6, rfl, by decide, bw1 88 rfl rfl, lay_RX6, tyX6_ok, nmX6, rfl, by decide +kernel⟩
theorem fp_RX8_119 : FP RX8 119 7 9 .long := ⟨RX8, TX8, 13, tyX8, rfl, by decide, bw2 7 rfl rfl, lay_RX8, tyX8_ok, nmX8, rfl, by decide +kernel⟩
theorem fp_RX8_123 : FP RX8 123 7 10 .int := ⟨RX8, TX8, 13, tyX8, rfl, by decide, bw2 8 rfl rfl, lay_RX8, tyX8_ok, nmX8, rfl, by decide +kernel⟩
theorem fp_RX8_73 : FP RX8 73 7 12 .int := ⟨RX8, TX8, 13, tyX8, rfl, by decide, bw2 9 rfl rfl, lay_RX8, tyX8_ok, nmX8, rfl, by decide +kernel⟩
theorem mm_RX2_34 : MM RX2 34 := ⟨bw2 180 rfl rfl, bw2 181 rfl rfl, bw1 11 rfl rfl, bw2 182 rfl rfl⟩
theorem wc_X8_pushNumber : Cond.code yX8_pushNumber cX8_pushNumber 2 (some .int) ∈ BW := bw2 137 rfl rfl
theorem wini_RX8 : Cond.initialized RX8 ∈ BW := bw1 1 rfl rfl
theorem wst_X8_pushNumber : Cond.static yX8_pushNumber ∈ BW := bw2 136 rfl rfl
theorem mn_RX0_48 : MN RX0 48 yX8_pushNumber "IceYard" cX8_pushNumber 2 (some .int) 2 := mn_of (List.mem_of_getElem? (i := 7) rfl) wst_X8_pushNumber wini_RX8 wc_X8_pushNumber ⟨by decide +kernel, by decide +kernel, by decide +kernel⟩ (by decide)
theorem wc_X8_has : Cond.code yX8_has cX8_has 3 (some .boolean) ∈ BW := bw2 80 rfl rfl
theorem wst_X8_has : Cond.static yX8_has ∈ BW := bw2 79 rfl rfl
theorem mn_RX1_90 : MN RX1 90 yX8_has "IceYard" cX8_has 3 (some .boolean) 2 := mn_of (List.mem_of_getElem? (i := 3) rfl) wst_X8_has wini_RX8 wc_X8_has ⟨by decide +kernel, by decide +kernel, by decide +kernel⟩ (by decide)
theorem wc_X8_withPlace : Cond.code yX8_withPlace cX8_withPlace 5 (some .long) ∈ BW := bw2 94 rfl rfl
theorem wst_X8_withPlace : Cond.static yX8_withPlace ∈ BW := bw2 93 rfl rfl
theorem mn_RX1_97 : MN RX1 97 yX8_withPlace "IceYard" cX8_withPlace 5 (some .long) 3 := mn_of (List.mem_of_getElem? (i := 11) rfl) wst_X8_withPlace wini_RX8 wc_X8_withPlace ⟨by decide +kernel, by decide +kernel, by decide +kernel⟩ (by decide)
theorem mn_RX2_60 : MN RX2 60 yX8_pushNumber "IceYard" cX8_pushNumber 2 (some .int) 2 := mn_of (List.mem_of_getElem? (i := 8) rfl) wst_X8_pushNumber wini_RX8 wc_X8_pushNumber ⟨by decide +kernel, by decide +kernel, by decide +kernel⟩ (by decide)
theorem wc_X8_placeOf : Cond.code yX8_placeOf cX8_placeOf 3 (some .int) ∈ BW := bw2 55 rfl rfl
theorem wst_X8_placeOf : Cond.static yX8_placeOf ∈ BW := bw2 54 rfl rfl
theorem mn_RX3_19 : MN RX3 19 yX8_placeOf "IceYard" cX8_placeOf 3 (some .int) 2 := mn_of (List.mem_of_getElem? (i := 9) rfl) wst_X8_placeOf wini_RX8 wc_X8_placeOf ⟨by decide +kernel, by decide +kernel, by decide +kernel⟩ (by decide)
theorem mn_RX3_43 : MN RX3 43 yX8_has "IceYard" cX8_has 3 (some .boolean) 2 := mn_of (List.mem_of_getElem? (i := 10) rfl) wst_X8_has wini_RX8 wc_X8_has ⟨by decide +kernel, by decide +kernel, by decide +kernel⟩ (by decide)
theorem mn_RX4_70 : MN RX4 70 yX8_pushNumber "IceYard" cX8_pushNumber 2 (some .int) 2 := mn_of (List.mem_of_getElem? (i := 6) rfl) wst_X8_pushNumber wini_RX8 wc_X8_pushNumber ⟨by decide +kernel, by decide +kernel, by decide +kernel⟩ (by decide)
theorem mn_RX6_58 : MN RX6 58 yX8_placeOf "IceYard" cX8_placeOf 3 (some .int) 2 := mn_of (List.mem_of_getElem? (i := 2) rfl) wst_X8_placeOf wini_RX8 wc_X8_placeOf ⟨by decide +kernel, by decide +kernel, by decide +kernel⟩ (by decide)
theorem mn_RX6_87 : MN RX6 87 yX8_has "IceYard" cX8_has 3 (some .boolean) 2 := mn_of (List.mem_of_getElem? (i := 4) rfl) wst_X8_has wini_RX8 wc_X8_has ⟨by decide +kernel, by decide +kernel, by decide +kernel⟩ (by decide)
theorem mn_RX6_91 : MN RX6 91 yX8_withPlace "IceYard" cX8_withPlace 5 (some .long) 3 := mn_of (List.mem_of_getElem? (i := 5) rfl) wst_X8_withPlace wini_RX8 wc_X8_withPlace ⟨by decide +kernel, by decide +kernel, by decide +kernel⟩ (by decide)
theorem wc_X7_opensRow : Cond.code yX7_opensRow cX7_opensRow 2 (some .boolean) ∈ BW := bw3 56 rfl rfl
theorem wini_RX7 : Cond.initialized RX7 ∈ BW := bw1 10 rfl rfl
theorem wst_X7_opensRow : Cond.static yX7_opensRow ∈ BW := bw3 55 rfl rfl
theorem ms_RX1_65 : MS RX1 65 yX7_opensRow cX7_opensRow 2 (some .boolean) 2 := ms_of (bw3 72 rfl rfl) wst_X7_opensRow wini_RX7 wc_X7_opensRow ⟨by decide +kernel, by decide +kernel, by decide +kernel⟩ (by decide)
theorem wc_X7_kindOfSign : Cond.code yX7_kindOfSign cX7_kindOfSign 1 (some .int) ∈ BW := bw3 62 rfl rfl
theorem wst_X7_kindOfSign : Cond.static yX7_kindOfSign ∈ BW := bw3 61 rfl rfl
theorem ms_RX1_80 : MS RX1 80 yX7_kindOfSign cX7_kindOfSign 1 (some .int) 1 := ms_of (bw3 81 rfl rfl) wst_X7_kindOfSign wini_RX7 wc_X7_kindOfSign ⟨by decide +kernel, by decide +kernel, by decide +kernel⟩ (by decide)
theorem wc_J7_fill_53178 : Cond.code yJ7_fill_53178 cJ7_fill_53178 4 none ∈ BW := bw2 120 rfl rfl
theorem wini_RJ7 : Cond.initialized RJ7 ∈ BW := bw1 9 rfl rfl
theorem wst_J7_fill_53178 : Cond.static yJ7_fill_53178 ∈ BW := bw2 119 rfl rfl
theorem ms_RX4_36 : MS RX4 36 yJ7_fill_53178 cJ7_fill_53178 4 none 2 := ms_of (bw2 118 rfl rfl) wst_J7_fill_53178 wini_RJ7 wc_J7_fill_53178 ⟨by decide +kernel, by decide +kernel, by decide +kernel⟩ (by decide)
theorem ms_RX5_22 : MS RX5 22 yJ7_fill_53178 cJ7_fill_53178 4 none 2 := ms_of (bw2 238 rfl rfl) wst_J7_fill_53178 wini_RJ7 wc_J7_fill_53178 ⟨by decide +kernel, by decide +kernel, by decide +kernel⟩ (by decide)
theorem wc_X7_fits : Cond.code yX7_fits cX7_fits 4 (some .boolean) ∈ BW := bw3 53 rfl rfl
theorem wst_X7_fits : Cond.static yX7_fits ∈ BW := bw3 52 rfl rfl
theorem ms_RX7_15 : MS RX7 15 yX7_fits cX7_fits 4 (some .boolean) 4 := ms_of (bw3 51 rfl rfl) wst_X7_fits wini_RX7 wc_X7_fits ⟨by decide +kernel, by decide +kernel, by decide +kernel⟩ (by decide)
theorem ms_RX7_21 : MS RX7 21 yX7_kindOfSign cX7_kindOfSign 1 (some .int) 1 := ms_of (bw3 60 rfl rfl) wst_X7_kindOfSign wini_RX7 wc_X7_kindOfSign ⟨by decide +kernel, by decide +kernel, by decide +kernel⟩ (by decide)
theorem ms_RX7_24 : MS RX7 24 yX7_opensRow cX7_opensRow 2 (some .boolean) 2 := ms_of (bw3 54 rfl rfl) wst_X7_opensRow wini_RX7 wc_X7_opensRow ⟨by decide +kernel, by decide +kernel, by decide +kernel⟩ (by decide)
theorem wc_X7_isSign : Cond.code yX7_isSign cX7_isSign 1 (some .boolean) ∈ BW := bw3 59 rfl rfl
theorem wst_X7_isSign : Cond.static yX7_isSign ∈ BW := bw3 58 rfl rfl
theorem ms_RX7_28 : MS RX7 28 yX7_isSign cX7_isSign 1 (some .boolean) 1 := ms_of (bw3 57 rfl rfl) wst_X7_isSign wini_RX7 wc_X7_isSign ⟨by decide +kernel, by decide +kernel, by decide +kernel⟩ (by decide)
theorem wc_J7_fill_d0a16 : Cond.code yJ7_fill_d0a16 cJ7_fill_d0a16 5 none ∈ BW := bw3 109 rfl rfl
theorem wst_J7_fill_d0a16 : Cond.static yJ7_fill_d0a16 ∈ BW := bw3 108 rfl rfl
theorem ms_RX8_126 : MS RX8 126 yJ7_fill_d0a16 cJ7_fill_d0a16 5 none 2 := ms_of (bw3 107 rfl rfl) wst_J7_fill_d0a16 wini_RJ7 wc_J7_fill_d0a16 ⟨by decide +kernel, by decide +kernel, by decide +kernel⟩ (by decide)
theorem ms_RX8_136 : MS RX8 136 yX8_placeOf cX8_placeOf 3 (some .int) 2 := ms_of (bw2 53 rfl rfl) wst_X8_placeOf wini_RX8 wc_X8_placeOf ⟨by decide +kernel, by decide +kernel, by decide +kernel⟩ (by decide)
theorem wc_X8_whereIs : Cond.code yX8_whereIs cX8_whereIs 4 (some .int) ∈ BW := bw2 52 rfl rfl
theorem wst_X8_whereIs : Cond.static yX8_whereIs ∈ BW := bw2 51 rfl rfl
theorem ms_RX8_150 : MS RX8 150 yX8_whereIs cX8_whereIs 4 (some .int) 2 := ms_of (bw2 50 rfl rfl) wst_X8_whereIs wini_RX8 wc_X8_whereIs ⟨by decide +kernel, by decide +kernel, by decide +kernel⟩ (by decide)
theorem wc_X8_isGate : Cond.code yX8_isGate cX8_isGate 1 (some .boolean) ∈ BW := bw2 113 rfl rfl
theorem wst_X8_isGate : Cond.static yX8_isGate ∈ BW := bw2 112 rfl rfl
theorem ms_RX8_169 : MS RX8 169 yX8_isGate cX8_isGate 1 (some .boolean) 1 := ms_of (bw2 111 rfl rfl) wst_X8_isGate wini_RX8 wc_X8_isGate ⟨by decide +kernel, by decide +kernel, by decide +kernel⟩ (by decide)
theorem wc_X8_isLane : Cond.code yX8_isLane cX8_isLane 1 (some .boolean) ∈ BW := bw2 229 rfl rfl
theorem wst_X8_isLane : Cond.static yX8_isLane ∈ BW := bw2 228 rfl rfl
theorem ms_RX8_81 : MS RX8 81 yX8_isLane cX8_isLane 1 (some .boolean) 1 := ms_of (bw2 227 rfl rfl) wst_X8_isLane wini_RX8 wc_X8_isLane ⟨by decide +kernel, by decide +kernel, by decide +kernel⟩ (by decide)
theorem wc_X7_firstFault : Cond.code yX7_firstFault cX7_firstFault 9 (some .int) ∈ BW := bw3 46 rfl rfl
theorem wst_X7_firstFault : Cond.static yX7_firstFault ∈ BW := bw3 45 rfl rfl
theorem ms_RX8_96 : MS RX8 96 yX7_firstFault cX7_firstFault 9 (some .int) 3 := ms_of (bw3 44 rfl rfl) wst_X7_firstFault wini_RX7 wc_X7_firstFault ⟨by decide +kernel, by decide +kernel, by decide +kernel⟩ (by decide)
theorem wc_X0_winningPush : Cond.code yX0_winningPush cX0_winningPush 8 (some .int) ∈ BW := bw2 157 rfl rfl
theorem wini_RX0 : Cond.initialized RX0 ∈ BW := bw1 5 rfl rfl
theorem wi_X0_winningPush : Cond.instanceMethod yX0_winningPush ∈ BW := bw2 156 rfl rfl
theorem wv_X0_winningPush : Cond.selects RX0 yX0_winningPush yX0_winningPush ∈ BW := bwp 9 rfl
theorem mv_RX0_23 : MV RX0 23 RX0 yX0_winningPush cX0_winningPush 8 (some .int) 3 := mv_of (bw2 154 rfl rfl) wi_X0_winningPush wv_X0_winningPush wini_RX0 wc_X0_winningPush ⟨rfl, by decide +kernel, by decide +kernel, by decide +kernel⟩ (by decide)
theorem wc_X6_goes : Cond.code yX6_goes cX6_goes 7 (some .boolean) ∈ BW := bw2 68 rfl rfl
theorem wini_RX6 : Cond.initialized RX6 ∈ BW := bw1 3 rfl rfl
theorem wi_X6_goes : Cond.instanceMethod yX6_goes ∈ BW := bw2 66 rfl rfl
theorem wv_X6_goes : Cond.selects RX6 yX6_goes yX6_goes ∈ BW := bw2 67 rfl rfl
theorem mv_RX0_32 : MV RX0 32 RX6 yX6_goes cX6_goes 7 (some .boolean) 3 := mv_of (bw2 158 rfl rfl) wi_X6_goes wv_X6_goes wini_RX6 wc_X6_goes ⟨rfl, by decide +kernel, by decide +kernel, by decide +kernel⟩ (by decide)
theorem wc_X0_winsWhateverComes : Cond.code yX0_winsWhateverComes cX0_winsWhateverComes 9 (some .boolean) ∈ BW := bw2 162 rfl rfl
theorem wi_X0_winsWhateverComes : Cond.instanceMethod yX0_winsWhateverComes ∈ BW := bw2 161 rfl rfl
theorem wv_X0_winsWhateverComes : Cond.selects RX0 yX0_winsWhateverComes yX0_winsWhateverComes ∈ BW := bwp 10 rfl
theorem mv_RX0_45 : MV RX0 45 RX0 yX0_winsWhateverComes cX0_winsWhateverComes 9 (some .boolean) 3 := mv_of (bw2 159 rfl rfl) wi_X0_winsWhateverComes wv_X0_winsWhateverComes wini_RX0 wc_X0_winsWhateverComes ⟨rfl, by decide +kernel, by decide +kernel, by decide +kernel⟩ (by decide)
theorem wc_X1_hasBlock : Cond.code yX1_hasBlock cX1_hasBlock 2 (some .boolean) ∈ BW := bw2 44 rfl rfl
theorem wini_RX1 : Cond.initialized RX1 ∈ BW := bw1 2 rfl rfl
theorem wi_X1_hasBlock : Cond.instanceMethod yX1_hasBlock ∈ BW := bw2 42 rfl rfl
theorem wv_X1_hasBlock : Cond.selects RX1 yX1_hasBlock yX1_hasBlock ∈ BW := bw2 43 rfl rfl
theorem mv_RX1_34 : MV RX1 34 RX1 yX1_hasBlock cX1_hasBlock 2 (some .boolean) 1 := mv_of (bw2 49 rfl rfl) wi_X1_hasBlock wv_X1_hasBlock wini_RX1 wc_X1_hasBlock ⟨rfl, by decide +kernel, by decide +kernel, by decide +kernel⟩ (by decide)
theorem wc_X5_read : Cond.code yX5_read cX5_read 2 (some .int) ∈ BW := bw3 50 rfl rfl
theorem wini_RX5 : Cond.initialized RX5 ∈ BW := bw1 8 rfl rfl
theorem wi_X5_read : Cond.instanceMethod yX5_read ∈ BW := bw3 48 rfl rfl
theorem wv_X5_read : Cond.selects RX5 yX5_read yX5_read ∈ BW := bw3 49 rfl rfl
theorem mv_RX1_38 : MV RX1 38 RX5 yX5_read cX5_read 2 (some .int) 1 := mv_of (bw3 71 rfl rfl) wi_X5_read wv_X5_read wini_RX5 wc_X5_read ⟨rfl, by decide +kernel, by decide +kernel, by decide +kernel⟩ (by decide)
theorem wc_X1_layCell : Cond.code yX1_layCell cX1_layCell 5 none ∈ BW := bw3 76 rfl rfl
theorem wi_X1_layCell : Cond.instanceMethod yX1_layCell ∈ BW := bw3 75 rfl rfl
theorem wv_X1_layCell : Cond.selects RX1 yX1_layCell yX1_layCell ∈ BW := bwp 19 rfl
theorem mv_RX1_69 : MV RX1 69 RX1 yX1_layCell cX1_layCell 5 none 2 := mv_of (bw3 73 rfl rfl) wi_X1_layCell wv_X1_layCell wini_RX1 wc_X1_layCell ⟨rfl, by decide +kernel, by decide +kernel, by decide +kernel⟩ (by decide)
theorem wc_X1_layWays : Cond.code yX1_layWays cX1_layWays 4 none ∈ BW := bw3 89 rfl rfl
theorem wi_X1_layWays : Cond.instanceMethod yX1_layWays ∈ BW := bw3 88 rfl rfl
theorem wv_X1_layWays : Cond.selects RX1 yX1_layWays yX1_layWays ∈ BW := bwp 22 rfl
theorem mv_RX1_73 : MV RX1 73 RX1 yX1_layWays cX1_layWays 4 none 0 := mv_of (bw3 86 rfl rfl) wi_X1_layWays wv_X1_layWays wini_RX1 wc_X1_layWays ⟨rfl, by decide +kernel, by decide +kernel, by decide +kernel⟩ (by decide)
theorem wc_X1_layCrack : Cond.code yX1_layCrack cX1_layCrack 2 none ∈ BW := bw3 80 rfl rfl
theorem wi_X1_layCrack : Cond.instanceMethod yX1_layCrack ∈ BW := bw3 79 rfl rfl
theorem wv_X1_layCrack : Cond.selects RX1 yX1_layCrack yX1_layCrack ∈ BW := bwp 20 rfl
theorem mv_RX1_76 : MV RX1 76 RX1 yX1_layCrack cX1_layCrack 2 none 1 := mv_of (bw3 77 rfl rfl) wi_X1_layCrack wv_X1_layCrack wini_RX1 wc_X1_layCrack ⟨rfl, by decide +kernel, by decide +kernel, by decide +kernel⟩ (by decide)
theorem wc_X1_layBlock : Cond.code yX1_layBlock cX1_layBlock 3 none ∈ BW := bw3 85 rfl rfl
theorem wi_X1_layBlock : Cond.instanceMethod yX1_layBlock ∈ BW := bw3 84 rfl rfl
theorem wv_X1_layBlock : Cond.selects RX1 yX1_layBlock yX1_layBlock ∈ BW := bwp 21 rfl
theorem mv_RX1_83 : MV RX1 83 RX1 yX1_layBlock cX1_layBlock 3 none 2 := mv_of (bw3 82 rfl rfl) wi_X1_layBlock wv_X1_layBlock wini_RX1 wc_X1_layBlock ⟨rfl, by decide +kernel, by decide +kernel, by decide +kernel⟩ (by decide)
theorem wc_X1_layWay : Cond.code yX1_layWay cX1_layWay 6 none ∈ BW := bw3 93 rfl rfl
theorem wi_X1_layWay : Cond.instanceMethod yX1_layWay ∈ BW := bw3 92 rfl rfl
theorem wv_X1_layWay : Cond.selects RX1 yX1_layWay yX1_layWay ∈ BW := bwp 23 rfl
theorem mv_RX1_86 : MV RX1 86 RX1 yX1_layWay cX1_layWay 6 none 4 := mv_of (bw3 90 rfl rfl) wi_X1_layWay wv_X1_layWay wini_RX1 wc_X1_layWay ⟨rfl, by decide +kernel, by decide +kernel, by decide +kernel⟩ (by decide)
theorem wc_X1_startOf : Cond.code yX1_startOf cX1_startOf 2 (some .int) ∈ BW := bw3 105 rfl rfl
theorem wi_X1_startOf : Cond.instanceMethod yX1_startOf ∈ BW := bw3 103 rfl rfl
theorem wv_X1_startOf : Cond.selects RX1 yX1_startOf yX1_startOf ∈ BW := bw3 104 rfl rfl
theorem mv_RX1_94 : MV RX1 94 RX1 yX1_startOf cX1_startOf 2 (some .int) 1 := mv_of (bw3 102 rfl rfl) wi_X1_startOf wv_X1_startOf wini_RX1 wc_X1_startOf ⟨rfl, by decide +kernel, by decide +kernel, by decide +kernel⟩ (by decide)
theorem wc_X2_walk : Cond.code yX2_walk cX2_walk 11 none ∈ BW := bw2 186 rfl rfl
theorem wini_RX2 : Cond.initialized RX2 ∈ BW := bw1 6 rfl rfl
theorem wi_X2_walk : Cond.instanceMethod yX2_walk ∈ BW := bw2 185 rfl rfl
theorem wv_X2_walk : Cond.selects RX2 yX2_walk yX2_walk ∈ BW := bwp 11 rfl
theorem mv_RX2_40 : MV RX2 40 RX2 yX2_walk cX2_walk 11 none 4 := mv_of (bw2 183 rfl rfl) wi_X2_walk wv_X2_walk wini_RX2 wc_X2_walk ⟨rfl, by decide +kernel, by decide +kernel, by decide +kernel⟩ (by decide)
theorem mv_RX2_49 : MV RX2 49 RX6 yX6_goes cX6_goes 7 (some .boolean) 3 := mv_of (bw2 187 rfl rfl) wi_X6_goes wv_X6_goes wini_RX6 wc_X6_goes ⟨rfl, by decide +kernel, by decide +kernel, by decide +kernel⟩ (by decide)
theorem wc_X2_countRow : Cond.code yX2_countRow cX2_countRow 3 none ∈ BW := bw2 193 rfl rfl
theorem wi_X2_countRow : Cond.instanceMethod yX2_countRow ∈ BW := bw2 192 rfl rfl
theorem wv_X2_countRow : Cond.selects RX2 yX2_countRow yX2_countRow ∈ BW := bwp 12 rfl
theorem mv_RX2_66 : MV RX2 66 RX2 yX2_countRow cX2_countRow 3 none 1 := mv_of (bw2 190 rfl rfl) wi_X2_countRow wv_X2_countRow wini_RX2 wc_X2_countRow ⟨rfl, by decide +kernel, by decide +kernel, by decide +kernel⟩ (by decide)
theorem wc_X3_bringsHome : Cond.code yX3_bringsHome cX3_bringsHome 8 (some .boolean) ∈ BW := bw2 210 rfl rfl
theorem wini_RX3 : Cond.initialized RX3 ∈ BW := bw1 7 rfl rfl
theorem wi_X3_bringsHome : Cond.instanceMethod yX3_bringsHome ∈ BW := bw2 209 rfl rfl
theorem wv_X3_bringsHome : Cond.selects RX3 yX3_bringsHome yX3_bringsHome ∈ BW := bwp 13 rfl
theorem mv_RX3_23 : MV RX3 23 RX3 yX3_bringsHome cX3_bringsHome 8 (some .boolean) 4 := mv_of (bw2 207 rfl rfl) wi_X3_bringsHome wv_X3_bringsHome wini_RX3 wc_X3_bringsHome ⟨rfl, by decide +kernel, by decide +kernel, by decide +kernel⟩ (by decide)
theorem wc_X3_freeIce : Cond.code yX3_freeIce cX3_freeIce 7 (some .long) ∈ BW := bw2 215 rfl rfl
theorem wi_X3_freeIce : Cond.instanceMethod yX3_freeIce ∈ BW := bw2 214 rfl rfl
theorem wv_X3_freeIce : Cond.selects RX3 yX3_freeIce yX3_freeIce ∈ BW := bwp 14 rfl
theorem mv_RX3_27 : MV RX3 27 RX3 yX3_freeIce cX3_freeIce 7 (some .long) 1 := mv_of (bw2 212 rfl rfl) wi_X3_freeIce wv_X3_freeIce wini_RX3 wc_X3_freeIce ⟨rfl, by decide +kernel, by decide +kernel, by decide +kernel⟩ (by decide)
theorem wc_X1_cells : Cond.code yX1_cells cX1_cells 1 (some .int) ∈ BW := bw2 175 rfl rfl
theorem wi_X1_cells : Cond.instanceMethod yX1_cells ∈ BW := bw2 173 rfl rfl
theorem wv_X1_cells : Cond.selects RX1 yX1_cells yX1_cells ∈ BW := bw2 174 rfl rfl
theorem mv_RX3_31 : MV RX3 31 RX1 yX1_cells cX1_cells 1 (some .int) 0 := mv_of (bw2 217 rfl rfl) wi_X1_cells wv_X1_cells wini_RX1 wc_X1_cells ⟨rfl, by decide +kernel, by decide +kernel, by decide +kernel⟩ (by decide)
theorem mv_RX3_59 : MV RX3 59 RX6 yX6_goes cX6_goes 7 (some .boolean) 3 := mv_of (bw2 211 rfl rfl) wi_X6_goes wv_X6_goes wini_RX6 wc_X6_goes ⟨rfl, by decide +kernel, by decide +kernel, by decide +kernel⟩ (by decide)
theorem wc_X4_note : Cond.code yX4_note cX4_note 6 (some .boolean) ∈ BW := bw2 124 rfl rfl
theorem wini_RX4 : Cond.initialized RX4 ∈ BW := bw1 4 rfl rfl
theorem wi_X4_note : Cond.instanceMethod yX4_note ∈ BW := bw2 123 rfl rfl
theorem wv_X4_note : Cond.selects RX4 yX4_note yX4_note ∈ BW := bwp 5 rfl
theorem mv_RX4_49 : MV RX4 49 RX4 yX4_note cX4_note 6 (some .boolean) 3 := mv_of (bw2 121 rfl rfl) wi_X4_note wv_X4_note wini_RX4 wc_X4_note ⟨rfl, by decide +kernel, by decide +kernel, by decide +kernel⟩ (by decide)
theorem wc_X4_goOnFrom : Cond.code yX4_goOnFrom cX4_goOnFrom 7 (some .int) ∈ BW := bw2 133 rfl rfl
theorem wi_X4_goOnFrom : Cond.instanceMethod yX4_goOnFrom ∈ BW := bw2 132 rfl rfl
theorem wv_X4_goOnFrom : Cond.selects RX4 yX4_goOnFrom yX4_goOnFrom ∈ BW := bwp 7 rfl
theorem mv_RX4_53 : MV RX4 53 RX4 yX4_goOnFrom cX4_goOnFrom 7 (some .int) 2 := mv_of (bw2 130 rfl rfl) wi_X4_goOnFrom wv_X4_goOnFrom wini_RX4 wc_X4_goOnFrom ⟨rfl, by decide +kernel, by decide +kernel, by decide +kernel⟩ (by decide)
theorem mv_RX4_62 : MV RX4 62 RX6 yX6_goes cX6_goes 7 (some .boolean) 3 := mv_of (bw2 134 rfl rfl) wi_X6_goes wv_X6_goes wini_RX6 wc_X6_goes ⟨rfl, by decide +kernel, by decide +kernel, by decide +kernel⟩ (by decide)
theorem wc_X4_writeRow : Cond.code yX4_writeRow cX4_writeRow 7 none ∈ BW := bw2 141 rfl rfl
theorem wi_X4_writeRow : Cond.instanceMethod yX4_writeRow ∈ BW := bw2 140 rfl rfl
theorem wv_X4_writeRow : Cond.selects RX4 yX4_writeRow yX4_writeRow ∈ BW := bwp 8 rfl
theorem mv_RX4_73 : MV RX4 73 RX4 yX4_writeRow cX4_writeRow 7 none 2 := mv_of (bw2 138 rfl rfl) wi_X4_writeRow wv_X4_writeRow wini_RX4 wc_X4_writeRow ⟨rfl, by decide +kernel, by decide +kernel, by decide +kernel⟩ (by decide)
theorem wc_X4_slotOf : Cond.code yX4_slotOf cX4_slotOf 7 (some .int) ∈ BW := bw2 128 rfl rfl
theorem wi_X4_slotOf : Cond.instanceMethod yX4_slotOf ∈ BW := bw2 127 rfl rfl
theorem wv_X4_slotOf : Cond.selects RX4 yX4_slotOf yX4_slotOf ∈ BW := bwp 6 rfl
theorem mv_RX4_81 : MV RX4 81 RX4 yX4_slotOf cX4_slotOf 7 (some .int) 1 := mv_of (bw2 125 rfl rfl) wi_X4_slotOf wv_X4_slotOf wini_RX4 wc_X4_slotOf ⟨rfl, by decide +kernel, by decide +kernel, by decide +kernel⟩ (by decide)
theorem wc_X5_hasNothing : Cond.code yX5_hasNothing cX5_hasNothing 1 (some .boolean) ∈ BW := bw3 17 rfl rfl
theorem wi_X5_hasNothing : Cond.instanceMethod yX5_hasNothing ∈ BW := bw3 15 rfl rfl
theorem wv_X5_hasNothing : Cond.selects RX5 yX5_hasNothing yX5_hasNothing ∈ BW := bw3 16 rfl rfl
theorem mv_RX5_28 : MV RX5 28 RX5 yX5_hasNothing cX5_hasNothing 1 (some .boolean) 0 := mv_of (bw3 39 rfl rfl) wi_X5_hasNothing wv_X5_hasNothing wini_RX5 wc_X5_hasNothing ⟨rfl, by decide +kernel, by decide +kernel, by decide +kernel⟩ (by decide)
theorem wc_X5_hasCell : Cond.code yX5_hasCell cX5_hasCell 2 (some .boolean) ∈ BW := bw3 21 rfl rfl
theorem wi_X5_hasCell : Cond.instanceMethod yX5_hasCell ∈ BW := bw3 19 rfl rfl
theorem wv_X5_hasCell : Cond.selects RX5 yX5_hasCell yX5_hasCell ∈ BW := bw3 20 rfl rfl
theorem mv_RX5_32 : MV RX5 32 RX5 yX5_hasCell cX5_hasCell 2 (some .boolean) 1 := mv_of (bw3 26 rfl rfl) wi_X5_hasCell wv_X5_hasCell wini_RX5 wc_X5_hasCell ⟨rfl, by decide +kernel, by decide +kernel, by decide +kernel⟩ (by decide)
theorem wc_X5_cut : Cond.code yX5_cut cX5_cut 2 (some .int) ∈ BW := bw3 30 rfl rfl
theorem wi_X5_cut : Cond.instanceMethod yX5_cut ∈ BW := bw3 29 rfl rfl
theorem wv_X5_cut : Cond.selects RX5 yX5_cut yX5_cut ∈ BW := bwp 17 rfl
theorem mv_RX5_36 : MV RX5 36 RX5 yX5_cut cX5_cut 2 (some .int) 1 := mv_of (bw3 27 rfl rfl) wi_X5_cut wv_X5_cut wini_RX5 wc_X5_cut ⟨rfl, by decide +kernel, by decide +kernel, by decide +kernel⟩ (by decide)
theorem wc_X1_fillCrack : Cond.code yX1_fillCrack cX1_fillCrack 5 (some .long) ∈ BW := bw2 106 rfl rfl
theorem wi_X1_fillCrack : Cond.instanceMethod yX1_fillCrack ∈ BW := bw2 104 rfl rfl
theorem wv_X1_fillCrack : Cond.selects RX1 yX1_fillCrack yX1_fillCrack ∈ BW := bw2 105 rfl rfl
theorem mv_RX6_102 : MV RX6 102 RX1 yX1_fillCrack cX1_fillCrack 5 (some .long) 2 := mv_of (bw2 103 rfl rfl) wi_X1_fillCrack wv_X1_fillCrack wini_RX1 wc_X1_fillCrack ⟨rfl, by decide +kernel, by decide +kernel, by decide +kernel⟩ (by decide)
theorem wc_X6_load : Cond.code yX6_load cX6_load 5 none ∈ BW := bw2 72 rfl rfl
theorem wi_X6_load : Cond.instanceMethod yX6_load ∈ BW := bw2 71 rfl rfl
theorem wv_X6_load : Cond.selects RX6 yX6_load yX6_load ∈ BW := bwp 1 rfl
theorem mv_RX6_25 : MV RX6 25 RX6 yX6_load cX6_load 5 none 1 := mv_of (bw2 69 rfl rfl) wi_X6_load wv_X6_load wini_RX6 wc_X6_load ⟨rfl, by decide +kernel, by decide +kernel, by decide +kernel⟩ (by decide)
theorem mv_RX6_42 : MV RX6 42 RX1 yX1_hasBlock cX1_hasBlock 2 (some .boolean) 1 := mv_of (bw2 81 rfl rfl) wi_X1_hasBlock wv_X1_hasBlock wini_RX1 wc_X1_hasBlock ⟨rfl, by decide +kernel, by decide +kernel, by decide +kernel⟩ (by decide)
theorem wc_X6_slideOne : Cond.code yX6_slideOne cX6_slideOne 11 (some .int) ∈ BW := bw2 85 rfl rfl
theorem wi_X6_slideOne : Cond.instanceMethod yX6_slideOne ∈ BW := bw2 84 rfl rfl
theorem wv_X6_slideOne : Cond.selects RX6 yX6_slideOne yX6_slideOne ∈ BW := bwp 2 rfl
theorem mv_RX6_48 : MV RX6 48 RX6 yX6_slideOne cX6_slideOne 11 (some .int) 2 := mv_of (bw2 82 rfl rfl) wi_X6_slideOne wv_X6_slideOne wini_RX6 wc_X6_slideOne ⟨rfl, by decide +kernel, by decide +kernel, by decide +kernel⟩ (by decide)
theorem wc_X1_openCracks : Cond.code yX1_openCracks cX1_openCracks 6 (some .long) ∈ BW := bw2 77 rfl rfl
theorem wi_X1_openCracks : Cond.instanceMethod yX1_openCracks ∈ BW := bw2 75 rfl rfl
theorem wv_X1_openCracks : Cond.selects RX1 yX1_openCracks yX1_openCracks ∈ BW := bw2 76 rfl rfl
theorem mv_RX6_62 : MV RX6 62 RX1 yX1_openCracks cX1_openCracks 6 (some .long) 1 := mv_of (bw2 74 rfl rfl) wi_X1_openCracks wv_X1_openCracks wini_RX1 wc_X1_openCracks ⟨rfl, by decide +kernel, by decide +kernel, by decide +kernel⟩ (by decide)
theorem wc_X1_kindOf : Cond.code yX1_kindOf cX1_kindOf 2 (some .int) ∈ BW := bw2 48 rfl rfl
theorem wi_X1_kindOf : Cond.instanceMethod yX1_kindOf ∈ BW := bw2 46 rfl rfl
theorem wv_X1_kindOf : Cond.selects RX1 yX1_kindOf yX1_kindOf ∈ BW := bw2 47 rfl rfl
theorem mv_RX6_68 : MV RX6 68 RX1 yX1_kindOf cX1_kindOf 2 (some .int) 1 := mv_of (bw2 86 rfl rfl) wi_X1_kindOf wv_X1_kindOf wini_RX1 wc_X1_kindOf ⟨rfl, by decide +kernel, by decide +kernel, by decide +kernel⟩ (by decide)
theorem wc_X1_wayFrom : Cond.code yX1_wayFrom cX1_wayFrom 4 (some .int) ∈ BW := bw2 90 rfl rfl
theorem wi_X1_wayFrom : Cond.instanceMethod yX1_wayFrom ∈ BW := bw2 88 rfl rfl
theorem wv_X1_wayFrom : Cond.selects RX1 yX1_wayFrom yX1_wayFrom ∈ BW := bw2 89 rfl rfl
theorem mv_RX6_84 : MV RX6 84 RX1 yX1_wayFrom cX1_wayFrom 4 (some .int) 2 := mv_of (bw2 87 rfl rfl) wi_X1_wayFrom wv_X1_wayFrom wini_RX1 wc_X1_wayFrom ⟨rfl, by decide +kernel, by decide +kernel, by decide +kernel⟩ (by decide)
theorem wc_X6_blockIn : Cond.code yX6_blockIn cX6_blockIn 3 (some .int) ∈ BW := bw2 98 rfl rfl
theorem wi_X6_blockIn : Cond.instanceMethod yX6_blockIn ∈ BW := bw2 97 rfl rfl
theorem wv_X6_blockIn : Cond.selects RX6 yX6_blockIn yX6_blockIn ∈ BW := bwp 3 rfl
theorem mv_RX6_95 : MV RX6 95 RX6 yX6_blockIn cX6_blockIn 3 (some .int) 1 := mv_of (bw2 95 rfl rfl) wi_X6_blockIn wv_X6_blockIn wini_RX6 wc_X6_blockIn ⟨rfl, by decide +kernel, by decide +kernel, by decide +kernel⟩ (by decide)
theorem wc_X6_leave : Cond.code yX6_leave cX6_leave 3 none ∈ BW := bw2 102 rfl rfl
theorem wi_X6_leave : Cond.instanceMethod yX6_leave ∈ BW := bw2 101 rfl rfl
theorem wv_X6_leave : Cond.selects RX6 yX6_leave yX6_leave ∈ BW := bwp 4 rfl
theorem mv_RX6_98 : MV RX6 98 RX6 yX6_leave cX6_leave 3 none 2 := mv_of (bw2 99 rfl rfl) wi_X6_leave wv_X6_leave wini_RX6 wc_X6_leave ⟨rfl, by decide +kernel, by decide +kernel, by decide +kernel⟩ (by decide)
theorem mv_RX7_9 : MV RX7 9 RX5 yX5_read cX5_read 2 (some .int) 1 := mv_of (bw3 47 rfl rfl) wi_X5_read wv_X5_read wini_RX5 wc_X5_read ⟨rfl, by decide +kernel, by decide +kernel, by decide +kernel⟩ (by decide)
theorem wc_X8_takeYard : Cond.code yX8_takeYard cX8_takeYard 4 none ∈ BW := bw3 66 rfl rfl
theorem wi_X8_takeYard : Cond.instanceMethod yX8_takeYard ∈ BW := bw3 65 rfl rfl
theorem wv_X8_takeYard : Cond.selects RX8 yX8_takeYard yX8_takeYard ∈ BW := bwp 18 rfl
theorem mv_RX8_102 : MV RX8 102 RX8 yX8_takeYard cX8_takeYard 4 none 3 := mv_of (bw3 63 rfl rfl) wi_X8_takeYard wv_X8_takeYard wini_RX8 wc_X8_takeYard ⟨rfl, by decide +kernel, by decide +kernel, by decide +kernel⟩ (by decide)
theorem wc_X1_lay : Cond.code yX1_lay cX1_lay 6 none ∈ BW := bw3 70 rfl rfl
theorem wi_X1_lay : Cond.instanceMethod yX1_lay ∈ BW := bw3 68 rfl rfl
theorem wv_X1_lay : Cond.selects RX1 yX1_lay yX1_lay ∈ BW := bw3 69 rfl rfl
theorem mv_RX8_109 : MV RX8 109 RX1 yX1_lay cX1_lay 6 none 3 := mv_of (bw3 67 rfl rfl) wi_X1_lay wv_X1_lay wini_RX1 wc_X1_lay ⟨rfl, by decide +kernel, by decide +kernel, by decide +kernel⟩ (by decide)
theorem wc_X6_forget : Cond.code yX6_forget cX6_forget 1 none ∈ BW := bw3 97 rfl rfl
theorem wi_X6_forget : Cond.instanceMethod yX6_forget ∈ BW := bw3 95 rfl rfl
theorem wv_X6_forget : Cond.selects RX6 yX6_forget yX6_forget ∈ BW := bw3 96 rfl rfl
theorem mv_RX8_112 : MV RX8 112 RX6 yX6_forget cX6_forget 1 none 0 := mv_of (bw3 94 rfl rfl) wi_X6_forget wv_X6_forget wini_RX6 wc_X6_forget ⟨rfl, by decide +kernel, by decide +kernel, by decide +kernel⟩ (by decide)
theorem wc_X1_firstYard : Cond.code yX1_firstYard cX1_firstYard 4 (some .long) ∈ BW := bw3 101 rfl rfl
theorem wi_X1_firstYard : Cond.instanceMethod yX1_firstYard ∈ BW := bw3 99 rfl rfl
theorem wv_X1_firstYard : Cond.selects RX1 yX1_firstYard yX1_firstYard ∈ BW := bw3 100 rfl rfl
theorem mv_RX8_115 : MV RX8 115 RX1 yX1_firstYard cX1_firstYard 4 (some .long) 0 := mv_of (bw3 98 rfl rfl) wi_X1_firstYard wv_X1_firstYard wini_RX1 wc_X1_firstYard ⟨rfl, by decide +kernel, by decide +kernel, by decide +kernel⟩ (by decide)
theorem mv_RX8_132 : MV RX8 132 RX1 yX1_cells cX1_cells 1 (some .int) 0 := mv_of (bw2 172 rfl rfl) wi_X1_cells wv_X1_cells wini_RX1 wc_X1_cells ⟨rfl, by decide +kernel, by decide +kernel, by decide +kernel⟩ (by decide)
theorem mv_RX8_144 : MV RX8 144 RX1 yX1_hasBlock cX1_hasBlock 2 (some .boolean) 1 := mv_of (bw2 41 rfl rfl) wi_X1_hasBlock wv_X1_hasBlock wini_RX1 wc_X1_hasBlock ⟨rfl, by decide +kernel, by decide +kernel, by decide +kernel⟩ (by decide)
theorem mv_RX8_147 : MV RX8 147 RX1 yX1_kindOf cX1_kindOf 2 (some .int) 1 := mv_of (bw2 45 rfl rfl) wi_X1_kindOf wv_X1_kindOf wini_RX1 wc_X1_kindOf ⟨rfl, by decide +kernel, by decide +kernel, by decide +kernel⟩ (by decide)
theorem wc_X8_refusalOfPush : Cond.code yX8_refusalOfPush cX8_refusalOfPush 3 (some .int) ∈ BW := bw2 64 rfl rfl
theorem wi_X8_refusalOfPush : Cond.instanceMethod yX8_refusalOfPush ∈ BW := bw2 63 rfl rfl
theorem wv_X8_refusalOfPush : Cond.selects RX8 yX8_refusalOfPush yX8_refusalOfPush ∈ BW := bwp 0 rfl
theorem mv_RX8_153 : MV RX8 153 RX8 yX8_refusalOfPush cX8_refusalOfPush 3 (some .int) 2 := mv_of (bw2 61 rfl rfl) wi_X8_refusalOfPush wv_X8_refusalOfPush wini_RX8 wc_X8_refusalOfPush ⟨rfl, by decide +kernel, by decide +kernel, by decide +kernel⟩ (by decide)
theorem mv_RX8_165 : MV RX8 165 RX6 yX6_goes cX6_goes 7 (some .boolean) 3 := mv_of (bw2 65 rfl rfl) wi_X6_goes wv_X6_goes wini_RX6 wc_X6_goes ⟨rfl, by decide +kernel, by decide +kernel, by decide +kernel⟩ (by decide)
theorem wc_X4_fewestPushes : Cond.code yX4_fewestPushes cX4_fewestPushes 6 (some .int) ∈ BW := bw2 117 rfl rfl
theorem wi_X4_fewestPushes : Cond.instanceMethod yX4_fewestPushes ∈ BW := bw2 115 rfl rfl
theorem wv_X4_fewestPushes : Cond.selects RX4 yX4_fewestPushes yX4_fewestPushes ∈ BW := bw2 116 rfl rfl
theorem mv_RX8_172 : MV RX8 172 RX4 yX4_fewestPushes cX4_fewestPushes 6 (some .int) 2 := mv_of (bw2 114 rfl rfl) wi_X4_fewestPushes wv_X4_fewestPushes wini_RX4 wc_X4_fewestPushes ⟨rfl, by decide +kernel, by decide +kernel, by decide +kernel⟩ (by decide)
theorem wc_X4_pushAt : Cond.code yX4_pushAt cX4_pushAt 2 (some .int) ∈ BW := bw2 145 rfl rfl
theorem wi_X4_pushAt : Cond.instanceMethod yX4_pushAt ∈ BW := bw2 143 rfl rfl
theorem wv_X4_pushAt : Cond.selects RX4 yX4_pushAt yX4_pushAt ∈ BW := bw2 144 rfl rfl
theorem mv_RX8_175 : MV RX8 175 RX4 yX4_pushAt cX4_pushAt 2 (some .int) 1 := mv_of (bw2 142 rfl rfl) wi_X4_pushAt wv_X4_pushAt wini_RX4 wc_X4_pushAt ⟨rfl, by decide +kernel, by decide +kernel, by decide +kernel⟩ (by decide)
theorem wc_X0_leastTurns : Cond.code yX0_leastTurns cX0_leastTurns 5 (some .int) ∈ BW := bw2 153 rfl rfl
theorem wi_X0_leastTurns : Cond.instanceMethod yX0_leastTurns ∈ BW := bw2 151 rfl rfl
theorem wv_X0_leastTurns : Cond.selects RX0 yX0_leastTurns yX0_leastTurns ∈ BW := bw2 152 rfl rfl
theorem mv_RX8_178 : MV RX8 178 RX0 yX0_leastTurns cX0_leastTurns 5 (some .int) 2 := mv_of (bw2 150 rfl rfl) wi_X0_leastTurns wv_X0_leastTurns wini_RX0 wc_X0_leastTurns ⟨rfl, by decide +kernel, by decide +kernel, by decide +kernel⟩ (by decide)
theorem wc_X2_count : Cond.code yX2_count cX2_count 6 (some .int) ∈ BW := bw2 179 rfl rfl
theorem wi_X2_count : Cond.instanceMethod yX2_count ∈ BW := bw2 177 rfl rfl
theorem wv_X2_count : Cond.selects RX2 yX2_count yX2_count ∈ BW := bw2 178 rfl rfl
theorem mv_RX8_184 : MV RX8 184 RX2 yX2_count cX2_count 6 (some .int) 3 := mv_of (bw2 176 rfl rfl) wi_X2_count wv_X2_count wini_RX2 wc_X2_count ⟨rfl, by decide +kernel, by decide +kernel, by decide +kernel⟩ (by decide)
theorem wc_X2_pushAt : Cond.code yX2_pushAt cX2_pushAt 2 (some .int) ∈ BW := bw2 197 rfl rfl
theorem wi_X2_pushAt : Cond.instanceMethod yX2_pushAt ∈ BW := bw2 195 rfl rfl
theorem wv_X2_pushAt : Cond.selects RX2 yX2_pushAt yX2_pushAt ∈ BW := bw2 196 rfl rfl
theorem mv_RX8_188 : MV RX8 188 RX2 yX2_pushAt cX2_pushAt 2 (some .int) 1 := mv_of (bw2 194 rfl rfl) wi_X2_pushAt wv_X2_pushAt wini_RX2 wc_X2_pushAt ⟨rfl, by decide +kernel, by decide +kernel, by decide +kernel⟩ (by decide)
theorem wc_X3_fewestCells : Cond.code yX3_fewestCells cX3_fewestCells 10 (some .int) ∈ BW := bw2 205 rfl rfl
theorem wi_X3_fewestCells : Cond.instanceMethod yX3_fewestCells ∈ BW := bw2 203 rfl rfl
theorem wv_X3_fewestCells : Cond.selects RX3 yX3_fewestCells yX3_fewestCells ∈ BW := bw2 204 rfl rfl
theorem mv_RX8_189 : MV RX8 189 RX3 yX3_fewestCells cX3_fewestCells 10 (some .int) 4 := mv_of (bw2 202 rfl rfl) wi_X3_fewestCells wv_X3_fewestCells wini_RX3 wc_X3_fewestCells ⟨rfl, by decide +kernel, by decide +kernel, by decide +kernel⟩ (by decide)
theorem wc_X5_renew : Cond.code yX5_renew cX5_renew 3 none ∈ BW := bw2 237 rfl rfl
theorem wi_X5_renew : Cond.instanceMethod yX5_renew ∈ BW := bw2 235 rfl rfl
theorem wv_X5_renew : Cond.selects RX5 yX5_renew yX5_renew ∈ BW := bw2 236 rfl rfl
theorem mv_RX8_207 : MV RX8 207 RX5 yX5_renew cX5_renew 3 none 2 := mv_of (bw2 234 rfl rfl) wi_X5_renew wv_X5_renew wini_RX5 wc_X5_renew ⟨rfl, by decide +kernel, by decide +kernel, by decide +kernel⟩ (by decide)
theorem mv_RX8_211 : MV RX8 211 RX5 yX5_hasNothing cX5_hasNothing 1 (some .boolean) 0 := mv_of (bw3 14 rfl rfl) wi_X5_hasNothing wv_X5_hasNothing wini_RX5 wc_X5_hasNothing ⟨rfl, by decide +kernel, by decide +kernel, by decide +kernel⟩ (by decide)
theorem mv_RX8_218 : MV RX8 218 RX5 yX5_hasCell cX5_hasCell 2 (some .boolean) 1 := mv_of (bw3 18 rfl rfl) wi_X5_hasCell wv_X5_hasCell wini_RX5 wc_X5_hasCell ⟨rfl, by decide +kernel, by decide +kernel, by decide +kernel⟩ (by decide)
theorem wc_X5_write : Cond.code yX5_write cX5_write 3 none ∈ BW := bw3 25 rfl rfl
theorem wi_X5_write : Cond.instanceMethod yX5_write ∈ BW := bw3 23 rfl rfl
theorem wv_X5_write : Cond.selects RX5 yX5_write yX5_write ∈ BW := bw3 24 rfl rfl
theorem mv_RX8_221 : MV RX8 221 RX5 yX5_write cX5_write 3 none 2 := mv_of (bw3 22 rfl rfl) wi_X5_write wv_X5_write wini_RX5 wc_X5_write ⟨rfl, by decide +kernel, by decide +kernel, by decide +kernel⟩ (by decide)
theorem wc_X8_sheetAt : Cond.code yX8_sheetAt cX8_sheetAt 2 (some (.object "IceYard$Sheet")) ∈ BW := bw2 226 rfl rfl
theorem wi_X8_sheetAt : Cond.instanceMethod yX8_sheetAt ∈ BW := bw2 225 rfl rfl
theorem wv_X8_sheetAt : Cond.selects RX8 yX8_sheetAt yX8_sheetAt ∈ BW := bwp 15 rfl
theorem mv_RX8_77 : MV RX8 77 RX8 yX8_sheetAt cX8_sheetAt 2 (some (.object "IceYard$Sheet")) 1 := mv_of (bw2 223 rfl rfl) wi_X8_sheetAt wv_X8_sheetAt wini_RX8 wc_X8_sheetAt ⟨rfl, by decide +kernel, by decide +kernel, by decide +kernel⟩ (by decide)
theorem wc_X5_faultTakenAs : Cond.code yX5_faultTakenAs cX5_faultTakenAs 2 (some .int) ∈ BW := bw3 38 rfl rfl
theorem wi_X5_faultTakenAs : Cond.instanceMethod yX5_faultTakenAs ∈ BW := bw3 36 rfl rfl
theorem wv_X5_faultTakenAs : Cond.selects RX5 yX5_faultTakenAs yX5_faultTakenAs ∈ BW := bw3 37 rfl rfl
theorem mv_RX8_85 : MV RX8 85 RX5 yX5_faultTakenAs cX5_faultTakenAs 2 (some .int) 1 := mv_of (bw3 35 rfl rfl) wi_X5_faultTakenAs wv_X5_faultTakenAs wini_RX5 wc_X5_faultTakenAs ⟨rfl, by decide +kernel, by decide +kernel, by decide +kernel⟩ (by decide)
theorem wc_X5_hasCells : Cond.code yX5_hasCells cX5_hasCells 3 (some .boolean) ∈ BW := bw3 43 rfl rfl
theorem wi_X5_hasCells : Cond.instanceMethod yX5_hasCells ∈ BW := bw3 41 rfl rfl
theorem wv_X5_hasCells : Cond.selects RX5 yX5_hasCells yX5_hasCells ∈ BW := bw3 42 rfl rfl
theorem mv_RX8_89 : MV RX8 89 RX5 yX5_hasCells cX5_hasCells 3 (some .boolean) 2 := mv_of (bw3 40 rfl rfl) wi_X5_hasCells wv_X5_hasCells wini_RX5 wc_X5_hasCells ⟨rfl, by decide +kernel, by decide +kernel, by decide +kernel⟩ (by decide)
theorem wc_X8_faulty : Cond.code yX8_faulty cX8_faulty 2 (some .int) ∈ BW := bw2 233 rfl rfl
theorem wi_X8_faulty : Cond.instanceMethod yX8_faulty ∈ BW := bw2 232 rfl rfl
theorem wv_X8_faulty : Cond.selects RX8 yX8_faulty yX8_faulty ∈ BW := bwp 16 rfl
theorem mv_RX8_93 : MV RX8 93 RX8 yX8_faulty cX8_faulty 2 (some .int) 1 := mv_of (bw2 230 rfl rfl) wi_X8_faulty wv_X8_faulty wini_RX8 wc_X8_faulty ⟨rfl, by decide +kernel, by decide +kernel, by decide +kernel⟩ (by decide)
