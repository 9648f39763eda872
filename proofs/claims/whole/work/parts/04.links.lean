set_option maxRecDepth 100000 in
theorem fl_X8_11 : FL RX8 11 7 0 (.array .int) true := ⟨_, _, _, rfl, by decide, wm_1 31 rfl rfl, rfl, tyX8_ok _ (by decide), rfl⟩
set_option maxRecDepth 100000 in
theorem fl_X8_18 : FL RX8 18 7 1 .int false := ⟨_, _, _, rfl, by decide, wm_1 32 rfl rfl, rfl, tyX8_ok _ (by decide), rfl⟩
set_option maxRecDepth 100000 in
theorem fl_X10_88 : FL RX10 88 7 1 .int false := ⟨_, _, _, rfl, by decide, wm_1 33 rfl rfl, rfl, tyX8_ok _ (by decide), rfl⟩
set_option maxRecDepth 100000 in
theorem fl_X10_91 : FL RX10 91 7 2 .int false := ⟨_, _, _, rfl, by decide, wm_1 34 rfl rfl, rfl, tyX8_ok _ (by decide), rfl⟩
set_option maxRecDepth 100000 in
theorem fl_X8_48 : FL RX8 48 7 2 .int false := ⟨_, _, _, rfl, by decide, wm_1 35 rfl rfl, rfl, tyX8_ok _ (by decide), rfl⟩
set_option maxRecDepth 100000 in
theorem fl_X10_94 : FL RX10 94 7 3 .int false := ⟨_, _, _, rfl, by decide, wm_1 36 rfl rfl, rfl, tyX8_ok _ (by decide), rfl⟩
set_option maxRecDepth 100000 in
theorem fl_X8_51 : FL RX8 51 7 3 .int false := ⟨_, _, _, rfl, by decide, wm_1 37 rfl rfl, rfl, tyX8_ok _ (by decide), rfl⟩
set_option maxRecDepth 100000 in
theorem fl_X8_25 : FL RX8 25 7 4 .int false := ⟨_, _, _, rfl, by decide, wm_1 38 rfl rfl, rfl, tyX8_ok _ (by decide), rfl⟩
set_option maxRecDepth 100000 in
theorem fl_X10_97 : FL RX10 97 7 4 .int false := ⟨_, _, _, rfl, by decide, wm_1 39 rfl rfl, rfl, tyX8_ok _ (by decide), rfl⟩
set_option maxRecDepth 100000 in
theorem fl_X8_15 : FL RX8 15 7 5 (.array .int) true := ⟨_, _, _, rfl, by decide, wm_1 40 rfl rfl, rfl, tyX8_ok _ (by decide), rfl⟩
set_option maxRecDepth 100000 in
theorem fl_X10_100 : FL RX10 100 7 5 (.array .int) true := ⟨_, _, _, rfl, by decide, wm_1 41 rfl rfl, rfl, tyX8_ok _ (by decide), rfl⟩
set_option maxRecDepth 100000 in
theorem fl_X8_22 : FL RX8 22 7 6 .int false := ⟨_, _, _, rfl, by decide, wm_1 42 rfl rfl, rfl, tyX8_ok _ (by decide), rfl⟩
set_option maxRecDepth 100000 in
theorem cb_J7_fill_53178 : CLB yJ7_fill_53178 cJ7_fill_53178 4 none 2 := ⟨wm_1 67 rfl rfl, wm_1 4 rfl rfl, ⟨by decide +kernel, by decide +kernel, by decide +kernel⟩, by decide⟩
set_option maxRecDepth 100000 in
theorem cl_X1_39 : CLS RX1 39 yJ7_fill_53178 cJ7_fill_53178 4 none 2 := ⟨cb_J7_fill_53178, wm_1 65 rfl rfl, wm_1 66 rfl rfl⟩
set_option maxRecDepth 100000 in
theorem fl_X9_45 : FL RX9 45 1 0 .int false := ⟨_, _, _, rfl, by decide, wm_1 68 rfl rfl, rfl, tyX1_ok _ (by decide), rfl⟩
set_option maxRecDepth 100000 in
theorem fl_X1_45 : FL RX1 45 1 0 .int false := ⟨_, _, _, rfl, by decide, wm_1 69 rfl rfl, rfl, tyX1_ok _ (by decide), rfl⟩
set_option maxRecDepth 100000 in
theorem fl_X2_20 : FL RX2 20 1 0 .int false := ⟨_, _, _, rfl, by decide, wm_1 70 rfl rfl, rfl, tyX1_ok _ (by decide), rfl⟩
set_option maxRecDepth 100000 in
theorem fl_X3_19 : FL RX3 19 1 0 .int false := ⟨_, _, _, rfl, by decide, wm_1 71 rfl rfl, rfl, tyX1_ok _ (by decide), rfl⟩
set_option maxRecDepth 100000 in
theorem fl_X10_80 : FL RX10 80 1 0 .int false := ⟨_, _, _, rfl, by decide, wm_1 72 rfl rfl, rfl, tyX1_ok _ (by decide), rfl⟩
set_option maxRecDepth 100000 in
theorem fl_X4_56 : FL RX4 56 1 0 .int false := ⟨_, _, _, rfl, by decide, wm_1 73 rfl rfl, rfl, tyX1_ok _ (by decide), rfl⟩
set_option maxRecDepth 100000 in
theorem fl_X1_11 : FL RX1 11 1 1 (.array .int) true := ⟨_, _, _, rfl, by decide, wm_1 74 rfl rfl, rfl, tyX1_ok _ (by decide), rfl⟩
set_option maxRecDepth 100000 in
theorem fl_X9_58 : FL RX9 58 1 1 (.array .int) true := ⟨_, _, _, rfl, by decide, wm_1 75 rfl rfl, rfl, tyX1_ok _ (by decide), rfl⟩
set_option maxRecDepth 100000 in
theorem fl_X2_36 : FL RX2 36 1 1 (.array .int) true := ⟨_, _, _, rfl, by decide, wm_1 76 rfl rfl, rfl, tyX1_ok _ (by decide), rfl⟩
set_option maxRecDepth 100000 in
theorem fl_X10_116 : FL RX10 116 1 1 (.array .int) true := ⟨_, _, _, rfl, by decide, wm_1 77 rfl rfl, rfl, tyX1_ok _ (by decide), rfl⟩
set_option maxRecDepth 100000 in
theorem fl_X4_89 : FL RX4 89 1 1 (.array .int) true := ⟨_, _, _, rfl, by decide, wm_1 78 rfl rfl, rfl, tyX1_ok _ (by decide), rfl⟩
set_option maxRecDepth 100000 in
theorem fl_X0_107 : FL RX0 107 1 1 (.array .int) true := ⟨_, _, _, rfl, by decide, wm_1 79 rfl rfl, rfl, tyX1_ok _ (by decide), rfl⟩
set_option maxRecDepth 100000 in
theorem fl_X1_15 : FL RX1 15 1 2 (.array .int) true := ⟨_, _, _, rfl, by decide, wm_1 80 rfl rfl, rfl, tyX1_ok _ (by decide), rfl⟩
set_option maxRecDepth 100000 in
theorem fl_X9_59 : FL RX9 59 1 2 (.array .int) true := ⟨_, _, _, rfl, by decide, wm_1 81 rfl rfl, rfl, tyX1_ok _ (by decide), rfl⟩
set_option maxRecDepth 100000 in
theorem fl_X2_40 : FL RX2 40 1 2 (.array .int) true := ⟨_, _, _, rfl, by decide, wm_1 82 rfl rfl, rfl, tyX1_ok _ (by decide), rfl⟩
set_option maxRecDepth 100000 in
theorem fl_X10_118 : FL RX10 118 1 2 (.array .int) true := ⟨_, _, _, rfl, by decide, wm_1 83 rfl rfl, rfl, tyX1_ok _ (by decide), rfl⟩
set_option maxRecDepth 100000 in
theorem fl_X4_92 : FL RX4 92 1 2 (.array .int) true := ⟨_, _, _, rfl, by decide, wm_1 84 rfl rfl, rfl, tyX1_ok _ (by decide), rfl⟩
set_option maxRecDepth 100000 in
theorem fl_X0_111 : FL RX0 111 1 2 (.array .int) true := ⟨_, _, _, rfl, by decide, wm_1 85 rfl rfl, rfl, tyX1_ok _ (by decide), rfl⟩
set_option maxRecDepth 100000 in
theorem fl_X1_18 : FL RX1 18 1 3 (.array .int) true := ⟨_, _, _, rfl, by decide, wm_1 86 rfl rfl, rfl, tyX1_ok _ (by decide), rfl⟩
set_option maxRecDepth 100000 in
theorem fl_X2_29 : FL RX2 29 1 3 (.array .int) true := ⟨_, _, _, rfl, by decide, wm_1 87 rfl rfl, rfl, tyX1_ok _ (by decide), rfl⟩
set_option maxRecDepth 100000 in
theorem fl_X10_120 : FL RX10 120 1 3 (.array .int) true := ⟨_, _, _, rfl, by decide, wm_1 88 rfl rfl, rfl, tyX1_ok _ (by decide), rfl⟩
set_option maxRecDepth 100000 in
theorem fl_X1_21 : FL RX1 21 1 4 (.array .int) true := ⟨_, _, _, rfl, by decide, wm_1 89 rfl rfl, rfl, tyX1_ok _ (by decide), rfl⟩
set_option maxRecDepth 100000 in
theorem fl_X10_122 : FL RX10 122 1 4 (.array .int) true := ⟨_, _, _, rfl, by decide, wm_1 90 rfl rfl, rfl, tyX1_ok _ (by decide), rfl⟩
set_option maxRecDepth 100000 in
theorem fl_X1_24 : FL RX1 24 1 5 (.array .int) true := ⟨_, _, _, rfl, by decide, wm_1 91 rfl rfl, rfl, tyX1_ok _ (by decide), rfl⟩
set_option maxRecDepth 100000 in
theorem fl_X1_27 : FL RX1 27 1 6 (.array .int) true := ⟨_, _, _, rfl, by decide, wm_1 92 rfl rfl, rfl, tyX1_ok _ (by decide), rfl⟩
set_option maxRecDepth 100000 in
theorem fl_X1_30 : FL RX1 30 1 7 (.array .int) true := ⟨_, _, _, rfl, by decide, wm_1 93 rfl rfl, rfl, tyX1_ok _ (by decide), rfl⟩
set_option maxRecDepth 100000 in
theorem fl_X1_33 : FL RX1 33 1 8 (.array .int) true := ⟨_, _, _, rfl, by decide, wm_1 94 rfl rfl, rfl, tyX1_ok _ (by decide), rfl⟩
set_option maxRecDepth 100000 in
theorem fl_X1_36 : FL RX1 36 1 9 (.array .int) true := ⟨_, _, _, rfl, by decide, wm_1 95 rfl rfl, rfl, tyX1_ok _ (by decide), rfl⟩
set_option maxRecDepth 100000 in
theorem fl_X1_73 : FL RX1 73 1 10 .int false := ⟨_, _, _, rfl, by decide, wm_1 96 rfl rfl, rfl, tyX1_ok _ (by decide), rfl⟩
set_option maxRecDepth 100000 in
theorem fl_X10_321 : FL RX10 321 1 10 .int false := ⟨_, _, _, rfl, by decide, wm_1 97 rfl rfl, rfl, tyX1_ok _ (by decide), rfl⟩
set_option maxRecDepth 100000 in
theorem fl_X1_79 : FL RX1 79 1 11 .int false := ⟨_, _, _, rfl, by decide, wm_1 98 rfl rfl, rfl, tyX1_ok _ (by decide), rfl⟩
set_option maxRecDepth 100000 in
theorem fl_X0_77 : FL RX0 77 1 12 .int false := ⟨_, _, _, rfl, by decide, wm_1 99 rfl rfl, rfl, tyX1_ok _ (by decide), rfl⟩
set_option maxRecDepth 100000 in
theorem fl_X1_82 : FL RX1 82 1 12 .int false := ⟨_, _, _, rfl, by decide, wm_1 100 rfl rfl, rfl, tyX1_ok _ (by decide), rfl⟩
set_option maxRecDepth 100000 in
theorem fl_X9_51 : FL RX9 51 8 0 .int false := ⟨_, _, _, rfl, by decide, wm_1 134 rfl rfl, rfl, tyX9_ok _ (by decide), rfl⟩
set_option maxRecDepth 100000 in
theorem fl_X2_26 : FL RX2 26 8 0 .int false := ⟨_, _, _, rfl, by decide, wm_1 135 rfl rfl, rfl, tyX9_ok _ (by decide), rfl⟩
set_option maxRecDepth 100000 in
theorem fl_X0_97 : FL RX0 97 8 0 .int false := ⟨_, _, _, rfl, by decide, wm_1 136 rfl rfl, rfl, tyX9_ok _ (by decide), rfl⟩
set_option maxRecDepth 100000 in
theorem fl_X9_9 : FL RX9 9 8 1 (.array .int) true := ⟨_, _, _, rfl, by decide, wm_1 137 rfl rfl, rfl, tyX9_ok _ (by decide), rfl⟩
set_option maxRecDepth 100000 in
theorem fl_X2_51 : FL RX2 51 8 1 (.array .int) true := ⟨_, _, _, rfl, by decide, wm_1 138 rfl rfl, rfl, tyX9_ok _ (by decide), rfl⟩
set_option maxRecDepth 100000 in
theorem fl_X0_136 : FL RX0 136 8 1 (.array .int) true := ⟨_, _, _, rfl, by decide, wm_1 139 rfl rfl, rfl, tyX9_ok _ (by decide), rfl⟩
set_option maxRecDepth 100000 in
theorem fl_X9_15 : FL RX9 15 8 2 (.array .int) true := ⟨_, _, _, rfl, by decide, wm_1 140 rfl rfl, rfl, tyX9_ok _ (by decide), rfl⟩
set_option maxRecDepth 100000 in
theorem fl_X2_33 : FL RX2 33 8 2 (.array .int) true := ⟨_, _, _, rfl, by decide, wm_1 141 rfl rfl, rfl, tyX9_ok _ (by decide), rfl⟩
set_option maxRecDepth 100000 in
theorem fl_X0_104 : FL RX0 104 8 2 (.array .int) true := ⟨_, _, _, rfl, by decide, wm_1 142 rfl rfl, rfl, tyX9_ok _ (by decide), rfl⟩
set_option maxRecDepth 100000 in
theorem fl_X9_18 : FL RX9 18 8 3 (.array .int) true := ⟨_, _, _, rfl, by decide, wm_1 143 rfl rfl, rfl, tyX9_ok _ (by decide), rfl⟩
set_option maxRecDepth 100000 in
theorem fl_X2_37 : FL RX2 37 8 3 (.array .int) true := ⟨_, _, _, rfl, by decide, wm_1 144 rfl rfl, rfl, tyX9_ok _ (by decide), rfl⟩
set_option maxRecDepth 100000 in
theorem fl_X0_108 : FL RX0 108 8 3 (.array .int) true := ⟨_, _, _, rfl, by decide, wm_1 145 rfl rfl, rfl, tyX9_ok _ (by decide), rfl⟩
set_option maxRecDepth 100000 in
theorem fl_X9_21 : FL RX9 21 8 4 (.array .int) true := ⟨_, _, _, rfl, by decide, wm_1 146 rfl rfl, rfl, tyX9_ok _ (by decide), rfl⟩
set_option maxRecDepth 100000 in
theorem fl_X10_184 : FL RX10 184 8 4 (.array .int) true := ⟨_, _, _, rfl, by decide, wm_1 147 rfl rfl, rfl, tyX9_ok _ (by decide), rfl⟩
set_option maxRecDepth 100000 in
theorem fl_X9_24 : FL RX9 24 8 5 (.array .int) true := ⟨_, _, _, rfl, by decide, wm_1 148 rfl rfl, rfl, tyX9_ok _ (by decide), rfl⟩
set_option maxRecDepth 100000 in
theorem fl_X4_42 : FL RX4 42 8 5 (.array .int) true := ⟨_, _, _, rfl, by decide, wm_1 149 rfl rfl, rfl, tyX9_ok _ (by decide), rfl⟩
set_option maxRecDepth 100000 in
theorem fl_X0_156 : FL RX0 156 8 5 (.array .int) true := ⟨_, _, _, rfl, by decide, wm_1 150 rfl rfl, rfl, tyX9_ok _ (by decide), rfl⟩
set_option maxRecDepth 100000 in
theorem fl_X9_27 : FL RX9 27 8 6 (.array .int) true := ⟨_, _, _, rfl, by decide, wm_1 151 rfl rfl, rfl, tyX9_ok _ (by decide), rfl⟩
set_option maxRecDepth 100000 in
theorem fl_X9_30 : FL RX9 30 8 7 (.array .int) true := ⟨_, _, _, rfl, by decide, wm_1 152 rfl rfl, rfl, tyX9_ok _ (by decide), rfl⟩
set_option maxRecDepth 100000 in
theorem fl_X9_33 : FL RX9 33 8 8 (.array .int) true := ⟨_, _, _, rfl, by decide, wm_1 153 rfl rfl, rfl, tyX9_ok _ (by decide), rfl⟩
set_option maxRecDepth 100000 in
theorem fl_X9_36 : FL RX9 36 8 9 (.array .int) true := ⟨_, _, _, rfl, by decide, wm_1 154 rfl rfl, rfl, tyX9_ok _ (by decide), rfl⟩
set_option maxRecDepth 100000 in
theorem fl_X9_39 : FL RX9 39 8 10 (.array .int) true := ⟨_, _, _, rfl, by decide, wm_1 155 rfl rfl, rfl, tyX9_ok _ (by decide), rfl⟩
set_option maxRecDepth 100000 in
theorem fl_X9_42 : FL RX9 42 8 11 (.array .int) true := ⟨_, _, _, rfl, by decide, wm_1 156 rfl rfl, rfl, tyX9_ok _ (by decide), rfl⟩
set_option maxRecDepth 100000 in
theorem fl_X4_24 : FL RX4 24 4 0 (.object "MotherTowns$Charters") true := ⟨_, _, _, rfl, by decide, wm_1 188 rfl rfl, rfl, tyX4_ok _ (by decide), rfl⟩
set_option maxRecDepth 100000 in
theorem fl_X4_28 : FL RX4 28 4 1 (.object "MotherTowns$Tree") true := ⟨_, _, _, rfl, by decide, wm_1 189 rfl rfl, rfl, tyX4_ok _ (by decide), rfl⟩
set_option maxRecDepth 100000 in
theorem fl_X4_9 : FL RX4 9 4 2 (.array .int) true := ⟨_, _, _, rfl, by decide, wm_1 190 rfl rfl, rfl, tyX4_ok _ (by decide), rfl⟩
set_option maxRecDepth 100000 in
theorem fl_X4_15 : FL RX4 15 4 3 (.array .int) true := ⟨_, _, _, rfl, by decide, wm_1 191 rfl rfl, rfl, tyX4_ok _ (by decide), rfl⟩
set_option maxRecDepth 100000 in
theorem fl_X4_18 : FL RX4 18 4 4 (.array .int) true := ⟨_, _, _, rfl, by decide, wm_1 192 rfl rfl, rfl, tyX4_ok _ (by decide), rfl⟩
set_option maxRecDepth 100000 in
theorem fl_X4_21 : FL RX4 21 4 5 (.array .int) true := ⟨_, _, _, rfl, by decide, wm_1 193 rfl rfl, rfl, tyX4_ok _ (by decide), rfl⟩
set_option maxRecDepth 100000 in
theorem fl_X0_44 : FL RX0 44 0 0 (.object "MotherTowns$Charters") true := ⟨_, _, _, rfl, by decide, wm_1 215 rfl rfl, rfl, tyX0_ok _ (by decide), rfl⟩
set_option maxRecDepth 100000 in
theorem fl_X0_12 : FL RX0 12 0 1 (.object "MotherTowns$Tree") true := ⟨_, _, _, rfl, by decide, wm_1 216 rfl rfl, rfl, tyX0_ok _ (by decide), rfl⟩
set_option maxRecDepth 100000 in
theorem fl_X0_48 : FL RX0 48 0 2 .int false := ⟨_, _, _, rfl, by decide, wm_1 217 rfl rfl, rfl, tyX0_ok _ (by decide), rfl⟩
set_option maxRecDepth 100000 in
theorem fl_X10_193 : FL RX10 193 0 2 .int false := ⟨_, _, _, rfl, by decide, wm_1 218 rfl rfl, rfl, tyX0_ok _ (by decide), rfl⟩
set_option maxRecDepth 100000 in
theorem fl_X0_80 : FL RX0 80 0 3 .int false := ⟨_, _, _, rfl, by decide, wm_1 219 rfl rfl, rfl, tyX0_ok _ (by decide), rfl⟩
set_option maxRecDepth 100000 in
theorem fl_X10_208 : FL RX10 208 0 3 .int false := ⟨_, _, _, rfl, by decide, wm_1 220 rfl rfl, rfl, tyX0_ok _ (by decide), rfl⟩
set_option maxRecDepth 100000 in
theorem fl_X0_84 : FL RX0 84 0 4 .int false := ⟨_, _, _, rfl, by decide, wm_1 221 rfl rfl, rfl, tyX0_ok _ (by decide), rfl⟩
set_option maxRecDepth 100000 in
theorem fl_X10_211 : FL RX10 211 0 4 .int false := ⟨_, _, _, rfl, by decide, wm_1 222 rfl rfl, rfl, tyX0_ok _ (by decide), rfl⟩
set_option maxRecDepth 100000 in
theorem fl_X0_18 : FL RX0 18 0 5 (.array .int) true := ⟨_, _, _, rfl, by decide, wm_1 223 rfl rfl, rfl, tyX0_ok _ (by decide), rfl⟩
set_option maxRecDepth 100000 in
theorem fl_X0_22 : FL RX0 22 0 6 (.array .int) true := ⟨_, _, _, rfl, by decide, wm_1 224 rfl rfl, rfl, tyX0_ok _ (by decide), rfl⟩
set_option maxRecDepth 100000 in
theorem fl_X0_25 : FL RX0 25 0 7 (.array .int) true := ⟨_, _, _, rfl, by decide, wm_1 225 rfl rfl, rfl, tyX0_ok _ (by decide), rfl⟩
set_option maxRecDepth 100000 in
theorem fl_X0_28 : FL RX0 28 0 8 (.array .int) true := ⟨_, _, _, rfl, by decide, wm_1 226 rfl rfl, rfl, tyX0_ok _ (by decide), rfl⟩
set_option maxRecDepth 100000 in
theorem fl_X0_31 : FL RX0 31 0 9 (.array .int) true := ⟨_, _, _, rfl, by decide, wm_1 227 rfl rfl, rfl, tyX0_ok _ (by decide), rfl⟩
set_option maxRecDepth 100000 in
theorem fl_X0_34 : FL RX0 34 0 10 (.array .int) true := ⟨_, _, _, rfl, by decide, wm_1 228 rfl rfl, rfl, tyX0_ok _ (by decide), rfl⟩
set_option maxRecDepth 100000 in
theorem fl_X0_37 : FL RX0 37 0 11 (.array .int) true := ⟨_, _, _, rfl, by decide, wm_1 229 rfl rfl, rfl, tyX0_ok _ (by decide), rfl⟩
set_option maxRecDepth 100000 in
theorem fl_X0_118 : FL RX0 118 0 12 .int false := ⟨_, _, _, rfl, by decide, wm_1 230 rfl rfl, rfl, tyX0_ok _ (by decide), rfl⟩
set_option maxRecDepth 100000 in
theorem fl_X0_130 : FL RX0 130 0 13 .int false := ⟨_, _, _, rfl, by decide, wm_1 231 rfl rfl, rfl, tyX0_ok _ (by decide), rfl⟩
set_option maxRecDepth 100000 in
theorem fl_X0_40 : FL RX0 40 0 14 .int false := ⟨_, _, _, rfl, by decide, wm_1 232 rfl rfl, rfl, tyX0_ok _ (by decide), rfl⟩
set_option maxRecDepth 100000 in
theorem fl_X3_15 : FL RX3 15 3 0 (.object "MotherTowns$Charters") true := ⟨_, _, _, rfl, by decide, wm_2 30 rfl rfl, rfl, tyX3_ok _ (by decide), rfl⟩
set_option maxRecDepth 100000 in
theorem fl_X3_9 : FL RX3 9 3 1 (.array .int) true := ⟨_, _, _, rfl, by decide, wm_2 31 rfl rfl, rfl, tyX3_ok _ (by decide), rfl⟩
set_option maxRecDepth 100000 in
theorem fl_X2_16 : FL RX2 16 2 0 (.object "MotherTowns$Charters") true := ⟨_, _, _, rfl, by decide, wm_2 45 rfl rfl, rfl, tyX2_ok _ (by decide), rfl⟩
set_option maxRecDepth 100000 in
theorem fl_X2_10 : FL RX2 10 2 1 (.object "MotherTowns$Tree") true := ⟨_, _, _, rfl, by decide, wm_2 46 rfl rfl, rfl, tyX2_ok _ (by decide), rfl⟩
set_option maxRecDepth 100000 in
theorem fl_X5_26 : FL RX5 26 5 0 .int false := ⟨_, _, _, rfl, by decide, wm_2 58 rfl rfl, rfl, tyX5_ok _ (by decide), rfl⟩
set_option maxRecDepth 100000 in
theorem fl_X10_272 : FL RX10 272 5 0 .int false := ⟨_, _, _, rfl, by decide, wm_2 59 rfl rfl, rfl, tyX5_ok _ (by decide), rfl⟩
set_option maxRecDepth 100000 in
theorem fl_X5_52 : FL RX5 52 5 1 .int false := ⟨_, _, _, rfl, by decide, wm_2 60 rfl rfl, rfl, tyX5_ok _ (by decide), rfl⟩
set_option maxRecDepth 100000 in
theorem fl_X10_275 : FL RX10 275 5 1 .int false := ⟨_, _, _, rfl, by decide, wm_2 61 rfl rfl, rfl, tyX5_ok _ (by decide), rfl⟩
set_option maxRecDepth 100000 in
theorem fl_X5_9 : FL RX5 9 5 2 (.array .int) true := ⟨_, _, _, rfl, by decide, wm_2 62 rfl rfl, rfl, tyX5_ok _ (by decide), rfl⟩
set_option maxRecDepth 100000 in
theorem fl_X10_317 : FL RX10 317 5 2 (.array .int) true := ⟨_, _, _, rfl, by decide, wm_2 63 rfl rfl, rfl, tyX5_ok _ (by decide), rfl⟩
set_option maxRecDepth 100000 in
theorem fl_X5_13 : FL RX5 13 5 3 (.array .int) true := ⟨_, _, _, rfl, by decide, wm_2 64 rfl rfl, rfl, tyX5_ok _ (by decide), rfl⟩
set_option maxRecDepth 100000 in
theorem fl_X10_283 : FL RX10 283 5 3 (.array .int) true := ⟨_, _, _, rfl, by decide, wm_2 65 rfl rfl, rfl, tyX5_ok _ (by decide), rfl⟩
set_option maxRecDepth 100000 in
theorem fl_X5_16 : FL RX5 16 5 4 (.array .int) true := ⟨_, _, _, rfl, by decide, wm_2 66 rfl rfl, rfl, tyX5_ok _ (by decide), rfl⟩
set_option maxRecDepth 100000 in
theorem fl_X5_30 : FL RX5 30 5 5 .int false := ⟨_, _, _, rfl, by decide, wm_2 67 rfl rfl, rfl, tyX5_ok _ (by decide), rfl⟩
set_option maxRecDepth 100000 in
theorem fl_X5_33 : FL RX5 33 5 6 .int false := ⟨_, _, _, rfl, by decide, wm_2 68 rfl rfl, rfl, tyX5_ok _ (by decide), rfl⟩
set_option maxRecDepth 100000 in
theorem fl_X5_36 : FL RX5 36 5 7 .int false := ⟨_, _, _, rfl, by decide, wm_2 69 rfl rfl, rfl, tyX5_ok _ (by decide), rfl⟩
set_option maxRecDepth 100000 in
theorem fl_X6_9 : FL RX6 9 6 0 .int false := ⟨_, _, _, rfl, by decide, wm_2 94 rfl rfl, rfl, tyX6_ok _ (by decide), rfl⟩
set_option maxRecDepth 100000 in
theorem fl_X10_143 : FL RX10 143 6 0 .int false := ⟨_, _, _, rfl, by decide, wm_2 95 rfl rfl, rfl, tyX6_ok _ (by decide), rfl⟩
set_option maxRecDepth 100000 in
theorem fl_X6_17 : FL RX6 17 6 1 .int false := ⟨_, _, _, rfl, by decide, wm_2 96 rfl rfl, rfl, tyX6_ok _ (by decide), rfl⟩
set_option maxRecDepth 100000 in
theorem fl_X10_314 : FL RX10 314 6 1 .int false := ⟨_, _, _, rfl, by decide, wm_2 97 rfl rfl, rfl, tyX6_ok _ (by decide), rfl⟩
set_option maxRecDepth 100000 in
theorem fl_X6_20 : FL RX6 20 6 2 .int false := ⟨_, _, _, rfl, by decide, wm_2 98 rfl rfl, rfl, tyX6_ok _ (by decide), rfl⟩
set_option maxRecDepth 100000 in
theorem fl_X10_146 : FL RX10 146 6 2 .int false := ⟨_, _, _, rfl, by decide, wm_2 99 rfl rfl, rfl, tyX6_ok _ (by decide), rfl⟩
set_option maxRecDepth 100000 in
theorem fl_X6_23 : FL RX6 23 6 3 .int false := ⟨_, _, _, rfl, by decide, wm_2 100 rfl rfl, rfl, tyX6_ok _ (by decide), rfl⟩
set_option maxRecDepth 100000 in
theorem fl_X6_13 : FL RX6 13 6 4 (.array .long) true := ⟨_, _, _, rfl, by decide, wm_2 101 rfl rfl, rfl, tyX6_ok _ (by decide), rfl⟩
set_option maxRecDepth 100000 in
theorem fl_X10_153 : FL RX10 153 6 4 (.array .long) true := ⟨_, _, _, rfl, by decide, wm_2 102 rfl rfl, rfl, tyX6_ok _ (by decide), rfl⟩
set_option maxRecDepth 100000 in
theorem fl_X10_10 : FL RX10 10 9 0 (.object "MotherTowns$Tape") true := ⟨_, _, _, rfl, by decide, wm_2 115 rfl rfl, rfl, tyX10_ok _ (by decide), rfl⟩
set_option maxRecDepth 100000 in
theorem fl_X10_19 : FL RX10 19 9 1 (.object "MotherTowns$Charters") true := ⟨_, _, _, rfl, by decide, wm_2 116 rfl rfl, rfl, tyX10_ok _ (by decide), rfl⟩
set_option maxRecDepth 100000 in
theorem fl_X10_26 : FL RX10 26 9 2 (.object "MotherTowns$Tree") true := ⟨_, _, _, rfl, by decide, wm_2 117 rfl rfl, rfl, tyX10_ok _ (by decide), rfl⟩
set_option maxRecDepth 100000 in
theorem fl_X10_35 : FL RX10 35 9 3 (.object "MotherTowns$Fillings") true := ⟨_, _, _, rfl, by decide, wm_2 118 rfl rfl, rfl, tyX10_ok _ (by decide), rfl⟩
set_option maxRecDepth 100000 in
theorem fl_X10_44 : FL RX10 44 9 4 (.object "MotherTowns$BestTrees") true := ⟨_, _, _, rfl, by decide, wm_2 119 rfl rfl, rfl, tyX10_ok _ (by decide), rfl⟩
set_option maxRecDepth 100000 in
theorem fl_X10_51 : FL RX10 51 9 5 (.object "MotherTowns$Clashes") true := ⟨_, _, _, rfl, by decide, wm_2 120 rfl rfl, rfl, tyX10_ok _ (by decide), rfl⟩
set_option maxRecDepth 100000 in
theorem fl_X10_58 : FL RX10 58 9 6 (.object "MotherTowns$Claims") true := ⟨_, _, _, rfl, by decide, wm_2 121 rfl rfl, rfl, tyX10_ok _ (by decide), rfl⟩
set_option maxRecDepth 100000 in
theorem fl_X10_65 : FL RX10 65 9 7 (.object "MotherTowns$Paths") true := ⟨_, _, _, rfl, by decide, wm_2 122 rfl rfl, rfl, tyX10_ok _ (by decide), rfl⟩
set_option maxRecDepth 100000 in
theorem fl_X10_71 : FL RX10 71 9 8 (.array (.object "MotherTowns$Shelf")) true := ⟨_, _, _, rfl, by decide, wm_2 123 rfl rfl, rfl, tyX10_ok _ (by decide), rfl⟩
set_option maxRecDepth 100000 in
theorem cb_X10_feed : CLB yX10_feed cX10_feed 3 (some .int) 2 := ⟨wm_2 146 rfl rfl, wm_1 1 rfl rfl, ⟨by decide +kernel, by decide +kernel, by decide +kernel⟩, by decide⟩
set_option maxRecDepth 100000 in
theorem cl_L_13 : CLV RL 13 yX10_feed cX10_feed 3 (some .int) 2 := ⟨cb_X10_feed, wm_2 143 rfl rfl, wm_2 144 rfl rfl, wm_2 145 rfl rfl⟩
set_option maxRecDepth 100000 in
theorem cb_X8_take : CLB yX8_take cX8_take 4 (some .int) 2 := ⟨wm_2 150 rfl rfl, wm_1 2 rfl rfl, ⟨by decide +kernel, by decide +kernel, by decide +kernel⟩, by decide⟩
set_option maxRecDepth 100000 in
theorem cl_X10_76 : CLV RX10 76 yX8_take cX8_take 4 (some .int) 2 := ⟨cb_X8_take, wm_2 147 rfl rfl, wm_2 148 rfl rfl, wm_2 149 rfl rfl⟩
set_option maxRecDepth 100000 in
theorem cb_X10_charter : CLB yX10_charter cX10_charter 2 (some .int) 0 := ⟨wm_2 154 rfl rfl, wm_1 1 rfl rfl, ⟨by decide +kernel, by decide +kernel, by decide +kernel⟩, by decide⟩
set_option maxRecDepth 100000 in
theorem cl_L_18 : CLV RL 18 yX10_charter cX10_charter 2 (some .int) 0 := ⟨cb_X10_charter, wm_2 151 rfl rfl, wm_2 152 rfl rfl, wm_2 153 rfl rfl⟩
set_option maxRecDepth 100000 in
theorem cb_X8_read : CLB yX8_read cX8_read 3 (some .int) 1 := ⟨wm_2 158 rfl rfl, wm_1 2 rfl rfl, ⟨by decide +kernel, by decide +kernel, by decide +kernel⟩, by decide⟩
set_option maxRecDepth 100000 in
theorem cl_X10_84 : CLV RX10 84 yX8_read cX8_read 3 (some .int) 1 := ⟨cb_X8_read, wm_2 155 rfl rfl, wm_2 156 rfl rfl, wm_2 157 rfl rfl⟩
set_option maxRecDepth 100000 in
theorem cl_X8_28 : CLS RX8 28 yJ7_fill_53178 cJ7_fill_53178 4 none 2 := ⟨cb_J7_fill_53178, wm_2 159 rfl rfl, wm_1 66 rfl rfl⟩
set_option maxRecDepth 100000 in
theorem cb_X8_readDays : CLB yX8_readDays cX8_readDays 2 (some .int) 0 := ⟨wm_2 163 rfl rfl, wm_1 2 rfl rfl, ⟨by decide +kernel, by decide +kernel, by decide +kernel⟩, by decide⟩
set_option maxRecDepth 100000 in
theorem cl_X8_34 : CLV RX8 34 yX8_readDays cX8_readDays 2 (some .int) 0 := ⟨cb_X8_readDays, wm_2 160 rfl rfl, wm_2 162 rfl rfl, wm_0 0 rfl rfl⟩
set_option maxRecDepth 100000 in
theorem cb_X8_number : CLB yX8_number cX8_number 4 (some .int) 1 := ⟨wm_2 167 rfl rfl, wm_1 2 rfl rfl, ⟨by decide +kernel, by decide +kernel, by decide +kernel⟩, by decide⟩
set_option maxRecDepth 100000 in
theorem cl_X8_45 : CLV RX8 45 yX8_number cX8_number 4 (some .int) 1 := ⟨cb_X8_number, wm_2 164 rfl rfl, wm_2 166 rfl rfl, wm_0 1 rfl rfl⟩
set_option maxRecDepth 100000 in
theorem cb_X8_sign : CLB yX8_sign cX8_sign 1 (some .int) 0 := ⟨wm_2 171 rfl rfl, wm_1 2 rfl rfl, ⟨by decide +kernel, by decide +kernel, by decide +kernel⟩, by decide⟩
set_option maxRecDepth 100000 in
theorem cl_X8_54 : CLV RX8 54 yX8_sign cX8_sign 1 (some .int) 0 := ⟨cb_X8_sign, wm_2 168 rfl rfl, wm_2 170 rfl rfl, wm_0 2 rfl rfl⟩
set_option maxRecDepth 100000 in
theorem mw_X8_64 : Cond.methodLink RX8 64 Lib.Math.max.name ∈ WS := wm_2 172 rfl rfl
set_option maxRecDepth 100000 in
theorem cb_X8_readClauses : CLB yX8_readClauses cX8_readClauses 5 (some .int) 0 := ⟨wm_2 178 rfl rfl, wm_1 2 rfl rfl, ⟨by decide +kernel, by decide +kernel, by decide +kernel⟩, by decide⟩
set_option maxRecDepth 100000 in
theorem cl_X8_38 : CLV RX8 38 yX8_readClauses cX8_readClauses 5 (some .int) 0 := ⟨cb_X8_readClauses, wm_2 175 rfl rfl, wm_2 177 rfl rfl, wm_0 3 rfl rfl⟩
set_option maxRecDepth 100000 in
theorem cb_X8_readMother : CLB yX8_readMother cX8_readMother 3 (some .int) 1 := ⟨wm_2 188 rfl rfl, wm_1 2 rfl rfl, ⟨by decide +kernel, by decide +kernel, by decide +kernel⟩, by decide⟩
set_option maxRecDepth 100000 in
theorem cl_X8_41 : CLV RX8 41 yX8_readMother cX8_readMother 3 (some .int) 1 := ⟨cb_X8_readMother, wm_2 185 rfl rfl, wm_2 187 rfl rfl, wm_0 4 rfl rfl⟩
set_option maxRecDepth 100000 in
theorem cb_X1_add : CLB yX1_add cX1_add 6 (some .int) 4 := ⟨wm_2 192 rfl rfl, wm_1 3 rfl rfl, ⟨by decide +kernel, by decide +kernel, by decide +kernel⟩, by decide⟩
set_option maxRecDepth 100000 in
theorem cl_X10_104 : CLV RX10 104 yX1_add cX1_add 6 (some .int) 4 := ⟨cb_X1_add, wm_2 189 rfl rfl, wm_2 190 rfl rfl, wm_2 191 rfl rfl⟩
set_option maxRecDepth 100000 in
theorem cb_X1_formCell : CLB yX1_formCell cX1_formCell 3 (some .int) 2 := ⟨wm_2 196 rfl rfl, wm_1 3 rfl rfl, ⟨by decide +kernel, by decide +kernel, by decide +kernel⟩, by decide⟩
set_option maxRecDepth 100000 in
theorem cl_X1_49 : CLV RX1 49 yX1_formCell cX1_formCell 3 (some .int) 2 := ⟨cb_X1_formCell, wm_2 193 rfl rfl, wm_2 194 rfl rfl, wm_2 195 rfl rfl⟩
set_option maxRecDepth 100000 in
theorem mw_X1_53 : Cond.methodLink RX1 53 arraycopyName ∈ WS := wm_2 197 rfl rfl
set_option maxRecDepth 100000 in
theorem cb_X1_motherCell : CLB yX1_motherCell cX1_motherCell 2 (some .int) 1 := ⟨wm_2 203 rfl rfl, wm_1 3 rfl rfl, ⟨by decide +kernel, by decide +kernel, by decide +kernel⟩, by decide⟩
set_option maxRecDepth 100000 in
theorem cl_X1_59 : CLV RX1 59 yX1_motherCell cX1_motherCell 2 (some .int) 1 := ⟨cb_X1_motherCell, wm_2 200 rfl rfl, wm_2 201 rfl rfl, wm_2 202 rfl rfl⟩
set_option maxRecDepth 100000 in
theorem cb_X10_lost : CLB yX10_lost cX10_lost 1 (some .int) 0 := ⟨wm_2 207 rfl rfl, wm_1 1 rfl rfl, ⟨by decide +kernel, by decide +kernel, by decide +kernel⟩, by decide⟩
set_option maxRecDepth 100000 in
theorem cl_L_23 : CLV RL 23 yX10_lost cX10_lost 1 (some .int) 0 := ⟨cb_X10_lost, wm_2 204 rfl rfl, wm_2 205 rfl rfl, wm_2 206 rfl rfl⟩
set_option maxRecDepth 100000 in
theorem cb_X1_addLost : CLB yX1_addLost cX1_addLost 2 (some .int) 0 := ⟨wm_2 211 rfl rfl, wm_1 3 rfl rfl, ⟨by decide +kernel, by decide +kernel, by decide +kernel⟩, by decide⟩
set_option maxRecDepth 100000 in
theorem cl_X10_108 : CLV RX10 108 yX1_addLost cX1_addLost 2 (some .int) 0 := ⟨cb_X1_addLost, wm_2 208 rfl rfl, wm_2 209 rfl rfl, wm_2 210 rfl rfl⟩
set_option maxRecDepth 100000 in
theorem cl_X1_63 : CLV RX1 63 yX1_add cX1_add 6 (some .int) 4 := ⟨cb_X1_add, wm_2 212 rfl rfl, wm_2 190 rfl rfl, wm_2 191 rfl rfl⟩
set_option maxRecDepth 100000 in
theorem cb_X10_ofCharter : CLB yX10_ofCharter cX10_ofCharter 3 (some .int) 2 := ⟨wm_2 216 rfl rfl, wm_1 1 rfl rfl, ⟨by decide +kernel, by decide +kernel, by decide +kernel⟩, by decide⟩
set_option maxRecDepth 100000 in
theorem cl_L_27 : CLV RL 27 yX10_ofCharter cX10_ofCharter 3 (some .int) 2 := ⟨cb_X10_ofCharter, wm_2 213 rfl rfl, wm_2 214 rfl rfl, wm_2 215 rfl rfl⟩
set_option maxRecDepth 100000 in
theorem cb_X1_has : CLB yX1_has cX1_has 2 (some .boolean) 1 := ⟨wm_2 220 rfl rfl, wm_1 3 rfl rfl, ⟨by decide +kernel, by decide +kernel, by decide +kernel⟩, by decide⟩
set_option maxRecDepth 100000 in
theorem cl_X10_112 : CLV RX10 112 yX1_has cX1_has 2 (some .boolean) 1 := ⟨cb_X1_has, wm_2 217 rfl rfl, wm_2 218 rfl rfl, wm_2 219 rfl rfl⟩
set_option maxRecDepth 100000 in
theorem cb_X1_told : CLB yX1_told cX1_told 3 (some .int) 2 := ⟨wm_2 224 rfl rfl, wm_1 3 rfl rfl, ⟨by decide +kernel, by decide +kernel, by decide +kernel⟩, by decide⟩
set_option maxRecDepth 100000 in
theorem cl_X10_125 : CLV RX10 125 yX1_told cX1_told 3 (some .int) 2 := ⟨cb_X1_told, wm_2 221 rfl rfl, wm_2 222 rfl rfl, wm_2 223 rfl rfl⟩
set_option maxRecDepth 100000 in
theorem cb_X10_form : CLB yX10_form cX10_form 4 (some .int) 3 := ⟨wm_2 228 rfl rfl, wm_1 1 rfl rfl, ⟨by decide +kernel, by decide +kernel, by decide +kernel⟩, by decide⟩
set_option maxRecDepth 100000 in
theorem cl_L_31 : CLV RL 31 yX10_form cX10_form 4 (some .int) 3 := ⟨cb_X10_form, wm_2 225 rfl rfl, wm_2 226 rfl rfl, wm_2 227 rfl rfl⟩
set_option maxRecDepth 100000 in
theorem cb_X10_isClause : CLB yX10_isClause cX10_isClause 1 (some .boolean) 1 := ⟨wm_2 181 rfl rfl, wm_1 1 rfl rfl, ⟨by decide +kernel, by decide +kernel, by decide +kernel⟩, by decide⟩
set_option maxRecDepth 100000 in
theorem cl_X10_128 : CLS RX10 128 yX10_isClause cX10_isClause 1 (some .boolean) 1 := ⟨cb_X10_isClause, wm_2 229 rfl rfl, wm_2 180 rfl rfl⟩
set_option maxRecDepth 100000 in
theorem cb_X10_isForm : CLB yX10_isForm cX10_isForm 1 (some .boolean) 1 := ⟨wm_2 184 rfl rfl, wm_1 1 rfl rfl, ⟨by decide +kernel, by decide +kernel, by decide +kernel⟩, by decide⟩
set_option maxRecDepth 100000 in
theorem cl_X10_131 : CLS RX10 131 yX10_isForm cX10_isForm 1 (some .boolean) 1 := ⟨cb_X10_isForm, wm_2 230 rfl rfl, wm_2 183 rfl rfl⟩
set_option maxRecDepth 100000 in
theorem cl_X10_134 : CLV RX10 134 yX1_formCell cX1_formCell 3 (some .int) 2 := ⟨cb_X1_formCell, wm_2 231 rfl rfl, wm_2 194 rfl rfl, wm_2 195 rfl rfl⟩
set_option maxRecDepth 100000 in
theorem cb_X1_change : CLB yX1_change cX1_change 4 (some .int) 2 := ⟨wm_2 235 rfl rfl, wm_1 3 rfl rfl, ⟨by decide +kernel, by decide +kernel, by decide +kernel⟩, by decide⟩
set_option maxRecDepth 100000 in
theorem cl_X10_137 : CLV RX10 137 yX1_change cX1_change 4 (some .int) 2 := ⟨cb_X1_change, wm_2 232 rfl rfl, wm_2 233 rfl rfl, wm_2 234 rfl rfl⟩
set_option maxRecDepth 100000 in
theorem cb_X1_dropOldest : CLB yX1_dropOldest cX1_dropOldest 1 none 0 := ⟨wm_2 239 rfl rfl, wm_1 3 rfl rfl, ⟨by decide +kernel, by decide +kernel, by decide +kernel⟩, by decide⟩
set_option maxRecDepth 100000 in
theorem cl_X1_76 : CLV RX1 76 yX1_dropOldest cX1_dropOldest 1 none 0 := ⟨cb_X1_dropOldest, wm_2 236 rfl rfl, wm_2 238 rfl rfl, wm_0 5 rfl rfl⟩
set_option maxRecDepth 100000 in
theorem cb_X10_forms : CLB yX10_forms cX10_forms 8 (some .int) 4 := ⟨wm_3 3 rfl rfl, wm_1 1 rfl rfl, ⟨by decide +kernel, by decide +kernel, by decide +kernel⟩, by decide⟩
set_option maxRecDepth 100000 in
theorem cl_L_36 : CLV RL 36 yX10_forms cX10_forms 8 (some .int) 4 := ⟨cb_X10_forms, wm_3 0 rfl rfl, wm_3 1 rfl rfl, wm_3 2 rfl rfl⟩
set_option maxRecDepth 100000 in
theorem cb_X10_isShelf : CLB yX10_isShelf cX10_isShelf 1 (some .boolean) 1 := ⟨wm_3 6 rfl rfl, wm_1 1 rfl rfl, ⟨by decide +kernel, by decide +kernel, by decide +kernel⟩, by decide⟩
set_option maxRecDepth 100000 in
theorem cl_X10_140 : CLS RX10 140 yX10_isShelf cX10_isShelf 1 (some .boolean) 1 := ⟨cb_X10_isShelf, wm_3 4 rfl rfl, wm_3 5 rfl rfl⟩
set_option maxRecDepth 100000 in
theorem cb_X6_hasPlace : CLB yX6_hasPlace cX6_hasPlace 3 (some .boolean) 1 := ⟨wm_3 10 rfl rfl, wm_1 11 rfl rfl, ⟨by decide +kernel, by decide +kernel, by decide +kernel⟩, by decide⟩
set_option maxRecDepth 100000 in
theorem cl_X10_149 : CLV RX10 149 yX6_hasPlace cX6_hasPlace 3 (some .boolean) 1 := ⟨cb_X6_hasPlace, wm_3 7 rfl rfl, wm_3 8 rfl rfl, wm_3 9 rfl rfl⟩
set_option maxRecDepth 100000 in
theorem cb_X10_price : CLB yX10_price cX10_price 3 (some .int) 2 := ⟨wm_3 14 rfl rfl, wm_1 1 rfl rfl, ⟨by decide +kernel, by decide +kernel, by decide +kernel⟩, by decide⟩
set_option maxRecDepth 100000 in
theorem cl_L_41 : CLV RL 41 yX10_price cX10_price 3 (some .int) 2 := ⟨cb_X10_price, wm_3 11 rfl rfl, wm_3 12 rfl rfl, wm_3 13 rfl rfl⟩
set_option maxRecDepth 100000 in
theorem cb_X1_costCell : CLB yX1_costCell cX1_costCell 2 (some .int) 1 := ⟨wm_3 18 rfl rfl, wm_1 3 rfl rfl, ⟨by decide +kernel, by decide +kernel, by decide +kernel⟩, by decide⟩
set_option maxRecDepth 100000 in
theorem cl_X10_157 : CLV RX10 157 yX1_costCell cX1_costCell 2 (some .int) 1 := ⟨cb_X1_costCell, wm_3 15 rfl rfl, wm_3 16 rfl rfl, wm_3 17 rfl rfl⟩
set_option maxRecDepth 100000 in
theorem cb_X10_same : CLB yX10_same cX10_same 9 (some .int) 3 := ⟨wm_3 22 rfl rfl, wm_1 1 rfl rfl, ⟨by decide +kernel, by decide +kernel, by decide +kernel⟩, by decide⟩
set_option maxRecDepth 100000 in
theorem cl_L_45 : CLV RL 45 yX10_same cX10_same 9 (some .int) 3 := ⟨cb_X10_same, wm_3 19 rfl rfl, wm_3 20 rfl rfl, wm_3 21 rfl rfl⟩
set_option maxRecDepth 100000 in
theorem cb_X10_mother : CLB yX10_mother cX10_mother 3 (some .int) 2 := ⟨wm_3 26 rfl rfl, wm_1 1 rfl rfl, ⟨by decide +kernel, by decide +kernel, by decide +kernel⟩, by decide⟩
set_option maxRecDepth 100000 in
theorem cl_L_49 : CLV RL 49 yX10_mother cX10_mother 3 (some .int) 2 := ⟨cb_X10_mother, wm_3 23 rfl rfl, wm_3 24 rfl rfl, wm_3 25 rfl rfl⟩
set_option maxRecDepth 100000 in
theorem kw_X10_160 : Cond.constant RX10 160 (Int32.ofInt (-2000000000)) ∈ WS := wm_3 27 rfl rfl
set_option maxRecDepth 100000 in
theorem cb_X1_isUnder : CLB yX1_isUnder cX1_isUnder 5 (some .boolean) 2 := ⟨wm_3 31 rfl rfl, wm_1 3 rfl rfl, ⟨by decide +kernel, by decide +kernel, by decide +kernel⟩, by decide⟩
set_option maxRecDepth 100000 in
theorem cl_X10_161 : CLV RX10 161 yX1_isUnder cX1_isUnder 5 (some .boolean) 2 := ⟨cb_X1_isUnder, wm_3 28 rfl rfl, wm_3 29 rfl rfl, wm_3 30 rfl rfl⟩
set_option maxRecDepth 100000 in
theorem cb_X1_motherOf : CLB yX1_motherOf cX1_motherOf 2 (some .int) 1 := ⟨wm_3 35 rfl rfl, wm_1 3 rfl rfl, ⟨by decide +kernel, by decide +kernel, by decide +kernel⟩, by decide⟩
set_option maxRecDepth 100000 in
theorem cl_X1_70 : CLV RX1 70 yX1_motherOf cX1_motherOf 2 (some .int) 1 := ⟨cb_X1_motherOf, wm_3 32 rfl rfl, wm_3 33 rfl rfl, wm_3 34 rfl rfl⟩
set_option maxRecDepth 100000 in
theorem cl_X10_165 : CLV RX10 165 yX1_motherCell cX1_motherCell 2 (some .int) 1 := ⟨cb_X1_motherCell, wm_3 36 rfl rfl, wm_2 201 rfl rfl, wm_2 202 rfl rfl⟩
set_option maxRecDepth 100000 in
theorem cb_X10_cost : CLB yX10_cost cX10_cost 4 (some .int) 1 := ⟨wm_3 40 rfl rfl, wm_1 1 rfl rfl, ⟨by decide +kernel, by decide +kernel, by decide +kernel⟩, by decide⟩
set_option maxRecDepth 100000 in
theorem cl_L_53 : CLV RL 53 yX10_cost cX10_cost 4 (some .int) 1 := ⟨cb_X10_cost, wm_3 37 rfl rfl, wm_3 38 rfl rfl, wm_3 39 rfl rfl⟩
set_option maxRecDepth 100000 in
theorem cb_X9_growAsTold : CLB yX9_growAsTold cX9_growAsTold 3 none 1 := ⟨wm_3 44 rfl rfl, wm_1 5 rfl rfl, ⟨by decide +kernel, by decide +kernel, by decide +kernel⟩, by decide⟩
set_option maxRecDepth 100000 in
theorem cl_X10_168 : CLV RX10 168 yX9_growAsTold cX9_growAsTold 3 none 1 := ⟨cb_X9_growAsTold, wm_3 41 rfl rfl, wm_3 42 rfl rfl, wm_3 43 rfl rfl⟩
set_option maxRecDepth 100000 in
theorem cl_X9_54 : CLV RX9 54 yX1_motherOf cX1_motherOf 2 (some .int) 1 := ⟨cb_X1_motherOf, wm_3 45 rfl rfl, wm_3 33 rfl rfl, wm_3 34 rfl rfl⟩
set_option maxRecDepth 100000 in
theorem cb_X9_takeCosts : CLB yX9_takeCosts cX9_takeCosts 5 none 1 := ⟨wm_3 49 rfl rfl, wm_1 5 rfl rfl, ⟨by decide +kernel, by decide +kernel, by decide +kernel⟩, by decide⟩
set_option maxRecDepth 100000 in
theorem cl_X9_60 : CLV RX9 60 yX9_takeCosts cX9_takeCosts 5 none 1 := ⟨cb_X9_takeCosts, wm_3 46 rfl rfl, wm_3 47 rfl rfl, wm_3 48 rfl rfl⟩
set_option maxRecDepth 100000 in
theorem cb_X1_costOf : CLB yX1_costOf cX1_costOf 2 (some .int) 1 := ⟨wm_3 53 rfl rfl, wm_1 3 rfl rfl, ⟨by decide +kernel, by decide +kernel, by decide +kernel⟩, by decide⟩
set_option maxRecDepth 100000 in
theorem cl_X9_68 : CLV RX9 68 yX1_costOf cX1_costOf 2 (some .int) 1 := ⟨cb_X1_costOf, wm_3 50 rfl rfl, wm_3 51 rfl rfl, wm_3 52 rfl rfl⟩
set_option maxRecDepth 100000 in
theorem cl_X1_67 : CLV RX1 67 yX1_costCell cX1_costCell 2 (some .int) 1 := ⟨cb_X1_costCell, wm_3 54 rfl rfl, wm_3 16 rfl rfl, wm_3 17 rfl rfl⟩
set_option maxRecDepth 100000 in
theorem cb_X9_arrange : CLB yX9_arrange cX9_arrange 6 (some .boolean) 0 := ⟨wm_3 58 rfl rfl, wm_1 5 rfl rfl, ⟨by decide +kernel, by decide +kernel, by decide +kernel⟩, by decide⟩
set_option maxRecDepth 100000 in
theorem cl_X9_64 : CLV RX9 64 yX9_arrange cX9_arrange 6 (some .boolean) 0 := ⟨cb_X9_arrange, wm_3 55 rfl rfl, wm_3 56 rfl rfl, wm_3 57 rfl rfl⟩
set_option maxRecDepth 100000 in
theorem cb_X9_write : CLB yX9_write cX9_write 4 none 2 := ⟨wm_3 62 rfl rfl, wm_1 5 rfl rfl, ⟨by decide +kernel, by decide +kernel, by decide +kernel⟩, by decide⟩
set_option maxRecDepth 100000 in
theorem cl_X10_171 : CLV RX10 171 yX9_write cX9_write 4 none 2 := ⟨cb_X9_write, wm_3 59 rfl rfl, wm_3 60 rfl rfl, wm_3 61 rfl rfl⟩
set_option maxRecDepth 100000 in
theorem cl_X9_71 : CLV RX9 71 yX1_told cX1_told 3 (some .int) 2 := ⟨cb_X1_told, wm_3 63 rfl rfl, wm_2 222 rfl rfl, wm_2 223 rfl rfl⟩
set_option maxRecDepth 100000 in
theorem cb_X9_least : CLB yX9_least cX9_least 4 (some .int) 0 := ⟨wm_3 67 rfl rfl, wm_1 5 rfl rfl, ⟨by decide +kernel, by decide +kernel, by decide +kernel⟩, by decide⟩
set_option maxRecDepth 100000 in
theorem cl_X10_175 : CLV RX10 175 yX9_least cX9_least 4 (some .int) 0 := ⟨cb_X9_least, wm_3 64 rfl rfl, wm_3 65 rfl rfl, wm_3 66 rfl rfl⟩
set_option maxRecDepth 100000 in
theorem kw_X9_83 : Cond.constant RX9 83 (Int32.ofInt (16777216)) ∈ WS := wm_3 68 rfl rfl
set_option maxRecDepth 100000 in
theorem cb_X9_smallestBelow : CLB yX9_smallestBelow cX9_smallestBelow 4 (some .int) 1 := ⟨wm_3 72 rfl rfl, wm_1 5 rfl rfl, ⟨by decide +kernel, by decide +kernel, by decide +kernel⟩, by decide⟩
set_option maxRecDepth 100000 in
theorem cl_X9_84 : CLV RX9 84 yX9_smallestBelow cX9_smallestBelow 4 (some .int) 1 := ⟨cb_X9_smallestBelow, wm_3 69 rfl rfl, wm_3 71 rfl rfl, wm_0 6 rfl rfl⟩
set_option maxRecDepth 100000 in
theorem mw_X9_80 : Cond.methodLink RX9 80 Lib.Math.min.name ∈ WS := wm_3 73 rfl rfl
set_option maxRecDepth 100000 in
theorem cb_X9_hang : CLB yX9_hang cX9_hang 8 none 2 := ⟨wm_3 79 rfl rfl, wm_1 5 rfl rfl, ⟨by decide +kernel, by decide +kernel, by decide +kernel⟩, by decide⟩
set_option maxRecDepth 100000 in
theorem cl_X9_87 : CLV RX9 87 yX9_hang cX9_hang 8 none 2 := ⟨cb_X9_hang, wm_3 76 rfl rfl, wm_3 78 rfl rfl, wm_0 7 rfl rfl⟩
set_option maxRecDepth 100000 in
theorem cb_X10_filled : CLB yX10_filled cX10_filled 4 (some .int) 2 := ⟨wm_3 83 rfl rfl, wm_1 1 rfl rfl, ⟨by decide +kernel, by decide +kernel, by decide +kernel⟩, by decide⟩
set_option maxRecDepth 100000 in
theorem cl_L_58 : CLV RL 58 yX10_filled cX10_filled 4 (some .int) 2 := ⟨cb_X10_filled, wm_3 80 rfl rfl, wm_3 81 rfl rfl, wm_3 82 rfl rfl⟩
set_option maxRecDepth 100000 in
theorem cb_X4_burntForms : CLB yX4_burntForms cX4_burntForms 3 (some .int) 2 := ⟨wm_3 87 rfl rfl, wm_1 6 rfl rfl, ⟨by decide +kernel, by decide +kernel, by decide +kernel⟩, by decide⟩
set_option maxRecDepth 100000 in
theorem cl_X10_178 : CLV RX10 178 yX4_burntForms cX4_burntForms 3 (some .int) 2 := ⟨cb_X4_burntForms, wm_3 84 rfl rfl, wm_3 85 rfl rfl, wm_3 86 rfl rfl⟩
set_option maxRecDepth 100000 in
theorem cl_X4_32 : CLV RX4 32 yX9_growAsTold cX9_growAsTold 3 none 1 := ⟨cb_X9_growAsTold, wm_3 88 rfl rfl, wm_3 42 rfl rfl, wm_3 43 rfl rfl⟩
set_option maxRecDepth 100000 in
theorem cl_X4_38 : CLV RX4 38 yX9_write cX9_write 4 none 2 := ⟨cb_X9_write, wm_3 89 rfl rfl, wm_3 60 rfl rfl, wm_3 61 rfl rfl⟩
set_option maxRecDepth 100000 in
theorem cl_X4_45 : CLV RX4 45 yX9_least cX9_least 4 (some .int) 0 := ⟨cb_X9_least, wm_3 90 rfl rfl, wm_3 65 rfl rfl, wm_3 66 rfl rfl⟩
set_option maxRecDepth 100000 in
theorem cb_X9_spread : CLB yX9_spread cX9_spread 5 none 0 := ⟨wm_3 94 rfl rfl, wm_1 5 rfl rfl, ⟨by decide +kernel, by decide +kernel, by decide +kernel⟩, by decide⟩
set_option maxRecDepth 100000 in
theorem cl_X4_49 : CLV RX4 49 yX9_spread cX9_spread 5 none 0 := ⟨cb_X9_spread, wm_3 91 rfl rfl, wm_3 92 rfl rfl, wm_3 93 rfl rfl⟩
set_option maxRecDepth 100000 in
theorem cb_X9_besideBranch : CLB yX9_besideBranch cX9_besideBranch 7 (some .int) 3 := ⟨wm_3 98 rfl rfl, wm_1 5 rfl rfl, ⟨by decide +kernel, by decide +kernel, by decide +kernel⟩, by decide⟩
set_option maxRecDepth 100000 in
theorem cl_X9_91 : CLV RX9 91 yX9_besideBranch cX9_besideBranch 7 (some .int) 3 := ⟨cb_X9_besideBranch, wm_3 95 rfl rfl, wm_3 97 rfl rfl, wm_0 8 rfl rfl⟩
set_option maxRecDepth 100000 in
theorem cb_X9_maybe : CLB yX9_maybe cX9_maybe 6 (some .int) 1 := ⟨wm_3 102 rfl rfl, wm_1 5 rfl rfl, ⟨by decide +kernel, by decide +kernel, by decide +kernel⟩, by decide⟩
set_option maxRecDepth 100000 in
theorem cl_X4_52 : CLV RX4 52 yX9_maybe cX9_maybe 6 (some .int) 1 := ⟨cb_X9_maybe, wm_3 99 rfl rfl, wm_3 100 rfl rfl, wm_3 101 rfl rfl⟩
set_option maxRecDepth 100000 in
theorem cb_X10_days : CLB yX10_days cX10_days 4 (some .int) 2 := ⟨wm_3 106 rfl rfl, wm_1 1 rfl rfl, ⟨by decide +kernel, by decide +kernel, by decide +kernel⟩, by decide⟩
set_option maxRecDepth 100000 in
theorem cl_L_62 : CLV RL 62 yX10_days cX10_days 4 (some .int) 2 := ⟨cb_X10_days, wm_3 103 rfl rfl, wm_3 104 rfl rfl, wm_3 105 rfl rfl⟩
set_option maxRecDepth 100000 in
theorem cb_X9_firstLate : CLB yX9_firstLate cX9_firstLate 4 (some .int) 0 := ⟨wm_3 110 rfl rfl, wm_1 5 rfl rfl, ⟨by decide +kernel, by decide +kernel, by decide +kernel⟩, by decide⟩
set_option maxRecDepth 100000 in
theorem cl_X10_181 : CLV RX10 181 yX9_firstLate cX9_firstLate 4 (some .int) 0 := ⟨cb_X9_firstLate, wm_3 107 rfl rfl, wm_3 108 rfl rfl, wm_3 109 rfl rfl⟩
set_option maxRecDepth 100000 in
theorem mw_X9_75 : Cond.methodLink RX9 75 Lib.Math.max.name ∈ WS := wm_3 111 rfl rfl
set_option maxRecDepth 100000 in
theorem cb_X9_latestOf : CLB yX9_latestOf cX9_latestOf 4 (some .int) 1 := ⟨wm_3 115 rfl rfl, wm_1 5 rfl rfl, ⟨by decide +kernel, by decide +kernel, by decide +kernel⟩, by decide⟩
set_option maxRecDepth 100000 in
theorem cl_X10_187 : CLV RX10 187 yX9_latestOf cX9_latestOf 4 (some .int) 1 := ⟨cb_X9_latestOf, wm_3 112 rfl rfl, wm_3 113 rfl rfl, wm_3 114 rfl rfl⟩
set_option maxRecDepth 100000 in
theorem cb_X10_list : CLB yX10_list cX10_list 2 (some .int) 1 := ⟨wm_3 119 rfl rfl, wm_1 1 rfl rfl, ⟨by decide +kernel, by decide +kernel, by decide +kernel⟩, by decide⟩
set_option maxRecDepth 100000 in
theorem cl_L_66 : CLV RL 66 yX10_list cX10_list 2 (some .int) 1 := ⟨cb_X10_list, wm_3 116 rfl rfl, wm_3 117 rfl rfl, wm_3 118 rfl rfl⟩
set_option maxRecDepth 100000 in
theorem cb_X0_placeOf : CLB yX0_placeOf cX0_placeOf 3 (some .int) 1 := ⟨wm_3 123 rfl rfl, wm_1 7 rfl rfl, ⟨by decide +kernel, by decide +kernel, by decide +kernel⟩, by decide⟩
set_option maxRecDepth 100000 in
theorem cl_X10_190 : CLV RX10 190 yX0_placeOf cX0_placeOf 3 (some .int) 1 := ⟨cb_X0_placeOf, wm_3 120 rfl rfl, wm_3 121 rfl rfl, wm_3 122 rfl rfl⟩
set_option maxRecDepth 100000 in
theorem cb_X0_tell : CLB yX0_tell cX0_tell 2 (some .int) 1 := ⟨wm_3 127 rfl rfl, wm_1 7 rfl rfl, ⟨by decide +kernel, by decide +kernel, by decide +kernel⟩, by decide⟩
set_option maxRecDepth 100000 in
theorem cl_X10_196 : CLV RX10 196 yX0_tell cX0_tell 2 (some .int) 1 := ⟨cb_X0_tell, wm_3 124 rfl rfl, wm_3 125 rfl rfl, wm_3 126 rfl rfl⟩
set_option maxRecDepth 100000 in
theorem cb_X10_unlist : CLB yX10_unlist cX10_unlist 1 (some .int) 0 := ⟨wm_3 131 rfl rfl, wm_1 1 rfl rfl, ⟨by decide +kernel, by decide +kernel, by decide +kernel⟩, by decide⟩
set_option maxRecDepth 100000 in
theorem cl_L_70 : CLV RL 70 yX10_unlist cX10_unlist 1 (some .int) 0 := ⟨cb_X10_unlist, wm_3 128 rfl rfl, wm_3 129 rfl rfl, wm_3 130 rfl rfl⟩
set_option maxRecDepth 100000 in
theorem cb_X0_forget : CLB yX0_forget cX0_forget 2 (some .int) 0 := ⟨wm_3 135 rfl rfl, wm_1 7 rfl rfl, ⟨by decide +kernel, by decide +kernel, by decide +kernel⟩, by decide⟩
set_option maxRecDepth 100000 in
theorem cl_X10_199 : CLV RX10 199 yX0_forget cX0_forget 2 (some .int) 0 := ⟨cb_X0_forget, wm_3 132 rfl rfl, wm_3 133 rfl rfl, wm_3 134 rfl rfl⟩
set_option maxRecDepth 100000 in
theorem cb_X10_best : CLB yX10_best cX10_best 2 (some .int) 1 := ⟨wm_3 139 rfl rfl, wm_1 1 rfl rfl, ⟨by decide +kernel, by decide +kernel, by decide +kernel⟩, by decide⟩
set_option maxRecDepth 100000 in
theorem cl_L_74 : CLV RL 74 yX10_best cX10_best 2 (some .int) 1 := ⟨cb_X10_best, wm_3 136 rfl rfl, wm_3 137 rfl rfl, wm_3 138 rfl rfl⟩
set_option maxRecDepth 100000 in
theorem cb_X0_bound : CLB yX0_bound cX0_bound 5 (some .int) 0 := ⟨wm_3 143 rfl rfl, wm_1 7 rfl rfl, ⟨by decide +kernel, by decide +kernel, by decide +kernel⟩, by decide⟩
set_option maxRecDepth 100000 in
theorem cl_X10_202 : CLV RX10 202 yX0_bound cX0_bound 5 (some .int) 0 := ⟨cb_X0_bound, wm_3 140 rfl rfl, wm_3 141 rfl rfl, wm_3 142 rfl rfl⟩
set_option maxRecDepth 100000 in
theorem cl_X0_51 : CLV RX0 51 yX1_costOf cX1_costOf 2 (some .int) 1 := ⟨cb_X1_costOf, wm_3 144 rfl rfl, wm_3 51 rfl rfl, wm_3 52 rfl rfl⟩
set_option maxRecDepth 100000 in
theorem mw_X0_57 : Cond.methodLink RX0 57 Lib.Math.min.name ∈ WS := wm_3 145 rfl rfl
set_option maxRecDepth 100000 in
theorem cb_X0_toldForms : CLB yX0_toldForms cX0_toldForms 5 (some .int) 1 := ⟨wm_3 149 rfl rfl, wm_1 7 rfl rfl, ⟨by decide +kernel, by decide +kernel, by decide +kernel⟩, by decide⟩
set_option maxRecDepth 100000 in
theorem cl_X0_63 : CLV RX0 63 yX0_toldForms cX0_toldForms 5 (some .int) 1 := ⟨cb_X0_toldForms, wm_3 146 rfl rfl, wm_3 148 rfl rfl, wm_0 9 rfl rfl⟩
set_option maxRecDepth 100000 in
theorem cl_X0_74 : CLV RX0 74 yX1_told cX1_told 3 (some .int) 2 := ⟨cb_X1_told, wm_3 150 rfl rfl, wm_2 222 rfl rfl, wm_2 223 rfl rfl⟩
set_option maxRecDepth 100000 in
theorem cb_J6_bitCount_0f7a4 : CLB yJ6_bitCount_0f7a4 cJ6_bitCount_0f7a4 1 (some .int) 1 := ⟨wm_3 153 rfl rfl, wm_1 15 rfl rfl, ⟨by decide +kernel, by decide +kernel, by decide +kernel⟩, by decide⟩
set_option maxRecDepth 100000 in
theorem cl_X0_66 : CLS RX0 66 yJ6_bitCount_0f7a4 cJ6_bitCount_0f7a4 1 (some .int) 1 := ⟨cb_J6_bitCount_0f7a4, wm_3 151 rfl rfl, wm_3 152 rfl rfl⟩
set_option maxRecDepth 100000 in
theorem kw_J6_265 : Cond.constant RJ6 265 (Int32.ofInt (1431655765)) ∈ WS := wm_3 154 rfl rfl
set_option maxRecDepth 100000 in
theorem kw_J6_266 : Cond.constant RJ6 266 (Int32.ofInt (858993459)) ∈ WS := wm_3 155 rfl rfl
set_option maxRecDepth 100000 in
theorem kw_J6_267 : Cond.constant RJ6 267 (Int32.ofInt (252645135)) ∈ WS := wm_3 156 rfl rfl
set_option maxRecDepth 100000 in
theorem mw_X0_71 : Cond.methodLink RX0 71 Lib.Math.max.name ∈ WS := wm_3 157 rfl rfl
set_option maxRecDepth 100000 in
theorem cb_X0_find : CLB yX0_find cX0_find 5 none 0 := ⟨wm_3 161 rfl rfl, wm_1 7 rfl rfl, ⟨by decide +kernel, by decide +kernel, by decide +kernel⟩, by decide⟩
set_option maxRecDepth 100000 in
theorem cl_X10_205 : CLV RX10 205 yX0_find cX0_find 5 none 0 := ⟨cb_X0_find, wm_3 158 rfl rfl, wm_3 159 rfl rfl, wm_3 160 rfl rfl⟩
set_option maxRecDepth 100000 in
theorem kw_X0_83 : Cond.constant RX0 83 (Int32.ofInt (16777216)) ∈ WS := wm_3 162 rfl rfl
set_option maxRecDepth 100000 in
theorem cb_X0_prepare : CLB yX0_prepare cX0_prepare 2 none 0 := ⟨wm_3 166 rfl rfl, wm_1 7 rfl rfl, ⟨by decide +kernel, by decide +kernel, by decide +kernel⟩, by decide⟩
set_option maxRecDepth 100000 in
theorem cl_X0_87 : CLV RX0 87 yX0_prepare cX0_prepare 2 none 0 := ⟨cb_X0_prepare, wm_3 163 rfl rfl, wm_3 165 rfl rfl, wm_0 10 rfl rfl⟩
set_option maxRecDepth 100000 in
theorem cl_X0_100 : CLV RX0 100 yX9_takeCosts cX9_takeCosts 5 none 1 := ⟨cb_X9_takeCosts, wm_3 167 rfl rfl, wm_3 47 rfl rfl, wm_3 48 rfl rfl⟩
set_option maxRecDepth 100000 in
theorem cl_X0_112 : CLS RX0 112 yJ7_fill_53178 cJ7_fill_53178 4 none 2 := ⟨cb_J7_fill_53178, wm_3 168 rfl rfl, wm_1 66 rfl rfl⟩
set_option maxRecDepth 100000 in
theorem cb_X0_sortClause : CLB yX0_sortClause cX0_sortClause 5 none 1 := ⟨wm_3 172 rfl rfl, wm_1 7 rfl rfl, ⟨by decide +kernel, by decide +kernel, by decide +kernel⟩, by decide⟩
set_option maxRecDepth 100000 in
theorem cl_X0_121 : CLV RX0 121 yX0_sortClause cX0_sortClause 5 none 1 := ⟨cb_X0_sortClause, wm_3 169 rfl rfl, wm_3 171 rfl rfl, wm_0 11 rfl rfl⟩
set_option maxRecDepth 100000 in
theorem cb_X9_stepOf : CLB yX9_stepOf cX9_stepOf 3 (some .int) 2 := ⟨wm_3 176 rfl rfl, wm_1 5 rfl rfl, ⟨by decide +kernel, by decide +kernel, by decide +kernel⟩, by decide⟩
set_option maxRecDepth 100000 in
theorem cl_X0_127 : CLV RX0 127 yX9_stepOf cX9_stepOf 3 (some .int) 2 := ⟨cb_X9_stepOf, wm_3 173 rfl rfl, wm_3 174 rfl rfl, wm_3 175 rfl rfl⟩
set_option maxRecDepth 100000 in
theorem cb_X0_entries : CLB yX0_entries cX0_entries 6 (some .int) 1 := ⟨wm_3 180 rfl rfl, wm_1 7 rfl rfl, ⟨by decide +kernel, by decide +kernel, by decide +kernel⟩, by decide⟩
set_option maxRecDepth 100000 in
theorem cl_X0_124 : CLV RX0 124 yX0_entries cX0_entries 6 (some .int) 1 := ⟨cb_X0_entries, wm_3 177 rfl rfl, wm_3 179 rfl rfl, wm_0 12 rfl rfl⟩
set_option maxRecDepth 100000 in
theorem cb_X0_grow : CLB yX0_grow cX0_grow 6 (some .int) 1 := ⟨wm_3 184 rfl rfl, wm_1 7 rfl rfl, ⟨by decide +kernel, by decide +kernel, by decide +kernel⟩, by decide⟩
set_option maxRecDepth 100000 in
theorem cl_X0_90 : CLV RX0 90 yX0_grow cX0_grow 6 (some .int) 1 := ⟨cb_X0_grow, wm_3 181 rfl rfl, wm_3 183 rfl rfl, wm_0 13 rfl rfl⟩
set_option maxRecDepth 100000 in
theorem cb_X0_chosen : CLB yX0_chosen cX0_chosen 4 (some .int) 2 := ⟨wm_3 188 rfl rfl, wm_1 7 rfl rfl, ⟨by decide +kernel, by decide +kernel, by decide +kernel⟩, by decide⟩
set_option maxRecDepth 100000 in
theorem cl_X0_133 : CLV RX0 133 yX0_chosen cX0_chosen 4 (some .int) 2 := ⟨cb_X0_chosen, wm_3 185 rfl rfl, wm_3 187 rfl rfl, wm_0 14 rfl rfl⟩
set_option maxRecDepth 100000 in
theorem cb_X0_closesRing : CLB yX0_closesRing cX0_closesRing 4 (some .boolean) 1 := ⟨wm_3 192 rfl rfl, wm_1 7 rfl rfl, ⟨by decide +kernel, by decide +kernel, by decide +kernel⟩, by decide⟩
set_option maxRecDepth 100000 in
theorem cl_X0_139 : CLV RX0 139 yX0_closesRing cX0_closesRing 4 (some .boolean) 1 := ⟨cb_X0_closesRing, wm_3 189 rfl rfl, wm_3 191 rfl rfl, wm_0 15 rfl rfl⟩
set_option maxRecDepth 100000 in
theorem cb_X0_weigh : CLB yX0_weigh cX0_weigh 4 none 1 := ⟨wm_3 196 rfl rfl, wm_1 7 rfl rfl, ⟨by decide +kernel, by decide +kernel, by decide +kernel⟩, by decide⟩
set_option maxRecDepth 100000 in
theorem cl_X0_93 : CLV RX0 93 yX0_weigh cX0_weigh 4 none 1 := ⟨cb_X0_weigh, wm_3 193 rfl rfl, wm_3 195 rfl rfl, wm_0 16 rfl rfl⟩
set_option maxRecDepth 100000 in
theorem cl_X0_143 : CLV RX0 143 yX9_arrange cX9_arrange 6 (some .boolean) 0 := ⟨cb_X9_arrange, wm_3 197 rfl rfl, wm_3 56 rfl rfl, wm_3 57 rfl rfl⟩
set_option maxRecDepth 100000 in
theorem cl_X0_147 : CLV RX0 147 yX9_firstLate cX9_firstLate 4 (some .int) 0 := ⟨cb_X9_firstLate, wm_3 198 rfl rfl, wm_3 108 rfl rfl, wm_3 109 rfl rfl⟩
set_option maxRecDepth 100000 in
theorem cb_X0_writeClause : CLB yX0_writeClause cX0_writeClause 3 none 1 := ⟨wm_3 202 rfl rfl, wm_1 7 rfl rfl, ⟨by decide +kernel, by decide +kernel, by decide +kernel⟩, by decide⟩
set_option maxRecDepth 100000 in
theorem cl_X0_151 : CLV RX0 151 yX0_writeClause cX0_writeClause 3 none 1 := ⟨cb_X0_writeClause, wm_3 199 rfl rfl, wm_3 201 rfl rfl, wm_0 17 rfl rfl⟩
set_option maxRecDepth 100000 in
theorem cl_X0_154 : CLV RX0 154 yX9_least cX9_least 4 (some .int) 0 := ⟨cb_X9_least, wm_3 203 rfl rfl, wm_3 65 rfl rfl, wm_3 66 rfl rfl⟩
set_option maxRecDepth 100000 in
theorem cb_X0_sure : CLB yX0_sure cX0_sure 3 (some .int) 0 := ⟨wm_3 207 rfl rfl, wm_1 7 rfl rfl, ⟨by decide +kernel, by decide +kernel, by decide +kernel⟩, by decide⟩
set_option maxRecDepth 100000 in
theorem cl_X10_213 : CLV RX10 213 yX0_sure cX0_sure 3 (some .int) 0 := ⟨cb_X0_sure, wm_3 204 rfl rfl, wm_3 205 rfl rfl, wm_3 206 rfl rfl⟩
set_option maxRecDepth 100000 in
theorem cb_X10_tree : CLB yX10_tree cX10_tree 3 (some .int) 2 := ⟨wm_3 211 rfl rfl, wm_1 1 rfl rfl, ⟨by decide +kernel, by decide +kernel, by decide +kernel⟩, by decide⟩
set_option maxRecDepth 100000 in
theorem cl_L_78 : CLV RL 78 yX10_tree cX10_tree 3 (some .int) 2 := ⟨cb_X10_tree, wm_3 208 rfl rfl, wm_3 209 rfl rfl, wm_3 210 rfl rfl⟩
set_option maxRecDepth 100000 in
theorem cb_X0_motherPlace : CLB yX0_motherPlace cX0_motherPlace 3 (some .int) 2 := ⟨wm_3 215 rfl rfl, wm_1 7 rfl rfl, ⟨by decide +kernel, by decide +kernel, by decide +kernel⟩, by decide⟩
set_option maxRecDepth 100000 in
theorem cl_X10_216 : CLV RX10 216 yX0_motherPlace cX0_motherPlace 3 (some .int) 2 := ⟨cb_X0_motherPlace, wm_3 212 rfl rfl, wm_3 213 rfl rfl, wm_3 214 rfl rfl⟩
set_option maxRecDepth 100000 in
theorem cb_X10_never : CLB yX10_never cX10_never 2 (some .int) 1 := ⟨wm_3 219 rfl rfl, wm_1 1 rfl rfl, ⟨by decide +kernel, by decide +kernel, by decide +kernel⟩, by decide⟩
set_option maxRecDepth 100000 in
theorem cl_L_82 : CLV RL 82 yX10_never cX10_never 2 (some .int) 1 := ⟨cb_X10_never, wm_3 216 rfl rfl, wm_3 217 rfl rfl, wm_3 218 rfl rfl⟩
set_option maxRecDepth 100000 in
theorem cb_X0_neverMothers : CLB yX0_neverMothers cX0_neverMothers 2 (some .int) 1 := ⟨wm_3 223 rfl rfl, wm_1 7 rfl rfl, ⟨by decide +kernel, by decide +kernel, by decide +kernel⟩, by decide⟩
set_option maxRecDepth 100000 in
theorem cl_X10_219 : CLV RX10 219 yX0_neverMothers cX0_neverMothers 2 (some .int) 1 := ⟨cb_X0_neverMothers, wm_3 220 rfl rfl, wm_3 221 rfl rfl, wm_3 222 rfl rfl⟩
set_option maxRecDepth 100000 in
theorem cb_X10_claim : CLB yX10_claim cX10_claim 4 (some .int) 1 := ⟨wm_3 227 rfl rfl, wm_1 1 rfl rfl, ⟨by decide +kernel, by decide +kernel, by decide +kernel⟩, by decide⟩
set_option maxRecDepth 100000 in
theorem cl_L_86 : CLV RL 86 yX10_claim cX10_claim 4 (some .int) 1 := ⟨cb_X10_claim, wm_3 224 rfl rfl, wm_3 225 rfl rfl, wm_3 226 rfl rfl⟩
set_option maxRecDepth 100000 in
theorem cb_X0_borneOut : CLB yX0_borneOut cX0_borneOut 3 (some .int) 2 := ⟨wm_3 231 rfl rfl, wm_1 7 rfl rfl, ⟨by decide +kernel, by decide +kernel, by decide +kernel⟩, by decide⟩
set_option maxRecDepth 100000 in
theorem cl_X10_222 : CLV RX10 222 yX0_borneOut cX0_borneOut 3 (some .int) 2 := ⟨cb_X0_borneOut, wm_3 228 rfl rfl, wm_3 229 rfl rfl, wm_3 230 rfl rfl⟩
set_option maxRecDepth 100000 in
theorem cb_X10_few : CLB yX10_few cX10_few 2 (some .int) 1 := ⟨wm_3 235 rfl rfl, wm_1 1 rfl rfl, ⟨by decide +kernel, by decide +kernel, by decide +kernel⟩, by decide⟩
set_option maxRecDepth 100000 in
theorem cl_L_90 : CLV RL 90 yX10_few cX10_few 2 (some .int) 1 := ⟨cb_X10_few, wm_3 232 rfl rfl, wm_3 233 rfl rfl, wm_3 234 rfl rfl⟩
set_option maxRecDepth 100000 in
theorem cb_X4_leastWith : CLB yX4_leastWith cX4_leastWith 5 (some .int) 1 := ⟨wm_3 239 rfl rfl, wm_1 6 rfl rfl, ⟨by decide +kernel, by decide +kernel, by decide +kernel⟩, by decide⟩
set_option maxRecDepth 100000 in
theorem cl_X10_225 : CLV RX10 225 yX4_leastWith cX4_leastWith 5 (some .int) 1 := ⟨cb_X4_leastWith, wm_3 236 rfl rfl, wm_3 237 rfl rfl, wm_3 238 rfl rfl⟩
set_option maxRecDepth 100000 in
theorem cb_X4_fillClause : CLB yX4_fillClause cX4_fillClause 4 none 1 := ⟨wm_4 3 rfl rfl, wm_1 6 rfl rfl, ⟨by decide +kernel, by decide +kernel, by decide +kernel⟩, by decide⟩
set_option maxRecDepth 100000 in
theorem cl_X4_81 : CLV RX4 81 yX4_fillClause cX4_fillClause 4 none 1 := ⟨cb_X4_fillClause, wm_4 0 rfl rfl, wm_4 2 rfl rfl, wm_0 18 rfl rfl⟩
set_option maxRecDepth 100000 in
theorem cl_X4_62 : CLV RX4 62 yX1_told cX1_told 3 (some .int) 2 := ⟨cb_X1_told, wm_4 4 rfl rfl, wm_2 222 rfl rfl, wm_2 223 rfl rfl⟩
set_option maxRecDepth 100000 in
theorem cl_X4_66 : CLV RX4 66 yX1_formCell cX1_formCell 3 (some .int) 2 := ⟨cb_X1_formCell, wm_4 5 rfl rfl, wm_2 194 rfl rfl, wm_2 195 rfl rfl⟩
set_option maxRecDepth 100000 in
theorem cb_X4_lowest : CLB yX4_lowest cX4_lowest 2 (some .int) 1 := ⟨wm_4 8 rfl rfl, wm_1 6 rfl rfl, ⟨by decide +kernel, by decide +kernel, by decide +kernel⟩, by decide⟩
set_option maxRecDepth 100000 in
theorem cl_X4_69 : CLS RX4 69 yX4_lowest cX4_lowest 2 (some .int) 1 := ⟨cb_X4_lowest, wm_4 6 rfl rfl, wm_4 7 rfl rfl⟩
set_option maxRecDepth 100000 in
theorem cl_X4_107 : CLS RX4 107 yJ7_fill_53178 cJ7_fill_53178 4 none 2 := ⟨cb_J7_fill_53178, wm_4 9 rfl rfl, wm_1 66 rfl rfl⟩
set_option maxRecDepth 100000 in
theorem cl_X4_72 : CLV RX4 72 yX1_motherOf cX1_motherOf 2 (some .int) 1 := ⟨cb_X1_motherOf, wm_4 10 rfl rfl, wm_3 33 rfl rfl, wm_3 34 rfl rfl⟩
set_option maxRecDepth 100000 in
theorem cb_X4_weighChapter : CLB yX4_weighChapter cX4_weighChapter 7 (some .int) 2 := ⟨wm_4 14 rfl rfl, wm_1 6 rfl rfl, ⟨by decide +kernel, by decide +kernel, by decide +kernel⟩, by decide⟩
set_option maxRecDepth 100000 in
theorem cl_X4_112 : CLV RX4 112 yX4_weighChapter cX4_weighChapter 7 (some .int) 2 := ⟨cb_X4_weighChapter, wm_4 11 rfl rfl, wm_4 13 rfl rfl, wm_0 19 rfl rfl⟩
set_option maxRecDepth 100000 in
theorem cb_X4_paid : CLB yX4_paid cX4_paid 4 (some .int) 2 := ⟨wm_4 18 rfl rfl, wm_1 6 rfl rfl, ⟨by decide +kernel, by decide +kernel, by decide +kernel⟩, by decide⟩
set_option maxRecDepth 100000 in
theorem cl_X4_98 : CLV RX4 98 yX4_paid cX4_paid 4 (some .int) 2 := ⟨cb_X4_paid, wm_4 15 rfl rfl, wm_4 17 rfl rfl, wm_0 20 rfl rfl⟩
set_option maxRecDepth 100000 in
theorem cb_X4_filledForm : CLB yX4_filledForm cX4_filledForm 3 (some .int) 2 := ⟨wm_4 22 rfl rfl, wm_1 6 rfl rfl, ⟨by decide +kernel, by decide +kernel, by decide +kernel⟩, by decide⟩
set_option maxRecDepth 100000 in
theorem cl_X4_75 : CLV RX4 75 yX4_filledForm cX4_filledForm 3 (some .int) 2 := ⟨cb_X4_filledForm, wm_4 19 rfl rfl, wm_4 21 rfl rfl, wm_0 21 rfl rfl⟩
set_option maxRecDepth 100000 in
theorem cl_X4_78 : CLV RX4 78 yX9_stepOf cX9_stepOf 3 (some .int) 2 := ⟨cb_X9_stepOf, wm_4 23 rfl rfl, wm_3 174 rfl rfl, wm_3 175 rfl rfl⟩
set_option maxRecDepth 100000 in
theorem cb_X4_leastLender : CLB yX4_leastLender cX4_leastLender 4 (some .int) 2 := ⟨wm_4 27 rfl rfl, wm_1 6 rfl rfl, ⟨by decide +kernel, by decide +kernel, by decide +kernel⟩, by decide⟩
set_option maxRecDepth 100000 in
theorem cl_X4_104 : CLV RX4 104 yX4_leastLender cX4_leastLender 4 (some .int) 2 := ⟨cb_X4_leastLender, wm_4 24 rfl rfl, wm_4 26 rfl rfl, wm_0 22 rfl rfl⟩
set_option maxRecDepth 100000 in
theorem cb_X4_lends : CLB yX4_lends cX4_lends 3 (some .boolean) 2 := ⟨wm_4 31 rfl rfl, wm_1 6 rfl rfl, ⟨by decide +kernel, by decide +kernel, by decide +kernel⟩, by decide⟩
set_option maxRecDepth 100000 in
theorem cl_X4_95 : CLV RX4 95 yX4_lends cX4_lends 3 (some .boolean) 2 := ⟨cb_X4_lends, wm_4 28 rfl rfl, wm_4 30 rfl rfl, wm_0 23 rfl rfl⟩
set_option maxRecDepth 100000 in
theorem cl_X4_85 : CLV RX4 85 yX1_isUnder cX1_isUnder 5 (some .boolean) 2 := ⟨cb_X1_isUnder, wm_4 32 rfl rfl, wm_3 29 rfl rfl, wm_3 30 rfl rfl⟩
set_option maxRecDepth 100000 in
theorem cl_X4_101 : CLV RX4 101 yX1_costOf cX1_costOf 2 (some .int) 1 := ⟨cb_X1_costOf, wm_4 33 rfl rfl, wm_3 51 rfl rfl, wm_3 52 rfl rfl⟩
set_option maxRecDepth 100000 in
theorem mw_X4_118 : Cond.methodLink RX4 118 Lib.Math.max.name ∈ WS := wm_4 34 rfl rfl
set_option maxRecDepth 100000 in
theorem cb_X4_gainBeside : CLB yX4_gainBeside cX4_gainBeside 7 none 3 := ⟨wm_4 38 rfl rfl, wm_1 6 rfl rfl, ⟨by decide +kernel, by decide +kernel, by decide +kernel⟩, by decide⟩
set_option maxRecDepth 100000 in
theorem cl_X4_123 : CLV RX4 123 yX4_gainBeside cX4_gainBeside 7 none 3 := ⟨cb_X4_gainBeside, wm_4 35 rfl rfl, wm_4 37 rfl rfl, wm_0 24 rfl rfl⟩
set_option maxRecDepth 100000 in
theorem cl_X4_130 : CLS RX4 130 yJ6_bitCount_0f7a4 cJ6_bitCount_0f7a4 1 (some .int) 1 := ⟨cb_J6_bitCount_0f7a4, wm_4 39 rfl rfl, wm_3 152 rfl rfl⟩
set_option maxRecDepth 100000 in
theorem cb_X4_gainOfChapter : CLB yX4_gainOfChapter cX4_gainOfChapter 7 none 3 := ⟨wm_4 43 rfl rfl, wm_1 6 rfl rfl, ⟨by decide +kernel, by decide +kernel, by decide +kernel⟩, by decide⟩
set_option maxRecDepth 100000 in
theorem cl_X4_127 : CLV RX4 127 yX4_gainOfChapter cX4_gainOfChapter 7 none 3 := ⟨cb_X4_gainOfChapter, wm_4 40 rfl rfl, wm_4 42 rfl rfl, wm_0 25 rfl rfl⟩
set_option maxRecDepth 100000 in
theorem cb_X4_share : CLB yX4_share cX4_share 4 none 1 := ⟨wm_4 47 rfl rfl, wm_1 6 rfl rfl, ⟨by decide +kernel, by decide +kernel, by decide +kernel⟩, by decide⟩
set_option maxRecDepth 100000 in
theorem cl_X4_115 : CLV RX4 115 yX4_share cX4_share 4 none 1 := ⟨cb_X4_share, wm_4 44 rfl rfl, wm_4 46 rfl rfl, wm_0 26 rfl rfl⟩
set_option maxRecDepth 100000 in
theorem mw_X4_135 : Cond.methodLink RX4 135 Lib.Math.min.name ∈ WS := wm_4 48 rfl rfl
set_option maxRecDepth 100000 in
theorem cb_X10_from : CLB yX10_from cX10_from 3 (some .int) 2 := ⟨wm_4 52 rfl rfl, wm_1 1 rfl rfl, ⟨by decide +kernel, by decide +kernel, by decide +kernel⟩, by decide⟩
set_option maxRecDepth 100000 in
theorem cl_L_94 : CLV RL 94 yX10_from cX10_from 3 (some .int) 2 := ⟨cb_X10_from, wm_4 49 rfl rfl, wm_4 50 rfl rfl, wm_4 51 rfl rfl⟩
set_option maxRecDepth 100000 in
theorem cb_X4_lender : CLB yX4_lender cX4_lender 4 (some .int) 2 := ⟨wm_4 56 rfl rfl, wm_1 6 rfl rfl, ⟨by decide +kernel, by decide +kernel, by decide +kernel⟩, by decide⟩
set_option maxRecDepth 100000 in
theorem cl_X10_228 : CLV RX10 228 yX4_lender cX4_lender 4 (some .int) 2 := ⟨cb_X4_lender, wm_4 53 rfl rfl, wm_4 54 rfl rfl, wm_4 55 rfl rfl⟩
set_option maxRecDepth 100000 in
theorem cb_X10_pairs : CLB yX10_pairs cX10_pairs 2 (some .int) 1 := ⟨wm_4 60 rfl rfl, wm_1 1 rfl rfl, ⟨by decide +kernel, by decide +kernel, by decide +kernel⟩, by decide⟩
set_option maxRecDepth 100000 in
theorem cl_L_98 : CLV RL 98 yX10_pairs cX10_pairs 2 (some .int) 1 := ⟨cb_X10_pairs, wm_4 57 rfl rfl, wm_4 58 rfl rfl, wm_4 59 rfl rfl⟩
set_option maxRecDepth 100000 in
theorem cb_X3_pair : CLB yX3_pair cX3_pair 5 (some .int) 1 := ⟨wm_4 64 rfl rfl, wm_1 8 rfl rfl, ⟨by decide +kernel, by decide +kernel, by decide +kernel⟩, by decide⟩
set_option maxRecDepth 100000 in
theorem cl_X10_231 : CLV RX10 231 yX3_pair cX3_pair 5 (some .int) 1 := ⟨cb_X3_pair, wm_4 61 rfl rfl, wm_4 62 rfl rfl, wm_4 63 rfl rfl⟩
set_option maxRecDepth 100000 in
theorem cb_X3_clash : CLB yX3_clash cX3_clash 7 (some .boolean) 2 := ⟨wm_4 68 rfl rfl, wm_1 8 rfl rfl, ⟨by decide +kernel, by decide +kernel, by decide +kernel⟩, by decide⟩
set_option maxRecDepth 100000 in
theorem cl_X3_29 : CLV RX3 29 yX3_clash cX3_clash 7 (some .boolean) 2 := ⟨cb_X3_clash, wm_4 65 rfl rfl, wm_4 67 rfl rfl, wm_0 27 rfl rfl⟩
set_option maxRecDepth 100000 in
theorem cl_X3_25 : CLV RX3 25 yX1_told cX1_told 3 (some .int) 2 := ⟨cb_X1_told, wm_4 69 rfl rfl, wm_2 222 rfl rfl, wm_2 223 rfl rfl⟩
set_option maxRecDepth 100000 in
theorem cb_X10_freed : CLB yX10_freed cX10_freed 1 (some .int) 0 := ⟨wm_4 73 rfl rfl, wm_1 1 rfl rfl, ⟨by decide +kernel, by decide +kernel, by decide +kernel⟩, by decide⟩
set_option maxRecDepth 100000 in
theorem cl_L_102 : CLV RL 102 yX10_freed cX10_freed 1 (some .int) 0 := ⟨cb_X10_freed, wm_4 70 rfl rfl, wm_4 71 rfl rfl, wm_4 72 rfl rfl⟩
set_option maxRecDepth 100000 in
theorem cb_X3_fewestOut : CLB yX3_fewestOut cX3_fewestOut 5 (some .int) 0 := ⟨wm_4 77 rfl rfl, wm_1 8 rfl rfl, ⟨by decide +kernel, by decide +kernel, by decide +kernel⟩, by decide⟩
set_option maxRecDepth 100000 in
theorem cl_X10_234 : CLV RX10 234 yX3_fewestOut cX3_fewestOut 5 (some .int) 0 := ⟨cb_X3_fewestOut, wm_4 74 rfl rfl, wm_4 75 rfl rfl, wm_4 76 rfl rfl⟩
set_option maxRecDepth 100000 in
theorem cb_X3_involve : CLB yX3_involve cX3_involve 4 (some .int) 0 := ⟨wm_4 81 rfl rfl, wm_1 8 rfl rfl, ⟨by decide +kernel, by decide +kernel, by decide +kernel⟩, by decide⟩
set_option maxRecDepth 100000 in
theorem cl_X3_33 : CLV RX3 33 yX3_involve cX3_involve 4 (some .int) 0 := ⟨cb_X3_involve, wm_4 78 rfl rfl, wm_4 80 rfl rfl, wm_0 28 rfl rfl⟩
set_option maxRecDepth 100000 in
theorem cl_X3_47 : CLS RX3 47 yJ7_fill_53178 cJ7_fill_53178 4 none 2 := ⟨cb_J7_fill_53178, wm_4 82 rfl rfl, wm_1 66 rfl rfl⟩
set_option maxRecDepth 100000 in
theorem cl_X3_37 : CLS RX3 37 yJ6_bitCount_0f7a4 cJ6_bitCount_0f7a4 1 (some .int) 1 := ⟨cb_J6_bitCount_0f7a4, wm_4 83 rfl rfl, wm_3 152 rfl rfl⟩
set_option maxRecDepth 100000 in
theorem cb_X3_frees : CLB yX3_frees cX3_frees 3 (some .boolean) 1 := ⟨wm_4 87 rfl rfl, wm_1 8 rfl rfl, ⟨by decide +kernel, by decide +kernel, by decide +kernel⟩, by decide⟩
set_option maxRecDepth 100000 in
theorem cl_X3_43 : CLV RX3 43 yX3_frees cX3_frees 3 (some .boolean) 1 := ⟨cb_X3_frees, wm_4 84 rfl rfl, wm_4 86 rfl rfl, wm_0 29 rfl rfl⟩
set_option maxRecDepth 100000 in
theorem cb_X10_doubt : CLB yX10_doubt cX10_doubt 3 (some .int) 1 := ⟨wm_4 91 rfl rfl, wm_1 1 rfl rfl, ⟨by decide +kernel, by decide +kernel, by decide +kernel⟩, by decide⟩
set_option maxRecDepth 100000 in
theorem cl_L_106 : CLV RL 106 yX10_doubt cX10_doubt 3 (some .int) 1 := ⟨cb_X10_doubt, wm_4 88 rfl rfl, wm_4 89 rfl rfl, wm_4 90 rfl rfl⟩
set_option maxRecDepth 100000 in
theorem cb_X2_fewestOut : CLB yX2_fewestOut cX2_fewestOut 5 (some .int) 0 := ⟨wm_4 95 rfl rfl, wm_1 9 rfl rfl, ⟨by decide +kernel, by decide +kernel, by decide +kernel⟩, by decide⟩
set_option maxRecDepth 100000 in
theorem cl_X10_237 : CLV RX10 237 yX2_fewestOut cX2_fewestOut 5 (some .int) 0 := ⟨cb_X2_fewestOut, wm_4 92 rfl rfl, wm_4 93 rfl rfl, wm_4 94 rfl rfl⟩
set_option maxRecDepth 100000 in
theorem cl_X2_41 : CLS RX2 41 yJ6_bitCount_0f7a4 cJ6_bitCount_0f7a4 1 (some .int) 1 := ⟨cb_J6_bitCount_0f7a4, wm_4 96 rfl rfl, wm_3 152 rfl rfl⟩
set_option maxRecDepth 100000 in
theorem cb_X2_holdWithout : CLB yX2_holdWithout cX2_holdWithout 3 (some .boolean) 1 := ⟨wm_4 100 rfl rfl, wm_1 9 rfl rfl, ⟨by decide +kernel, by decide +kernel, by decide +kernel⟩, by decide⟩
set_option maxRecDepth 100000 in
theorem cl_X2_47 : CLV RX2 47 yX2_holdWithout cX2_holdWithout 3 (some .boolean) 1 := ⟨cb_X2_holdWithout, wm_4 97 rfl rfl, wm_4 99 rfl rfl, wm_0 30 rfl rfl⟩
set_option maxRecDepth 100000 in
theorem cl_X2_54 : CLV RX2 54 yX9_arrange cX9_arrange 6 (some .boolean) 0 := ⟨cb_X9_arrange, wm_4 101 rfl rfl, wm_3 56 rfl rfl, wm_3 57 rfl rfl⟩
set_option maxRecDepth 100000 in
theorem cl_X2_58 : CLV RX2 58 yX9_firstLate cX9_firstLate 4 (some .int) 0 := ⟨cb_X9_firstLate, wm_4 102 rfl rfl, wm_3 108 rfl rfl, wm_3 109 rfl rfl⟩
set_option maxRecDepth 100000 in
theorem cl_X10_238 : CLS RX10 238 yJ6_bitCount_0f7a4 cJ6_bitCount_0f7a4 1 (some .int) 1 := ⟨cb_J6_bitCount_0f7a4, wm_4 103 rfl rfl, wm_3 152 rfl rfl⟩
set_option maxRecDepth 100000 in
theorem cb_X10_law : CLB yX10_law cX10_law 3 (some .int) 2 := ⟨wm_4 107 rfl rfl, wm_1 1 rfl rfl, ⟨by decide +kernel, by decide +kernel, by decide +kernel⟩, by decide⟩
set_option maxRecDepth 100000 in
theorem cl_L_110 : CLV RL 110 yX10_law cX10_law 3 (some .int) 2 := ⟨cb_X10_law, wm_4 104 rfl rfl, wm_4 105 rfl rfl, wm_4 106 rfl rfl⟩
set_option maxRecDepth 100000 in
theorem cb_X10_cameIn : CLB yX10_cameIn cX10_cameIn 3 (some .int) 2 := ⟨wm_4 111 rfl rfl, wm_1 1 rfl rfl, ⟨by decide +kernel, by decide +kernel, by decide +kernel⟩, by decide⟩
set_option maxRecDepth 100000 in
theorem cl_L_114 : CLV RL 114 yX10_cameIn cX10_cameIn 3 (some .int) 2 := ⟨cb_X10_cameIn, wm_4 108 rfl rfl, wm_4 109 rfl rfl, wm_4 110 rfl rfl⟩
set_option maxRecDepth 100000 in
theorem cb_X4_source : CLB yX4_source cX4_source 7 (some .int) 2 := ⟨wm_4 115 rfl rfl, wm_1 6 rfl rfl, ⟨by decide +kernel, by decide +kernel, by decide +kernel⟩, by decide⟩
set_option maxRecDepth 100000 in
theorem cl_X10_243 : CLV RX10 243 yX4_source cX4_source 7 (some .int) 2 := ⟨cb_X4_source, wm_4 112 rfl rfl, wm_4 113 rfl rfl, wm_4 114 rfl rfl⟩
set_option maxRecDepth 100000 in
theorem cb_X10_slip : CLB yX10_slip cX10_slip 3 (some .int) 2 := ⟨wm_4 119 rfl rfl, wm_1 1 rfl rfl, ⟨by decide +kernel, by decide +kernel, by decide +kernel⟩, by decide⟩
set_option maxRecDepth 100000 in
theorem cl_L_118 : CLV RL 118 yX10_slip cX10_slip 3 (some .int) 2 := ⟨cb_X10_slip, wm_4 116 rfl rfl, wm_4 117 rfl rfl, wm_4 118 rfl rfl⟩
set_option maxRecDepth 100000 in
theorem cb_X7_isNumber : CLB yX7_isNumber cX7_isNumber 1 (some .boolean) 1 := ⟨wm_4 122 rfl rfl, wm_1 16 rfl rfl, ⟨by decide +kernel, by decide +kernel, by decide +kernel⟩, by decide⟩
set_option maxRecDepth 100000 in
theorem cl_X10_246 : CLS RX10 246 yX7_isNumber cX7_isNumber 1 (some .boolean) 1 := ⟨cb_X7_isNumber, wm_4 120 rfl rfl, wm_4 121 rfl rfl⟩
set_option maxRecDepth 100000 in
theorem kw_X7_11 : Cond.constant RX7 11 (Int32.ofInt (99999)) ∈ WS := wm_4 123 rfl rfl
set_option maxRecDepth 100000 in
theorem cb_X7_kind : CLB yX7_kind cX7_kind 3 (some .int) 2 := ⟨wm_4 126 rfl rfl, wm_1 16 rfl rfl, ⟨by decide +kernel, by decide +kernel, by decide +kernel⟩, by decide⟩
set_option maxRecDepth 100000 in
theorem cl_X10_251 : CLS RX10 251 yX7_kind cX7_kind 3 (some .int) 2 := ⟨cb_X7_kind, wm_4 124 rfl rfl, wm_4 125 rfl rfl⟩
set_option maxRecDepth 100000 in
theorem cb_X7_grown : CLB yX7_grown cX7_grown 3 (some .int) 2 := ⟨wm_4 129 rfl rfl, wm_1 16 rfl rfl, ⟨by decide +kernel, by decide +kernel, by decide +kernel⟩, by decide⟩
set_option maxRecDepth 100000 in
theorem cl_X7_12 : CLS RX7 12 yX7_grown cX7_grown 3 (some .int) 2 := ⟨cb_X7_grown, wm_4 127 rfl rfl, wm_4 128 rfl rfl⟩
set_option maxRecDepth 100000 in
theorem cb_X7_length : CLB yX7_length cX7_length 2 (some .int) 1 := ⟨wm_4 132 rfl rfl, wm_1 16 rfl rfl, ⟨by decide +kernel, by decide +kernel, by decide +kernel⟩, by decide⟩
set_option maxRecDepth 100000 in
theorem cl_X7_27 : CLS RX7 27 yX7_length cX7_length 2 (some .int) 1 := ⟨cb_X7_length, wm_4 130 rfl rfl, wm_4 131 rfl rfl⟩
set_option maxRecDepth 100000 in
theorem sl_X7_30 : SL RX7 30 0 := ⟨_, rfl, wm_4 133 rfl rfl⟩
set_option maxRecDepth 100000 in
theorem cb_X7_kindOf : CLB yX7_kindOf cX7_kindOf 1 (some .int) 1 := ⟨wm_4 137 rfl rfl, wm_1 16 rfl rfl, ⟨by decide +kernel, by decide +kernel, by decide +kernel⟩, by decide⟩
set_option maxRecDepth 100000 in
theorem cl_X7_16 : CLS RX7 16 yX7_kindOf cX7_kindOf 1 (some .int) 1 := ⟨cb_X7_kindOf, wm_4 135 rfl rfl, wm_4 136 rfl rfl⟩
set_option maxRecDepth 100000 in
theorem cb_X7_written : CLB yX7_written cX7_written 2 (some .int) 2 := ⟨wm_4 140 rfl rfl, wm_1 16 rfl rfl, ⟨by decide +kernel, by decide +kernel, by decide +kernel⟩, by decide⟩
set_option maxRecDepth 100000 in
theorem cl_X7_34 : CLS RX7 34 yX7_written cX7_written 2 (some .int) 2 := ⟨cb_X7_written, wm_4 138 rfl rfl, wm_4 139 rfl rfl⟩
set_option maxRecDepth 100000 in
theorem cb_X7_twice : CLB yX7_twice cX7_twice 3 (some .int) 2 := ⟨wm_4 143 rfl rfl, wm_1 16 rfl rfl, ⟨by decide +kernel, by decide +kernel, by decide +kernel⟩, by decide⟩
set_option maxRecDepth 100000 in
theorem cl_X7_37 : CLS RX7 37 yX7_twice cX7_twice 3 (some .int) 2 := ⟨cb_X7_twice, wm_4 141 rfl rfl, wm_4 142 rfl rfl⟩
set_option maxRecDepth 100000 in
theorem cb_X7_changedAbout : CLB yX7_changedAbout cX7_changedAbout 4 (some .int) 2 := ⟨wm_4 146 rfl rfl, wm_1 16 rfl rfl, ⟨by decide +kernel, by decide +kernel, by decide +kernel⟩, by decide⟩
set_option maxRecDepth 100000 in
theorem cl_X7_40 : CLS RX7 40 yX7_changedAbout cX7_changedAbout 4 (some .int) 2 := ⟨cb_X7_changedAbout, wm_4 144 rfl rfl, wm_4 145 rfl rfl⟩
set_option maxRecDepth 100000 in
theorem cb_X7_misread : CLB yX7_misread cX7_misread 5 (some .int) 3 := ⟨wm_4 149 rfl rfl, wm_1 16 rfl rfl, ⟨by decide +kernel, by decide +kernel, by decide +kernel⟩, by decide⟩
set_option maxRecDepth 100000 in
theorem cl_X7_43 : CLS RX7 43 yX7_misread cX7_misread 5 (some .int) 3 := ⟨cb_X7_misread, wm_4 147 rfl rfl, wm_4 148 rfl rfl⟩
set_option maxRecDepth 100000 in
theorem sl_X7_47 : SL RX7 47 1 := ⟨_, rfl, wm_4 150 rfl rfl⟩
set_option maxRecDepth 100000 in
theorem sl_X7_50 : SL RX7 50 2 := ⟨_, rfl, wm_4 152 rfl rfl⟩
set_option maxRecDepth 100000 in
theorem cb_X10_chain : CLB yX10_chain cX10_chain 3 (some .int) 2 := ⟨wm_4 157 rfl rfl, wm_1 1 rfl rfl, ⟨by decide +kernel, by decide +kernel, by decide +kernel⟩, by decide⟩
set_option maxRecDepth 100000 in
theorem cl_L_122 : CLV RL 122 yX10_chain cX10_chain 3 (some .int) 2 := ⟨cb_X10_chain, wm_4 154 rfl rfl, wm_4 155 rfl rfl, wm_4 156 rfl rfl⟩
set_option maxRecDepth 100000 in
theorem cb_X7_fewest : CLB yX7_fewest cX7_fewest 6 (some .int) 2 := ⟨wm_4 160 rfl rfl, wm_1 16 rfl rfl, ⟨by decide +kernel, by decide +kernel, by decide +kernel⟩, by decide⟩
set_option maxRecDepth 100000 in
theorem cl_X10_254 : CLS RX10 254 yX7_fewest cX7_fewest 6 (some .int) 2 := ⟨cb_X7_fewest, wm_4 158 rfl rfl, wm_4 159 rfl rfl⟩
set_option maxRecDepth 100000 in
theorem cl_X7_20 : CLS RX7 20 yX7_kind cX7_kind 3 (some .int) 2 := ⟨cb_X7_kind, wm_4 161 rfl rfl, wm_4 125 rfl rfl⟩
set_option maxRecDepth 100000 in
theorem cb_X7_inTwo : CLB yX7_inTwo cX7_inTwo 4 (some .boolean) 2 := ⟨wm_4 164 rfl rfl, wm_1 16 rfl rfl, ⟨by decide +kernel, by decide +kernel, by decide +kernel⟩, by decide⟩
set_option maxRecDepth 100000 in
theorem cl_X7_23 : CLS RX7 23 yX7_inTwo cX7_inTwo 4 (some .boolean) 2 := ⟨cb_X7_inTwo, wm_4 162 rfl rfl, wm_4 163 rfl rfl⟩
set_option maxRecDepth 100000 in
theorem cb_X10_undo : CLB yX10_undo cX10_undo 1 (some .int) 0 := ⟨wm_4 168 rfl rfl, wm_1 1 rfl rfl, ⟨by decide +kernel, by decide +kernel, by decide +kernel⟩, by decide⟩
set_option maxRecDepth 100000 in
theorem cl_L_126 : CLV RL 126 yX10_undo cX10_undo 1 (some .int) 0 := ⟨cb_X10_undo, wm_4 165 rfl rfl, wm_4 166 rfl rfl, wm_4 167 rfl rfl⟩
set_option maxRecDepth 100000 in
theorem cb_X1_back : CLB yX1_back cX1_back 1 (some .int) 0 := ⟨wm_4 172 rfl rfl, wm_1 3 rfl rfl, ⟨by decide +kernel, by decide +kernel, by decide +kernel⟩, by decide⟩
set_option maxRecDepth 100000 in
theorem cl_X10_257 : CLV RX10 257 yX1_back cX1_back 1 (some .int) 0 := ⟨cb_X1_back, wm_4 169 rfl rfl, wm_4 170 rfl rfl, wm_4 171 rfl rfl⟩
set_option maxRecDepth 100000 in
theorem cb_X10_redo : CLB yX10_redo cX10_redo 1 (some .int) 0 := ⟨wm_4 176 rfl rfl, wm_1 1 rfl rfl, ⟨by decide +kernel, by decide +kernel, by decide +kernel⟩, by decide⟩
set_option maxRecDepth 100000 in
theorem cl_L_130 : CLV RL 130 yX10_redo cX10_redo 1 (some .int) 0 := ⟨cb_X10_redo, wm_4 173 rfl rfl, wm_4 174 rfl rfl, wm_4 175 rfl rfl⟩
set_option maxRecDepth 100000 in
theorem cb_X1_forth : CLB yX1_forth cX1_forth 1 (some .int) 0 := ⟨wm_4 180 rfl rfl, wm_1 3 rfl rfl, ⟨by decide +kernel, by decide +kernel, by decide +kernel⟩, by decide⟩
set_option maxRecDepth 100000 in
theorem cl_X10_260 : CLV RX10 260 yX1_forth cX1_forth 1 (some .int) 0 := ⟨cb_X1_forth, wm_4 177 rfl rfl, wm_4 178 rfl rfl, wm_4 179 rfl rfl⟩
set_option maxRecDepth 100000 in
theorem cb_X10_digest : CLB yX10_digest cX10_digest 4 (some .int) 0 := ⟨wm_4 184 rfl rfl, wm_1 1 rfl rfl, ⟨by decide +kernel, by decide +kernel, by decide +kernel⟩, by decide⟩
set_option maxRecDepth 100000 in
theorem cl_L_134 : CLV RL 134 yX10_digest cX10_digest 4 (some .int) 0 := ⟨cb_X10_digest, wm_4 181 rfl rfl, wm_4 182 rfl rfl, wm_4 183 rfl rfl⟩
set_option maxRecDepth 100000 in
theorem cl_X10_263 : CLV RX10 263 yX1_motherOf cX1_motherOf 2 (some .int) 1 := ⟨cb_X1_motherOf, wm_4 185 rfl rfl, wm_3 33 rfl rfl, wm_3 34 rfl rfl⟩
set_option maxRecDepth 100000 in
theorem cl_X10_266 : CLV RX10 266 yX1_costOf cX1_costOf 2 (some .int) 1 := ⟨cb_X1_costOf, wm_4 186 rfl rfl, wm_3 51 rfl rfl, wm_3 52 rfl rfl⟩
set_option maxRecDepth 100000 in
theorem cb_X10_path : CLB yX10_path cX10_path 3 (some .int) 2 := ⟨wm_4 190 rfl rfl, wm_1 1 rfl rfl, ⟨by decide +kernel, by decide +kernel, by decide +kernel⟩, by decide⟩
set_option maxRecDepth 100000 in
theorem cl_L_138 : CLV RL 138 yX10_path cX10_path 3 (some .int) 2 := ⟨cb_X10_path, wm_4 187 rfl rfl, wm_4 188 rfl rfl, wm_4 189 rfl rfl⟩
set_option maxRecDepth 100000 in
theorem cb_X5_isKind : CLB yX5_isKind cX5_isKind 1 (some .boolean) 1 := ⟨wm_4 193 rfl rfl, wm_1 10 rfl rfl, ⟨by decide +kernel, by decide +kernel, by decide +kernel⟩, by decide⟩
set_option maxRecDepth 100000 in
theorem cl_X10_269 : CLS RX10 269 yX5_isKind cX5_isKind 1 (some .boolean) 1 := ⟨cb_X5_isKind, wm_4 191 rfl rfl, wm_4 192 rfl rfl⟩
set_option maxRecDepth 100000 in
theorem cb_X5_add : CLB yX5_add cX5_add 3 (some .int) 2 := ⟨wm_4 197 rfl rfl, wm_1 10 rfl rfl, ⟨by decide +kernel, by decide +kernel, by decide +kernel⟩, by decide⟩
set_option maxRecDepth 100000 in
theorem cl_X10_273 : CLV RX10 273 yX5_add cX5_add 3 (some .int) 2 := ⟨cb_X5_add, wm_4 194 rfl rfl, wm_4 195 rfl rfl, wm_4 196 rfl rfl⟩
set_option maxRecDepth 100000 in
theorem cb_X10_act : CLB yX10_act cX10_act 4 (some .int) 3 := ⟨wm_4 201 rfl rfl, wm_1 1 rfl rfl, ⟨by decide +kernel, by decide +kernel, by decide +kernel⟩, by decide⟩
set_option maxRecDepth 100000 in
theorem cl_L_142 : CLV RL 142 yX10_act cX10_act 4 (some .int) 3 := ⟨cb_X10_act, wm_4 198 rfl rfl, wm_4 199 rfl rfl, wm_4 200 rfl rfl⟩
set_option maxRecDepth 100000 in
theorem cb_X5_has : CLB yX5_has cX5_has 2 (some .boolean) 1 := ⟨wm_4 205 rfl rfl, wm_1 10 rfl rfl, ⟨by decide +kernel, by decide +kernel, by decide +kernel⟩, by decide⟩
set_option maxRecDepth 100000 in
theorem cl_X10_278 : CLV RX10 278 yX5_has cX5_has 2 (some .boolean) 1 := ⟨cb_X5_has, wm_4 202 rfl rfl, wm_4 203 rfl rfl, wm_4 204 rfl rfl⟩
set_option maxRecDepth 100000 in
theorem cb_X5_perform : CLB yX5_perform cX5_perform 4 (some .int) 3 := ⟨wm_4 209 rfl rfl, wm_1 10 rfl rfl, ⟨by decide +kernel, by decide +kernel, by decide +kernel⟩, by decide⟩
set_option maxRecDepth 100000 in
theorem cl_X10_279 : CLV RX10 279 yX5_perform cX5_perform 4 (some .int) 3 := ⟨cb_X5_perform, wm_4 206 rfl rfl, wm_4 207 rfl rfl, wm_4 208 rfl rfl⟩
set_option maxRecDepth 100000 in
theorem cb_X5_costs : CLB yX5_costs cX5_costs 2 (some .int) 1 := ⟨wm_4 213 rfl rfl, wm_1 10 rfl rfl, ⟨by decide +kernel, by decide +kernel, by decide +kernel⟩, by decide⟩
set_option maxRecDepth 100000 in
theorem cl_X5_39 : CLV RX5 39 yX5_costs cX5_costs 2 (some .int) 1 := ⟨cb_X5_costs, wm_4 210 rfl rfl, wm_4 212 rfl rfl, wm_0 31 rfl rfl⟩
set_option maxRecDepth 100000 in
theorem cb_X5_began : CLB yX5_began cX5_began 2 none 1 := ⟨wm_4 217 rfl rfl, wm_1 10 rfl rfl, ⟨by decide +kernel, by decide +kernel, by decide +kernel⟩, by decide⟩
set_option maxRecDepth 100000 in
theorem cl_X5_55 : CLV RX5 55 yX5_began cX5_began 2 none 1 := ⟨cb_X5_began, wm_4 214 rfl rfl, wm_4 216 rfl rfl, wm_0 32 rfl rfl⟩
set_option maxRecDepth 100000 in
theorem cb_X5_lets : CLB yX5_lets cX5_lets 3 (some .int) 1 := ⟨wm_4 221 rfl rfl, wm_1 10 rfl rfl, ⟨by decide +kernel, by decide +kernel, by decide +kernel⟩, by decide⟩
set_option maxRecDepth 100000 in
theorem cl_X5_43 : CLV RX5 43 yX5_lets cX5_lets 3 (some .int) 1 := ⟨cb_X5_lets, wm_4 218 rfl rfl, wm_4 220 rfl rfl, wm_0 33 rfl rfl⟩
set_option maxRecDepth 100000 in
theorem cb_X5_isUnder : CLB yX5_isUnder cX5_isUnder 4 (some .boolean) 2 := ⟨wm_4 224 rfl rfl, wm_1 10 rfl rfl, ⟨by decide +kernel, by decide +kernel, by decide +kernel⟩, by decide⟩
set_option maxRecDepth 100000 in
theorem cl_X5_59 : CLS RX5 59 yX5_isUnder cX5_isUnder 4 (some .boolean) 2 := ⟨cb_X5_isUnder, wm_4 222 rfl rfl, wm_4 223 rfl rfl⟩
set_option maxRecDepth 100000 in
theorem sl_X5_19 : SL RX5 19 3 := ⟨_, rfl, wm_4 225 rfl rfl⟩
set_option maxRecDepth 100000 in
theorem cl_X5_22 : CLS RX5 22 yX5_isKind cX5_isKind 1 (some .boolean) 1 := ⟨cb_X5_isKind, wm_4 227 rfl rfl, wm_4 192 rfl rfl⟩
set_option maxRecDepth 100000 in
theorem cb_X5_holds : CLB yX5_holds cX5_holds 3 (some .int) 1 := ⟨wm_4 231 rfl rfl, wm_1 10 rfl rfl, ⟨by decide +kernel, by decide +kernel, by decide +kernel⟩, by decide⟩
set_option maxRecDepth 100000 in
theorem cl_X5_46 : CLV RX5 46 yX5_holds cX5_holds 3 (some .int) 1 := ⟨cb_X5_holds, wm_4 228 rfl rfl, wm_4 230 rfl rfl, wm_0 34 rfl rfl⟩
set_option maxRecDepth 100000 in
theorem cb_X5_tells : CLB yX5_tells cX5_tells 3 (some .int) 1 := ⟨wm_4 235 rfl rfl, wm_1 10 rfl rfl, ⟨by decide +kernel, by decide +kernel, by decide +kernel⟩, by decide⟩
set_option maxRecDepth 100000 in
theorem cl_X5_49 : CLV RX5 49 yX5_tells cX5_tells 3 (some .int) 1 := ⟨cb_X5_tells, wm_4 232 rfl rfl, wm_4 234 rfl rfl, wm_0 35 rfl rfl⟩
set_option maxRecDepth 100000 in
theorem cb_X10_trace : CLB yX10_trace cX10_trace 2 (some .int) 1 := ⟨wm_4 239 rfl rfl, wm_1 1 rfl rfl, ⟨by decide +kernel, by decide +kernel, by decide +kernel⟩, by decide⟩
set_option maxRecDepth 100000 in
theorem cl_L_146 : CLV RL 146 yX10_trace cX10_trace 2 (some .int) 1 := ⟨cb_X10_trace, wm_4 236 rfl rfl, wm_4 237 rfl rfl, wm_4 238 rfl rfl⟩
set_option maxRecDepth 100000 in
theorem cb_X10_keep : CLB yX10_keep cX10_keep 3 (some .int) 2 := ⟨wm_5 3 rfl rfl, wm_1 1 rfl rfl, ⟨by decide +kernel, by decide +kernel, by decide +kernel⟩, by decide⟩
set_option maxRecDepth 100000 in
theorem cl_L_150 : CLV RL 150 yX10_keep cX10_keep 3 (some .int) 2 := ⟨cb_X10_keep, wm_5 0 rfl rfl, wm_5 1 rfl rfl, wm_5 2 rfl rfl⟩
set_option maxRecDepth 100000 in
theorem cb_X6_keepPath : CLB yX6_keepPath cX6_keepPath 2 none 1 := ⟨wm_5 7 rfl rfl, wm_1 11 rfl rfl, ⟨by decide +kernel, by decide +kernel, by decide +kernel⟩, by decide⟩
set_option maxRecDepth 100000 in
theorem cl_X10_286 : CLV RX10 286 yX6_keepPath cX6_keepPath 2 none 1 := ⟨cb_X6_keepPath, wm_5 4 rfl rfl, wm_5 5 rfl rfl, wm_5 6 rfl rfl⟩
set_option maxRecDepth 100000 in
theorem cb_X10_row : CLB yX10_row cX10_row 4 (some .int) 3 := ⟨wm_5 11 rfl rfl, wm_1 1 rfl rfl, ⟨by decide +kernel, by decide +kernel, by decide +kernel⟩, by decide⟩
set_option maxRecDepth 100000 in
theorem cl_L_154 : CLV RL 154 yX10_row cX10_row 4 (some .int) 3 := ⟨cb_X10_row, wm_5 8 rfl rfl, wm_5 9 rfl rfl, wm_5 10 rfl rfl⟩
set_option maxRecDepth 100000 in
theorem cb_X6_keepRow : CLB yX6_keepRow cX6_keepRow 3 none 2 := ⟨wm_5 15 rfl rfl, wm_1 11 rfl rfl, ⟨by decide +kernel, by decide +kernel, by decide +kernel⟩, by decide⟩
set_option maxRecDepth 100000 in
theorem cl_X10_290 : CLV RX10 290 yX6_keepRow cX6_keepRow 3 none 2 := ⟨cb_X6_keepRow, wm_5 12 rfl rfl, wm_5 13 rfl rfl, wm_5 14 rfl rfl⟩
set_option maxRecDepth 100000 in
theorem cb_J7_fill_d0a16 : CLB yJ7_fill_d0a16 cJ7_fill_d0a16 5 none 2 := ⟨wm_5 18 rfl rfl, wm_1 4 rfl rfl, ⟨by decide +kernel, by decide +kernel, by decide +kernel⟩, by decide⟩
set_option maxRecDepth 100000 in
theorem cl_X6_26 : CLS RX6 26 yJ7_fill_d0a16 cJ7_fill_d0a16 5 none 2 := ⟨cb_J7_fill_d0a16, wm_5 16 rfl rfl, wm_5 17 rfl rfl⟩
set_option maxRecDepth 100000 in
theorem cb_X10_put : CLB yX10_put cX10_put 6 (some .int) 3 := ⟨wm_5 22 rfl rfl, wm_1 1 rfl rfl, ⟨by decide +kernel, by decide +kernel, by decide +kernel⟩, by decide⟩
set_option maxRecDepth 100000 in
theorem cl_L_160 : CLV RL 160 yX10_put cX10_put 6 (some .int) 3 := ⟨cb_X10_put, wm_5 19 rfl rfl, wm_5 20 rfl rfl, wm_5 21 rfl rfl⟩
set_option maxRecDepth 100000 in
theorem cb_X10_elementRefusal : CLB yX10_elementRefusal cX10_elementRefusal 4 (some .int) 2 := ⟨wm_5 26 rfl rfl, wm_1 1 rfl rfl, ⟨by decide +kernel, by decide +kernel, by decide +kernel⟩, by decide⟩
set_option maxRecDepth 100000 in
theorem cl_X10_294 : CLV RX10 294 yX10_elementRefusal cX10_elementRefusal 4 (some .int) 2 := ⟨cb_X10_elementRefusal, wm_5 23 rfl rfl, wm_5 25 rfl rfl, wm_0 36 rfl rfl⟩
set_option maxRecDepth 100000 in
theorem cb_X6_lowest : CLB yX6_lowest cX6_lowest 3 (some .long) 1 := ⟨wm_5 30 rfl rfl, wm_1 11 rfl rfl, ⟨by decide +kernel, by decide +kernel, by decide +kernel⟩, by decide⟩
set_option maxRecDepth 100000 in
theorem cl_X10_297 : CLV RX10 297 yX6_lowest cX6_lowest 3 (some .long) 1 := ⟨cb_X6_lowest, wm_5 27 rfl rfl, wm_5 28 rfl rfl, wm_5 29 rfl rfl⟩
set_option maxRecDepth 100000 in
theorem cb_X10_element : CLB yX10_element cX10_element 3 (some .long) 2 := ⟨wm_5 34 rfl rfl, wm_1 1 rfl rfl, ⟨by decide +kernel, by decide +kernel, by decide +kernel⟩, by decide⟩
set_option maxRecDepth 100000 in
theorem cl_L_165 : CLV RL 165 yX10_element cX10_element 3 (some .long) 2 := ⟨cb_X10_element, wm_5 31 rfl rfl, wm_5 32 rfl rfl, wm_5 33 rfl rfl⟩
set_option maxRecDepth 100000 in
theorem kw_X10_303 : Cond.constantLong RX10 303 (Int64.ofInt (-9223372036854775808)) ∈ WS := wm_5 35 rfl rfl
set_option maxRecDepth 100000 in
theorem cb_X10_shift : CLB yX10_shift cX10_shift 8 (some .int) 5 := ⟨wm_5 39 rfl rfl, wm_1 1 rfl rfl, ⟨by decide +kernel, by decide +kernel, by decide +kernel⟩, by decide⟩
set_option maxRecDepth 100000 in
theorem cl_L_170 : CLV RL 170 yX10_shift cX10_shift 8 (some .int) 5 := ⟨cb_X10_shift, wm_5 36 rfl rfl, wm_5 37 rfl rfl, wm_5 38 rfl rfl⟩
set_option maxRecDepth 100000 in
theorem cb_X6_hasPlaces : CLB yX6_hasPlaces cX6_hasPlaces 3 (some .boolean) 2 := ⟨wm_5 43 rfl rfl, wm_1 11 rfl rfl, ⟨by decide +kernel, by decide +kernel, by decide +kernel⟩, by decide⟩
set_option maxRecDepth 100000 in
theorem cl_X10_305 : CLV RX10 305 yX6_hasPlaces cX6_hasPlaces 3 (some .boolean) 2 := ⟨cb_X6_hasPlaces, wm_5 40 rfl rfl, wm_5 41 rfl rfl, wm_5 42 rfl rfl⟩
set_option maxRecDepth 100000 in
theorem mw_X10_308 : Cond.methodLink RX10 308 arraycopyName ∈ WS := wm_5 44 rfl rfl
set_option maxRecDepth 100000 in
theorem cb_X10_taken : CLB yX10_taken cX10_taken 5 (some .int) 2 := ⟨wm_5 48 rfl rfl, wm_1 1 rfl rfl, ⟨by decide +kernel, by decide +kernel, by decide +kernel⟩, by decide⟩
set_option maxRecDepth 100000 in
theorem cl_L_175 : CLV RL 175 yX10_taken cX10_taken 5 (some .int) 2 := ⟨cb_X10_taken, wm_5 45 rfl rfl, wm_5 46 rfl rfl, wm_5 47 rfl rfl⟩
set_option maxRecDepth 100000 in
theorem cl_X10_320 : CLS RX10 320 yX5_isUnder cX5_isUnder 4 (some .boolean) 2 := ⟨cb_X5_isUnder, wm_5 49 rfl rfl, wm_4 223 rfl rfl⟩
set_option maxRecDepth 100000 in
theorem cb_X10_count : CLB yX10_count cX10_count 2 (some .int) 1 := ⟨wm_5 53 rfl rfl, wm_1 1 rfl rfl, ⟨by decide +kernel, by decide +kernel, by decide +kernel⟩, by decide⟩
set_option maxRecDepth 100000 in
theorem cl_L_179 : CLV RL 179 yX10_count cX10_count 2 (some .int) 1 := ⟨cb_X10_count, wm_5 50 rfl rfl, wm_5 51 rfl rfl, wm_5 52 rfl rfl⟩
set_option maxRecDepth 100000 in
theorem fl_X11_138 : FL RX11 138 10 1 .int false := ⟨_, _, _, rfl, by decide, wm_5 60 rfl rfl, rfl, tyX11_ok _ (by decide), rfl⟩
set_option maxRecDepth 100000 in
theorem fl_X11_7 : FL RX11 7 10 2 (.array .int) true := ⟨_, _, _, rfl, by decide, wm_5 61 rfl rfl, rfl, tyX11_ok _ (by decide), rfl⟩
set_option maxRecDepth 100000 in
theorem fl_X11_13 : FL RX11 13 10 3 (.array .int) true := ⟨_, _, _, rfl, by decide, wm_5 62 rfl rfl, rfl, tyX11_ok _ (by decide), rfl⟩
set_option maxRecDepth 100000 in
theorem fl_X11_16 : FL RX11 16 10 4 (.array .int) true := ⟨_, _, _, rfl, by decide, wm_5 63 rfl rfl, rfl, tyX11_ok _ (by decide), rfl⟩
set_option maxRecDepth 100000 in
theorem fl_X11_19 : FL RX11 19 10 5 (.array .boolean) true := ⟨_, _, _, rfl, by decide, wm_5 64 rfl rfl, rfl, tyX11_ok _ (by decide), rfl⟩
set_option maxRecDepth 100000 in
theorem fl_X11_23 : FL RX11 23 10 6 (.array .int) true := ⟨_, _, _, rfl, by decide, wm_5 65 rfl rfl, rfl, tyX11_ok _ (by decide), rfl⟩
set_option maxRecDepth 100000 in
theorem fl_X11_26 : FL RX11 26 10 7 (.array .int) true := ⟨_, _, _, rfl, by decide, wm_5 66 rfl rfl, rfl, tyX11_ok _ (by decide), rfl⟩
set_option maxRecDepth 100000 in
theorem fl_X11_29 : FL RX11 29 10 8 (.array .int) true := ⟨_, _, _, rfl, by decide, wm_5 67 rfl rfl, rfl, tyX11_ok _ (by decide), rfl⟩
set_option maxRecDepth 100000 in
theorem fl_X11_32 : FL RX11 32 10 9 (.array .byte) true := ⟨_, _, _, rfl, by decide, wm_5 68 rfl rfl, rfl, tyX11_ok _ (by decide), rfl⟩
set_option maxRecDepth 100000 in
theorem fl_X11_141 : FL RX11 141 10 10 .int false := ⟨_, _, _, rfl, by decide, wm_5 69 rfl rfl, rfl, tyX11_ok _ (by decide), rfl⟩
set_option maxRecDepth 100000 in
theorem fl_X11_144 : FL RX11 144 10 11 .int false := ⟨_, _, _, rfl, by decide, wm_5 70 rfl rfl, rfl, tyX11_ok _ (by decide), rfl⟩
set_option maxRecDepth 100000 in
theorem fl_X11_147 : FL RX11 147 10 12 .int false := ⟨_, _, _, rfl, by decide, wm_5 71 rfl rfl, rfl, tyX11_ok _ (by decide), rfl⟩
set_option maxRecDepth 100000 in
theorem fl_X11_191 : FL RX11 191 10 13 .int false := ⟨_, _, _, rfl, by decide, wm_5 72 rfl rfl, rfl, tyX11_ok _ (by decide), rfl⟩
set_option maxRecDepth 100000 in
theorem fl_X11_188 : FL RX11 188 10 14 .int false := ⟨_, _, _, rfl, by decide, wm_5 73 rfl rfl, rfl, tyX11_ok _ (by decide), rfl⟩
set_option maxRecDepth 100000 in
theorem fl_X11_36 : FL RX11 36 10 15 (.array .int) true := ⟨_, _, _, rfl, by decide, wm_5 74 rfl rfl, rfl, tyX11_ok _ (by decide), rfl⟩
set_option maxRecDepth 100000 in
theorem fl_X11_39 : FL RX11 39 10 16 (.array .int) true := ⟨_, _, _, rfl, by decide, wm_5 75 rfl rfl, rfl, tyX11_ok _ (by decide), rfl⟩
set_option maxRecDepth 100000 in
theorem fl_X11_42 : FL RX11 42 10 17 (.array .int) true := ⟨_, _, _, rfl, by decide, wm_5 76 rfl rfl, rfl, tyX11_ok _ (by decide), rfl⟩
set_option maxRecDepth 100000 in
theorem fl_X11_45 : FL RX11 45 10 18 (.array .int) true := ⟨_, _, _, rfl, by decide, wm_5 77 rfl rfl, rfl, tyX11_ok _ (by decide), rfl⟩
set_option maxRecDepth 100000 in
theorem fl_X11_48 : FL RX11 48 10 19 (.array .int) true := ⟨_, _, _, rfl, by decide, wm_5 78 rfl rfl, rfl, tyX11_ok _ (by decide), rfl⟩
set_option maxRecDepth 100000 in
theorem fl_X11_51 : FL RX11 51 10 20 (.array .boolean) true := ⟨_, _, _, rfl, by decide, wm_5 79 rfl rfl, rfl, tyX11_ok _ (by decide), rfl⟩
set_option maxRecDepth 100000 in
theorem fl_X11_54 : FL RX11 54 10 21 (.array .int) true := ⟨_, _, _, rfl, by decide, wm_5 80 rfl rfl, rfl, tyX11_ok _ (by decide), rfl⟩
set_option maxRecDepth 100000 in
theorem fl_X11_57 : FL RX11 57 10 22 (.array .int) true := ⟨_, _, _, rfl, by decide, wm_5 81 rfl rfl, rfl, tyX11_ok _ (by decide), rfl⟩
set_option maxRecDepth 100000 in
theorem fl_X11_60 : FL RX11 60 10 23 (.array .int) true := ⟨_, _, _, rfl, by decide, wm_5 82 rfl rfl, rfl, tyX11_ok _ (by decide), rfl⟩
set_option maxRecDepth 100000 in
theorem fl_X11_214 : FL RX11 214 10 24 .int false := ⟨_, _, _, rfl, by decide, wm_5 83 rfl rfl, rfl, tyX11_ok _ (by decide), rfl⟩
set_option maxRecDepth 100000 in
theorem fl_X11_220 : FL RX11 220 10 25 .int false := ⟨_, _, _, rfl, by decide, wm_5 84 rfl rfl, rfl, tyX11_ok _ (by decide), rfl⟩
set_option maxRecDepth 100000 in
theorem fl_X11_63 : FL RX11 63 10 26 (.array .int) true := ⟨_, _, _, rfl, by decide, wm_5 85 rfl rfl, rfl, tyX11_ok _ (by decide), rfl⟩
set_option maxRecDepth 100000 in
theorem fl_X11_66 : FL RX11 66 10 27 (.array .int) true := ⟨_, _, _, rfl, by decide, wm_5 86 rfl rfl, rfl, tyX11_ok _ (by decide), rfl⟩
set_option maxRecDepth 100000 in
theorem fl_X11_260 : FL RX11 260 10 28 .int false := ⟨_, _, _, rfl, by decide, wm_5 87 rfl rfl, rfl, tyX11_ok _ (by decide), rfl⟩
set_option maxRecDepth 100000 in
theorem fl_X11_69 : FL RX11 69 10 29 (.array .int) true := ⟨_, _, _, rfl, by decide, wm_5 88 rfl rfl, rfl, tyX11_ok _ (by decide), rfl⟩
set_option maxRecDepth 100000 in
theorem fl_X11_72 : FL RX11 72 10 30 (.array .int) true := ⟨_, _, _, rfl, by decide, wm_5 89 rfl rfl, rfl, tyX11_ok _ (by decide), rfl⟩
set_option maxRecDepth 100000 in
theorem fl_X11_198 : FL RX11 198 10 31 .boolean false := ⟨_, _, _, rfl, by decide, wm_5 90 rfl rfl, rfl, tyX11_ok _ (by decide), rfl⟩
set_option maxRecDepth 100000 in
theorem fl_X11_270 : FL RX11 270 10 32 .int false := ⟨_, _, _, rfl, by decide, wm_5 91 rfl rfl, rfl, tyX11_ok _ (by decide), rfl⟩
set_option maxRecDepth 100000 in
theorem fl_X11_267 : FL RX11 267 10 33 .int false := ⟨_, _, _, rfl, by decide, wm_5 92 rfl rfl, rfl, tyX11_ok _ (by decide), rfl⟩
set_option maxRecDepth 100000 in
theorem fl_X11_75 : FL RX11 75 10 34 (.array .int) true := ⟨_, _, _, rfl, by decide, wm_5 93 rfl rfl, rfl, tyX11_ok _ (by decide), rfl⟩
set_option maxRecDepth 100000 in
theorem fl_X11_78 : FL RX11 78 10 35 (.array .int) true := ⟨_, _, _, rfl, by decide, wm_5 94 rfl rfl, rfl, tyX11_ok _ (by decide), rfl⟩
set_option maxRecDepth 100000 in
theorem fl_X11_81 : FL RX11 81 10 36 (.array .int) true := ⟨_, _, _, rfl, by decide, wm_5 95 rfl rfl, rfl, tyX11_ok _ (by decide), rfl⟩
set_option maxRecDepth 100000 in
theorem fl_X11_84 : FL RX11 84 10 37 (.array .int) true := ⟨_, _, _, rfl, by decide, wm_5 96 rfl rfl, rfl, tyX11_ok _ (by decide), rfl⟩
set_option maxRecDepth 100000 in
theorem fl_X11_87 : FL RX11 87 10 38 (.array .int) true := ⟨_, _, _, rfl, by decide, wm_5 97 rfl rfl, rfl, tyX11_ok _ (by decide), rfl⟩
set_option maxRecDepth 100000 in
theorem fl_X11_90 : FL RX11 90 10 39 (.array .int) true := ⟨_, _, _, rfl, by decide, wm_5 98 rfl rfl, rfl, tyX11_ok _ (by decide), rfl⟩
set_option maxRecDepth 100000 in
theorem fl_X11_310 : FL RX11 310 10 40 .int false := ⟨_, _, _, rfl, by decide, wm_5 99 rfl rfl, rfl, tyX11_ok _ (by decide), rfl⟩
set_option maxRecDepth 100000 in
theorem fl_X11_93 : FL RX11 93 10 41 (.array .int) true := ⟨_, _, _, rfl, by decide, wm_5 100 rfl rfl, rfl, tyX11_ok _ (by decide), rfl⟩
set_option maxRecDepth 100000 in
theorem fl_X11_96 : FL RX11 96 10 42 (.array .int) true := ⟨_, _, _, rfl, by decide, wm_5 101 rfl rfl, rfl, tyX11_ok _ (by decide), rfl⟩
set_option maxRecDepth 100000 in
theorem fl_X11_99 : FL RX11 99 10 43 (.array .int) true := ⟨_, _, _, rfl, by decide, wm_5 102 rfl rfl, rfl, tyX11_ok _ (by decide), rfl⟩
set_option maxRecDepth 100000 in
theorem fl_X11_102 : FL RX11 102 10 44 (.array .int) true := ⟨_, _, _, rfl, by decide, wm_5 103 rfl rfl, rfl, tyX11_ok _ (by decide), rfl⟩
set_option maxRecDepth 100000 in
theorem fl_X11_105 : FL RX11 105 10 45 (.array .int) true := ⟨_, _, _, rfl, by decide, wm_5 104 rfl rfl, rfl, tyX11_ok _ (by decide), rfl⟩
set_option maxRecDepth 100000 in
theorem fl_X11_357 : FL RX11 357 10 46 .int false := ⟨_, _, _, rfl, by decide, wm_5 105 rfl rfl, rfl, tyX11_ok _ (by decide), rfl⟩
set_option maxRecDepth 100000 in
theorem fl_X11_108 : FL RX11 108 10 47 (.array .int) true := ⟨_, _, _, rfl, by decide, wm_5 106 rfl rfl, rfl, tyX11_ok _ (by decide), rfl⟩
set_option maxRecDepth 100000 in
theorem fl_X11_111 : FL RX11 111 10 48 (.array .int) true := ⟨_, _, _, rfl, by decide, wm_5 107 rfl rfl, rfl, tyX11_ok _ (by decide), rfl⟩
set_option maxRecDepth 100000 in
theorem fl_X11_360 : FL RX11 360 10 49 .int false := ⟨_, _, _, rfl, by decide, wm_5 108 rfl rfl, rfl, tyX11_ok _ (by decide), rfl⟩
set_option maxRecDepth 100000 in
theorem fl_X11_114 : FL RX11 114 10 50 (.array .int) true := ⟨_, _, _, rfl, by decide, wm_5 109 rfl rfl, rfl, tyX11_ok _ (by decide), rfl⟩
set_option maxRecDepth 100000 in
theorem fl_X11_117 : FL RX11 117 10 51 (.array .int) true := ⟨_, _, _, rfl, by decide, wm_5 110 rfl rfl, rfl, tyX11_ok _ (by decide), rfl⟩
set_option maxRecDepth 100000 in
theorem fl_X11_120 : FL RX11 120 10 52 (.array .int) true := ⟨_, _, _, rfl, by decide, wm_5 111 rfl rfl, rfl, tyX11_ok _ (by decide), rfl⟩
set_option maxRecDepth 100000 in
theorem fl_X11_123 : FL RX11 123 10 53 (.array .long) true := ⟨_, _, _, rfl, by decide, wm_5 112 rfl rfl, rfl, tyX11_ok _ (by decide), rfl⟩
set_option maxRecDepth 100000 in
theorem fl_X11_127 : FL RX11 127 10 54 (.array .long) true := ⟨_, _, _, rfl, by decide, wm_5 113 rfl rfl, rfl, tyX11_ok _ (by decide), rfl⟩
set_option maxRecDepth 100000 in
theorem cb_X11_feed : CLB yX11_feed cX11_feed 4 (some .int) 2 := ⟨wm_5 230 rfl rfl, wm_1 12 rfl rfl, ⟨by decide +kernel, by decide +kernel, by decide +kernel⟩, by decide⟩
set_option maxRecDepth 100000 in
theorem cl_L_17 : CLV RL 17 yX11_feed cX11_feed 4 (some .int) 2 := ⟨cb_X11_feed, wm_5 227 rfl rfl, wm_5 228 rfl rfl, wm_5 229 rfl rfl⟩
set_option maxRecDepth 100000 in
theorem cb_X11_in : CLB yX11_in cX11_in 3 (some .boolean) 3 := ⟨wm_5 233 rfl rfl, wm_1 12 rfl rfl, ⟨by decide +kernel, by decide +kernel, by decide +kernel⟩, by decide⟩
set_option maxRecDepth 100000 in
theorem cl_X11_134 : CLS RX11 134 yX11_in cX11_in 3 (some .boolean) 3 := ⟨cb_X11_in, wm_5 231 rfl rfl, wm_5 232 rfl rfl⟩
set_option maxRecDepth 100000 in
theorem cb_X11_charter : CLB yX11_charter cX11_charter 1 (some .int) 0 := ⟨wm_5 237 rfl rfl, wm_1 12 rfl rfl, ⟨by decide +kernel, by decide +kernel, by decide +kernel⟩, by decide⟩
set_option maxRecDepth 100000 in
theorem cl_L_22 : CLV RL 22 yX11_charter cX11_charter 1 (some .int) 0 := ⟨cb_X11_charter, wm_5 234 rfl rfl, wm_5 235 rfl rfl, wm_5 236 rfl rfl⟩
set_option maxRecDepth 100000 in
theorem cb_X11_clear : CLB yX11_clear cX11_clear 3 none 1 := ⟨wm_6 1 rfl rfl, wm_1 12 rfl rfl, ⟨by decide +kernel, by decide +kernel, by decide +kernel⟩, by decide⟩
set_option maxRecDepth 100000 in
theorem cl_X11_176 : CLV RX11 176 yX11_clear cX11_clear 3 none 1 := ⟨cb_X11_clear, wm_5 238 rfl rfl, wm_6 0 rfl rfl, wm_0 37 rfl rfl⟩
set_option maxRecDepth 100000 in
theorem cb_X11_readAll : CLB yX11_readAll cX11_readAll 4 none 1 := ⟨wm_6 5 rfl rfl, wm_1 12 rfl rfl, ⟨by decide +kernel, by decide +kernel, by decide +kernel⟩, by decide⟩
set_option maxRecDepth 100000 in
theorem cl_X11_179 : CLV RX11 179 yX11_readAll cX11_readAll 4 none 1 := ⟨cb_X11_readAll, wm_6 2 rfl rfl, wm_6 4 rfl rfl, wm_0 38 rfl rfl⟩
set_option maxRecDepth 100000 in
theorem cb_X11_number : CLB yX11_number cX11_number 4 (some .int) 1 := ⟨wm_6 9 rfl rfl, wm_1 12 rfl rfl, ⟨by decide +kernel, by decide +kernel, by decide +kernel⟩, by decide⟩
set_option maxRecDepth 100000 in
theorem cl_X11_165 : CLV RX11 165 yX11_number cX11_number 4 (some .int) 1 := ⟨cb_X11_number, wm_6 6 rfl rfl, wm_6 8 rfl rfl, wm_0 39 rfl rfl⟩
set_option maxRecDepth 100000 in
theorem cb_X11_look : CLB yX11_look cX11_look 1 (some .int) 0 := ⟨wm_6 13 rfl rfl, wm_1 12 rfl rfl, ⟨by decide +kernel, by decide +kernel, by decide +kernel⟩, by decide⟩
set_option maxRecDepth 100000 in
theorem cl_X11_150 : CLV RX11 150 yX11_look cX11_look 1 (some .int) 0 := ⟨cb_X11_look, wm_6 10 rfl rfl, wm_6 12 rfl rfl, wm_0 40 rfl rfl⟩
set_option maxRecDepth 100000 in
theorem cb_X11_wrong : CLB yX11_wrong cX11_wrong 2 none 1 := ⟨wm_6 17 rfl rfl, wm_1 12 rfl rfl, ⟨by decide +kernel, by decide +kernel, by decide +kernel⟩, by decide⟩
set_option maxRecDepth 100000 in
theorem cl_X11_154 : CLV RX11 154 yX11_wrong cX11_wrong 2 none 1 := ⟨cb_X11_wrong, wm_6 14 rfl rfl, wm_6 16 rfl rfl, wm_0 41 rfl rfl⟩
set_option maxRecDepth 100000 in
theorem cb_X11_isNext : CLB yX11_isNext cX11_isNext 2 (some .boolean) 1 := ⟨wm_6 21 rfl rfl, wm_1 12 rfl rfl, ⟨by decide +kernel, by decide +kernel, by decide +kernel⟩, by decide⟩
set_option maxRecDepth 100000 in
theorem cl_X11_169 : CLV RX11 169 yX11_isNext cX11_isNext 2 (some .boolean) 1 := ⟨cb_X11_isNext, wm_6 18 rfl rfl, wm_6 20 rfl rfl, wm_0 42 rfl rfl⟩
set_option maxRecDepth 100000 in
theorem cb_X11_readClause : CLB yX11_readClause cX11_readClause 5 (some .int) 2 := ⟨wm_6 25 rfl rfl, wm_1 12 rfl rfl, ⟨by decide +kernel, by decide +kernel, by decide +kernel⟩, by decide⟩
set_option maxRecDepth 100000 in
theorem cl_X11_172 : CLV RX11 172 yX11_readClause cX11_readClause 5 (some .int) 2 := ⟨cb_X11_readClause, wm_6 22 rfl rfl, wm_6 24 rfl rfl, wm_0 43 rfl rfl⟩
set_option maxRecDepth 100000 in
theorem cb_X11_isClause : CLB yX11_isClause cX11_isClause 1 (some .boolean) 1 := ⟨wm_6 28 rfl rfl, wm_1 12 rfl rfl, ⟨by decide +kernel, by decide +kernel, by decide +kernel⟩, by decide⟩
set_option maxRecDepth 100000 in
theorem cl_X11_158 : CLS RX11 158 yX11_isClause cX11_isClause 1 (some .boolean) 1 := ⟨cb_X11_isClause, wm_6 26 rfl rfl, wm_6 27 rfl rfl⟩
set_option maxRecDepth 100000 in
theorem cb_X11_isForm : CLB yX11_isForm cX11_isForm 1 (some .boolean) 1 := ⟨wm_6 31 rfl rfl, wm_1 12 rfl rfl, ⟨by decide +kernel, by decide +kernel, by decide +kernel⟩, by decide⟩
set_option maxRecDepth 100000 in
theorem cl_X11_162 : CLS RX11 162 yX11_isForm cX11_isForm 1 (some .boolean) 1 := ⟨cb_X11_isForm, wm_6 29 rfl rfl, wm_6 30 rfl rfl⟩
set_option maxRecDepth 100000 in
theorem cb_X11_lost : CLB yX11_lost cX11_lost 1 (some .int) 0 := ⟨wm_6 35 rfl rfl, wm_1 12 rfl rfl, ⟨by decide +kernel, by decide +kernel, by decide +kernel⟩, by decide⟩
set_option maxRecDepth 100000 in
theorem cl_L_26 : CLV RL 26 yX11_lost cX11_lost 1 (some .int) 0 := ⟨cb_X11_lost, wm_6 32 rfl rfl, wm_6 33 rfl rfl, wm_6 34 rfl rfl⟩
set_option maxRecDepth 100000 in
theorem cb_X11_ofCharter : CLB yX11_ofCharter cX11_ofCharter 3 (some .int) 2 := ⟨wm_6 39 rfl rfl, wm_1 12 rfl rfl, ⟨by decide +kernel, by decide +kernel, by decide +kernel⟩, by decide⟩
set_option maxRecDepth 100000 in
theorem cl_L_30 : CLV RL 30 yX11_ofCharter cX11_ofCharter 3 (some .int) 2 := ⟨cb_X11_ofCharter, wm_6 36 rfl rfl, wm_6 37 rfl rfl, wm_6 38 rfl rfl⟩
set_option maxRecDepth 100000 in
theorem cb_X11_isCharter : CLB yX11_isCharter cX11_isCharter 2 (some .boolean) 1 := ⟨wm_6 43 rfl rfl, wm_1 12 rfl rfl, ⟨by decide +kernel, by decide +kernel, by decide +kernel⟩, by decide⟩
set_option maxRecDepth 100000 in
theorem cl_X11_182 : CLV RX11 182 yX11_isCharter cX11_isCharter 2 (some .boolean) 1 := ⟨cb_X11_isCharter, wm_6 40 rfl rfl, wm_6 42 rfl rfl, wm_0 44 rfl rfl⟩
set_option maxRecDepth 100000 in
theorem cb_X11_undo : CLB yX11_undo cX11_undo 1 (some .int) 0 := ⟨wm_6 47 rfl rfl, wm_1 12 rfl rfl, ⟨by decide +kernel, by decide +kernel, by decide +kernel⟩, by decide⟩
set_option maxRecDepth 100000 in
theorem cl_L_129 : CLV RL 129 yX11_undo cX11_undo 1 (some .int) 0 := ⟨cb_X11_undo, wm_6 44 rfl rfl, wm_6 45 rfl rfl, wm_6 46 rfl rfl⟩
set_option maxRecDepth 100000 in
theorem cb_X11_set : CLB yX11_set cX11_set 4 none 3 := ⟨wm_6 51 rfl rfl, wm_1 12 rfl rfl, ⟨by decide +kernel, by decide +kernel, by decide +kernel⟩, by decide⟩
set_option maxRecDepth 100000 in
theorem cl_X11_194 : CLV RX11 194 yX11_set cX11_set 4 none 3 := ⟨cb_X11_set, wm_6 48 rfl rfl, wm_6 50 rfl rfl, wm_0 45 rfl rfl⟩
set_option maxRecDepth 100000 in
theorem cb_X11_redo : CLB yX11_redo cX11_redo 1 (some .int) 0 := ⟨wm_6 55 rfl rfl, wm_1 12 rfl rfl, ⟨by decide +kernel, by decide +kernel, by decide +kernel⟩, by decide⟩
set_option maxRecDepth 100000 in
theorem cl_L_133 : CLV RL 133 yX11_redo cX11_redo 1 (some .int) 0 := ⟨cb_X11_redo, wm_6 52 rfl rfl, wm_6 53 rfl rfl, wm_6 54 rfl rfl⟩
set_option maxRecDepth 100000 in
theorem cb_X11_form : CLB yX11_form cX11_form 4 (some .int) 3 := ⟨wm_6 59 rfl rfl, wm_1 12 rfl rfl, ⟨by decide +kernel, by decide +kernel, by decide +kernel⟩, by decide⟩
set_option maxRecDepth 100000 in
theorem cl_L_35 : CLV RL 35 yX11_form cX11_form 4 (some .int) 3 := ⟨cb_X11_form, wm_6 56 rfl rfl, wm_6 57 rfl rfl, wm_6 58 rfl rfl⟩
set_option maxRecDepth 100000 in
theorem cb_X11_changes : CLB yX11_changes cX11_changes 6 (some .int) 3 := ⟨wm_6 63 rfl rfl, wm_1 12 rfl rfl, ⟨by decide +kernel, by decide +kernel, by decide +kernel⟩, by decide⟩
set_option maxRecDepth 100000 in
theorem cl_X11_202 : CLV RX11 202 yX11_changes cX11_changes 6 (some .int) 3 := ⟨cb_X11_changes, wm_6 60 rfl rfl, wm_6 62 rfl rfl, wm_0 46 rfl rfl⟩
set_option maxRecDepth 100000 in
theorem cb_X11_valueAt : CLB yX11_valueAt cX11_valueAt 3 (some .int) 2 := ⟨wm_6 67 rfl rfl, wm_1 12 rfl rfl, ⟨by decide +kernel, by decide +kernel, by decide +kernel⟩, by decide⟩
set_option maxRecDepth 100000 in
theorem cl_X11_185 : CLV RX11 185 yX11_valueAt cX11_valueAt 3 (some .int) 2 := ⟨cb_X11_valueAt, wm_6 64 rfl rfl, wm_6 66 rfl rfl, wm_0 47 rfl rfl⟩
set_option maxRecDepth 100000 in
theorem cb_X11_forms : CLB yX11_forms cX11_forms 8 (some .int) 4 := ⟨wm_6 71 rfl rfl, wm_1 12 rfl rfl, ⟨by decide +kernel, by decide +kernel, by decide +kernel⟩, by decide⟩
set_option maxRecDepth 100000 in
theorem cl_L_40 : CLV RL 40 yX11_forms cX11_forms 8 (some .int) 4 := ⟨cb_X11_forms, wm_6 68 rfl rfl, wm_6 69 rfl rfl, wm_6 70 rfl rfl⟩
set_option maxRecDepth 100000 in
theorem cb_X11_isShelf : CLB yX11_isShelf cX11_isShelf 1 (some .boolean) 1 := ⟨wm_6 74 rfl rfl, wm_1 12 rfl rfl, ⟨by decide +kernel, by decide +kernel, by decide +kernel⟩, by decide⟩
set_option maxRecDepth 100000 in
theorem cl_X11_206 : CLS RX11 206 yX11_isShelf cX11_isShelf 1 (some .boolean) 1 := ⟨cb_X11_isShelf, wm_6 72 rfl rfl, wm_6 73 rfl rfl⟩
set_option maxRecDepth 100000 in
theorem cb_X11_price : CLB yX11_price cX11_price 3 (some .int) 2 := ⟨wm_6 78 rfl rfl, wm_1 12 rfl rfl, ⟨by decide +kernel, by decide +kernel, by decide +kernel⟩, by decide⟩
set_option maxRecDepth 100000 in
theorem cl_L_44 : CLV RL 44 yX11_price cX11_price 3 (some .int) 2 := ⟨cb_X11_price, wm_6 75 rfl rfl, wm_6 76 rfl rfl, wm_6 77 rfl rfl⟩
set_option maxRecDepth 100000 in
theorem cb_X11_same : CLB yX11_same cX11_same 9 (some .int) 3 := ⟨wm_6 82 rfl rfl, wm_1 12 rfl rfl, ⟨by decide +kernel, by decide +kernel, by decide +kernel⟩, by decide⟩
set_option maxRecDepth 100000 in
theorem cl_L_48 : CLV RL 48 yX11_same cX11_same 9 (some .int) 3 := ⟨cb_X11_same, wm_6 79 rfl rfl, wm_6 80 rfl rfl, wm_6 81 rfl rfl⟩
set_option maxRecDepth 100000 in
theorem cb_X11_digest : CLB yX11_digest cX11_digest 4 (some .int) 0 := ⟨wm_6 86 rfl rfl, wm_1 12 rfl rfl, ⟨by decide +kernel, by decide +kernel, by decide +kernel⟩, by decide⟩
set_option maxRecDepth 100000 in
theorem cl_L_137 : CLV RL 137 yX11_digest cX11_digest 4 (some .int) 0 := ⟨cb_X11_digest, wm_6 83 rfl rfl, wm_6 84 rfl rfl, wm_6 85 rfl rfl⟩
set_option maxRecDepth 100000 in
theorem cb_X11_mother : CLB yX11_mother cX11_mother 3 (some .int) 2 := ⟨wm_6 90 rfl rfl, wm_1 12 rfl rfl, ⟨by decide +kernel, by decide +kernel, by decide +kernel⟩, by decide⟩
set_option maxRecDepth 100000 in
theorem cl_L_52 : CLV RL 52 yX11_mother cX11_mother 3 (some .int) 2 := ⟨cb_X11_mother, wm_6 87 rfl rfl, wm_6 88 rfl rfl, wm_6 89 rfl rfl⟩
set_option maxRecDepth 100000 in
theorem kw_X11_209 : Cond.constant RX11 209 (Int32.ofInt (-2000000000)) ∈ WS := wm_6 91 rfl rfl
set_option maxRecDepth 100000 in
theorem cb_X11_isAbove : CLB yX11_isAbove cX11_isAbove 4 (some .boolean) 2 := ⟨wm_6 95 rfl rfl, wm_1 12 rfl rfl, ⟨by decide +kernel, by decide +kernel, by decide +kernel⟩, by decide⟩
set_option maxRecDepth 100000 in
theorem cl_X11_210 : CLV RX11 210 yX11_isAbove cX11_isAbove 4 (some .boolean) 2 := ⟨cb_X11_isAbove, wm_6 92 rfl rfl, wm_6 94 rfl rfl, wm_0 48 rfl rfl⟩
set_option maxRecDepth 100000 in
theorem cb_X11_cost : CLB yX11_cost cX11_cost 4 (some .int) 1 := ⟨wm_6 99 rfl rfl, wm_1 12 rfl rfl, ⟨by decide +kernel, by decide +kernel, by decide +kernel⟩, by decide⟩
set_option maxRecDepth 100000 in
theorem cl_L_57 : CLV RL 57 yX11_cost cX11_cost 4 (some .int) 1 := ⟨cb_X11_cost, wm_6 96 rfl rfl, wm_6 97 rfl rfl, wm_6 98 rfl rfl⟩
set_option maxRecDepth 100000 in
theorem cb_X11_lookAtAll : CLB yX11_lookAtAll cX11_lookAtAll 2 none 0 := ⟨wm_6 103 rfl rfl, wm_1 12 rfl rfl, ⟨by decide +kernel, by decide +kernel, by decide +kernel⟩, by decide⟩
set_option maxRecDepth 100000 in
theorem cl_X11_239 : CLV RX11 239 yX11_lookAtAll cX11_lookAtAll 2 none 0 := ⟨cb_X11_lookAtAll, wm_6 100 rfl rfl, wm_6 102 rfl rfl, wm_0 49 rfl rfl⟩
set_option maxRecDepth 100000 in
theorem cb_X11_findOrder : CLB yX11_findOrder cX11_findOrder 3 none 0 := ⟨wm_6 107 rfl rfl, wm_1 12 rfl rfl, ⟨by decide +kernel, by decide +kernel, by decide +kernel⟩, by decide⟩
set_option maxRecDepth 100000 in
theorem cl_X11_236 : CLV RX11 236 yX11_findOrder cX11_findOrder 3 none 0 := ⟨cb_X11_findOrder, wm_6 104 rfl rfl, wm_6 106 rfl rfl, wm_0 50 rfl rfl⟩
set_option maxRecDepth 100000 in
theorem cb_X11_isOrdered : CLB yX11_isOrdered cX11_isOrdered 3 (some .boolean) 1 := ⟨wm_6 111 rfl rfl, wm_1 12 rfl rfl, ⟨by decide +kernel, by decide +kernel, by decide +kernel⟩, by decide⟩
set_option maxRecDepth 100000 in
theorem cl_X11_217 : CLV RX11 217 yX11_isOrdered cX11_isOrdered 3 (some .boolean) 1 := ⟨cb_X11_isOrdered, wm_6 108 rfl rfl, wm_6 110 rfl rfl, wm_0 51 rfl rfl⟩
set_option maxRecDepth 100000 in
theorem cb_X11_costOf : CLB yX11_costOf cX11_costOf 8 (some .int) 1 := ⟨wm_6 115 rfl rfl, wm_1 12 rfl rfl, ⟨by decide +kernel, by decide +kernel, by decide +kernel⟩, by decide⟩
set_option maxRecDepth 100000 in
theorem cl_X11_242 : CLV RX11 242 yX11_costOf cX11_costOf 8 (some .int) 1 := ⟨cb_X11_costOf, wm_6 112 rfl rfl, wm_6 114 rfl rfl, wm_0 52 rfl rfl⟩
set_option maxRecDepth 100000 in
theorem cb_X11_mayBe : CLB yX11_mayBe cX11_mayBe 5 (some .boolean) 3 := ⟨wm_6 119 rfl rfl, wm_1 12 rfl rfl, ⟨by decide +kernel, by decide +kernel, by decide +kernel⟩, by decide⟩
set_option maxRecDepth 100000 in
theorem cl_X11_230 : CLV RX11 230 yX11_mayBe cX11_mayBe 5 (some .boolean) 3 := ⟨cb_X11_mayBe, wm_6 116 rfl rfl, wm_6 118 rfl rfl, wm_0 53 rfl rfl⟩
set_option maxRecDepth 100000 in
theorem kw_X11_223 : Cond.constant RX11 223 (Int32.ofInt (1000000)) ∈ WS := wm_6 120 rfl rfl
set_option maxRecDepth 100000 in
theorem cb_X11_leastFrom : CLB yX11_leastFrom cX11_leastFrom 5 (some .int) 2 := ⟨wm_6 124 rfl rfl, wm_1 12 rfl rfl, ⟨by decide +kernel, by decide +kernel, by decide +kernel⟩, by decide⟩
set_option maxRecDepth 100000 in
theorem cl_X11_233 : CLV RX11 233 yX11_leastFrom cX11_leastFrom 5 (some .int) 2 := ⟨cb_X11_leastFrom, wm_6 121 rfl rfl, wm_6 123 rfl rfl, wm_0 54 rfl rfl⟩
set_option maxRecDepth 100000 in
theorem cb_X11_priceOf : CLB yX11_priceOf cX11_priceOf 3 (some .int) 2 := ⟨wm_6 128 rfl rfl, wm_1 12 rfl rfl, ⟨by decide +kernel, by decide +kernel, by decide +kernel⟩, by decide⟩
set_option maxRecDepth 100000 in
theorem cl_X11_224 : CLV RX11 224 yX11_priceOf cX11_priceOf 3 (some .int) 2 := ⟨cb_X11_priceOf, wm_6 125 rfl rfl, wm_6 127 rfl rfl, wm_0 55 rfl rfl⟩
set_option maxRecDepth 100000 in
theorem cb_X11_lesser : CLB yX11_lesser cX11_lesser 2 (some .int) 2 := ⟨wm_6 131 rfl rfl, wm_1 12 rfl rfl, ⟨by decide +kernel, by decide +kernel, by decide +kernel⟩, by decide⟩
set_option maxRecDepth 100000 in
theorem cl_X11_227 : CLS RX11 227 yX11_lesser cX11_lesser 2 (some .int) 2 := ⟨cb_X11_lesser, wm_6 129 rfl rfl, wm_6 130 rfl rfl⟩
set_option maxRecDepth 100000 in
theorem cb_X11_filled : CLB yX11_filled cX11_filled 3 (some .int) 2 := ⟨wm_6 135 rfl rfl, wm_1 12 rfl rfl, ⟨by decide +kernel, by decide +kernel, by decide +kernel⟩, by decide⟩
set_option maxRecDepth 100000 in
theorem cl_L_61 : CLV RL 61 yX11_filled cX11_filled 3 (some .int) 2 := ⟨cb_X11_filled, wm_6 132 rfl rfl, wm_6 133 rfl rfl, wm_6 134 rfl rfl⟩
set_option maxRecDepth 100000 in
theorem cb_X11_filledBy : CLB yX11_filledBy cX11_filledBy 6 (some .int) 2 := ⟨wm_6 139 rfl rfl, wm_1 12 rfl rfl, ⟨by decide +kernel, by decide +kernel, by decide +kernel⟩, by decide⟩
set_option maxRecDepth 100000 in
theorem cl_X11_248 : CLV RX11 248 yX11_filledBy cX11_filledBy 6 (some .int) 2 := ⟨cb_X11_filledBy, wm_6 136 rfl rfl, wm_6 138 rfl rfl, wm_0 56 rfl rfl⟩
set_option maxRecDepth 100000 in
theorem cb_X11_findBeyond : CLB yX11_findBeyond cX11_findBeyond 7 none 0 := ⟨wm_6 143 rfl rfl, wm_1 12 rfl rfl, ⟨by decide +kernel, by decide +kernel, by decide +kernel⟩, by decide⟩
set_option maxRecDepth 100000 in
theorem cl_X11_245 : CLV RX11 245 yX11_findBeyond cX11_findBeyond 7 none 0 := ⟨cb_X11_findBeyond, wm_6 140 rfl rfl, wm_6 142 rfl rfl, wm_0 57 rfl rfl⟩
set_option maxRecDepth 100000 in
theorem cb_X11_law : CLB yX11_law cX11_law 4 (some .int) 2 := ⟨wm_6 147 rfl rfl, wm_1 12 rfl rfl, ⟨by decide +kernel, by decide +kernel, by decide +kernel⟩, by decide⟩
set_option maxRecDepth 100000 in
theorem cl_L_113 : CLV RL 113 yX11_law cX11_law 4 (some .int) 2 := ⟨cb_X11_law, wm_6 144 rfl rfl, wm_6 145 rfl rfl, wm_6 146 rfl rfl⟩
set_option maxRecDepth 100000 in
theorem cb_X11_days : CLB yX11_days cX11_days 4 (some .int) 2 := ⟨wm_6 151 rfl rfl, wm_1 12 rfl rfl, ⟨by decide +kernel, by decide +kernel, by decide +kernel⟩, by decide⟩
set_option maxRecDepth 100000 in
theorem cl_L_65 : CLV RL 65 yX11_days cX11_days 4 (some .int) 2 := ⟨cb_X11_days, wm_6 148 rfl rfl, wm_6 149 rfl rfl, wm_6 150 rfl rfl⟩
set_option maxRecDepth 100000 in
theorem cb_X11_findDays : CLB yX11_findDays cX11_findDays 4 (some .int) 0 := ⟨wm_6 155 rfl rfl, wm_1 12 rfl rfl, ⟨by decide +kernel, by decide +kernel, by decide +kernel⟩, by decide⟩
set_option maxRecDepth 100000 in
theorem cl_X11_254 : CLV RX11 254 yX11_findDays cX11_findDays 4 (some .int) 0 := ⟨cb_X11_findDays, wm_6 152 rfl rfl, wm_6 154 rfl rfl, wm_0 58 rfl rfl⟩
set_option maxRecDepth 100000 in
theorem cb_X11_greater : CLB yX11_greater cX11_greater 2 (some .int) 2 := ⟨wm_6 158 rfl rfl, wm_1 12 rfl rfl, ⟨by decide +kernel, by decide +kernel, by decide +kernel⟩, by decide⟩
set_option maxRecDepth 100000 in
theorem cl_X11_251 : CLS RX11 251 yX11_greater cX11_greater 2 (some .int) 2 := ⟨cb_X11_greater, wm_6 156 rfl rfl, wm_6 157 rfl rfl⟩
set_option maxRecDepth 100000 in
theorem cb_X11_list : CLB yX11_list cX11_list 2 (some .int) 1 := ⟨wm_6 162 rfl rfl, wm_1 12 rfl rfl, ⟨by decide +kernel, by decide +kernel, by decide +kernel⟩, by decide⟩
set_option maxRecDepth 100000 in
theorem cl_L_69 : CLV RL 69 yX11_list cX11_list 2 (some .int) 1 := ⟨cb_X11_list, wm_6 159 rfl rfl, wm_6 160 rfl rfl, wm_6 161 rfl rfl⟩
set_option maxRecDepth 100000 in
theorem cb_X11_placeOf : CLB yX11_placeOf cX11_placeOf 3 (some .int) 1 := ⟨wm_6 166 rfl rfl, wm_1 12 rfl rfl, ⟨by decide +kernel, by decide +kernel, by decide +kernel⟩, by decide⟩
set_option maxRecDepth 100000 in
theorem cl_X11_257 : CLV RX11 257 yX11_placeOf cX11_placeOf 3 (some .int) 1 := ⟨cb_X11_placeOf, wm_6 163 rfl rfl, wm_6 165 rfl rfl, wm_0 59 rfl rfl⟩
set_option maxRecDepth 100000 in
theorem cb_X11_unlist : CLB yX11_unlist cX11_unlist 2 (some .int) 0 := ⟨wm_6 170 rfl rfl, wm_1 12 rfl rfl, ⟨by decide +kernel, by decide +kernel, by decide +kernel⟩, by decide⟩
set_option maxRecDepth 100000 in
theorem cl_L_73 : CLV RL 73 yX11_unlist cX11_unlist 2 (some .int) 0 := ⟨cb_X11_unlist, wm_6 167 rfl rfl, wm_6 168 rfl rfl, wm_6 169 rfl rfl⟩
set_option maxRecDepth 100000 in
theorem cb_X11_best : CLB yX11_best cX11_best 5 (some .int) 1 := ⟨wm_6 174 rfl rfl, wm_1 12 rfl rfl, ⟨by decide +kernel, by decide +kernel, by decide +kernel⟩, by decide⟩
set_option maxRecDepth 100000 in
theorem cl_L_77 : CLV RL 77 yX11_best cX11_best 5 (some .int) 1 := ⟨cb_X11_best, wm_6 171 rfl rfl, wm_6 172 rfl rfl, wm_6 173 rfl rfl⟩
set_option maxRecDepth 100000 in
theorem cb_X11_boundNow : CLB yX11_boundNow cX11_boundNow 6 (some .int) 0 := ⟨wm_6 178 rfl rfl, wm_1 12 rfl rfl, ⟨by decide +kernel, by decide +kernel, by decide +kernel⟩, by decide⟩
set_option maxRecDepth 100000 in
theorem cl_X11_280 : CLV RX11 280 yX11_boundNow cX11_boundNow 6 (some .int) 0 := ⟨cb_X11_boundNow, wm_6 175 rfl rfl, wm_6 177 rfl rfl, wm_0 60 rfl rfl⟩
set_option maxRecDepth 100000 in
theorem cb_X11_findBest : CLB yX11_findBest cX11_findBest 1 none 0 := ⟨wm_6 182 rfl rfl, wm_1 12 rfl rfl, ⟨by decide +kernel, by decide +kernel, by decide +kernel⟩, by decide⟩
set_option maxRecDepth 100000 in
theorem cl_X11_283 : CLV RX11 283 yX11_findBest cX11_findBest 1 none 0 := ⟨cb_X11_findBest, wm_6 179 rfl rfl, wm_6 181 rfl rfl, wm_0 61 rfl rfl⟩
set_option maxRecDepth 100000 in
theorem cb_X11_mothersFrom : CLB yX11_mothersFrom cX11_mothersFrom 4 none 2 := ⟨wm_6 186 rfl rfl, wm_1 12 rfl rfl, ⟨by decide +kernel, by decide +kernel, by decide +kernel⟩, by decide⟩
set_option maxRecDepth 100000 in
theorem cl_X11_276 : CLV RX11 276 yX11_mothersFrom cX11_mothersFrom 4 none 2 := ⟨cb_X11_mothersFrom, wm_6 183 rfl rfl, wm_6 185 rfl rfl, wm_0 62 rfl rfl⟩
set_option maxRecDepth 100000 in
theorem cb_X11_weigh : CLB yX11_weigh cX11_weigh 4 none 0 := ⟨wm_6 190 rfl rfl, wm_1 12 rfl rfl, ⟨by decide +kernel, by decide +kernel, by decide +kernel⟩, by decide⟩
set_option maxRecDepth 100000 in
theorem cl_X11_273 : CLV RX11 273 yX11_weigh cX11_weigh 4 none 0 := ⟨cb_X11_weigh, wm_6 187 rfl rfl, wm_6 189 rfl rfl, wm_0 63 rfl rfl⟩
set_option maxRecDepth 100000 in
theorem cb_X11_isOneTree : CLB yX11_isOneTree cX11_isOneTree 4 (some .boolean) 0 := ⟨wm_6 194 rfl rfl, wm_1 12 rfl rfl, ⟨by decide +kernel, by decide +kernel, by decide +kernel⟩, by decide⟩
set_option maxRecDepth 100000 in
theorem cl_X11_263 : CLV RX11 263 yX11_isOneTree cX11_isOneTree 4 (some .boolean) 0 := ⟨cb_X11_isOneTree, wm_6 191 rfl rfl, wm_6 193 rfl rfl, wm_0 64 rfl rfl⟩
set_option maxRecDepth 100000 in
theorem cb_X11_tree : CLB yX11_tree cX11_tree 5 (some .int) 2 := ⟨wm_6 198 rfl rfl, wm_1 12 rfl rfl, ⟨by decide +kernel, by decide +kernel, by decide +kernel⟩, by decide⟩
set_option maxRecDepth 100000 in
theorem cl_L_81 : CLV RL 81 yX11_tree cX11_tree 5 (some .int) 2 := ⟨cb_X11_tree, wm_6 195 rfl rfl, wm_6 196 rfl rfl, wm_6 197 rfl rfl⟩
set_option maxRecDepth 100000 in
theorem cb_X11_never : CLB yX11_never cX11_never 4 (some .int) 1 := ⟨wm_6 202 rfl rfl, wm_1 12 rfl rfl, ⟨by decide +kernel, by decide +kernel, by decide +kernel⟩, by decide⟩
set_option maxRecDepth 100000 in
theorem cl_L_85 : CLV RL 85 yX11_never cX11_never 4 (some .int) 1 := ⟨cb_X11_never, wm_6 199 rfl rfl, wm_6 200 rfl rfl, wm_6 201 rfl rfl⟩
set_option maxRecDepth 100000 in
theorem cb_X11_claim : CLB yX11_claim cX11_claim 3 (some .int) 1 := ⟨wm_6 206 rfl rfl, wm_1 12 rfl rfl, ⟨by decide +kernel, by decide +kernel, by decide +kernel⟩, by decide⟩
set_option maxRecDepth 100000 in
theorem cl_L_89 : CLV RL 89 yX11_claim cX11_claim 3 (some .int) 1 := ⟨cb_X11_claim, wm_6 203 rfl rfl, wm_6 204 rfl rfl, wm_6 205 rfl rfl⟩
set_option maxRecDepth 100000 in
theorem cb_X11_few : CLB yX11_few cX11_few 7 (some .int) 1 := ⟨wm_6 210 rfl rfl, wm_1 12 rfl rfl, ⟨by decide +kernel, by decide +kernel, by decide +kernel⟩, by decide⟩
set_option maxRecDepth 100000 in
theorem cl_L_93 : CLV RL 93 yX11_few cX11_few 7 (some .int) 1 := ⟨cb_X11_few, wm_6 207 rfl rfl, wm_6 208 rfl rfl, wm_6 209 rfl rfl⟩
set_option maxRecDepth 100000 in
theorem cb_X11_fillAll : CLB yX11_fillAll cX11_fillAll 5 none 0 := ⟨wm_6 214 rfl rfl, wm_1 12 rfl rfl, ⟨by decide +kernel, by decide +kernel, by decide +kernel⟩, by decide⟩
set_option maxRecDepth 100000 in
theorem cl_X11_304 : CLV RX11 304 yX11_fillAll cX11_fillAll 5 none 0 := ⟨cb_X11_fillAll, wm_6 211 rfl rfl, wm_6 213 rfl rfl, wm_0 65 rfl rfl⟩
set_option maxRecDepth 100000 in
theorem cb_X11_findChapter : CLB yX11_findChapter cX11_findChapter 4 none 2 := ⟨wm_6 218 rfl rfl, wm_1 12 rfl rfl, ⟨by decide +kernel, by decide +kernel, by decide +kernel⟩, by decide⟩
set_option maxRecDepth 100000 in
theorem cl_X11_307 : CLV RX11 307 yX11_findChapter cX11_findChapter 4 none 2 := ⟨cb_X11_findChapter, wm_6 215 rfl rfl, wm_6 217 rfl rfl, wm_0 66 rfl rfl⟩
set_option maxRecDepth 100000 in
theorem cb_X11_tryChapter : CLB yX11_tryChapter cX11_tryChapter 8 none 3 := ⟨wm_6 222 rfl rfl, wm_1 12 rfl rfl, ⟨by decide +kernel, by decide +kernel, by decide +kernel⟩, by decide⟩
set_option maxRecDepth 100000 in
theorem cl_X11_301 : CLV RX11 301 yX11_tryChapter cX11_tryChapter 8 none 3 := ⟨cb_X11_tryChapter, wm_6 219 rfl rfl, wm_6 221 rfl rfl, wm_0 67 rfl rfl⟩
set_option maxRecDepth 100000 in
theorem cb_X11_isAlike : CLB yX11_isAlike cX11_isAlike 4 (some .boolean) 3 := ⟨wm_6 226 rfl rfl, wm_1 12 rfl rfl, ⟨by decide +kernel, by decide +kernel, by decide +kernel⟩, by decide⟩
set_option maxRecDepth 100000 in
theorem cl_X11_289 : CLV RX11 289 yX11_isAlike cX11_isAlike 4 (some .boolean) 3 := ⟨cb_X11_isAlike, wm_6 223 rfl rfl, wm_6 225 rfl rfl, wm_0 68 rfl rfl⟩
set_option maxRecDepth 100000 in
theorem cb_X11_baseOf : CLB yX11_baseOf cX11_baseOf 3 (some .int) 2 := ⟨wm_6 230 rfl rfl, wm_1 12 rfl rfl, ⟨by decide +kernel, by decide +kernel, by decide +kernel⟩, by decide⟩
set_option maxRecDepth 100000 in
theorem cl_X11_292 : CLV RX11 292 yX11_baseOf cX11_baseOf 3 (some .int) 2 := ⟨cb_X11_baseOf, wm_6 227 rfl rfl, wm_6 229 rfl rfl, wm_0 69 rfl rfl⟩
set_option maxRecDepth 100000 in
theorem cb_X11_canBorrow : CLB yX11_canBorrow cX11_canBorrow 4 (some .boolean) 2 := ⟨wm_6 234 rfl rfl, wm_1 12 rfl rfl, ⟨by decide +kernel, by decide +kernel, by decide +kernel⟩, by decide⟩
set_option maxRecDepth 100000 in
theorem cl_X11_295 : CLV RX11 295 yX11_canBorrow cX11_canBorrow 4 (some .boolean) 2 := ⟨cb_X11_canBorrow, wm_6 231 rfl rfl, wm_6 233 rfl rfl, wm_0 70 rfl rfl⟩
set_option maxRecDepth 100000 in
theorem cb_X11_canLend : CLB yX11_canLend cX11_canLend 3 (some .boolean) 2 := ⟨wm_6 238 rfl rfl, wm_1 12 rfl rfl, ⟨by decide +kernel, by decide +kernel, by decide +kernel⟩, by decide⟩
set_option maxRecDepth 100000 in
theorem cl_X11_286 : CLV RX11 286 yX11_canLend cX11_canLend 3 (some .boolean) 2 := ⟨cb_X11_canLend, wm_6 235 rfl rfl, wm_6 237 rfl rfl, wm_0 71 rfl rfl⟩
set_option maxRecDepth 100000 in
theorem cb_X11_addGain : CLB yX11_addGain cX11_addGain 4 none 2 := ⟨wm_7 2 rfl rfl, wm_1 12 rfl rfl, ⟨by decide +kernel, by decide +kernel, by decide +kernel⟩, by decide⟩
set_option maxRecDepth 100000 in
theorem cl_X11_298 : CLV RX11 298 yX11_addGain cX11_addGain 4 none 2 := ⟨cb_X11_addGain, wm_6 239 rfl rfl, wm_7 1 rfl rfl, wm_0 72 rfl rfl⟩
set_option maxRecDepth 100000 in
theorem cb_X11_from : CLB yX11_from cX11_from 4 (some .int) 2 := ⟨wm_7 6 rfl rfl, wm_1 12 rfl rfl, ⟨by decide +kernel, by decide +kernel, by decide +kernel⟩, by decide⟩
set_option maxRecDepth 100000 in
theorem cl_L_97 : CLV RL 97 yX11_from cX11_from 4 (some .int) 2 := ⟨cb_X11_from, wm_7 3 rfl rfl, wm_7 4 rfl rfl, wm_7 5 rfl rfl⟩
set_option maxRecDepth 100000 in
theorem cb_X11_cameIn : CLB yX11_cameIn cX11_cameIn 4 (some .int) 2 := ⟨wm_7 10 rfl rfl, wm_1 12 rfl rfl, ⟨by decide +kernel, by decide +kernel, by decide +kernel⟩, by decide⟩
set_option maxRecDepth 100000 in
theorem cl_L_117 : CLV RL 117 yX11_cameIn cX11_cameIn 4 (some .int) 2 := ⟨cb_X11_cameIn, wm_7 7 rfl rfl, wm_7 8 rfl rfl, wm_7 9 rfl rfl⟩
set_option maxRecDepth 100000 in
theorem cb_X11_pairs : CLB yX11_pairs cX11_pairs 2 (some .int) 1 := ⟨wm_7 14 rfl rfl, wm_1 12 rfl rfl, ⟨by decide +kernel, by decide +kernel, by decide +kernel⟩, by decide⟩
set_option maxRecDepth 100000 in
theorem cl_L_101 : CLV RL 101 yX11_pairs cX11_pairs 2 (some .int) 1 := ⟨cb_X11_pairs, wm_7 11 rfl rfl, wm_7 12 rfl rfl, wm_7 13 rfl rfl⟩
set_option maxRecDepth 100000 in
theorem cb_X11_findPairs : CLB yX11_findPairs cX11_findPairs 3 none 0 := ⟨wm_7 18 rfl rfl, wm_1 12 rfl rfl, ⟨by decide +kernel, by decide +kernel, by decide +kernel⟩, by decide⟩
set_option maxRecDepth 100000 in
theorem cl_X11_316 : CLV RX11 316 yX11_findPairs cX11_findPairs 3 none 0 := ⟨cb_X11_findPairs, wm_7 15 rfl rfl, wm_7 17 rfl rfl, wm_0 73 rfl rfl⟩
set_option maxRecDepth 100000 in
theorem cb_X11_doClash : CLB yX11_doClash cX11_doClash 7 (some .boolean) 2 := ⟨wm_7 22 rfl rfl, wm_1 12 rfl rfl, ⟨by decide +kernel, by decide +kernel, by decide +kernel⟩, by decide⟩
set_option maxRecDepth 100000 in
theorem cl_X11_313 : CLV RX11 313 yX11_doClash cX11_doClash 7 (some .boolean) 2 := ⟨cb_X11_doClash, wm_7 19 rfl rfl, wm_7 21 rfl rfl, wm_0 74 rfl rfl⟩
set_option maxRecDepth 100000 in
theorem cb_X11_freed : CLB yX11_freed cX11_freed 3 (some .int) 0 := ⟨wm_7 26 rfl rfl, wm_1 12 rfl rfl, ⟨by decide +kernel, by decide +kernel, by decide +kernel⟩, by decide⟩
set_option maxRecDepth 100000 in
theorem cl_L_105 : CLV RL 105 yX11_freed cX11_freed 3 (some .int) 0 := ⟨cb_X11_freed, wm_7 23 rfl rfl, wm_7 24 rfl rfl, wm_7 25 rfl rfl⟩
set_option maxRecDepth 100000 in
theorem kw_X11_319 : Cond.constant RX11 319 (Int32.ofInt (65535)) ∈ WS := wm_7 27 rfl rfl
set_option maxRecDepth 100000 in
theorem kw_X11_320 : Cond.constant RX11 320 (Int32.ofInt (65536)) ∈ WS := wm_7 28 rfl rfl
set_option maxRecDepth 100000 in
theorem cb_X11_bitsOf : CLB yX11_bitsOf cX11_bitsOf 3 (some .int) 1 := ⟨wm_7 31 rfl rfl, wm_1 12 rfl rfl, ⟨by decide +kernel, by decide +kernel, by decide +kernel⟩, by decide⟩
set_option maxRecDepth 100000 in
theorem cl_X11_321 : CLS RX11 321 yX11_bitsOf cX11_bitsOf 3 (some .int) 1 := ⟨cb_X11_bitsOf, wm_7 29 rfl rfl, wm_7 30 rfl rfl⟩
set_option maxRecDepth 100000 in
theorem cb_X11_frees : CLB yX11_frees cX11_frees 3 (some .boolean) 1 := ⟨wm_7 35 rfl rfl, wm_1 12 rfl rfl, ⟨by decide +kernel, by decide +kernel, by decide +kernel⟩, by decide⟩
set_option maxRecDepth 100000 in
theorem cl_X11_324 : CLV RX11 324 yX11_frees cX11_frees 3 (some .boolean) 1 := ⟨cb_X11_frees, wm_7 32 rfl rfl, wm_7 34 rfl rfl, wm_0 75 rfl rfl⟩
set_option maxRecDepth 100000 in
theorem cb_X11_doubt : CLB yX11_doubt cX11_doubt 5 (some .int) 1 := ⟨wm_7 39 rfl rfl, wm_1 12 rfl rfl, ⟨by decide +kernel, by decide +kernel, by decide +kernel⟩, by decide⟩
set_option maxRecDepth 100000 in
theorem cl_L_109 : CLV RL 109 yX11_doubt cX11_doubt 5 (some .int) 1 := ⟨cb_X11_doubt, wm_7 36 rfl rfl, wm_7 37 rfl rfl, wm_7 38 rfl rfl⟩
set_option maxRecDepth 100000 in
theorem cb_X11_doAgree : CLB yX11_doAgree cX11_doAgree 3 (some .boolean) 1 := ⟨wm_7 43 rfl rfl, wm_1 12 rfl rfl, ⟨by decide +kernel, by decide +kernel, by decide +kernel⟩, by decide⟩
set_option maxRecDepth 100000 in
theorem cl_X11_327 : CLV RX11 327 yX11_doAgree cX11_doAgree 3 (some .boolean) 1 := ⟨cb_X11_doAgree, wm_7 40 rfl rfl, wm_7 42 rfl rfl, wm_0 76 rfl rfl⟩
set_option maxRecDepth 100000 in
theorem cb_X11_slip : CLB yX11_slip cX11_slip 3 (some .int) 2 := ⟨wm_7 47 rfl rfl, wm_1 12 rfl rfl, ⟨by decide +kernel, by decide +kernel, by decide +kernel⟩, by decide⟩
set_option maxRecDepth 100000 in
theorem cl_L_121 : CLV RL 121 yX11_slip cX11_slip 3 (some .int) 2 := ⟨cb_X11_slip, wm_7 44 rfl rfl, wm_7 45 rfl rfl, wm_7 46 rfl rfl⟩
set_option maxRecDepth 100000 in
theorem cb_X11_isNumber : CLB yX11_isNumber cX11_isNumber 1 (some .boolean) 1 := ⟨wm_7 50 rfl rfl, wm_1 12 rfl rfl, ⟨by decide +kernel, by decide +kernel, by decide +kernel⟩, by decide⟩
set_option maxRecDepth 100000 in
theorem cl_X11_342 : CLS RX11 342 yX11_isNumber cX11_isNumber 1 (some .boolean) 1 := ⟨cb_X11_isNumber, wm_7 48 rfl rfl, wm_7 49 rfl rfl⟩
set_option maxRecDepth 100000 in
theorem kw_X11_341 : Cond.constant RX11 341 (Int32.ofInt (99999)) ∈ WS := wm_7 51 rfl rfl
set_option maxRecDepth 100000 in
theorem cb_X11_slipOf : CLB yX11_slipOf cX11_slipOf 9 (some .int) 2 := ⟨wm_7 55 rfl rfl, wm_1 12 rfl rfl, ⟨by decide +kernel, by decide +kernel, by decide +kernel⟩, by decide⟩
set_option maxRecDepth 100000 in
theorem cl_X11_345 : CLV RX11 345 yX11_slipOf cX11_slipOf 9 (some .int) 2 := ⟨cb_X11_slipOf, wm_7 52 rfl rfl, wm_7 54 rfl rfl, wm_0 77 rfl rfl⟩
set_option maxRecDepth 100000 in
theorem cb_X11_digitsOf : CLB yX11_digitsOf cX11_digitsOf 5 (some .int) 2 := ⟨wm_7 58 rfl rfl, wm_1 12 rfl rfl, ⟨by decide +kernel, by decide +kernel, by decide +kernel⟩, by decide⟩
set_option maxRecDepth 100000 in
theorem cl_X11_330 : CLS RX11 330 yX11_digitsOf cX11_digitsOf 5 (some .int) 2 := ⟨cb_X11_digitsOf, wm_7 56 rfl rfl, wm_7 57 rfl rfl⟩
set_option maxRecDepth 100000 in
theorem cb_X11_isWithout : CLB yX11_isWithout cX11_isWithout 6 (some .boolean) 5 := ⟨wm_7 61 rfl rfl, wm_1 12 rfl rfl, ⟨by decide +kernel, by decide +kernel, by decide +kernel⟩, by decide⟩
set_option maxRecDepth 100000 in
theorem cl_X11_334 : CLS RX11 334 yX11_isWithout cX11_isWithout 6 (some .boolean) 5 := ⟨cb_X11_isWithout, wm_7 59 rfl rfl, wm_7 60 rfl rfl⟩
set_option maxRecDepth 100000 in
theorem cb_X11_looksLike : CLB yX11_looksLike cX11_looksLike 4 (some .boolean) 2 := ⟨wm_7 64 rfl rfl, wm_1 12 rfl rfl, ⟨by decide +kernel, by decide +kernel, by decide +kernel⟩, by decide⟩
set_option maxRecDepth 100000 in
theorem cl_X11_338 : CLS RX11 338 yX11_looksLike cX11_looksLike 4 (some .boolean) 2 := ⟨cb_X11_looksLike, wm_7 62 rfl rfl, wm_7 63 rfl rfl⟩
set_option maxRecDepth 100000 in
theorem cb_X11_chain : CLB yX11_chain cX11_chain 5 (some .int) 2 := ⟨wm_7 68 rfl rfl, wm_1 12 rfl rfl, ⟨by decide +kernel, by decide +kernel, by decide +kernel⟩, by decide⟩
set_option maxRecDepth 100000 in
theorem cl_L_125 : CLV RL 125 yX11_chain cX11_chain 5 (some .int) 2 := ⟨cb_X11_chain, wm_7 65 rfl rfl, wm_7 66 rfl rfl, wm_7 67 rfl rfl⟩
set_option maxRecDepth 100000 in
theorem cb_X11_reaches : CLB yX11_reaches cX11_reaches 9 (some .boolean) 3 := ⟨wm_7 72 rfl rfl, wm_1 12 rfl rfl, ⟨by decide +kernel, by decide +kernel, by decide +kernel⟩, by decide⟩
set_option maxRecDepth 100000 in
theorem cl_X11_354 : CLV RX11 354 yX11_reaches cX11_reaches 9 (some .boolean) 3 := ⟨cb_X11_reaches, wm_7 69 rfl rfl, wm_7 71 rfl rfl, wm_0 78 rfl rfl⟩
set_option maxRecDepth 100000 in
theorem cb_X11_numberAt : CLB yX11_numberAt cX11_numberAt 5 (some .int) 1 := ⟨wm_7 76 rfl rfl, wm_1 12 rfl rfl, ⟨by decide +kernel, by decide +kernel, by decide +kernel⟩, by decide⟩
set_option maxRecDepth 100000 in
theorem cl_X11_348 : CLV RX11 348 yX11_numberAt cX11_numberAt 5 (some .int) 1 := ⟨cb_X11_numberAt, wm_7 73 rfl rfl, wm_7 75 rfl rfl, wm_0 79 rfl rfl⟩
set_option maxRecDepth 100000 in
theorem cb_X11_copyRow : CLB yX11_copyRow cX11_copyRow 3 none 1 := ⟨wm_7 80 rfl rfl, wm_1 12 rfl rfl, ⟨by decide +kernel, by decide +kernel, by decide +kernel⟩, by decide⟩
set_option maxRecDepth 100000 in
theorem cl_X11_351 : CLV RX11 351 yX11_copyRow cX11_copyRow 3 none 1 := ⟨cb_X11_copyRow, wm_7 77 rfl rfl, wm_7 79 rfl rfl, wm_0 80 rfl rfl⟩
set_option maxRecDepth 100000 in
theorem cb_X11_path : CLB yX11_path cX11_path 3 (some .int) 2 := ⟨wm_7 84 rfl rfl, wm_1 12 rfl rfl, ⟨by decide +kernel, by decide +kernel, by decide +kernel⟩, by decide⟩
set_option maxRecDepth 100000 in
theorem cl_L_141 : CLV RL 141 yX11_path cX11_path 3 (some .int) 2 := ⟨cb_X11_path, wm_7 81 rfl rfl, wm_7 82 rfl rfl, wm_7 83 rfl rfl⟩
set_option maxRecDepth 100000 in
theorem cb_X11_act : CLB yX11_act cX11_act 4 (some .int) 3 := ⟨wm_7 88 rfl rfl, wm_1 12 rfl rfl, ⟨by decide +kernel, by decide +kernel, by decide +kernel⟩, by decide⟩
set_option maxRecDepth 100000 in
theorem cl_L_145 : CLV RL 145 yX11_act cX11_act 4 (some .int) 3 := ⟨cb_X11_act, wm_7 85 rfl rfl, wm_7 86 rfl rfl, wm_7 87 rfl rfl⟩
set_option maxRecDepth 100000 in
theorem cb_X11_isBody : CLB yX11_isBody cX11_isBody 2 (some .boolean) 1 := ⟨wm_7 92 rfl rfl, wm_1 12 rfl rfl, ⟨by decide +kernel, by decide +kernel, by decide +kernel⟩, by decide⟩
set_option maxRecDepth 100000 in
theorem cl_X11_396 : CLV RX11 396 yX11_isBody cX11_isBody 2 (some .boolean) 1 := ⟨cb_X11_isBody, wm_7 89 rfl rfl, wm_7 91 rfl rfl, wm_0 81 rfl rfl⟩
set_option maxRecDepth 100000 in
theorem cb_X11_costs : CLB yX11_costs cX11_costs 3 (some .int) 2 := ⟨wm_7 96 rfl rfl, wm_1 12 rfl rfl, ⟨by decide +kernel, by decide +kernel, by decide +kernel⟩, by decide⟩
set_option maxRecDepth 100000 in
theorem cl_X11_369 : CLV RX11 369 yX11_costs cX11_costs 3 (some .int) 2 := ⟨cb_X11_costs, wm_7 93 rfl rfl, wm_7 95 rfl rfl, wm_0 82 rfl rfl⟩
set_option maxRecDepth 100000 in
theorem cb_X11_ran : CLB yX11_ran cX11_ran 2 none 1 := ⟨wm_7 100 rfl rfl, wm_1 12 rfl rfl, ⟨by decide +kernel, by decide +kernel, by decide +kernel⟩, by decide⟩
set_option maxRecDepth 100000 in
theorem cl_X11_363 : CLV RX11 363 yX11_ran cX11_ran 2 none 1 := ⟨cb_X11_ran, wm_7 97 rfl rfl, wm_7 99 rfl rfl, wm_0 83 rfl rfl⟩
set_option maxRecDepth 100000 in
theorem cb_X11_plainCosts : CLB yX11_plainCosts cX11_plainCosts 3 (some .int) 2 := ⟨wm_7 104 rfl rfl, wm_1 12 rfl rfl, ⟨by decide +kernel, by decide +kernel, by decide +kernel⟩, by decide⟩
set_option maxRecDepth 100000 in
theorem cl_X11_366 : CLV RX11 366 yX11_plainCosts cX11_plainCosts 3 (some .int) 2 := ⟨cb_X11_plainCosts, wm_7 101 rfl rfl, wm_7 103 rfl rfl, wm_0 84 rfl rfl⟩
set_option maxRecDepth 100000 in
theorem cb_X11_lets : CLB yX11_lets cX11_lets 4 (some .int) 2 := ⟨wm_7 108 rfl rfl, wm_1 12 rfl rfl, ⟨by decide +kernel, by decide +kernel, by decide +kernel⟩, by decide⟩
set_option maxRecDepth 100000 in
theorem cl_X11_390 : CLV RX11 390 yX11_lets cX11_lets 4 (some .int) 2 := ⟨cb_X11_lets, wm_7 105 rfl rfl, wm_7 107 rfl rfl, wm_0 85 rfl rfl⟩
set_option maxRecDepth 100000 in
theorem cb_X11_childLets : CLB yX11_childLets cX11_childLets 3 (some .int) 2 := ⟨wm_7 112 rfl rfl, wm_1 12 rfl rfl, ⟨by decide +kernel, by decide +kernel, by decide +kernel⟩, by decide⟩
set_option maxRecDepth 100000 in
theorem cl_X11_375 : CLV RX11 375 yX11_childLets cX11_childLets 3 (some .int) 2 := ⟨cb_X11_childLets, wm_7 109 rfl rfl, wm_7 111 rfl rfl, wm_0 86 rfl rfl⟩
set_option maxRecDepth 100000 in
theorem cb_X11_plainLets : CLB yX11_plainLets cX11_plainLets 3 (some .int) 2 := ⟨wm_7 116 rfl rfl, wm_1 12 rfl rfl, ⟨by decide +kernel, by decide +kernel, by decide +kernel⟩, by decide⟩
set_option maxRecDepth 100000 in
theorem cl_X11_372 : CLV RX11 372 yX11_plainLets cX11_plainLets 3 (some .int) 2 := ⟨cb_X11_plainLets, wm_7 113 rfl rfl, wm_7 115 rfl rfl, wm_0 87 rfl rfl⟩
set_option maxRecDepth 100000 in
theorem cb_X11_keeps : CLB yX11_keeps cX11_keeps 4 (some .int) 2 := ⟨wm_7 120 rfl rfl, wm_1 12 rfl rfl, ⟨by decide +kernel, by decide +kernel, by decide +kernel⟩, by decide⟩
set_option maxRecDepth 100000 in
theorem cl_X11_378 : CLV RX11 378 yX11_keeps cX11_keeps 4 (some .int) 2 := ⟨cb_X11_keeps, wm_7 117 rfl rfl, wm_7 119 rfl rfl, wm_0 88 rfl rfl⟩
set_option maxRecDepth 100000 in
theorem cb_X11_plainKeeps : CLB yX11_plainKeeps cX11_plainKeeps 3 (some .int) 2 := ⟨wm_7 124 rfl rfl, wm_1 12 rfl rfl, ⟨by decide +kernel, by decide +kernel, by decide +kernel⟩, by decide⟩
set_option maxRecDepth 100000 in
theorem cl_X11_384 : CLV RX11 384 yX11_plainKeeps cX11_plainKeeps 3 (some .int) 2 := ⟨cb_X11_plainKeeps, wm_7 121 rfl rfl, wm_7 123 rfl rfl, wm_0 89 rfl rfl⟩
set_option maxRecDepth 100000 in
theorem cb_X11_lostKeeps : CLB yX11_lostKeeps cX11_lostKeeps 3 (some .int) 2 := ⟨wm_7 128 rfl rfl, wm_1 12 rfl rfl, ⟨by decide +kernel, by decide +kernel, by decide +kernel⟩, by decide⟩
set_option maxRecDepth 100000 in
theorem cl_X11_387 : CLV RX11 387 yX11_lostKeeps cX11_lostKeeps 3 (some .int) 2 := ⟨cb_X11_lostKeeps, wm_7 125 rfl rfl, wm_7 127 rfl rfl, wm_0 90 rfl rfl⟩
set_option maxRecDepth 100000 in
theorem cb_X11_isUnder : CLB yX11_isUnder cX11_isUnder 2 (some .boolean) 2 := ⟨wm_7 131 rfl rfl, wm_1 12 rfl rfl, ⟨by decide +kernel, by decide +kernel, by decide +kernel⟩, by decide⟩
set_option maxRecDepth 100000 in
theorem cl_X11_381 : CLS RX11 381 yX11_isUnder cX11_isUnder 2 (some .boolean) 2 := ⟨cb_X11_isUnder, wm_7 129 rfl rfl, wm_7 130 rfl rfl⟩
set_option maxRecDepth 100000 in
theorem cb_X11_tells : CLB yX11_tells cX11_tells 3 (some .int) 2 := ⟨wm_7 135 rfl rfl, wm_1 12 rfl rfl, ⟨by decide +kernel, by decide +kernel, by decide +kernel⟩, by decide⟩
set_option maxRecDepth 100000 in
theorem cl_X11_399 : CLV RX11 399 yX11_tells cX11_tells 3 (some .int) 2 := ⟨cb_X11_tells, wm_7 132 rfl rfl, wm_7 134 rfl rfl, wm_0 91 rfl rfl⟩
set_option maxRecDepth 100000 in
theorem cb_X11_plainTells : CLB yX11_plainTells cX11_plainTells 4 (some .int) 2 := ⟨wm_7 139 rfl rfl, wm_1 12 rfl rfl, ⟨by decide +kernel, by decide +kernel, by decide +kernel⟩, by decide⟩
set_option maxRecDepth 100000 in
theorem cl_X11_393 : CLV RX11 393 yX11_plainTells cX11_plainTells 4 (some .int) 2 := ⟨cb_X11_plainTells, wm_7 136 rfl rfl, wm_7 138 rfl rfl, wm_0 92 rfl rfl⟩
set_option maxRecDepth 100000 in
theorem cb_X11_trace : CLB yX11_trace cX11_trace 2 (some .int) 1 := ⟨wm_7 143 rfl rfl, wm_1 12 rfl rfl, ⟨by decide +kernel, by decide +kernel, by decide +kernel⟩, by decide⟩
set_option maxRecDepth 100000 in
theorem cl_L_149 : CLV RL 149 yX11_trace cX11_trace 2 (some .int) 1 := ⟨cb_X11_trace, wm_7 140 rfl rfl, wm_7 141 rfl rfl, wm_7 142 rfl rfl⟩
set_option maxRecDepth 100000 in
theorem cb_X11_count : CLB yX11_count cX11_count 2 (some .int) 1 := ⟨wm_7 147 rfl rfl, wm_1 12 rfl rfl, ⟨by decide +kernel, by decide +kernel, by decide +kernel⟩, by decide⟩
set_option maxRecDepth 100000 in
theorem cl_L_182 : CLV RL 182 yX11_count cX11_count 2 (some .int) 1 := ⟨cb_X11_count, wm_7 144 rfl rfl, wm_7 145 rfl rfl, wm_7 146 rfl rfl⟩
set_option maxRecDepth 100000 in
theorem cb_X11_keep : CLB yX11_keep cX11_keep 3 (some .int) 2 := ⟨wm_7 151 rfl rfl, wm_1 12 rfl rfl, ⟨by decide +kernel, by decide +kernel, by decide +kernel⟩, by decide⟩
set_option maxRecDepth 100000 in
theorem cl_L_153 : CLV RL 153 yX11_keep cX11_keep 3 (some .int) 2 := ⟨cb_X11_keep, wm_7 148 rfl rfl, wm_7 149 rfl rfl, wm_7 150 rfl rfl⟩
set_option maxRecDepth 100000 in
theorem cb_X11_row : CLB yX11_row cX11_row 5 (some .int) 3 := ⟨wm_7 155 rfl rfl, wm_1 12 rfl rfl, ⟨by decide +kernel, by decide +kernel, by decide +kernel⟩, by decide⟩
set_option maxRecDepth 100000 in
theorem cl_L_157 : CLV RL 157 yX11_row cX11_row 5 (some .int) 3 := ⟨cb_X11_row, wm_7 152 rfl rfl, wm_7 153 rfl rfl, wm_7 154 rfl rfl⟩
set_option maxRecDepth 100000 in
theorem cb_X11_put : CLB yX11_put cX11_put 7 (some .int) 3 := ⟨wm_7 159 rfl rfl, wm_1 12 rfl rfl, ⟨by decide +kernel, by decide +kernel, by decide +kernel⟩, by decide⟩
set_option maxRecDepth 100000 in
theorem cl_L_164 : CLV RL 164 yX11_put cX11_put 7 (some .int) 3 := ⟨cb_X11_put, wm_7 156 rfl rfl, wm_7 157 rfl rfl, wm_7 158 rfl rfl⟩
set_option maxRecDepth 100000 in
theorem cb_X11_whyNoPlace : CLB yX11_whyNoPlace cX11_whyNoPlace 3 (some .int) 2 := ⟨wm_7 163 rfl rfl, wm_1 12 rfl rfl, ⟨by decide +kernel, by decide +kernel, by decide +kernel⟩, by decide⟩
set_option maxRecDepth 100000 in
theorem cl_X11_402 : CLV RX11 402 yX11_whyNoPlace cX11_whyNoPlace 3 (some .int) 2 := ⟨cb_X11_whyNoPlace, wm_7 160 rfl rfl, wm_7 162 rfl rfl, wm_0 93 rfl rfl⟩
set_option maxRecDepth 100000 in
theorem cb_X11_element : CLB yX11_element cX11_element 3 (some .long) 2 := ⟨wm_7 167 rfl rfl, wm_1 12 rfl rfl, ⟨by decide +kernel, by decide +kernel, by decide +kernel⟩, by decide⟩
set_option maxRecDepth 100000 in
theorem cl_L_169 : CLV RL 169 yX11_element cX11_element 3 (some .long) 2 := ⟨cb_X11_element, wm_7 164 rfl rfl, wm_7 165 rfl rfl, wm_7 166 rfl rfl⟩
set_option maxRecDepth 100000 in
theorem kw_X11_407 : Cond.constantLong RX11 407 (Int64.ofInt (-9223372036854775808)) ∈ WS := wm_7 168 rfl rfl
set_option maxRecDepth 100000 in
theorem cb_X11_shift : CLB yX11_shift cX11_shift 7 (some .int) 5 := ⟨wm_7 172 rfl rfl, wm_1 12 rfl rfl, ⟨by decide +kernel, by decide +kernel, by decide +kernel⟩, by decide⟩
set_option maxRecDepth 100000 in
theorem cl_L_174 : CLV RL 174 yX11_shift cX11_shift 7 (some .int) 5 := ⟨cb_X11_shift, wm_7 169 rfl rfl, wm_7 170 rfl rfl, wm_7 171 rfl rfl⟩
set_option maxRecDepth 100000 in
theorem cb_X11_taken : CLB yX11_taken cX11_taken 3 (some .int) 2 := ⟨wm_7 176 rfl rfl, wm_1 12 rfl rfl, ⟨by decide +kernel, by decide +kernel, by decide +kernel⟩, by decide⟩
set_option maxRecDepth 100000 in
theorem cl_L_178 : CLV RL 178 yX11_taken cX11_taken 3 (some .int) 2 := ⟨cb_X11_taken, wm_7 173 rfl rfl, wm_7 174 rfl rfl, wm_7 175 rfl rfl⟩
set_option maxRecDepth 100000 in
theorem kw_L_158 : Cond.constantLong RL 158 (Int64.ofInt (4294967295)) ∈ WS := wm_7 177 rfl rfl
set_option maxRecDepth 100000 in
theorem cn_X8_57 : CLN RX8 57 yX10_isClause cX10_isClause 1 (some .boolean) 1 0 := ⟨cb_X10_isClause, ⟨_, rfl⟩, wm_2 180 rfl rfl⟩
set_option maxRecDepth 100000 in
theorem cn_X8_61 : CLN RX8 61 yX10_isForm cX10_isForm 1 (some .boolean) 1 1 := ⟨cb_X10_isForm, ⟨_, rfl⟩, wm_2 183 rfl rfl⟩
