set_option maxRecDepth 100000 in
theorem fl_X8_11 : FL RX8 11 7 0 (.array .int) true := ⟨_, _, _, rfl, by decide, WS_m 125 (by decide +kernel), rfl, by decide +kernel, rfl⟩
set_option maxRecDepth 100000 in
theorem fl_X8_18 : FL RX8 18 7 1 .int false := ⟨_, _, _, rfl, by decide, WS_m 126 (by decide +kernel), rfl, by decide +kernel, rfl⟩
set_option maxRecDepth 100000 in
theorem fl_X10_88 : FL RX10 88 7 1 .int false := ⟨_, _, _, rfl, by decide, WS_m 127 (by decide +kernel), rfl, by decide +kernel, rfl⟩
set_option maxRecDepth 100000 in
theorem fl_X10_91 : FL RX10 91 7 2 .int false := ⟨_, _, _, rfl, by decide, WS_m 128 (by decide +kernel), rfl, by decide +kernel, rfl⟩
set_option maxRecDepth 100000 in
theorem fl_X8_48 : FL RX8 48 7 2 .int false := ⟨_, _, _, rfl, by decide, WS_m 129 (by decide +kernel), rfl, by decide +kernel, rfl⟩
set_option maxRecDepth 100000 in
theorem fl_X10_94 : FL RX10 94 7 3 .int false := ⟨_, _, _, rfl, by decide, WS_m 130 (by decide +kernel), rfl, by decide +kernel, rfl⟩
set_option maxRecDepth 100000 in
theorem fl_X8_51 : FL RX8 51 7 3 .int false := ⟨_, _, _, rfl, by decide, WS_m 131 (by decide +kernel), rfl, by decide +kernel, rfl⟩
set_option maxRecDepth 100000 in
theorem fl_X8_25 : FL RX8 25 7 4 .int false := ⟨_, _, _, rfl, by decide, WS_m 132 (by decide +kernel), rfl, by decide +kernel, rfl⟩
set_option maxRecDepth 100000 in
theorem fl_X10_97 : FL RX10 97 7 4 .int false := ⟨_, _, _, rfl, by decide, WS_m 133 (by decide +kernel), rfl, by decide +kernel, rfl⟩
set_option maxRecDepth 100000 in
theorem fl_X8_15 : FL RX8 15 7 5 (.array .int) true := ⟨_, _, _, rfl, by decide, WS_m 134 (by decide +kernel), rfl, by decide +kernel, rfl⟩
set_option maxRecDepth 100000 in
theorem fl_X10_100 : FL RX10 100 7 5 (.array .int) true := ⟨_, _, _, rfl, by decide, WS_m 135 (by decide +kernel), rfl, by decide +kernel, rfl⟩
set_option maxRecDepth 100000 in
theorem fl_X8_22 : FL RX8 22 7 6 .int false := ⟨_, _, _, rfl, by decide, WS_m 136 (by decide +kernel), rfl, by decide +kernel, rfl⟩
set_option maxRecDepth 100000 in
theorem cb_J7_fill_53178 : CLB yJ7_fill_53178 cJ7_fill_53178 4 none 2 := ⟨WS_m 161 (by decide +kernel), WS_m 98 (by decide +kernel), ⟨by decide +kernel, by decide +kernel, by decide +kernel⟩, by decide⟩
set_option maxRecDepth 100000 in
theorem cl_X1_39 : CLS RX1 39 yJ7_fill_53178 cJ7_fill_53178 4 none 2 := ⟨cb_J7_fill_53178, WS_m 159 (by decide +kernel), WS_m 160 (by decide +kernel)⟩
set_option maxRecDepth 100000 in
theorem fl_X9_45 : FL RX9 45 1 0 .int false := ⟨_, _, _, rfl, by decide, WS_m 162 (by decide +kernel), rfl, by decide +kernel, rfl⟩
set_option maxRecDepth 100000 in
theorem fl_X1_45 : FL RX1 45 1 0 .int false := ⟨_, _, _, rfl, by decide, WS_m 163 (by decide +kernel), rfl, by decide +kernel, rfl⟩
set_option maxRecDepth 100000 in
theorem fl_X2_20 : FL RX2 20 1 0 .int false := ⟨_, _, _, rfl, by decide, WS_m 164 (by decide +kernel), rfl, by decide +kernel, rfl⟩
set_option maxRecDepth 100000 in
theorem fl_X3_19 : FL RX3 19 1 0 .int false := ⟨_, _, _, rfl, by decide, WS_m 165 (by decide +kernel), rfl, by decide +kernel, rfl⟩
set_option maxRecDepth 100000 in
theorem fl_X10_80 : FL RX10 80 1 0 .int false := ⟨_, _, _, rfl, by decide, WS_m 166 (by decide +kernel), rfl, by decide +kernel, rfl⟩
set_option maxRecDepth 100000 in
theorem fl_X4_56 : FL RX4 56 1 0 .int false := ⟨_, _, _, rfl, by decide, WS_m 167 (by decide +kernel), rfl, by decide +kernel, rfl⟩
set_option maxRecDepth 100000 in
theorem fl_X1_11 : FL RX1 11 1 1 (.array .int) true := ⟨_, _, _, rfl, by decide, WS_m 168 (by decide +kernel), rfl, by decide +kernel, rfl⟩
set_option maxRecDepth 100000 in
theorem fl_X9_58 : FL RX9 58 1 1 (.array .int) true := ⟨_, _, _, rfl, by decide, WS_m 169 (by decide +kernel), rfl, by decide +kernel, rfl⟩
set_option maxRecDepth 100000 in
theorem fl_X2_36 : FL RX2 36 1 1 (.array .int) true := ⟨_, _, _, rfl, by decide, WS_m 170 (by decide +kernel), rfl, by decide +kernel, rfl⟩
set_option maxRecDepth 100000 in
theorem fl_X10_116 : FL RX10 116 1 1 (.array .int) true := ⟨_, _, _, rfl, by decide, WS_m 171 (by decide +kernel), rfl, by decide +kernel, rfl⟩
set_option maxRecDepth 100000 in
theorem fl_X4_89 : FL RX4 89 1 1 (.array .int) true := ⟨_, _, _, rfl, by decide, WS_m 172 (by decide +kernel), rfl, by decide +kernel, rfl⟩
set_option maxRecDepth 100000 in
theorem fl_X0_107 : FL RX0 107 1 1 (.array .int) true := ⟨_, _, _, rfl, by decide, WS_m 173 (by decide +kernel), rfl, by decide +kernel, rfl⟩
set_option maxRecDepth 100000 in
theorem fl_X1_15 : FL RX1 15 1 2 (.array .int) true := ⟨_, _, _, rfl, by decide, WS_m 174 (by decide +kernel), rfl, by decide +kernel, rfl⟩
set_option maxRecDepth 100000 in
theorem fl_X9_59 : FL RX9 59 1 2 (.array .int) true := ⟨_, _, _, rfl, by decide, WS_m 175 (by decide +kernel), rfl, by decide +kernel, rfl⟩
set_option maxRecDepth 100000 in
theorem fl_X2_40 : FL RX2 40 1 2 (.array .int) true := ⟨_, _, _, rfl, by decide, WS_m 176 (by decide +kernel), rfl, by decide +kernel, rfl⟩
set_option maxRecDepth 100000 in
theorem fl_X10_118 : FL RX10 118 1 2 (.array .int) true := ⟨_, _, _, rfl, by decide, WS_m 177 (by decide +kernel), rfl, by decide +kernel, rfl⟩
set_option maxRecDepth 100000 in
theorem fl_X4_92 : FL RX4 92 1 2 (.array .int) true := ⟨_, _, _, rfl, by decide, WS_m 178 (by decide +kernel), rfl, by decide +kernel, rfl⟩
set_option maxRecDepth 100000 in
theorem fl_X0_111 : FL RX0 111 1 2 (.array .int) true := ⟨_, _, _, rfl, by decide, WS_m 179 (by decide +kernel), rfl, by decide +kernel, rfl⟩
set_option maxRecDepth 100000 in
theorem fl_X1_18 : FL RX1 18 1 3 (.array .int) true := ⟨_, _, _, rfl, by decide, WS_m 180 (by decide +kernel), rfl, by decide +kernel, rfl⟩
set_option maxRecDepth 100000 in
theorem fl_X2_29 : FL RX2 29 1 3 (.array .int) true := ⟨_, _, _, rfl, by decide, WS_m 181 (by decide +kernel), rfl, by decide +kernel, rfl⟩
set_option maxRecDepth 100000 in
theorem fl_X10_120 : FL RX10 120 1 3 (.array .int) true := ⟨_, _, _, rfl, by decide, WS_m 182 (by decide +kernel), rfl, by decide +kernel, rfl⟩
set_option maxRecDepth 100000 in
theorem fl_X1_21 : FL RX1 21 1 4 (.array .int) true := ⟨_, _, _, rfl, by decide, WS_m 183 (by decide +kernel), rfl, by decide +kernel, rfl⟩
set_option maxRecDepth 100000 in
theorem fl_X10_122 : FL RX10 122 1 4 (.array .int) true := ⟨_, _, _, rfl, by decide, WS_m 184 (by decide +kernel), rfl, by decide +kernel, rfl⟩
set_option maxRecDepth 100000 in
theorem fl_X1_24 : FL RX1 24 1 5 (.array .int) true := ⟨_, _, _, rfl, by decide, WS_m 185 (by decide +kernel), rfl, by decide +kernel, rfl⟩
set_option maxRecDepth 100000 in
theorem fl_X1_27 : FL RX1 27 1 6 (.array .int) true := ⟨_, _, _, rfl, by decide, WS_m 186 (by decide +kernel), rfl, by decide +kernel, rfl⟩
set_option maxRecDepth 100000 in
theorem fl_X1_30 : FL RX1 30 1 7 (.array .int) true := ⟨_, _, _, rfl, by decide, WS_m 187 (by decide +kernel), rfl, by decide +kernel, rfl⟩
set_option maxRecDepth 100000 in
theorem fl_X1_33 : FL RX1 33 1 8 (.array .int) true := ⟨_, _, _, rfl, by decide, WS_m 188 (by decide +kernel), rfl, by decide +kernel, rfl⟩
set_option maxRecDepth 100000 in
theorem fl_X1_36 : FL RX1 36 1 9 (.array .int) true := ⟨_, _, _, rfl, by decide, WS_m 189 (by decide +kernel), rfl, by decide +kernel, rfl⟩
set_option maxRecDepth 100000 in
theorem fl_X1_73 : FL RX1 73 1 10 .int false := ⟨_, _, _, rfl, by decide, WS_m 190 (by decide +kernel), rfl, by decide +kernel, rfl⟩
set_option maxRecDepth 100000 in
theorem fl_X10_321 : FL RX10 321 1 10 .int false := ⟨_, _, _, rfl, by decide, WS_m 191 (by decide +kernel), rfl, by decide +kernel, rfl⟩
set_option maxRecDepth 100000 in
theorem fl_X1_79 : FL RX1 79 1 11 .int false := ⟨_, _, _, rfl, by decide, WS_m 192 (by decide +kernel), rfl, by decide +kernel, rfl⟩
set_option maxRecDepth 100000 in
theorem fl_X0_77 : FL RX0 77 1 12 .int false := ⟨_, _, _, rfl, by decide, WS_m 193 (by decide +kernel), rfl, by decide +kernel, rfl⟩
set_option maxRecDepth 100000 in
theorem fl_X1_82 : FL RX1 82 1 12 .int false := ⟨_, _, _, rfl, by decide, WS_m 194 (by decide +kernel), rfl, by decide +kernel, rfl⟩
set_option maxRecDepth 100000 in
theorem fl_X9_51 : FL RX9 51 8 0 .int false := ⟨_, _, _, rfl, by decide, WS_m 228 (by decide +kernel), rfl, by decide +kernel, rfl⟩
set_option maxRecDepth 100000 in
theorem fl_X2_26 : FL RX2 26 8 0 .int false := ⟨_, _, _, rfl, by decide, WS_m 229 (by decide +kernel), rfl, by decide +kernel, rfl⟩
set_option maxRecDepth 100000 in
theorem fl_X0_97 : FL RX0 97 8 0 .int false := ⟨_, _, _, rfl, by decide, WS_m 230 (by decide +kernel), rfl, by decide +kernel, rfl⟩
set_option maxRecDepth 100000 in
theorem fl_X9_9 : FL RX9 9 8 1 (.array .int) true := ⟨_, _, _, rfl, by decide, WS_m 231 (by decide +kernel), rfl, by decide +kernel, rfl⟩
set_option maxRecDepth 100000 in
theorem fl_X2_51 : FL RX2 51 8 1 (.array .int) true := ⟨_, _, _, rfl, by decide, WS_m 232 (by decide +kernel), rfl, by decide +kernel, rfl⟩
set_option maxRecDepth 100000 in
theorem fl_X0_136 : FL RX0 136 8 1 (.array .int) true := ⟨_, _, _, rfl, by decide, WS_m 233 (by decide +kernel), rfl, by decide +kernel, rfl⟩
set_option maxRecDepth 100000 in
theorem fl_X9_15 : FL RX9 15 8 2 (.array .int) true := ⟨_, _, _, rfl, by decide, WS_m 234 (by decide +kernel), rfl, by decide +kernel, rfl⟩
set_option maxRecDepth 100000 in
theorem fl_X2_33 : FL RX2 33 8 2 (.array .int) true := ⟨_, _, _, rfl, by decide, WS_m 235 (by decide +kernel), rfl, by decide +kernel, rfl⟩
set_option maxRecDepth 100000 in
theorem fl_X0_104 : FL RX0 104 8 2 (.array .int) true := ⟨_, _, _, rfl, by decide, WS_m 236 (by decide +kernel), rfl, by decide +kernel, rfl⟩
set_option maxRecDepth 100000 in
theorem fl_X9_18 : FL RX9 18 8 3 (.array .int) true := ⟨_, _, _, rfl, by decide, WS_m 237 (by decide +kernel), rfl, by decide +kernel, rfl⟩
set_option maxRecDepth 100000 in
theorem fl_X2_37 : FL RX2 37 8 3 (.array .int) true := ⟨_, _, _, rfl, by decide, WS_m 238 (by decide +kernel), rfl, by decide +kernel, rfl⟩
set_option maxRecDepth 100000 in
theorem fl_X0_108 : FL RX0 108 8 3 (.array .int) true := ⟨_, _, _, rfl, by decide, WS_m 239 (by decide +kernel), rfl, by decide +kernel, rfl⟩
set_option maxRecDepth 100000 in
theorem fl_X9_21 : FL RX9 21 8 4 (.array .int) true := ⟨_, _, _, rfl, by decide, WS_m 240 (by decide +kernel), rfl, by decide +kernel, rfl⟩
set_option maxRecDepth 100000 in
theorem fl_X10_184 : FL RX10 184 8 4 (.array .int) true := ⟨_, _, _, rfl, by decide, WS_m 241 (by decide +kernel), rfl, by decide +kernel, rfl⟩
set_option maxRecDepth 100000 in
theorem fl_X9_24 : FL RX9 24 8 5 (.array .int) true := ⟨_, _, _, rfl, by decide, WS_m 242 (by decide +kernel), rfl, by decide +kernel, rfl⟩
set_option maxRecDepth 100000 in
theorem fl_X4_42 : FL RX4 42 8 5 (.array .int) true := ⟨_, _, _, rfl, by decide, WS_m 243 (by decide +kernel), rfl, by decide +kernel, rfl⟩
set_option maxRecDepth 100000 in
theorem fl_X0_156 : FL RX0 156 8 5 (.array .int) true := ⟨_, _, _, rfl, by decide, WS_m 244 (by decide +kernel), rfl, by decide +kernel, rfl⟩
set_option maxRecDepth 100000 in
theorem fl_X9_27 : FL RX9 27 8 6 (.array .int) true := ⟨_, _, _, rfl, by decide, WS_m 245 (by decide +kernel), rfl, by decide +kernel, rfl⟩
set_option maxRecDepth 100000 in
theorem fl_X9_30 : FL RX9 30 8 7 (.array .int) true := ⟨_, _, _, rfl, by decide, WS_m 246 (by decide +kernel), rfl, by decide +kernel, rfl⟩
set_option maxRecDepth 100000 in
theorem fl_X9_33 : FL RX9 33 8 8 (.array .int) true := ⟨_, _, _, rfl, by decide, WS_m 247 (by decide +kernel), rfl, by decide +kernel, rfl⟩
set_option maxRecDepth 100000 in
theorem fl_X9_36 : FL RX9 36 8 9 (.array .int) true := ⟨_, _, _, rfl, by decide, WS_m 248 (by decide +kernel), rfl, by decide +kernel, rfl⟩
set_option maxRecDepth 100000 in
theorem fl_X9_39 : FL RX9 39 8 10 (.array .int) true := ⟨_, _, _, rfl, by decide, WS_m 249 (by decide +kernel), rfl, by decide +kernel, rfl⟩
set_option maxRecDepth 100000 in
theorem fl_X9_42 : FL RX9 42 8 11 (.array .int) true := ⟨_, _, _, rfl, by decide, WS_m 250 (by decide +kernel), rfl, by decide +kernel, rfl⟩
set_option maxRecDepth 100000 in
theorem fl_X4_24 : FL RX4 24 4 0 (.object "MotherTowns$Charters") true := ⟨_, _, _, rfl, by decide, WS_m 282 (by decide +kernel), rfl, by decide +kernel, rfl⟩
set_option maxRecDepth 100000 in
theorem fl_X4_28 : FL RX4 28 4 1 (.object "MotherTowns$Tree") true := ⟨_, _, _, rfl, by decide, WS_m 283 (by decide +kernel), rfl, by decide +kernel, rfl⟩
set_option maxRecDepth 100000 in
theorem fl_X4_9 : FL RX4 9 4 2 (.array .int) true := ⟨_, _, _, rfl, by decide, WS_m 284 (by decide +kernel), rfl, by decide +kernel, rfl⟩
set_option maxRecDepth 100000 in
theorem fl_X4_15 : FL RX4 15 4 3 (.array .int) true := ⟨_, _, _, rfl, by decide, WS_m 285 (by decide +kernel), rfl, by decide +kernel, rfl⟩
set_option maxRecDepth 100000 in
theorem fl_X4_18 : FL RX4 18 4 4 (.array .int) true := ⟨_, _, _, rfl, by decide, WS_m 286 (by decide +kernel), rfl, by decide +kernel, rfl⟩
set_option maxRecDepth 100000 in
theorem fl_X4_21 : FL RX4 21 4 5 (.array .int) true := ⟨_, _, _, rfl, by decide, WS_m 287 (by decide +kernel), rfl, by decide +kernel, rfl⟩
set_option maxRecDepth 100000 in
theorem fl_X0_44 : FL RX0 44 0 0 (.object "MotherTowns$Charters") true := ⟨_, _, _, rfl, by decide, WS_m 309 (by decide +kernel), rfl, by decide +kernel, rfl⟩
set_option maxRecDepth 100000 in
theorem fl_X0_12 : FL RX0 12 0 1 (.object "MotherTowns$Tree") true := ⟨_, _, _, rfl, by decide, WS_m 310 (by decide +kernel), rfl, by decide +kernel, rfl⟩
set_option maxRecDepth 100000 in
theorem fl_X0_48 : FL RX0 48 0 2 .int false := ⟨_, _, _, rfl, by decide, WS_m 311 (by decide +kernel), rfl, by decide +kernel, rfl⟩
set_option maxRecDepth 100000 in
theorem fl_X10_193 : FL RX10 193 0 2 .int false := ⟨_, _, _, rfl, by decide, WS_m 312 (by decide +kernel), rfl, by decide +kernel, rfl⟩
set_option maxRecDepth 100000 in
theorem fl_X0_80 : FL RX0 80 0 3 .int false := ⟨_, _, _, rfl, by decide, WS_m 313 (by decide +kernel), rfl, by decide +kernel, rfl⟩
set_option maxRecDepth 100000 in
theorem fl_X10_208 : FL RX10 208 0 3 .int false := ⟨_, _, _, rfl, by decide, WS_m 314 (by decide +kernel), rfl, by decide +kernel, rfl⟩
set_option maxRecDepth 100000 in
theorem fl_X0_84 : FL RX0 84 0 4 .int false := ⟨_, _, _, rfl, by decide, WS_m 315 (by decide +kernel), rfl, by decide +kernel, rfl⟩
set_option maxRecDepth 100000 in
theorem fl_X10_211 : FL RX10 211 0 4 .int false := ⟨_, _, _, rfl, by decide, WS_m 316 (by decide +kernel), rfl, by decide +kernel, rfl⟩
set_option maxRecDepth 100000 in
theorem fl_X0_18 : FL RX0 18 0 5 (.array .int) true := ⟨_, _, _, rfl, by decide, WS_m 317 (by decide +kernel), rfl, by decide +kernel, rfl⟩
set_option maxRecDepth 100000 in
theorem fl_X0_22 : FL RX0 22 0 6 (.array .int) true := ⟨_, _, _, rfl, by decide, WS_m 318 (by decide +kernel), rfl, by decide +kernel, rfl⟩
set_option maxRecDepth 100000 in
theorem fl_X0_25 : FL RX0 25 0 7 (.array .int) true := ⟨_, _, _, rfl, by decide, WS_m 319 (by decide +kernel), rfl, by decide +kernel, rfl⟩
set_option maxRecDepth 100000 in
theorem fl_X0_28 : FL RX0 28 0 8 (.array .int) true := ⟨_, _, _, rfl, by decide, WS_m 320 (by decide +kernel), rfl, by decide +kernel, rfl⟩
set_option maxRecDepth 100000 in
theorem fl_X0_31 : FL RX0 31 0 9 (.array .int) true := ⟨_, _, _, rfl, by decide, WS_m 321 (by decide +kernel), rfl, by decide +kernel, rfl⟩
set_option maxRecDepth 100000 in
theorem fl_X0_34 : FL RX0 34 0 10 (.array .int) true := ⟨_, _, _, rfl, by decide, WS_m 322 (by decide +kernel), rfl, by decide +kernel, rfl⟩
set_option maxRecDepth 100000 in
theorem fl_X0_37 : FL RX0 37 0 11 (.array .int) true := ⟨_, _, _, rfl, by decide, WS_m 323 (by decide +kernel), rfl, by decide +kernel, rfl⟩
set_option maxRecDepth 100000 in
theorem fl_X0_118 : FL RX0 118 0 12 .int false := ⟨_, _, _, rfl, by decide, WS_m 324 (by decide +kernel), rfl, by decide +kernel, rfl⟩
set_option maxRecDepth 100000 in
theorem fl_X0_130 : FL RX0 130 0 13 .int false := ⟨_, _, _, rfl, by decide, WS_m 325 (by decide +kernel), rfl, by decide +kernel, rfl⟩
set_option maxRecDepth 100000 in
theorem fl_X0_40 : FL RX0 40 0 14 .int false := ⟨_, _, _, rfl, by decide, WS_m 326 (by decide +kernel), rfl, by decide +kernel, rfl⟩
set_option maxRecDepth 100000 in
theorem fl_X3_15 : FL RX3 15 3 0 (.object "MotherTowns$Charters") true := ⟨_, _, _, rfl, by decide, WS_m 364 (by decide +kernel), rfl, by decide +kernel, rfl⟩
set_option maxRecDepth 100000 in
theorem fl_X3_9 : FL RX3 9 3 1 (.array .int) true := ⟨_, _, _, rfl, by decide, WS_m 365 (by decide +kernel), rfl, by decide +kernel, rfl⟩
set_option maxRecDepth 100000 in
theorem fl_X2_16 : FL RX2 16 2 0 (.object "MotherTowns$Charters") true := ⟨_, _, _, rfl, by decide, WS_m 379 (by decide +kernel), rfl, by decide +kernel, rfl⟩
set_option maxRecDepth 100000 in
theorem fl_X2_10 : FL RX2 10 2 1 (.object "MotherTowns$Tree") true := ⟨_, _, _, rfl, by decide, WS_m 380 (by decide +kernel), rfl, by decide +kernel, rfl⟩
set_option maxRecDepth 100000 in
theorem fl_X5_26 : FL RX5 26 5 0 .int false := ⟨_, _, _, rfl, by decide, WS_m 392 (by decide +kernel), rfl, by decide +kernel, rfl⟩
set_option maxRecDepth 100000 in
theorem fl_X10_272 : FL RX10 272 5 0 .int false := ⟨_, _, _, rfl, by decide, WS_m 393 (by decide +kernel), rfl, by decide +kernel, rfl⟩
set_option maxRecDepth 100000 in
theorem fl_X5_52 : FL RX5 52 5 1 .int false := ⟨_, _, _, rfl, by decide, WS_m 394 (by decide +kernel), rfl, by decide +kernel, rfl⟩
set_option maxRecDepth 100000 in
theorem fl_X10_275 : FL RX10 275 5 1 .int false := ⟨_, _, _, rfl, by decide, WS_m 395 (by decide +kernel), rfl, by decide +kernel, rfl⟩
set_option maxRecDepth 100000 in
theorem fl_X5_9 : FL RX5 9 5 2 (.array .int) true := ⟨_, _, _, rfl, by decide, WS_m 396 (by decide +kernel), rfl, by decide +kernel, rfl⟩
set_option maxRecDepth 100000 in
theorem fl_X10_317 : FL RX10 317 5 2 (.array .int) true := ⟨_, _, _, rfl, by decide, WS_m 397 (by decide +kernel), rfl, by decide +kernel, rfl⟩
set_option maxRecDepth 100000 in
theorem fl_X5_13 : FL RX5 13 5 3 (.array .int) true := ⟨_, _, _, rfl, by decide, WS_m 398 (by decide +kernel), rfl, by decide +kernel, rfl⟩
set_option maxRecDepth 100000 in
theorem fl_X10_283 : FL RX10 283 5 3 (.array .int) true := ⟨_, _, _, rfl, by decide, WS_m 399 (by decide +kernel), rfl, by decide +kernel, rfl⟩
set_option maxRecDepth 100000 in
theorem fl_X5_16 : FL RX5 16 5 4 (.array .int) true := ⟨_, _, _, rfl, by decide, WS_m 400 (by decide +kernel), rfl, by decide +kernel, rfl⟩
set_option maxRecDepth 100000 in
theorem fl_X5_30 : FL RX5 30 5 5 .int false := ⟨_, _, _, rfl, by decide, WS_m 401 (by decide +kernel), rfl, by decide +kernel, rfl⟩
set_option maxRecDepth 100000 in
theorem fl_X5_33 : FL RX5 33 5 6 .int false := ⟨_, _, _, rfl, by decide, WS_m 402 (by decide +kernel), rfl, by decide +kernel, rfl⟩
set_option maxRecDepth 100000 in
theorem fl_X5_36 : FL RX5 36 5 7 .int false := ⟨_, _, _, rfl, by decide, WS_m 403 (by decide +kernel), rfl, by decide +kernel, rfl⟩
set_option maxRecDepth 100000 in
theorem fl_X6_9 : FL RX6 9 6 0 .int false := ⟨_, _, _, rfl, by decide, WS_m 428 (by decide +kernel), rfl, by decide +kernel, rfl⟩
set_option maxRecDepth 100000 in
theorem fl_X10_143 : FL RX10 143 6 0 .int false := ⟨_, _, _, rfl, by decide, WS_m 429 (by decide +kernel), rfl, by decide +kernel, rfl⟩
set_option maxRecDepth 100000 in
theorem fl_X6_17 : FL RX6 17 6 1 .int false := ⟨_, _, _, rfl, by decide, WS_m 430 (by decide +kernel), rfl, by decide +kernel, rfl⟩
set_option maxRecDepth 100000 in
theorem fl_X10_314 : FL RX10 314 6 1 .int false := ⟨_, _, _, rfl, by decide, WS_m 431 (by decide +kernel), rfl, by decide +kernel, rfl⟩
set_option maxRecDepth 100000 in
theorem fl_X6_20 : FL RX6 20 6 2 .int false := ⟨_, _, _, rfl, by decide, WS_m 432 (by decide +kernel), rfl, by decide +kernel, rfl⟩
set_option maxRecDepth 100000 in
theorem fl_X10_146 : FL RX10 146 6 2 .int false := ⟨_, _, _, rfl, by decide, WS_m 433 (by decide +kernel), rfl, by decide +kernel, rfl⟩
set_option maxRecDepth 100000 in
theorem fl_X6_23 : FL RX6 23 6 3 .int false := ⟨_, _, _, rfl, by decide, WS_m 434 (by decide +kernel), rfl, by decide +kernel, rfl⟩
set_option maxRecDepth 100000 in
theorem fl_X6_13 : FL RX6 13 6 4 (.array .long) true := ⟨_, _, _, rfl, by decide, WS_m 435 (by decide +kernel), rfl, by decide +kernel, rfl⟩
set_option maxRecDepth 100000 in
theorem fl_X10_153 : FL RX10 153 6 4 (.array .long) true := ⟨_, _, _, rfl, by decide, WS_m 436 (by decide +kernel), rfl, by decide +kernel, rfl⟩
set_option maxRecDepth 100000 in
theorem fl_X10_10 : FL RX10 10 9 0 (.object "MotherTowns$Tape") true := ⟨_, _, _, rfl, by decide, WS_m 449 (by decide +kernel), rfl, by decide +kernel, rfl⟩
set_option maxRecDepth 100000 in
theorem fl_X10_19 : FL RX10 19 9 1 (.object "MotherTowns$Charters") true := ⟨_, _, _, rfl, by decide, WS_m 450 (by decide +kernel), rfl, by decide +kernel, rfl⟩
set_option maxRecDepth 100000 in
theorem fl_X10_26 : FL RX10 26 9 2 (.object "MotherTowns$Tree") true := ⟨_, _, _, rfl, by decide, WS_m 451 (by decide +kernel), rfl, by decide +kernel, rfl⟩
set_option maxRecDepth 100000 in
theorem fl_X10_35 : FL RX10 35 9 3 (.object "MotherTowns$Fillings") true := ⟨_, _, _, rfl, by decide, WS_m 452 (by decide +kernel), rfl, by decide +kernel, rfl⟩
set_option maxRecDepth 100000 in
theorem fl_X10_44 : FL RX10 44 9 4 (.object "MotherTowns$BestTrees") true := ⟨_, _, _, rfl, by decide, WS_m 453 (by decide +kernel), rfl, by decide +kernel, rfl⟩
set_option maxRecDepth 100000 in
theorem fl_X10_51 : FL RX10 51 9 5 (.object "MotherTowns$Clashes") true := ⟨_, _, _, rfl, by decide, WS_m 454 (by decide +kernel), rfl, by decide +kernel, rfl⟩
set_option maxRecDepth 100000 in
theorem fl_X10_58 : FL RX10 58 9 6 (.object "MotherTowns$Claims") true := ⟨_, _, _, rfl, by decide, WS_m 455 (by decide +kernel), rfl, by decide +kernel, rfl⟩
set_option maxRecDepth 100000 in
theorem fl_X10_65 : FL RX10 65 9 7 (.object "MotherTowns$Paths") true := ⟨_, _, _, rfl, by decide, WS_m 456 (by decide +kernel), rfl, by decide +kernel, rfl⟩
set_option maxRecDepth 100000 in
theorem fl_X10_71 : FL RX10 71 9 8 (.array (.object "MotherTowns$Shelf")) true := ⟨_, _, _, rfl, by decide, WS_m 457 (by decide +kernel), rfl, by decide +kernel, rfl⟩
set_option maxRecDepth 100000 in
theorem cb_X10_feed : CLB yX10_feed cX10_feed 3 (some .int) 2 := ⟨WS_m 480 (by decide +kernel), WS_m 95 (by decide +kernel), ⟨by decide +kernel, by decide +kernel, by decide +kernel⟩, by decide⟩
set_option maxRecDepth 100000 in
theorem cl_L_13 : CLV RL 13 yX10_feed cX10_feed 3 (some .int) 2 := ⟨cb_X10_feed, WS_m 477 (by decide +kernel), WS_m 478 (by decide +kernel), WS_m 479 (by decide +kernel)⟩
set_option maxRecDepth 100000 in
theorem cb_X8_take : CLB yX8_take cX8_take 4 (some .int) 2 := ⟨WS_m 484 (by decide +kernel), WS_m 96 (by decide +kernel), ⟨by decide +kernel, by decide +kernel, by decide +kernel⟩, by decide⟩
set_option maxRecDepth 100000 in
theorem cl_X10_76 : CLV RX10 76 yX8_take cX8_take 4 (some .int) 2 := ⟨cb_X8_take, WS_m 481 (by decide +kernel), WS_m 482 (by decide +kernel), WS_m 483 (by decide +kernel)⟩
set_option maxRecDepth 100000 in
theorem cb_X10_charter : CLB yX10_charter cX10_charter 2 (some .int) 0 := ⟨WS_m 488 (by decide +kernel), WS_m 95 (by decide +kernel), ⟨by decide +kernel, by decide +kernel, by decide +kernel⟩, by decide⟩
set_option maxRecDepth 100000 in
theorem cl_L_18 : CLV RL 18 yX10_charter cX10_charter 2 (some .int) 0 := ⟨cb_X10_charter, WS_m 485 (by decide +kernel), WS_m 486 (by decide +kernel), WS_m 487 (by decide +kernel)⟩
set_option maxRecDepth 100000 in
theorem cb_X8_read : CLB yX8_read cX8_read 3 (some .int) 1 := ⟨WS_m 492 (by decide +kernel), WS_m 96 (by decide +kernel), ⟨by decide +kernel, by decide +kernel, by decide +kernel⟩, by decide⟩
set_option maxRecDepth 100000 in
theorem cl_X10_84 : CLV RX10 84 yX8_read cX8_read 3 (some .int) 1 := ⟨cb_X8_read, WS_m 489 (by decide +kernel), WS_m 490 (by decide +kernel), WS_m 491 (by decide +kernel)⟩
set_option maxRecDepth 100000 in
theorem cl_X8_28 : CLS RX8 28 yJ7_fill_53178 cJ7_fill_53178 4 none 2 := ⟨cb_J7_fill_53178, WS_m 493 (by decide +kernel), WS_m 160 (by decide +kernel)⟩
set_option maxRecDepth 100000 in
theorem cb_X8_readDays : CLB yX8_readDays cX8_readDays 2 (some .int) 0 := ⟨WS_m 497 (by decide +kernel), WS_m 96 (by decide +kernel), ⟨by decide +kernel, by decide +kernel, by decide +kernel⟩, by decide⟩
set_option maxRecDepth 100000 in
theorem cl_X8_34 : CLV RX8 34 yX8_readDays cX8_readDays 2 (some .int) 0 := ⟨cb_X8_readDays, WS_m 494 (by decide +kernel), WS_m 496 (by decide +kernel), WS_m 0 (by decide +kernel)⟩
set_option maxRecDepth 100000 in
theorem cb_X8_number : CLB yX8_number cX8_number 4 (some .int) 1 := ⟨WS_m 501 (by decide +kernel), WS_m 96 (by decide +kernel), ⟨by decide +kernel, by decide +kernel, by decide +kernel⟩, by decide⟩
set_option maxRecDepth 100000 in
theorem cl_X8_45 : CLV RX8 45 yX8_number cX8_number 4 (some .int) 1 := ⟨cb_X8_number, WS_m 498 (by decide +kernel), WS_m 500 (by decide +kernel), WS_m 1 (by decide +kernel)⟩
set_option maxRecDepth 100000 in
theorem cb_X8_sign : CLB yX8_sign cX8_sign 1 (some .int) 0 := ⟨WS_m 505 (by decide +kernel), WS_m 96 (by decide +kernel), ⟨by decide +kernel, by decide +kernel, by decide +kernel⟩, by decide⟩
set_option maxRecDepth 100000 in
theorem cl_X8_54 : CLV RX8 54 yX8_sign cX8_sign 1 (some .int) 0 := ⟨cb_X8_sign, WS_m 502 (by decide +kernel), WS_m 504 (by decide +kernel), WS_m 2 (by decide +kernel)⟩
set_option maxRecDepth 100000 in
theorem mw_X8_64 : Cond.methodLink RX8 64 Lib.Math.max.name ∈ WS := WS_m 506 (by decide +kernel)
set_option maxRecDepth 100000 in
theorem cb_X8_readClauses : CLB yX8_readClauses cX8_readClauses 5 (some .int) 0 := ⟨WS_m 512 (by decide +kernel), WS_m 96 (by decide +kernel), ⟨by decide +kernel, by decide +kernel, by decide +kernel⟩, by decide⟩
set_option maxRecDepth 100000 in
theorem cl_X8_38 : CLV RX8 38 yX8_readClauses cX8_readClauses 5 (some .int) 0 := ⟨cb_X8_readClauses, WS_m 509 (by decide +kernel), WS_m 511 (by decide +kernel), WS_m 3 (by decide +kernel)⟩
set_option maxRecDepth 100000 in
theorem cb_X8_readMother : CLB yX8_readMother cX8_readMother 3 (some .int) 1 := ⟨WS_m 522 (by decide +kernel), WS_m 96 (by decide +kernel), ⟨by decide +kernel, by decide +kernel, by decide +kernel⟩, by decide⟩
set_option maxRecDepth 100000 in
theorem cl_X8_41 : CLV RX8 41 yX8_readMother cX8_readMother 3 (some .int) 1 := ⟨cb_X8_readMother, WS_m 519 (by decide +kernel), WS_m 521 (by decide +kernel), WS_m 4 (by decide +kernel)⟩
set_option maxRecDepth 100000 in
theorem cb_X1_add : CLB yX1_add cX1_add 6 (some .int) 4 := ⟨WS_m 526 (by decide +kernel), WS_m 97 (by decide +kernel), ⟨by decide +kernel, by decide +kernel, by decide +kernel⟩, by decide⟩
set_option maxRecDepth 100000 in
theorem cl_X10_104 : CLV RX10 104 yX1_add cX1_add 6 (some .int) 4 := ⟨cb_X1_add, WS_m 523 (by decide +kernel), WS_m 524 (by decide +kernel), WS_m 525 (by decide +kernel)⟩
set_option maxRecDepth 100000 in
theorem cb_X1_formCell : CLB yX1_formCell cX1_formCell 3 (some .int) 2 := ⟨WS_m 530 (by decide +kernel), WS_m 97 (by decide +kernel), ⟨by decide +kernel, by decide +kernel, by decide +kernel⟩, by decide⟩
set_option maxRecDepth 100000 in
theorem cl_X1_49 : CLV RX1 49 yX1_formCell cX1_formCell 3 (some .int) 2 := ⟨cb_X1_formCell, WS_m 527 (by decide +kernel), WS_m 528 (by decide +kernel), WS_m 529 (by decide +kernel)⟩
set_option maxRecDepth 100000 in
theorem mw_X1_53 : Cond.methodLink RX1 53 arraycopyName ∈ WS := WS_m 531 (by decide +kernel)
set_option maxRecDepth 100000 in
theorem cb_X1_motherCell : CLB yX1_motherCell cX1_motherCell 2 (some .int) 1 := ⟨WS_m 537 (by decide +kernel), WS_m 97 (by decide +kernel), ⟨by decide +kernel, by decide +kernel, by decide +kernel⟩, by decide⟩
set_option maxRecDepth 100000 in
theorem cl_X1_59 : CLV RX1 59 yX1_motherCell cX1_motherCell 2 (some .int) 1 := ⟨cb_X1_motherCell, WS_m 534 (by decide +kernel), WS_m 535 (by decide +kernel), WS_m 536 (by decide +kernel)⟩
set_option maxRecDepth 100000 in
theorem cb_X10_lost : CLB yX10_lost cX10_lost 1 (some .int) 0 := ⟨WS_m 541 (by decide +kernel), WS_m 95 (by decide +kernel), ⟨by decide +kernel, by decide +kernel, by decide +kernel⟩, by decide⟩
set_option maxRecDepth 100000 in
theorem cl_L_23 : CLV RL 23 yX10_lost cX10_lost 1 (some .int) 0 := ⟨cb_X10_lost, WS_m 538 (by decide +kernel), WS_m 539 (by decide +kernel), WS_m 540 (by decide +kernel)⟩
set_option maxRecDepth 100000 in
theorem cb_X1_addLost : CLB yX1_addLost cX1_addLost 2 (some .int) 0 := ⟨WS_m 545 (by decide +kernel), WS_m 97 (by decide +kernel), ⟨by decide +kernel, by decide +kernel, by decide +kernel⟩, by decide⟩
set_option maxRecDepth 100000 in
theorem cl_X10_108 : CLV RX10 108 yX1_addLost cX1_addLost 2 (some .int) 0 := ⟨cb_X1_addLost, WS_m 542 (by decide +kernel), WS_m 543 (by decide +kernel), WS_m 544 (by decide +kernel)⟩
set_option maxRecDepth 100000 in
theorem cl_X1_63 : CLV RX1 63 yX1_add cX1_add 6 (some .int) 4 := ⟨cb_X1_add, WS_m 546 (by decide +kernel), WS_m 524 (by decide +kernel), WS_m 525 (by decide +kernel)⟩
set_option maxRecDepth 100000 in
theorem cb_X10_ofCharter : CLB yX10_ofCharter cX10_ofCharter 3 (some .int) 2 := ⟨WS_m 550 (by decide +kernel), WS_m 95 (by decide +kernel), ⟨by decide +kernel, by decide +kernel, by decide +kernel⟩, by decide⟩
set_option maxRecDepth 100000 in
theorem cl_L_27 : CLV RL 27 yX10_ofCharter cX10_ofCharter 3 (some .int) 2 := ⟨cb_X10_ofCharter, WS_m 547 (by decide +kernel), WS_m 548 (by decide +kernel), WS_m 549 (by decide +kernel)⟩
set_option maxRecDepth 100000 in
theorem cb_X1_has : CLB yX1_has cX1_has 2 (some .boolean) 1 := ⟨WS_m 554 (by decide +kernel), WS_m 97 (by decide +kernel), ⟨by decide +kernel, by decide +kernel, by decide +kernel⟩, by decide⟩
set_option maxRecDepth 100000 in
theorem cl_X10_112 : CLV RX10 112 yX1_has cX1_has 2 (some .boolean) 1 := ⟨cb_X1_has, WS_m 551 (by decide +kernel), WS_m 552 (by decide +kernel), WS_m 553 (by decide +kernel)⟩
set_option maxRecDepth 100000 in
theorem cb_X1_told : CLB yX1_told cX1_told 3 (some .int) 2 := ⟨WS_m 558 (by decide +kernel), WS_m 97 (by decide +kernel), ⟨by decide +kernel, by decide +kernel, by decide +kernel⟩, by decide⟩
set_option maxRecDepth 100000 in
theorem cl_X10_125 : CLV RX10 125 yX1_told cX1_told 3 (some .int) 2 := ⟨cb_X1_told, WS_m 555 (by decide +kernel), WS_m 556 (by decide +kernel), WS_m 557 (by decide +kernel)⟩
set_option maxRecDepth 100000 in
theorem cb_X10_form : CLB yX10_form cX10_form 4 (some .int) 3 := ⟨WS_m 562 (by decide +kernel), WS_m 95 (by decide +kernel), ⟨by decide +kernel, by decide +kernel, by decide +kernel⟩, by decide⟩
set_option maxRecDepth 100000 in
theorem cl_L_31 : CLV RL 31 yX10_form cX10_form 4 (some .int) 3 := ⟨cb_X10_form, WS_m 559 (by decide +kernel), WS_m 560 (by decide +kernel), WS_m 561 (by decide +kernel)⟩
set_option maxRecDepth 100000 in
theorem cb_X10_isClause : CLB yX10_isClause cX10_isClause 1 (some .boolean) 1 := ⟨WS_m 515 (by decide +kernel), WS_m 95 (by decide +kernel), ⟨by decide +kernel, by decide +kernel, by decide +kernel⟩, by decide⟩
set_option maxRecDepth 100000 in
theorem cl_X10_128 : CLS RX10 128 yX10_isClause cX10_isClause 1 (some .boolean) 1 := ⟨cb_X10_isClause, WS_m 563 (by decide +kernel), WS_m 514 (by decide +kernel)⟩
set_option maxRecDepth 100000 in
theorem cb_X10_isForm : CLB yX10_isForm cX10_isForm 1 (some .boolean) 1 := ⟨WS_m 518 (by decide +kernel), WS_m 95 (by decide +kernel), ⟨by decide +kernel, by decide +kernel, by decide +kernel⟩, by decide⟩
set_option maxRecDepth 100000 in
theorem cl_X10_131 : CLS RX10 131 yX10_isForm cX10_isForm 1 (some .boolean) 1 := ⟨cb_X10_isForm, WS_m 564 (by decide +kernel), WS_m 517 (by decide +kernel)⟩
set_option maxRecDepth 100000 in
theorem cl_X10_134 : CLV RX10 134 yX1_formCell cX1_formCell 3 (some .int) 2 := ⟨cb_X1_formCell, WS_m 565 (by decide +kernel), WS_m 528 (by decide +kernel), WS_m 529 (by decide +kernel)⟩
set_option maxRecDepth 100000 in
theorem cb_X1_change : CLB yX1_change cX1_change 4 (some .int) 2 := ⟨WS_m 569 (by decide +kernel), WS_m 97 (by decide +kernel), ⟨by decide +kernel, by decide +kernel, by decide +kernel⟩, by decide⟩
set_option maxRecDepth 100000 in
theorem cl_X10_137 : CLV RX10 137 yX1_change cX1_change 4 (some .int) 2 := ⟨cb_X1_change, WS_m 566 (by decide +kernel), WS_m 567 (by decide +kernel), WS_m 568 (by decide +kernel)⟩
set_option maxRecDepth 100000 in
theorem cb_X1_dropOldest : CLB yX1_dropOldest cX1_dropOldest 1 none 0 := ⟨WS_m 573 (by decide +kernel), WS_m 97 (by decide +kernel), ⟨by decide +kernel, by decide +kernel, by decide +kernel⟩, by decide⟩
set_option maxRecDepth 100000 in
theorem cl_X1_76 : CLV RX1 76 yX1_dropOldest cX1_dropOldest 1 none 0 := ⟨cb_X1_dropOldest, WS_m 570 (by decide +kernel), WS_m 572 (by decide +kernel), WS_m 5 (by decide +kernel)⟩
set_option maxRecDepth 100000 in
theorem cb_X10_forms : CLB yX10_forms cX10_forms 8 (some .int) 4 := ⟨WS_m 577 (by decide +kernel), WS_m 95 (by decide +kernel), ⟨by decide +kernel, by decide +kernel, by decide +kernel⟩, by decide⟩
set_option maxRecDepth 100000 in
theorem cl_L_36 : CLV RL 36 yX10_forms cX10_forms 8 (some .int) 4 := ⟨cb_X10_forms, WS_m 574 (by decide +kernel), WS_m 575 (by decide +kernel), WS_m 576 (by decide +kernel)⟩
set_option maxRecDepth 100000 in
theorem cb_X10_isShelf : CLB yX10_isShelf cX10_isShelf 1 (some .boolean) 1 := ⟨WS_m 580 (by decide +kernel), WS_m 95 (by decide +kernel), ⟨by decide +kernel, by decide +kernel, by decide +kernel⟩, by decide⟩
set_option maxRecDepth 100000 in
theorem cl_X10_140 : CLS RX10 140 yX10_isShelf cX10_isShelf 1 (some .boolean) 1 := ⟨cb_X10_isShelf, WS_m 578 (by decide +kernel), WS_m 579 (by decide +kernel)⟩
set_option maxRecDepth 100000 in
theorem cb_X6_hasPlace : CLB yX6_hasPlace cX6_hasPlace 3 (some .boolean) 1 := ⟨WS_m 584 (by decide +kernel), WS_m 105 (by decide +kernel), ⟨by decide +kernel, by decide +kernel, by decide +kernel⟩, by decide⟩
set_option maxRecDepth 100000 in
theorem cl_X10_149 : CLV RX10 149 yX6_hasPlace cX6_hasPlace 3 (some .boolean) 1 := ⟨cb_X6_hasPlace, WS_m 581 (by decide +kernel), WS_m 582 (by decide +kernel), WS_m 583 (by decide +kernel)⟩
set_option maxRecDepth 100000 in
theorem cb_X10_price : CLB yX10_price cX10_price 3 (some .int) 2 := ⟨WS_m 588 (by decide +kernel), WS_m 95 (by decide +kernel), ⟨by decide +kernel, by decide +kernel, by decide +kernel⟩, by decide⟩
set_option maxRecDepth 100000 in
theorem cl_L_41 : CLV RL 41 yX10_price cX10_price 3 (some .int) 2 := ⟨cb_X10_price, WS_m 585 (by decide +kernel), WS_m 586 (by decide +kernel), WS_m 587 (by decide +kernel)⟩
set_option maxRecDepth 100000 in
theorem cb_X1_costCell : CLB yX1_costCell cX1_costCell 2 (some .int) 1 := ⟨WS_m 592 (by decide +kernel), WS_m 97 (by decide +kernel), ⟨by decide +kernel, by decide +kernel, by decide +kernel⟩, by decide⟩
set_option maxRecDepth 100000 in
theorem cl_X10_157 : CLV RX10 157 yX1_costCell cX1_costCell 2 (some .int) 1 := ⟨cb_X1_costCell, WS_m 589 (by decide +kernel), WS_m 590 (by decide +kernel), WS_m 591 (by decide +kernel)⟩
set_option maxRecDepth 100000 in
theorem cb_X10_same : CLB yX10_same cX10_same 9 (some .int) 3 := ⟨WS_m 596 (by decide +kernel), WS_m 95 (by decide +kernel), ⟨by decide +kernel, by decide +kernel, by decide +kernel⟩, by decide⟩
set_option maxRecDepth 100000 in
theorem cl_L_45 : CLV RL 45 yX10_same cX10_same 9 (some .int) 3 := ⟨cb_X10_same, WS_m 593 (by decide +kernel), WS_m 594 (by decide +kernel), WS_m 595 (by decide +kernel)⟩
set_option maxRecDepth 100000 in
theorem cb_X10_mother : CLB yX10_mother cX10_mother 3 (some .int) 2 := ⟨WS_m 600 (by decide +kernel), WS_m 95 (by decide +kernel), ⟨by decide +kernel, by decide +kernel, by decide +kernel⟩, by decide⟩
set_option maxRecDepth 100000 in
theorem cl_L_49 : CLV RL 49 yX10_mother cX10_mother 3 (some .int) 2 := ⟨cb_X10_mother, WS_m 597 (by decide +kernel), WS_m 598 (by decide +kernel), WS_m 599 (by decide +kernel)⟩
set_option maxRecDepth 100000 in
theorem kw_X10_160 : Cond.constant RX10 160 (Int32.ofInt (-2000000000)) ∈ WS := WS_m 601 (by decide +kernel)
set_option maxRecDepth 100000 in
theorem cb_X1_isUnder : CLB yX1_isUnder cX1_isUnder 5 (some .boolean) 2 := ⟨WS_m 605 (by decide +kernel), WS_m 97 (by decide +kernel), ⟨by decide +kernel, by decide +kernel, by decide +kernel⟩, by decide⟩
set_option maxRecDepth 100000 in
theorem cl_X10_161 : CLV RX10 161 yX1_isUnder cX1_isUnder 5 (some .boolean) 2 := ⟨cb_X1_isUnder, WS_m 602 (by decide +kernel), WS_m 603 (by decide +kernel), WS_m 604 (by decide +kernel)⟩
set_option maxRecDepth 100000 in
theorem cb_X1_motherOf : CLB yX1_motherOf cX1_motherOf 2 (some .int) 1 := ⟨WS_m 609 (by decide +kernel), WS_m 97 (by decide +kernel), ⟨by decide +kernel, by decide +kernel, by decide +kernel⟩, by decide⟩
set_option maxRecDepth 100000 in
theorem cl_X1_70 : CLV RX1 70 yX1_motherOf cX1_motherOf 2 (some .int) 1 := ⟨cb_X1_motherOf, WS_m 606 (by decide +kernel), WS_m 607 (by decide +kernel), WS_m 608 (by decide +kernel)⟩
set_option maxRecDepth 100000 in
theorem cl_X10_165 : CLV RX10 165 yX1_motherCell cX1_motherCell 2 (some .int) 1 := ⟨cb_X1_motherCell, WS_m 610 (by decide +kernel), WS_m 535 (by decide +kernel), WS_m 536 (by decide +kernel)⟩
set_option maxRecDepth 100000 in
theorem cb_X10_cost : CLB yX10_cost cX10_cost 4 (some .int) 1 := ⟨WS_m 614 (by decide +kernel), WS_m 95 (by decide +kernel), ⟨by decide +kernel, by decide +kernel, by decide +kernel⟩, by decide⟩
set_option maxRecDepth 100000 in
theorem cl_L_53 : CLV RL 53 yX10_cost cX10_cost 4 (some .int) 1 := ⟨cb_X10_cost, WS_m 611 (by decide +kernel), WS_m 612 (by decide +kernel), WS_m 613 (by decide +kernel)⟩
set_option maxRecDepth 100000 in
theorem cb_X9_growAsTold : CLB yX9_growAsTold cX9_growAsTold 3 none 1 := ⟨WS_m 618 (by decide +kernel), WS_m 99 (by decide +kernel), ⟨by decide +kernel, by decide +kernel, by decide +kernel⟩, by decide⟩
set_option maxRecDepth 100000 in
theorem cl_X10_168 : CLV RX10 168 yX9_growAsTold cX9_growAsTold 3 none 1 := ⟨cb_X9_growAsTold, WS_m 615 (by decide +kernel), WS_m 616 (by decide +kernel), WS_m 617 (by decide +kernel)⟩
set_option maxRecDepth 100000 in
theorem cl_X9_54 : CLV RX9 54 yX1_motherOf cX1_motherOf 2 (some .int) 1 := ⟨cb_X1_motherOf, WS_m 619 (by decide +kernel), WS_m 607 (by decide +kernel), WS_m 608 (by decide +kernel)⟩
set_option maxRecDepth 100000 in
theorem cb_X9_price : CLB yX9_price cX9_price 5 none 1 := ⟨WS_m 623 (by decide +kernel), WS_m 99 (by decide +kernel), ⟨by decide +kernel, by decide +kernel, by decide +kernel⟩, by decide⟩
set_option maxRecDepth 100000 in
theorem cl_X9_60 : CLV RX9 60 yX9_price cX9_price 5 none 1 := ⟨cb_X9_price, WS_m 620 (by decide +kernel), WS_m 621 (by decide +kernel), WS_m 622 (by decide +kernel)⟩
set_option maxRecDepth 100000 in
theorem cb_X1_costOf : CLB yX1_costOf cX1_costOf 2 (some .int) 1 := ⟨WS_m 627 (by decide +kernel), WS_m 97 (by decide +kernel), ⟨by decide +kernel, by decide +kernel, by decide +kernel⟩, by decide⟩
set_option maxRecDepth 100000 in
theorem cl_X9_68 : CLV RX9 68 yX1_costOf cX1_costOf 2 (some .int) 1 := ⟨cb_X1_costOf, WS_m 624 (by decide +kernel), WS_m 625 (by decide +kernel), WS_m 626 (by decide +kernel)⟩
set_option maxRecDepth 100000 in
theorem cl_X1_67 : CLV RX1 67 yX1_costCell cX1_costCell 2 (some .int) 1 := ⟨cb_X1_costCell, WS_m 628 (by decide +kernel), WS_m 590 (by decide +kernel), WS_m 591 (by decide +kernel)⟩
set_option maxRecDepth 100000 in
theorem cb_X9_arrange : CLB yX9_arrange cX9_arrange 6 (some .boolean) 0 := ⟨WS_m 632 (by decide +kernel), WS_m 99 (by decide +kernel), ⟨by decide +kernel, by decide +kernel, by decide +kernel⟩, by decide⟩
set_option maxRecDepth 100000 in
theorem cl_X9_64 : CLV RX9 64 yX9_arrange cX9_arrange 6 (some .boolean) 0 := ⟨cb_X9_arrange, WS_m 629 (by decide +kernel), WS_m 630 (by decide +kernel), WS_m 631 (by decide +kernel)⟩
set_option maxRecDepth 100000 in
theorem cb_X9_write : CLB yX9_write cX9_write 4 none 2 := ⟨WS_m 636 (by decide +kernel), WS_m 99 (by decide +kernel), ⟨by decide +kernel, by decide +kernel, by decide +kernel⟩, by decide⟩
set_option maxRecDepth 100000 in
theorem cl_X10_171 : CLV RX10 171 yX9_write cX9_write 4 none 2 := ⟨cb_X9_write, WS_m 633 (by decide +kernel), WS_m 634 (by decide +kernel), WS_m 635 (by decide +kernel)⟩
set_option maxRecDepth 100000 in
theorem cl_X9_71 : CLV RX9 71 yX1_told cX1_told 3 (some .int) 2 := ⟨cb_X1_told, WS_m 637 (by decide +kernel), WS_m 556 (by decide +kernel), WS_m 557 (by decide +kernel)⟩
set_option maxRecDepth 100000 in
theorem cb_X9_least : CLB yX9_least cX9_least 4 (some .int) 0 := ⟨WS_m 641 (by decide +kernel), WS_m 99 (by decide +kernel), ⟨by decide +kernel, by decide +kernel, by decide +kernel⟩, by decide⟩
set_option maxRecDepth 100000 in
theorem cl_X10_175 : CLV RX10 175 yX9_least cX9_least 4 (some .int) 0 := ⟨cb_X9_least, WS_m 638 (by decide +kernel), WS_m 639 (by decide +kernel), WS_m 640 (by decide +kernel)⟩
set_option maxRecDepth 100000 in
theorem kw_X9_83 : Cond.constant RX9 83 (Int32.ofInt (16777216)) ∈ WS := WS_m 642 (by decide +kernel)
set_option maxRecDepth 100000 in
theorem cb_X9_smallestBelow : CLB yX9_smallestBelow cX9_smallestBelow 4 (some .int) 1 := ⟨WS_m 646 (by decide +kernel), WS_m 99 (by decide +kernel), ⟨by decide +kernel, by decide +kernel, by decide +kernel⟩, by decide⟩
set_option maxRecDepth 100000 in
theorem cl_X9_84 : CLV RX9 84 yX9_smallestBelow cX9_smallestBelow 4 (some .int) 1 := ⟨cb_X9_smallestBelow, WS_m 643 (by decide +kernel), WS_m 645 (by decide +kernel), WS_m 6 (by decide +kernel)⟩
set_option maxRecDepth 100000 in
theorem mw_X9_80 : Cond.methodLink RX9 80 Lib.Math.min.name ∈ WS := WS_m 647 (by decide +kernel)
set_option maxRecDepth 100000 in
theorem cb_X9_hang : CLB yX9_hang cX9_hang 8 none 2 := ⟨WS_m 653 (by decide +kernel), WS_m 99 (by decide +kernel), ⟨by decide +kernel, by decide +kernel, by decide +kernel⟩, by decide⟩
set_option maxRecDepth 100000 in
theorem cl_X9_87 : CLV RX9 87 yX9_hang cX9_hang 8 none 2 := ⟨cb_X9_hang, WS_m 650 (by decide +kernel), WS_m 652 (by decide +kernel), WS_m 7 (by decide +kernel)⟩
set_option maxRecDepth 100000 in
theorem cb_X10_filled : CLB yX10_filled cX10_filled 4 (some .int) 2 := ⟨WS_m 657 (by decide +kernel), WS_m 95 (by decide +kernel), ⟨by decide +kernel, by decide +kernel, by decide +kernel⟩, by decide⟩
set_option maxRecDepth 100000 in
theorem cl_L_58 : CLV RL 58 yX10_filled cX10_filled 4 (some .int) 2 := ⟨cb_X10_filled, WS_m 654 (by decide +kernel), WS_m 655 (by decide +kernel), WS_m 656 (by decide +kernel)⟩
set_option maxRecDepth 100000 in
theorem cb_X4_burntForms : CLB yX4_burntForms cX4_burntForms 3 (some .int) 2 := ⟨WS_m 661 (by decide +kernel), WS_m 100 (by decide +kernel), ⟨by decide +kernel, by decide +kernel, by decide +kernel⟩, by decide⟩
set_option maxRecDepth 100000 in
theorem cl_X10_178 : CLV RX10 178 yX4_burntForms cX4_burntForms 3 (some .int) 2 := ⟨cb_X4_burntForms, WS_m 658 (by decide +kernel), WS_m 659 (by decide +kernel), WS_m 660 (by decide +kernel)⟩
set_option maxRecDepth 100000 in
theorem cl_X4_32 : CLV RX4 32 yX9_growAsTold cX9_growAsTold 3 none 1 := ⟨cb_X9_growAsTold, WS_m 662 (by decide +kernel), WS_m 616 (by decide +kernel), WS_m 617 (by decide +kernel)⟩
set_option maxRecDepth 100000 in
theorem cl_X4_38 : CLV RX4 38 yX9_write cX9_write 4 none 2 := ⟨cb_X9_write, WS_m 663 (by decide +kernel), WS_m 634 (by decide +kernel), WS_m 635 (by decide +kernel)⟩
set_option maxRecDepth 100000 in
theorem cl_X4_45 : CLV RX4 45 yX9_least cX9_least 4 (some .int) 0 := ⟨cb_X9_least, WS_m 664 (by decide +kernel), WS_m 639 (by decide +kernel), WS_m 640 (by decide +kernel)⟩
set_option maxRecDepth 100000 in
theorem cb_X9_spread : CLB yX9_spread cX9_spread 5 none 0 := ⟨WS_m 668 (by decide +kernel), WS_m 99 (by decide +kernel), ⟨by decide +kernel, by decide +kernel, by decide +kernel⟩, by decide⟩
set_option maxRecDepth 100000 in
theorem cl_X4_49 : CLV RX4 49 yX9_spread cX9_spread 5 none 0 := ⟨cb_X9_spread, WS_m 665 (by decide +kernel), WS_m 666 (by decide +kernel), WS_m 667 (by decide +kernel)⟩
set_option maxRecDepth 100000 in
theorem cb_X9_besideBranch : CLB yX9_besideBranch cX9_besideBranch 7 (some .int) 3 := ⟨WS_m 672 (by decide +kernel), WS_m 99 (by decide +kernel), ⟨by decide +kernel, by decide +kernel, by decide +kernel⟩, by decide⟩
set_option maxRecDepth 100000 in
theorem cl_X9_91 : CLV RX9 91 yX9_besideBranch cX9_besideBranch 7 (some .int) 3 := ⟨cb_X9_besideBranch, WS_m 669 (by decide +kernel), WS_m 671 (by decide +kernel), WS_m 8 (by decide +kernel)⟩
set_option maxRecDepth 100000 in
theorem cb_X9_maybe : CLB yX9_maybe cX9_maybe 6 (some .int) 1 := ⟨WS_m 676 (by decide +kernel), WS_m 99 (by decide +kernel), ⟨by decide +kernel, by decide +kernel, by decide +kernel⟩, by decide⟩
set_option maxRecDepth 100000 in
theorem cl_X4_52 : CLV RX4 52 yX9_maybe cX9_maybe 6 (some .int) 1 := ⟨cb_X9_maybe, WS_m 673 (by decide +kernel), WS_m 674 (by decide +kernel), WS_m 675 (by decide +kernel)⟩
set_option maxRecDepth 100000 in
theorem cb_X10_days : CLB yX10_days cX10_days 4 (some .int) 2 := ⟨WS_m 680 (by decide +kernel), WS_m 95 (by decide +kernel), ⟨by decide +kernel, by decide +kernel, by decide +kernel⟩, by decide⟩
set_option maxRecDepth 100000 in
theorem cl_L_62 : CLV RL 62 yX10_days cX10_days 4 (some .int) 2 := ⟨cb_X10_days, WS_m 677 (by decide +kernel), WS_m 678 (by decide +kernel), WS_m 679 (by decide +kernel)⟩
set_option maxRecDepth 100000 in
theorem cb_X9_firstLate : CLB yX9_firstLate cX9_firstLate 4 (some .int) 0 := ⟨WS_m 684 (by decide +kernel), WS_m 99 (by decide +kernel), ⟨by decide +kernel, by decide +kernel, by decide +kernel⟩, by decide⟩
set_option maxRecDepth 100000 in
theorem cl_X10_181 : CLV RX10 181 yX9_firstLate cX9_firstLate 4 (some .int) 0 := ⟨cb_X9_firstLate, WS_m 681 (by decide +kernel), WS_m 682 (by decide +kernel), WS_m 683 (by decide +kernel)⟩
set_option maxRecDepth 100000 in
theorem mw_X9_75 : Cond.methodLink RX9 75 Lib.Math.max.name ∈ WS := WS_m 685 (by decide +kernel)
set_option maxRecDepth 100000 in
theorem cb_X9_latestOf : CLB yX9_latestOf cX9_latestOf 4 (some .int) 1 := ⟨WS_m 689 (by decide +kernel), WS_m 99 (by decide +kernel), ⟨by decide +kernel, by decide +kernel, by decide +kernel⟩, by decide⟩
set_option maxRecDepth 100000 in
theorem cl_X10_187 : CLV RX10 187 yX9_latestOf cX9_latestOf 4 (some .int) 1 := ⟨cb_X9_latestOf, WS_m 686 (by decide +kernel), WS_m 687 (by decide +kernel), WS_m 688 (by decide +kernel)⟩
set_option maxRecDepth 100000 in
theorem cb_X10_list : CLB yX10_list cX10_list 2 (some .int) 1 := ⟨WS_m 693 (by decide +kernel), WS_m 95 (by decide +kernel), ⟨by decide +kernel, by decide +kernel, by decide +kernel⟩, by decide⟩
set_option maxRecDepth 100000 in
theorem cl_L_66 : CLV RL 66 yX10_list cX10_list 2 (some .int) 1 := ⟨cb_X10_list, WS_m 690 (by decide +kernel), WS_m 691 (by decide +kernel), WS_m 692 (by decide +kernel)⟩
set_option maxRecDepth 100000 in
theorem cb_X0_placeOf : CLB yX0_placeOf cX0_placeOf 3 (some .int) 1 := ⟨WS_m 697 (by decide +kernel), WS_m 101 (by decide +kernel), ⟨by decide +kernel, by decide +kernel, by decide +kernel⟩, by decide⟩
set_option maxRecDepth 100000 in
theorem cl_X10_190 : CLV RX10 190 yX0_placeOf cX0_placeOf 3 (some .int) 1 := ⟨cb_X0_placeOf, WS_m 694 (by decide +kernel), WS_m 695 (by decide +kernel), WS_m 696 (by decide +kernel)⟩
set_option maxRecDepth 100000 in
theorem cb_X0_tell : CLB yX0_tell cX0_tell 2 (some .int) 1 := ⟨WS_m 701 (by decide +kernel), WS_m 101 (by decide +kernel), ⟨by decide +kernel, by decide +kernel, by decide +kernel⟩, by decide⟩
set_option maxRecDepth 100000 in
theorem cl_X10_196 : CLV RX10 196 yX0_tell cX0_tell 2 (some .int) 1 := ⟨cb_X0_tell, WS_m 698 (by decide +kernel), WS_m 699 (by decide +kernel), WS_m 700 (by decide +kernel)⟩
set_option maxRecDepth 100000 in
theorem cb_X10_unlist : CLB yX10_unlist cX10_unlist 1 (some .int) 0 := ⟨WS_m 705 (by decide +kernel), WS_m 95 (by decide +kernel), ⟨by decide +kernel, by decide +kernel, by decide +kernel⟩, by decide⟩
set_option maxRecDepth 100000 in
theorem cl_L_70 : CLV RL 70 yX10_unlist cX10_unlist 1 (some .int) 0 := ⟨cb_X10_unlist, WS_m 702 (by decide +kernel), WS_m 703 (by decide +kernel), WS_m 704 (by decide +kernel)⟩
set_option maxRecDepth 100000 in
theorem cb_X0_forget : CLB yX0_forget cX0_forget 2 (some .int) 0 := ⟨WS_m 709 (by decide +kernel), WS_m 101 (by decide +kernel), ⟨by decide +kernel, by decide +kernel, by decide +kernel⟩, by decide⟩
set_option maxRecDepth 100000 in
theorem cl_X10_199 : CLV RX10 199 yX0_forget cX0_forget 2 (some .int) 0 := ⟨cb_X0_forget, WS_m 706 (by decide +kernel), WS_m 707 (by decide +kernel), WS_m 708 (by decide +kernel)⟩
set_option maxRecDepth 100000 in
theorem cb_X10_best : CLB yX10_best cX10_best 2 (some .int) 1 := ⟨WS_m 713 (by decide +kernel), WS_m 95 (by decide +kernel), ⟨by decide +kernel, by decide +kernel, by decide +kernel⟩, by decide⟩
set_option maxRecDepth 100000 in
theorem cl_L_74 : CLV RL 74 yX10_best cX10_best 2 (some .int) 1 := ⟨cb_X10_best, WS_m 710 (by decide +kernel), WS_m 711 (by decide +kernel), WS_m 712 (by decide +kernel)⟩
set_option maxRecDepth 100000 in
theorem cb_X0_bound : CLB yX0_bound cX0_bound 5 (some .int) 0 := ⟨WS_m 717 (by decide +kernel), WS_m 101 (by decide +kernel), ⟨by decide +kernel, by decide +kernel, by decide +kernel⟩, by decide⟩
set_option maxRecDepth 100000 in
theorem cl_X10_202 : CLV RX10 202 yX0_bound cX0_bound 5 (some .int) 0 := ⟨cb_X0_bound, WS_m 714 (by decide +kernel), WS_m 715 (by decide +kernel), WS_m 716 (by decide +kernel)⟩
set_option maxRecDepth 100000 in
theorem cl_X0_51 : CLV RX0 51 yX1_costOf cX1_costOf 2 (some .int) 1 := ⟨cb_X1_costOf, WS_m 718 (by decide +kernel), WS_m 625 (by decide +kernel), WS_m 626 (by decide +kernel)⟩
set_option maxRecDepth 100000 in
theorem mw_X0_57 : Cond.methodLink RX0 57 Lib.Math.min.name ∈ WS := WS_m 719 (by decide +kernel)
set_option maxRecDepth 100000 in
theorem cb_X0_toldForms : CLB yX0_toldForms cX0_toldForms 5 (some .int) 1 := ⟨WS_m 723 (by decide +kernel), WS_m 101 (by decide +kernel), ⟨by decide +kernel, by decide +kernel, by decide +kernel⟩, by decide⟩
set_option maxRecDepth 100000 in
theorem cl_X0_63 : CLV RX0 63 yX0_toldForms cX0_toldForms 5 (some .int) 1 := ⟨cb_X0_toldForms, WS_m 720 (by decide +kernel), WS_m 722 (by decide +kernel), WS_m 9 (by decide +kernel)⟩
set_option maxRecDepth 100000 in
theorem cl_X0_74 : CLV RX0 74 yX1_told cX1_told 3 (some .int) 2 := ⟨cb_X1_told, WS_m 724 (by decide +kernel), WS_m 556 (by decide +kernel), WS_m 557 (by decide +kernel)⟩
set_option maxRecDepth 100000 in
theorem cb_J6_bitCount_0f7a4 : CLB yJ6_bitCount_0f7a4 cJ6_bitCount_0f7a4 1 (some .int) 1 := ⟨WS_m 727 (by decide +kernel), WS_m 109 (by decide +kernel), ⟨by decide +kernel, by decide +kernel, by decide +kernel⟩, by decide⟩
set_option maxRecDepth 100000 in
theorem cl_X0_66 : CLS RX0 66 yJ6_bitCount_0f7a4 cJ6_bitCount_0f7a4 1 (some .int) 1 := ⟨cb_J6_bitCount_0f7a4, WS_m 725 (by decide +kernel), WS_m 726 (by decide +kernel)⟩
set_option maxRecDepth 100000 in
theorem kw_J6_265 : Cond.constant RJ6 265 (Int32.ofInt (1431655765)) ∈ WS := WS_m 728 (by decide +kernel)
set_option maxRecDepth 100000 in
theorem kw_J6_266 : Cond.constant RJ6 266 (Int32.ofInt (858993459)) ∈ WS := WS_m 729 (by decide +kernel)
set_option maxRecDepth 100000 in
theorem kw_J6_267 : Cond.constant RJ6 267 (Int32.ofInt (252645135)) ∈ WS := WS_m 730 (by decide +kernel)
set_option maxRecDepth 100000 in
theorem mw_X0_71 : Cond.methodLink RX0 71 Lib.Math.max.name ∈ WS := WS_m 731 (by decide +kernel)
set_option maxRecDepth 100000 in
theorem cb_X0_find : CLB yX0_find cX0_find 5 none 0 := ⟨WS_m 735 (by decide +kernel), WS_m 101 (by decide +kernel), ⟨by decide +kernel, by decide +kernel, by decide +kernel⟩, by decide⟩
set_option maxRecDepth 100000 in
theorem cl_X10_205 : CLV RX10 205 yX0_find cX0_find 5 none 0 := ⟨cb_X0_find, WS_m 732 (by decide +kernel), WS_m 733 (by decide +kernel), WS_m 734 (by decide +kernel)⟩
set_option maxRecDepth 100000 in
theorem kw_X0_83 : Cond.constant RX0 83 (Int32.ofInt (2147483647)) ∈ WS := WS_m 736 (by decide +kernel)
set_option maxRecDepth 100000 in
theorem cb_X0_prepare : CLB yX0_prepare cX0_prepare 2 none 0 := ⟨WS_m 740 (by decide +kernel), WS_m 101 (by decide +kernel), ⟨by decide +kernel, by decide +kernel, by decide +kernel⟩, by decide⟩
set_option maxRecDepth 100000 in
theorem cl_X0_87 : CLV RX0 87 yX0_prepare cX0_prepare 2 none 0 := ⟨cb_X0_prepare, WS_m 737 (by decide +kernel), WS_m 739 (by decide +kernel), WS_m 10 (by decide +kernel)⟩
set_option maxRecDepth 100000 in
theorem cl_X0_100 : CLV RX0 100 yX9_price cX9_price 5 none 1 := ⟨cb_X9_price, WS_m 741 (by decide +kernel), WS_m 621 (by decide +kernel), WS_m 622 (by decide +kernel)⟩
set_option maxRecDepth 100000 in
theorem cl_X0_112 : CLS RX0 112 yJ7_fill_53178 cJ7_fill_53178 4 none 2 := ⟨cb_J7_fill_53178, WS_m 742 (by decide +kernel), WS_m 160 (by decide +kernel)⟩
set_option maxRecDepth 100000 in
theorem cb_X0_sortClause : CLB yX0_sortClause cX0_sortClause 5 none 1 := ⟨WS_m 746 (by decide +kernel), WS_m 101 (by decide +kernel), ⟨by decide +kernel, by decide +kernel, by decide +kernel⟩, by decide⟩
set_option maxRecDepth 100000 in
theorem cl_X0_121 : CLV RX0 121 yX0_sortClause cX0_sortClause 5 none 1 := ⟨cb_X0_sortClause, WS_m 743 (by decide +kernel), WS_m 745 (by decide +kernel), WS_m 11 (by decide +kernel)⟩
set_option maxRecDepth 100000 in
theorem cb_X9_stepOf : CLB yX9_stepOf cX9_stepOf 3 (some .int) 2 := ⟨WS_m 750 (by decide +kernel), WS_m 99 (by decide +kernel), ⟨by decide +kernel, by decide +kernel, by decide +kernel⟩, by decide⟩
set_option maxRecDepth 100000 in
theorem cl_X0_127 : CLV RX0 127 yX9_stepOf cX9_stepOf 3 (some .int) 2 := ⟨cb_X9_stepOf, WS_m 747 (by decide +kernel), WS_m 748 (by decide +kernel), WS_m 749 (by decide +kernel)⟩
set_option maxRecDepth 100000 in
theorem cb_X0_entries : CLB yX0_entries cX0_entries 6 (some .int) 1 := ⟨WS_m 754 (by decide +kernel), WS_m 101 (by decide +kernel), ⟨by decide +kernel, by decide +kernel, by decide +kernel⟩, by decide⟩
set_option maxRecDepth 100000 in
theorem cl_X0_124 : CLV RX0 124 yX0_entries cX0_entries 6 (some .int) 1 := ⟨cb_X0_entries, WS_m 751 (by decide +kernel), WS_m 753 (by decide +kernel), WS_m 12 (by decide +kernel)⟩
set_option maxRecDepth 100000 in
theorem cb_X0_grow : CLB yX0_grow cX0_grow 6 (some .int) 1 := ⟨WS_m 758 (by decide +kernel), WS_m 101 (by decide +kernel), ⟨by decide +kernel, by decide +kernel, by decide +kernel⟩, by decide⟩
set_option maxRecDepth 100000 in
theorem cl_X0_90 : CLV RX0 90 yX0_grow cX0_grow 6 (some .int) 1 := ⟨cb_X0_grow, WS_m 755 (by decide +kernel), WS_m 757 (by decide +kernel), WS_m 13 (by decide +kernel)⟩
set_option maxRecDepth 100000 in
theorem cb_X0_chosen : CLB yX0_chosen cX0_chosen 4 (some .int) 2 := ⟨WS_m 762 (by decide +kernel), WS_m 101 (by decide +kernel), ⟨by decide +kernel, by decide +kernel, by decide +kernel⟩, by decide⟩
set_option maxRecDepth 100000 in
theorem cl_X0_133 : CLV RX0 133 yX0_chosen cX0_chosen 4 (some .int) 2 := ⟨cb_X0_chosen, WS_m 759 (by decide +kernel), WS_m 761 (by decide +kernel), WS_m 14 (by decide +kernel)⟩
set_option maxRecDepth 100000 in
theorem cb_X0_closesRing : CLB yX0_closesRing cX0_closesRing 4 (some .boolean) 1 := ⟨WS_m 766 (by decide +kernel), WS_m 101 (by decide +kernel), ⟨by decide +kernel, by decide +kernel, by decide +kernel⟩, by decide⟩
set_option maxRecDepth 100000 in
theorem cl_X0_139 : CLV RX0 139 yX0_closesRing cX0_closesRing 4 (some .boolean) 1 := ⟨cb_X0_closesRing, WS_m 763 (by decide +kernel), WS_m 765 (by decide +kernel), WS_m 15 (by decide +kernel)⟩
set_option maxRecDepth 100000 in
theorem cb_X0_weigh : CLB yX0_weigh cX0_weigh 4 none 1 := ⟨WS_m 770 (by decide +kernel), WS_m 101 (by decide +kernel), ⟨by decide +kernel, by decide +kernel, by decide +kernel⟩, by decide⟩
set_option maxRecDepth 100000 in
theorem cl_X0_93 : CLV RX0 93 yX0_weigh cX0_weigh 4 none 1 := ⟨cb_X0_weigh, WS_m 767 (by decide +kernel), WS_m 769 (by decide +kernel), WS_m 16 (by decide +kernel)⟩
set_option maxRecDepth 100000 in
theorem cl_X0_143 : CLV RX0 143 yX9_arrange cX9_arrange 6 (some .boolean) 0 := ⟨cb_X9_arrange, WS_m 771 (by decide +kernel), WS_m 630 (by decide +kernel), WS_m 631 (by decide +kernel)⟩
set_option maxRecDepth 100000 in
theorem cl_X0_147 : CLV RX0 147 yX9_firstLate cX9_firstLate 4 (some .int) 0 := ⟨cb_X9_firstLate, WS_m 772 (by decide +kernel), WS_m 682 (by decide +kernel), WS_m 683 (by decide +kernel)⟩
set_option maxRecDepth 100000 in
theorem cb_X0_writeClause : CLB yX0_writeClause cX0_writeClause 3 none 1 := ⟨WS_m 776 (by decide +kernel), WS_m 101 (by decide +kernel), ⟨by decide +kernel, by decide +kernel, by decide +kernel⟩, by decide⟩
set_option maxRecDepth 100000 in
theorem cl_X0_151 : CLV RX0 151 yX0_writeClause cX0_writeClause 3 none 1 := ⟨cb_X0_writeClause, WS_m 773 (by decide +kernel), WS_m 775 (by decide +kernel), WS_m 17 (by decide +kernel)⟩
set_option maxRecDepth 100000 in
theorem cl_X0_154 : CLV RX0 154 yX9_least cX9_least 4 (some .int) 0 := ⟨cb_X9_least, WS_m 777 (by decide +kernel), WS_m 639 (by decide +kernel), WS_m 640 (by decide +kernel)⟩
set_option maxRecDepth 100000 in
theorem cb_X0_sure : CLB yX0_sure cX0_sure 3 (some .int) 0 := ⟨WS_m 781 (by decide +kernel), WS_m 101 (by decide +kernel), ⟨by decide +kernel, by decide +kernel, by decide +kernel⟩, by decide⟩
set_option maxRecDepth 100000 in
theorem cl_X10_213 : CLV RX10 213 yX0_sure cX0_sure 3 (some .int) 0 := ⟨cb_X0_sure, WS_m 778 (by decide +kernel), WS_m 779 (by decide +kernel), WS_m 780 (by decide +kernel)⟩
set_option maxRecDepth 100000 in
theorem cb_X10_tree : CLB yX10_tree cX10_tree 3 (some .int) 2 := ⟨WS_m 785 (by decide +kernel), WS_m 95 (by decide +kernel), ⟨by decide +kernel, by decide +kernel, by decide +kernel⟩, by decide⟩
set_option maxRecDepth 100000 in
theorem cl_L_78 : CLV RL 78 yX10_tree cX10_tree 3 (some .int) 2 := ⟨cb_X10_tree, WS_m 782 (by decide +kernel), WS_m 783 (by decide +kernel), WS_m 784 (by decide +kernel)⟩
set_option maxRecDepth 100000 in
theorem cb_X0_motherPlace : CLB yX0_motherPlace cX0_motherPlace 3 (some .int) 2 := ⟨WS_m 789 (by decide +kernel), WS_m 101 (by decide +kernel), ⟨by decide +kernel, by decide +kernel, by decide +kernel⟩, by decide⟩
set_option maxRecDepth 100000 in
theorem cl_X10_216 : CLV RX10 216 yX0_motherPlace cX0_motherPlace 3 (some .int) 2 := ⟨cb_X0_motherPlace, WS_m 786 (by decide +kernel), WS_m 787 (by decide +kernel), WS_m 788 (by decide +kernel)⟩
set_option maxRecDepth 100000 in
theorem cb_X10_never : CLB yX10_never cX10_never 2 (some .int) 1 := ⟨WS_m 793 (by decide +kernel), WS_m 95 (by decide +kernel), ⟨by decide +kernel, by decide +kernel, by decide +kernel⟩, by decide⟩
set_option maxRecDepth 100000 in
theorem cl_L_82 : CLV RL 82 yX10_never cX10_never 2 (some .int) 1 := ⟨cb_X10_never, WS_m 790 (by decide +kernel), WS_m 791 (by decide +kernel), WS_m 792 (by decide +kernel)⟩
set_option maxRecDepth 100000 in
theorem cb_X0_neverMothers : CLB yX0_neverMothers cX0_neverMothers 2 (some .int) 1 := ⟨WS_m 797 (by decide +kernel), WS_m 101 (by decide +kernel), ⟨by decide +kernel, by decide +kernel, by decide +kernel⟩, by decide⟩
set_option maxRecDepth 100000 in
theorem cl_X10_219 : CLV RX10 219 yX0_neverMothers cX0_neverMothers 2 (some .int) 1 := ⟨cb_X0_neverMothers, WS_m 794 (by decide +kernel), WS_m 795 (by decide +kernel), WS_m 796 (by decide +kernel)⟩
set_option maxRecDepth 100000 in
theorem cb_X10_claim : CLB yX10_claim cX10_claim 4 (some .int) 1 := ⟨WS_m 801 (by decide +kernel), WS_m 95 (by decide +kernel), ⟨by decide +kernel, by decide +kernel, by decide +kernel⟩, by decide⟩
set_option maxRecDepth 100000 in
theorem cl_L_86 : CLV RL 86 yX10_claim cX10_claim 4 (some .int) 1 := ⟨cb_X10_claim, WS_m 798 (by decide +kernel), WS_m 799 (by decide +kernel), WS_m 800 (by decide +kernel)⟩
set_option maxRecDepth 100000 in
theorem cb_X0_borneOut : CLB yX0_borneOut cX0_borneOut 3 (some .int) 2 := ⟨WS_m 805 (by decide +kernel), WS_m 101 (by decide +kernel), ⟨by decide +kernel, by decide +kernel, by decide +kernel⟩, by decide⟩
set_option maxRecDepth 100000 in
theorem cl_X10_222 : CLV RX10 222 yX0_borneOut cX0_borneOut 3 (some .int) 2 := ⟨cb_X0_borneOut, WS_m 802 (by decide +kernel), WS_m 803 (by decide +kernel), WS_m 804 (by decide +kernel)⟩
set_option maxRecDepth 100000 in
theorem cb_X10_few : CLB yX10_few cX10_few 2 (some .int) 1 := ⟨WS_m 809 (by decide +kernel), WS_m 95 (by decide +kernel), ⟨by decide +kernel, by decide +kernel, by decide +kernel⟩, by decide⟩
set_option maxRecDepth 100000 in
theorem cl_L_90 : CLV RL 90 yX10_few cX10_few 2 (some .int) 1 := ⟨cb_X10_few, WS_m 806 (by decide +kernel), WS_m 807 (by decide +kernel), WS_m 808 (by decide +kernel)⟩
set_option maxRecDepth 100000 in
theorem cb_X4_leastWith : CLB yX4_leastWith cX4_leastWith 5 (some .int) 1 := ⟨WS_m 813 (by decide +kernel), WS_m 100 (by decide +kernel), ⟨by decide +kernel, by decide +kernel, by decide +kernel⟩, by decide⟩
set_option maxRecDepth 100000 in
theorem cl_X10_225 : CLV RX10 225 yX4_leastWith cX4_leastWith 5 (some .int) 1 := ⟨cb_X4_leastWith, WS_m 810 (by decide +kernel), WS_m 811 (by decide +kernel), WS_m 812 (by decide +kernel)⟩
set_option maxRecDepth 100000 in
theorem cb_X4_fillClause : CLB yX4_fillClause cX4_fillClause 4 none 1 := ⟨WS_m 817 (by decide +kernel), WS_m 100 (by decide +kernel), ⟨by decide +kernel, by decide +kernel, by decide +kernel⟩, by decide⟩
set_option maxRecDepth 100000 in
theorem cl_X4_81 : CLV RX4 81 yX4_fillClause cX4_fillClause 4 none 1 := ⟨cb_X4_fillClause, WS_m 814 (by decide +kernel), WS_m 816 (by decide +kernel), WS_m 18 (by decide +kernel)⟩
set_option maxRecDepth 100000 in
theorem cl_X4_62 : CLV RX4 62 yX1_told cX1_told 3 (some .int) 2 := ⟨cb_X1_told, WS_m 818 (by decide +kernel), WS_m 556 (by decide +kernel), WS_m 557 (by decide +kernel)⟩
set_option maxRecDepth 100000 in
theorem cl_X4_66 : CLV RX4 66 yX1_formCell cX1_formCell 3 (some .int) 2 := ⟨cb_X1_formCell, WS_m 819 (by decide +kernel), WS_m 528 (by decide +kernel), WS_m 529 (by decide +kernel)⟩
set_option maxRecDepth 100000 in
theorem cb_X4_lowest : CLB yX4_lowest cX4_lowest 2 (some .int) 1 := ⟨WS_m 822 (by decide +kernel), WS_m 100 (by decide +kernel), ⟨by decide +kernel, by decide +kernel, by decide +kernel⟩, by decide⟩
set_option maxRecDepth 100000 in
theorem cl_X4_69 : CLS RX4 69 yX4_lowest cX4_lowest 2 (some .int) 1 := ⟨cb_X4_lowest, WS_m 820 (by decide +kernel), WS_m 821 (by decide +kernel)⟩
set_option maxRecDepth 100000 in
theorem cl_X4_107 : CLS RX4 107 yJ7_fill_53178 cJ7_fill_53178 4 none 2 := ⟨cb_J7_fill_53178, WS_m 823 (by decide +kernel), WS_m 160 (by decide +kernel)⟩
set_option maxRecDepth 100000 in
theorem cl_X4_72 : CLV RX4 72 yX1_motherOf cX1_motherOf 2 (some .int) 1 := ⟨cb_X1_motherOf, WS_m 824 (by decide +kernel), WS_m 607 (by decide +kernel), WS_m 608 (by decide +kernel)⟩
set_option maxRecDepth 100000 in
theorem cb_X4_weighChapter : CLB yX4_weighChapter cX4_weighChapter 7 (some .int) 2 := ⟨WS_m 828 (by decide +kernel), WS_m 100 (by decide +kernel), ⟨by decide +kernel, by decide +kernel, by decide +kernel⟩, by decide⟩
set_option maxRecDepth 100000 in
theorem cl_X4_112 : CLV RX4 112 yX4_weighChapter cX4_weighChapter 7 (some .int) 2 := ⟨cb_X4_weighChapter, WS_m 825 (by decide +kernel), WS_m 827 (by decide +kernel), WS_m 19 (by decide +kernel)⟩
set_option maxRecDepth 100000 in
theorem cb_X4_paid : CLB yX4_paid cX4_paid 4 (some .int) 2 := ⟨WS_m 832 (by decide +kernel), WS_m 100 (by decide +kernel), ⟨by decide +kernel, by decide +kernel, by decide +kernel⟩, by decide⟩
set_option maxRecDepth 100000 in
theorem cl_X4_98 : CLV RX4 98 yX4_paid cX4_paid 4 (some .int) 2 := ⟨cb_X4_paid, WS_m 829 (by decide +kernel), WS_m 831 (by decide +kernel), WS_m 20 (by decide +kernel)⟩
set_option maxRecDepth 100000 in
theorem cb_X4_filledForm : CLB yX4_filledForm cX4_filledForm 3 (some .int) 2 := ⟨WS_m 836 (by decide +kernel), WS_m 100 (by decide +kernel), ⟨by decide +kernel, by decide +kernel, by decide +kernel⟩, by decide⟩
set_option maxRecDepth 100000 in
theorem cl_X4_75 : CLV RX4 75 yX4_filledForm cX4_filledForm 3 (some .int) 2 := ⟨cb_X4_filledForm, WS_m 833 (by decide +kernel), WS_m 835 (by decide +kernel), WS_m 21 (by decide +kernel)⟩
set_option maxRecDepth 100000 in
theorem cl_X4_78 : CLV RX4 78 yX9_stepOf cX9_stepOf 3 (some .int) 2 := ⟨cb_X9_stepOf, WS_m 837 (by decide +kernel), WS_m 748 (by decide +kernel), WS_m 749 (by decide +kernel)⟩
set_option maxRecDepth 100000 in
theorem cb_X4_leastLender : CLB yX4_leastLender cX4_leastLender 4 (some .int) 2 := ⟨WS_m 841 (by decide +kernel), WS_m 100 (by decide +kernel), ⟨by decide +kernel, by decide +kernel, by decide +kernel⟩, by decide⟩
set_option maxRecDepth 100000 in
theorem cl_X4_104 : CLV RX4 104 yX4_leastLender cX4_leastLender 4 (some .int) 2 := ⟨cb_X4_leastLender, WS_m 838 (by decide +kernel), WS_m 840 (by decide +kernel), WS_m 22 (by decide +kernel)⟩
set_option maxRecDepth 100000 in
theorem cb_X4_lends : CLB yX4_lends cX4_lends 3 (some .boolean) 2 := ⟨WS_m 845 (by decide +kernel), WS_m 100 (by decide +kernel), ⟨by decide +kernel, by decide +kernel, by decide +kernel⟩, by decide⟩
set_option maxRecDepth 100000 in
theorem cl_X4_95 : CLV RX4 95 yX4_lends cX4_lends 3 (some .boolean) 2 := ⟨cb_X4_lends, WS_m 842 (by decide +kernel), WS_m 844 (by decide +kernel), WS_m 23 (by decide +kernel)⟩
set_option maxRecDepth 100000 in
theorem cl_X4_85 : CLV RX4 85 yX1_isUnder cX1_isUnder 5 (some .boolean) 2 := ⟨cb_X1_isUnder, WS_m 846 (by decide +kernel), WS_m 603 (by decide +kernel), WS_m 604 (by decide +kernel)⟩
set_option maxRecDepth 100000 in
theorem cl_X4_101 : CLV RX4 101 yX1_costOf cX1_costOf 2 (some .int) 1 := ⟨cb_X1_costOf, WS_m 847 (by decide +kernel), WS_m 625 (by decide +kernel), WS_m 626 (by decide +kernel)⟩
set_option maxRecDepth 100000 in
theorem mw_X4_118 : Cond.methodLink RX4 118 Lib.Math.max.name ∈ WS := WS_m 848 (by decide +kernel)
set_option maxRecDepth 100000 in
theorem cb_X4_gainBeside : CLB yX4_gainBeside cX4_gainBeside 7 none 3 := ⟨WS_m 852 (by decide +kernel), WS_m 100 (by decide +kernel), ⟨by decide +kernel, by decide +kernel, by decide +kernel⟩, by decide⟩
set_option maxRecDepth 100000 in
theorem cl_X4_123 : CLV RX4 123 yX4_gainBeside cX4_gainBeside 7 none 3 := ⟨cb_X4_gainBeside, WS_m 849 (by decide +kernel), WS_m 851 (by decide +kernel), WS_m 24 (by decide +kernel)⟩
set_option maxRecDepth 100000 in
theorem cl_X4_130 : CLS RX4 130 yJ6_bitCount_0f7a4 cJ6_bitCount_0f7a4 1 (some .int) 1 := ⟨cb_J6_bitCount_0f7a4, WS_m 853 (by decide +kernel), WS_m 726 (by decide +kernel)⟩
set_option maxRecDepth 100000 in
theorem cb_X4_gainOfChapter : CLB yX4_gainOfChapter cX4_gainOfChapter 7 none 3 := ⟨WS_m 857 (by decide +kernel), WS_m 100 (by decide +kernel), ⟨by decide +kernel, by decide +kernel, by decide +kernel⟩, by decide⟩
set_option maxRecDepth 100000 in
theorem cl_X4_127 : CLV RX4 127 yX4_gainOfChapter cX4_gainOfChapter 7 none 3 := ⟨cb_X4_gainOfChapter, WS_m 854 (by decide +kernel), WS_m 856 (by decide +kernel), WS_m 25 (by decide +kernel)⟩
set_option maxRecDepth 100000 in
theorem cb_X4_share : CLB yX4_share cX4_share 4 none 1 := ⟨WS_m 861 (by decide +kernel), WS_m 100 (by decide +kernel), ⟨by decide +kernel, by decide +kernel, by decide +kernel⟩, by decide⟩
set_option maxRecDepth 100000 in
theorem cl_X4_115 : CLV RX4 115 yX4_share cX4_share 4 none 1 := ⟨cb_X4_share, WS_m 858 (by decide +kernel), WS_m 860 (by decide +kernel), WS_m 26 (by decide +kernel)⟩
set_option maxRecDepth 100000 in
theorem mw_X4_135 : Cond.methodLink RX4 135 Lib.Math.min.name ∈ WS := WS_m 862 (by decide +kernel)
set_option maxRecDepth 100000 in
theorem cb_X10_from : CLB yX10_from cX10_from 3 (some .int) 2 := ⟨WS_m 866 (by decide +kernel), WS_m 95 (by decide +kernel), ⟨by decide +kernel, by decide +kernel, by decide +kernel⟩, by decide⟩
set_option maxRecDepth 100000 in
theorem cl_L_94 : CLV RL 94 yX10_from cX10_from 3 (some .int) 2 := ⟨cb_X10_from, WS_m 863 (by decide +kernel), WS_m 864 (by decide +kernel), WS_m 865 (by decide +kernel)⟩
set_option maxRecDepth 100000 in
theorem cb_X4_lender : CLB yX4_lender cX4_lender 4 (some .int) 2 := ⟨WS_m 870 (by decide +kernel), WS_m 100 (by decide +kernel), ⟨by decide +kernel, by decide +kernel, by decide +kernel⟩, by decide⟩
set_option maxRecDepth 100000 in
theorem cl_X10_228 : CLV RX10 228 yX4_lender cX4_lender 4 (some .int) 2 := ⟨cb_X4_lender, WS_m 867 (by decide +kernel), WS_m 868 (by decide +kernel), WS_m 869 (by decide +kernel)⟩
set_option maxRecDepth 100000 in
theorem cb_X10_pairs : CLB yX10_pairs cX10_pairs 2 (some .int) 1 := ⟨WS_m 874 (by decide +kernel), WS_m 95 (by decide +kernel), ⟨by decide +kernel, by decide +kernel, by decide +kernel⟩, by decide⟩
set_option maxRecDepth 100000 in
theorem cl_L_98 : CLV RL 98 yX10_pairs cX10_pairs 2 (some .int) 1 := ⟨cb_X10_pairs, WS_m 871 (by decide +kernel), WS_m 872 (by decide +kernel), WS_m 873 (by decide +kernel)⟩
set_option maxRecDepth 100000 in
theorem cb_X3_pair : CLB yX3_pair cX3_pair 5 (some .int) 1 := ⟨WS_m 878 (by decide +kernel), WS_m 102 (by decide +kernel), ⟨by decide +kernel, by decide +kernel, by decide +kernel⟩, by decide⟩
set_option maxRecDepth 100000 in
theorem cl_X10_231 : CLV RX10 231 yX3_pair cX3_pair 5 (some .int) 1 := ⟨cb_X3_pair, WS_m 875 (by decide +kernel), WS_m 876 (by decide +kernel), WS_m 877 (by decide +kernel)⟩
set_option maxRecDepth 100000 in
theorem cb_X3_clash : CLB yX3_clash cX3_clash 7 (some .boolean) 2 := ⟨WS_m 882 (by decide +kernel), WS_m 102 (by decide +kernel), ⟨by decide +kernel, by decide +kernel, by decide +kernel⟩, by decide⟩
set_option maxRecDepth 100000 in
theorem cl_X3_29 : CLV RX3 29 yX3_clash cX3_clash 7 (some .boolean) 2 := ⟨cb_X3_clash, WS_m 879 (by decide +kernel), WS_m 881 (by decide +kernel), WS_m 27 (by decide +kernel)⟩
set_option maxRecDepth 100000 in
theorem cl_X3_25 : CLV RX3 25 yX1_told cX1_told 3 (some .int) 2 := ⟨cb_X1_told, WS_m 883 (by decide +kernel), WS_m 556 (by decide +kernel), WS_m 557 (by decide +kernel)⟩
set_option maxRecDepth 100000 in
theorem cb_X10_freed : CLB yX10_freed cX10_freed 1 (some .int) 0 := ⟨WS_m 887 (by decide +kernel), WS_m 95 (by decide +kernel), ⟨by decide +kernel, by decide +kernel, by decide +kernel⟩, by decide⟩
set_option maxRecDepth 100000 in
theorem cl_L_102 : CLV RL 102 yX10_freed cX10_freed 1 (some .int) 0 := ⟨cb_X10_freed, WS_m 884 (by decide +kernel), WS_m 885 (by decide +kernel), WS_m 886 (by decide +kernel)⟩
set_option maxRecDepth 100000 in
theorem cb_X3_fewestOut : CLB yX3_fewestOut cX3_fewestOut 5 (some .int) 0 := ⟨WS_m 891 (by decide +kernel), WS_m 102 (by decide +kernel), ⟨by decide +kernel, by decide +kernel, by decide +kernel⟩, by decide⟩
set_option maxRecDepth 100000 in
theorem cl_X10_234 : CLV RX10 234 yX3_fewestOut cX3_fewestOut 5 (some .int) 0 := ⟨cb_X3_fewestOut, WS_m 888 (by decide +kernel), WS_m 889 (by decide +kernel), WS_m 890 (by decide +kernel)⟩
set_option maxRecDepth 100000 in
theorem cb_X3_involve : CLB yX3_involve cX3_involve 4 (some .int) 0 := ⟨WS_m 895 (by decide +kernel), WS_m 102 (by decide +kernel), ⟨by decide +kernel, by decide +kernel, by decide +kernel⟩, by decide⟩
set_option maxRecDepth 100000 in
theorem cl_X3_33 : CLV RX3 33 yX3_involve cX3_involve 4 (some .int) 0 := ⟨cb_X3_involve, WS_m 892 (by decide +kernel), WS_m 894 (by decide +kernel), WS_m 28 (by decide +kernel)⟩
set_option maxRecDepth 100000 in
theorem cl_X3_47 : CLS RX3 47 yJ7_fill_53178 cJ7_fill_53178 4 none 2 := ⟨cb_J7_fill_53178, WS_m 896 (by decide +kernel), WS_m 160 (by decide +kernel)⟩
set_option maxRecDepth 100000 in
theorem cl_X3_37 : CLS RX3 37 yJ6_bitCount_0f7a4 cJ6_bitCount_0f7a4 1 (some .int) 1 := ⟨cb_J6_bitCount_0f7a4, WS_m 897 (by decide +kernel), WS_m 726 (by decide +kernel)⟩
set_option maxRecDepth 100000 in
theorem cb_X3_frees : CLB yX3_frees cX3_frees 3 (some .boolean) 1 := ⟨WS_m 901 (by decide +kernel), WS_m 102 (by decide +kernel), ⟨by decide +kernel, by decide +kernel, by decide +kernel⟩, by decide⟩
set_option maxRecDepth 100000 in
theorem cl_X3_43 : CLV RX3 43 yX3_frees cX3_frees 3 (some .boolean) 1 := ⟨cb_X3_frees, WS_m 898 (by decide +kernel), WS_m 900 (by decide +kernel), WS_m 29 (by decide +kernel)⟩
set_option maxRecDepth 100000 in
theorem cb_X10_doubt : CLB yX10_doubt cX10_doubt 3 (some .int) 1 := ⟨WS_m 905 (by decide +kernel), WS_m 95 (by decide +kernel), ⟨by decide +kernel, by decide +kernel, by decide +kernel⟩, by decide⟩
set_option maxRecDepth 100000 in
theorem cl_L_106 : CLV RL 106 yX10_doubt cX10_doubt 3 (some .int) 1 := ⟨cb_X10_doubt, WS_m 902 (by decide +kernel), WS_m 903 (by decide +kernel), WS_m 904 (by decide +kernel)⟩
set_option maxRecDepth 100000 in
theorem cb_X2_fewestOut : CLB yX2_fewestOut cX2_fewestOut 5 (some .int) 0 := ⟨WS_m 909 (by decide +kernel), WS_m 103 (by decide +kernel), ⟨by decide +kernel, by decide +kernel, by decide +kernel⟩, by decide⟩
set_option maxRecDepth 100000 in
theorem cl_X10_237 : CLV RX10 237 yX2_fewestOut cX2_fewestOut 5 (some .int) 0 := ⟨cb_X2_fewestOut, WS_m 906 (by decide +kernel), WS_m 907 (by decide +kernel), WS_m 908 (by decide +kernel)⟩
set_option maxRecDepth 100000 in
theorem cl_X2_41 : CLS RX2 41 yJ6_bitCount_0f7a4 cJ6_bitCount_0f7a4 1 (some .int) 1 := ⟨cb_J6_bitCount_0f7a4, WS_m 910 (by decide +kernel), WS_m 726 (by decide +kernel)⟩
set_option maxRecDepth 100000 in
theorem cb_X2_holdWithout : CLB yX2_holdWithout cX2_holdWithout 3 (some .boolean) 1 := ⟨WS_m 914 (by decide +kernel), WS_m 103 (by decide +kernel), ⟨by decide +kernel, by decide +kernel, by decide +kernel⟩, by decide⟩
set_option maxRecDepth 100000 in
theorem cl_X2_47 : CLV RX2 47 yX2_holdWithout cX2_holdWithout 3 (some .boolean) 1 := ⟨cb_X2_holdWithout, WS_m 911 (by decide +kernel), WS_m 913 (by decide +kernel), WS_m 30 (by decide +kernel)⟩
set_option maxRecDepth 100000 in
theorem cl_X2_54 : CLV RX2 54 yX9_arrange cX9_arrange 6 (some .boolean) 0 := ⟨cb_X9_arrange, WS_m 915 (by decide +kernel), WS_m 630 (by decide +kernel), WS_m 631 (by decide +kernel)⟩
set_option maxRecDepth 100000 in
theorem cl_X2_58 : CLV RX2 58 yX9_firstLate cX9_firstLate 4 (some .int) 0 := ⟨cb_X9_firstLate, WS_m 916 (by decide +kernel), WS_m 682 (by decide +kernel), WS_m 683 (by decide +kernel)⟩
set_option maxRecDepth 100000 in
theorem cl_X10_238 : CLS RX10 238 yJ6_bitCount_0f7a4 cJ6_bitCount_0f7a4 1 (some .int) 1 := ⟨cb_J6_bitCount_0f7a4, WS_m 917 (by decide +kernel), WS_m 726 (by decide +kernel)⟩
set_option maxRecDepth 100000 in
theorem cb_X10_law : CLB yX10_law cX10_law 3 (some .int) 2 := ⟨WS_m 921 (by decide +kernel), WS_m 95 (by decide +kernel), ⟨by decide +kernel, by decide +kernel, by decide +kernel⟩, by decide⟩
set_option maxRecDepth 100000 in
theorem cl_L_110 : CLV RL 110 yX10_law cX10_law 3 (some .int) 2 := ⟨cb_X10_law, WS_m 918 (by decide +kernel), WS_m 919 (by decide +kernel), WS_m 920 (by decide +kernel)⟩
set_option maxRecDepth 100000 in
theorem cb_X10_cameIn : CLB yX10_cameIn cX10_cameIn 3 (some .int) 2 := ⟨WS_m 925 (by decide +kernel), WS_m 95 (by decide +kernel), ⟨by decide +kernel, by decide +kernel, by decide +kernel⟩, by decide⟩
set_option maxRecDepth 100000 in
theorem cl_L_114 : CLV RL 114 yX10_cameIn cX10_cameIn 3 (some .int) 2 := ⟨cb_X10_cameIn, WS_m 922 (by decide +kernel), WS_m 923 (by decide +kernel), WS_m 924 (by decide +kernel)⟩
set_option maxRecDepth 100000 in
theorem cb_X4_source : CLB yX4_source cX4_source 7 (some .int) 2 := ⟨WS_m 929 (by decide +kernel), WS_m 100 (by decide +kernel), ⟨by decide +kernel, by decide +kernel, by decide +kernel⟩, by decide⟩
set_option maxRecDepth 100000 in
theorem cl_X10_243 : CLV RX10 243 yX4_source cX4_source 7 (some .int) 2 := ⟨cb_X4_source, WS_m 926 (by decide +kernel), WS_m 927 (by decide +kernel), WS_m 928 (by decide +kernel)⟩
set_option maxRecDepth 100000 in
theorem cb_X10_slip : CLB yX10_slip cX10_slip 3 (some .int) 2 := ⟨WS_m 933 (by decide +kernel), WS_m 95 (by decide +kernel), ⟨by decide +kernel, by decide +kernel, by decide +kernel⟩, by decide⟩
set_option maxRecDepth 100000 in
theorem cl_L_118 : CLV RL 118 yX10_slip cX10_slip 3 (some .int) 2 := ⟨cb_X10_slip, WS_m 930 (by decide +kernel), WS_m 931 (by decide +kernel), WS_m 932 (by decide +kernel)⟩
set_option maxRecDepth 100000 in
theorem cb_X7_isNumber : CLB yX7_isNumber cX7_isNumber 1 (some .boolean) 1 := ⟨WS_m 936 (by decide +kernel), WS_m 110 (by decide +kernel), ⟨by decide +kernel, by decide +kernel, by decide +kernel⟩, by decide⟩
set_option maxRecDepth 100000 in
theorem cl_X10_246 : CLS RX10 246 yX7_isNumber cX7_isNumber 1 (some .boolean) 1 := ⟨cb_X7_isNumber, WS_m 934 (by decide +kernel), WS_m 935 (by decide +kernel)⟩
set_option maxRecDepth 100000 in
theorem kw_X7_11 : Cond.constant RX7 11 (Int32.ofInt (99999)) ∈ WS := WS_m 937 (by decide +kernel)
set_option maxRecDepth 100000 in
theorem cb_X7_kind : CLB yX7_kind cX7_kind 3 (some .int) 2 := ⟨WS_m 940 (by decide +kernel), WS_m 110 (by decide +kernel), ⟨by decide +kernel, by decide +kernel, by decide +kernel⟩, by decide⟩
set_option maxRecDepth 100000 in
theorem cl_X10_251 : CLS RX10 251 yX7_kind cX7_kind 3 (some .int) 2 := ⟨cb_X7_kind, WS_m 938 (by decide +kernel), WS_m 939 (by decide +kernel)⟩
set_option maxRecDepth 100000 in
theorem cb_X7_grown : CLB yX7_grown cX7_grown 3 (some .int) 2 := ⟨WS_m 943 (by decide +kernel), WS_m 110 (by decide +kernel), ⟨by decide +kernel, by decide +kernel, by decide +kernel⟩, by decide⟩
set_option maxRecDepth 100000 in
theorem cl_X7_12 : CLS RX7 12 yX7_grown cX7_grown 3 (some .int) 2 := ⟨cb_X7_grown, WS_m 941 (by decide +kernel), WS_m 942 (by decide +kernel)⟩
set_option maxRecDepth 100000 in
theorem cb_X7_length : CLB yX7_length cX7_length 2 (some .int) 1 := ⟨WS_m 946 (by decide +kernel), WS_m 110 (by decide +kernel), ⟨by decide +kernel, by decide +kernel, by decide +kernel⟩, by decide⟩
set_option maxRecDepth 100000 in
theorem cl_X7_27 : CLS RX7 27 yX7_length cX7_length 2 (some .int) 1 := ⟨cb_X7_length, WS_m 944 (by decide +kernel), WS_m 945 (by decide +kernel)⟩
set_option maxRecDepth 100000 in
theorem sl_X7_30 : SL RX7 30 0 := ⟨_, rfl, WS_m 947 (by decide +kernel)⟩
set_option maxRecDepth 100000 in
theorem cb_X7_kindOf : CLB yX7_kindOf cX7_kindOf 1 (some .int) 1 := ⟨WS_m 951 (by decide +kernel), WS_m 110 (by decide +kernel), ⟨by decide +kernel, by decide +kernel, by decide +kernel⟩, by decide⟩
set_option maxRecDepth 100000 in
theorem cl_X7_16 : CLS RX7 16 yX7_kindOf cX7_kindOf 1 (some .int) 1 := ⟨cb_X7_kindOf, WS_m 949 (by decide +kernel), WS_m 950 (by decide +kernel)⟩
set_option maxRecDepth 100000 in
theorem cb_X7_written : CLB yX7_written cX7_written 2 (some .int) 2 := ⟨WS_m 954 (by decide +kernel), WS_m 110 (by decide +kernel), ⟨by decide +kernel, by decide +kernel, by decide +kernel⟩, by decide⟩
set_option maxRecDepth 100000 in
theorem cl_X7_34 : CLS RX7 34 yX7_written cX7_written 2 (some .int) 2 := ⟨cb_X7_written, WS_m 952 (by decide +kernel), WS_m 953 (by decide +kernel)⟩
set_option maxRecDepth 100000 in
theorem cb_X7_twice : CLB yX7_twice cX7_twice 3 (some .int) 2 := ⟨WS_m 957 (by decide +kernel), WS_m 110 (by decide +kernel), ⟨by decide +kernel, by decide +kernel, by decide +kernel⟩, by decide⟩
set_option maxRecDepth 100000 in
theorem cl_X7_37 : CLS RX7 37 yX7_twice cX7_twice 3 (some .int) 2 := ⟨cb_X7_twice, WS_m 955 (by decide +kernel), WS_m 956 (by decide +kernel)⟩
set_option maxRecDepth 100000 in
theorem cb_X7_changedAbout : CLB yX7_changedAbout cX7_changedAbout 4 (some .int) 2 := ⟨WS_m 960 (by decide +kernel), WS_m 110 (by decide +kernel), ⟨by decide +kernel, by decide +kernel, by decide +kernel⟩, by decide⟩
set_option maxRecDepth 100000 in
theorem cl_X7_40 : CLS RX7 40 yX7_changedAbout cX7_changedAbout 4 (some .int) 2 := ⟨cb_X7_changedAbout, WS_m 958 (by decide +kernel), WS_m 959 (by decide +kernel)⟩
set_option maxRecDepth 100000 in
theorem cb_X7_misread : CLB yX7_misread cX7_misread 5 (some .int) 3 := ⟨WS_m 963 (by decide +kernel), WS_m 110 (by decide +kernel), ⟨by decide +kernel, by decide +kernel, by decide +kernel⟩, by decide⟩
set_option maxRecDepth 100000 in
theorem cl_X7_43 : CLS RX7 43 yX7_misread cX7_misread 5 (some .int) 3 := ⟨cb_X7_misread, WS_m 961 (by decide +kernel), WS_m 962 (by decide +kernel)⟩
set_option maxRecDepth 100000 in
theorem sl_X7_47 : SL RX7 47 1 := ⟨_, rfl, WS_m 964 (by decide +kernel)⟩
set_option maxRecDepth 100000 in
theorem sl_X7_50 : SL RX7 50 2 := ⟨_, rfl, WS_m 966 (by decide +kernel)⟩
set_option maxRecDepth 100000 in
theorem cb_X10_chain : CLB yX10_chain cX10_chain 3 (some .int) 2 := ⟨WS_m 971 (by decide +kernel), WS_m 95 (by decide +kernel), ⟨by decide +kernel, by decide +kernel, by decide +kernel⟩, by decide⟩
set_option maxRecDepth 100000 in
theorem cl_L_122 : CLV RL 122 yX10_chain cX10_chain 3 (some .int) 2 := ⟨cb_X10_chain, WS_m 968 (by decide +kernel), WS_m 969 (by decide +kernel), WS_m 970 (by decide +kernel)⟩
set_option maxRecDepth 100000 in
theorem cb_X7_fewest : CLB yX7_fewest cX7_fewest 6 (some .int) 2 := ⟨WS_m 974 (by decide +kernel), WS_m 110 (by decide +kernel), ⟨by decide +kernel, by decide +kernel, by decide +kernel⟩, by decide⟩
set_option maxRecDepth 100000 in
theorem cl_X10_254 : CLS RX10 254 yX7_fewest cX7_fewest 6 (some .int) 2 := ⟨cb_X7_fewest, WS_m 972 (by decide +kernel), WS_m 973 (by decide +kernel)⟩
set_option maxRecDepth 100000 in
theorem cl_X7_20 : CLS RX7 20 yX7_kind cX7_kind 3 (some .int) 2 := ⟨cb_X7_kind, WS_m 975 (by decide +kernel), WS_m 939 (by decide +kernel)⟩
set_option maxRecDepth 100000 in
theorem cb_X7_inTwo : CLB yX7_inTwo cX7_inTwo 4 (some .boolean) 2 := ⟨WS_m 978 (by decide +kernel), WS_m 110 (by decide +kernel), ⟨by decide +kernel, by decide +kernel, by decide +kernel⟩, by decide⟩
set_option maxRecDepth 100000 in
theorem cl_X7_23 : CLS RX7 23 yX7_inTwo cX7_inTwo 4 (some .boolean) 2 := ⟨cb_X7_inTwo, WS_m 976 (by decide +kernel), WS_m 977 (by decide +kernel)⟩
set_option maxRecDepth 100000 in
theorem cb_X10_undo : CLB yX10_undo cX10_undo 1 (some .int) 0 := ⟨WS_m 982 (by decide +kernel), WS_m 95 (by decide +kernel), ⟨by decide +kernel, by decide +kernel, by decide +kernel⟩, by decide⟩
set_option maxRecDepth 100000 in
theorem cl_L_126 : CLV RL 126 yX10_undo cX10_undo 1 (some .int) 0 := ⟨cb_X10_undo, WS_m 979 (by decide +kernel), WS_m 980 (by decide +kernel), WS_m 981 (by decide +kernel)⟩
set_option maxRecDepth 100000 in
theorem cb_X1_back : CLB yX1_back cX1_back 1 (some .int) 0 := ⟨WS_m 986 (by decide +kernel), WS_m 97 (by decide +kernel), ⟨by decide +kernel, by decide +kernel, by decide +kernel⟩, by decide⟩
set_option maxRecDepth 100000 in
theorem cl_X10_257 : CLV RX10 257 yX1_back cX1_back 1 (some .int) 0 := ⟨cb_X1_back, WS_m 983 (by decide +kernel), WS_m 984 (by decide +kernel), WS_m 985 (by decide +kernel)⟩
set_option maxRecDepth 100000 in
theorem cb_X10_redo : CLB yX10_redo cX10_redo 1 (some .int) 0 := ⟨WS_m 990 (by decide +kernel), WS_m 95 (by decide +kernel), ⟨by decide +kernel, by decide +kernel, by decide +kernel⟩, by decide⟩
set_option maxRecDepth 100000 in
theorem cl_L_130 : CLV RL 130 yX10_redo cX10_redo 1 (some .int) 0 := ⟨cb_X10_redo, WS_m 987 (by decide +kernel), WS_m 988 (by decide +kernel), WS_m 989 (by decide +kernel)⟩
set_option maxRecDepth 100000 in
theorem cb_X1_forth : CLB yX1_forth cX1_forth 1 (some .int) 0 := ⟨WS_m 994 (by decide +kernel), WS_m 97 (by decide +kernel), ⟨by decide +kernel, by decide +kernel, by decide +kernel⟩, by decide⟩
set_option maxRecDepth 100000 in
theorem cl_X10_260 : CLV RX10 260 yX1_forth cX1_forth 1 (some .int) 0 := ⟨cb_X1_forth, WS_m 991 (by decide +kernel), WS_m 992 (by decide +kernel), WS_m 993 (by decide +kernel)⟩
set_option maxRecDepth 100000 in
theorem cb_X10_digest : CLB yX10_digest cX10_digest 4 (some .int) 0 := ⟨WS_m 998 (by decide +kernel), WS_m 95 (by decide +kernel), ⟨by decide +kernel, by decide +kernel, by decide +kernel⟩, by decide⟩
set_option maxRecDepth 100000 in
theorem cl_L_134 : CLV RL 134 yX10_digest cX10_digest 4 (some .int) 0 := ⟨cb_X10_digest, WS_m 995 (by decide +kernel), WS_m 996 (by decide +kernel), WS_m 997 (by decide +kernel)⟩
set_option maxRecDepth 100000 in
theorem cl_X10_263 : CLV RX10 263 yX1_motherOf cX1_motherOf 2 (some .int) 1 := ⟨cb_X1_motherOf, WS_m 999 (by decide +kernel), WS_m 607 (by decide +kernel), WS_m 608 (by decide +kernel)⟩
set_option maxRecDepth 100000 in
theorem cl_X10_266 : CLV RX10 266 yX1_costOf cX1_costOf 2 (some .int) 1 := ⟨cb_X1_costOf, WS_m 1000 (by decide +kernel), WS_m 625 (by decide +kernel), WS_m 626 (by decide +kernel)⟩
set_option maxRecDepth 100000 in
theorem cb_X10_path : CLB yX10_path cX10_path 3 (some .int) 2 := ⟨WS_m 1004 (by decide +kernel), WS_m 95 (by decide +kernel), ⟨by decide +kernel, by decide +kernel, by decide +kernel⟩, by decide⟩
set_option maxRecDepth 100000 in
theorem cl_L_138 : CLV RL 138 yX10_path cX10_path 3 (some .int) 2 := ⟨cb_X10_path, WS_m 1001 (by decide +kernel), WS_m 1002 (by decide +kernel), WS_m 1003 (by decide +kernel)⟩
set_option maxRecDepth 100000 in
theorem cb_X5_isKind : CLB yX5_isKind cX5_isKind 1 (some .boolean) 1 := ⟨WS_m 1007 (by decide +kernel), WS_m 104 (by decide +kernel), ⟨by decide +kernel, by decide +kernel, by decide +kernel⟩, by decide⟩
set_option maxRecDepth 100000 in
theorem cl_X10_269 : CLS RX10 269 yX5_isKind cX5_isKind 1 (some .boolean) 1 := ⟨cb_X5_isKind, WS_m 1005 (by decide +kernel), WS_m 1006 (by decide +kernel)⟩
set_option maxRecDepth 100000 in
theorem cb_X5_add : CLB yX5_add cX5_add 3 (some .int) 2 := ⟨WS_m 1011 (by decide +kernel), WS_m 104 (by decide +kernel), ⟨by decide +kernel, by decide +kernel, by decide +kernel⟩, by decide⟩
set_option maxRecDepth 100000 in
theorem cl_X10_273 : CLV RX10 273 yX5_add cX5_add 3 (some .int) 2 := ⟨cb_X5_add, WS_m 1008 (by decide +kernel), WS_m 1009 (by decide +kernel), WS_m 1010 (by decide +kernel)⟩
set_option maxRecDepth 100000 in
theorem cb_X10_act : CLB yX10_act cX10_act 4 (some .int) 3 := ⟨WS_m 1015 (by decide +kernel), WS_m 95 (by decide +kernel), ⟨by decide +kernel, by decide +kernel, by decide +kernel⟩, by decide⟩
set_option maxRecDepth 100000 in
theorem cl_L_142 : CLV RL 142 yX10_act cX10_act 4 (some .int) 3 := ⟨cb_X10_act, WS_m 1012 (by decide +kernel), WS_m 1013 (by decide +kernel), WS_m 1014 (by decide +kernel)⟩
set_option maxRecDepth 100000 in
theorem cb_X5_has : CLB yX5_has cX5_has 2 (some .boolean) 1 := ⟨WS_m 1019 (by decide +kernel), WS_m 104 (by decide +kernel), ⟨by decide +kernel, by decide +kernel, by decide +kernel⟩, by decide⟩
set_option maxRecDepth 100000 in
theorem cl_X10_278 : CLV RX10 278 yX5_has cX5_has 2 (some .boolean) 1 := ⟨cb_X5_has, WS_m 1016 (by decide +kernel), WS_m 1017 (by decide +kernel), WS_m 1018 (by decide +kernel)⟩
set_option maxRecDepth 100000 in
theorem cb_X5_perform : CLB yX5_perform cX5_perform 4 (some .int) 3 := ⟨WS_m 1023 (by decide +kernel), WS_m 104 (by decide +kernel), ⟨by decide +kernel, by decide +kernel, by decide +kernel⟩, by decide⟩
set_option maxRecDepth 100000 in
theorem cl_X10_279 : CLV RX10 279 yX5_perform cX5_perform 4 (some .int) 3 := ⟨cb_X5_perform, WS_m 1020 (by decide +kernel), WS_m 1021 (by decide +kernel), WS_m 1022 (by decide +kernel)⟩
set_option maxRecDepth 100000 in
theorem cb_X5_costs : CLB yX5_costs cX5_costs 2 (some .int) 1 := ⟨WS_m 1027 (by decide +kernel), WS_m 104 (by decide +kernel), ⟨by decide +kernel, by decide +kernel, by decide +kernel⟩, by decide⟩
set_option maxRecDepth 100000 in
theorem cl_X5_39 : CLV RX5 39 yX5_costs cX5_costs 2 (some .int) 1 := ⟨cb_X5_costs, WS_m 1024 (by decide +kernel), WS_m 1026 (by decide +kernel), WS_m 31 (by decide +kernel)⟩
set_option maxRecDepth 100000 in
theorem cb_X5_began : CLB yX5_began cX5_began 2 none 1 := ⟨WS_m 1031 (by decide +kernel), WS_m 104 (by decide +kernel), ⟨by decide +kernel, by decide +kernel, by decide +kernel⟩, by decide⟩
set_option maxRecDepth 100000 in
theorem cl_X5_55 : CLV RX5 55 yX5_began cX5_began 2 none 1 := ⟨cb_X5_began, WS_m 1028 (by decide +kernel), WS_m 1030 (by decide +kernel), WS_m 32 (by decide +kernel)⟩
set_option maxRecDepth 100000 in
theorem cb_X5_lets : CLB yX5_lets cX5_lets 3 (some .int) 1 := ⟨WS_m 1035 (by decide +kernel), WS_m 104 (by decide +kernel), ⟨by decide +kernel, by decide +kernel, by decide +kernel⟩, by decide⟩
set_option maxRecDepth 100000 in
theorem cl_X5_43 : CLV RX5 43 yX5_lets cX5_lets 3 (some .int) 1 := ⟨cb_X5_lets, WS_m 1032 (by decide +kernel), WS_m 1034 (by decide +kernel), WS_m 33 (by decide +kernel)⟩
set_option maxRecDepth 100000 in
theorem cb_X5_isUnder : CLB yX5_isUnder cX5_isUnder 4 (some .boolean) 2 := ⟨WS_m 1038 (by decide +kernel), WS_m 104 (by decide +kernel), ⟨by decide +kernel, by decide +kernel, by decide +kernel⟩, by decide⟩
set_option maxRecDepth 100000 in
theorem cl_X5_59 : CLS RX5 59 yX5_isUnder cX5_isUnder 4 (some .boolean) 2 := ⟨cb_X5_isUnder, WS_m 1036 (by decide +kernel), WS_m 1037 (by decide +kernel)⟩
set_option maxRecDepth 100000 in
theorem sl_X5_19 : SL RX5 19 3 := ⟨_, rfl, WS_m 1039 (by decide +kernel)⟩
set_option maxRecDepth 100000 in
theorem cl_X5_22 : CLS RX5 22 yX5_isKind cX5_isKind 1 (some .boolean) 1 := ⟨cb_X5_isKind, WS_m 1041 (by decide +kernel), WS_m 1006 (by decide +kernel)⟩
set_option maxRecDepth 100000 in
theorem cb_X5_holds : CLB yX5_holds cX5_holds 3 (some .int) 1 := ⟨WS_m 1045 (by decide +kernel), WS_m 104 (by decide +kernel), ⟨by decide +kernel, by decide +kernel, by decide +kernel⟩, by decide⟩
set_option maxRecDepth 100000 in
theorem cl_X5_46 : CLV RX5 46 yX5_holds cX5_holds 3 (some .int) 1 := ⟨cb_X5_holds, WS_m 1042 (by decide +kernel), WS_m 1044 (by decide +kernel), WS_m 34 (by decide +kernel)⟩
set_option maxRecDepth 100000 in
theorem cb_X5_tells : CLB yX5_tells cX5_tells 3 (some .int) 1 := ⟨WS_m 1049 (by decide +kernel), WS_m 104 (by decide +kernel), ⟨by decide +kernel, by decide +kernel, by decide +kernel⟩, by decide⟩
set_option maxRecDepth 100000 in
theorem cl_X5_49 : CLV RX5 49 yX5_tells cX5_tells 3 (some .int) 1 := ⟨cb_X5_tells, WS_m 1046 (by decide +kernel), WS_m 1048 (by decide +kernel), WS_m 35 (by decide +kernel)⟩
set_option maxRecDepth 100000 in
theorem cb_X10_trace : CLB yX10_trace cX10_trace 2 (some .int) 1 := ⟨WS_m 1053 (by decide +kernel), WS_m 95 (by decide +kernel), ⟨by decide +kernel, by decide +kernel, by decide +kernel⟩, by decide⟩
set_option maxRecDepth 100000 in
theorem cl_L_146 : CLV RL 146 yX10_trace cX10_trace 2 (some .int) 1 := ⟨cb_X10_trace, WS_m 1050 (by decide +kernel), WS_m 1051 (by decide +kernel), WS_m 1052 (by decide +kernel)⟩
set_option maxRecDepth 100000 in
theorem cb_X10_keep : CLB yX10_keep cX10_keep 3 (some .int) 2 := ⟨WS_m 1057 (by decide +kernel), WS_m 95 (by decide +kernel), ⟨by decide +kernel, by decide +kernel, by decide +kernel⟩, by decide⟩
set_option maxRecDepth 100000 in
theorem cl_L_150 : CLV RL 150 yX10_keep cX10_keep 3 (some .int) 2 := ⟨cb_X10_keep, WS_m 1054 (by decide +kernel), WS_m 1055 (by decide +kernel), WS_m 1056 (by decide +kernel)⟩
set_option maxRecDepth 100000 in
theorem cb_X6_keepPath : CLB yX6_keepPath cX6_keepPath 2 none 1 := ⟨WS_m 1061 (by decide +kernel), WS_m 105 (by decide +kernel), ⟨by decide +kernel, by decide +kernel, by decide +kernel⟩, by decide⟩
set_option maxRecDepth 100000 in
theorem cl_X10_286 : CLV RX10 286 yX6_keepPath cX6_keepPath 2 none 1 := ⟨cb_X6_keepPath, WS_m 1058 (by decide +kernel), WS_m 1059 (by decide +kernel), WS_m 1060 (by decide +kernel)⟩
set_option maxRecDepth 100000 in
theorem cb_X10_row : CLB yX10_row cX10_row 4 (some .int) 3 := ⟨WS_m 1065 (by decide +kernel), WS_m 95 (by decide +kernel), ⟨by decide +kernel, by decide +kernel, by decide +kernel⟩, by decide⟩
set_option maxRecDepth 100000 in
theorem cl_L_154 : CLV RL 154 yX10_row cX10_row 4 (some .int) 3 := ⟨cb_X10_row, WS_m 1062 (by decide +kernel), WS_m 1063 (by decide +kernel), WS_m 1064 (by decide +kernel)⟩
set_option maxRecDepth 100000 in
theorem cb_X6_keepRow : CLB yX6_keepRow cX6_keepRow 3 none 2 := ⟨WS_m 1069 (by decide +kernel), WS_m 105 (by decide +kernel), ⟨by decide +kernel, by decide +kernel, by decide +kernel⟩, by decide⟩
set_option maxRecDepth 100000 in
theorem cl_X10_290 : CLV RX10 290 yX6_keepRow cX6_keepRow 3 none 2 := ⟨cb_X6_keepRow, WS_m 1066 (by decide +kernel), WS_m 1067 (by decide +kernel), WS_m 1068 (by decide +kernel)⟩
set_option maxRecDepth 100000 in
theorem cb_J7_fill_d0a16 : CLB yJ7_fill_d0a16 cJ7_fill_d0a16 5 none 2 := ⟨WS_m 1072 (by decide +kernel), WS_m 98 (by decide +kernel), ⟨by decide +kernel, by decide +kernel, by decide +kernel⟩, by decide⟩
set_option maxRecDepth 100000 in
theorem cl_X6_26 : CLS RX6 26 yJ7_fill_d0a16 cJ7_fill_d0a16 5 none 2 := ⟨cb_J7_fill_d0a16, WS_m 1070 (by decide +kernel), WS_m 1071 (by decide +kernel)⟩
set_option maxRecDepth 100000 in
theorem cb_X10_put : CLB yX10_put cX10_put 6 (some .int) 3 := ⟨WS_m 1076 (by decide +kernel), WS_m 95 (by decide +kernel), ⟨by decide +kernel, by decide +kernel, by decide +kernel⟩, by decide⟩
set_option maxRecDepth 100000 in
theorem cl_L_160 : CLV RL 160 yX10_put cX10_put 6 (some .int) 3 := ⟨cb_X10_put, WS_m 1073 (by decide +kernel), WS_m 1074 (by decide +kernel), WS_m 1075 (by decide +kernel)⟩
set_option maxRecDepth 100000 in
theorem cb_X10_elementRefusal : CLB yX10_elementRefusal cX10_elementRefusal 4 (some .int) 2 := ⟨WS_m 1080 (by decide +kernel), WS_m 95 (by decide +kernel), ⟨by decide +kernel, by decide +kernel, by decide +kernel⟩, by decide⟩
set_option maxRecDepth 100000 in
theorem cl_X10_294 : CLV RX10 294 yX10_elementRefusal cX10_elementRefusal 4 (some .int) 2 := ⟨cb_X10_elementRefusal, WS_m 1077 (by decide +kernel), WS_m 1079 (by decide +kernel), WS_m 36 (by decide +kernel)⟩
set_option maxRecDepth 100000 in
theorem cb_X6_lowest : CLB yX6_lowest cX6_lowest 3 (some .long) 1 := ⟨WS_m 1084 (by decide +kernel), WS_m 105 (by decide +kernel), ⟨by decide +kernel, by decide +kernel, by decide +kernel⟩, by decide⟩
set_option maxRecDepth 100000 in
theorem cl_X10_297 : CLV RX10 297 yX6_lowest cX6_lowest 3 (some .long) 1 := ⟨cb_X6_lowest, WS_m 1081 (by decide +kernel), WS_m 1082 (by decide +kernel), WS_m 1083 (by decide +kernel)⟩
set_option maxRecDepth 100000 in
theorem cb_X10_element : CLB yX10_element cX10_element 3 (some .long) 2 := ⟨WS_m 1088 (by decide +kernel), WS_m 95 (by decide +kernel), ⟨by decide +kernel, by decide +kernel, by decide +kernel⟩, by decide⟩
set_option maxRecDepth 100000 in
theorem cl_L_165 : CLV RL 165 yX10_element cX10_element 3 (some .long) 2 := ⟨cb_X10_element, WS_m 1085 (by decide +kernel), WS_m 1086 (by decide +kernel), WS_m 1087 (by decide +kernel)⟩
set_option maxRecDepth 100000 in
theorem kw_X10_303 : Cond.constantLong RX10 303 (Int64.ofInt (-9223372036854775808)) ∈ WS := WS_m 1089 (by decide +kernel)
set_option maxRecDepth 100000 in
theorem cb_X10_shift : CLB yX10_shift cX10_shift 8 (some .int) 5 := ⟨WS_m 1093 (by decide +kernel), WS_m 95 (by decide +kernel), ⟨by decide +kernel, by decide +kernel, by decide +kernel⟩, by decide⟩
set_option maxRecDepth 100000 in
theorem cl_L_170 : CLV RL 170 yX10_shift cX10_shift 8 (some .int) 5 := ⟨cb_X10_shift, WS_m 1090 (by decide +kernel), WS_m 1091 (by decide +kernel), WS_m 1092 (by decide +kernel)⟩
set_option maxRecDepth 100000 in
theorem cb_X6_hasPlaces : CLB yX6_hasPlaces cX6_hasPlaces 3 (some .boolean) 2 := ⟨WS_m 1097 (by decide +kernel), WS_m 105 (by decide +kernel), ⟨by decide +kernel, by decide +kernel, by decide +kernel⟩, by decide⟩
set_option maxRecDepth 100000 in
theorem cl_X10_305 : CLV RX10 305 yX6_hasPlaces cX6_hasPlaces 3 (some .boolean) 2 := ⟨cb_X6_hasPlaces, WS_m 1094 (by decide +kernel), WS_m 1095 (by decide +kernel), WS_m 1096 (by decide +kernel)⟩
set_option maxRecDepth 100000 in
theorem mw_X10_308 : Cond.methodLink RX10 308 arraycopyName ∈ WS := WS_m 1098 (by decide +kernel)
set_option maxRecDepth 100000 in
theorem cb_X10_taken : CLB yX10_taken cX10_taken 5 (some .int) 2 := ⟨WS_m 1102 (by decide +kernel), WS_m 95 (by decide +kernel), ⟨by decide +kernel, by decide +kernel, by decide +kernel⟩, by decide⟩
set_option maxRecDepth 100000 in
theorem cl_L_175 : CLV RL 175 yX10_taken cX10_taken 5 (some .int) 2 := ⟨cb_X10_taken, WS_m 1099 (by decide +kernel), WS_m 1100 (by decide +kernel), WS_m 1101 (by decide +kernel)⟩
set_option maxRecDepth 100000 in
theorem cl_X10_320 : CLS RX10 320 yX5_isUnder cX5_isUnder 4 (some .boolean) 2 := ⟨cb_X5_isUnder, WS_m 1103 (by decide +kernel), WS_m 1037 (by decide +kernel)⟩
set_option maxRecDepth 100000 in
theorem cb_X10_count : CLB yX10_count cX10_count 2 (some .int) 1 := ⟨WS_m 1107 (by decide +kernel), WS_m 95 (by decide +kernel), ⟨by decide +kernel, by decide +kernel, by decide +kernel⟩, by decide⟩
set_option maxRecDepth 100000 in
theorem cl_L_179 : CLV RL 179 yX10_count cX10_count 2 (some .int) 1 := ⟨cb_X10_count, WS_m 1104 (by decide +kernel), WS_m 1105 (by decide +kernel), WS_m 1106 (by decide +kernel)⟩
set_option maxRecDepth 100000 in
theorem fl_X11_138 : FL RX11 138 10 1 .int false := ⟨_, _, _, rfl, by decide, WS_m 1114 (by decide +kernel), rfl, by decide +kernel, rfl⟩
set_option maxRecDepth 100000 in
theorem fl_X11_7 : FL RX11 7 10 2 (.array .int) true := ⟨_, _, _, rfl, by decide, WS_m 1115 (by decide +kernel), rfl, by decide +kernel, rfl⟩
set_option maxRecDepth 100000 in
theorem fl_X11_13 : FL RX11 13 10 3 (.array .int) true := ⟨_, _, _, rfl, by decide, WS_m 1116 (by decide +kernel), rfl, by decide +kernel, rfl⟩
set_option maxRecDepth 100000 in
theorem fl_X11_16 : FL RX11 16 10 4 (.array .int) true := ⟨_, _, _, rfl, by decide, WS_m 1117 (by decide +kernel), rfl, by decide +kernel, rfl⟩
set_option maxRecDepth 100000 in
theorem fl_X11_19 : FL RX11 19 10 5 (.array .boolean) true := ⟨_, _, _, rfl, by decide, WS_m 1118 (by decide +kernel), rfl, by decide +kernel, rfl⟩
set_option maxRecDepth 100000 in
theorem fl_X11_23 : FL RX11 23 10 6 (.array .int) true := ⟨_, _, _, rfl, by decide, WS_m 1119 (by decide +kernel), rfl, by decide +kernel, rfl⟩
set_option maxRecDepth 100000 in
theorem fl_X11_26 : FL RX11 26 10 7 (.array .int) true := ⟨_, _, _, rfl, by decide, WS_m 1120 (by decide +kernel), rfl, by decide +kernel, rfl⟩
set_option maxRecDepth 100000 in
theorem fl_X11_29 : FL RX11 29 10 8 (.array .int) true := ⟨_, _, _, rfl, by decide, WS_m 1121 (by decide +kernel), rfl, by decide +kernel, rfl⟩
set_option maxRecDepth 100000 in
theorem fl_X11_32 : FL RX11 32 10 9 (.array .byte) true := ⟨_, _, _, rfl, by decide, WS_m 1122 (by decide +kernel), rfl, by decide +kernel, rfl⟩
set_option maxRecDepth 100000 in
theorem fl_X11_141 : FL RX11 141 10 10 .int false := ⟨_, _, _, rfl, by decide, WS_m 1123 (by decide +kernel), rfl, by decide +kernel, rfl⟩
set_option maxRecDepth 100000 in
theorem fl_X11_144 : FL RX11 144 10 11 .int false := ⟨_, _, _, rfl, by decide, WS_m 1124 (by decide +kernel), rfl, by decide +kernel, rfl⟩
set_option maxRecDepth 100000 in
theorem fl_X11_147 : FL RX11 147 10 12 .int false := ⟨_, _, _, rfl, by decide, WS_m 1125 (by decide +kernel), rfl, by decide +kernel, rfl⟩
set_option maxRecDepth 100000 in
theorem fl_X11_191 : FL RX11 191 10 13 .int false := ⟨_, _, _, rfl, by decide, WS_m 1126 (by decide +kernel), rfl, by decide +kernel, rfl⟩
set_option maxRecDepth 100000 in
theorem fl_X11_188 : FL RX11 188 10 14 .int false := ⟨_, _, _, rfl, by decide, WS_m 1127 (by decide +kernel), rfl, by decide +kernel, rfl⟩
set_option maxRecDepth 100000 in
theorem fl_X11_36 : FL RX11 36 10 15 (.array .int) true := ⟨_, _, _, rfl, by decide, WS_m 1128 (by decide +kernel), rfl, by decide +kernel, rfl⟩
set_option maxRecDepth 100000 in
theorem fl_X11_39 : FL RX11 39 10 16 (.array .int) true := ⟨_, _, _, rfl, by decide, WS_m 1129 (by decide +kernel), rfl, by decide +kernel, rfl⟩
set_option maxRecDepth 100000 in
theorem fl_X11_42 : FL RX11 42 10 17 (.array .int) true := ⟨_, _, _, rfl, by decide, WS_m 1130 (by decide +kernel), rfl, by decide +kernel, rfl⟩
set_option maxRecDepth 100000 in
theorem fl_X11_45 : FL RX11 45 10 18 (.array .int) true := ⟨_, _, _, rfl, by decide, WS_m 1131 (by decide +kernel), rfl, by decide +kernel, rfl⟩
set_option maxRecDepth 100000 in
theorem fl_X11_48 : FL RX11 48 10 19 (.array .int) true := ⟨_, _, _, rfl, by decide, WS_m 1132 (by decide +kernel), rfl, by decide +kernel, rfl⟩
set_option maxRecDepth 100000 in
theorem fl_X11_51 : FL RX11 51 10 20 (.array .boolean) true := ⟨_, _, _, rfl, by decide, WS_m 1133 (by decide +kernel), rfl, by decide +kernel, rfl⟩
set_option maxRecDepth 100000 in
theorem fl_X11_54 : FL RX11 54 10 21 (.array .int) true := ⟨_, _, _, rfl, by decide, WS_m 1134 (by decide +kernel), rfl, by decide +kernel, rfl⟩
set_option maxRecDepth 100000 in
theorem fl_X11_57 : FL RX11 57 10 22 (.array .int) true := ⟨_, _, _, rfl, by decide, WS_m 1135 (by decide +kernel), rfl, by decide +kernel, rfl⟩
set_option maxRecDepth 100000 in
theorem fl_X11_60 : FL RX11 60 10 23 (.array .int) true := ⟨_, _, _, rfl, by decide, WS_m 1136 (by decide +kernel), rfl, by decide +kernel, rfl⟩
set_option maxRecDepth 100000 in
theorem fl_X11_214 : FL RX11 214 10 24 .int false := ⟨_, _, _, rfl, by decide, WS_m 1137 (by decide +kernel), rfl, by decide +kernel, rfl⟩
set_option maxRecDepth 100000 in
theorem fl_X11_220 : FL RX11 220 10 25 .int false := ⟨_, _, _, rfl, by decide, WS_m 1138 (by decide +kernel), rfl, by decide +kernel, rfl⟩
set_option maxRecDepth 100000 in
theorem fl_X11_63 : FL RX11 63 10 26 (.array .int) true := ⟨_, _, _, rfl, by decide, WS_m 1139 (by decide +kernel), rfl, by decide +kernel, rfl⟩
set_option maxRecDepth 100000 in
theorem fl_X11_66 : FL RX11 66 10 27 (.array .int) true := ⟨_, _, _, rfl, by decide, WS_m 1140 (by decide +kernel), rfl, by decide +kernel, rfl⟩
set_option maxRecDepth 100000 in
theorem fl_X11_260 : FL RX11 260 10 28 .int false := ⟨_, _, _, rfl, by decide, WS_m 1141 (by decide +kernel), rfl, by decide +kernel, rfl⟩
set_option maxRecDepth 100000 in
theorem fl_X11_69 : FL RX11 69 10 29 (.array .int) true := ⟨_, _, _, rfl, by decide, WS_m 1142 (by decide +kernel), rfl, by decide +kernel, rfl⟩
set_option maxRecDepth 100000 in
theorem fl_X11_72 : FL RX11 72 10 30 (.array .int) true := ⟨_, _, _, rfl, by decide, WS_m 1143 (by decide +kernel), rfl, by decide +kernel, rfl⟩
set_option maxRecDepth 100000 in
theorem fl_X11_198 : FL RX11 198 10 31 .boolean false := ⟨_, _, _, rfl, by decide, WS_m 1144 (by decide +kernel), rfl, by decide +kernel, rfl⟩
set_option maxRecDepth 100000 in
theorem fl_X11_270 : FL RX11 270 10 32 .int false := ⟨_, _, _, rfl, by decide, WS_m 1145 (by decide +kernel), rfl, by decide +kernel, rfl⟩
set_option maxRecDepth 100000 in
theorem fl_X11_267 : FL RX11 267 10 33 .int false := ⟨_, _, _, rfl, by decide, WS_m 1146 (by decide +kernel), rfl, by decide +kernel, rfl⟩
set_option maxRecDepth 100000 in
theorem fl_X11_75 : FL RX11 75 10 34 (.array .int) true := ⟨_, _, _, rfl, by decide, WS_m 1147 (by decide +kernel), rfl, by decide +kernel, rfl⟩
set_option maxRecDepth 100000 in
theorem fl_X11_78 : FL RX11 78 10 35 (.array .int) true := ⟨_, _, _, rfl, by decide, WS_m 1148 (by decide +kernel), rfl, by decide +kernel, rfl⟩
set_option maxRecDepth 100000 in
theorem fl_X11_81 : FL RX11 81 10 36 (.array .int) true := ⟨_, _, _, rfl, by decide, WS_m 1149 (by decide +kernel), rfl, by decide +kernel, rfl⟩
set_option maxRecDepth 100000 in
theorem fl_X11_84 : FL RX11 84 10 37 (.array .int) true := ⟨_, _, _, rfl, by decide, WS_m 1150 (by decide +kernel), rfl, by decide +kernel, rfl⟩
set_option maxRecDepth 100000 in
theorem fl_X11_87 : FL RX11 87 10 38 (.array .int) true := ⟨_, _, _, rfl, by decide, WS_m 1151 (by decide +kernel), rfl, by decide +kernel, rfl⟩
set_option maxRecDepth 100000 in
theorem fl_X11_90 : FL RX11 90 10 39 (.array .int) true := ⟨_, _, _, rfl, by decide, WS_m 1152 (by decide +kernel), rfl, by decide +kernel, rfl⟩
set_option maxRecDepth 100000 in
theorem fl_X11_310 : FL RX11 310 10 40 .int false := ⟨_, _, _, rfl, by decide, WS_m 1153 (by decide +kernel), rfl, by decide +kernel, rfl⟩
set_option maxRecDepth 100000 in
theorem fl_X11_93 : FL RX11 93 10 41 (.array .int) true := ⟨_, _, _, rfl, by decide, WS_m 1154 (by decide +kernel), rfl, by decide +kernel, rfl⟩
set_option maxRecDepth 100000 in
theorem fl_X11_96 : FL RX11 96 10 42 (.array .int) true := ⟨_, _, _, rfl, by decide, WS_m 1155 (by decide +kernel), rfl, by decide +kernel, rfl⟩
set_option maxRecDepth 100000 in
theorem fl_X11_99 : FL RX11 99 10 43 (.array .int) true := ⟨_, _, _, rfl, by decide, WS_m 1156 (by decide +kernel), rfl, by decide +kernel, rfl⟩
set_option maxRecDepth 100000 in
theorem fl_X11_102 : FL RX11 102 10 44 (.array .int) true := ⟨_, _, _, rfl, by decide, WS_m 1157 (by decide +kernel), rfl, by decide +kernel, rfl⟩
set_option maxRecDepth 100000 in
theorem fl_X11_105 : FL RX11 105 10 45 (.array .int) true := ⟨_, _, _, rfl, by decide, WS_m 1158 (by decide +kernel), rfl, by decide +kernel, rfl⟩
set_option maxRecDepth 100000 in
theorem fl_X11_357 : FL RX11 357 10 46 .int false := ⟨_, _, _, rfl, by decide, WS_m 1159 (by decide +kernel), rfl, by decide +kernel, rfl⟩
set_option maxRecDepth 100000 in
theorem fl_X11_108 : FL RX11 108 10 47 (.array .int) true := ⟨_, _, _, rfl, by decide, WS_m 1160 (by decide +kernel), rfl, by decide +kernel, rfl⟩
set_option maxRecDepth 100000 in
theorem fl_X11_111 : FL RX11 111 10 48 (.array .int) true := ⟨_, _, _, rfl, by decide, WS_m 1161 (by decide +kernel), rfl, by decide +kernel, rfl⟩
set_option maxRecDepth 100000 in
theorem fl_X11_360 : FL RX11 360 10 49 .int false := ⟨_, _, _, rfl, by decide, WS_m 1162 (by decide +kernel), rfl, by decide +kernel, rfl⟩
set_option maxRecDepth 100000 in
theorem fl_X11_114 : FL RX11 114 10 50 (.array .int) true := ⟨_, _, _, rfl, by decide, WS_m 1163 (by decide +kernel), rfl, by decide +kernel, rfl⟩
set_option maxRecDepth 100000 in
theorem fl_X11_117 : FL RX11 117 10 51 (.array .int) true := ⟨_, _, _, rfl, by decide, WS_m 1164 (by decide +kernel), rfl, by decide +kernel, rfl⟩
set_option maxRecDepth 100000 in
theorem fl_X11_120 : FL RX11 120 10 52 (.array .int) true := ⟨_, _, _, rfl, by decide, WS_m 1165 (by decide +kernel), rfl, by decide +kernel, rfl⟩
set_option maxRecDepth 100000 in
theorem fl_X11_123 : FL RX11 123 10 53 (.array .long) true := ⟨_, _, _, rfl, by decide, WS_m 1166 (by decide +kernel), rfl, by decide +kernel, rfl⟩
set_option maxRecDepth 100000 in
theorem fl_X11_127 : FL RX11 127 10 54 (.array .long) true := ⟨_, _, _, rfl, by decide, WS_m 1167 (by decide +kernel), rfl, by decide +kernel, rfl⟩
set_option maxRecDepth 100000 in
theorem cb_X11_feed : CLB yX11_feed cX11_feed 4 (some .int) 2 := ⟨WS_m 1284 (by decide +kernel), WS_m 106 (by decide +kernel), ⟨by decide +kernel, by decide +kernel, by decide +kernel⟩, by decide⟩
set_option maxRecDepth 100000 in
theorem cl_L_17 : CLV RL 17 yX11_feed cX11_feed 4 (some .int) 2 := ⟨cb_X11_feed, WS_m 1281 (by decide +kernel), WS_m 1282 (by decide +kernel), WS_m 1283 (by decide +kernel)⟩
set_option maxRecDepth 100000 in
theorem cb_X11_in : CLB yX11_in cX11_in 3 (some .boolean) 3 := ⟨WS_m 1287 (by decide +kernel), WS_m 106 (by decide +kernel), ⟨by decide +kernel, by decide +kernel, by decide +kernel⟩, by decide⟩
set_option maxRecDepth 100000 in
theorem cl_X11_134 : CLS RX11 134 yX11_in cX11_in 3 (some .boolean) 3 := ⟨cb_X11_in, WS_m 1285 (by decide +kernel), WS_m 1286 (by decide +kernel)⟩
set_option maxRecDepth 100000 in
theorem cb_X11_charter : CLB yX11_charter cX11_charter 1 (some .int) 0 := ⟨WS_m 1291 (by decide +kernel), WS_m 106 (by decide +kernel), ⟨by decide +kernel, by decide +kernel, by decide +kernel⟩, by decide⟩
set_option maxRecDepth 100000 in
theorem cl_L_22 : CLV RL 22 yX11_charter cX11_charter 1 (some .int) 0 := ⟨cb_X11_charter, WS_m 1288 (by decide +kernel), WS_m 1289 (by decide +kernel), WS_m 1290 (by decide +kernel)⟩
set_option maxRecDepth 100000 in
theorem cb_X11_clear : CLB yX11_clear cX11_clear 3 none 1 := ⟨WS_m 1295 (by decide +kernel), WS_m 106 (by decide +kernel), ⟨by decide +kernel, by decide +kernel, by decide +kernel⟩, by decide⟩
set_option maxRecDepth 100000 in
theorem cl_X11_176 : CLV RX11 176 yX11_clear cX11_clear 3 none 1 := ⟨cb_X11_clear, WS_m 1292 (by decide +kernel), WS_m 1294 (by decide +kernel), WS_m 37 (by decide +kernel)⟩
set_option maxRecDepth 100000 in
theorem cb_X11_readAll : CLB yX11_readAll cX11_readAll 4 none 1 := ⟨WS_m 1299 (by decide +kernel), WS_m 106 (by decide +kernel), ⟨by decide +kernel, by decide +kernel, by decide +kernel⟩, by decide⟩
set_option maxRecDepth 100000 in
theorem cl_X11_179 : CLV RX11 179 yX11_readAll cX11_readAll 4 none 1 := ⟨cb_X11_readAll, WS_m 1296 (by decide +kernel), WS_m 1298 (by decide +kernel), WS_m 38 (by decide +kernel)⟩
set_option maxRecDepth 100000 in
theorem cb_X11_number : CLB yX11_number cX11_number 4 (some .int) 1 := ⟨WS_m 1303 (by decide +kernel), WS_m 106 (by decide +kernel), ⟨by decide +kernel, by decide +kernel, by decide +kernel⟩, by decide⟩
set_option maxRecDepth 100000 in
theorem cl_X11_165 : CLV RX11 165 yX11_number cX11_number 4 (some .int) 1 := ⟨cb_X11_number, WS_m 1300 (by decide +kernel), WS_m 1302 (by decide +kernel), WS_m 39 (by decide +kernel)⟩
set_option maxRecDepth 100000 in
theorem cb_X11_look : CLB yX11_look cX11_look 1 (some .int) 0 := ⟨WS_m 1307 (by decide +kernel), WS_m 106 (by decide +kernel), ⟨by decide +kernel, by decide +kernel, by decide +kernel⟩, by decide⟩
set_option maxRecDepth 100000 in
theorem cl_X11_150 : CLV RX11 150 yX11_look cX11_look 1 (some .int) 0 := ⟨cb_X11_look, WS_m 1304 (by decide +kernel), WS_m 1306 (by decide +kernel), WS_m 40 (by decide +kernel)⟩
set_option maxRecDepth 100000 in
theorem cb_X11_wrong : CLB yX11_wrong cX11_wrong 2 none 1 := ⟨WS_m 1311 (by decide +kernel), WS_m 106 (by decide +kernel), ⟨by decide +kernel, by decide +kernel, by decide +kernel⟩, by decide⟩
set_option maxRecDepth 100000 in
theorem cl_X11_154 : CLV RX11 154 yX11_wrong cX11_wrong 2 none 1 := ⟨cb_X11_wrong, WS_m 1308 (by decide +kernel), WS_m 1310 (by decide +kernel), WS_m 41 (by decide +kernel)⟩
set_option maxRecDepth 100000 in
theorem cb_X11_isNext : CLB yX11_isNext cX11_isNext 2 (some .boolean) 1 := ⟨WS_m 1315 (by decide +kernel), WS_m 106 (by decide +kernel), ⟨by decide +kernel, by decide +kernel, by decide +kernel⟩, by decide⟩
set_option maxRecDepth 100000 in
theorem cl_X11_169 : CLV RX11 169 yX11_isNext cX11_isNext 2 (some .boolean) 1 := ⟨cb_X11_isNext, WS_m 1312 (by decide +kernel), WS_m 1314 (by decide +kernel), WS_m 42 (by decide +kernel)⟩
set_option maxRecDepth 100000 in
theorem cb_X11_readClause : CLB yX11_readClause cX11_readClause 5 (some .int) 2 := ⟨WS_m 1319 (by decide +kernel), WS_m 106 (by decide +kernel), ⟨by decide +kernel, by decide +kernel, by decide +kernel⟩, by decide⟩
set_option maxRecDepth 100000 in
theorem cl_X11_172 : CLV RX11 172 yX11_readClause cX11_readClause 5 (some .int) 2 := ⟨cb_X11_readClause, WS_m 1316 (by decide +kernel), WS_m 1318 (by decide +kernel), WS_m 43 (by decide +kernel)⟩
set_option maxRecDepth 100000 in
theorem cb_X11_isClause : CLB yX11_isClause cX11_isClause 1 (some .boolean) 1 := ⟨WS_m 1322 (by decide +kernel), WS_m 106 (by decide +kernel), ⟨by decide +kernel, by decide +kernel, by decide +kernel⟩, by decide⟩
set_option maxRecDepth 100000 in
theorem cl_X11_158 : CLS RX11 158 yX11_isClause cX11_isClause 1 (some .boolean) 1 := ⟨cb_X11_isClause, WS_m 1320 (by decide +kernel), WS_m 1321 (by decide +kernel)⟩
set_option maxRecDepth 100000 in
theorem cb_X11_isForm : CLB yX11_isForm cX11_isForm 1 (some .boolean) 1 := ⟨WS_m 1325 (by decide +kernel), WS_m 106 (by decide +kernel), ⟨by decide +kernel, by decide +kernel, by decide +kernel⟩, by decide⟩
set_option maxRecDepth 100000 in
theorem cl_X11_162 : CLS RX11 162 yX11_isForm cX11_isForm 1 (some .boolean) 1 := ⟨cb_X11_isForm, WS_m 1323 (by decide +kernel), WS_m 1324 (by decide +kernel)⟩
set_option maxRecDepth 100000 in
theorem cb_X11_lost : CLB yX11_lost cX11_lost 1 (some .int) 0 := ⟨WS_m 1329 (by decide +kernel), WS_m 106 (by decide +kernel), ⟨by decide +kernel, by decide +kernel, by decide +kernel⟩, by decide⟩
set_option maxRecDepth 100000 in
theorem cl_L_26 : CLV RL 26 yX11_lost cX11_lost 1 (some .int) 0 := ⟨cb_X11_lost, WS_m 1326 (by decide +kernel), WS_m 1327 (by decide +kernel), WS_m 1328 (by decide +kernel)⟩
set_option maxRecDepth 100000 in
theorem cb_X11_ofCharter : CLB yX11_ofCharter cX11_ofCharter 3 (some .int) 2 := ⟨WS_m 1333 (by decide +kernel), WS_m 106 (by decide +kernel), ⟨by decide +kernel, by decide +kernel, by decide +kernel⟩, by decide⟩
set_option maxRecDepth 100000 in
theorem cl_L_30 : CLV RL 30 yX11_ofCharter cX11_ofCharter 3 (some .int) 2 := ⟨cb_X11_ofCharter, WS_m 1330 (by decide +kernel), WS_m 1331 (by decide +kernel), WS_m 1332 (by decide +kernel)⟩
set_option maxRecDepth 100000 in
theorem cb_X11_isCharter : CLB yX11_isCharter cX11_isCharter 2 (some .boolean) 1 := ⟨WS_m 1337 (by decide +kernel), WS_m 106 (by decide +kernel), ⟨by decide +kernel, by decide +kernel, by decide +kernel⟩, by decide⟩
set_option maxRecDepth 100000 in
theorem cl_X11_182 : CLV RX11 182 yX11_isCharter cX11_isCharter 2 (some .boolean) 1 := ⟨cb_X11_isCharter, WS_m 1334 (by decide +kernel), WS_m 1336 (by decide +kernel), WS_m 44 (by decide +kernel)⟩
set_option maxRecDepth 100000 in
theorem cb_X11_undo : CLB yX11_undo cX11_undo 1 (some .int) 0 := ⟨WS_m 1341 (by decide +kernel), WS_m 106 (by decide +kernel), ⟨by decide +kernel, by decide +kernel, by decide +kernel⟩, by decide⟩
set_option maxRecDepth 100000 in
theorem cl_L_129 : CLV RL 129 yX11_undo cX11_undo 1 (some .int) 0 := ⟨cb_X11_undo, WS_m 1338 (by decide +kernel), WS_m 1339 (by decide +kernel), WS_m 1340 (by decide +kernel)⟩
set_option maxRecDepth 100000 in
theorem cb_X11_set : CLB yX11_set cX11_set 4 none 3 := ⟨WS_m 1345 (by decide +kernel), WS_m 106 (by decide +kernel), ⟨by decide +kernel, by decide +kernel, by decide +kernel⟩, by decide⟩
set_option maxRecDepth 100000 in
theorem cl_X11_194 : CLV RX11 194 yX11_set cX11_set 4 none 3 := ⟨cb_X11_set, WS_m 1342 (by decide +kernel), WS_m 1344 (by decide +kernel), WS_m 45 (by decide +kernel)⟩
set_option maxRecDepth 100000 in
theorem cb_X11_redo : CLB yX11_redo cX11_redo 1 (some .int) 0 := ⟨WS_m 1349 (by decide +kernel), WS_m 106 (by decide +kernel), ⟨by decide +kernel, by decide +kernel, by decide +kernel⟩, by decide⟩
set_option maxRecDepth 100000 in
theorem cl_L_133 : CLV RL 133 yX11_redo cX11_redo 1 (some .int) 0 := ⟨cb_X11_redo, WS_m 1346 (by decide +kernel), WS_m 1347 (by decide +kernel), WS_m 1348 (by decide +kernel)⟩
set_option maxRecDepth 100000 in
theorem cb_X11_form : CLB yX11_form cX11_form 4 (some .int) 3 := ⟨WS_m 1353 (by decide +kernel), WS_m 106 (by decide +kernel), ⟨by decide +kernel, by decide +kernel, by decide +kernel⟩, by decide⟩
set_option maxRecDepth 100000 in
theorem cl_L_35 : CLV RL 35 yX11_form cX11_form 4 (some .int) 3 := ⟨cb_X11_form, WS_m 1350 (by decide +kernel), WS_m 1351 (by decide +kernel), WS_m 1352 (by decide +kernel)⟩
set_option maxRecDepth 100000 in
theorem cb_X11_changes : CLB yX11_changes cX11_changes 6 (some .int) 3 := ⟨WS_m 1357 (by decide +kernel), WS_m 106 (by decide +kernel), ⟨by decide +kernel, by decide +kernel, by decide +kernel⟩, by decide⟩
set_option maxRecDepth 100000 in
theorem cl_X11_202 : CLV RX11 202 yX11_changes cX11_changes 6 (some .int) 3 := ⟨cb_X11_changes, WS_m 1354 (by decide +kernel), WS_m 1356 (by decide +kernel), WS_m 46 (by decide +kernel)⟩
set_option maxRecDepth 100000 in
theorem cb_X11_valueAt : CLB yX11_valueAt cX11_valueAt 3 (some .int) 2 := ⟨WS_m 1361 (by decide +kernel), WS_m 106 (by decide +kernel), ⟨by decide +kernel, by decide +kernel, by decide +kernel⟩, by decide⟩
set_option maxRecDepth 100000 in
theorem cl_X11_185 : CLV RX11 185 yX11_valueAt cX11_valueAt 3 (some .int) 2 := ⟨cb_X11_valueAt, WS_m 1358 (by decide +kernel), WS_m 1360 (by decide +kernel), WS_m 47 (by decide +kernel)⟩
set_option maxRecDepth 100000 in
theorem cb_X11_forms : CLB yX11_forms cX11_forms 8 (some .int) 4 := ⟨WS_m 1365 (by decide +kernel), WS_m 106 (by decide +kernel), ⟨by decide +kernel, by decide +kernel, by decide +kernel⟩, by decide⟩
set_option maxRecDepth 100000 in
theorem cl_L_40 : CLV RL 40 yX11_forms cX11_forms 8 (some .int) 4 := ⟨cb_X11_forms, WS_m 1362 (by decide +kernel), WS_m 1363 (by decide +kernel), WS_m 1364 (by decide +kernel)⟩
set_option maxRecDepth 100000 in
theorem cb_X11_isShelf : CLB yX11_isShelf cX11_isShelf 1 (some .boolean) 1 := ⟨WS_m 1368 (by decide +kernel), WS_m 106 (by decide +kernel), ⟨by decide +kernel, by decide +kernel, by decide +kernel⟩, by decide⟩
set_option maxRecDepth 100000 in
theorem cl_X11_206 : CLS RX11 206 yX11_isShelf cX11_isShelf 1 (some .boolean) 1 := ⟨cb_X11_isShelf, WS_m 1366 (by decide +kernel), WS_m 1367 (by decide +kernel)⟩
set_option maxRecDepth 100000 in
theorem cb_X11_price : CLB yX11_price cX11_price 3 (some .int) 2 := ⟨WS_m 1372 (by decide +kernel), WS_m 106 (by decide +kernel), ⟨by decide +kernel, by decide +kernel, by decide +kernel⟩, by decide⟩
set_option maxRecDepth 100000 in
theorem cl_L_44 : CLV RL 44 yX11_price cX11_price 3 (some .int) 2 := ⟨cb_X11_price, WS_m 1369 (by decide +kernel), WS_m 1370 (by decide +kernel), WS_m 1371 (by decide +kernel)⟩
set_option maxRecDepth 100000 in
theorem cb_X11_same : CLB yX11_same cX11_same 9 (some .int) 3 := ⟨WS_m 1376 (by decide +kernel), WS_m 106 (by decide +kernel), ⟨by decide +kernel, by decide +kernel, by decide +kernel⟩, by decide⟩
set_option maxRecDepth 100000 in
theorem cl_L_48 : CLV RL 48 yX11_same cX11_same 9 (some .int) 3 := ⟨cb_X11_same, WS_m 1373 (by decide +kernel), WS_m 1374 (by decide +kernel), WS_m 1375 (by decide +kernel)⟩
set_option maxRecDepth 100000 in
theorem cb_X11_digest : CLB yX11_digest cX11_digest 4 (some .int) 0 := ⟨WS_m 1380 (by decide +kernel), WS_m 106 (by decide +kernel), ⟨by decide +kernel, by decide +kernel, by decide +kernel⟩, by decide⟩
set_option maxRecDepth 100000 in
theorem cl_L_137 : CLV RL 137 yX11_digest cX11_digest 4 (some .int) 0 := ⟨cb_X11_digest, WS_m 1377 (by decide +kernel), WS_m 1378 (by decide +kernel), WS_m 1379 (by decide +kernel)⟩
set_option maxRecDepth 100000 in
theorem cb_X11_mother : CLB yX11_mother cX11_mother 3 (some .int) 2 := ⟨WS_m 1384 (by decide +kernel), WS_m 106 (by decide +kernel), ⟨by decide +kernel, by decide +kernel, by decide +kernel⟩, by decide⟩
set_option maxRecDepth 100000 in
theorem cl_L_52 : CLV RL 52 yX11_mother cX11_mother 3 (some .int) 2 := ⟨cb_X11_mother, WS_m 1381 (by decide +kernel), WS_m 1382 (by decide +kernel), WS_m 1383 (by decide +kernel)⟩
set_option maxRecDepth 100000 in
theorem kw_X11_209 : Cond.constant RX11 209 (Int32.ofInt (-2000000000)) ∈ WS := WS_m 1385 (by decide +kernel)
set_option maxRecDepth 100000 in
theorem cb_X11_isAbove : CLB yX11_isAbove cX11_isAbove 4 (some .boolean) 2 := ⟨WS_m 1389 (by decide +kernel), WS_m 106 (by decide +kernel), ⟨by decide +kernel, by decide +kernel, by decide +kernel⟩, by decide⟩
set_option maxRecDepth 100000 in
theorem cl_X11_210 : CLV RX11 210 yX11_isAbove cX11_isAbove 4 (some .boolean) 2 := ⟨cb_X11_isAbove, WS_m 1386 (by decide +kernel), WS_m 1388 (by decide +kernel), WS_m 48 (by decide +kernel)⟩
set_option maxRecDepth 100000 in
theorem cb_X11_cost : CLB yX11_cost cX11_cost 4 (some .int) 1 := ⟨WS_m 1393 (by decide +kernel), WS_m 106 (by decide +kernel), ⟨by decide +kernel, by decide +kernel, by decide +kernel⟩, by decide⟩
set_option maxRecDepth 100000 in
theorem cl_L_57 : CLV RL 57 yX11_cost cX11_cost 4 (some .int) 1 := ⟨cb_X11_cost, WS_m 1390 (by decide +kernel), WS_m 1391 (by decide +kernel), WS_m 1392 (by decide +kernel)⟩
set_option maxRecDepth 100000 in
theorem cb_X11_lookAtAll : CLB yX11_lookAtAll cX11_lookAtAll 2 none 0 := ⟨WS_m 1397 (by decide +kernel), WS_m 106 (by decide +kernel), ⟨by decide +kernel, by decide +kernel, by decide +kernel⟩, by decide⟩
set_option maxRecDepth 100000 in
theorem cl_X11_239 : CLV RX11 239 yX11_lookAtAll cX11_lookAtAll 2 none 0 := ⟨cb_X11_lookAtAll, WS_m 1394 (by decide +kernel), WS_m 1396 (by decide +kernel), WS_m 49 (by decide +kernel)⟩
set_option maxRecDepth 100000 in
theorem cb_X11_findOrder : CLB yX11_findOrder cX11_findOrder 3 none 0 := ⟨WS_m 1401 (by decide +kernel), WS_m 106 (by decide +kernel), ⟨by decide +kernel, by decide +kernel, by decide +kernel⟩, by decide⟩
set_option maxRecDepth 100000 in
theorem cl_X11_236 : CLV RX11 236 yX11_findOrder cX11_findOrder 3 none 0 := ⟨cb_X11_findOrder, WS_m 1398 (by decide +kernel), WS_m 1400 (by decide +kernel), WS_m 50 (by decide +kernel)⟩
set_option maxRecDepth 100000 in
theorem cb_X11_isOrdered : CLB yX11_isOrdered cX11_isOrdered 3 (some .boolean) 1 := ⟨WS_m 1405 (by decide +kernel), WS_m 106 (by decide +kernel), ⟨by decide +kernel, by decide +kernel, by decide +kernel⟩, by decide⟩
set_option maxRecDepth 100000 in
theorem cl_X11_217 : CLV RX11 217 yX11_isOrdered cX11_isOrdered 3 (some .boolean) 1 := ⟨cb_X11_isOrdered, WS_m 1402 (by decide +kernel), WS_m 1404 (by decide +kernel), WS_m 51 (by decide +kernel)⟩
set_option maxRecDepth 100000 in
theorem cb_X11_costOf : CLB yX11_costOf cX11_costOf 8 (some .int) 1 := ⟨WS_m 1409 (by decide +kernel), WS_m 106 (by decide +kernel), ⟨by decide +kernel, by decide +kernel, by decide +kernel⟩, by decide⟩
set_option maxRecDepth 100000 in
theorem cl_X11_242 : CLV RX11 242 yX11_costOf cX11_costOf 8 (some .int) 1 := ⟨cb_X11_costOf, WS_m 1406 (by decide +kernel), WS_m 1408 (by decide +kernel), WS_m 52 (by decide +kernel)⟩
set_option maxRecDepth 100000 in
theorem cb_X11_mayBe : CLB yX11_mayBe cX11_mayBe 5 (some .boolean) 3 := ⟨WS_m 1413 (by decide +kernel), WS_m 106 (by decide +kernel), ⟨by decide +kernel, by decide +kernel, by decide +kernel⟩, by decide⟩
set_option maxRecDepth 100000 in
theorem cl_X11_230 : CLV RX11 230 yX11_mayBe cX11_mayBe 5 (some .boolean) 3 := ⟨cb_X11_mayBe, WS_m 1410 (by decide +kernel), WS_m 1412 (by decide +kernel), WS_m 53 (by decide +kernel)⟩
set_option maxRecDepth 100000 in
theorem kw_X11_223 : Cond.constant RX11 223 (Int32.ofInt (1000000)) ∈ WS := WS_m 1414 (by decide +kernel)
set_option maxRecDepth 100000 in
theorem cb_X11_leastFrom : CLB yX11_leastFrom cX11_leastFrom 5 (some .int) 2 := ⟨WS_m 1418 (by decide +kernel), WS_m 106 (by decide +kernel), ⟨by decide +kernel, by decide +kernel, by decide +kernel⟩, by decide⟩
set_option maxRecDepth 100000 in
theorem cl_X11_233 : CLV RX11 233 yX11_leastFrom cX11_leastFrom 5 (some .int) 2 := ⟨cb_X11_leastFrom, WS_m 1415 (by decide +kernel), WS_m 1417 (by decide +kernel), WS_m 54 (by decide +kernel)⟩
set_option maxRecDepth 100000 in
theorem cb_X11_priceOf : CLB yX11_priceOf cX11_priceOf 3 (some .int) 2 := ⟨WS_m 1422 (by decide +kernel), WS_m 106 (by decide +kernel), ⟨by decide +kernel, by decide +kernel, by decide +kernel⟩, by decide⟩
set_option maxRecDepth 100000 in
theorem cl_X11_224 : CLV RX11 224 yX11_priceOf cX11_priceOf 3 (some .int) 2 := ⟨cb_X11_priceOf, WS_m 1419 (by decide +kernel), WS_m 1421 (by decide +kernel), WS_m 55 (by decide +kernel)⟩
set_option maxRecDepth 100000 in
theorem cb_X11_lesser : CLB yX11_lesser cX11_lesser 2 (some .int) 2 := ⟨WS_m 1425 (by decide +kernel), WS_m 106 (by decide +kernel), ⟨by decide +kernel, by decide +kernel, by decide +kernel⟩, by decide⟩
set_option maxRecDepth 100000 in
theorem cl_X11_227 : CLS RX11 227 yX11_lesser cX11_lesser 2 (some .int) 2 := ⟨cb_X11_lesser, WS_m 1423 (by decide +kernel), WS_m 1424 (by decide +kernel)⟩
set_option maxRecDepth 100000 in
theorem cb_X11_filled : CLB yX11_filled cX11_filled 3 (some .int) 2 := ⟨WS_m 1429 (by decide +kernel), WS_m 106 (by decide +kernel), ⟨by decide +kernel, by decide +kernel, by decide +kernel⟩, by decide⟩
set_option maxRecDepth 100000 in
theorem cl_L_61 : CLV RL 61 yX11_filled cX11_filled 3 (some .int) 2 := ⟨cb_X11_filled, WS_m 1426 (by decide +kernel), WS_m 1427 (by decide +kernel), WS_m 1428 (by decide +kernel)⟩
set_option maxRecDepth 100000 in
theorem cb_X11_filledBy : CLB yX11_filledBy cX11_filledBy 6 (some .int) 2 := ⟨WS_m 1433 (by decide +kernel), WS_m 106 (by decide +kernel), ⟨by decide +kernel, by decide +kernel, by decide +kernel⟩, by decide⟩
set_option maxRecDepth 100000 in
theorem cl_X11_248 : CLV RX11 248 yX11_filledBy cX11_filledBy 6 (some .int) 2 := ⟨cb_X11_filledBy, WS_m 1430 (by decide +kernel), WS_m 1432 (by decide +kernel), WS_m 56 (by decide +kernel)⟩
set_option maxRecDepth 100000 in
theorem cb_X11_findBeyond : CLB yX11_findBeyond cX11_findBeyond 7 none 0 := ⟨WS_m 1437 (by decide +kernel), WS_m 106 (by decide +kernel), ⟨by decide +kernel, by decide +kernel, by decide +kernel⟩, by decide⟩
set_option maxRecDepth 100000 in
theorem cl_X11_245 : CLV RX11 245 yX11_findBeyond cX11_findBeyond 7 none 0 := ⟨cb_X11_findBeyond, WS_m 1434 (by decide +kernel), WS_m 1436 (by decide +kernel), WS_m 57 (by decide +kernel)⟩
set_option maxRecDepth 100000 in
theorem cb_X11_law : CLB yX11_law cX11_law 4 (some .int) 2 := ⟨WS_m 1441 (by decide +kernel), WS_m 106 (by decide +kernel), ⟨by decide +kernel, by decide +kernel, by decide +kernel⟩, by decide⟩
set_option maxRecDepth 100000 in
theorem cl_L_113 : CLV RL 113 yX11_law cX11_law 4 (some .int) 2 := ⟨cb_X11_law, WS_m 1438 (by decide +kernel), WS_m 1439 (by decide +kernel), WS_m 1440 (by decide +kernel)⟩
set_option maxRecDepth 100000 in
theorem cb_X11_days : CLB yX11_days cX11_days 4 (some .int) 2 := ⟨WS_m 1445 (by decide +kernel), WS_m 106 (by decide +kernel), ⟨by decide +kernel, by decide +kernel, by decide +kernel⟩, by decide⟩
set_option maxRecDepth 100000 in
theorem cl_L_65 : CLV RL 65 yX11_days cX11_days 4 (some .int) 2 := ⟨cb_X11_days, WS_m 1442 (by decide +kernel), WS_m 1443 (by decide +kernel), WS_m 1444 (by decide +kernel)⟩
set_option maxRecDepth 100000 in
theorem cb_X11_findDays : CLB yX11_findDays cX11_findDays 4 (some .int) 0 := ⟨WS_m 1449 (by decide +kernel), WS_m 106 (by decide +kernel), ⟨by decide +kernel, by decide +kernel, by decide +kernel⟩, by decide⟩
set_option maxRecDepth 100000 in
theorem cl_X11_254 : CLV RX11 254 yX11_findDays cX11_findDays 4 (some .int) 0 := ⟨cb_X11_findDays, WS_m 1446 (by decide +kernel), WS_m 1448 (by decide +kernel), WS_m 58 (by decide +kernel)⟩
set_option maxRecDepth 100000 in
theorem cb_X11_greater : CLB yX11_greater cX11_greater 2 (some .int) 2 := ⟨WS_m 1452 (by decide +kernel), WS_m 106 (by decide +kernel), ⟨by decide +kernel, by decide +kernel, by decide +kernel⟩, by decide⟩
set_option maxRecDepth 100000 in
theorem cl_X11_251 : CLS RX11 251 yX11_greater cX11_greater 2 (some .int) 2 := ⟨cb_X11_greater, WS_m 1450 (by decide +kernel), WS_m 1451 (by decide +kernel)⟩
set_option maxRecDepth 100000 in
theorem cb_X11_list : CLB yX11_list cX11_list 2 (some .int) 1 := ⟨WS_m 1456 (by decide +kernel), WS_m 106 (by decide +kernel), ⟨by decide +kernel, by decide +kernel, by decide +kernel⟩, by decide⟩
set_option maxRecDepth 100000 in
theorem cl_L_69 : CLV RL 69 yX11_list cX11_list 2 (some .int) 1 := ⟨cb_X11_list, WS_m 1453 (by decide +kernel), WS_m 1454 (by decide +kernel), WS_m 1455 (by decide +kernel)⟩
set_option maxRecDepth 100000 in
theorem cb_X11_placeOf : CLB yX11_placeOf cX11_placeOf 3 (some .int) 1 := ⟨WS_m 1460 (by decide +kernel), WS_m 106 (by decide +kernel), ⟨by decide +kernel, by decide +kernel, by decide +kernel⟩, by decide⟩
set_option maxRecDepth 100000 in
theorem cl_X11_257 : CLV RX11 257 yX11_placeOf cX11_placeOf 3 (some .int) 1 := ⟨cb_X11_placeOf, WS_m 1457 (by decide +kernel), WS_m 1459 (by decide +kernel), WS_m 59 (by decide +kernel)⟩
set_option maxRecDepth 100000 in
theorem cb_X11_unlist : CLB yX11_unlist cX11_unlist 2 (some .int) 0 := ⟨WS_m 1464 (by decide +kernel), WS_m 106 (by decide +kernel), ⟨by decide +kernel, by decide +kernel, by decide +kernel⟩, by decide⟩
set_option maxRecDepth 100000 in
theorem cl_L_73 : CLV RL 73 yX11_unlist cX11_unlist 2 (some .int) 0 := ⟨cb_X11_unlist, WS_m 1461 (by decide +kernel), WS_m 1462 (by decide +kernel), WS_m 1463 (by decide +kernel)⟩
set_option maxRecDepth 100000 in
theorem cb_X11_best : CLB yX11_best cX11_best 5 (some .int) 1 := ⟨WS_m 1468 (by decide +kernel), WS_m 106 (by decide +kernel), ⟨by decide +kernel, by decide +kernel, by decide +kernel⟩, by decide⟩
set_option maxRecDepth 100000 in
theorem cl_L_77 : CLV RL 77 yX11_best cX11_best 5 (some .int) 1 := ⟨cb_X11_best, WS_m 1465 (by decide +kernel), WS_m 1466 (by decide +kernel), WS_m 1467 (by decide +kernel)⟩
set_option maxRecDepth 100000 in
theorem cb_X11_boundNow : CLB yX11_boundNow cX11_boundNow 6 (some .int) 0 := ⟨WS_m 1472 (by decide +kernel), WS_m 106 (by decide +kernel), ⟨by decide +kernel, by decide +kernel, by decide +kernel⟩, by decide⟩
set_option maxRecDepth 100000 in
theorem cl_X11_280 : CLV RX11 280 yX11_boundNow cX11_boundNow 6 (some .int) 0 := ⟨cb_X11_boundNow, WS_m 1469 (by decide +kernel), WS_m 1471 (by decide +kernel), WS_m 60 (by decide +kernel)⟩
set_option maxRecDepth 100000 in
theorem cb_X11_findBest : CLB yX11_findBest cX11_findBest 1 none 0 := ⟨WS_m 1476 (by decide +kernel), WS_m 106 (by decide +kernel), ⟨by decide +kernel, by decide +kernel, by decide +kernel⟩, by decide⟩
set_option maxRecDepth 100000 in
theorem cl_X11_283 : CLV RX11 283 yX11_findBest cX11_findBest 1 none 0 := ⟨cb_X11_findBest, WS_m 1473 (by decide +kernel), WS_m 1475 (by decide +kernel), WS_m 61 (by decide +kernel)⟩
set_option maxRecDepth 100000 in
theorem cb_X11_mothersFrom : CLB yX11_mothersFrom cX11_mothersFrom 4 none 2 := ⟨WS_m 1480 (by decide +kernel), WS_m 106 (by decide +kernel), ⟨by decide +kernel, by decide +kernel, by decide +kernel⟩, by decide⟩
set_option maxRecDepth 100000 in
theorem cl_X11_276 : CLV RX11 276 yX11_mothersFrom cX11_mothersFrom 4 none 2 := ⟨cb_X11_mothersFrom, WS_m 1477 (by decide +kernel), WS_m 1479 (by decide +kernel), WS_m 62 (by decide +kernel)⟩
set_option maxRecDepth 100000 in
theorem cb_X11_weigh : CLB yX11_weigh cX11_weigh 4 none 0 := ⟨WS_m 1484 (by decide +kernel), WS_m 106 (by decide +kernel), ⟨by decide +kernel, by decide +kernel, by decide +kernel⟩, by decide⟩
set_option maxRecDepth 100000 in
theorem cl_X11_273 : CLV RX11 273 yX11_weigh cX11_weigh 4 none 0 := ⟨cb_X11_weigh, WS_m 1481 (by decide +kernel), WS_m 1483 (by decide +kernel), WS_m 63 (by decide +kernel)⟩
set_option maxRecDepth 100000 in
theorem cb_X11_isOneTree : CLB yX11_isOneTree cX11_isOneTree 4 (some .boolean) 0 := ⟨WS_m 1488 (by decide +kernel), WS_m 106 (by decide +kernel), ⟨by decide +kernel, by decide +kernel, by decide +kernel⟩, by decide⟩
set_option maxRecDepth 100000 in
theorem cl_X11_263 : CLV RX11 263 yX11_isOneTree cX11_isOneTree 4 (some .boolean) 0 := ⟨cb_X11_isOneTree, WS_m 1485 (by decide +kernel), WS_m 1487 (by decide +kernel), WS_m 64 (by decide +kernel)⟩
set_option maxRecDepth 100000 in
theorem cb_X11_tree : CLB yX11_tree cX11_tree 5 (some .int) 2 := ⟨WS_m 1492 (by decide +kernel), WS_m 106 (by decide +kernel), ⟨by decide +kernel, by decide +kernel, by decide +kernel⟩, by decide⟩
set_option maxRecDepth 100000 in
theorem cl_L_81 : CLV RL 81 yX11_tree cX11_tree 5 (some .int) 2 := ⟨cb_X11_tree, WS_m 1489 (by decide +kernel), WS_m 1490 (by decide +kernel), WS_m 1491 (by decide +kernel)⟩
set_option maxRecDepth 100000 in
theorem cb_X11_never : CLB yX11_never cX11_never 4 (some .int) 1 := ⟨WS_m 1496 (by decide +kernel), WS_m 106 (by decide +kernel), ⟨by decide +kernel, by decide +kernel, by decide +kernel⟩, by decide⟩
set_option maxRecDepth 100000 in
theorem cl_L_85 : CLV RL 85 yX11_never cX11_never 4 (some .int) 1 := ⟨cb_X11_never, WS_m 1493 (by decide +kernel), WS_m 1494 (by decide +kernel), WS_m 1495 (by decide +kernel)⟩
set_option maxRecDepth 100000 in
theorem cb_X11_claim : CLB yX11_claim cX11_claim 3 (some .int) 1 := ⟨WS_m 1500 (by decide +kernel), WS_m 106 (by decide +kernel), ⟨by decide +kernel, by decide +kernel, by decide +kernel⟩, by decide⟩
set_option maxRecDepth 100000 in
theorem cl_L_89 : CLV RL 89 yX11_claim cX11_claim 3 (some .int) 1 := ⟨cb_X11_claim, WS_m 1497 (by decide +kernel), WS_m 1498 (by decide +kernel), WS_m 1499 (by decide +kernel)⟩
set_option maxRecDepth 100000 in
theorem cb_X11_few : CLB yX11_few cX11_few 7 (some .int) 1 := ⟨WS_m 1504 (by decide +kernel), WS_m 106 (by decide +kernel), ⟨by decide +kernel, by decide +kernel, by decide +kernel⟩, by decide⟩
set_option maxRecDepth 100000 in
theorem cl_L_93 : CLV RL 93 yX11_few cX11_few 7 (some .int) 1 := ⟨cb_X11_few, WS_m 1501 (by decide +kernel), WS_m 1502 (by decide +kernel), WS_m 1503 (by decide +kernel)⟩
set_option maxRecDepth 100000 in
theorem cb_X11_fillAll : CLB yX11_fillAll cX11_fillAll 5 none 0 := ⟨WS_m 1508 (by decide +kernel), WS_m 106 (by decide +kernel), ⟨by decide +kernel, by decide +kernel, by decide +kernel⟩, by decide⟩
set_option maxRecDepth 100000 in
theorem cl_X11_304 : CLV RX11 304 yX11_fillAll cX11_fillAll 5 none 0 := ⟨cb_X11_fillAll, WS_m 1505 (by decide +kernel), WS_m 1507 (by decide +kernel), WS_m 65 (by decide +kernel)⟩
set_option maxRecDepth 100000 in
theorem cb_X11_findChapter : CLB yX11_findChapter cX11_findChapter 4 none 2 := ⟨WS_m 1512 (by decide +kernel), WS_m 106 (by decide +kernel), ⟨by decide +kernel, by decide +kernel, by decide +kernel⟩, by decide⟩
set_option maxRecDepth 100000 in
theorem cl_X11_307 : CLV RX11 307 yX11_findChapter cX11_findChapter 4 none 2 := ⟨cb_X11_findChapter, WS_m 1509 (by decide +kernel), WS_m 1511 (by decide +kernel), WS_m 66 (by decide +kernel)⟩
set_option maxRecDepth 100000 in
theorem cb_X11_tryChapter : CLB yX11_tryChapter cX11_tryChapter 8 none 3 := ⟨WS_m 1516 (by decide +kernel), WS_m 106 (by decide +kernel), ⟨by decide +kernel, by decide +kernel, by decide +kernel⟩, by decide⟩
set_option maxRecDepth 100000 in
theorem cl_X11_301 : CLV RX11 301 yX11_tryChapter cX11_tryChapter 8 none 3 := ⟨cb_X11_tryChapter, WS_m 1513 (by decide +kernel), WS_m 1515 (by decide +kernel), WS_m 67 (by decide +kernel)⟩
set_option maxRecDepth 100000 in
theorem cb_X11_isAlike : CLB yX11_isAlike cX11_isAlike 4 (some .boolean) 3 := ⟨WS_m 1520 (by decide +kernel), WS_m 106 (by decide +kernel), ⟨by decide +kernel, by decide +kernel, by decide +kernel⟩, by decide⟩
set_option maxRecDepth 100000 in
theorem cl_X11_289 : CLV RX11 289 yX11_isAlike cX11_isAlike 4 (some .boolean) 3 := ⟨cb_X11_isAlike, WS_m 1517 (by decide +kernel), WS_m 1519 (by decide +kernel), WS_m 68 (by decide +kernel)⟩
set_option maxRecDepth 100000 in
theorem cb_X11_baseOf : CLB yX11_baseOf cX11_baseOf 3 (some .int) 2 := ⟨WS_m 1524 (by decide +kernel), WS_m 106 (by decide +kernel), ⟨by decide +kernel, by decide +kernel, by decide +kernel⟩, by decide⟩
set_option maxRecDepth 100000 in
theorem cl_X11_292 : CLV RX11 292 yX11_baseOf cX11_baseOf 3 (some .int) 2 := ⟨cb_X11_baseOf, WS_m 1521 (by decide +kernel), WS_m 1523 (by decide +kernel), WS_m 69 (by decide +kernel)⟩
set_option maxRecDepth 100000 in
theorem cb_X11_canBorrow : CLB yX11_canBorrow cX11_canBorrow 4 (some .boolean) 2 := ⟨WS_m 1528 (by decide +kernel), WS_m 106 (by decide +kernel), ⟨by decide +kernel, by decide +kernel, by decide +kernel⟩, by decide⟩
set_option maxRecDepth 100000 in
theorem cl_X11_295 : CLV RX11 295 yX11_canBorrow cX11_canBorrow 4 (some .boolean) 2 := ⟨cb_X11_canBorrow, WS_m 1525 (by decide +kernel), WS_m 1527 (by decide +kernel), WS_m 70 (by decide +kernel)⟩
set_option maxRecDepth 100000 in
theorem cb_X11_canLend : CLB yX11_canLend cX11_canLend 3 (some .boolean) 2 := ⟨WS_m 1532 (by decide +kernel), WS_m 106 (by decide +kernel), ⟨by decide +kernel, by decide +kernel, by decide +kernel⟩, by decide⟩
set_option maxRecDepth 100000 in
theorem cl_X11_286 : CLV RX11 286 yX11_canLend cX11_canLend 3 (some .boolean) 2 := ⟨cb_X11_canLend, WS_m 1529 (by decide +kernel), WS_m 1531 (by decide +kernel), WS_m 71 (by decide +kernel)⟩
set_option maxRecDepth 100000 in
theorem cb_X11_addGain : CLB yX11_addGain cX11_addGain 4 none 2 := ⟨WS_m 1536 (by decide +kernel), WS_m 106 (by decide +kernel), ⟨by decide +kernel, by decide +kernel, by decide +kernel⟩, by decide⟩
set_option maxRecDepth 100000 in
theorem cl_X11_298 : CLV RX11 298 yX11_addGain cX11_addGain 4 none 2 := ⟨cb_X11_addGain, WS_m 1533 (by decide +kernel), WS_m 1535 (by decide +kernel), WS_m 72 (by decide +kernel)⟩
set_option maxRecDepth 100000 in
theorem cb_X11_from : CLB yX11_from cX11_from 4 (some .int) 2 := ⟨WS_m 1540 (by decide +kernel), WS_m 106 (by decide +kernel), ⟨by decide +kernel, by decide +kernel, by decide +kernel⟩, by decide⟩
set_option maxRecDepth 100000 in
theorem cl_L_97 : CLV RL 97 yX11_from cX11_from 4 (some .int) 2 := ⟨cb_X11_from, WS_m 1537 (by decide +kernel), WS_m 1538 (by decide +kernel), WS_m 1539 (by decide +kernel)⟩
set_option maxRecDepth 100000 in
theorem cb_X11_cameIn : CLB yX11_cameIn cX11_cameIn 4 (some .int) 2 := ⟨WS_m 1544 (by decide +kernel), WS_m 106 (by decide +kernel), ⟨by decide +kernel, by decide +kernel, by decide +kernel⟩, by decide⟩
set_option maxRecDepth 100000 in
theorem cl_L_117 : CLV RL 117 yX11_cameIn cX11_cameIn 4 (some .int) 2 := ⟨cb_X11_cameIn, WS_m 1541 (by decide +kernel), WS_m 1542 (by decide +kernel), WS_m 1543 (by decide +kernel)⟩
set_option maxRecDepth 100000 in
theorem cb_X11_pairs : CLB yX11_pairs cX11_pairs 2 (some .int) 1 := ⟨WS_m 1548 (by decide +kernel), WS_m 106 (by decide +kernel), ⟨by decide +kernel, by decide +kernel, by decide +kernel⟩, by decide⟩
set_option maxRecDepth 100000 in
theorem cl_L_101 : CLV RL 101 yX11_pairs cX11_pairs 2 (some .int) 1 := ⟨cb_X11_pairs, WS_m 1545 (by decide +kernel), WS_m 1546 (by decide +kernel), WS_m 1547 (by decide +kernel)⟩
set_option maxRecDepth 100000 in
theorem cb_X11_findPairs : CLB yX11_findPairs cX11_findPairs 3 none 0 := ⟨WS_m 1552 (by decide +kernel), WS_m 106 (by decide +kernel), ⟨by decide +kernel, by decide +kernel, by decide +kernel⟩, by decide⟩
set_option maxRecDepth 100000 in
theorem cl_X11_316 : CLV RX11 316 yX11_findPairs cX11_findPairs 3 none 0 := ⟨cb_X11_findPairs, WS_m 1549 (by decide +kernel), WS_m 1551 (by decide +kernel), WS_m 73 (by decide +kernel)⟩
set_option maxRecDepth 100000 in
theorem cb_X11_doClash : CLB yX11_doClash cX11_doClash 7 (some .boolean) 2 := ⟨WS_m 1556 (by decide +kernel), WS_m 106 (by decide +kernel), ⟨by decide +kernel, by decide +kernel, by decide +kernel⟩, by decide⟩
set_option maxRecDepth 100000 in
theorem cl_X11_313 : CLV RX11 313 yX11_doClash cX11_doClash 7 (some .boolean) 2 := ⟨cb_X11_doClash, WS_m 1553 (by decide +kernel), WS_m 1555 (by decide +kernel), WS_m 74 (by decide +kernel)⟩
set_option maxRecDepth 100000 in
theorem cb_X11_freed : CLB yX11_freed cX11_freed 3 (some .int) 0 := ⟨WS_m 1560 (by decide +kernel), WS_m 106 (by decide +kernel), ⟨by decide +kernel, by decide +kernel, by decide +kernel⟩, by decide⟩
set_option maxRecDepth 100000 in
theorem cl_L_105 : CLV RL 105 yX11_freed cX11_freed 3 (some .int) 0 := ⟨cb_X11_freed, WS_m 1557 (by decide +kernel), WS_m 1558 (by decide +kernel), WS_m 1559 (by decide +kernel)⟩
set_option maxRecDepth 100000 in
theorem kw_X11_319 : Cond.constant RX11 319 (Int32.ofInt (65535)) ∈ WS := WS_m 1561 (by decide +kernel)
set_option maxRecDepth 100000 in
theorem kw_X11_320 : Cond.constant RX11 320 (Int32.ofInt (65536)) ∈ WS := WS_m 1562 (by decide +kernel)
set_option maxRecDepth 100000 in
theorem cb_X11_bitsOf : CLB yX11_bitsOf cX11_bitsOf 3 (some .int) 1 := ⟨WS_m 1565 (by decide +kernel), WS_m 106 (by decide +kernel), ⟨by decide +kernel, by decide +kernel, by decide +kernel⟩, by decide⟩
set_option maxRecDepth 100000 in
theorem cl_X11_321 : CLS RX11 321 yX11_bitsOf cX11_bitsOf 3 (some .int) 1 := ⟨cb_X11_bitsOf, WS_m 1563 (by decide +kernel), WS_m 1564 (by decide +kernel)⟩
set_option maxRecDepth 100000 in
theorem cb_X11_frees : CLB yX11_frees cX11_frees 3 (some .boolean) 1 := ⟨WS_m 1569 (by decide +kernel), WS_m 106 (by decide +kernel), ⟨by decide +kernel, by decide +kernel, by decide +kernel⟩, by decide⟩
set_option maxRecDepth 100000 in
theorem cl_X11_324 : CLV RX11 324 yX11_frees cX11_frees 3 (some .boolean) 1 := ⟨cb_X11_frees, WS_m 1566 (by decide +kernel), WS_m 1568 (by decide +kernel), WS_m 75 (by decide +kernel)⟩
set_option maxRecDepth 100000 in
theorem cb_X11_doubt : CLB yX11_doubt cX11_doubt 5 (some .int) 1 := ⟨WS_m 1573 (by decide +kernel), WS_m 106 (by decide +kernel), ⟨by decide +kernel, by decide +kernel, by decide +kernel⟩, by decide⟩
set_option maxRecDepth 100000 in
theorem cl_L_109 : CLV RL 109 yX11_doubt cX11_doubt 5 (some .int) 1 := ⟨cb_X11_doubt, WS_m 1570 (by decide +kernel), WS_m 1571 (by decide +kernel), WS_m 1572 (by decide +kernel)⟩
set_option maxRecDepth 100000 in
theorem cb_X11_doAgree : CLB yX11_doAgree cX11_doAgree 3 (some .boolean) 1 := ⟨WS_m 1577 (by decide +kernel), WS_m 106 (by decide +kernel), ⟨by decide +kernel, by decide +kernel, by decide +kernel⟩, by decide⟩
set_option maxRecDepth 100000 in
theorem cl_X11_327 : CLV RX11 327 yX11_doAgree cX11_doAgree 3 (some .boolean) 1 := ⟨cb_X11_doAgree, WS_m 1574 (by decide +kernel), WS_m 1576 (by decide +kernel), WS_m 76 (by decide +kernel)⟩
set_option maxRecDepth 100000 in
theorem cb_X11_slip : CLB yX11_slip cX11_slip 3 (some .int) 2 := ⟨WS_m 1581 (by decide +kernel), WS_m 106 (by decide +kernel), ⟨by decide +kernel, by decide +kernel, by decide +kernel⟩, by decide⟩
set_option maxRecDepth 100000 in
theorem cl_L_121 : CLV RL 121 yX11_slip cX11_slip 3 (some .int) 2 := ⟨cb_X11_slip, WS_m 1578 (by decide +kernel), WS_m 1579 (by decide +kernel), WS_m 1580 (by decide +kernel)⟩
set_option maxRecDepth 100000 in
theorem cb_X11_isNumber : CLB yX11_isNumber cX11_isNumber 1 (some .boolean) 1 := ⟨WS_m 1584 (by decide +kernel), WS_m 106 (by decide +kernel), ⟨by decide +kernel, by decide +kernel, by decide +kernel⟩, by decide⟩
set_option maxRecDepth 100000 in
theorem cl_X11_342 : CLS RX11 342 yX11_isNumber cX11_isNumber 1 (some .boolean) 1 := ⟨cb_X11_isNumber, WS_m 1582 (by decide +kernel), WS_m 1583 (by decide +kernel)⟩
set_option maxRecDepth 100000 in
theorem kw_X11_341 : Cond.constant RX11 341 (Int32.ofInt (99999)) ∈ WS := WS_m 1585 (by decide +kernel)
set_option maxRecDepth 100000 in
theorem cb_X11_slipOf : CLB yX11_slipOf cX11_slipOf 9 (some .int) 2 := ⟨WS_m 1589 (by decide +kernel), WS_m 106 (by decide +kernel), ⟨by decide +kernel, by decide +kernel, by decide +kernel⟩, by decide⟩
set_option maxRecDepth 100000 in
theorem cl_X11_345 : CLV RX11 345 yX11_slipOf cX11_slipOf 9 (some .int) 2 := ⟨cb_X11_slipOf, WS_m 1586 (by decide +kernel), WS_m 1588 (by decide +kernel), WS_m 77 (by decide +kernel)⟩
set_option maxRecDepth 100000 in
theorem cb_X11_digitsOf : CLB yX11_digitsOf cX11_digitsOf 5 (some .int) 2 := ⟨WS_m 1592 (by decide +kernel), WS_m 106 (by decide +kernel), ⟨by decide +kernel, by decide +kernel, by decide +kernel⟩, by decide⟩
set_option maxRecDepth 100000 in
theorem cl_X11_330 : CLS RX11 330 yX11_digitsOf cX11_digitsOf 5 (some .int) 2 := ⟨cb_X11_digitsOf, WS_m 1590 (by decide +kernel), WS_m 1591 (by decide +kernel)⟩
set_option maxRecDepth 100000 in
theorem cb_X11_isWithout : CLB yX11_isWithout cX11_isWithout 6 (some .boolean) 5 := ⟨WS_m 1595 (by decide +kernel), WS_m 106 (by decide +kernel), ⟨by decide +kernel, by decide +kernel, by decide +kernel⟩, by decide⟩
set_option maxRecDepth 100000 in
theorem cl_X11_334 : CLS RX11 334 yX11_isWithout cX11_isWithout 6 (some .boolean) 5 := ⟨cb_X11_isWithout, WS_m 1593 (by decide +kernel), WS_m 1594 (by decide +kernel)⟩
set_option maxRecDepth 100000 in
theorem cb_X11_looksLike : CLB yX11_looksLike cX11_looksLike 4 (some .boolean) 2 := ⟨WS_m 1598 (by decide +kernel), WS_m 106 (by decide +kernel), ⟨by decide +kernel, by decide +kernel, by decide +kernel⟩, by decide⟩
set_option maxRecDepth 100000 in
theorem cl_X11_338 : CLS RX11 338 yX11_looksLike cX11_looksLike 4 (some .boolean) 2 := ⟨cb_X11_looksLike, WS_m 1596 (by decide +kernel), WS_m 1597 (by decide +kernel)⟩
set_option maxRecDepth 100000 in
theorem cb_X11_chain : CLB yX11_chain cX11_chain 5 (some .int) 2 := ⟨WS_m 1602 (by decide +kernel), WS_m 106 (by decide +kernel), ⟨by decide +kernel, by decide +kernel, by decide +kernel⟩, by decide⟩
set_option maxRecDepth 100000 in
theorem cl_L_125 : CLV RL 125 yX11_chain cX11_chain 5 (some .int) 2 := ⟨cb_X11_chain, WS_m 1599 (by decide +kernel), WS_m 1600 (by decide +kernel), WS_m 1601 (by decide +kernel)⟩
set_option maxRecDepth 100000 in
theorem cb_X11_reaches : CLB yX11_reaches cX11_reaches 9 (some .boolean) 3 := ⟨WS_m 1606 (by decide +kernel), WS_m 106 (by decide +kernel), ⟨by decide +kernel, by decide +kernel, by decide +kernel⟩, by decide⟩
set_option maxRecDepth 100000 in
theorem cl_X11_354 : CLV RX11 354 yX11_reaches cX11_reaches 9 (some .boolean) 3 := ⟨cb_X11_reaches, WS_m 1603 (by decide +kernel), WS_m 1605 (by decide +kernel), WS_m 78 (by decide +kernel)⟩
set_option maxRecDepth 100000 in
theorem cb_X11_numberAt : CLB yX11_numberAt cX11_numberAt 5 (some .int) 1 := ⟨WS_m 1610 (by decide +kernel), WS_m 106 (by decide +kernel), ⟨by decide +kernel, by decide +kernel, by decide +kernel⟩, by decide⟩
set_option maxRecDepth 100000 in
theorem cl_X11_348 : CLV RX11 348 yX11_numberAt cX11_numberAt 5 (some .int) 1 := ⟨cb_X11_numberAt, WS_m 1607 (by decide +kernel), WS_m 1609 (by decide +kernel), WS_m 79 (by decide +kernel)⟩
set_option maxRecDepth 100000 in
theorem cb_X11_copyRow : CLB yX11_copyRow cX11_copyRow 3 none 1 := ⟨WS_m 1614 (by decide +kernel), WS_m 106 (by decide +kernel), ⟨by decide +kernel, by decide +kernel, by decide +kernel⟩, by decide⟩
set_option maxRecDepth 100000 in
theorem cl_X11_351 : CLV RX11 351 yX11_copyRow cX11_copyRow 3 none 1 := ⟨cb_X11_copyRow, WS_m 1611 (by decide +kernel), WS_m 1613 (by decide +kernel), WS_m 80 (by decide +kernel)⟩
set_option maxRecDepth 100000 in
theorem cb_X11_path : CLB yX11_path cX11_path 3 (some .int) 2 := ⟨WS_m 1618 (by decide +kernel), WS_m 106 (by decide +kernel), ⟨by decide +kernel, by decide +kernel, by decide +kernel⟩, by decide⟩
set_option maxRecDepth 100000 in
theorem cl_L_141 : CLV RL 141 yX11_path cX11_path 3 (some .int) 2 := ⟨cb_X11_path, WS_m 1615 (by decide +kernel), WS_m 1616 (by decide +kernel), WS_m 1617 (by decide +kernel)⟩
set_option maxRecDepth 100000 in
theorem cb_X11_act : CLB yX11_act cX11_act 4 (some .int) 3 := ⟨WS_m 1622 (by decide +kernel), WS_m 106 (by decide +kernel), ⟨by decide +kernel, by decide +kernel, by decide +kernel⟩, by decide⟩
set_option maxRecDepth 100000 in
theorem cl_L_145 : CLV RL 145 yX11_act cX11_act 4 (some .int) 3 := ⟨cb_X11_act, WS_m 1619 (by decide +kernel), WS_m 1620 (by decide +kernel), WS_m 1621 (by decide +kernel)⟩
set_option maxRecDepth 100000 in
theorem cb_X11_isBody : CLB yX11_isBody cX11_isBody 2 (some .boolean) 1 := ⟨WS_m 1626 (by decide +kernel), WS_m 106 (by decide +kernel), ⟨by decide +kernel, by decide +kernel, by decide +kernel⟩, by decide⟩
set_option maxRecDepth 100000 in
theorem cl_X11_396 : CLV RX11 396 yX11_isBody cX11_isBody 2 (some .boolean) 1 := ⟨cb_X11_isBody, WS_m 1623 (by decide +kernel), WS_m 1625 (by decide +kernel), WS_m 81 (by decide +kernel)⟩
set_option maxRecDepth 100000 in
theorem cb_X11_costs : CLB yX11_costs cX11_costs 3 (some .int) 2 := ⟨WS_m 1630 (by decide +kernel), WS_m 106 (by decide +kernel), ⟨by decide +kernel, by decide +kernel, by decide +kernel⟩, by decide⟩
set_option maxRecDepth 100000 in
theorem cl_X11_369 : CLV RX11 369 yX11_costs cX11_costs 3 (some .int) 2 := ⟨cb_X11_costs, WS_m 1627 (by decide +kernel), WS_m 1629 (by decide +kernel), WS_m 82 (by decide +kernel)⟩
set_option maxRecDepth 100000 in
theorem cb_X11_ran : CLB yX11_ran cX11_ran 2 none 1 := ⟨WS_m 1634 (by decide +kernel), WS_m 106 (by decide +kernel), ⟨by decide +kernel, by decide +kernel, by decide +kernel⟩, by decide⟩
set_option maxRecDepth 100000 in
theorem cl_X11_363 : CLV RX11 363 yX11_ran cX11_ran 2 none 1 := ⟨cb_X11_ran, WS_m 1631 (by decide +kernel), WS_m 1633 (by decide +kernel), WS_m 83 (by decide +kernel)⟩
set_option maxRecDepth 100000 in
theorem cb_X11_plainCosts : CLB yX11_plainCosts cX11_plainCosts 3 (some .int) 2 := ⟨WS_m 1638 (by decide +kernel), WS_m 106 (by decide +kernel), ⟨by decide +kernel, by decide +kernel, by decide +kernel⟩, by decide⟩
set_option maxRecDepth 100000 in
theorem cl_X11_366 : CLV RX11 366 yX11_plainCosts cX11_plainCosts 3 (some .int) 2 := ⟨cb_X11_plainCosts, WS_m 1635 (by decide +kernel), WS_m 1637 (by decide +kernel), WS_m 84 (by decide +kernel)⟩
set_option maxRecDepth 100000 in
theorem cb_X11_lets : CLB yX11_lets cX11_lets 4 (some .int) 2 := ⟨WS_m 1642 (by decide +kernel), WS_m 106 (by decide +kernel), ⟨by decide +kernel, by decide +kernel, by decide +kernel⟩, by decide⟩
set_option maxRecDepth 100000 in
theorem cl_X11_390 : CLV RX11 390 yX11_lets cX11_lets 4 (some .int) 2 := ⟨cb_X11_lets, WS_m 1639 (by decide +kernel), WS_m 1641 (by decide +kernel), WS_m 85 (by decide +kernel)⟩
set_option maxRecDepth 100000 in
theorem cb_X11_childLets : CLB yX11_childLets cX11_childLets 3 (some .int) 2 := ⟨WS_m 1646 (by decide +kernel), WS_m 106 (by decide +kernel), ⟨by decide +kernel, by decide +kernel, by decide +kernel⟩, by decide⟩
set_option maxRecDepth 100000 in
theorem cl_X11_375 : CLV RX11 375 yX11_childLets cX11_childLets 3 (some .int) 2 := ⟨cb_X11_childLets, WS_m 1643 (by decide +kernel), WS_m 1645 (by decide +kernel), WS_m 86 (by decide +kernel)⟩
set_option maxRecDepth 100000 in
theorem cb_X11_plainLets : CLB yX11_plainLets cX11_plainLets 3 (some .int) 2 := ⟨WS_m 1650 (by decide +kernel), WS_m 106 (by decide +kernel), ⟨by decide +kernel, by decide +kernel, by decide +kernel⟩, by decide⟩
set_option maxRecDepth 100000 in
theorem cl_X11_372 : CLV RX11 372 yX11_plainLets cX11_plainLets 3 (some .int) 2 := ⟨cb_X11_plainLets, WS_m 1647 (by decide +kernel), WS_m 1649 (by decide +kernel), WS_m 87 (by decide +kernel)⟩
set_option maxRecDepth 100000 in
theorem cb_X11_keeps : CLB yX11_keeps cX11_keeps 4 (some .int) 2 := ⟨WS_m 1654 (by decide +kernel), WS_m 106 (by decide +kernel), ⟨by decide +kernel, by decide +kernel, by decide +kernel⟩, by decide⟩
set_option maxRecDepth 100000 in
theorem cl_X11_378 : CLV RX11 378 yX11_keeps cX11_keeps 4 (some .int) 2 := ⟨cb_X11_keeps, WS_m 1651 (by decide +kernel), WS_m 1653 (by decide +kernel), WS_m 88 (by decide +kernel)⟩
set_option maxRecDepth 100000 in
theorem cb_X11_plainKeeps : CLB yX11_plainKeeps cX11_plainKeeps 3 (some .int) 2 := ⟨WS_m 1658 (by decide +kernel), WS_m 106 (by decide +kernel), ⟨by decide +kernel, by decide +kernel, by decide +kernel⟩, by decide⟩
set_option maxRecDepth 100000 in
theorem cl_X11_384 : CLV RX11 384 yX11_plainKeeps cX11_plainKeeps 3 (some .int) 2 := ⟨cb_X11_plainKeeps, WS_m 1655 (by decide +kernel), WS_m 1657 (by decide +kernel), WS_m 89 (by decide +kernel)⟩
set_option maxRecDepth 100000 in
theorem cb_X11_lostKeeps : CLB yX11_lostKeeps cX11_lostKeeps 3 (some .int) 2 := ⟨WS_m 1662 (by decide +kernel), WS_m 106 (by decide +kernel), ⟨by decide +kernel, by decide +kernel, by decide +kernel⟩, by decide⟩
set_option maxRecDepth 100000 in
theorem cl_X11_387 : CLV RX11 387 yX11_lostKeeps cX11_lostKeeps 3 (some .int) 2 := ⟨cb_X11_lostKeeps, WS_m 1659 (by decide +kernel), WS_m 1661 (by decide +kernel), WS_m 90 (by decide +kernel)⟩
set_option maxRecDepth 100000 in
theorem cb_X11_isUnder : CLB yX11_isUnder cX11_isUnder 2 (some .boolean) 2 := ⟨WS_m 1665 (by decide +kernel), WS_m 106 (by decide +kernel), ⟨by decide +kernel, by decide +kernel, by decide +kernel⟩, by decide⟩
set_option maxRecDepth 100000 in
theorem cl_X11_381 : CLS RX11 381 yX11_isUnder cX11_isUnder 2 (some .boolean) 2 := ⟨cb_X11_isUnder, WS_m 1663 (by decide +kernel), WS_m 1664 (by decide +kernel)⟩
set_option maxRecDepth 100000 in
theorem cb_X11_tells : CLB yX11_tells cX11_tells 3 (some .int) 2 := ⟨WS_m 1669 (by decide +kernel), WS_m 106 (by decide +kernel), ⟨by decide +kernel, by decide +kernel, by decide +kernel⟩, by decide⟩
set_option maxRecDepth 100000 in
theorem cl_X11_399 : CLV RX11 399 yX11_tells cX11_tells 3 (some .int) 2 := ⟨cb_X11_tells, WS_m 1666 (by decide +kernel), WS_m 1668 (by decide +kernel), WS_m 91 (by decide +kernel)⟩
set_option maxRecDepth 100000 in
theorem cb_X11_plainTells : CLB yX11_plainTells cX11_plainTells 4 (some .int) 2 := ⟨WS_m 1673 (by decide +kernel), WS_m 106 (by decide +kernel), ⟨by decide +kernel, by decide +kernel, by decide +kernel⟩, by decide⟩
set_option maxRecDepth 100000 in
theorem cl_X11_393 : CLV RX11 393 yX11_plainTells cX11_plainTells 4 (some .int) 2 := ⟨cb_X11_plainTells, WS_m 1670 (by decide +kernel), WS_m 1672 (by decide +kernel), WS_m 92 (by decide +kernel)⟩
set_option maxRecDepth 100000 in
theorem cb_X11_trace : CLB yX11_trace cX11_trace 2 (some .int) 1 := ⟨WS_m 1677 (by decide +kernel), WS_m 106 (by decide +kernel), ⟨by decide +kernel, by decide +kernel, by decide +kernel⟩, by decide⟩
set_option maxRecDepth 100000 in
theorem cl_L_149 : CLV RL 149 yX11_trace cX11_trace 2 (some .int) 1 := ⟨cb_X11_trace, WS_m 1674 (by decide +kernel), WS_m 1675 (by decide +kernel), WS_m 1676 (by decide +kernel)⟩
set_option maxRecDepth 100000 in
theorem cb_X11_count : CLB yX11_count cX11_count 2 (some .int) 1 := ⟨WS_m 1681 (by decide +kernel), WS_m 106 (by decide +kernel), ⟨by decide +kernel, by decide +kernel, by decide +kernel⟩, by decide⟩
set_option maxRecDepth 100000 in
theorem cl_L_182 : CLV RL 182 yX11_count cX11_count 2 (some .int) 1 := ⟨cb_X11_count, WS_m 1678 (by decide +kernel), WS_m 1679 (by decide +kernel), WS_m 1680 (by decide +kernel)⟩
set_option maxRecDepth 100000 in
theorem cb_X11_keep : CLB yX11_keep cX11_keep 3 (some .int) 2 := ⟨WS_m 1685 (by decide +kernel), WS_m 106 (by decide +kernel), ⟨by decide +kernel, by decide +kernel, by decide +kernel⟩, by decide⟩
set_option maxRecDepth 100000 in
theorem cl_L_153 : CLV RL 153 yX11_keep cX11_keep 3 (some .int) 2 := ⟨cb_X11_keep, WS_m 1682 (by decide +kernel), WS_m 1683 (by decide +kernel), WS_m 1684 (by decide +kernel)⟩
set_option maxRecDepth 100000 in
theorem cb_X11_row : CLB yX11_row cX11_row 5 (some .int) 3 := ⟨WS_m 1689 (by decide +kernel), WS_m 106 (by decide +kernel), ⟨by decide +kernel, by decide +kernel, by decide +kernel⟩, by decide⟩
set_option maxRecDepth 100000 in
theorem cl_L_157 : CLV RL 157 yX11_row cX11_row 5 (some .int) 3 := ⟨cb_X11_row, WS_m 1686 (by decide +kernel), WS_m 1687 (by decide +kernel), WS_m 1688 (by decide +kernel)⟩
set_option maxRecDepth 100000 in
theorem cb_X11_put : CLB yX11_put cX11_put 7 (some .int) 3 := ⟨WS_m 1693 (by decide +kernel), WS_m 106 (by decide +kernel), ⟨by decide +kernel, by decide +kernel, by decide +kernel⟩, by decide⟩
set_option maxRecDepth 100000 in
theorem cl_L_164 : CLV RL 164 yX11_put cX11_put 7 (some .int) 3 := ⟨cb_X11_put, WS_m 1690 (by decide +kernel), WS_m 1691 (by decide +kernel), WS_m 1692 (by decide +kernel)⟩
set_option maxRecDepth 100000 in
theorem cb_X11_whyNoPlace : CLB yX11_whyNoPlace cX11_whyNoPlace 3 (some .int) 2 := ⟨WS_m 1697 (by decide +kernel), WS_m 106 (by decide +kernel), ⟨by decide +kernel, by decide +kernel, by decide +kernel⟩, by decide⟩
set_option maxRecDepth 100000 in
theorem cl_X11_402 : CLV RX11 402 yX11_whyNoPlace cX11_whyNoPlace 3 (some .int) 2 := ⟨cb_X11_whyNoPlace, WS_m 1694 (by decide +kernel), WS_m 1696 (by decide +kernel), WS_m 93 (by decide +kernel)⟩
set_option maxRecDepth 100000 in
theorem cb_X11_element : CLB yX11_element cX11_element 3 (some .long) 2 := ⟨WS_m 1701 (by decide +kernel), WS_m 106 (by decide +kernel), ⟨by decide +kernel, by decide +kernel, by decide +kernel⟩, by decide⟩
set_option maxRecDepth 100000 in
theorem cl_L_169 : CLV RL 169 yX11_element cX11_element 3 (some .long) 2 := ⟨cb_X11_element, WS_m 1698 (by decide +kernel), WS_m 1699 (by decide +kernel), WS_m 1700 (by decide +kernel)⟩
set_option maxRecDepth 100000 in
theorem kw_X11_407 : Cond.constantLong RX11 407 (Int64.ofInt (-9223372036854775808)) ∈ WS := WS_m 1702 (by decide +kernel)
set_option maxRecDepth 100000 in
theorem cb_X11_shift : CLB yX11_shift cX11_shift 7 (some .int) 5 := ⟨WS_m 1706 (by decide +kernel), WS_m 106 (by decide +kernel), ⟨by decide +kernel, by decide +kernel, by decide +kernel⟩, by decide⟩
set_option maxRecDepth 100000 in
theorem cl_L_174 : CLV RL 174 yX11_shift cX11_shift 7 (some .int) 5 := ⟨cb_X11_shift, WS_m 1703 (by decide +kernel), WS_m 1704 (by decide +kernel), WS_m 1705 (by decide +kernel)⟩
set_option maxRecDepth 100000 in
theorem cb_X11_taken : CLB yX11_taken cX11_taken 3 (some .int) 2 := ⟨WS_m 1710 (by decide +kernel), WS_m 106 (by decide +kernel), ⟨by decide +kernel, by decide +kernel, by decide +kernel⟩, by decide⟩
set_option maxRecDepth 100000 in
theorem cl_L_178 : CLV RL 178 yX11_taken cX11_taken 3 (some .int) 2 := ⟨cb_X11_taken, WS_m 1707 (by decide +kernel), WS_m 1708 (by decide +kernel), WS_m 1709 (by decide +kernel)⟩
set_option maxRecDepth 100000 in
theorem kw_L_158 : Cond.constantLong RL 158 (Int64.ofInt (4294967295)) ∈ WS := WS_m 1711 (by decide +kernel)
set_option maxRecDepth 100000 in
theorem cn_X8_57 : CLN RX8 57 yX10_isClause cX10_isClause 1 (some .boolean) 1 0 := ⟨cb_X10_isClause, ⟨_, rfl⟩, WS_m 514 (by decide +kernel)⟩
set_option maxRecDepth 100000 in
theorem cn_X8_61 : CLN RX8 61 yX10_isForm cX10_isForm 1 (some .boolean) 1 1 := ⟨cb_X10_isForm, ⟨_, rfl⟩, WS_m 517 (by decide +kernel)⟩
