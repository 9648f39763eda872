/-! links of the constructors -/
set_option maxRecDepth 100000 in
theorem wa_int : Cond.arrayClass .int ∈ WS := wm_1 58 rfl rfl
set_option maxRecDepth 100000 in
theorem wa_long : Cond.arrayClass .long ∈ WS := wm_2 114 rfl rfl
set_option maxRecDepth 100000 in
theorem wa_byte : Cond.arrayClass .byte ∈ WS := wm_5 226 rfl rfl
set_option maxRecDepth 100000 in
theorem wa_boolean : Cond.arrayClass .boolean ∈ WS := wm_5 225 rfl rfl
set_option maxRecDepth 100000 in
theorem wo_c : Cond.code objectInit ⟨#[0xb1]⟩ 1 none ∈ WS := wm_1 24 rfl rfl
set_option maxRecDepth 100000 in
theorem wo_i : Cond.instanceMethod objectInit ∈ WS := wm_1 23 rfl rfl
set_option maxRecDepth 100000 in
theorem wi_X8_m : Cond.instanceMethod yX8_init ∈ WS := wm_1 28 rfl rfl
set_option maxRecDepth 100000 in
theorem ci_X8 {own : String} {idx : Nat} : CLI own idx yX8_init cX8_init 1 0 := ⟨⟨wm_1 29 rfl rfl, wm_1 2 rfl rfl, ⟨by decide +kernel, by decide +kernel, by decide +kernel⟩, by decide⟩, rfl, wi_X8_m⟩
set_option maxRecDepth 100000 in
theorem wn_X8 : Cond.instantiable RX8 7 ∈ WS := wm_1 26 rfl rfl
set_option maxRecDepth 100000 in
theorem wz_X8 : Cond.initialized RX8 ∈ WS := wm_1 2 rfl rfl
theorem df_X8 : ∀ j, j < 7 → defaultValue (tyX8 j) = vp_V [.null, .int 0, .int 0, .int 0, .int 0, .null, .int 0] j := fun j hj => match j, hj with
  | 0, _ => rfl
  | 1, _ => rfl
  | 2, _ => rfl
  | 3, _ => rfl
  | 4, _ => rfl
  | 5, _ => rfl
  | 6, _ => rfl
  | k + 7, h => absurd h (by omega)
set_option maxRecDepth 100000 in
theorem wl_X8_3 : Cond.methodLink RX8 3 objectInit ∈ WS := wm_1 30 rfl rfl
set_option maxRecDepth 100000 in
theorem wi_X1_m : Cond.instanceMethod yX1_init ∈ WS := wm_1 62 rfl rfl
set_option maxRecDepth 100000 in
theorem ci_X1 {own : String} {idx : Nat} : CLI own idx yX1_init cX1_init 1 0 := ⟨⟨wm_1 63 rfl rfl, wm_1 3 rfl rfl, ⟨by decide +kernel, by decide +kernel, by decide +kernel⟩, by decide⟩, rfl, wi_X1_m⟩
set_option maxRecDepth 100000 in
theorem wn_X1 : Cond.instantiable RX1 13 ∈ WS := wm_1 60 rfl rfl
set_option maxRecDepth 100000 in
theorem wz_X1 : Cond.initialized RX1 ∈ WS := wm_1 3 rfl rfl
theorem df_X1 : ∀ j, j < 13 → defaultValue (tyX1 j) = vp_V [.int 0, .null, .null, .null, .null, .null, .null, .null, .null, .null, .int 0, .int 0, .int 0] j := fun j hj => match j, hj with
  | 0, _ => rfl
  | 1, _ => rfl
  | 2, _ => rfl
  | 3, _ => rfl
  | 4, _ => rfl
  | 5, _ => rfl
  | 6, _ => rfl
  | 7, _ => rfl
  | 8, _ => rfl
  | 9, _ => rfl
  | 10, _ => rfl
  | 11, _ => rfl
  | 12, _ => rfl
  | k + 13, h => absurd h (by omega)
set_option maxRecDepth 100000 in
theorem wl_X1_5 : Cond.methodLink RX1 5 objectInit ∈ WS := wm_1 64 rfl rfl
set_option maxRecDepth 100000 in
theorem wi_X9_m : Cond.instanceMethod yX9_init ∈ WS := wm_1 131 rfl rfl
set_option maxRecDepth 100000 in
theorem ci_X9 {own : String} {idx : Nat} : CLI own idx yX9_init cX9_init 1 0 := ⟨⟨wm_1 132 rfl rfl, wm_1 5 rfl rfl, ⟨by decide +kernel, by decide +kernel, by decide +kernel⟩, by decide⟩, rfl, wi_X9_m⟩
set_option maxRecDepth 100000 in
theorem wn_X9 : Cond.instantiable RX9 12 ∈ WS := wm_1 129 rfl rfl
set_option maxRecDepth 100000 in
theorem wz_X9 : Cond.initialized RX9 ∈ WS := wm_1 5 rfl rfl
theorem df_X9 : ∀ j, j < 12 → defaultValue (tyX9 j) = vp_V [.int 0, .null, .null, .null, .null, .null, .null, .null, .null, .null, .null, .null] j := fun j hj => match j, hj with
  | 0, _ => rfl
  | 1, _ => rfl
  | 2, _ => rfl
  | 3, _ => rfl
  | 4, _ => rfl
  | 5, _ => rfl
  | 6, _ => rfl
  | 7, _ => rfl
  | 8, _ => rfl
  | 9, _ => rfl
  | 10, _ => rfl
  | 11, _ => rfl
  | k + 12, h => absurd h (by omega)
set_option maxRecDepth 100000 in
theorem wl_X9_3 : Cond.methodLink RX9 3 objectInit ∈ WS := wm_1 133 rfl rfl
set_option maxRecDepth 100000 in
theorem wi_X4_m : Cond.instanceMethod yX4_init ∈ WS := wm_1 185 rfl rfl
set_option maxRecDepth 100000 in
theorem ci_X4 {own : String} {idx : Nat} : CLI own idx yX4_init cX4_init 3 2 := ⟨⟨wm_1 186 rfl rfl, wm_1 6 rfl rfl, ⟨by decide +kernel, by decide +kernel, by decide +kernel⟩, by decide⟩, rfl, wi_X4_m⟩
set_option maxRecDepth 100000 in
theorem wn_X4 : Cond.instantiable RX4 6 ∈ WS := wm_1 183 rfl rfl
set_option maxRecDepth 100000 in
theorem wz_X4 : Cond.initialized RX4 ∈ WS := wm_1 6 rfl rfl
theorem df_X4 : ∀ j, j < 6 → defaultValue (tyX4 j) = vp_V [.null, .null, .null, .null, .null, .null] j := fun j hj => match j, hj with
  | 0, _ => rfl
  | 1, _ => rfl
  | 2, _ => rfl
  | 3, _ => rfl
  | 4, _ => rfl
  | 5, _ => rfl
  | k + 6, h => absurd h (by omega)
set_option maxRecDepth 100000 in
theorem wl_X4_3 : Cond.methodLink RX4 3 objectInit ∈ WS := wm_1 187 rfl rfl
set_option maxRecDepth 100000 in
theorem wi_X0_m : Cond.instanceMethod yX0_init ∈ WS := wm_1 210 rfl rfl
set_option maxRecDepth 100000 in
theorem ci_X0 {own : String} {idx : Nat} : CLI own idx yX0_init cX0_init 2 1 := ⟨⟨wm_1 211 rfl rfl, wm_1 7 rfl rfl, ⟨by decide +kernel, by decide +kernel, by decide +kernel⟩, by decide⟩, rfl, wi_X0_m⟩
set_option maxRecDepth 100000 in
theorem wn_X0 : Cond.instantiable RX0 15 ∈ WS := wm_1 208 rfl rfl
set_option maxRecDepth 100000 in
theorem wz_X0 : Cond.initialized RX0 ∈ WS := wm_1 7 rfl rfl
theorem df_X0 : ∀ j, j < 15 → defaultValue (tyX0 j) = vp_V [.null, .null, .int 0, .int 0, .int 0, .null, .null, .null, .null, .null, .null, .null, .int 0, .int 0, .int 0] j := fun j hj => match j, hj with
  | 0, _ => rfl
  | 1, _ => rfl
  | 2, _ => rfl
  | 3, _ => rfl
  | 4, _ => rfl
  | 5, _ => rfl
  | 6, _ => rfl
  | 7, _ => rfl
  | 8, _ => rfl
  | 9, _ => rfl
  | 10, _ => rfl
  | 11, _ => rfl
  | 12, _ => rfl
  | 13, _ => rfl
  | 14, _ => rfl
  | k + 15, h => absurd h (by omega)
set_option maxRecDepth 100000 in
theorem wl_X0_3 : Cond.methodLink RX0 3 objectInit ∈ WS := wm_1 212 rfl rfl
set_option maxRecDepth 100000 in
theorem wc_X0_9 : Cond.classLink RX0 9 RX9 ∈ WS := wm_1 213 rfl rfl
set_option maxRecDepth 100000 in
theorem wi_X3_m : Cond.instanceMethod yX3_init ∈ WS := wm_2 27 rfl rfl
set_option maxRecDepth 100000 in
theorem ci_X3 {own : String} {idx : Nat} : CLI own idx yX3_init cX3_init 2 1 := ⟨⟨wm_2 28 rfl rfl, wm_1 8 rfl rfl, ⟨by decide +kernel, by decide +kernel, by decide +kernel⟩, by decide⟩, rfl, wi_X3_m⟩
set_option maxRecDepth 100000 in
theorem wn_X3 : Cond.instantiable RX3 2 ∈ WS := wm_2 25 rfl rfl
set_option maxRecDepth 100000 in
theorem wz_X3 : Cond.initialized RX3 ∈ WS := wm_1 8 rfl rfl
theorem df_X3 : ∀ j, j < 2 → defaultValue (tyX3 j) = vp_V [.null, .null] j := fun j hj => match j, hj with
  | 0, _ => rfl
  | 1, _ => rfl
  | k + 2, h => absurd h (by omega)
set_option maxRecDepth 100000 in
theorem wl_X3_3 : Cond.methodLink RX3 3 objectInit ∈ WS := wm_2 29 rfl rfl
set_option maxRecDepth 100000 in
theorem wi_X2_m : Cond.instanceMethod yX2_init ∈ WS := wm_2 40 rfl rfl
set_option maxRecDepth 100000 in
theorem ci_X2 {own : String} {idx : Nat} : CLI own idx yX2_init cX2_init 2 1 := ⟨⟨wm_2 41 rfl rfl, wm_1 9 rfl rfl, ⟨by decide +kernel, by decide +kernel, by decide +kernel⟩, by decide⟩, rfl, wi_X2_m⟩
set_option maxRecDepth 100000 in
theorem wn_X2 : Cond.instantiable RX2 2 ∈ WS := wm_2 38 rfl rfl
set_option maxRecDepth 100000 in
theorem wz_X2 : Cond.initialized RX2 ∈ WS := wm_1 9 rfl rfl
theorem df_X2 : ∀ j, j < 2 → defaultValue (tyX2 j) = vp_V [.null, .null] j := fun j hj => match j, hj with
  | 0, _ => rfl
  | 1, _ => rfl
  | k + 2, h => absurd h (by omega)
set_option maxRecDepth 100000 in
theorem wl_X2_1 : Cond.methodLink RX2 1 objectInit ∈ WS := wm_2 42 rfl rfl
set_option maxRecDepth 100000 in
theorem wc_X2_7 : Cond.classLink RX2 7 RX9 ∈ WS := wm_2 43 rfl rfl
set_option maxRecDepth 100000 in
theorem wi_X5_m : Cond.instanceMethod yX5_init ∈ WS := wm_2 55 rfl rfl
set_option maxRecDepth 100000 in
theorem ci_X5 {own : String} {idx : Nat} : CLI own idx yX5_init cX5_init 1 0 := ⟨⟨wm_2 56 rfl rfl, wm_1 10 rfl rfl, ⟨by decide +kernel, by decide +kernel, by decide +kernel⟩, by decide⟩, rfl, wi_X5_m⟩
set_option maxRecDepth 100000 in
theorem wn_X5 : Cond.instantiable RX5 8 ∈ WS := wm_2 53 rfl rfl
set_option maxRecDepth 100000 in
theorem wz_X5 : Cond.initialized RX5 ∈ WS := wm_1 10 rfl rfl
theorem df_X5 : ∀ j, j < 8 → defaultValue (tyX5 j) = vp_V [.int 0, .int 0, .null, .null, .null, .int 0, .int 0, .int 0] j := fun j hj => match j, hj with
  | 0, _ => rfl
  | 1, _ => rfl
  | 2, _ => rfl
  | 3, _ => rfl
  | 4, _ => rfl
  | 5, _ => rfl
  | 6, _ => rfl
  | 7, _ => rfl
  | k + 8, h => absurd h (by omega)
set_option maxRecDepth 100000 in
theorem wl_X5_1 : Cond.methodLink RX5 1 objectInit ∈ WS := wm_2 57 rfl rfl
set_option maxRecDepth 100000 in
theorem wi_X6_m : Cond.instanceMethod yX6_init ∈ WS := wm_2 91 rfl rfl
set_option maxRecDepth 100000 in
theorem ci_X6 {own : String} {idx : Nat} : CLI own idx yX6_init cX6_init 1 0 := ⟨⟨wm_2 92 rfl rfl, wm_1 11 rfl rfl, ⟨by decide +kernel, by decide +kernel, by decide +kernel⟩, by decide⟩, rfl, wi_X6_m⟩
set_option maxRecDepth 100000 in
theorem wn_X6 : Cond.instantiable RX6 5 ∈ WS := wm_2 89 rfl rfl
set_option maxRecDepth 100000 in
theorem wz_X6 : Cond.initialized RX6 ∈ WS := wm_1 11 rfl rfl
theorem df_X6 : ∀ j, j < 5 → defaultValue (tyX6 j) = vp_V [.int 0, .int 0, .int 0, .int 0, .null] j := fun j hj => match j, hj with
  | 0, _ => rfl
  | 1, _ => rfl
  | 2, _ => rfl
  | 3, _ => rfl
  | 4, _ => rfl
  | k + 5, h => absurd h (by omega)
set_option maxRecDepth 100000 in
theorem wl_X6_1 : Cond.methodLink RX6 1 objectInit ∈ WS := wm_2 93 rfl rfl
set_option maxRecDepth 100000 in
theorem wi_X10_m : Cond.instanceMethod yX10_init ∈ WS := wm_1 20 rfl rfl
set_option maxRecDepth 100000 in
theorem ci_X10 {own : String} {idx : Nat} : CLI own idx yX10_init cX10_init 2 0 := ⟨⟨wm_1 21 rfl rfl, wm_1 1 rfl rfl, ⟨by decide +kernel, by decide +kernel, by decide +kernel⟩, by decide⟩, rfl, wi_X10_m⟩
set_option maxRecDepth 100000 in
theorem wn_X10 : Cond.instantiable RX10 9 ∈ WS := wm_1 18 rfl rfl
set_option maxRecDepth 100000 in
theorem wz_X10 : Cond.initialized RX10 ∈ WS := wm_1 1 rfl rfl
theorem df_X10 : ∀ j, j < 9 → defaultValue (tyX10 j) = vp_V [.null, .null, .null, .null, .null, .null, .null, .null, .null] j := fun j hj => match j, hj with
  | 0, _ => rfl
  | 1, _ => rfl
  | 2, _ => rfl
  | 3, _ => rfl
  | 4, _ => rfl
  | 5, _ => rfl
  | 6, _ => rfl
  | 7, _ => rfl
  | 8, _ => rfl
  | k + 9, h => absurd h (by omega)
set_option maxRecDepth 100000 in
theorem wl_X10_1 : Cond.methodLink RX10 1 objectInit ∈ WS := wm_1 22 rfl rfl
set_option maxRecDepth 100000 in
theorem wc_X10_7 : Cond.classLink RX10 7 RX8 ∈ WS := wm_1 25 rfl rfl
set_option maxRecDepth 100000 in
theorem wc_X10_16 : Cond.classLink RX10 16 RX1 ∈ WS := wm_1 59 rfl rfl
set_option maxRecDepth 100000 in
theorem wl_X10_18 : Cond.methodLink RX10 18 yX1_init ∈ WS := wm_1 61 rfl rfl
set_option maxRecDepth 100000 in
theorem wc_X10_23 : Cond.classLink RX10 23 RX9 ∈ WS := wm_1 128 rfl rfl
set_option maxRecDepth 100000 in
theorem wc_X10_30 : Cond.classLink RX10 30 RX4 ∈ WS := wm_1 182 rfl rfl
set_option maxRecDepth 100000 in
theorem wl_X10_32 : Cond.methodLink RX10 32 yX4_init ∈ WS := wm_1 184 rfl rfl
set_option maxRecDepth 100000 in
theorem wc_X10_39 : Cond.classLink RX10 39 RX0 ∈ WS := wm_1 207 rfl rfl
set_option maxRecDepth 100000 in
theorem wl_X10_41 : Cond.methodLink RX10 41 yX0_init ∈ WS := wm_1 209 rfl rfl
set_option maxRecDepth 100000 in
theorem wc_X10_48 : Cond.classLink RX10 48 RX3 ∈ WS := wm_2 24 rfl rfl
set_option maxRecDepth 100000 in
theorem wl_X10_50 : Cond.methodLink RX10 50 yX3_init ∈ WS := wm_2 26 rfl rfl
set_option maxRecDepth 100000 in
theorem wc_X10_55 : Cond.classLink RX10 55 RX2 ∈ WS := wm_2 37 rfl rfl
set_option maxRecDepth 100000 in
theorem wl_X10_57 : Cond.methodLink RX10 57 yX2_init ∈ WS := wm_2 39 rfl rfl
set_option maxRecDepth 100000 in
theorem wc_X10_62 : Cond.classLink RX10 62 RX5 ∈ WS := wm_2 52 rfl rfl
set_option maxRecDepth 100000 in
theorem wc_X10_69 : Cond.classLink RX10 69 RX6 ∈ WS := wm_2 87 rfl rfl
set_option maxRecDepth 100000 in
theorem wi_X11_m : Cond.instanceMethod yX11_init ∈ WS := wm_5 57 rfl rfl
set_option maxRecDepth 100000 in
theorem ci_X11 {own : String} {idx : Nat} : CLI own idx yX11_init cX11_init 1 0 := ⟨⟨wm_5 58 rfl rfl, wm_1 12 rfl rfl, ⟨by decide +kernel, by decide +kernel, by decide +kernel⟩, by decide⟩, rfl, wi_X11_m⟩
set_option maxRecDepth 100000 in
theorem wn_X11 : Cond.instantiable RX11 55 ∈ WS := wm_5 55 rfl rfl
set_option maxRecDepth 100000 in
theorem wz_X11 : Cond.initialized RX11 ∈ WS := wm_1 12 rfl rfl
theorem df_X11 : ∀ j, j < 55 → defaultValue (tyX11 j) = vp_V [.int 0, .int 0, .null, .null, .null, .null, .null, .null, .null, .null, .int 0, .int 0, .int 0, .int 0, .int 0, .null, .null, .null, .null, .null, .null, .null, .null, .null, .int 0, .int 0, .null, .null, .int 0, .null, .null, .int 0, .int 0, .int 0, .null, .null, .null, .null, .null, .null, .int 0, .null, .null, .null, .null, .null, .int 0, .null, .null, .int 0, .null, .null, .null, .null, .null] j := fun j hj => match j, hj with
  | 0, _ => rfl
  | 1, _ => rfl
  | 2, _ => rfl
  | 3, _ => rfl
  | 4, _ => rfl
  | 5, _ => rfl
  | 6, _ => rfl
  | 7, _ => rfl
  | 8, _ => rfl
  | 9, _ => rfl
  | 10, _ => rfl
  | 11, _ => rfl
  | 12, _ => rfl
  | 13, _ => rfl
  | 14, _ => rfl
  | 15, _ => rfl
  | 16, _ => rfl
  | 17, _ => rfl
  | 18, _ => rfl
  | 19, _ => rfl
  | 20, _ => rfl
  | 21, _ => rfl
  | 22, _ => rfl
  | 23, _ => rfl
  | 24, _ => rfl
  | 25, _ => rfl
  | 26, _ => rfl
  | 27, _ => rfl
  | 28, _ => rfl
  | 29, _ => rfl
  | 30, _ => rfl
  | 31, _ => rfl
  | 32, _ => rfl
  | 33, _ => rfl
  | 34, _ => rfl
  | 35, _ => rfl
  | 36, _ => rfl
  | 37, _ => rfl
  | 38, _ => rfl
  | 39, _ => rfl
  | 40, _ => rfl
  | 41, _ => rfl
  | 42, _ => rfl
  | 43, _ => rfl
  | 44, _ => rfl
  | 45, _ => rfl
  | 46, _ => rfl
  | 47, _ => rfl
  | 48, _ => rfl
  | 49, _ => rfl
  | 50, _ => rfl
  | 51, _ => rfl
  | 52, _ => rfl
  | 53, _ => rfl
  | 54, _ => rfl
  | k + 55, h => absurd h (by omega)
set_option maxRecDepth 100000 in
theorem wl_X11_1 : Cond.methodLink RX11 1 objectInit ∈ WS := wm_5 59 rfl rfl
