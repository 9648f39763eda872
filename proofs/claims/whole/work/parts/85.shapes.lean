/-! the slips as lists of digits (written by gen85.py) -/
def dupL (ds : List Int) (k : Nat) : List Int := ds.take (k + 1) ++ ds.drop k
def swpL (ds : List Int) (k : Nat) : List Int := ds.take k ++ (ds.getD (k + 1) 0 :: ds.getD k 0 :: ds.drop (k + 2))
def misL (ds : List Int) (k : Nat) (w : Int) : List Int := if tb w (ds.getD k 0) < 0 then [] else ds.set k (tb w (ds.getD k 0))
def gro (ds : List Int) (i : Nat) : List Int := if i < 5 then (if i < ds.length then ds.eraseIdx (ds.length - 1 - i) else []) else if i < 10 then (if i - 5 < ds.length then dupL ds (ds.length - 1 - (i - 5)) else []) else if i < 14 then (if i - 9 < ds.length then swpL ds (ds.length - 2 - (i - 10)) else []) else if (i - 14) / 2 < ds.length then misL ds (ds.length - 1 - (i - 14) / 2) (if i % 2 = 0 then 0 else 1) else []
theorem vd_0 : ¬ vd [] = true := by decide
theorem vd_6 (a b c d e f : Int) : ¬ vd [a, b, c, d, e, f] = true := by unfold vd; simp
theorem wv_0 (v : Int) : wv v 0 = -1 := by unfold wv; rw [if_neg (by omega)]
theorem wv_6 (v : Int) : wv v 6 = -1 := by unfold wv; rw [if_neg (by omega)]
theorem wv_m {l : Int} : wv (-1) l = -1 := by
  unfold wv pw
  rw [if_neg]
  intro h
  have := h.2.2
  repeat' split at this
  all_goals omega
theorem vd_1 (a : Int) : vd [a] = true ↔ a ≠ 0 := by unfold vd; simp
theorem wv_1 {a : Int} (ha : 0 ≤ a ∧ a < 10) : wv (vl [a]) 1 = if vd [a] = true then vl [a] else -1 := by
  have hpw : pw ((1 : Int) - 1) = 1 := by decide
  unfold wv
  rw [hpw, vl1]
  by_cases z : a = 0
  · rw [if_neg (show ¬ vd [a] = true by rw [vd_1]; omega), if_neg (by omega)]
  · rw [if_pos ((vd_1 a).mpr z), if_pos (by omega)]
theorem vd_2 (a b : Int) : vd [a, b] = true ↔ a ≠ 0 := by unfold vd; simp
theorem wv_2 {a b : Int} (ha : 0 ≤ a ∧ a < 10) (hb : 0 ≤ b ∧ b < 10) : wv (vl [a, b]) 2 = if vd [a, b] = true then vl [a, b] else -1 := by
  have hpw : pw ((2 : Int) - 1) = 10 := by decide
  unfold wv
  rw [hpw, vl2]
  by_cases z : a = 0
  · rw [if_neg (show ¬ vd [a, b] = true by rw [vd_2]; omega), if_neg (by omega)]
  · rw [if_pos ((vd_2 a b).mpr z), if_pos (by omega)]
theorem vd_3 (a b c : Int) : vd [a, b, c] = true ↔ a ≠ 0 := by unfold vd; simp
theorem wv_3 {a b c : Int} (ha : 0 ≤ a ∧ a < 10) (hb : 0 ≤ b ∧ b < 10) (hc : 0 ≤ c ∧ c < 10) : wv (vl [a, b, c]) 3 = if vd [a, b, c] = true then vl [a, b, c] else -1 := by
  have hpw : pw ((3 : Int) - 1) = 100 := by decide
  unfold wv
  rw [hpw, vl3]
  by_cases z : a = 0
  · rw [if_neg (show ¬ vd [a, b, c] = true by rw [vd_3]; omega), if_neg (by omega)]
  · rw [if_pos ((vd_3 a b c).mpr z), if_pos (by omega)]
theorem vd_4 (a b c d : Int) : vd [a, b, c, d] = true ↔ a ≠ 0 := by unfold vd; simp
theorem wv_4 {a b c d : Int} (ha : 0 ≤ a ∧ a < 10) (hb : 0 ≤ b ∧ b < 10) (hc : 0 ≤ c ∧ c < 10) (hd : 0 ≤ d ∧ d < 10) : wv (vl [a, b, c, d]) 4 = if vd [a, b, c, d] = true then vl [a, b, c, d] else -1 := by
  have hpw : pw ((4 : Int) - 1) = 1000 := by decide
  unfold wv
  rw [hpw, vl4]
  by_cases z : a = 0
  · rw [if_neg (show ¬ vd [a, b, c, d] = true by rw [vd_4]; omega), if_neg (by omega)]
  · rw [if_pos ((vd_4 a b c d).mpr z), if_pos (by omega)]
theorem vd_5 (a b c d e : Int) : vd [a, b, c, d, e] = true ↔ a ≠ 0 := by unfold vd; simp
theorem wv_5 {a b c d e : Int} (ha : 0 ≤ a ∧ a < 10) (hb : 0 ≤ b ∧ b < 10) (hc : 0 ≤ c ∧ c < 10) (hd : 0 ≤ d ∧ d < 10) (he : 0 ≤ e ∧ e < 10) : wv (vl [a, b, c, d, e]) 5 = if vd [a, b, c, d, e] = true then vl [a, b, c, d, e] else -1 := by
  have hpw : pw ((5 : Int) - 1) = 10000 := by decide
  unfold wv
  rw [hpw, vl5]
  by_cases z : a = 0
  · rw [if_neg (show ¬ vd [a, b, c, d, e] = true by rw [vd_5]; omega), if_neg (by omega)]
  · rw [if_pos ((vd_5 a b c d e).mpr z), if_pos (by omega)]
theorem ln_1 {a : Int} (ha : 0 < a ∧ a < 10) : ln a = 1 := by
  unfold ln
  rw [if_pos (by omega)]
theorem gs_1_0 {a : Int} (ha : 0 < a ∧ a < 10) : F7_grown (vl [a]) 0 = some (if vd (gro [a] 0) = true then vl (gro [a] 0) else -1) := by
  rw [vl1, gx_0 (by omega) (by omega), ln_1 ha]
  rw [if_neg (by omega), show gro [a] 0 = [] from rfl, show (1 : Int) - 1 = 0 from rfl, wv_0, if_neg vd_0]
theorem gs_1_1 {a : Int} (ha : 0 < a ∧ a < 10) : F7_grown (vl [a]) 1 = some (if vd (gro [a] 1) = true then vl (gro [a] 1) else -1) := by
  rw [vl1, gx_1 (by omega) (by omega), ln_1 ha]
  rw [if_pos (by omega), show gro [a] 1 = [] from rfl, if_neg vd_0]
theorem gs_1_2 {a : Int} (ha : 0 < a ∧ a < 10) : F7_grown (vl [a]) 2 = some (if vd (gro [a] 2) = true then vl (gro [a] 2) else -1) := by
  rw [vl1, gx_2 (by omega) (by omega), ln_1 ha]
  rw [if_pos (by omega), show gro [a] 2 = [] from rfl, if_neg vd_0]
theorem gs_1_3 {a : Int} (ha : 0 < a ∧ a < 10) : F7_grown (vl [a]) 3 = some (if vd (gro [a] 3) = true then vl (gro [a] 3) else -1) := by
  rw [vl1, gx_3 (by omega) (by omega), ln_1 ha]
  rw [if_pos (by omega), show gro [a] 3 = [] from rfl, if_neg vd_0]
theorem gs_1_4 {a : Int} (ha : 0 < a ∧ a < 10) : F7_grown (vl [a]) 4 = some (if vd (gro [a] 4) = true then vl (gro [a] 4) else -1) := by
  rw [vl1, gx_4 (by omega) (by omega), ln_1 ha]
  rw [if_pos (by omega), show gro [a] 4 = [] from rfl, if_neg vd_0]
theorem gs_1_5 {a : Int} (ha : 0 < a ∧ a < 10) : F7_grown (vl [a]) 5 = some (if vd (gro [a] 5) = true then vl (gro [a] 5) else -1) := by
  rw [vl1, gx_5 (by omega) (by omega), ln_1 ha]
  rw [if_neg (by omega), show gro [a] 5 = [a, a] from rfl, show (1 : Int) + 1 = 2 from rfl, show (a / 1 * 10 + a / 1 % 10) * 1 + a % 1 = vl [a, a] by rw [vl2]; omega, wv_2 ⟨by omega, by omega⟩ ⟨by omega, by omega⟩]
theorem gs_1_6 {a : Int} (ha : 0 < a ∧ a < 10) : F7_grown (vl [a]) 6 = some (if vd (gro [a] 6) = true then vl (gro [a] 6) else -1) := by
  rw [vl1, gx_6 (by omega) (by omega), ln_1 ha]
  rw [if_pos (by omega), show gro [a] 6 = [] from rfl, if_neg vd_0]
theorem gs_1_7 {a : Int} (ha : 0 < a ∧ a < 10) : F7_grown (vl [a]) 7 = some (if vd (gro [a] 7) = true then vl (gro [a] 7) else -1) := by
  rw [vl1, gx_7 (by omega) (by omega), ln_1 ha]
  rw [if_pos (by omega), show gro [a] 7 = [] from rfl, if_neg vd_0]
theorem gs_1_8 {a : Int} (ha : 0 < a ∧ a < 10) : F7_grown (vl [a]) 8 = some (if vd (gro [a] 8) = true then vl (gro [a] 8) else -1) := by
  rw [vl1, gx_8 (by omega) (by omega), ln_1 ha]
  rw [if_pos (by omega), show gro [a] 8 = [] from rfl, if_neg vd_0]
theorem gs_1_9 {a : Int} (ha : 0 < a ∧ a < 10) : F7_grown (vl [a]) 9 = some (if vd (gro [a] 9) = true then vl (gro [a] 9) else -1) := by
  rw [vl1, gx_9 (by omega) (by omega), ln_1 ha]
  rw [if_pos (by omega), show gro [a] 9 = [] from rfl, if_neg vd_0]
theorem gs_1_10 {a : Int} (ha : 0 < a ∧ a < 10) : F7_grown (vl [a]) 10 = some (if vd (gro [a] 10) = true then vl (gro [a] 10) else -1) := by
  rw [vl1, gx_10 (by omega) (by omega), ln_1 ha]
  rw [if_pos (by omega), show gro [a] 10 = [] from rfl, if_neg vd_0]
theorem gs_1_11 {a : Int} (ha : 0 < a ∧ a < 10) : F7_grown (vl [a]) 11 = some (if vd (gro [a] 11) = true then vl (gro [a] 11) else -1) := by
  rw [vl1, gx_11 (by omega) (by omega), ln_1 ha]
  rw [if_pos (by omega), show gro [a] 11 = [] from rfl, if_neg vd_0]
theorem gs_1_12 {a : Int} (ha : 0 < a ∧ a < 10) : F7_grown (vl [a]) 12 = some (if vd (gro [a] 12) = true then vl (gro [a] 12) else -1) := by
  rw [vl1, gx_12 (by omega) (by omega), ln_1 ha]
  rw [if_pos (by omega), show gro [a] 12 = [] from rfl, if_neg vd_0]
theorem gs_1_13 {a : Int} (ha : 0 < a ∧ a < 10) : F7_grown (vl [a]) 13 = some (if vd (gro [a] 13) = true then vl (gro [a] 13) else -1) := by
  rw [vl1, gx_13 (by omega) (by omega), ln_1 ha]
  rw [if_pos (by omega), show gro [a] 13 = [] from rfl, if_neg vd_0]
theorem gs_1_14 {a : Int} (ha : 0 < a ∧ a < 10) : F7_grown (vl [a]) 14 = some (if vd (gro [a] 14) = true then vl (gro [a] 14) else -1) := by
  rw [vl1, gx_14 (by omega) (by omega), ln_1 ha]
  have hdv : a / 1 % 10 = a := by omega
  have htb := tb_b (w := 0) (d := a) (by omega) (by omega)
  rw [if_neg (by omega), hdv]
  have g : gro [a] 14 = if tb 0 a < 0 then [] else [tb 0 a] := rfl
  by_cases z : 0 ≤ tb 0 a
  · rw [if_neg (show ¬ tb 0 a < 0 by omega)] at g
    rw [if_pos z, g, show a + (tb 0 a - a) * 1 = vl [tb 0 a] by rw [vl1]; omega, wv_1 ⟨by omega, by omega⟩]
  · rw [if_pos (show tb 0 a < 0 by omega)] at g
    rw [if_neg z, g, wv_m, if_neg vd_0]
theorem gs_1_15 {a : Int} (ha : 0 < a ∧ a < 10) : F7_grown (vl [a]) 15 = some (if vd (gro [a] 15) = true then vl (gro [a] 15) else -1) := by
  rw [vl1, gx_15 (by omega) (by omega), ln_1 ha]
  have hdv : a / 1 % 10 = a := by omega
  have htb := tb_b (w := 1) (d := a) (by omega) (by omega)
  rw [if_neg (by omega), hdv]
  have g : gro [a] 15 = if tb 1 a < 0 then [] else [tb 1 a] := rfl
  by_cases z : 0 ≤ tb 1 a
  · rw [if_neg (show ¬ tb 1 a < 0 by omega)] at g
    rw [if_pos z, g, show a + (tb 1 a - a) * 1 = vl [tb 1 a] by rw [vl1]; omega, wv_1 ⟨by omega, by omega⟩]
  · rw [if_pos (show tb 1 a < 0 by omega)] at g
    rw [if_neg z, g, wv_m, if_neg vd_0]
theorem gs_1_16 {a : Int} (ha : 0 < a ∧ a < 10) : F7_grown (vl [a]) 16 = some (if vd (gro [a] 16) = true then vl (gro [a] 16) else -1) := by
  rw [vl1, gx_16 (by omega) (by omega), ln_1 ha]
  rw [if_pos (by omega), show gro [a] 16 = [] from rfl, if_neg vd_0]
theorem gs_1_17 {a : Int} (ha : 0 < a ∧ a < 10) : F7_grown (vl [a]) 17 = some (if vd (gro [a] 17) = true then vl (gro [a] 17) else -1) := by
  rw [vl1, gx_17 (by omega) (by omega), ln_1 ha]
  rw [if_pos (by omega), show gro [a] 17 = [] from rfl, if_neg vd_0]
theorem gs_1_18 {a : Int} (ha : 0 < a ∧ a < 10) : F7_grown (vl [a]) 18 = some (if vd (gro [a] 18) = true then vl (gro [a] 18) else -1) := by
  rw [vl1, gx_18 (by omega) (by omega), ln_1 ha]
  rw [if_pos (by omega), show gro [a] 18 = [] from rfl, if_neg vd_0]
theorem gs_1_19 {a : Int} (ha : 0 < a ∧ a < 10) : F7_grown (vl [a]) 19 = some (if vd (gro [a] 19) = true then vl (gro [a] 19) else -1) := by
  rw [vl1, gx_19 (by omega) (by omega), ln_1 ha]
  rw [if_pos (by omega), show gro [a] 19 = [] from rfl, if_neg vd_0]
theorem gs_1_20 {a : Int} (ha : 0 < a ∧ a < 10) : F7_grown (vl [a]) 20 = some (if vd (gro [a] 20) = true then vl (gro [a] 20) else -1) := by
  rw [vl1, gx_20 (by omega) (by omega), ln_1 ha]
  rw [if_pos (by omega), show gro [a] 20 = [] from rfl, if_neg vd_0]
theorem gs_1_21 {a : Int} (ha : 0 < a ∧ a < 10) : F7_grown (vl [a]) 21 = some (if vd (gro [a] 21) = true then vl (gro [a] 21) else -1) := by
  rw [vl1, gx_21 (by omega) (by omega), ln_1 ha]
  rw [if_pos (by omega), show gro [a] 21 = [] from rfl, if_neg vd_0]
theorem gs_1_22 {a : Int} (ha : 0 < a ∧ a < 10) : F7_grown (vl [a]) 22 = some (if vd (gro [a] 22) = true then vl (gro [a] 22) else -1) := by
  rw [vl1, gx_22 (by omega) (by omega), ln_1 ha]
  rw [if_pos (by omega), show gro [a] 22 = [] from rfl, if_neg vd_0]
theorem gs_1_23 {a : Int} (ha : 0 < a ∧ a < 10) : F7_grown (vl [a]) 23 = some (if vd (gro [a] 23) = true then vl (gro [a] 23) else -1) := by
  rw [vl1, gx_23 (by omega) (by omega), ln_1 ha]
  rw [if_pos (by omega), show gro [a] 23 = [] from rfl, if_neg vd_0]
theorem ln_2 {a b : Int} (ha : 0 < a ∧ a < 10) (hb : 0 ≤ b ∧ b < 10) : ln (10 * a + b) = 2 := by
  unfold ln
  rw [if_neg (by omega), if_pos (by omega)]
theorem gs_2_0 {a b : Int} (ha : 0 < a ∧ a < 10) (hb : 0 ≤ b ∧ b < 10) : F7_grown (vl [a, b]) 0 = some (if vd (gro [a, b] 0) = true then vl (gro [a, b] 0) else -1) := by
  rw [vl2, gx_0 (by omega) (by omega), ln_2 ha hb]
  rw [if_neg (by omega), show gro [a, b] 0 = [a] from rfl, show (2 : Int) - 1 = 1 from rfl, show (10 * a + b) / 10 * 1 + (10 * a + b) % 1 = vl [a] by rw [vl1]; omega, wv_1 ⟨by omega, by omega⟩]
theorem gs_2_1 {a b : Int} (ha : 0 < a ∧ a < 10) (hb : 0 ≤ b ∧ b < 10) : F7_grown (vl [a, b]) 1 = some (if vd (gro [a, b] 1) = true then vl (gro [a, b] 1) else -1) := by
  rw [vl2, gx_1 (by omega) (by omega), ln_2 ha hb]
  rw [if_neg (by omega), show gro [a, b] 1 = [b] from rfl, show (2 : Int) - 1 = 1 from rfl, show (10 * a + b) / 100 * 10 + (10 * a + b) % 10 = vl [b] by rw [vl1]; omega, wv_1 ⟨by omega, by omega⟩]
theorem gs_2_2 {a b : Int} (ha : 0 < a ∧ a < 10) (hb : 0 ≤ b ∧ b < 10) : F7_grown (vl [a, b]) 2 = some (if vd (gro [a, b] 2) = true then vl (gro [a, b] 2) else -1) := by
  rw [vl2, gx_2 (by omega) (by omega), ln_2 ha hb]
  rw [if_pos (by omega), show gro [a, b] 2 = [] from rfl, if_neg vd_0]
theorem gs_2_3 {a b : Int} (ha : 0 < a ∧ a < 10) (hb : 0 ≤ b ∧ b < 10) : F7_grown (vl [a, b]) 3 = some (if vd (gro [a, b] 3) = true then vl (gro [a, b] 3) else -1) := by
  rw [vl2, gx_3 (by omega) (by omega), ln_2 ha hb]
  rw [if_pos (by omega), show gro [a, b] 3 = [] from rfl, if_neg vd_0]
theorem gs_2_4 {a b : Int} (ha : 0 < a ∧ a < 10) (hb : 0 ≤ b ∧ b < 10) : F7_grown (vl [a, b]) 4 = some (if vd (gro [a, b] 4) = true then vl (gro [a, b] 4) else -1) := by
  rw [vl2, gx_4 (by omega) (by omega), ln_2 ha hb]
  rw [if_pos (by omega), show gro [a, b] 4 = [] from rfl, if_neg vd_0]
theorem gs_2_5 {a b : Int} (ha : 0 < a ∧ a < 10) (hb : 0 ≤ b ∧ b < 10) : F7_grown (vl [a, b]) 5 = some (if vd (gro [a, b] 5) = true then vl (gro [a, b] 5) else -1) := by
  rw [vl2, gx_5 (by omega) (by omega), ln_2 ha hb]
  rw [if_neg (by omega), show gro [a, b] 5 = [a, b, b] from rfl, show (2 : Int) + 1 = 3 from rfl, show ((10 * a + b) / 1 * 10 + (10 * a + b) / 1 % 10) * 1 + (10 * a + b) % 1 = vl [a, b, b] by rw [vl3]; omega, wv_3 ⟨by omega, by omega⟩ ⟨by omega, by omega⟩ ⟨by omega, by omega⟩]
theorem gs_2_6 {a b : Int} (ha : 0 < a ∧ a < 10) (hb : 0 ≤ b ∧ b < 10) : F7_grown (vl [a, b]) 6 = some (if vd (gro [a, b] 6) = true then vl (gro [a, b] 6) else -1) := by
  rw [vl2, gx_6 (by omega) (by omega), ln_2 ha hb]
  rw [if_neg (by omega), show gro [a, b] 6 = [a, a, b] from rfl, show (2 : Int) + 1 = 3 from rfl, show ((10 * a + b) / 10 * 10 + (10 * a + b) / 10 % 10) * 10 + (10 * a + b) % 10 = vl [a, a, b] by rw [vl3]; omega, wv_3 ⟨by omega, by omega⟩ ⟨by omega, by omega⟩ ⟨by omega, by omega⟩]
theorem gs_2_7 {a b : Int} (ha : 0 < a ∧ a < 10) (hb : 0 ≤ b ∧ b < 10) : F7_grown (vl [a, b]) 7 = some (if vd (gro [a, b] 7) = true then vl (gro [a, b] 7) else -1) := by
  rw [vl2, gx_7 (by omega) (by omega), ln_2 ha hb]
  rw [if_pos (by omega), show gro [a, b] 7 = [] from rfl, if_neg vd_0]
theorem gs_2_8 {a b : Int} (ha : 0 < a ∧ a < 10) (hb : 0 ≤ b ∧ b < 10) : F7_grown (vl [a, b]) 8 = some (if vd (gro [a, b] 8) = true then vl (gro [a, b] 8) else -1) := by
  rw [vl2, gx_8 (by omega) (by omega), ln_2 ha hb]
  rw [if_pos (by omega), show gro [a, b] 8 = [] from rfl, if_neg vd_0]
theorem gs_2_9 {a b : Int} (ha : 0 < a ∧ a < 10) (hb : 0 ≤ b ∧ b < 10) : F7_grown (vl [a, b]) 9 = some (if vd (gro [a, b] 9) = true then vl (gro [a, b] 9) else -1) := by
  rw [vl2, gx_9 (by omega) (by omega), ln_2 ha hb]
  rw [if_pos (by omega), show gro [a, b] 9 = [] from rfl, if_neg vd_0]
theorem gs_2_10 {a b : Int} (ha : 0 < a ∧ a < 10) (hb : 0 ≤ b ∧ b < 10) : F7_grown (vl [a, b]) 10 = some (if vd (gro [a, b] 10) = true then vl (gro [a, b] 10) else -1) := by
  rw [vl2, gx_10 (by omega) (by omega), ln_2 ha hb]
  rw [if_neg (by omega), show gro [a, b] 10 = [b, a] from rfl, show (10 * a + b) + ((10 * a + b) / 1 % 10 - (10 * a + b) / 10 % 10) * 9 = vl [b, a] by rw [vl2]; omega, wv_2 ⟨by omega, by omega⟩ ⟨by omega, by omega⟩]
theorem gs_2_11 {a b : Int} (ha : 0 < a ∧ a < 10) (hb : 0 ≤ b ∧ b < 10) : F7_grown (vl [a, b]) 11 = some (if vd (gro [a, b] 11) = true then vl (gro [a, b] 11) else -1) := by
  rw [vl2, gx_11 (by omega) (by omega), ln_2 ha hb]
  rw [if_pos (by omega), show gro [a, b] 11 = [] from rfl, if_neg vd_0]
theorem gs_2_12 {a b : Int} (ha : 0 < a ∧ a < 10) (hb : 0 ≤ b ∧ b < 10) : F7_grown (vl [a, b]) 12 = some (if vd (gro [a, b] 12) = true then vl (gro [a, b] 12) else -1) := by
  rw [vl2, gx_12 (by omega) (by omega), ln_2 ha hb]
  rw [if_pos (by omega), show gro [a, b] 12 = [] from rfl, if_neg vd_0]
theorem gs_2_13 {a b : Int} (ha : 0 < a ∧ a < 10) (hb : 0 ≤ b ∧ b < 10) : F7_grown (vl [a, b]) 13 = some (if vd (gro [a, b] 13) = true then vl (gro [a, b] 13) else -1) := by
  rw [vl2, gx_13 (by omega) (by omega), ln_2 ha hb]
  rw [if_pos (by omega), show gro [a, b] 13 = [] from rfl, if_neg vd_0]
theorem gs_2_14 {a b : Int} (ha : 0 < a ∧ a < 10) (hb : 0 ≤ b ∧ b < 10) : F7_grown (vl [a, b]) 14 = some (if vd (gro [a, b] 14) = true then vl (gro [a, b] 14) else -1) := by
  rw [vl2, gx_14 (by omega) (by omega), ln_2 ha hb]
  have hdv : (10 * a + b) / 1 % 10 = b := by omega
  have htb := tb_b (w := 0) (d := b) (by omega) (by omega)
  rw [if_neg (by omega), hdv]
  have g : gro [a, b] 14 = if tb 0 b < 0 then [] else [a, tb 0 b] := rfl
  by_cases z : 0 ≤ tb 0 b
  · rw [if_neg (show ¬ tb 0 b < 0 by omega)] at g
    rw [if_pos z, g, show (10 * a + b) + (tb 0 b - b) * 1 = vl [a, tb 0 b] by rw [vl2]; omega, wv_2 ⟨by omega, by omega⟩ ⟨by omega, by omega⟩]
  · rw [if_pos (show tb 0 b < 0 by omega)] at g
    rw [if_neg z, g, wv_m, if_neg vd_0]
theorem gs_2_15 {a b : Int} (ha : 0 < a ∧ a < 10) (hb : 0 ≤ b ∧ b < 10) : F7_grown (vl [a, b]) 15 = some (if vd (gro [a, b] 15) = true then vl (gro [a, b] 15) else -1) := by
  rw [vl2, gx_15 (by omega) (by omega), ln_2 ha hb]
  have hdv : (10 * a + b) / 1 % 10 = b := by omega
  have htb := tb_b (w := 1) (d := b) (by omega) (by omega)
  rw [if_neg (by omega), hdv]
  have g : gro [a, b] 15 = if tb 1 b < 0 then [] else [a, tb 1 b] := rfl
  by_cases z : 0 ≤ tb 1 b
  · rw [if_neg (show ¬ tb 1 b < 0 by omega)] at g
    rw [if_pos z, g, show (10 * a + b) + (tb 1 b - b) * 1 = vl [a, tb 1 b] by rw [vl2]; omega, wv_2 ⟨by omega, by omega⟩ ⟨by omega, by omega⟩]
  · rw [if_pos (show tb 1 b < 0 by omega)] at g
    rw [if_neg z, g, wv_m, if_neg vd_0]
theorem gs_2_16 {a b : Int} (ha : 0 < a ∧ a < 10) (hb : 0 ≤ b ∧ b < 10) : F7_grown (vl [a, b]) 16 = some (if vd (gro [a, b] 16) = true then vl (gro [a, b] 16) else -1) := by
  rw [vl2, gx_16 (by omega) (by omega), ln_2 ha hb]
  have hdv : (10 * a + b) / 10 % 10 = a := by omega
  have htb := tb_b (w := 0) (d := a) (by omega) (by omega)
  rw [if_neg (by omega), hdv]
  have g : gro [a, b] 16 = if tb 0 a < 0 then [] else [tb 0 a, b] := rfl
  by_cases z : 0 ≤ tb 0 a
  · rw [if_neg (show ¬ tb 0 a < 0 by omega)] at g
    rw [if_pos z, g, show (10 * a + b) + (tb 0 a - a) * 10 = vl [tb 0 a, b] by rw [vl2]; omega, wv_2 ⟨by omega, by omega⟩ ⟨by omega, by omega⟩]
  · rw [if_pos (show tb 0 a < 0 by omega)] at g
    rw [if_neg z, g, wv_m, if_neg vd_0]
theorem gs_2_17 {a b : Int} (ha : 0 < a ∧ a < 10) (hb : 0 ≤ b ∧ b < 10) : F7_grown (vl [a, b]) 17 = some (if vd (gro [a, b] 17) = true then vl (gro [a, b] 17) else -1) := by
  rw [vl2, gx_17 (by omega) (by omega), ln_2 ha hb]
  have hdv : (10 * a + b) / 10 % 10 = a := by omega
  have htb := tb_b (w := 1) (d := a) (by omega) (by omega)
  rw [if_neg (by omega), hdv]
  have g : gro [a, b] 17 = if tb 1 a < 0 then [] else [tb 1 a, b] := rfl
  by_cases z : 0 ≤ tb 1 a
  · rw [if_neg (show ¬ tb 1 a < 0 by omega)] at g
    rw [if_pos z, g, show (10 * a + b) + (tb 1 a - a) * 10 = vl [tb 1 a, b] by rw [vl2]; omega, wv_2 ⟨by omega, by omega⟩ ⟨by omega, by omega⟩]
  · rw [if_pos (show tb 1 a < 0 by omega)] at g
    rw [if_neg z, g, wv_m, if_neg vd_0]
theorem gs_2_18 {a b : Int} (ha : 0 < a ∧ a < 10) (hb : 0 ≤ b ∧ b < 10) : F7_grown (vl [a, b]) 18 = some (if vd (gro [a, b] 18) = true then vl (gro [a, b] 18) else -1) := by
  rw [vl2, gx_18 (by omega) (by omega), ln_2 ha hb]
  rw [if_pos (by omega), show gro [a, b] 18 = [] from rfl, if_neg vd_0]
theorem gs_2_19 {a b : Int} (ha : 0 < a ∧ a < 10) (hb : 0 ≤ b ∧ b < 10) : F7_grown (vl [a, b]) 19 = some (if vd (gro [a, b] 19) = true then vl (gro [a, b] 19) else -1) := by
  rw [vl2, gx_19 (by omega) (by omega), ln_2 ha hb]
  rw [if_pos (by omega), show gro [a, b] 19 = [] from rfl, if_neg vd_0]
theorem gs_2_20 {a b : Int} (ha : 0 < a ∧ a < 10) (hb : 0 ≤ b ∧ b < 10) : F7_grown (vl [a, b]) 20 = some (if vd (gro [a, b] 20) = true then vl (gro [a, b] 20) else -1) := by
  rw [vl2, gx_20 (by omega) (by omega), ln_2 ha hb]
  rw [if_pos (by omega), show gro [a, b] 20 = [] from rfl, if_neg vd_0]
theorem gs_2_21 {a b : Int} (ha : 0 < a ∧ a < 10) (hb : 0 ≤ b ∧ b < 10) : F7_grown (vl [a, b]) 21 = some (if vd (gro [a, b] 21) = true then vl (gro [a, b] 21) else -1) := by
  rw [vl2, gx_21 (by omega) (by omega), ln_2 ha hb]
  rw [if_pos (by omega), show gro [a, b] 21 = [] from rfl, if_neg vd_0]
theorem gs_2_22 {a b : Int} (ha : 0 < a ∧ a < 10) (hb : 0 ≤ b ∧ b < 10) : F7_grown (vl [a, b]) 22 = some (if vd (gro [a, b] 22) = true then vl (gro [a, b] 22) else -1) := by
  rw [vl2, gx_22 (by omega) (by omega), ln_2 ha hb]
  rw [if_pos (by omega), show gro [a, b] 22 = [] from rfl, if_neg vd_0]
theorem gs_2_23 {a b : Int} (ha : 0 < a ∧ a < 10) (hb : 0 ≤ b ∧ b < 10) : F7_grown (vl [a, b]) 23 = some (if vd (gro [a, b] 23) = true then vl (gro [a, b] 23) else -1) := by
  rw [vl2, gx_23 (by omega) (by omega), ln_2 ha hb]
  rw [if_pos (by omega), show gro [a, b] 23 = [] from rfl, if_neg vd_0]
theorem ln_3 {a b c : Int} (ha : 0 < a ∧ a < 10) (hb : 0 ≤ b ∧ b < 10) (hc : 0 ≤ c ∧ c < 10) : ln (100 * a + 10 * b + c) = 3 := by
  unfold ln
  rw [if_neg (by omega), if_neg (by omega), if_pos (by omega)]
theorem gs_3_0 {a b c : Int} (ha : 0 < a ∧ a < 10) (hb : 0 ≤ b ∧ b < 10) (hc : 0 ≤ c ∧ c < 10) : F7_grown (vl [a, b, c]) 0 = some (if vd (gro [a, b, c] 0) = true then vl (gro [a, b, c] 0) else -1) := by
  rw [vl3, gx_0 (by omega) (by omega), ln_3 ha hb hc]
  rw [if_neg (by omega), show gro [a, b, c] 0 = [a, b] from rfl, show (3 : Int) - 1 = 2 from rfl, show (100 * a + 10 * b + c) / 10 * 1 + (100 * a + 10 * b + c) % 1 = vl [a, b] by rw [vl2]; omega, wv_2 ⟨by omega, by omega⟩ ⟨by omega, by omega⟩]
theorem gs_3_1 {a b c : Int} (ha : 0 < a ∧ a < 10) (hb : 0 ≤ b ∧ b < 10) (hc : 0 ≤ c ∧ c < 10) : F7_grown (vl [a, b, c]) 1 = some (if vd (gro [a, b, c] 1) = true then vl (gro [a, b, c] 1) else -1) := by
  rw [vl3, gx_1 (by omega) (by omega), ln_3 ha hb hc]
  rw [if_neg (by omega), show gro [a, b, c] 1 = [a, c] from rfl, show (3 : Int) - 1 = 2 from rfl, show (100 * a + 10 * b + c) / 100 * 10 + (100 * a + 10 * b + c) % 10 = vl [a, c] by rw [vl2]; omega, wv_2 ⟨by omega, by omega⟩ ⟨by omega, by omega⟩]
theorem gs_3_2 {a b c : Int} (ha : 0 < a ∧ a < 10) (hb : 0 ≤ b ∧ b < 10) (hc : 0 ≤ c ∧ c < 10) : F7_grown (vl [a, b, c]) 2 = some (if vd (gro [a, b, c] 2) = true then vl (gro [a, b, c] 2) else -1) := by
  rw [vl3, gx_2 (by omega) (by omega), ln_3 ha hb hc]
  rw [if_neg (by omega), show gro [a, b, c] 2 = [b, c] from rfl, show (3 : Int) - 1 = 2 from rfl, show (100 * a + 10 * b + c) / 1000 * 100 + (100 * a + 10 * b + c) % 100 = vl [b, c] by rw [vl2]; omega, wv_2 ⟨by omega, by omega⟩ ⟨by omega, by omega⟩]
theorem gs_3_3 {a b c : Int} (ha : 0 < a ∧ a < 10) (hb : 0 ≤ b ∧ b < 10) (hc : 0 ≤ c ∧ c < 10) : F7_grown (vl [a, b, c]) 3 = some (if vd (gro [a, b, c] 3) = true then vl (gro [a, b, c] 3) else -1) := by
  rw [vl3, gx_3 (by omega) (by omega), ln_3 ha hb hc]
  rw [if_pos (by omega), show gro [a, b, c] 3 = [] from rfl, if_neg vd_0]
theorem gs_3_4 {a b c : Int} (ha : 0 < a ∧ a < 10) (hb : 0 ≤ b ∧ b < 10) (hc : 0 ≤ c ∧ c < 10) : F7_grown (vl [a, b, c]) 4 = some (if vd (gro [a, b, c] 4) = true then vl (gro [a, b, c] 4) else -1) := by
  rw [vl3, gx_4 (by omega) (by omega), ln_3 ha hb hc]
  rw [if_pos (by omega), show gro [a, b, c] 4 = [] from rfl, if_neg vd_0]
theorem gs_3_5 {a b c : Int} (ha : 0 < a ∧ a < 10) (hb : 0 ≤ b ∧ b < 10) (hc : 0 ≤ c ∧ c < 10) : F7_grown (vl [a, b, c]) 5 = some (if vd (gro [a, b, c] 5) = true then vl (gro [a, b, c] 5) else -1) := by
  rw [vl3, gx_5 (by omega) (by omega), ln_3 ha hb hc]
  rw [if_neg (by omega), show gro [a, b, c] 5 = [a, b, c, c] from rfl, show (3 : Int) + 1 = 4 from rfl, show ((100 * a + 10 * b + c) / 1 * 10 + (100 * a + 10 * b + c) / 1 % 10) * 1 + (100 * a + 10 * b + c) % 1 = vl [a, b, c, c] by rw [vl4]; omega, wv_4 ⟨by omega, by omega⟩ ⟨by omega, by omega⟩ ⟨by omega, by omega⟩ ⟨by omega, by omega⟩]
theorem gs_3_6 {a b c : Int} (ha : 0 < a ∧ a < 10) (hb : 0 ≤ b ∧ b < 10) (hc : 0 ≤ c ∧ c < 10) : F7_grown (vl [a, b, c]) 6 = some (if vd (gro [a, b, c] 6) = true then vl (gro [a, b, c] 6) else -1) := by
  rw [vl3, gx_6 (by omega) (by omega), ln_3 ha hb hc]
  rw [if_neg (by omega), show gro [a, b, c] 6 = [a, b, b, c] from rfl, show (3 : Int) + 1 = 4 from rfl, show ((100 * a + 10 * b + c) / 10 * 10 + (100 * a + 10 * b + c) / 10 % 10) * 10 + (100 * a + 10 * b + c) % 10 = vl [a, b, b, c] by rw [vl4]; omega, wv_4 ⟨by omega, by omega⟩ ⟨by omega, by omega⟩ ⟨by omega, by omega⟩ ⟨by omega, by omega⟩]
theorem gs_3_7 {a b c : Int} (ha : 0 < a ∧ a < 10) (hb : 0 ≤ b ∧ b < 10) (hc : 0 ≤ c ∧ c < 10) : F7_grown (vl [a, b, c]) 7 = some (if vd (gro [a, b, c] 7) = true then vl (gro [a, b, c] 7) else -1) := by
  rw [vl3, gx_7 (by omega) (by omega), ln_3 ha hb hc]
  rw [if_neg (by omega), show gro [a, b, c] 7 = [a, a, b, c] from rfl, show (3 : Int) + 1 = 4 from rfl, show ((100 * a + 10 * b + c) / 100 * 10 + (100 * a + 10 * b + c) / 100 % 10) * 100 + (100 * a + 10 * b + c) % 100 = vl [a, a, b, c] by rw [vl4]; omega, wv_4 ⟨by omega, by omega⟩ ⟨by omega, by omega⟩ ⟨by omega, by omega⟩ ⟨by omega, by omega⟩]
theorem gs_3_8 {a b c : Int} (ha : 0 < a ∧ a < 10) (hb : 0 ≤ b ∧ b < 10) (hc : 0 ≤ c ∧ c < 10) : F7_grown (vl [a, b, c]) 8 = some (if vd (gro [a, b, c] 8) = true then vl (gro [a, b, c] 8) else -1) := by
  rw [vl3, gx_8 (by omega) (by omega), ln_3 ha hb hc]
  rw [if_pos (by omega), show gro [a, b, c] 8 = [] from rfl, if_neg vd_0]
theorem gs_3_9 {a b c : Int} (ha : 0 < a ∧ a < 10) (hb : 0 ≤ b ∧ b < 10) (hc : 0 ≤ c ∧ c < 10) : F7_grown (vl [a, b, c]) 9 = some (if vd (gro [a, b, c] 9) = true then vl (gro [a, b, c] 9) else -1) := by
  rw [vl3, gx_9 (by omega) (by omega), ln_3 ha hb hc]
  rw [if_pos (by omega), show gro [a, b, c] 9 = [] from rfl, if_neg vd_0]
theorem gs_3_10 {a b c : Int} (ha : 0 < a ∧ a < 10) (hb : 0 ≤ b ∧ b < 10) (hc : 0 ≤ c ∧ c < 10) : F7_grown (vl [a, b, c]) 10 = some (if vd (gro [a, b, c] 10) = true then vl (gro [a, b, c] 10) else -1) := by
  rw [vl3, gx_10 (by omega) (by omega), ln_3 ha hb hc]
  rw [if_neg (by omega), show gro [a, b, c] 10 = [a, c, b] from rfl, show (100 * a + 10 * b + c) + ((100 * a + 10 * b + c) / 1 % 10 - (100 * a + 10 * b + c) / 10 % 10) * 9 = vl [a, c, b] by rw [vl3]; omega, wv_3 ⟨by omega, by omega⟩ ⟨by omega, by omega⟩ ⟨by omega, by omega⟩]
theorem gs_3_11 {a b c : Int} (ha : 0 < a ∧ a < 10) (hb : 0 ≤ b ∧ b < 10) (hc : 0 ≤ c ∧ c < 10) : F7_grown (vl [a, b, c]) 11 = some (if vd (gro [a, b, c] 11) = true then vl (gro [a, b, c] 11) else -1) := by
  rw [vl3, gx_11 (by omega) (by omega), ln_3 ha hb hc]
  rw [if_neg (by omega), show gro [a, b, c] 11 = [b, a, c] from rfl, show (100 * a + 10 * b + c) + ((100 * a + 10 * b + c) / 10 % 10 - (100 * a + 10 * b + c) / 100 % 10) * 90 = vl [b, a, c] by rw [vl3]; omega, wv_3 ⟨by omega, by omega⟩ ⟨by omega, by omega⟩ ⟨by omega, by omega⟩]
theorem gs_3_12 {a b c : Int} (ha : 0 < a ∧ a < 10) (hb : 0 ≤ b ∧ b < 10) (hc : 0 ≤ c ∧ c < 10) : F7_grown (vl [a, b, c]) 12 = some (if vd (gro [a, b, c] 12) = true then vl (gro [a, b, c] 12) else -1) := by
  rw [vl3, gx_12 (by omega) (by omega), ln_3 ha hb hc]
  rw [if_pos (by omega), show gro [a, b, c] 12 = [] from rfl, if_neg vd_0]
theorem gs_3_13 {a b c : Int} (ha : 0 < a ∧ a < 10) (hb : 0 ≤ b ∧ b < 10) (hc : 0 ≤ c ∧ c < 10) : F7_grown (vl [a, b, c]) 13 = some (if vd (gro [a, b, c] 13) = true then vl (gro [a, b, c] 13) else -1) := by
  rw [vl3, gx_13 (by omega) (by omega), ln_3 ha hb hc]
  rw [if_pos (by omega), show gro [a, b, c] 13 = [] from rfl, if_neg vd_0]
theorem gs_3_14 {a b c : Int} (ha : 0 < a ∧ a < 10) (hb : 0 ≤ b ∧ b < 10) (hc : 0 ≤ c ∧ c < 10) : F7_grown (vl [a, b, c]) 14 = some (if vd (gro [a, b, c] 14) = true then vl (gro [a, b, c] 14) else -1) := by
  rw [vl3, gx_14 (by omega) (by omega), ln_3 ha hb hc]
  have hdv : (100 * a + 10 * b + c) / 1 % 10 = c := by omega
  have htb := tb_b (w := 0) (d := c) (by omega) (by omega)
  rw [if_neg (by omega), hdv]
  have g : gro [a, b, c] 14 = if tb 0 c < 0 then [] else [a, b, tb 0 c] := rfl
  by_cases z : 0 ≤ tb 0 c
  · rw [if_neg (show ¬ tb 0 c < 0 by omega)] at g
    rw [if_pos z, g, show (100 * a + 10 * b + c) + (tb 0 c - c) * 1 = vl [a, b, tb 0 c] by rw [vl3]; omega, wv_3 ⟨by omega, by omega⟩ ⟨by omega, by omega⟩ ⟨by omega, by omega⟩]
  · rw [if_pos (show tb 0 c < 0 by omega)] at g
    rw [if_neg z, g, wv_m, if_neg vd_0]
theorem gs_3_15 {a b c : Int} (ha : 0 < a ∧ a < 10) (hb : 0 ≤ b ∧ b < 10) (hc : 0 ≤ c ∧ c < 10) : F7_grown (vl [a, b, c]) 15 = some (if vd (gro [a, b, c] 15) = true then vl (gro [a, b, c] 15) else -1) := by
  rw [vl3, gx_15 (by omega) (by omega), ln_3 ha hb hc]
  have hdv : (100 * a + 10 * b + c) / 1 % 10 = c := by omega
  have htb := tb_b (w := 1) (d := c) (by omega) (by omega)
  rw [if_neg (by omega), hdv]
  have g : gro [a, b, c] 15 = if tb 1 c < 0 then [] else [a, b, tb 1 c] := rfl
  by_cases z : 0 ≤ tb 1 c
  · rw [if_neg (show ¬ tb 1 c < 0 by omega)] at g
    rw [if_pos z, g, show (100 * a + 10 * b + c) + (tb 1 c - c) * 1 = vl [a, b, tb 1 c] by rw [vl3]; omega, wv_3 ⟨by omega, by omega⟩ ⟨by omega, by omega⟩ ⟨by omega, by omega⟩]
  · rw [if_pos (show tb 1 c < 0 by omega)] at g
    rw [if_neg z, g, wv_m, if_neg vd_0]
theorem gs_3_16 {a b c : Int} (ha : 0 < a ∧ a < 10) (hb : 0 ≤ b ∧ b < 10) (hc : 0 ≤ c ∧ c < 10) : F7_grown (vl [a, b, c]) 16 = some (if vd (gro [a, b, c] 16) = true then vl (gro [a, b, c] 16) else -1) := by
  rw [vl3, gx_16 (by omega) (by omega), ln_3 ha hb hc]
  have hdv : (100 * a + 10 * b + c) / 10 % 10 = b := by omega
  have htb := tb_b (w := 0) (d := b) (by omega) (by omega)
  rw [if_neg (by omega), hdv]
  have g : gro [a, b, c] 16 = if tb 0 b < 0 then [] else [a, tb 0 b, c] := rfl
  by_cases z : 0 ≤ tb 0 b
  · rw [if_neg (show ¬ tb 0 b < 0 by omega)] at g
    rw [if_pos z, g, show (100 * a + 10 * b + c) + (tb 0 b - b) * 10 = vl [a, tb 0 b, c] by rw [vl3]; omega, wv_3 ⟨by omega, by omega⟩ ⟨by omega, by omega⟩ ⟨by omega, by omega⟩]
  · rw [if_pos (show tb 0 b < 0 by omega)] at g
    rw [if_neg z, g, wv_m, if_neg vd_0]
theorem gs_3_17 {a b c : Int} (ha : 0 < a ∧ a < 10) (hb : 0 ≤ b ∧ b < 10) (hc : 0 ≤ c ∧ c < 10) : F7_grown (vl [a, b, c]) 17 = some (if vd (gro [a, b, c] 17) = true then vl (gro [a, b, c] 17) else -1) := by
  rw [vl3, gx_17 (by omega) (by omega), ln_3 ha hb hc]
  have hdv : (100 * a + 10 * b + c) / 10 % 10 = b := by omega
  have htb := tb_b (w := 1) (d := b) (by omega) (by omega)
  rw [if_neg (by omega), hdv]
  have g : gro [a, b, c] 17 = if tb 1 b < 0 then [] else [a, tb 1 b, c] := rfl
  by_cases z : 0 ≤ tb 1 b
  · rw [if_neg (show ¬ tb 1 b < 0 by omega)] at g
    rw [if_pos z, g, show (100 * a + 10 * b + c) + (tb 1 b - b) * 10 = vl [a, tb 1 b, c] by rw [vl3]; omega, wv_3 ⟨by omega, by omega⟩ ⟨by omega, by omega⟩ ⟨by omega, by omega⟩]
  · rw [if_pos (show tb 1 b < 0 by omega)] at g
    rw [if_neg z, g, wv_m, if_neg vd_0]
theorem gs_3_18 {a b c : Int} (ha : 0 < a ∧ a < 10) (hb : 0 ≤ b ∧ b < 10) (hc : 0 ≤ c ∧ c < 10) : F7_grown (vl [a, b, c]) 18 = some (if vd (gro [a, b, c] 18) = true then vl (gro [a, b, c] 18) else -1) := by
  rw [vl3, gx_18 (by omega) (by omega), ln_3 ha hb hc]
  have hdv : (100 * a + 10 * b + c) / 100 % 10 = a := by omega
  have htb := tb_b (w := 0) (d := a) (by omega) (by omega)
  rw [if_neg (by omega), hdv]
  have g : gro [a, b, c] 18 = if tb 0 a < 0 then [] else [tb 0 a, b, c] := rfl
  by_cases z : 0 ≤ tb 0 a
  · rw [if_neg (show ¬ tb 0 a < 0 by omega)] at g
    rw [if_pos z, g, show (100 * a + 10 * b + c) + (tb 0 a - a) * 100 = vl [tb 0 a, b, c] by rw [vl3]; omega, wv_3 ⟨by omega, by omega⟩ ⟨by omega, by omega⟩ ⟨by omega, by omega⟩]
  · rw [if_pos (show tb 0 a < 0 by omega)] at g
    rw [if_neg z, g, wv_m, if_neg vd_0]
theorem gs_3_19 {a b c : Int} (ha : 0 < a ∧ a < 10) (hb : 0 ≤ b ∧ b < 10) (hc : 0 ≤ c ∧ c < 10) : F7_grown (vl [a, b, c]) 19 = some (if vd (gro [a, b, c] 19) = true then vl (gro [a, b, c] 19) else -1) := by
  rw [vl3, gx_19 (by omega) (by omega), ln_3 ha hb hc]
  have hdv : (100 * a + 10 * b + c) / 100 % 10 = a := by omega
  have htb := tb_b (w := 1) (d := a) (by omega) (by omega)
  rw [if_neg (by omega), hdv]
  have g : gro [a, b, c] 19 = if tb 1 a < 0 then [] else [tb 1 a, b, c] := rfl
  by_cases z : 0 ≤ tb 1 a
  · rw [if_neg (show ¬ tb 1 a < 0 by omega)] at g
    rw [if_pos z, g, show (100 * a + 10 * b + c) + (tb 1 a - a) * 100 = vl [tb 1 a, b, c] by rw [vl3]; omega, wv_3 ⟨by omega, by omega⟩ ⟨by omega, by omega⟩ ⟨by omega, by omega⟩]
  · rw [if_pos (show tb 1 a < 0 by omega)] at g
    rw [if_neg z, g, wv_m, if_neg vd_0]
theorem gs_3_20 {a b c : Int} (ha : 0 < a ∧ a < 10) (hb : 0 ≤ b ∧ b < 10) (hc : 0 ≤ c ∧ c < 10) : F7_grown (vl [a, b, c]) 20 = some (if vd (gro [a, b, c] 20) = true then vl (gro [a, b, c] 20) else -1) := by
  rw [vl3, gx_20 (by omega) (by omega), ln_3 ha hb hc]
  rw [if_pos (by omega), show gro [a, b, c] 20 = [] from rfl, if_neg vd_0]
theorem gs_3_21 {a b c : Int} (ha : 0 < a ∧ a < 10) (hb : 0 ≤ b ∧ b < 10) (hc : 0 ≤ c ∧ c < 10) : F7_grown (vl [a, b, c]) 21 = some (if vd (gro [a, b, c] 21) = true then vl (gro [a, b, c] 21) else -1) := by
  rw [vl3, gx_21 (by omega) (by omega), ln_3 ha hb hc]
  rw [if_pos (by omega), show gro [a, b, c] 21 = [] from rfl, if_neg vd_0]
theorem gs_3_22 {a b c : Int} (ha : 0 < a ∧ a < 10) (hb : 0 ≤ b ∧ b < 10) (hc : 0 ≤ c ∧ c < 10) : F7_grown (vl [a, b, c]) 22 = some (if vd (gro [a, b, c] 22) = true then vl (gro [a, b, c] 22) else -1) := by
  rw [vl3, gx_22 (by omega) (by omega), ln_3 ha hb hc]
  rw [if_pos (by omega), show gro [a, b, c] 22 = [] from rfl, if_neg vd_0]
theorem gs_3_23 {a b c : Int} (ha : 0 < a ∧ a < 10) (hb : 0 ≤ b ∧ b < 10) (hc : 0 ≤ c ∧ c < 10) : F7_grown (vl [a, b, c]) 23 = some (if vd (gro [a, b, c] 23) = true then vl (gro [a, b, c] 23) else -1) := by
  rw [vl3, gx_23 (by omega) (by omega), ln_3 ha hb hc]
  rw [if_pos (by omega), show gro [a, b, c] 23 = [] from rfl, if_neg vd_0]
theorem ln_4 {a b c d : Int} (ha : 0 < a ∧ a < 10) (hb : 0 ≤ b ∧ b < 10) (hc : 0 ≤ c ∧ c < 10) (hd : 0 ≤ d ∧ d < 10) : ln (1000 * a + 100 * b + 10 * c + d) = 4 := by
  unfold ln
  rw [if_neg (by omega), if_neg (by omega), if_neg (by omega), if_pos (by omega)]
theorem gs_4_0 {a b c d : Int} (ha : 0 < a ∧ a < 10) (hb : 0 ≤ b ∧ b < 10) (hc : 0 ≤ c ∧ c < 10) (hd : 0 ≤ d ∧ d < 10) : F7_grown (vl [a, b, c, d]) 0 = some (if vd (gro [a, b, c, d] 0) = true then vl (gro [a, b, c, d] 0) else -1) := by
  rw [vl4, gx_0 (by omega) (by omega), ln_4 ha hb hc hd]
  rw [if_neg (by omega), show gro [a, b, c, d] 0 = [a, b, c] from rfl, show (4 : Int) - 1 = 3 from rfl, show (1000 * a + 100 * b + 10 * c + d) / 10 * 1 + (1000 * a + 100 * b + 10 * c + d) % 1 = vl [a, b, c] by rw [vl3]; omega, wv_3 ⟨by omega, by omega⟩ ⟨by omega, by omega⟩ ⟨by omega, by omega⟩]
theorem gs_4_1 {a b c d : Int} (ha : 0 < a ∧ a < 10) (hb : 0 ≤ b ∧ b < 10) (hc : 0 ≤ c ∧ c < 10) (hd : 0 ≤ d ∧ d < 10) : F7_grown (vl [a, b, c, d]) 1 = some (if vd (gro [a, b, c, d] 1) = true then vl (gro [a, b, c, d] 1) else -1) := by
  rw [vl4, gx_1 (by omega) (by omega), ln_4 ha hb hc hd]
  rw [if_neg (by omega), show gro [a, b, c, d] 1 = [a, b, d] from rfl, show (4 : Int) - 1 = 3 from rfl, show (1000 * a + 100 * b + 10 * c + d) / 100 * 10 + (1000 * a + 100 * b + 10 * c + d) % 10 = vl [a, b, d] by rw [vl3]; omega, wv_3 ⟨by omega, by omega⟩ ⟨by omega, by omega⟩ ⟨by omega, by omega⟩]
theorem gs_4_2 {a b c d : Int} (ha : 0 < a ∧ a < 10) (hb : 0 ≤ b ∧ b < 10) (hc : 0 ≤ c ∧ c < 10) (hd : 0 ≤ d ∧ d < 10) : F7_grown (vl [a, b, c, d]) 2 = some (if vd (gro [a, b, c, d] 2) = true then vl (gro [a, b, c, d] 2) else -1) := by
  rw [vl4, gx_2 (by omega) (by omega), ln_4 ha hb hc hd]
  rw [if_neg (by omega), show gro [a, b, c, d] 2 = [a, c, d] from rfl, show (4 : Int) - 1 = 3 from rfl, show (1000 * a + 100 * b + 10 * c + d) / 1000 * 100 + (1000 * a + 100 * b + 10 * c + d) % 100 = vl [a, c, d] by rw [vl3]; omega, wv_3 ⟨by omega, by omega⟩ ⟨by omega, by omega⟩ ⟨by omega, by omega⟩]
theorem gs_4_3 {a b c d : Int} (ha : 0 < a ∧ a < 10) (hb : 0 ≤ b ∧ b < 10) (hc : 0 ≤ c ∧ c < 10) (hd : 0 ≤ d ∧ d < 10) : F7_grown (vl [a, b, c, d]) 3 = some (if vd (gro [a, b, c, d] 3) = true then vl (gro [a, b, c, d] 3) else -1) := by
  rw [vl4, gx_3 (by omega) (by omega), ln_4 ha hb hc hd]
  rw [if_neg (by omega), show gro [a, b, c, d] 3 = [b, c, d] from rfl, show (4 : Int) - 1 = 3 from rfl, show (1000 * a + 100 * b + 10 * c + d) / 10000 * 1000 + (1000 * a + 100 * b + 10 * c + d) % 1000 = vl [b, c, d] by rw [vl3]; omega, wv_3 ⟨by omega, by omega⟩ ⟨by omega, by omega⟩ ⟨by omega, by omega⟩]
theorem gs_4_4 {a b c d : Int} (ha : 0 < a ∧ a < 10) (hb : 0 ≤ b ∧ b < 10) (hc : 0 ≤ c ∧ c < 10) (hd : 0 ≤ d ∧ d < 10) : F7_grown (vl [a, b, c, d]) 4 = some (if vd (gro [a, b, c, d] 4) = true then vl (gro [a, b, c, d] 4) else -1) := by
  rw [vl4, gx_4 (by omega) (by omega), ln_4 ha hb hc hd]
  rw [if_pos (by omega), show gro [a, b, c, d] 4 = [] from rfl, if_neg vd_0]
theorem gs_4_5 {a b c d : Int} (ha : 0 < a ∧ a < 10) (hb : 0 ≤ b ∧ b < 10) (hc : 0 ≤ c ∧ c < 10) (hd : 0 ≤ d ∧ d < 10) : F7_grown (vl [a, b, c, d]) 5 = some (if vd (gro [a, b, c, d] 5) = true then vl (gro [a, b, c, d] 5) else -1) := by
  rw [vl4, gx_5 (by omega) (by omega), ln_4 ha hb hc hd]
  rw [if_neg (by omega), show gro [a, b, c, d] 5 = [a, b, c, d, d] from rfl, show (4 : Int) + 1 = 5 from rfl, show ((1000 * a + 100 * b + 10 * c + d) / 1 * 10 + (1000 * a + 100 * b + 10 * c + d) / 1 % 10) * 1 + (1000 * a + 100 * b + 10 * c + d) % 1 = vl [a, b, c, d, d] by rw [vl5]; omega, wv_5 ⟨by omega, by omega⟩ ⟨by omega, by omega⟩ ⟨by omega, by omega⟩ ⟨by omega, by omega⟩ ⟨by omega, by omega⟩]
theorem gs_4_6 {a b c d : Int} (ha : 0 < a ∧ a < 10) (hb : 0 ≤ b ∧ b < 10) (hc : 0 ≤ c ∧ c < 10) (hd : 0 ≤ d ∧ d < 10) : F7_grown (vl [a, b, c, d]) 6 = some (if vd (gro [a, b, c, d] 6) = true then vl (gro [a, b, c, d] 6) else -1) := by
  rw [vl4, gx_6 (by omega) (by omega), ln_4 ha hb hc hd]
  rw [if_neg (by omega), show gro [a, b, c, d] 6 = [a, b, c, c, d] from rfl, show (4 : Int) + 1 = 5 from rfl, show ((1000 * a + 100 * b + 10 * c + d) / 10 * 10 + (1000 * a + 100 * b + 10 * c + d) / 10 % 10) * 10 + (1000 * a + 100 * b + 10 * c + d) % 10 = vl [a, b, c, c, d] by rw [vl5]; omega, wv_5 ⟨by omega, by omega⟩ ⟨by omega, by omega⟩ ⟨by omega, by omega⟩ ⟨by omega, by omega⟩ ⟨by omega, by omega⟩]
theorem gs_4_7 {a b c d : Int} (ha : 0 < a ∧ a < 10) (hb : 0 ≤ b ∧ b < 10) (hc : 0 ≤ c ∧ c < 10) (hd : 0 ≤ d ∧ d < 10) : F7_grown (vl [a, b, c, d]) 7 = some (if vd (gro [a, b, c, d] 7) = true then vl (gro [a, b, c, d] 7) else -1) := by
  rw [vl4, gx_7 (by omega) (by omega), ln_4 ha hb hc hd]
  rw [if_neg (by omega), show gro [a, b, c, d] 7 = [a, b, b, c, d] from rfl, show (4 : Int) + 1 = 5 from rfl, show ((1000 * a + 100 * b + 10 * c + d) / 100 * 10 + (1000 * a + 100 * b + 10 * c + d) / 100 % 10) * 100 + (1000 * a + 100 * b + 10 * c + d) % 100 = vl [a, b, b, c, d] by rw [vl5]; omega, wv_5 ⟨by omega, by omega⟩ ⟨by omega, by omega⟩ ⟨by omega, by omega⟩ ⟨by omega, by omega⟩ ⟨by omega, by omega⟩]
theorem gs_4_8 {a b c d : Int} (ha : 0 < a ∧ a < 10) (hb : 0 ≤ b ∧ b < 10) (hc : 0 ≤ c ∧ c < 10) (hd : 0 ≤ d ∧ d < 10) : F7_grown (vl [a, b, c, d]) 8 = some (if vd (gro [a, b, c, d] 8) = true then vl (gro [a, b, c, d] 8) else -1) := by
  rw [vl4, gx_8 (by omega) (by omega), ln_4 ha hb hc hd]
  rw [if_neg (by omega), show gro [a, b, c, d] 8 = [a, a, b, c, d] from rfl, show (4 : Int) + 1 = 5 from rfl, show ((1000 * a + 100 * b + 10 * c + d) / 1000 * 10 + (1000 * a + 100 * b + 10 * c + d) / 1000 % 10) * 1000 + (1000 * a + 100 * b + 10 * c + d) % 1000 = vl [a, a, b, c, d] by rw [vl5]; omega, wv_5 ⟨by omega, by omega⟩ ⟨by omega, by omega⟩ ⟨by omega, by omega⟩ ⟨by omega, by omega⟩ ⟨by omega, by omega⟩]
theorem gs_4_9 {a b c d : Int} (ha : 0 < a ∧ a < 10) (hb : 0 ≤ b ∧ b < 10) (hc : 0 ≤ c ∧ c < 10) (hd : 0 ≤ d ∧ d < 10) : F7_grown (vl [a, b, c, d]) 9 = some (if vd (gro [a, b, c, d] 9) = true then vl (gro [a, b, c, d] 9) else -1) := by
  rw [vl4, gx_9 (by omega) (by omega), ln_4 ha hb hc hd]
  rw [if_pos (by omega), show gro [a, b, c, d] 9 = [] from rfl, if_neg vd_0]
theorem gs_4_10 {a b c d : Int} (ha : 0 < a ∧ a < 10) (hb : 0 ≤ b ∧ b < 10) (hc : 0 ≤ c ∧ c < 10) (hd : 0 ≤ d ∧ d < 10) : F7_grown (vl [a, b, c, d]) 10 = some (if vd (gro [a, b, c, d] 10) = true then vl (gro [a, b, c, d] 10) else -1) := by
  rw [vl4, gx_10 (by omega) (by omega), ln_4 ha hb hc hd]
  rw [if_neg (by omega), show gro [a, b, c, d] 10 = [a, b, d, c] from rfl, show (1000 * a + 100 * b + 10 * c + d) + ((1000 * a + 100 * b + 10 * c + d) / 1 % 10 - (1000 * a + 100 * b + 10 * c + d) / 10 % 10) * 9 = vl [a, b, d, c] by rw [vl4]; omega, wv_4 ⟨by omega, by omega⟩ ⟨by omega, by omega⟩ ⟨by omega, by omega⟩ ⟨by omega, by omega⟩]
theorem gs_4_11 {a b c d : Int} (ha : 0 < a ∧ a < 10) (hb : 0 ≤ b ∧ b < 10) (hc : 0 ≤ c ∧ c < 10) (hd : 0 ≤ d ∧ d < 10) : F7_grown (vl [a, b, c, d]) 11 = some (if vd (gro [a, b, c, d] 11) = true then vl (gro [a, b, c, d] 11) else -1) := by
  rw [vl4, gx_11 (by omega) (by omega), ln_4 ha hb hc hd]
  rw [if_neg (by omega), show gro [a, b, c, d] 11 = [a, c, b, d] from rfl, show (1000 * a + 100 * b + 10 * c + d) + ((1000 * a + 100 * b + 10 * c + d) / 10 % 10 - (1000 * a + 100 * b + 10 * c + d) / 100 % 10) * 90 = vl [a, c, b, d] by rw [vl4]; omega, wv_4 ⟨by omega, by omega⟩ ⟨by omega, by omega⟩ ⟨by omega, by omega⟩ ⟨by omega, by omega⟩]
theorem gs_4_12 {a b c d : Int} (ha : 0 < a ∧ a < 10) (hb : 0 ≤ b ∧ b < 10) (hc : 0 ≤ c ∧ c < 10) (hd : 0 ≤ d ∧ d < 10) : F7_grown (vl [a, b, c, d]) 12 = some (if vd (gro [a, b, c, d] 12) = true then vl (gro [a, b, c, d] 12) else -1) := by
  rw [vl4, gx_12 (by omega) (by omega), ln_4 ha hb hc hd]
  rw [if_neg (by omega), show gro [a, b, c, d] 12 = [b, a, c, d] from rfl, show (1000 * a + 100 * b + 10 * c + d) + ((1000 * a + 100 * b + 10 * c + d) / 100 % 10 - (1000 * a + 100 * b + 10 * c + d) / 1000 % 10) * 900 = vl [b, a, c, d] by rw [vl4]; omega, wv_4 ⟨by omega, by omega⟩ ⟨by omega, by omega⟩ ⟨by omega, by omega⟩ ⟨by omega, by omega⟩]
theorem gs_4_13 {a b c d : Int} (ha : 0 < a ∧ a < 10) (hb : 0 ≤ b ∧ b < 10) (hc : 0 ≤ c ∧ c < 10) (hd : 0 ≤ d ∧ d < 10) : F7_grown (vl [a, b, c, d]) 13 = some (if vd (gro [a, b, c, d] 13) = true then vl (gro [a, b, c, d] 13) else -1) := by
  rw [vl4, gx_13 (by omega) (by omega), ln_4 ha hb hc hd]
  rw [if_pos (by omega), show gro [a, b, c, d] 13 = [] from rfl, if_neg vd_0]
theorem gs_4_14 {a b c d : Int} (ha : 0 < a ∧ a < 10) (hb : 0 ≤ b ∧ b < 10) (hc : 0 ≤ c ∧ c < 10) (hd : 0 ≤ d ∧ d < 10) : F7_grown (vl [a, b, c, d]) 14 = some (if vd (gro [a, b, c, d] 14) = true then vl (gro [a, b, c, d] 14) else -1) := by
  rw [vl4, gx_14 (by omega) (by omega), ln_4 ha hb hc hd]
  have hdv : (1000 * a + 100 * b + 10 * c + d) / 1 % 10 = d := by omega
  have htb := tb_b (w := 0) (d := d) (by omega) (by omega)
  rw [if_neg (by omega), hdv]
  have g : gro [a, b, c, d] 14 = if tb 0 d < 0 then [] else [a, b, c, tb 0 d] := rfl
  by_cases z : 0 ≤ tb 0 d
  · rw [if_neg (show ¬ tb 0 d < 0 by omega)] at g
    rw [if_pos z, g, show (1000 * a + 100 * b + 10 * c + d) + (tb 0 d - d) * 1 = vl [a, b, c, tb 0 d] by rw [vl4]; omega, wv_4 ⟨by omega, by omega⟩ ⟨by omega, by omega⟩ ⟨by omega, by omega⟩ ⟨by omega, by omega⟩]
  · rw [if_pos (show tb 0 d < 0 by omega)] at g
    rw [if_neg z, g, wv_m, if_neg vd_0]
theorem gs_4_15 {a b c d : Int} (ha : 0 < a ∧ a < 10) (hb : 0 ≤ b ∧ b < 10) (hc : 0 ≤ c ∧ c < 10) (hd : 0 ≤ d ∧ d < 10) : F7_grown (vl [a, b, c, d]) 15 = some (if vd (gro [a, b, c, d] 15) = true then vl (gro [a, b, c, d] 15) else -1) := by
  rw [vl4, gx_15 (by omega) (by omega), ln_4 ha hb hc hd]
  have hdv : (1000 * a + 100 * b + 10 * c + d) / 1 % 10 = d := by omega
  have htb := tb_b (w := 1) (d := d) (by omega) (by omega)
  rw [if_neg (by omega), hdv]
  have g : gro [a, b, c, d] 15 = if tb 1 d < 0 then [] else [a, b, c, tb 1 d] := rfl
  by_cases z : 0 ≤ tb 1 d
  · rw [if_neg (show ¬ tb 1 d < 0 by omega)] at g
    rw [if_pos z, g, show (1000 * a + 100 * b + 10 * c + d) + (tb 1 d - d) * 1 = vl [a, b, c, tb 1 d] by rw [vl4]; omega, wv_4 ⟨by omega, by omega⟩ ⟨by omega, by omega⟩ ⟨by omega, by omega⟩ ⟨by omega, by omega⟩]
  · rw [if_pos (show tb 1 d < 0 by omega)] at g
    rw [if_neg z, g, wv_m, if_neg vd_0]
theorem gs_4_16 {a b c d : Int} (ha : 0 < a ∧ a < 10) (hb : 0 ≤ b ∧ b < 10) (hc : 0 ≤ c ∧ c < 10) (hd : 0 ≤ d ∧ d < 10) : F7_grown (vl [a, b, c, d]) 16 = some (if vd (gro [a, b, c, d] 16) = true then vl (gro [a, b, c, d] 16) else -1) := by
  rw [vl4, gx_16 (by omega) (by omega), ln_4 ha hb hc hd]
  have hdv : (1000 * a + 100 * b + 10 * c + d) / 10 % 10 = c := by omega
  have htb := tb_b (w := 0) (d := c) (by omega) (by omega)
  rw [if_neg (by omega), hdv]
  have g : gro [a, b, c, d] 16 = if tb 0 c < 0 then [] else [a, b, tb 0 c, d] := rfl
  by_cases z : 0 ≤ tb 0 c
  · rw [if_neg (show ¬ tb 0 c < 0 by omega)] at g
    rw [if_pos z, g, show (1000 * a + 100 * b + 10 * c + d) + (tb 0 c - c) * 10 = vl [a, b, tb 0 c, d] by rw [vl4]; omega, wv_4 ⟨by omega, by omega⟩ ⟨by omega, by omega⟩ ⟨by omega, by omega⟩ ⟨by omega, by omega⟩]
  · rw [if_pos (show tb 0 c < 0 by omega)] at g
    rw [if_neg z, g, wv_m, if_neg vd_0]
theorem gs_4_17 {a b c d : Int} (ha : 0 < a ∧ a < 10) (hb : 0 ≤ b ∧ b < 10) (hc : 0 ≤ c ∧ c < 10) (hd : 0 ≤ d ∧ d < 10) : F7_grown (vl [a, b, c, d]) 17 = some (if vd (gro [a, b, c, d] 17) = true then vl (gro [a, b, c, d] 17) else -1) := by
  rw [vl4, gx_17 (by omega) (by omega), ln_4 ha hb hc hd]
  have hdv : (1000 * a + 100 * b + 10 * c + d) / 10 % 10 = c := by omega
  have htb := tb_b (w := 1) (d := c) (by omega) (by omega)
  rw [if_neg (by omega), hdv]
  have g : gro [a, b, c, d] 17 = if tb 1 c < 0 then [] else [a, b, tb 1 c, d] := rfl
  by_cases z : 0 ≤ tb 1 c
  · rw [if_neg (show ¬ tb 1 c < 0 by omega)] at g
    rw [if_pos z, g, show (1000 * a + 100 * b + 10 * c + d) + (tb 1 c - c) * 10 = vl [a, b, tb 1 c, d] by rw [vl4]; omega, wv_4 ⟨by omega, by omega⟩ ⟨by omega, by omega⟩ ⟨by omega, by omega⟩ ⟨by omega, by omega⟩]
  · rw [if_pos (show tb 1 c < 0 by omega)] at g
    rw [if_neg z, g, wv_m, if_neg vd_0]
theorem gs_4_18 {a b c d : Int} (ha : 0 < a ∧ a < 10) (hb : 0 ≤ b ∧ b < 10) (hc : 0 ≤ c ∧ c < 10) (hd : 0 ≤ d ∧ d < 10) : F7_grown (vl [a, b, c, d]) 18 = some (if vd (gro [a, b, c, d] 18) = true then vl (gro [a, b, c, d] 18) else -1) := by
  rw [vl4, gx_18 (by omega) (by omega), ln_4 ha hb hc hd]
  have hdv : (1000 * a + 100 * b + 10 * c + d) / 100 % 10 = b := by omega
  have htb := tb_b (w := 0) (d := b) (by omega) (by omega)
  rw [if_neg (by omega), hdv]
  have g : gro [a, b, c, d] 18 = if tb 0 b < 0 then [] else [a, tb 0 b, c, d] := rfl
  by_cases z : 0 ≤ tb 0 b
  · rw [if_neg (show ¬ tb 0 b < 0 by omega)] at g
    rw [if_pos z, g, show (1000 * a + 100 * b + 10 * c + d) + (tb 0 b - b) * 100 = vl [a, tb 0 b, c, d] by rw [vl4]; omega, wv_4 ⟨by omega, by omega⟩ ⟨by omega, by omega⟩ ⟨by omega, by omega⟩ ⟨by omega, by omega⟩]
  · rw [if_pos (show tb 0 b < 0 by omega)] at g
    rw [if_neg z, g, wv_m, if_neg vd_0]
theorem gs_4_19 {a b c d : Int} (ha : 0 < a ∧ a < 10) (hb : 0 ≤ b ∧ b < 10) (hc : 0 ≤ c ∧ c < 10) (hd : 0 ≤ d ∧ d < 10) : F7_grown (vl [a, b, c, d]) 19 = some (if vd (gro [a, b, c, d] 19) = true then vl (gro [a, b, c, d] 19) else -1) := by
  rw [vl4, gx_19 (by omega) (by omega), ln_4 ha hb hc hd]
  have hdv : (1000 * a + 100 * b + 10 * c + d) / 100 % 10 = b := by omega
  have htb := tb_b (w := 1) (d := b) (by omega) (by omega)
  rw [if_neg (by omega), hdv]
  have g : gro [a, b, c, d] 19 = if tb 1 b < 0 then [] else [a, tb 1 b, c, d] := rfl
  by_cases z : 0 ≤ tb 1 b
  · rw [if_neg (show ¬ tb 1 b < 0 by omega)] at g
    rw [if_pos z, g, show (1000 * a + 100 * b + 10 * c + d) + (tb 1 b - b) * 100 = vl [a, tb 1 b, c, d] by rw [vl4]; omega, wv_4 ⟨by omega, by omega⟩ ⟨by omega, by omega⟩ ⟨by omega, by omega⟩ ⟨by omega, by omega⟩]
  · rw [if_pos (show tb 1 b < 0 by omega)] at g
    rw [if_neg z, g, wv_m, if_neg vd_0]
theorem gs_4_20 {a b c d : Int} (ha : 0 < a ∧ a < 10) (hb : 0 ≤ b ∧ b < 10) (hc : 0 ≤ c ∧ c < 10) (hd : 0 ≤ d ∧ d < 10) : F7_grown (vl [a, b, c, d]) 20 = some (if vd (gro [a, b, c, d] 20) = true then vl (gro [a, b, c, d] 20) else -1) := by
  rw [vl4, gx_20 (by omega) (by omega), ln_4 ha hb hc hd]
  have hdv : (1000 * a + 100 * b + 10 * c + d) / 1000 % 10 = a := by omega
  have htb := tb_b (w := 0) (d := a) (by omega) (by omega)
  rw [if_neg (by omega), hdv]
  have g : gro [a, b, c, d] 20 = if tb 0 a < 0 then [] else [tb 0 a, b, c, d] := rfl
  by_cases z : 0 ≤ tb 0 a
  · rw [if_neg (show ¬ tb 0 a < 0 by omega)] at g
    rw [if_pos z, g, show (1000 * a + 100 * b + 10 * c + d) + (tb 0 a - a) * 1000 = vl [tb 0 a, b, c, d] by rw [vl4]; omega, wv_4 ⟨by omega, by omega⟩ ⟨by omega, by omega⟩ ⟨by omega, by omega⟩ ⟨by omega, by omega⟩]
  · rw [if_pos (show tb 0 a < 0 by omega)] at g
    rw [if_neg z, g, wv_m, if_neg vd_0]
theorem gs_4_21 {a b c d : Int} (ha : 0 < a ∧ a < 10) (hb : 0 ≤ b ∧ b < 10) (hc : 0 ≤ c ∧ c < 10) (hd : 0 ≤ d ∧ d < 10) : F7_grown (vl [a, b, c, d]) 21 = some (if vd (gro [a, b, c, d] 21) = true then vl (gro [a, b, c, d] 21) else -1) := by
  rw [vl4, gx_21 (by omega) (by omega), ln_4 ha hb hc hd]
  have hdv : (1000 * a + 100 * b + 10 * c + d) / 1000 % 10 = a := by omega
  have htb := tb_b (w := 1) (d := a) (by omega) (by omega)
  rw [if_neg (by omega), hdv]
  have g : gro [a, b, c, d] 21 = if tb 1 a < 0 then [] else [tb 1 a, b, c, d] := rfl
  by_cases z : 0 ≤ tb 1 a
  · rw [if_neg (show ¬ tb 1 a < 0 by omega)] at g
    rw [if_pos z, g, show (1000 * a + 100 * b + 10 * c + d) + (tb 1 a - a) * 1000 = vl [tb 1 a, b, c, d] by rw [vl4]; omega, wv_4 ⟨by omega, by omega⟩ ⟨by omega, by omega⟩ ⟨by omega, by omega⟩ ⟨by omega, by omega⟩]
  · rw [if_pos (show tb 1 a < 0 by omega)] at g
    rw [if_neg z, g, wv_m, if_neg vd_0]
theorem gs_4_22 {a b c d : Int} (ha : 0 < a ∧ a < 10) (hb : 0 ≤ b ∧ b < 10) (hc : 0 ≤ c ∧ c < 10) (hd : 0 ≤ d ∧ d < 10) : F7_grown (vl [a, b, c, d]) 22 = some (if vd (gro [a, b, c, d] 22) = true then vl (gro [a, b, c, d] 22) else -1) := by
  rw [vl4, gx_22 (by omega) (by omega), ln_4 ha hb hc hd]
  rw [if_pos (by omega), show gro [a, b, c, d] 22 = [] from rfl, if_neg vd_0]
theorem gs_4_23 {a b c d : Int} (ha : 0 < a ∧ a < 10) (hb : 0 ≤ b ∧ b < 10) (hc : 0 ≤ c ∧ c < 10) (hd : 0 ≤ d ∧ d < 10) : F7_grown (vl [a, b, c, d]) 23 = some (if vd (gro [a, b, c, d] 23) = true then vl (gro [a, b, c, d] 23) else -1) := by
  rw [vl4, gx_23 (by omega) (by omega), ln_4 ha hb hc hd]
  rw [if_pos (by omega), show gro [a, b, c, d] 23 = [] from rfl, if_neg vd_0]
theorem ln_5 {a b c d e : Int} (ha : 0 < a ∧ a < 10) (hb : 0 ≤ b ∧ b < 10) (hc : 0 ≤ c ∧ c < 10) (hd : 0 ≤ d ∧ d < 10) (he : 0 ≤ e ∧ e < 10) : ln (10000 * a + 1000 * b + 100 * c + 10 * d + e) = 5 := by
  unfold ln
  rw [if_neg (by omega), if_neg (by omega), if_neg (by omega), if_neg (by omega)]
theorem gs_5_0 {a b c d e : Int} (ha : 0 < a ∧ a < 10) (hb : 0 ≤ b ∧ b < 10) (hc : 0 ≤ c ∧ c < 10) (hd : 0 ≤ d ∧ d < 10) (he : 0 ≤ e ∧ e < 10) : F7_grown (vl [a, b, c, d, e]) 0 = some (if vd (gro [a, b, c, d, e] 0) = true then vl (gro [a, b, c, d, e] 0) else -1) := by
  rw [vl5, gx_0 (by omega) (by omega), ln_5 ha hb hc hd he]
  rw [if_neg (by omega), show gro [a, b, c, d, e] 0 = [a, b, c, d] from rfl, show (5 : Int) - 1 = 4 from rfl, show (10000 * a + 1000 * b + 100 * c + 10 * d + e) / 10 * 1 + (10000 * a + 1000 * b + 100 * c + 10 * d + e) % 1 = vl [a, b, c, d] by rw [vl4]; omega, wv_4 ⟨by omega, by omega⟩ ⟨by omega, by omega⟩ ⟨by omega, by omega⟩ ⟨by omega, by omega⟩]
theorem gs_5_1 {a b c d e : Int} (ha : 0 < a ∧ a < 10) (hb : 0 ≤ b ∧ b < 10) (hc : 0 ≤ c ∧ c < 10) (hd : 0 ≤ d ∧ d < 10) (he : 0 ≤ e ∧ e < 10) : F7_grown (vl [a, b, c, d, e]) 1 = some (if vd (gro [a, b, c, d, e] 1) = true then vl (gro [a, b, c, d, e] 1) else -1) := by
  rw [vl5, gx_1 (by omega) (by omega), ln_5 ha hb hc hd he]
  rw [if_neg (by omega), show gro [a, b, c, d, e] 1 = [a, b, c, e] from rfl, show (5 : Int) - 1 = 4 from rfl, show (10000 * a + 1000 * b + 100 * c + 10 * d + e) / 100 * 10 + (10000 * a + 1000 * b + 100 * c + 10 * d + e) % 10 = vl [a, b, c, e] by rw [vl4]; omega, wv_4 ⟨by omega, by omega⟩ ⟨by omega, by omega⟩ ⟨by omega, by omega⟩ ⟨by omega, by omega⟩]
theorem gs_5_2 {a b c d e : Int} (ha : 0 < a ∧ a < 10) (hb : 0 ≤ b ∧ b < 10) (hc : 0 ≤ c ∧ c < 10) (hd : 0 ≤ d ∧ d < 10) (he : 0 ≤ e ∧ e < 10) : F7_grown (vl [a, b, c, d, e]) 2 = some (if vd (gro [a, b, c, d, e] 2) = true then vl (gro [a, b, c, d, e] 2) else -1) := by
  rw [vl5, gx_2 (by omega) (by omega), ln_5 ha hb hc hd he]
  rw [if_neg (by omega), show gro [a, b, c, d, e] 2 = [a, b, d, e] from rfl, show (5 : Int) - 1 = 4 from rfl, show (10000 * a + 1000 * b + 100 * c + 10 * d + e) / 1000 * 100 + (10000 * a + 1000 * b + 100 * c + 10 * d + e) % 100 = vl [a, b, d, e] by rw [vl4]; omega, wv_4 ⟨by omega, by omega⟩ ⟨by omega, by omega⟩ ⟨by omega, by omega⟩ ⟨by omega, by omega⟩]
theorem gs_5_3 {a b c d e : Int} (ha : 0 < a ∧ a < 10) (hb : 0 ≤ b ∧ b < 10) (hc : 0 ≤ c ∧ c < 10) (hd : 0 ≤ d ∧ d < 10) (he : 0 ≤ e ∧ e < 10) : F7_grown (vl [a, b, c, d, e]) 3 = some (if vd (gro [a, b, c, d, e] 3) = true then vl (gro [a, b, c, d, e] 3) else -1) := by
  rw [vl5, gx_3 (by omega) (by omega), ln_5 ha hb hc hd he]
  rw [if_neg (by omega), show gro [a, b, c, d, e] 3 = [a, c, d, e] from rfl, show (5 : Int) - 1 = 4 from rfl, show (10000 * a + 1000 * b + 100 * c + 10 * d + e) / 10000 * 1000 + (10000 * a + 1000 * b + 100 * c + 10 * d + e) % 1000 = vl [a, c, d, e] by rw [vl4]; omega, wv_4 ⟨by omega, by omega⟩ ⟨by omega, by omega⟩ ⟨by omega, by omega⟩ ⟨by omega, by omega⟩]
theorem gs_5_4 {a b c d e : Int} (ha : 0 < a ∧ a < 10) (hb : 0 ≤ b ∧ b < 10) (hc : 0 ≤ c ∧ c < 10) (hd : 0 ≤ d ∧ d < 10) (he : 0 ≤ e ∧ e < 10) : F7_grown (vl [a, b, c, d, e]) 4 = some (if vd (gro [a, b, c, d, e] 4) = true then vl (gro [a, b, c, d, e] 4) else -1) := by
  rw [vl5, gx_4 (by omega) (by omega), ln_5 ha hb hc hd he]
  rw [if_neg (by omega), show gro [a, b, c, d, e] 4 = [b, c, d, e] from rfl, show (5 : Int) - 1 = 4 from rfl, show (10000 * a + 1000 * b + 100 * c + 10 * d + e) / 100000 * 10000 + (10000 * a + 1000 * b + 100 * c + 10 * d + e) % 10000 = vl [b, c, d, e] by rw [vl4]; omega, wv_4 ⟨by omega, by omega⟩ ⟨by omega, by omega⟩ ⟨by omega, by omega⟩ ⟨by omega, by omega⟩]
theorem gs_5_5 {a b c d e : Int} (ha : 0 < a ∧ a < 10) (hb : 0 ≤ b ∧ b < 10) (hc : 0 ≤ c ∧ c < 10) (hd : 0 ≤ d ∧ d < 10) (he : 0 ≤ e ∧ e < 10) : F7_grown (vl [a, b, c, d, e]) 5 = some (if vd (gro [a, b, c, d, e] 5) = true then vl (gro [a, b, c, d, e] 5) else -1) := by
  rw [vl5, gx_5 (by omega) (by omega), ln_5 ha hb hc hd he]
  rw [if_neg (by omega), show gro [a, b, c, d, e] 5 = [a, b, c, d, e, e] from rfl, show (5 : Int) + 1 = 6 from rfl, wv_6, if_neg (vd_6 _ _ _ _ _ _)]
theorem gs_5_6 {a b c d e : Int} (ha : 0 < a ∧ a < 10) (hb : 0 ≤ b ∧ b < 10) (hc : 0 ≤ c ∧ c < 10) (hd : 0 ≤ d ∧ d < 10) (he : 0 ≤ e ∧ e < 10) : F7_grown (vl [a, b, c, d, e]) 6 = some (if vd (gro [a, b, c, d, e] 6) = true then vl (gro [a, b, c, d, e] 6) else -1) := by
  rw [vl5, gx_6 (by omega) (by omega), ln_5 ha hb hc hd he]
  rw [if_neg (by omega), show gro [a, b, c, d, e] 6 = [a, b, c, d, d, e] from rfl, show (5 : Int) + 1 = 6 from rfl, wv_6, if_neg (vd_6 _ _ _ _ _ _)]
theorem gs_5_7 {a b c d e : Int} (ha : 0 < a ∧ a < 10) (hb : 0 ≤ b ∧ b < 10) (hc : 0 ≤ c ∧ c < 10) (hd : 0 ≤ d ∧ d < 10) (he : 0 ≤ e ∧ e < 10) : F7_grown (vl [a, b, c, d, e]) 7 = some (if vd (gro [a, b, c, d, e] 7) = true then vl (gro [a, b, c, d, e] 7) else -1) := by
  rw [vl5, gx_7 (by omega) (by omega), ln_5 ha hb hc hd he]
  rw [if_neg (by omega), show gro [a, b, c, d, e] 7 = [a, b, c, c, d, e] from rfl, show (5 : Int) + 1 = 6 from rfl, wv_6, if_neg (vd_6 _ _ _ _ _ _)]
theorem gs_5_8 {a b c d e : Int} (ha : 0 < a ∧ a < 10) (hb : 0 ≤ b ∧ b < 10) (hc : 0 ≤ c ∧ c < 10) (hd : 0 ≤ d ∧ d < 10) (he : 0 ≤ e ∧ e < 10) : F7_grown (vl [a, b, c, d, e]) 8 = some (if vd (gro [a, b, c, d, e] 8) = true then vl (gro [a, b, c, d, e] 8) else -1) := by
  rw [vl5, gx_8 (by omega) (by omega), ln_5 ha hb hc hd he]
  rw [if_neg (by omega), show gro [a, b, c, d, e] 8 = [a, b, b, c, d, e] from rfl, show (5 : Int) + 1 = 6 from rfl, wv_6, if_neg (vd_6 _ _ _ _ _ _)]
theorem gs_5_9 {a b c d e : Int} (ha : 0 < a ∧ a < 10) (hb : 0 ≤ b ∧ b < 10) (hc : 0 ≤ c ∧ c < 10) (hd : 0 ≤ d ∧ d < 10) (he : 0 ≤ e ∧ e < 10) : F7_grown (vl [a, b, c, d, e]) 9 = some (if vd (gro [a, b, c, d, e] 9) = true then vl (gro [a, b, c, d, e] 9) else -1) := by
  rw [vl5, gx_9 (by omega) (by omega), ln_5 ha hb hc hd he]
  rw [if_neg (by omega), show gro [a, b, c, d, e] 9 = [a, a, b, c, d, e] from rfl, show (5 : Int) + 1 = 6 from rfl, wv_6, if_neg (vd_6 _ _ _ _ _ _)]
theorem gs_5_10 {a b c d e : Int} (ha : 0 < a ∧ a < 10) (hb : 0 ≤ b ∧ b < 10) (hc : 0 ≤ c ∧ c < 10) (hd : 0 ≤ d ∧ d < 10) (he : 0 ≤ e ∧ e < 10) : F7_grown (vl [a, b, c, d, e]) 10 = some (if vd (gro [a, b, c, d, e] 10) = true then vl (gro [a, b, c, d, e] 10) else -1) := by
  rw [vl5, gx_10 (by omega) (by omega), ln_5 ha hb hc hd he]
  rw [if_neg (by omega), show gro [a, b, c, d, e] 10 = [a, b, c, e, d] from rfl, show (10000 * a + 1000 * b + 100 * c + 10 * d + e) + ((10000 * a + 1000 * b + 100 * c + 10 * d + e) / 1 % 10 - (10000 * a + 1000 * b + 100 * c + 10 * d + e) / 10 % 10) * 9 = vl [a, b, c, e, d] by rw [vl5]; omega, wv_5 ⟨by omega, by omega⟩ ⟨by omega, by omega⟩ ⟨by omega, by omega⟩ ⟨by omega, by omega⟩ ⟨by omega, by omega⟩]
theorem gs_5_11 {a b c d e : Int} (ha : 0 < a ∧ a < 10) (hb : 0 ≤ b ∧ b < 10) (hc : 0 ≤ c ∧ c < 10) (hd : 0 ≤ d ∧ d < 10) (he : 0 ≤ e ∧ e < 10) : F7_grown (vl [a, b, c, d, e]) 11 = some (if vd (gro [a, b, c, d, e] 11) = true then vl (gro [a, b, c, d, e] 11) else -1) := by
  rw [vl5, gx_11 (by omega) (by omega), ln_5 ha hb hc hd he]
  rw [if_neg (by omega), show gro [a, b, c, d, e] 11 = [a, b, d, c, e] from rfl, show (10000 * a + 1000 * b + 100 * c + 10 * d + e) + ((10000 * a + 1000 * b + 100 * c + 10 * d + e) / 10 % 10 - (10000 * a + 1000 * b + 100 * c + 10 * d + e) / 100 % 10) * 90 = vl [a, b, d, c, e] by rw [vl5]; omega, wv_5 ⟨by omega, by omega⟩ ⟨by omega, by omega⟩ ⟨by omega, by omega⟩ ⟨by omega, by omega⟩ ⟨by omega, by omega⟩]
theorem gs_5_12 {a b c d e : Int} (ha : 0 < a ∧ a < 10) (hb : 0 ≤ b ∧ b < 10) (hc : 0 ≤ c ∧ c < 10) (hd : 0 ≤ d ∧ d < 10) (he : 0 ≤ e ∧ e < 10) : F7_grown (vl [a, b, c, d, e]) 12 = some (if vd (gro [a, b, c, d, e] 12) = true then vl (gro [a, b, c, d, e] 12) else -1) := by
  rw [vl5, gx_12 (by omega) (by omega), ln_5 ha hb hc hd he]
  rw [if_neg (by omega), show gro [a, b, c, d, e] 12 = [a, c, b, d, e] from rfl, show (10000 * a + 1000 * b + 100 * c + 10 * d + e) + ((10000 * a + 1000 * b + 100 * c + 10 * d + e) / 100 % 10 - (10000 * a + 1000 * b + 100 * c + 10 * d + e) / 1000 % 10) * 900 = vl [a, c, b, d, e] by rw [vl5]; omega, wv_5 ⟨by omega, by omega⟩ ⟨by omega, by omega⟩ ⟨by omega, by omega⟩ ⟨by omega, by omega⟩ ⟨by omega, by omega⟩]
theorem gs_5_13 {a b c d e : Int} (ha : 0 < a ∧ a < 10) (hb : 0 ≤ b ∧ b < 10) (hc : 0 ≤ c ∧ c < 10) (hd : 0 ≤ d ∧ d < 10) (he : 0 ≤ e ∧ e < 10) : F7_grown (vl [a, b, c, d, e]) 13 = some (if vd (gro [a, b, c, d, e] 13) = true then vl (gro [a, b, c, d, e] 13) else -1) := by
  rw [vl5, gx_13 (by omega) (by omega), ln_5 ha hb hc hd he]
  rw [if_neg (by omega), show gro [a, b, c, d, e] 13 = [b, a, c, d, e] from rfl, show (10000 * a + 1000 * b + 100 * c + 10 * d + e) + ((10000 * a + 1000 * b + 100 * c + 10 * d + e) / 1000 % 10 - (10000 * a + 1000 * b + 100 * c + 10 * d + e) / 10000 % 10) * 9000 = vl [b, a, c, d, e] by rw [vl5]; omega, wv_5 ⟨by omega, by omega⟩ ⟨by omega, by omega⟩ ⟨by omega, by omega⟩ ⟨by omega, by omega⟩ ⟨by omega, by omega⟩]
theorem gs_5_14 {a b c d e : Int} (ha : 0 < a ∧ a < 10) (hb : 0 ≤ b ∧ b < 10) (hc : 0 ≤ c ∧ c < 10) (hd : 0 ≤ d ∧ d < 10) (he : 0 ≤ e ∧ e < 10) : F7_grown (vl [a, b, c, d, e]) 14 = some (if vd (gro [a, b, c, d, e] 14) = true then vl (gro [a, b, c, d, e] 14) else -1) := by
  rw [vl5, gx_14 (by omega) (by omega), ln_5 ha hb hc hd he]
  have hdv : (10000 * a + 1000 * b + 100 * c + 10 * d + e) / 1 % 10 = e := by omega
  have htb := tb_b (w := 0) (d := e) (by omega) (by omega)
  rw [if_neg (by omega), hdv]
  have g : gro [a, b, c, d, e] 14 = if tb 0 e < 0 then [] else [a, b, c, d, tb 0 e] := rfl
  by_cases z : 0 ≤ tb 0 e
  · rw [if_neg (show ¬ tb 0 e < 0 by omega)] at g
    rw [if_pos z, g, show (10000 * a + 1000 * b + 100 * c + 10 * d + e) + (tb 0 e - e) * 1 = vl [a, b, c, d, tb 0 e] by rw [vl5]; omega, wv_5 ⟨by omega, by omega⟩ ⟨by omega, by omega⟩ ⟨by omega, by omega⟩ ⟨by omega, by omega⟩ ⟨by omega, by omega⟩]
  · rw [if_pos (show tb 0 e < 0 by omega)] at g
    rw [if_neg z, g, wv_m, if_neg vd_0]
theorem gs_5_15 {a b c d e : Int} (ha : 0 < a ∧ a < 10) (hb : 0 ≤ b ∧ b < 10) (hc : 0 ≤ c ∧ c < 10) (hd : 0 ≤ d ∧ d < 10) (he : 0 ≤ e ∧ e < 10) : F7_grown (vl [a, b, c, d, e]) 15 = some (if vd (gro [a, b, c, d, e] 15) = true then vl (gro [a, b, c, d, e] 15) else -1) := by
  rw [vl5, gx_15 (by omega) (by omega), ln_5 ha hb hc hd he]
  have hdv : (10000 * a + 1000 * b + 100 * c + 10 * d + e) / 1 % 10 = e := by omega
  have htb := tb_b (w := 1) (d := e) (by omega) (by omega)
  rw [if_neg (by omega), hdv]
  have g : gro [a, b, c, d, e] 15 = if tb 1 e < 0 then [] else [a, b, c, d, tb 1 e] := rfl
  by_cases z : 0 ≤ tb 1 e
  · rw [if_neg (show ¬ tb 1 e < 0 by omega)] at g
    rw [if_pos z, g, show (10000 * a + 1000 * b + 100 * c + 10 * d + e) + (tb 1 e - e) * 1 = vl [a, b, c, d, tb 1 e] by rw [vl5]; omega, wv_5 ⟨by omega, by omega⟩ ⟨by omega, by omega⟩ ⟨by omega, by omega⟩ ⟨by omega, by omega⟩ ⟨by omega, by omega⟩]
  · rw [if_pos (show tb 1 e < 0 by omega)] at g
    rw [if_neg z, g, wv_m, if_neg vd_0]
theorem gs_5_16 {a b c d e : Int} (ha : 0 < a ∧ a < 10) (hb : 0 ≤ b ∧ b < 10) (hc : 0 ≤ c ∧ c < 10) (hd : 0 ≤ d ∧ d < 10) (he : 0 ≤ e ∧ e < 10) : F7_grown (vl [a, b, c, d, e]) 16 = some (if vd (gro [a, b, c, d, e] 16) = true then vl (gro [a, b, c, d, e] 16) else -1) := by
  rw [vl5, gx_16 (by omega) (by omega), ln_5 ha hb hc hd he]
  have hdv : (10000 * a + 1000 * b + 100 * c + 10 * d + e) / 10 % 10 = d := by omega
  have htb := tb_b (w := 0) (d := d) (by omega) (by omega)
  rw [if_neg (by omega), hdv]
  have g : gro [a, b, c, d, e] 16 = if tb 0 d < 0 then [] else [a, b, c, tb 0 d, e] := rfl
  by_cases z : 0 ≤ tb 0 d
  · rw [if_neg (show ¬ tb 0 d < 0 by omega)] at g
    rw [if_pos z, g, show (10000 * a + 1000 * b + 100 * c + 10 * d + e) + (tb 0 d - d) * 10 = vl [a, b, c, tb 0 d, e] by rw [vl5]; omega, wv_5 ⟨by omega, by omega⟩ ⟨by omega, by omega⟩ ⟨by omega, by omega⟩ ⟨by omega, by omega⟩ ⟨by omega, by omega⟩]
  · rw [if_pos (show tb 0 d < 0 by omega)] at g
    rw [if_neg z, g, wv_m, if_neg vd_0]
theorem gs_5_17 {a b c d e : Int} (ha : 0 < a ∧ a < 10) (hb : 0 ≤ b ∧ b < 10) (hc : 0 ≤ c ∧ c < 10) (hd : 0 ≤ d ∧ d < 10) (he : 0 ≤ e ∧ e < 10) : F7_grown (vl [a, b, c, d, e]) 17 = some (if vd (gro [a, b, c, d, e] 17) = true then vl (gro [a, b, c, d, e] 17) else -1) := by
  rw [vl5, gx_17 (by omega) (by omega), ln_5 ha hb hc hd he]
  have hdv : (10000 * a + 1000 * b + 100 * c + 10 * d + e) / 10 % 10 = d := by omega
  have htb := tb_b (w := 1) (d := d) (by omega) (by omega)
  rw [if_neg (by omega), hdv]
  have g : gro [a, b, c, d, e] 17 = if tb 1 d < 0 then [] else [a, b, c, tb 1 d, e] := rfl
  by_cases z : 0 ≤ tb 1 d
  · rw [if_neg (show ¬ tb 1 d < 0 by omega)] at g
    rw [if_pos z, g, show (10000 * a + 1000 * b + 100 * c + 10 * d + e) + (tb 1 d - d) * 10 = vl [a, b, c, tb 1 d, e] by rw [vl5]; omega, wv_5 ⟨by omega, by omega⟩ ⟨by omega, by omega⟩ ⟨by omega, by omega⟩ ⟨by omega, by omega⟩ ⟨by omega, by omega⟩]
  · rw [if_pos (show tb 1 d < 0 by omega)] at g
    rw [if_neg z, g, wv_m, if_neg vd_0]
theorem gs_5_18 {a b c d e : Int} (ha : 0 < a ∧ a < 10) (hb : 0 ≤ b ∧ b < 10) (hc : 0 ≤ c ∧ c < 10) (hd : 0 ≤ d ∧ d < 10) (he : 0 ≤ e ∧ e < 10) : F7_grown (vl [a, b, c, d, e]) 18 = some (if vd (gro [a, b, c, d, e] 18) = true then vl (gro [a, b, c, d, e] 18) else -1) := by
  rw [vl5, gx_18 (by omega) (by omega), ln_5 ha hb hc hd he]
  have hdv : (10000 * a + 1000 * b + 100 * c + 10 * d + e) / 100 % 10 = c := by omega
  have htb := tb_b (w := 0) (d := c) (by omega) (by omega)
  rw [if_neg (by omega), hdv]
  have g : gro [a, b, c, d, e] 18 = if tb 0 c < 0 then [] else [a, b, tb 0 c, d, e] := rfl
  by_cases z : 0 ≤ tb 0 c
  · rw [if_neg (show ¬ tb 0 c < 0 by omega)] at g
    rw [if_pos z, g, show (10000 * a + 1000 * b + 100 * c + 10 * d + e) + (tb 0 c - c) * 100 = vl [a, b, tb 0 c, d, e] by rw [vl5]; omega, wv_5 ⟨by omega, by omega⟩ ⟨by omega, by omega⟩ ⟨by omega, by omega⟩ ⟨by omega, by omega⟩ ⟨by omega, by omega⟩]
  · rw [if_pos (show tb 0 c < 0 by omega)] at g
    rw [if_neg z, g, wv_m, if_neg vd_0]
theorem gs_5_19 {a b c d e : Int} (ha : 0 < a ∧ a < 10) (hb : 0 ≤ b ∧ b < 10) (hc : 0 ≤ c ∧ c < 10) (hd : 0 ≤ d ∧ d < 10) (he : 0 ≤ e ∧ e < 10) : F7_grown (vl [a, b, c, d, e]) 19 = some (if vd (gro [a, b, c, d, e] 19) = true then vl (gro [a, b, c, d, e] 19) else -1) := by
  rw [vl5, gx_19 (by omega) (by omega), ln_5 ha hb hc hd he]
  have hdv : (10000 * a + 1000 * b + 100 * c + 10 * d + e) / 100 % 10 = c := by omega
  have htb := tb_b (w := 1) (d := c) (by omega) (by omega)
  rw [if_neg (by omega), hdv]
  have g : gro [a, b, c, d, e] 19 = if tb 1 c < 0 then [] else [a, b, tb 1 c, d, e] := rfl
  by_cases z : 0 ≤ tb 1 c
  · rw [if_neg (show ¬ tb 1 c < 0 by omega)] at g
    rw [if_pos z, g, show (10000 * a + 1000 * b + 100 * c + 10 * d + e) + (tb 1 c - c) * 100 = vl [a, b, tb 1 c, d, e] by rw [vl5]; omega, wv_5 ⟨by omega, by omega⟩ ⟨by omega, by omega⟩ ⟨by omega, by omega⟩ ⟨by omega, by omega⟩ ⟨by omega, by omega⟩]
  · rw [if_pos (show tb 1 c < 0 by omega)] at g
    rw [if_neg z, g, wv_m, if_neg vd_0]
theorem gs_5_20 {a b c d e : Int} (ha : 0 < a ∧ a < 10) (hb : 0 ≤ b ∧ b < 10) (hc : 0 ≤ c ∧ c < 10) (hd : 0 ≤ d ∧ d < 10) (he : 0 ≤ e ∧ e < 10) : F7_grown (vl [a, b, c, d, e]) 20 = some (if vd (gro [a, b, c, d, e] 20) = true then vl (gro [a, b, c, d, e] 20) else -1) := by
  rw [vl5, gx_20 (by omega) (by omega), ln_5 ha hb hc hd he]
  have hdv : (10000 * a + 1000 * b + 100 * c + 10 * d + e) / 1000 % 10 = b := by omega
  have htb := tb_b (w := 0) (d := b) (by omega) (by omega)
  rw [if_neg (by omega), hdv]
  have g : gro [a, b, c, d, e] 20 = if tb 0 b < 0 then [] else [a, tb 0 b, c, d, e] := rfl
  by_cases z : 0 ≤ tb 0 b
  · rw [if_neg (show ¬ tb 0 b < 0 by omega)] at g
    rw [if_pos z, g, show (10000 * a + 1000 * b + 100 * c + 10 * d + e) + (tb 0 b - b) * 1000 = vl [a, tb 0 b, c, d, e] by rw [vl5]; omega, wv_5 ⟨by omega, by omega⟩ ⟨by omega, by omega⟩ ⟨by omega, by omega⟩ ⟨by omega, by omega⟩ ⟨by omega, by omega⟩]
  · rw [if_pos (show tb 0 b < 0 by omega)] at g
    rw [if_neg z, g, wv_m, if_neg vd_0]
theorem gs_5_21 {a b c d e : Int} (ha : 0 < a ∧ a < 10) (hb : 0 ≤ b ∧ b < 10) (hc : 0 ≤ c ∧ c < 10) (hd : 0 ≤ d ∧ d < 10) (he : 0 ≤ e ∧ e < 10) : F7_grown (vl [a, b, c, d, e]) 21 = some (if vd (gro [a, b, c, d, e] 21) = true then vl (gro [a, b, c, d, e] 21) else -1) := by
  rw [vl5, gx_21 (by omega) (by omega), ln_5 ha hb hc hd he]
  have hdv : (10000 * a + 1000 * b + 100 * c + 10 * d + e) / 1000 % 10 = b := by omega
  have htb := tb_b (w := 1) (d := b) (by omega) (by omega)
  rw [if_neg (by omega), hdv]
  have g : gro [a, b, c, d, e] 21 = if tb 1 b < 0 then [] else [a, tb 1 b, c, d, e] := rfl
  by_cases z : 0 ≤ tb 1 b
  · rw [if_neg (show ¬ tb 1 b < 0 by omega)] at g
    rw [if_pos z, g, show (10000 * a + 1000 * b + 100 * c + 10 * d + e) + (tb 1 b - b) * 1000 = vl [a, tb 1 b, c, d, e] by rw [vl5]; omega, wv_5 ⟨by omega, by omega⟩ ⟨by omega, by omega⟩ ⟨by omega, by omega⟩ ⟨by omega, by omega⟩ ⟨by omega, by omega⟩]
  · rw [if_pos (show tb 1 b < 0 by omega)] at g
    rw [if_neg z, g, wv_m, if_neg vd_0]
theorem gs_5_22 {a b c d e : Int} (ha : 0 < a ∧ a < 10) (hb : 0 ≤ b ∧ b < 10) (hc : 0 ≤ c ∧ c < 10) (hd : 0 ≤ d ∧ d < 10) (he : 0 ≤ e ∧ e < 10) : F7_grown (vl [a, b, c, d, e]) 22 = some (if vd (gro [a, b, c, d, e] 22) = true then vl (gro [a, b, c, d, e] 22) else -1) := by
  rw [vl5, gx_22 (by omega) (by omega), ln_5 ha hb hc hd he]
  have hdv : (10000 * a + 1000 * b + 100 * c + 10 * d + e) / 10000 % 10 = a := by omega
  have htb := tb_b (w := 0) (d := a) (by omega) (by omega)
  rw [if_neg (by omega), hdv]
  have g : gro [a, b, c, d, e] 22 = if tb 0 a < 0 then [] else [tb 0 a, b, c, d, e] := rfl
  by_cases z : 0 ≤ tb 0 a
  · rw [if_neg (show ¬ tb 0 a < 0 by omega)] at g
    rw [if_pos z, g, show (10000 * a + 1000 * b + 100 * c + 10 * d + e) + (tb 0 a - a) * 10000 = vl [tb 0 a, b, c, d, e] by rw [vl5]; omega, wv_5 ⟨by omega, by omega⟩ ⟨by omega, by omega⟩ ⟨by omega, by omega⟩ ⟨by omega, by omega⟩ ⟨by omega, by omega⟩]
  · rw [if_pos (show tb 0 a < 0 by omega)] at g
    rw [if_neg z, g, wv_m, if_neg vd_0]
theorem gs_5_23 {a b c d e : Int} (ha : 0 < a ∧ a < 10) (hb : 0 ≤ b ∧ b < 10) (hc : 0 ≤ c ∧ c < 10) (hd : 0 ≤ d ∧ d < 10) (he : 0 ≤ e ∧ e < 10) : F7_grown (vl [a, b, c, d, e]) 23 = some (if vd (gro [a, b, c, d, e] 23) = true then vl (gro [a, b, c, d, e] 23) else -1) := by
  rw [vl5, gx_23 (by omega) (by omega), ln_5 ha hb hc hd he]
  have hdv : (10000 * a + 1000 * b + 100 * c + 10 * d + e) / 10000 % 10 = a := by omega
  have htb := tb_b (w := 1) (d := a) (by omega) (by omega)
  rw [if_neg (by omega), hdv]
  have g : gro [a, b, c, d, e] 23 = if tb 1 a < 0 then [] else [tb 1 a, b, c, d, e] := rfl
  by_cases z : 0 ≤ tb 1 a
  · rw [if_neg (show ¬ tb 1 a < 0 by omega)] at g
    rw [if_pos z, g, show (10000 * a + 1000 * b + 100 * c + 10 * d + e) + (tb 1 a - a) * 10000 = vl [tb 1 a, b, c, d, e] by rw [vl5]; omega, wv_5 ⟨by omega, by omega⟩ ⟨by omega, by omega⟩ ⟨by omega, by omega⟩ ⟨by omega, by omega⟩ ⟨by omega, by omega⟩]
  · rw [if_pos (show tb 1 a < 0 by omega)] at g
    rw [if_neg z, g, wv_m, if_neg vd_0]
theorem grown_e {ds : List Int} (h : vd ds = true) (hd : dgs ds) {i : Nat} (hi : i < 24) : F7_grown (vl ds) (i : Int) = some (if vd (gro ds i) = true then vl (gro ds i) else -1) := by
  rcases vd_cases h hd with ⟨a, rfl, r⟩ | ⟨a, b, rfl, r⟩ | ⟨a, b, c, rfl, r⟩ | ⟨a, b, c, d, rfl, r⟩ | ⟨a, b, c, d, e, rfl, r⟩
  · match i, hi with
    | 0, _ => exact gs_1_0 r
    | 1, _ => exact gs_1_1 r
    | 2, _ => exact gs_1_2 r
    | 3, _ => exact gs_1_3 r
    | 4, _ => exact gs_1_4 r
    | 5, _ => exact gs_1_5 r
    | 6, _ => exact gs_1_6 r
    | 7, _ => exact gs_1_7 r
    | 8, _ => exact gs_1_8 r
    | 9, _ => exact gs_1_9 r
    | 10, _ => exact gs_1_10 r
    | 11, _ => exact gs_1_11 r
    | 12, _ => exact gs_1_12 r
    | 13, _ => exact gs_1_13 r
    | 14, _ => exact gs_1_14 r
    | 15, _ => exact gs_1_15 r
    | 16, _ => exact gs_1_16 r
    | 17, _ => exact gs_1_17 r
    | 18, _ => exact gs_1_18 r
    | 19, _ => exact gs_1_19 r
    | 20, _ => exact gs_1_20 r
    | 21, _ => exact gs_1_21 r
    | 22, _ => exact gs_1_22 r
    | 23, _ => exact gs_1_23 r
    | j + 24, hi => omega
  · match i, hi with
    | 0, _ => exact gs_2_0 r.1 r.2
    | 1, _ => exact gs_2_1 r.1 r.2
    | 2, _ => exact gs_2_2 r.1 r.2
    | 3, _ => exact gs_2_3 r.1 r.2
    | 4, _ => exact gs_2_4 r.1 r.2
    | 5, _ => exact gs_2_5 r.1 r.2
    | 6, _ => exact gs_2_6 r.1 r.2
    | 7, _ => exact gs_2_7 r.1 r.2
    | 8, _ => exact gs_2_8 r.1 r.2
    | 9, _ => exact gs_2_9 r.1 r.2
    | 10, _ => exact gs_2_10 r.1 r.2
    | 11, _ => exact gs_2_11 r.1 r.2
    | 12, _ => exact gs_2_12 r.1 r.2
    | 13, _ => exact gs_2_13 r.1 r.2
    | 14, _ => exact gs_2_14 r.1 r.2
    | 15, _ => exact gs_2_15 r.1 r.2
    | 16, _ => exact gs_2_16 r.1 r.2
    | 17, _ => exact gs_2_17 r.1 r.2
    | 18, _ => exact gs_2_18 r.1 r.2
    | 19, _ => exact gs_2_19 r.1 r.2
    | 20, _ => exact gs_2_20 r.1 r.2
    | 21, _ => exact gs_2_21 r.1 r.2
    | 22, _ => exact gs_2_22 r.1 r.2
    | 23, _ => exact gs_2_23 r.1 r.2
    | j + 24, hi => omega
  · match i, hi with
    | 0, _ => exact gs_3_0 r.1 r.2.1 r.2.2
    | 1, _ => exact gs_3_1 r.1 r.2.1 r.2.2
    | 2, _ => exact gs_3_2 r.1 r.2.1 r.2.2
    | 3, _ => exact gs_3_3 r.1 r.2.1 r.2.2
    | 4, _ => exact gs_3_4 r.1 r.2.1 r.2.2
    | 5, _ => exact gs_3_5 r.1 r.2.1 r.2.2
    | 6, _ => exact gs_3_6 r.1 r.2.1 r.2.2
    | 7, _ => exact gs_3_7 r.1 r.2.1 r.2.2
    | 8, _ => exact gs_3_8 r.1 r.2.1 r.2.2
    | 9, _ => exact gs_3_9 r.1 r.2.1 r.2.2
    | 10, _ => exact gs_3_10 r.1 r.2.1 r.2.2
    | 11, _ => exact gs_3_11 r.1 r.2.1 r.2.2
    | 12, _ => exact gs_3_12 r.1 r.2.1 r.2.2
    | 13, _ => exact gs_3_13 r.1 r.2.1 r.2.2
    | 14, _ => exact gs_3_14 r.1 r.2.1 r.2.2
    | 15, _ => exact gs_3_15 r.1 r.2.1 r.2.2
    | 16, _ => exact gs_3_16 r.1 r.2.1 r.2.2
    | 17, _ => exact gs_3_17 r.1 r.2.1 r.2.2
    | 18, _ => exact gs_3_18 r.1 r.2.1 r.2.2
    | 19, _ => exact gs_3_19 r.1 r.2.1 r.2.2
    | 20, _ => exact gs_3_20 r.1 r.2.1 r.2.2
    | 21, _ => exact gs_3_21 r.1 r.2.1 r.2.2
    | 22, _ => exact gs_3_22 r.1 r.2.1 r.2.2
    | 23, _ => exact gs_3_23 r.1 r.2.1 r.2.2
    | j + 24, hi => omega
  · match i, hi with
    | 0, _ => exact gs_4_0 r.1 r.2.1 r.2.2.1 r.2.2.2
    | 1, _ => exact gs_4_1 r.1 r.2.1 r.2.2.1 r.2.2.2
    | 2, _ => exact gs_4_2 r.1 r.2.1 r.2.2.1 r.2.2.2
    | 3, _ => exact gs_4_3 r.1 r.2.1 r.2.2.1 r.2.2.2
    | 4, _ => exact gs_4_4 r.1 r.2.1 r.2.2.1 r.2.2.2
    | 5, _ => exact gs_4_5 r.1 r.2.1 r.2.2.1 r.2.2.2
    | 6, _ => exact gs_4_6 r.1 r.2.1 r.2.2.1 r.2.2.2
    | 7, _ => exact gs_4_7 r.1 r.2.1 r.2.2.1 r.2.2.2
    | 8, _ => exact gs_4_8 r.1 r.2.1 r.2.2.1 r.2.2.2
    | 9, _ => exact gs_4_9 r.1 r.2.1 r.2.2.1 r.2.2.2
    | 10, _ => exact gs_4_10 r.1 r.2.1 r.2.2.1 r.2.2.2
    | 11, _ => exact gs_4_11 r.1 r.2.1 r.2.2.1 r.2.2.2
    | 12, _ => exact gs_4_12 r.1 r.2.1 r.2.2.1 r.2.2.2
    | 13, _ => exact gs_4_13 r.1 r.2.1 r.2.2.1 r.2.2.2
    | 14, _ => exact gs_4_14 r.1 r.2.1 r.2.2.1 r.2.2.2
    | 15, _ => exact gs_4_15 r.1 r.2.1 r.2.2.1 r.2.2.2
    | 16, _ => exact gs_4_16 r.1 r.2.1 r.2.2.1 r.2.2.2
    | 17, _ => exact gs_4_17 r.1 r.2.1 r.2.2.1 r.2.2.2
    | 18, _ => exact gs_4_18 r.1 r.2.1 r.2.2.1 r.2.2.2
    | 19, _ => exact gs_4_19 r.1 r.2.1 r.2.2.1 r.2.2.2
    | 20, _ => exact gs_4_20 r.1 r.2.1 r.2.2.1 r.2.2.2
    | 21, _ => exact gs_4_21 r.1 r.2.1 r.2.2.1 r.2.2.2
    | 22, _ => exact gs_4_22 r.1 r.2.1 r.2.2.1 r.2.2.2
    | 23, _ => exact gs_4_23 r.1 r.2.1 r.2.2.1 r.2.2.2
    | j + 24, hi => omega
  · match i, hi with
    | 0, _ => exact gs_5_0 r.1 r.2.1 r.2.2.1 r.2.2.2.1 r.2.2.2.2
    | 1, _ => exact gs_5_1 r.1 r.2.1 r.2.2.1 r.2.2.2.1 r.2.2.2.2
    | 2, _ => exact gs_5_2 r.1 r.2.1 r.2.2.1 r.2.2.2.1 r.2.2.2.2
    | 3, _ => exact gs_5_3 r.1 r.2.1 r.2.2.1 r.2.2.2.1 r.2.2.2.2
    | 4, _ => exact gs_5_4 r.1 r.2.1 r.2.2.1 r.2.2.2.1 r.2.2.2.2
    | 5, _ => exact gs_5_5 r.1 r.2.1 r.2.2.1 r.2.2.2.1 r.2.2.2.2
    | 6, _ => exact gs_5_6 r.1 r.2.1 r.2.2.1 r.2.2.2.1 r.2.2.2.2
    | 7, _ => exact gs_5_7 r.1 r.2.1 r.2.2.1 r.2.2.2.1 r.2.2.2.2
    | 8, _ => exact gs_5_8 r.1 r.2.1 r.2.2.1 r.2.2.2.1 r.2.2.2.2
    | 9, _ => exact gs_5_9 r.1 r.2.1 r.2.2.1 r.2.2.2.1 r.2.2.2.2
    | 10, _ => exact gs_5_10 r.1 r.2.1 r.2.2.1 r.2.2.2.1 r.2.2.2.2
    | 11, _ => exact gs_5_11 r.1 r.2.1 r.2.2.1 r.2.2.2.1 r.2.2.2.2
    | 12, _ => exact gs_5_12 r.1 r.2.1 r.2.2.1 r.2.2.2.1 r.2.2.2.2
    | 13, _ => exact gs_5_13 r.1 r.2.1 r.2.2.1 r.2.2.2.1 r.2.2.2.2
    | 14, _ => exact gs_5_14 r.1 r.2.1 r.2.2.1 r.2.2.2.1 r.2.2.2.2
    | 15, _ => exact gs_5_15 r.1 r.2.1 r.2.2.1 r.2.2.2.1 r.2.2.2.2
    | 16, _ => exact gs_5_16 r.1 r.2.1 r.2.2.1 r.2.2.2.1 r.2.2.2.2
    | 17, _ => exact gs_5_17 r.1 r.2.1 r.2.2.1 r.2.2.2.1 r.2.2.2.2
    | 18, _ => exact gs_5_18 r.1 r.2.1 r.2.2.1 r.2.2.2.1 r.2.2.2.2
    | 19, _ => exact gs_5_19 r.1 r.2.1 r.2.2.1 r.2.2.2.1 r.2.2.2.2
    | 20, _ => exact gs_5_20 r.1 r.2.1 r.2.2.1 r.2.2.2.1 r.2.2.2.2
    | 21, _ => exact gs_5_21 r.1 r.2.1 r.2.2.1 r.2.2.2.1 r.2.2.2.2
    | 22, _ => exact gs_5_22 r.1 r.2.1 r.2.2.1 r.2.2.2.1 r.2.2.2.2
    | 23, _ => exact gs_5_23 r.1 r.2.1 r.2.2.1 r.2.2.2.1 r.2.2.2.2
    | j + 24, hi => omega
