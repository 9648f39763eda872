/-! the tape read: the sign under the needle, by both sides -/
theorem i8_n : ∀ n : Fin 256, i8 ((n : Nat) : Int) = if (n : Nat) < 128 then ((n : Nat) : Int) else ((n : Nat) : Int) - 256 := by decide +kernel
theorem i8_e {x : Int} (h0 : 0 ≤ x) (h1 : x ≤ 255) : i8 x = if x < 128 then x else x - 256 := by
  have := i8_n ⟨x.toNat, by omega⟩
  dsimp only at this
  rw [show ((x.toNat : Nat) : Int) = x by omega] at this
  rw [this]
  by_cases a : x < 128
  · rw [if_pos a, if_pos (by omega)]
  · rw [if_neg a, if_neg (by omega)]
/-- the sign at place p, as the class reads it; -1 past the end -/
def sgn (m : Mem) (p : Int) : Int := if p < rd m 1 1 then rd m 2 p else -1
theorem sign_e {m : Mem} (h0 : 0 ≤ rd m 1 6) (hc : rd m 1 1 ≤ 120) : F8_sign m = some (sgn m (rd m 1 6)) := by
  unfold F8_sign sgn
  rw [jn_v]
  by_cases a : rd m 1 6 < rd m 1 1
  · simp (disch := omega) only [gd_t, stw_v, cpw_v, jn_v, b1_v, b2_v, w32_id, rd_wr_s, rd_wr_k, rd_wr_i, bz_0, bz_n, if_pos, if_neg, if_true, if_false, ne_eq, not_true_eq_false, not_false_eq_true]
  · simp (disch := omega) only [gd_t, stw_v, cpw_v, jn_v, b1_v, b2_v, w32_id, rd_wr_s, rd_wr_k, rd_wr_i, bz_0, bz_n, if_pos, if_neg, if_true, if_false, ne_eq, not_true_eq_false, not_false_eq_true]
theorem look_e {m : Mem} (h0 : 0 ≤ rd m 83 11) (hc : rd m 83 10 ≤ 120) : F11_look m = some (if rd m 83 11 < rd m 83 10 then rd m 91 (rd m 83 11) else -1) := by
  unfold F11_look
  by_cases a : rd m 83 11 < rd m 83 10
  · simp (disch := omega) only [gd_t, stw_v, cpw_v, jn_v, b1_v, b2_v, w32_id, rd_wr_s, rd_wr_k, rd_wr_i, bz_0, bz_n, if_pos, if_neg, if_true, if_false, ne_eq, not_true_eq_false, not_false_eq_true]
  · simp (disch := omega) only [gd_t, stw_v, cpw_v, jn_v, b1_v, b2_v, w32_id, rd_wr_s, rd_wr_k, rd_wr_i, bz_0, bz_n, if_pos, if_neg, if_true, if_false, ne_eq, not_true_eq_false, not_false_eq_true]
/-- the same sign, by both: equal as far as the signs below 128 go -/
theorem sgn_look {m : Mem} {p : Int} (h6 : iTp m) (h0 : 0 ≤ p) : -1 ≤ sgn m p ∧ sgn m p ≤ 255 ∧ (sgn m p ≤ 127 → (if p < rd m 83 10 then rd m 91 p else -1) = sgn m p) ∧ (127 < sgn m p → (if p < rd m 83 10 then rd m 91 p else -1) < 0) := by
  obtain ⟨t1, t2, t3, t4⟩ := h6
  unfold sgn
  rw [t3]
  by_cases a : p < rd m 1 1
  · obtain ⟨b1, b2, b3⟩ := t4 p h0 a
    rw [if_pos a, if_pos a, b3, i8_e b1 b2]
    refine ⟨by omega, b2, fun h => by rw [if_pos (by omega)], fun h => by rw [if_neg (by omega)]; omega⟩
  · rw [if_neg a, if_neg a]
    exact ⟨by omega, by omega, fun _ => rfl, fun h => by omega⟩
