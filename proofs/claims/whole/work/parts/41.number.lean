/-! a number of at most d digits: what both sides read -/
def numS (m : Mem) : Nat → Int → Int → Int × Int
  | 0, v, p => (v, p)
  | d + 1, v, p => if 48 ≤ sgn m p ∧ sgn m p ≤ 57 then numS m d (imx v 0 * 10 + sgn m p - 48) (p + 1) else (v, p)
def bd (d : Nat) (v : Int) : Prop := (d = 0 ∧ v ≤ 999) ∨ (d = 1 ∧ v ≤ 99) ∨ (d = 2 ∧ v ≤ 9) ∨ (d = 3 ∧ v ≤ 0)
theorem sgn_s {m m' : Mem} {p : Int} (h1 : rd m' 1 1 = rd m 1 1) (h2 : ∀ i, rd m' 2 i = rd m 2 i) : sgn m' p = sgn m p := by unfold sgn; rw [h1, h2]
theorem numS_s {m m' : Mem} (h1 : rd m' 1 1 = rd m 1 1) (h2 : ∀ i, rd m' 2 i = rd m 2 i) : ∀ d v p, numS m' d v p = numS m d v p
  | 0, v, p => rfl
  | d + 1, v, p => by
    unfold numS
    rw [sgn_s h1 h2, numS_s h1 h2 d]
theorem sgn_end {m : Mem} {p : Int} (h : 0 ≤ sgn m p) : p < rd m 1 1 := by
  unfold sgn at h; split at h <;> omega
theorem L8_num {w : Int} (hw : w ≤ 3) : ∀ (d n : Nat) (v j : Int) (m : Mem), j + d = w → 0 ≤ j → d < n → bd d v → -1 ≤ v → 0 ≤ rd m 1 6 → rd m 1 6 ≤ 120 → rd m 1 1 ≤ 120 →
    ∃ m', L8_number_4 w n v j m = some ((numS m d v (rd m 1 6)).1, m') ∧ rd m' 1 6 = (numS m d v (rd m 1 6)).2 ∧ (∀ k i, ¬ (k = 1 ∧ i = 6) → m' k i = m k i) := by
  intro d
  induction d with
  | zero =>
    intro n v j m h0 h0' h1 h2 h3 h4 h5 h6
    obtain ⟨n, rfl⟩ : ∃ i, n = i + 1 := ⟨n - 1, by omega⟩
    exact ⟨m, by rw [L8_number_4, if_pos (by omega)]; rfl, rfl, fun _ _ _ => rfl⟩
  | succ d ih =>
    intro n v j m h0 h0' h1 h2 h3 h4 h5 h6
    obtain ⟨n, rfl⟩ : ∃ i, n = i + 1 := ⟨n - 1, by omega⟩
    rw [L8_number_4, if_neg (by omega), sign_e h4 h6, b1_v]
    unfold numS
    by_cases a : 48 ≤ sgn m (rd m 1 6) ∧ sgn m (rd m 1 6) ≤ 57
    · rw [if_pos a, if_neg (by omega), b1_v, if_neg (by omega), b1_v, stw_v]
      have en := sgn_end (m := m) (p := rd m 1 6) (by omega)
      have im : imx v 0 = if v < 0 then 0 else v := rfl
      have e6 : rd (wr m 1 6 (rd m 1 6 + 1)) 1 6 = rd m 1 6 + 1 := by simp (disch := omega) only [gd_t, stw_v, cpw_v, jn_v, b1_v, b2_v, w32_id, rd_wr_s, rd_wr_k, rd_wr_i, bz_0, bz_n, if_pos, if_neg, if_true, if_false, ne_eq, not_true_eq_false, not_false_eq_true]
      have e1 : rd (wr m 1 6 (rd m 1 6 + 1)) 1 1 = rd m 1 1 := by simp (disch := omega) only [gd_t, stw_v, cpw_v, jn_v, b1_v, b2_v, w32_id, rd_wr_s, rd_wr_k, rd_wr_i, bz_0, bz_n, if_pos, if_neg, if_true, if_false, ne_eq, not_true_eq_false, not_false_eq_true]
      have e2 : ∀ i, rd (wr m 1 6 (rd m 1 6 + 1)) 2 i = rd m 2 i := fun i => by simp (disch := omega) only [gd_t, stw_v, cpw_v, jn_v, b1_v, b2_v, w32_id, rd_wr_s, rd_wr_k, rd_wr_i, bz_0, bz_n, if_pos, if_neg, if_true, if_false, ne_eq, not_true_eq_false, not_false_eq_true]
      have hi : 0 ≤ imx v 0 ∧ imx v 0 ≤ 99 := by rw [im]; unfold bd at h2; split <;> omega
      have hb : bd d (imx v 0 * 10 + sgn m (rd m 1 6) - 48) := by rw [im]; unfold bd at h2 ⊢; split <;> omega
      rw [w32_id (x := rd m 1 6 + 1) (by omega) (by omega), w32_id (x := imx v 0 * 10) (by omega) (by omega), w32_id (x := imx v 0 * 10 + sgn m (rd m 1 6)) (by omega) (by omega), w32_id (x := imx v 0 * 10 + sgn m (rd m 1 6) - 48) (by omega) (by omega), w32_id (x := j + 1) (by omega) (by omega)]
      obtain ⟨m', a1, a2, a3⟩ := ih n (imx v 0 * 10 + sgn m (rd m 1 6) - 48) (j + 1) (wr m 1 6 (rd m 1 6 + 1)) (by omega) (by omega) (by omega) hb (by omega) (by rw [e6]; omega) (by rw [e6]; omega) (by rw [e1]; exact h6)
      rw [numS_s e1 e2, e6] at a1 a2
      exact ⟨m', a1, a2, fun k i x => by rw [a3 k i x, wr_ki x]⟩
    · rw [if_neg a]
      refine ⟨m, ?_, rfl, fun _ _ _ => rfl⟩
      by_cases b : sgn m (rd m 1 6) < 48
      · rw [if_pos b]
      · rw [if_neg b, b1_v, if_pos (by omega)]
