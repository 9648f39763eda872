theorem L11_num {M : Mem} (h6 : iTp M) {w : Int} (hw : w ≤ 3) {kk : Int → Int → Mem → Option (Int × Mem)} : ∀ (d n : Nat) (v j : Int) (r : Mem), j + d = w → 0 ≤ j → d < n → bd d v → 0 ≤ v → rd r 83 10 = rd M 83 10 → (∀ i, rd r 91 i = rd M 91 i) → 0 ≤ rd r 83 11 → rd r 83 11 ≤ 120 →
    ∃ r' j', L11_number_4 w kk n v j r = kk (numS M d v (rd r 83 11)).1 j' r' ∧ j' = j + ((numS M d v (rd r 83 11)).2 - rd r 83 11) ∧ rd r' 83 11 = (numS M d v (rd r 83 11)).2 ∧ (∀ k i, ¬ (k = 83 ∧ i = 11) → r' k i = r k i) := by
  have t1 := h6.2.1; have t3 := h6.2.2.1
  intro d
  induction d with
  | zero =>
    intro n v j r h0 h0' h1 h2 h3 h4 h5 h7 h8
    obtain ⟨n, rfl⟩ : ∃ i, n = i + 1 := ⟨n - 1, by omega⟩
    exact ⟨r, j, by rw [L11_number_4, if_pos (by omega)]; rfl, by show j = j + (rd r 83 11 - rd r 83 11); omega, rfl, fun _ _ _ => rfl⟩
  | succ d ih =>
    intro n v j r h0 h0' h1 h2 h3 h4 h5 h7 h8
    obtain ⟨n, rfl⟩ : ∃ i, n = i + 1 := ⟨n - 1, by omega⟩
    obtain ⟨s1, s2, s3, s4⟩ := sgn_look h6 h7
    rw [L11_number_4, if_neg (by omega), look_e h7 (by omega), b1_v, h4, h5, F11_in_e]
    obtain ⟨l, hl⟩ : ∃ l, l = if rd r 83 11 < rd M 83 10 then rd M 91 (rd r 83 11) else -1 := ⟨_, rfl⟩
    rw [← hl] at s3 s4 ⊢
    unfold numS
    by_cases a : 48 ≤ sgn M (rd r 83 11) ∧ sgn M (rd r 83 11) ≤ 57
    · have ls := s3 (by omega)
      have en := sgn_end (m := M) (p := rd r 83 11) (by omega)
      rw [if_pos a, if_neg (by rw [bz_0]; omega), b1_v, stw_v]
      have im : imx v 0 = v := by unfold imx; split <;> omega
      have hv : v ≤ 99 := by unfold bd at h2; omega
      have e6 : rd (wr r 83 11 (rd r 83 11 + 1)) 83 11 = rd r 83 11 + 1 := by simp (disch := omega) only [gd_t, stw_v, cpw_v, jn_v, b1_v, b2_v, w32_id, rd_wr_s, rd_wr_k, rd_wr_i, bz_0, bz_n, if_pos, if_neg, if_true, if_false, ne_eq, not_true_eq_false, not_false_eq_true]
      have hb : bd d (v * 10 + sgn M (rd r 83 11) - 48) := by unfold bd at h2 ⊢; omega
      rw [ls, im, w32_id (x := rd r 83 11 + 1) (by omega) (by omega), w32_id (x := 10 * v) (by omega) (by omega), w32_id (x := 10 * v + sgn M (rd r 83 11)) (by omega) (by omega), w32_id (x := 10 * v + sgn M (rd r 83 11) - 48) (by omega) (by omega), w32_id (x := j + 1) (by omega) (by omega), show 10 * v + sgn M (rd r 83 11) - 48 = v * 10 + sgn M (rd r 83 11) - 48 by omega]
      obtain ⟨r', j', a1, a2, a3, a4⟩ := ih n (v * 10 + sgn M (rd r 83 11) - 48) (j + 1) (wr r 83 11 (rd r 83 11 + 1)) (by omega) (by omega) (by omega) hb (by omega) (by rw [rd_wr_i (by omega)]; exact h4) (fun i => by rw [rd_wr_k (by omega)]; exact h5 i) (by rw [e6]; omega) (by rw [e6]; omega)
      rw [e6] at a1 a2 a3
      exact ⟨r', j', a1, by omega, a3, fun k i x => by rw [a4 k i x, wr_ki x]⟩
    · rw [if_neg a]
      refine ⟨r, j, ?_, by show j = j + (rd r 83 11 - rd r 83 11); omega, rfl, fun _ _ _ => rfl⟩
      rw [if_pos (by rw [bz_0]; intro q; by_cases c : sgn M (rd r 83 11) ≤ 127; (have := s3 c; omega); (have := s4 (by omega); omega))]
