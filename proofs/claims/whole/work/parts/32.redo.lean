theorem ck_2 {m : Mem} {kd j v : Int} (h : okV m kd j v) : 88 = ck kd → kd = 2 := by
  intro z
  unfold ck at z
  unfold okV at h
  rcases h with ⟨o, -⟩ | ⟨o, -⟩ | ⟨o, -⟩
  · rw [o] at z; simp at z
  · rw [o] at z; simp at z
  · exact o
theorem st_redo {n : Nat} {m : Mem} (hI : Inv n m) (hn : n < 100000000) : Sq n (fun m => F10_redo m) (fun m => F11_redo m) m := by
  have hI' := hI
  obtain ⟨⟨a1, a2, a3, a4, a5⟩, h2, h3, ⟨l1, l2, l3, l4, l5, l6⟩, ⟨h, hh1, hh2, hh3, hh4⟩, h6, h7, h8, h9, ⟨x1, x2, x3, x4, x5, x6, x7⟩⟩ := hI
  by_cases a : 0 < rd m 83 14
  · obtain ⟨u, hu⟩ : ∃ u, u = rd m 83 13 := ⟨_, rfl⟩
    rw [← hu] at l1 l3 l4
    obtain ⟨p, q, r⟩ := l6 u (by omega) (by omega)
    obtain ⟨-, ok, ec⟩ := logC_ok r
    obtain ⟨vv1, vv2, vv3, vv4⟩ := valueAt_e h2 a2 ok
    obtain ⟨kd, hkd⟩ : ∃ kd, kd = rd m 92 u := ⟨_, rfl⟩
    obtain ⟨j, hj⟩ : ∃ j, j = rd m 93 u := ⟨_, rfl⟩
    obtain ⟨v, hv⟩ : ∃ v, v = rd m 95 u := ⟨_, rfl⟩
    have wv : w32 v = v := by rw [hv]; exact w32_rd _ _ _
    rw [← hkd, ← hj] at ec vv1 vv2 vv3 vv4
    rw [← hkd, ← hj, ← hv] at ok
    rw [← hv] at q
    obtain ⟨m1, hm1⟩ : ∃ m1, m1 = wr (wr (wr (wr m 9 (cel kd j) v) 4 10 (u + 1)) 4 11 (rd m 83 14 - 1)) 4 12 (rd m 4 12 + 1) := ⟨_, rfl⟩
    obtain ⟨m2, hm2⟩ : ∃ m2, m2 = wr (wr (wr (wr m1 (ck kd) j v) 83 13 (u + 1)) 83 14 (rd m 83 14 - 1)) 83 31 0 := ⟨_, rfl⟩
    have ckk : ck kd = 88 ∨ ck kd = 89 ∨ ck kd = 90 := by
      unfold ck; split
      · omega
      · split <;> omega
    have q1 : ∀ k i, k ≠ 9 → k ≠ 4 → rd m1 k i = rd m k i := fun k i x y => by rw [hm1]; simp (disch := omega) only [rd_wr_k]
    refine ⟨rd m 83 14 - 1, m1, m2, ?_, ?_, ?_⟩
    · show F10_redo m = _
      unfold F10_redo F1_forth
      rw [l5, if_neg (by omega), l4, if_pos (by omega)]
      simp (disch := omega) only [gd_t, stw_v, w32_id, rd_wr_k, rd_wr_i, rd_wr_s, l4, l5, ec, q, b2_v]
      rw [hm1]
    · show F11_redo m1 = _
      unfold F11_redo
      rw [q1 83 14 (by omega) (by omega), if_pos (by omega)]
      simp (disch := omega) only [gd_t, q1, ← hu, ← hkd, ← hj, ← hv]
      rw [set_e a2 ok, b1_v]
      simp (disch := omega) only [gd_t, stw_v, w32_id, rd_wr_k, rd_wr_i, rd_wr_s, q1, ← hu]
      rw [hm2]
    · have g : ∀ k i, ¬ QM k i → m2 k i = m k i := by
        intro k i x
        unfold QM at x
        rw [hm2, hm1]
        simp (disch := omega) only [wr_ki]
      have gl : ∀ k i, (10 ≤ k ∧ k ≤ 12) ∨ (92 ≤ k ∧ k ≤ 95) → rd m2 k i = rd m k i := by
        intro k i x
        rw [hm2, hm1]
        simp (disch := omega) only [rd_wr_k]
      have e13 : rd m2 83 13 = u + 1 := by rw [hm2]; simp (disch := omega) only [gd_t, stw_v, cpw_v, jn_v, b1_v, b2_v, w32_id, rd_wr_s, rd_wr_k, rd_wr_i, bz_0, bz_n, if_pos, if_neg, if_true, if_false, ne_eq, not_true_eq_false, not_false_eq_true]
      have e14 : rd m2 83 14 = rd m 83 14 - 1 := by rw [hm2]; simp (disch := omega) only [gd_t, stw_v, cpw_v, jn_v, b1_v, b2_v, w32_id, rd_wr_s, rd_wr_k, rd_wr_i, bz_0, bz_n, if_pos, if_neg, if_true, if_false, ne_eq, not_true_eq_false, not_false_eq_true]
      have e410 : rd m2 4 10 = u + 1 := by rw [hm2, hm1]; simp (disch := omega) only [gd_t, stw_v, cpw_v, jn_v, b1_v, b2_v, w32_id, rd_wr_s, rd_wr_k, rd_wr_i, bz_0, bz_n, if_pos, if_neg, if_true, if_false, ne_eq, not_true_eq_false, not_false_eq_true]
      have e411 : rd m2 4 11 = rd m 83 14 - 1 := by rw [hm2, hm1]; simp (disch := omega) only [gd_t, stw_v, cpw_v, jn_v, b1_v, b2_v, w32_id, rd_wr_s, rd_wr_k, rd_wr_i, bz_0, bz_n, if_pos, if_neg, if_true, if_false, ne_eq, not_true_eq_false, not_false_eq_true]
      have e412 : rd m2 4 12 = rd m 4 12 + 1 := by rw [hm2, hm1]; simp (disch := omega) only [gd_t, stw_v, cpw_v, jn_v, b1_v, b2_v, w32_id, rd_wr_s, rd_wr_k, rd_wr_i, bz_0, bz_n, if_pos, if_neg, if_true, if_false, ne_eq, not_true_eq_false, not_false_eq_true]
      have e1 : rd m2 83 1 = rd m 83 1 := rd_eq (g _ _ (by unfold QM; omega))
      have e9 : ∀ i, rd m2 9 i = if i = cel kd j then v else rd m 9 i := by
        intro i
        rw [hm2, hm1]
        simp (disch := omega) only [rd_wr_k]
        rw [rd_wr_c, wv]
      have eR : ∀ k i, k = 88 ∨ k = 89 ∨ k = 90 → rd m2 k i = if k = ck kd ∧ i = j then v else rd m k i := by
        intro k i x
        rw [hm2, rd_wr_k (by omega), rd_wr_k (by omega), rd_wr_k (by omega), rd_wr, wv]
        simp (disch := omega) only [q1]
      refine Inv_set hI' ok (by omega) g e9 eR e412 (by rw [hm2]; simp (disch := omega) only [gd_t, stw_v, cpw_v, jn_v, b1_v, b2_v, w32_id, rd_wr_s, rd_wr_k, rd_wr_i, bz_0, bz_n, if_pos, if_neg, if_true, if_false, ne_eq, not_true_eq_false, not_false_eq_true]) ?_ ?_
      · unfold iLo logC
        rw [e13, e14, e410, e411, e1]
        refine ⟨by omega, by omega, by omega, rfl, rfl, fun i x y => ?_⟩
        rw [gl 10 i (by omega), gl 11 i (by omega), gl 12 i (by omega), gl 92 i (by omega), gl 93 i (by omega), gl 94 i (by omega), gl 95 i (by omega)]
        exact l6 i x (by omega)
      · refine ⟨h, ?_, ?_, ?_, ?_⟩
        · intro i x y
          rw [e13, e14] at y
          rw [e1]; exact hh1 i x (by omega)
        · intro c x y
          rw [e1] at y
          rw [e13, eR 88 c (by omega)]
          have z2 := hh2 c x y
          rw [← hu] at z2
          have z3 := hh3 u (by omega) (by omega)
          have z4 := hh4 u c (by omega) (by omega) x y
          rw [← hkd, ← hj] at z4
          rw [← hkd, ← hj, ← hv] at z3
          by_cases z : kd = 2 ∧ j = c
          · rw [if_pos ⟨by unfold ck; rw [z.1]; rfl, z.2.symm⟩, ← (z3 z.1).2, z.2]
          · rw [if_neg (fun w => z ⟨ck_2 ok w.1, w.2.symm⟩), ← z2, z4 z]
        · intro i x y z
          rw [e13, e14] at y
          rw [gl 92 i (by omega)] at z
          rw [gl 93 i (by omega), gl 94 i (by omega), gl 95 i (by omega)]
          exact hh3 i x (by omega) z
        · intro i c x y z w t
          rw [e13, e14] at y
          rw [e1] at w
          rw [gl 92 i (by omega), gl 93 i (by omega)] at t
          exact hh4 i c x (by omega) z w t
  · refine Sq_ro (r := -5) hI' ?_ ?_
    · show F10_redo m = _
      unfold F10_redo F1_forth
      rw [l5, if_pos (by omega), b2_v]
    · show F11_redo m = _
      unfold F11_redo
      rw [if_neg (by omega)]
