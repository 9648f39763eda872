theorem st_forms {n : Nat} {m : Mem} (c s p z : Int) (hI : Inv n m) (hn : n < 100000000) (hc : inR c) (hp : inR p) : Sq n (fun m => F10_forms m c s p z) (fun m => F11_forms m c s p z) m := by
  have hI' := hI
  have x4 : rd m 4 12 ≤ 16 * (n : Int) := hI.2.2.2.2.2.2.2.2.2.2.2.2.1
  have i1 := hI.1.1; have i2 := hI.1.2.1; have i3 := hI.1.2.2.1
  have hc1 := hc.1; have hc2 := hc.2
  have no : ∀ r, F10_forms m c s p z = some (r, m) → F11_forms m c s p z = some (r, m) → Sq n (fun m => F10_forms m c s p z) (fun m => F11_forms m c s p z) m := fun r a b => Sq_ro hI' a b
  by_cases a : 0 ≤ c ∧ c < rd m 83 1
  · by_cases b : 0 ≤ s ∧ s < 6
    · by_cases d : 1 ≤ z ∧ z ≤ 16
      · obtain ⟨u1, u2, u3, u4⟩ := hI.2.2.2.2.2.2.2.1.1 s b.1 b.2
        by_cases e1 : rd m 119 s = -1
        · have e1' : rd m (71 + 2 * s.toNat) 0 = 0 := by unfold shH at u1; omega
          refine no 0 ?_ ?_
          · unfold F10_forms; rw [F1_has_e, F10_isShelf_e, i3]; simp (disch := omega) only [gd_t, stw_v, cpw_v, jn_v, b1_v, b2_v, w32_id, rd_wr_s, rd_wr_k, rd_wr_i, bz_0, bz_n, if_pos, if_neg, if_true, if_false, ne_eq, not_true_eq_false, not_false_eq_true]
          · unfold F11_forms; rw [F11_isCharter_e m c i1, F11_isShelf_e, F11_in_e]; simp (disch := omega) only [gd_t, stw_v, cpw_v, jn_v, b1_v, b2_v, w32_id, rd_wr_s, rd_wr_k, rd_wr_i, bz_0, bz_n, if_pos, if_neg, if_true, if_false, ne_eq, not_true_eq_false, not_false_eq_true]
        · have e1' : rd m (71 + 2 * s.toNat) 0 ≠ 0 := by unfold shH at u1; omega
          by_cases e2 : rd m 119 s = -2
          · have e2' : rd m (71 + 2 * s.toNat) 0 = 2 := by unfold shH at u1; omega
            have e3' : rd m (71 + 2 * s.toNat) 2 = 0 := by unfold shH at u1; omega
            have mm : mix m m = m := by funext k i; unfold mix; split <;> rfl
            obtain ⟨o, d1, r1, f1, f2, f3, f4, f5⟩ := L_forms (a := n + 1) (c := c) (s := s) (p := p) (z := z) d.2 b hp (by omega) z.toNat FU 0 m m (by omega) (by rw [FU_eq]; omega) (by omega) (by rw [mm]; exact Inv_mono (by omega) hI) (by rw [mm]; omega) a.1 (by rw [mm]; exact a.2)
            have md : mix m d1 = m := by
              funext k i
              by_cases w : k < 83
              · exact mix_l w
              · rw [mix_r (by omega)]; exact f4 k i (by omega)
            obtain ⟨o', d2, r2, g1, g2, g3, g4, g5⟩ := L_forms (a := n + 1) (c := c) (s := s) (p := p) (z := z) d.2 b hp (by omega) z.toNat FU 0 m d1 (by omega) (by rw [FU_eq]; omega) (by omega) (by rw [md]; exact Inv_mono (by omega) hI) (by rw [md]; omega) a.1 (by rw [md]; exact a.2)
            have eq := Option.some.inj (f1.symm.trans g1)
            obtain ⟨rfl, rfl⟩ := Prod.mk.inj eq
            have mr : mix d1 r2 = r2 := by
              funext k i
              by_cases w : k < 83
              · rw [mix_l w]; exact (g5 k i w).symm
              · exact mix_r (by omega)
            rw [mr] at g3
            have q83 : rd d1 83 1 = rd m 83 1 := rd_eq (f4 _ _ (by omega))
            have q119 : rd d1 119 s = rd m 119 s := rd_eq (f4 _ _ (by omega))
            refine ⟨o, d1, r2, ?_, ?_, g3⟩
            · show F10_forms m c s p z = _
              unfold F10_forms; rw [F1_has_e, F10_isShelf_e, i3]; simp (disch := omega) only [gd_t, stw_v, cpw_v, jn_v, b1_v, b2_v, w32_id, rd_wr_s, rd_wr_k, rd_wr_i, bz_0, bz_n, if_pos, if_neg, if_true, if_false, ne_eq, not_true_eq_false, not_false_eq_true]
              exact f1
            · show F11_forms d1 c s p z = _
              unfold F11_forms; rw [F11_isCharter_e d1 c (by omega), F11_isShelf_e, F11_in_e, q83, q119]; simp (disch := omega) only [gd_t, stw_v, cpw_v, jn_v, b1_v, b2_v, w32_id, rd_wr_s, rd_wr_k, rd_wr_i, bz_0, bz_n, if_pos, if_neg, if_true, if_false, ne_eq, not_true_eq_false, not_false_eq_true]
              exact g2
          · refine no (-12) ?_ ?_
            · unfold F10_forms; rw [F1_has_e, F10_isShelf_e, i3]
              by_cases e3 : rd m (71 + 2 * s.toNat) 0 = 2
              · have e4 : rd m (71 + 2 * s.toNat) 2 ≠ 0 := by unfold shH at u1; omega
                simp (disch := omega) only [gd_t, stw_v, cpw_v, jn_v, b1_v, b2_v, w32_id, rd_wr_s, rd_wr_k, rd_wr_i, bz_0, bz_n, if_pos, if_neg, if_true, if_false, ne_eq, not_true_eq_false, not_false_eq_true]
              · simp (disch := omega) only [gd_t, stw_v, cpw_v, jn_v, b1_v, b2_v, w32_id, rd_wr_s, rd_wr_k, rd_wr_i, bz_0, bz_n, if_pos, if_neg, if_true, if_false, ne_eq, not_true_eq_false, not_false_eq_true]
            · unfold F11_forms; rw [F11_isCharter_e m c i1, F11_isShelf_e, F11_in_e]; simp (disch := omega) only [gd_t, stw_v, cpw_v, jn_v, b1_v, b2_v, w32_id, rd_wr_s, rd_wr_k, rd_wr_i, bz_0, bz_n, if_pos, if_neg, if_true, if_false, ne_eq, not_true_eq_false, not_false_eq_true]
      · refine no (-1) ?_ ?_
        · unfold F10_forms; rw [F1_has_e, F10_isShelf_e, i3]
          by_cases e : z < 1
          · simp (disch := omega) only [gd_t, stw_v, cpw_v, jn_v, b1_v, b2_v, w32_id, rd_wr_s, rd_wr_k, rd_wr_i, bz_0, bz_n, if_pos, if_neg, if_true, if_false, ne_eq, not_true_eq_false, not_false_eq_true]
          · simp (disch := omega) only [gd_t, stw_v, cpw_v, jn_v, b1_v, b2_v, w32_id, rd_wr_s, rd_wr_k, rd_wr_i, bz_0, bz_n, if_pos, if_neg, if_true, if_false, ne_eq, not_true_eq_false, not_false_eq_true]
        · unfold F11_forms; rw [F11_isCharter_e m c i1, F11_isShelf_e, F11_in_e]; simp (disch := omega) only [gd_t, stw_v, cpw_v, jn_v, b1_v, b2_v, w32_id, rd_wr_s, rd_wr_k, rd_wr_i, bz_0, bz_n, if_pos, if_neg, if_true, if_false, ne_eq, not_true_eq_false, not_false_eq_true]
    · refine no (-1) ?_ ?_
      · unfold F10_forms; rw [F1_has_e, F10_isShelf_e, i3]; simp (disch := omega) only [gd_t, stw_v, cpw_v, jn_v, b1_v, b2_v, w32_id, rd_wr_s, rd_wr_k, rd_wr_i, bz_0, bz_n, if_pos, if_neg, if_true, if_false, ne_eq, not_true_eq_false, not_false_eq_true]
      · unfold F11_forms; rw [F11_isCharter_e m c i1, F11_isShelf_e]; simp (disch := omega) only [gd_t, stw_v, cpw_v, jn_v, b1_v, b2_v, w32_id, rd_wr_s, rd_wr_k, rd_wr_i, bz_0, bz_n, if_pos, if_neg, if_true, if_false, ne_eq, not_true_eq_false, not_false_eq_true]
  · refine no (-1) ?_ ?_
    · unfold F10_forms; rw [F1_has_e, i3]; simp (disch := omega) only [gd_t, stw_v, cpw_v, jn_v, b1_v, b2_v, w32_id, rd_wr_s, rd_wr_k, rd_wr_i, bz_0, bz_n, if_pos, if_neg, if_true, if_false, ne_eq, not_true_eq_false, not_false_eq_true]
    · unfold F11_forms; rw [F11_isCharter_e m c i1]; simp (disch := omega) only [gd_t, stw_v, cpw_v, jn_v, b1_v, b2_v, w32_id, rd_wr_s, rd_wr_k, rd_wr_i, bz_0, bz_n, if_pos, if_neg, if_true, if_false, ne_eq, not_true_eq_false, not_false_eq_true]
