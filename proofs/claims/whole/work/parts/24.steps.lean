/-! calls that write: the list, the paths -/
def Sq (n : Nat) (f g : Mem → Option (Int × Mem)) (m : Mem) : Prop := ∃ r m1 m2, f m = some (r, m1) ∧ g m1 = some (r, m2) ∧ Inv (n + 1) m2
theorem Sq_ro {n : Nat} {m : Mem} {f g : Mem → Option (Int × Mem)} {r : Int} (hI : Inv n m) (hf : f m = some (r, m)) (hg : g m = some (r, m)) : Sq n f g m := ⟨r, m, m, hf, hg, Inv_mono (by omega) hI⟩
theorem st_list {n : Nat} {m : Mem} (c : Int) (hI : Inv n m) (hc : inR c) : Sq n (fun m => F10_list m c) (fun m => F11_list m c) m := by
  obtain ⟨r, p1, p2, p3⟩ := place_e c hI
  have hI' := hI
  obtain ⟨h1, h2, h3, h4, h5, h6, h7, h8, ⟨l1, l2, l3, l4, l5⟩, h10⟩ := hI
  have i1 := h1.1; have i3 := h1.2.2.1
  have hc1 := hc.1; have hc2 := hc.2
  by_cases a : 0 ≤ c ∧ c < rd m 83 1
  · by_cases b : r < 0
    · have hr : r = -1 := by rcases p3 with x | x <;> omega
      have hno : ∀ i, 0 ≤ i → i < rd m 31 2 → rd m 103 i ≠ c := by rcases p3 with x | x; exact x.2; omega
      by_cases d : rd m 31 2 < 6
      · obtain ⟨m1, hm1⟩ : ∃ m1, m1 = wr (wr (wr m 44 (rd m 31 2) c) 31 2 (rd m 31 2 + 1)) 31 14 (-1) := ⟨_, rfl⟩
        have q1 : rd m1 83 28 = rd m 83 28 := by rw [hm1]; simp (disch := omega) only [gd_t, stw_v, cpw_v, jn_v, b1_v, b2_v, w32_id, rd_wr_s, rd_wr_k, rd_wr_i, bz_0, bz_n, if_pos, if_neg, if_true, if_false, ne_eq, not_true_eq_false, not_false_eq_true]
        have q2 : ∀ i, rd m1 103 i = rd m 103 i := fun i => by rw [hm1]; simp (disch := omega) only [gd_t, stw_v, cpw_v, jn_v, b1_v, b2_v, w32_id, rd_wr_s, rd_wr_k, rd_wr_i, bz_0, bz_n, if_pos, if_neg, if_true, if_false, ne_eq, not_true_eq_false, not_false_eq_true]
        have q3 : rd m1 83 1 = rd m 83 1 := by rw [hm1]; simp (disch := omega) only [gd_t, stw_v, cpw_v, jn_v, b1_v, b2_v, w32_id, rd_wr_s, rd_wr_k, rd_wr_i, bz_0, bz_n, if_pos, if_neg, if_true, if_false, ne_eq, not_true_eq_false, not_false_eq_true]
        obtain ⟨m2, hm2⟩ : ∃ m2, m2 = wr (wr (wr m1 103 (rd m 83 28) c) 83 28 (rd m 83 28 + 1)) 83 31 0 := ⟨_, rfl⟩
        refine ⟨rd m 31 2 + 1, m1, m2, ?_, ?_, ?_⟩
        · show F10_list m c = _
          unfold F10_list F0_tell
          rw [F1_has_e, i3, p1]
          simp (disch := omega) only [gd_t, stw_v, cpw_v, jn_v, b1_v, b2_v, w32_id, rd_wr_s, rd_wr_k, rd_wr_i, bz_0, bz_n, if_pos, if_neg, if_true, if_false, ne_eq, not_true_eq_false, not_false_eq_true]
          rw [hm1]
        · show F11_list m1 c = _
          unfold F11_list
          rw [F11_isCharter_e m1 c (by omega), lo_F11_placeOf q1 q2, p2, q1, q3]
          simp (disch := omega) only [gd_t, stw_v, cpw_v, jn_v, b1_v, b2_v, w32_id, rd_wr_s, rd_wr_k, rd_wr_i, bz_0, bz_n, if_pos, if_neg, if_true, if_false, ne_eq, not_true_eq_false, not_false_eq_true, q1]
          rw [hm2, l3]
        · have e2 : rd m2 31 2 = rd m 31 2 + 1 := by rw [hm2, hm1]; simp (disch := omega) only [gd_t, stw_v, cpw_v, jn_v, b1_v, b2_v, w32_id, rd_wr_s, rd_wr_k, rd_wr_i, bz_0, bz_n, if_pos, if_neg, if_true, if_false, ne_eq, not_true_eq_false, not_false_eq_true]
          have e28 : rd m2 83 28 = rd m 31 2 + 1 := by rw [hm2, hm1]; simp (disch := omega) only [gd_t, stw_v, cpw_v, jn_v, b1_v, b2_v, w32_id, rd_wr_s, rd_wr_k, rd_wr_i, bz_0, bz_n, if_pos, if_neg, if_true, if_false, ne_eq, not_true_eq_false, not_false_eq_true, l3]
          have e1 : rd m2 83 1 = rd m 83 1 := by rw [hm2, hm1]; simp (disch := omega) only [gd_t, stw_v, cpw_v, jn_v, b1_v, b2_v, w32_id, rd_wr_s, rd_wr_k, rd_wr_i, bz_0, bz_n, if_pos, if_neg, if_true, if_false, ne_eq, not_true_eq_false, not_false_eq_true]
          have e44 : ∀ i, rd m2 44 i = if i = rd m 31 2 then c else rd m 44 i := fun i => by
            rw [hm2, hm1]; simp (disch := omega) only [gd_t, stw_v, cpw_v, jn_v, b1_v, b2_v, w32_id, rd_wr_s, rd_wr_k, rd_wr_i, bz_0, bz_n, if_pos, if_neg, if_true, if_false, ne_eq, not_true_eq_false, not_false_eq_true, rd_wr_c]
          have e103 : ∀ i, rd m2 103 i = if i = rd m 31 2 then c else rd m 103 i := fun i => by
            rw [hm2]; simp (disch := omega) only [gd_t, stw_v, cpw_v, jn_v, b1_v, b2_v, w32_id, rd_wr_s, rd_wr_k, rd_wr_i, bz_0, bz_n, if_pos, if_neg, if_true, if_false, ne_eq, not_true_eq_false, not_false_eq_true, rd_wr_c, q2, l3]
          refine ⟨iCh_s ?_ h1, iCe_s ?_ h2, iTo_s ?_ h3, iLo_s ?_ h4, iHi_s ?_ h5, iTp_s ?_ h6, iPa_s ?_ h7, iSh_s ?_ h8, ?_, ?_⟩
          · rw [hm2, hm1]; exact fun k i q => by unfold PCh at q; simp (disch := omega) only [wr_ki, cpy_ki]
          · rw [hm2, hm1]; exact fun k i q => by unfold PCe at q; simp (disch := omega) only [wr_ki, cpy_ki]
          · rw [hm2, hm1]; exact fun k i q => by unfold PTo at q; simp (disch := omega) only [wr_ki, cpy_ki]
          · rw [hm2, hm1]; exact fun k i q => by unfold PLo at q; simp (disch := omega) only [wr_ki, cpy_ki]
          · rw [hm2, hm1]; exact fun k i q => by unfold PHi at q; simp (disch := omega) only [wr_ki, cpy_ki]
          · rw [hm2, hm1]; exact fun k i q => by unfold PTp at q; simp (disch := omega) only [wr_ki, cpy_ki]
          · rw [hm2, hm1]; exact fun k i q => by unfold PPa at q; simp (disch := omega) only [wr_ki, cpy_ki]
          · rw [hm2, hm1]; exact fun k i q => by unfold PSh at q; simp (disch := omega) only [wr_ki, cpy_ki]
          · unfold iLi
            rw [e2, e28, e1]
            refine ⟨by omega, by omega, rfl, fun i x y => ?_, fun i j x y z w => ?_⟩
            · rw [e44, e103]
              by_cases h : i = rd m 31 2
              · rw [if_pos h, if_pos h]; exact ⟨rfl, a⟩
              · rw [if_neg h, if_neg h]; exact l4 i x (by omega)
            · rw [e103, e103]
              by_cases h : i = rd m 31 2 <;> by_cases h' : j = rd m 31 2
              · intro _; omega
              · rw [if_pos h, if_neg h']; intro q; exact absurd q.symm (hno j z (by omega))
              · rw [if_neg h, if_pos h']; intro q; exact absurd q (hno i x (by omega))
              · rw [if_neg h, if_neg h']; exact l5 i j x (by omega) z (by omega)
          · have f14 : rd m2 31 14 = -1 := by rw [hm2, hm1]; simp (disch := omega) only [gd_t, stw_v, cpw_v, jn_v, b1_v, b2_v, w32_id, rd_wr_s, rd_wr_k, rd_wr_i, bz_0, bz_n, if_pos, if_neg, if_true, if_false, ne_eq, not_true_eq_false, not_false_eq_true]
            have f12 : rd m2 4 12 = rd m 4 12 := by rw [hm2, hm1]; simp (disch := omega) only [gd_t, stw_v, cpw_v, jn_v, b1_v, b2_v, w32_id, rd_wr_s, rd_wr_k, rd_wr_i, bz_0, bz_n, if_pos, if_neg, if_true, if_false, ne_eq, not_true_eq_false, not_false_eq_true]
            have f31 : rd m2 83 31 = 0 := by rw [hm2, hm1]; simp (disch := omega) only [gd_t, stw_v, cpw_v, jn_v, b1_v, b2_v, w32_id, rd_wr_s, rd_wr_k, rd_wr_i, bz_0, bz_n, if_pos, if_neg, if_true, if_false, ne_eq, not_true_eq_false, not_false_eq_true]
            obtain ⟨x1, x2, x3, x4, x5, x6, x7⟩ := h10
            unfold iBt
            rw [f14, f12, f31]
            exact ⟨by omega, by omega, by omega, by omega, Or.inl rfl, ⟨fun h => by omega, fun h => by omega⟩, fun h => by omega⟩
      · refine Sq_ro (r := -3) hI' ?_ ?_
        · show F10_list m c = _
          unfold F10_list
          rw [F1_has_e, i3, p1]
          simp (disch := omega) only [gd_t, stw_v, cpw_v, jn_v, b1_v, b2_v, w32_id, rd_wr_s, rd_wr_k, rd_wr_i, bz_0, bz_n, if_pos, if_neg, if_true, if_false, ne_eq, not_true_eq_false, not_false_eq_true]
        · show F11_list m c = _
          unfold F11_list
          rw [F11_isCharter_e m c i1, p2]
          simp (disch := omega) only [gd_t, stw_v, cpw_v, jn_v, b1_v, b2_v, w32_id, rd_wr_s, rd_wr_k, rd_wr_i, bz_0, bz_n, if_pos, if_neg, if_true, if_false, ne_eq, not_true_eq_false, not_false_eq_true]
    · refine Sq_ro (r := -1) hI' ?_ ?_
      · show F10_list m c = _
        unfold F10_list
        rw [F1_has_e, i3, p1]
        simp (disch := omega) only [gd_t, stw_v, cpw_v, jn_v, b1_v, b2_v, w32_id, rd_wr_s, rd_wr_k, rd_wr_i, bz_0, bz_n, if_pos, if_neg, if_true, if_false, ne_eq, not_true_eq_false, not_false_eq_true]
      · show F11_list m c = _
        unfold F11_list
        rw [F11_isCharter_e m c i1, p2]
        simp (disch := omega) only [gd_t, stw_v, cpw_v, jn_v, b1_v, b2_v, w32_id, rd_wr_s, rd_wr_k, rd_wr_i, bz_0, bz_n, if_pos, if_neg, if_true, if_false, ne_eq, not_true_eq_false, not_false_eq_true]
  · refine Sq_ro (r := -1) hI' ?_ ?_
    · show F10_list m c = _
      unfold F10_list
      rw [F1_has_e, i3]
      simp (disch := omega) only [gd_t, stw_v, cpw_v, jn_v, b1_v, b2_v, w32_id, rd_wr_s, rd_wr_k, rd_wr_i, bz_0, bz_n, if_pos, if_neg, if_true, if_false, ne_eq, not_true_eq_false, not_false_eq_true]
    · show F11_list m c = _
      unfold F11_list
      rw [F11_isCharter_e m c i1]
      simp (disch := omega) only [gd_t, stw_v, cpw_v, jn_v, b1_v, b2_v, w32_id, rd_wr_s, rd_wr_k, rd_wr_i, bz_0, bz_n, if_pos, if_neg, if_true, if_false, ne_eq, not_true_eq_false, not_false_eq_true]
theorem st_unlist {n : Nat} {m : Mem} (hI : Inv n m) : Sq n (fun m => F10_unlist m) (fun m => F11_unlist m) m := by
  obtain ⟨h1, h2, h3, h4, h5, h6, h7, h8, ⟨l1, l2, l3, l4, l5⟩, h10⟩ := hI
  obtain ⟨m2, hm2⟩ : ∃ m2, m2 = wr (wr (wr (wr m 31 2 0) 31 14 (-1)) 83 28 0) 83 31 0 := ⟨_, rfl⟩
  refine ⟨rd m 31 2, wr (wr m 31 2 0) 31 14 (-1), m2, ?_, ?_, ?_⟩
  · show F10_unlist m = _
    unfold F10_unlist F0_forget
    simp (disch := omega) only [gd_t, stw_v, cpw_v, jn_v, b1_v, b2_v, w32_id, rd_wr_s, rd_wr_k, rd_wr_i, bz_0, bz_n, if_pos, if_neg, if_true, if_false, ne_eq, not_true_eq_false, not_false_eq_true]
  · show F11_unlist _ = _
    unfold F11_unlist
    simp (disch := omega) only [gd_t, stw_v, cpw_v, jn_v, b1_v, b2_v, w32_id, rd_wr_s, rd_wr_k, rd_wr_i, bz_0, bz_n, if_pos, if_neg, if_true, if_false, ne_eq, not_true_eq_false, not_false_eq_true]
    rw [hm2, l3]
  · have e2 : rd m2 31 2 = 0 := by rw [hm2]; simp (disch := omega) only [gd_t, stw_v, cpw_v, jn_v, b1_v, b2_v, w32_id, rd_wr_s, rd_wr_k, rd_wr_i, bz_0, bz_n, if_pos, if_neg, if_true, if_false, ne_eq, not_true_eq_false, not_false_eq_true]
    have e28 : rd m2 83 28 = 0 := by rw [hm2]; simp (disch := omega) only [gd_t, stw_v, cpw_v, jn_v, b1_v, b2_v, w32_id, rd_wr_s, rd_wr_k, rd_wr_i, bz_0, bz_n, if_pos, if_neg, if_true, if_false, ne_eq, not_true_eq_false, not_false_eq_true]
    refine ⟨iCh_s ?_ h1, iCe_s ?_ h2, iTo_s ?_ h3, iLo_s ?_ h4, iHi_s ?_ h5, iTp_s ?_ h6, iPa_s ?_ h7, iSh_s ?_ h8, ?_, ?_⟩
    · rw [hm2]; exact fun k i q => by unfold PCh at q; simp (disch := omega) only [wr_ki, cpy_ki]
    · rw [hm2]; exact fun k i q => by unfold PCe at q; simp (disch := omega) only [wr_ki, cpy_ki]
    · rw [hm2]; exact fun k i q => by unfold PTo at q; simp (disch := omega) only [wr_ki, cpy_ki]
    · rw [hm2]; exact fun k i q => by unfold PLo at q; simp (disch := omega) only [wr_ki, cpy_ki]
    · rw [hm2]; exact fun k i q => by unfold PHi at q; simp (disch := omega) only [wr_ki, cpy_ki]
    · rw [hm2]; exact fun k i q => by unfold PTp at q; simp (disch := omega) only [wr_ki, cpy_ki]
    · rw [hm2]; exact fun k i q => by unfold PPa at q; simp (disch := omega) only [wr_ki, cpy_ki]
    · rw [hm2]; exact fun k i q => by unfold PSh at q; simp (disch := omega) only [wr_ki, cpy_ki]
    · unfold iLi
      rw [e2, e28]
      exact ⟨by omega, by omega, rfl, fun i x y => by omega, fun i j x y => by omega⟩
    · have f14 : rd m2 31 14 = -1 := by rw [hm2]; simp (disch := omega) only [gd_t, stw_v, cpw_v, jn_v, b1_v, b2_v, w32_id, rd_wr_s, rd_wr_k, rd_wr_i, bz_0, bz_n, if_pos, if_neg, if_true, if_false, ne_eq, not_true_eq_false, not_false_eq_true]
      have f12 : rd m2 4 12 = rd m 4 12 := by rw [hm2]; simp (disch := omega) only [gd_t, stw_v, cpw_v, jn_v, b1_v, b2_v, w32_id, rd_wr_s, rd_wr_k, rd_wr_i, bz_0, bz_n, if_pos, if_neg, if_true, if_false, ne_eq, not_true_eq_false, not_false_eq_true]
      have f31 : rd m2 83 31 = 0 := by rw [hm2]; simp (disch := omega) only [gd_t, stw_v, cpw_v, jn_v, b1_v, b2_v, w32_id, rd_wr_s, rd_wr_k, rd_wr_i, bz_0, bz_n, if_pos, if_neg, if_true, if_false, ne_eq, not_true_eq_false, not_false_eq_true]
      obtain ⟨x1, x2, x3, x4, x5, x6, x7⟩ := h10
      unfold iBt
      rw [f14, f12, f31]
      exact ⟨by omega, by omega, by omega, by omega, Or.inl rfl, ⟨fun h => by omega, fun h => by omega⟩, fun h => by omega⟩
theorem st_path {n : Nat} {m : Mem} (k c : Int) (hI : Inv n m) (hk : inR k) (hc : inR c) : Sq n (fun m => F10_path m k c) (fun m => F11_path m k c) m := by
  have hI' := hI
  obtain ⟨h1, h2, h3, h4, h5, h6, ⟨p1, p2, p3, p4, p5, p6, p7, p8⟩, h8, h9, h10⟩ := hI
  have i1 := h1.1; have i2 := h1.2.1; have i3 := h1.2.2.1
  have hc1 := hc.1; have hc2 := hc.2; have hk1 := hk.1; have hk2 := hk.2
  by_cases a : 0 ≤ k ∧ k ≤ 6
  · by_cases b : 0 ≤ c ∧ c < rd m 83 1
    · by_cases d : rd m 66 0 < 100
      · obtain ⟨m1, hm1⟩ : ∃ m1, m1 = wr (wr (wr m 67 (rd m 66 0) k) 69 (rd m 66 0) c) 66 0 (rd m 66 0 + 1) := ⟨_, rfl⟩
        obtain ⟨m2, hm2⟩ : ∃ m2, m2 = wr (wr (wr m1 116 (rd m 66 0) k) 117 (rd m 66 0) c) 83 46 (rd m 66 0 + 1) := ⟨_, rfl⟩
        have q3 : rd m1 83 1 = rd m 83 1 := by rw [hm1]; simp (disch := omega) only [gd_t, stw_v, cpw_v, jn_v, b1_v, b2_v, w32_id, rd_wr_s, rd_wr_k, rd_wr_i, bz_0, bz_n, if_pos, if_neg, if_true, if_false, ne_eq, not_true_eq_false, not_false_eq_true]
        have q4 : rd m1 83 46 = rd m 66 0 := by rw [hm1]; simp (disch := omega) only [gd_t, stw_v, cpw_v, jn_v, b1_v, b2_v, w32_id, rd_wr_s, rd_wr_k, rd_wr_i, bz_0, bz_n, if_pos, if_neg, if_true, if_false, ne_eq, not_true_eq_false, not_false_eq_true, p3]
        refine ⟨rd m 66 0, m1, m2, ?_, ?_, ?_⟩
        · show F10_path m k c = _
          unfold F10_path F5_add
          rw [F5_isKind_e, F1_has_e, i3]
          simp (disch := omega) only [gd_t, stw_v, cpw_v, jn_v, b1_v, b2_v, w32_id, rd_wr_s, rd_wr_k, rd_wr_i, bz_0, bz_n, if_pos, if_neg, if_true, if_false, ne_eq, not_true_eq_false, not_false_eq_true]
          rw [show rd m 66 0 + 1 - 1 = rd m 66 0 by omega, hm1]
        · show F11_path m1 k c = _
          unfold F11_path
          rw [F11_in_e, F11_isCharter_e m1 c (by omega), q4, q3]
          simp (disch := omega) only [gd_t, stw_v, cpw_v, jn_v, b1_v, b2_v, w32_id, rd_wr_s, rd_wr_k, rd_wr_i, bz_0, bz_n, if_pos, if_neg, if_true, if_false, ne_eq, not_true_eq_false, not_false_eq_true, q4]
          rw [show rd m 66 0 + 1 - 1 = rd m 66 0 by omega, hm2]
        · have e0 : rd m2 66 0 = rd m 66 0 + 1 := by rw [hm2, hm1]; simp (disch := omega) only [gd_t, stw_v, cpw_v, jn_v, b1_v, b2_v, w32_id, rd_wr_s, rd_wr_k, rd_wr_i, bz_0, bz_n, if_pos, if_neg, if_true, if_false, ne_eq, not_true_eq_false, not_false_eq_true]
          have e46 : rd m2 83 46 = rd m 66 0 + 1 := by rw [hm2]; simp (disch := omega) only [gd_t, stw_v, cpw_v, jn_v, b1_v, b2_v, w32_id, rd_wr_s, rd_wr_k, rd_wr_i, bz_0, bz_n, if_pos, if_neg, if_true, if_false, ne_eq, not_true_eq_false, not_false_eq_true]
          have e1 : rd m2 66 1 = rd m 66 1 := by rw [hm2, hm1]; simp (disch := omega) only [gd_t, stw_v, cpw_v, jn_v, b1_v, b2_v, w32_id, rd_wr_s, rd_wr_k, rd_wr_i, bz_0, bz_n, if_pos, if_neg, if_true, if_false, ne_eq, not_true_eq_false, not_false_eq_true]
          have e49 : rd m2 83 49 = rd m 83 49 := by rw [hm2, hm1]; simp (disch := omega) only [gd_t, stw_v, cpw_v, jn_v, b1_v, b2_v, w32_id, rd_wr_s, rd_wr_k, rd_wr_i, bz_0, bz_n, if_pos, if_neg, if_true, if_false, ne_eq, not_true_eq_false, not_false_eq_true]
          have e67 : ∀ i, rd m2 67 i = if i = rd m 66 0 then k else rd m 67 i := fun i => by
            rw [hm2, hm1]; simp (disch := omega) only [gd_t, stw_v, cpw_v, jn_v, b1_v, b2_v, w32_id, rd_wr_s, rd_wr_k, rd_wr_i, bz_0, bz_n, if_pos, if_neg, if_true, if_false, ne_eq, not_true_eq_false, not_false_eq_true, rd_wr_c]
          have e69 : ∀ i, rd m2 69 i = if i = rd m 66 0 then c else rd m 69 i := fun i => by
            rw [hm2, hm1]; simp (disch := omega) only [gd_t, stw_v, cpw_v, jn_v, b1_v, b2_v, w32_id, rd_wr_s, rd_wr_k, rd_wr_i, bz_0, bz_n, if_pos, if_neg, if_true, if_false, ne_eq, not_true_eq_false, not_false_eq_true, rd_wr_c]
          have e116 : ∀ i, rd m2 116 i = if i = rd m 66 0 then k else rd m 116 i := fun i => by
            rw [hm2, hm1]; simp (disch := omega) only [gd_t, stw_v, cpw_v, jn_v, b1_v, b2_v, w32_id, rd_wr_s, rd_wr_k, rd_wr_i, bz_0, bz_n, if_pos, if_neg, if_true, if_false, ne_eq, not_true_eq_false, not_false_eq_true, rd_wr_c]
          have e117 : ∀ i, rd m2 117 i = if i = rd m 66 0 then c else rd m 117 i := fun i => by
            rw [hm2, hm1]; simp (disch := omega) only [gd_t, stw_v, cpw_v, jn_v, b1_v, b2_v, w32_id, rd_wr_s, rd_wr_k, rd_wr_i, bz_0, bz_n, if_pos, if_neg, if_true, if_false, ne_eq, not_true_eq_false, not_false_eq_true, rd_wr_c]
          have e68 : ∀ i, rd m2 68 i = rd m 68 i := fun i => by rw [hm2, hm1]; simp (disch := omega) only [gd_t, stw_v, cpw_v, jn_v, b1_v, b2_v, w32_id, rd_wr_s, rd_wr_k, rd_wr_i, bz_0, bz_n, if_pos, if_neg, if_true, if_false, ne_eq, not_true_eq_false, not_false_eq_true]
          have e118 : ∀ i, rd m2 118 i = rd m 118 i := fun i => by rw [hm2, hm1]; simp (disch := omega) only [gd_t, stw_v, cpw_v, jn_v, b1_v, b2_v, w32_id, rd_wr_s, rd_wr_k, rd_wr_i, bz_0, bz_n, if_pos, if_neg, if_true, if_false, ne_eq, not_true_eq_false, not_false_eq_true]
          refine ⟨iCh_s ?_ h1, iCe_s ?_ h2, iTo_s ?_ h3, iLo_s ?_ h4, iHi_s ?_ h5, iTp_s ?_ h6, ?_, ?_, iLi_s ?_ h9, ?_⟩
          · rw [hm2, hm1]; exact fun k i q => by unfold PCh at q; simp (disch := omega) only [wr_ki, cpy_ki]
          · rw [hm2, hm1]; exact fun k i q => by unfold PCe at q; simp (disch := omega) only [wr_ki, cpy_ki]
          · rw [hm2, hm1]; exact fun k i q => by unfold PTo at q; simp (disch := omega) only [wr_ki, cpy_ki]
          · rw [hm2, hm1]; exact fun k i q => by unfold PLo at q; simp (disch := omega) only [wr_ki, cpy_ki]
          · rw [hm2, hm1]; exact fun k i q => by unfold PHi at q; simp (disch := omega) only [wr_ki, cpy_ki]
          · rw [hm2, hm1]; exact fun k i q => by unfold PTp at q; simp (disch := omega) only [wr_ki, cpy_ki]
          · unfold iPa
            rw [e0, e46, e1, e49]
            refine ⟨by omega, by omega, rfl, fun i x y => ?_, p5, p6, p7, fun i x y z => by rw [e68, e118]; exact p8 i x y z⟩
            rw [e67, e69, e116, e117]
            by_cases h : i = rd m 66 0
            · simp only [h, if_true]; exact ⟨a.1, a.2, trivial, trivial, b.1, by omega⟩
            · simp only [h, if_false]; exact p4 i x (by omega)
          · refine ⟨fun s x y => ?_, fun s j x y z w => ?_⟩
            · have g : ∀ i, rd m2 (71 + 2 * s.toNat) i = rd m (71 + 2 * s.toNat) i := fun i => by rw [hm2, hm1]; simp (disch := omega) only [gd_t, stw_v, cpw_v, jn_v, b1_v, b2_v, w32_id, rd_wr_s, rd_wr_k, rd_wr_i, bz_0, bz_n, if_pos, if_neg, if_true, if_false, ne_eq, not_true_eq_false, not_false_eq_true]
              have g119 : rd m2 119 s = rd m 119 s := by rw [hm2, hm1]; simp (disch := omega) only [gd_t, stw_v, cpw_v, jn_v, b1_v, b2_v, w32_id, rd_wr_s, rd_wr_k, rd_wr_i, bz_0, bz_n, if_pos, if_neg, if_true, if_false, ne_eq, not_true_eq_false, not_false_eq_true]
              have g120 : rd m2 120 s = rd m 120 s := by rw [hm2, hm1]; simp (disch := omega) only [gd_t, stw_v, cpw_v, jn_v, b1_v, b2_v, w32_id, rd_wr_s, rd_wr_k, rd_wr_i, bz_0, bz_n, if_pos, if_neg, if_true, if_false, ne_eq, not_true_eq_false, not_false_eq_true]
              obtain ⟨u1, u2⟩ := h8.1 s x y
              refine ⟨?_, by rw [g, g120]; exact u2⟩
              unfold shH at u1 ⊢
              rw [g, g, g, g119, e0]
              rcases u1 with u | u | u
              · exact Or.inl u
              · exact Or.inr (Or.inl ⟨u.1, u.2.1, by omega, u.2.2.2⟩)
              · exact Or.inr (Or.inr u)
            · rw [rl_eq (m := m), rl_eq (m := m) (m' := m2) (k := 121)]
              · exact h8.2 s j x y z w
              · rw [hm2, hm1]; simp (disch := omega) only [wr_ki]
              · rw [hm2, hm1]; simp (disch := omega) only [wr_ki]
          · rw [hm2, hm1]; exact fun k i q => by unfold PLi at q; simp (disch := omega) only [wr_ki, cpy_ki]
          · have := iBt_s (n := n) (m := m) (m' := m2) (by rw [hm2, hm1]; exact fun k i q => by unfold PBt at q; simp (disch := omega) only [wr_ki, cpy_ki]) h10
            obtain ⟨x1, x2, x3, x4, x5, x6, x7⟩ := this
            exact ⟨x1, x2, x3, by omega, x5, x6, x7⟩
      · refine Sq_ro (r := -3) hI' ?_ ?_
        · show F10_path m k c = _
          unfold F10_path
          rw [F5_isKind_e, F1_has_e, i3]
          simp (disch := omega) only [gd_t, stw_v, cpw_v, jn_v, b1_v, b2_v, w32_id, rd_wr_s, rd_wr_k, rd_wr_i, bz_0, bz_n, if_pos, if_neg, if_true, if_false, ne_eq, not_true_eq_false, not_false_eq_true]
        · show F11_path m k c = _
          unfold F11_path
          rw [F11_in_e, F11_isCharter_e m c i1, p3]
          simp (disch := omega) only [gd_t, stw_v, cpw_v, jn_v, b1_v, b2_v, w32_id, rd_wr_s, rd_wr_k, rd_wr_i, bz_0, bz_n, if_pos, if_neg, if_true, if_false, ne_eq, not_true_eq_false, not_false_eq_true]
    · refine Sq_ro (r := -1) hI' ?_ ?_
      · show F10_path m k c = _
        unfold F10_path
        rw [F5_isKind_e, F1_has_e, i3]
        simp (disch := omega) only [gd_t, stw_v, cpw_v, jn_v, b1_v, b2_v, w32_id, rd_wr_s, rd_wr_k, rd_wr_i, bz_0, bz_n, if_pos, if_neg, if_true, if_false, ne_eq, not_true_eq_false, not_false_eq_true]
      · show F11_path m k c = _
        unfold F11_path
        rw [F11_in_e, F11_isCharter_e m c i1]
        simp (disch := omega) only [gd_t, stw_v, cpw_v, jn_v, b1_v, b2_v, w32_id, rd_wr_s, rd_wr_k, rd_wr_i, bz_0, bz_n, if_pos, if_neg, if_true, if_false, ne_eq, not_true_eq_false, not_false_eq_true]
  · refine Sq_ro (r := -1) hI' ?_ ?_
    · show F10_path m k c = _
      unfold F10_path
      rw [F5_isKind_e]
      simp (disch := omega) only [gd_t, stw_v, cpw_v, jn_v, b1_v, b2_v, w32_id, rd_wr_s, rd_wr_k, rd_wr_i, bz_0, bz_n, if_pos, if_neg, if_true, if_false, ne_eq, not_true_eq_false, not_false_eq_true]
    · show F11_path m k c = _
      unfold F11_path
      rw [F11_in_e]
      simp (disch := omega) only [gd_t, stw_v, cpw_v, jn_v, b1_v, b2_v, w32_id, rd_wr_s, rd_wr_k, rd_wr_i, bz_0, bz_n, if_pos, if_neg, if_true, if_false, ne_eq, not_true_eq_false, not_false_eq_true]
