/-! one change, by both sides; price, form -/
theorem ok_now {m : Mem} {kd j v : Int} (h2 : iCe m) (ok : okV m kd j v) : okV m kd j (rd m (ck kd) j) := by
  obtain ⟨c1, c2, c3⟩ := h2
  unfold okV ck at *
  rcases ok with ⟨rfl, o1, o2, o3⟩ | ⟨rfl, o1, o2, o3, o4⟩ | ⟨rfl, o1, o2⟩
  · have := (c1 (j / 16) (j % 16) (by omega) (by omega) (by omega) (by omega)).2
    rw [show 16 * (j / 16) + j % 16 = j by omega] at this
    exact Or.inl ⟨rfl, o1, o2, this⟩
  · exact Or.inr (Or.inl ⟨rfl, o1, o2, (c2 j o1 o2).2⟩)
  · exact Or.inr (Or.inr ⟨rfl, o1, o2⟩)
theorem ac_now {m : Mem} (hC : iLo m) (hi : iHi m) : acyc (rd m 83 1) (fun c => rd m 88 c) := by
  obtain ⟨h, hh1, hh2, -⟩ := hi
  exact acyc_c hh2 (hh1 _ hC.1 (by have := hC.2.1; omega))
theorem chg {n a : Nat} {m : Mem} {kd j v : Int} (hI : Inv n m) (ha : rd m 4 12 + 1 ≤ 16 * (a : Int)) (ha' : n ≤ a) (hb : rd m 4 12 < 2000000000) (ok : okV m kd j v) (hv : inR v) (ac : kd = 2 → rd m 88 j ≠ v → acyc (rd m 83 1) (fun c => if c = j then v else rd m 88 c)) :
    ∃ m1 m2, F1_change m (cel kd j) v = some (rd m (ck kd) j, m1) ∧ F11_changes m1 kd j v = some (rd m (ck kd) j, m2) ∧ Inv a m2 := by
  have hI' := hI
  obtain ⟨⟨a1, a2, a3, a4, a5⟩, h2, h3, h4, h5, h6, h7, h8, h9, ⟨x1, x2, x3, x4, x5, x6, x7⟩⟩ := hI
  obtain ⟨v1, v2, v3, v4⟩ := valueAt_e h2 a2 ok
  have l1 := h4.1; have l2 := h4.2.1; have l3 := h4.2.2.1; have l4 := h4.2.2.2.1; have l5 := h4.2.2.2.2.1
  have ckk : ck kd = 88 ∨ ck kd = 89 ∨ ck kd = 90 := by
    unfold ck; split
    · omega
    · split <;> omega
  by_cases e : rd m (ck kd) j = v
  · refine ⟨m, m, ?_, ?_, Inv_mono ha' hI'⟩
    · unfold F1_change
      rw [gd_t ⟨v3, v4⟩, v2, if_neg (by omega)]
    · unfold F11_changes
      rw [v1, b1_v, if_neg (by omega)]
  · obtain ⟨m1, u, S, d0, d1, d2, d3, d4, d5, d6, d7, d8, d9, d10, d11, d12, d13, d14, d15⟩ := dchange (m := m) (x := cel kd j) (v := v) hv v3 v4 (by omega) (by omega) x3 (by omega) (by rw [v2]; exact e)
    have q : ∀ k i, 13 ≤ k → m1 k i = m k i := fun k i x => d7 k i (by omega) (by omega) (by omega)
    have q13 : rd m1 83 13 = rd m 83 13 := rd_eq (q _ _ (by omega))
    have qk : rd m1 (ck kd) j = rd m (ck kd) j := rd_eq (q _ _ (by omega))
    have hkd : kd = 0 ∧ 0 ≤ j ∧ j < 192 ∨ kd = 1 ∧ 0 ≤ j ∧ j < 5 ∨ kd = 2 ∧ 0 ≤ j ∧ j < 12 := by
      unfold okV at ok; omega
    obtain ⟨m2, u', S', r0, r1, r2, r3, r4, r5, r6, r7, r8, r9, r10, r11, r12, r13, r14, r15, r16⟩ := rchange (m := m1) (kd := kd) (j := j) (v := v) (C := 0) hv hkd (by omega) (by omega) (by rw [qk]; exact e)
    have hu : u' = u ∧ S' = S := by omega
    obtain ⟨rfl, rfl⟩ := hu
    have t : ∀ k i, k < 83 → m2 k i = m1 k i := fun k i x => r7 k i (by omega) (by omega) (by omega)
    have g : ∀ k i, ¬ QM k i → m2 k i = m k i := by
      intro k i x
      unfold QM at x
      rw [r7 k i (by omega) (by omega) (by omega), d7 k i (by omega) (by omega) (by omega)]
    have e1 : rd m2 83 1 = rd m 83 1 := rd_eq (g _ _ (by unfold QM; omega))
    have e9 : ∀ i, rd m2 9 i = if i = cel kd j then v else rd m 9 i := by
      intro i
      rw [rd_eq (t 9 i (by omega))]
      by_cases z : i = cel kd j
      · rw [if_pos z, z, d8]
      · rw [if_neg z]; exact rd_eq (d7 9 i (by omega) (by omega) (by omega))
    have eR : ∀ k i, k = 88 ∨ k = 89 ∨ k = 90 → rd m2 k i = if k = ck kd ∧ i = j then v else rd m k i := by
      intro k i x
      by_cases z : k = ck kd ∧ i = j
      · rw [if_pos z, z.1, z.2, r8]
      · rw [if_neg z]
        have : m2 k i = m k i := by rw [r7 k i z (by omega) (by omega), q k i (by omega)]
        exact rd_eq this
    have e12 : rd m2 4 12 = rd m 4 12 + 1 := by rw [rd_eq (t 4 12 (by omega))]; exact d11
    have lg := log_new (m := m) (m2 := m2) (S := S') (u := u') (kd := kd) (j := j) (v := v) h4 h5 ok (ok_now h2 ok) d1 (by omega) d3 d4 e1 r9 r10 (by rw [rd_eq (t 4 10 (by omega))]; exact d9) (by rw [rd_eq (t 4 11 (by omega))]; exact d10)
      (by
        intro k i x y z
        by_cases w : k < 83
        · rw [rd_eq (t k i w)]; exact d12 k i (by omega) y z
        · rw [r12 k i (by omega) y z]; exact rd_eq (q k _ (by omega)))
      (by rw [rd_eq (t 10 _ (by omega))]; exact d13) (by rw [rd_eq (t 11 _ (by omega)), d14, v2]) (by rw [rd_eq (t 12 _ (by omega))]; exact d15) r13 r14 (by rw [r15, qk]) r16 (fun c => eR 88 c (by omega))
      (by
        by_cases z : kd = 2
        · have := ac z (by unfold ck at e; rw [z] at e; exact e)
          refine acyc_c (fun c x y => ?_) this
          by_cases w : c = j
          · rw [if_pos w, if_pos ⟨z, w⟩]
          · rw [if_neg w, if_neg (by omega)]
        · exact acyc_c (fun c x y => by rw [if_neg (by omega)]) (ac_now h4 h5))
    exact ⟨m1, m2, by rw [d0, v2], by rw [r0, qk], Inv_set hI' ok (by omega) g e9 eR e12 r11 lg.1 lg.2⟩
theorem st_price {n : Nat} {m : Mem} (k v : Int) (hI : Inv n m) (hn : n < 100000000) : Sq n (fun m => F10_price m k v) (fun m => F11_price m k v) m := by
  have hI' := hI
  have x4 : rd m 4 12 ≤ 16 * (n : Int) := hI.2.2.2.2.2.2.2.2.2.2.2.2.1
  by_cases a : 0 ≤ k ∧ k ≤ 4
  · by_cases b : 0 ≤ v ∧ v ≤ 99
    · obtain ⟨m1, m2, f1, f2, f3⟩ := chg (a := n + 1) (kd := 1) (j := k) (v := v) hI (by omega) (by omega) (by omega) (Or.inr (Or.inl ⟨rfl, a.1, by omega, b.1, b.2⟩)) (by unfold inR; omega) (fun z => by omega)
      refine ⟨rd m (ck 1) k, m1, m2, ?_, ?_, f3⟩
      · show F10_price m k v = _
        unfold F10_price
        have : cel 1 k = F1_costCell k := by rw [costCell_e (by omega) (by omega)]; rfl
        rw [this] at f1
        simp (disch := omega) only [gd_t, stw_v, cpw_v, jn_v, b1_v, b2_v, w32_id, rd_wr_s, rd_wr_k, rd_wr_i, bz_0, bz_n, if_pos, if_neg, if_true, if_false, ne_eq, not_true_eq_false, not_false_eq_true, f1]
      · show F11_price m1 k v = _
        unfold F11_price
        rw [F11_in_e, F11_in_e]
        simp (disch := omega) only [gd_t, stw_v, cpw_v, jn_v, b1_v, b2_v, w32_id, rd_wr_s, rd_wr_k, rd_wr_i, bz_0, bz_n, if_pos, if_neg, if_true, if_false, ne_eq, not_true_eq_false, not_false_eq_true, f2]
    · refine Sq_ro (r := -1) hI' ?_ ?_
      · show F10_price m k v = _
        unfold F10_price
        by_cases c : v < 0
        · simp (disch := omega) only [gd_t, stw_v, cpw_v, jn_v, b1_v, b2_v, w32_id, rd_wr_s, rd_wr_k, rd_wr_i, bz_0, bz_n, if_pos, if_neg, if_true, if_false, ne_eq, not_true_eq_false, not_false_eq_true]
        · simp (disch := omega) only [gd_t, stw_v, cpw_v, jn_v, b1_v, b2_v, w32_id, rd_wr_s, rd_wr_k, rd_wr_i, bz_0, bz_n, if_pos, if_neg, if_true, if_false, ne_eq, not_true_eq_false, not_false_eq_true]
      · show F11_price m k v = _
        unfold F11_price
        rw [F11_in_e, F11_in_e]
        simp (disch := omega) only [gd_t, stw_v, cpw_v, jn_v, b1_v, b2_v, w32_id, rd_wr_s, rd_wr_k, rd_wr_i, bz_0, bz_n, if_pos, if_neg, if_true, if_false, ne_eq, not_true_eq_false, not_false_eq_true]
  · refine Sq_ro (r := -1) hI' ?_ ?_
    · show F10_price m k v = _
      unfold F10_price
      by_cases c : k < 0
      · simp (disch := omega) only [gd_t, stw_v, cpw_v, jn_v, b1_v, b2_v, w32_id, rd_wr_s, rd_wr_k, rd_wr_i, bz_0, bz_n, if_pos, if_neg, if_true, if_false, ne_eq, not_true_eq_false, not_false_eq_true]
      · simp (disch := omega) only [gd_t, stw_v, cpw_v, jn_v, b1_v, b2_v, w32_id, rd_wr_s, rd_wr_k, rd_wr_i, bz_0, bz_n, if_pos, if_neg, if_true, if_false, ne_eq, not_true_eq_false, not_false_eq_true]
    · show F11_price m k v = _
      unfold F11_price
      rw [F11_in_e]
      simp (disch := omega) only [gd_t, stw_v, cpw_v, jn_v, b1_v, b2_v, w32_id, rd_wr_s, rd_wr_k, rd_wr_i, bz_0, bz_n, if_pos, if_neg, if_true, if_false, ne_eq, not_true_eq_false, not_false_eq_true]
theorem st_form {n : Nat} {m : Mem} (c k v : Int) (hI : Inv n m) (hn : n < 100000000) (hc : inR c) : Sq n (fun m => F10_form m c k v) (fun m => F11_form m c k v) m := by
  have hI' := hI
  have x4 : rd m 4 12 ≤ 16 * (n : Int) := hI.2.2.2.2.2.2.2.2.2.2.2.2.1
  have i1 := hI.1.1; have i2 := hI.1.2.1; have i3 := hI.1.2.2.1
  have hc1 := hc.1; have hc2 := hc.2
  by_cases a : 0 ≤ c ∧ c < rd m 83 1
  · by_cases b : 0 ≤ k ∧ k < 16
    · by_cases d : (0 ≤ v ∧ v < 4) ∨ v = 9
      · obtain ⟨m1, m2, f1, f2, f3⟩ := chg (a := n + 1) (kd := 0) (j := 16 * c + k) (v := v) hI (by omega) (by omega) (by omega) (Or.inl ⟨rfl, by omega, by omega, d⟩) (by unfold inR; omega) (fun z => by omega)
        have g1 : F1_change m (16 * c + k) v = some (rd m (ck 0) (16 * c + k), m1) := f1
        have q : rd m1 83 1 = rd m 83 1 := rd_eq (k := 83) (i := 1) (fr_F1_change (by omega) (by omega) (by omega) (by omega) (by omega) (by omega) (by omega) f1)
        refine ⟨rd m (ck 0) (16 * c + k), m1, m2, ?_, ?_, f3⟩
        · show F10_form m c k v = _
          unfold F10_form
          rw [F1_has_e, F10_isClause_e, F10_isForm_e, i3, formCell_e (by omega) (by omega) (by omega) (by omega)]
          simp (disch := omega) only [gd_t, stw_v, cpw_v, jn_v, b1_v, b2_v, w32_id, rd_wr_s, rd_wr_k, rd_wr_i, bz_0, bz_n, if_pos, if_neg, if_true, if_false, ne_eq, not_true_eq_false, not_false_eq_true, g1]
        · show F11_form m1 c k v = _
          unfold F11_form
          rw [F11_isCharter_e m1 c (by omega), F11_isClause_e, F11_isForm_e, q]
          simp (disch := omega) only [gd_t, stw_v, cpw_v, jn_v, b1_v, b2_v, w32_id, rd_wr_s, rd_wr_k, rd_wr_i, bz_0, bz_n, if_pos, if_neg, if_true, if_false, ne_eq, not_true_eq_false, not_false_eq_true, f2]
      · refine Sq_ro (r := -1) hI' ?_ ?_
        · show F10_form m c k v = _
          unfold F10_form
          rw [F1_has_e, F10_isClause_e, F10_isForm_e, i3]
          simp (disch := omega) only [gd_t, stw_v, cpw_v, jn_v, b1_v, b2_v, w32_id, rd_wr_s, rd_wr_k, rd_wr_i, bz_0, bz_n, if_pos, if_neg, if_true, if_false, ne_eq, not_true_eq_false, not_false_eq_true]
        · show F11_form m c k v = _
          unfold F11_form
          rw [F11_isCharter_e m c i1, F11_isClause_e, F11_isForm_e]
          simp (disch := omega) only [gd_t, stw_v, cpw_v, jn_v, b1_v, b2_v, w32_id, rd_wr_s, rd_wr_k, rd_wr_i, bz_0, bz_n, if_pos, if_neg, if_true, if_false, ne_eq, not_true_eq_false, not_false_eq_true]
    · refine Sq_ro (r := -1) hI' ?_ ?_
      · show F10_form m c k v = _
        unfold F10_form
        rw [F1_has_e, F10_isClause_e, i3]
        simp (disch := omega) only [gd_t, stw_v, cpw_v, jn_v, b1_v, b2_v, w32_id, rd_wr_s, rd_wr_k, rd_wr_i, bz_0, bz_n, if_pos, if_neg, if_true, if_false, ne_eq, not_true_eq_false, not_false_eq_true]
      · show F11_form m c k v = _
        unfold F11_form
        rw [F11_isCharter_e m c i1, F11_isClause_e]
        simp (disch := omega) only [gd_t, stw_v, cpw_v, jn_v, b1_v, b2_v, w32_id, rd_wr_s, rd_wr_k, rd_wr_i, bz_0, bz_n, if_pos, if_neg, if_true, if_false, ne_eq, not_true_eq_false, not_false_eq_true]
  · refine Sq_ro (r := -1) hI' ?_ ?_
    · show F10_form m c k v = _
      unfold F10_form
      rw [F1_has_e, i3]
      simp (disch := omega) only [gd_t, stw_v, cpw_v, jn_v, b1_v, b2_v, w32_id, rd_wr_s, rd_wr_k, rd_wr_i, bz_0, bz_n, if_pos, if_neg, if_true, if_false, ne_eq, not_true_eq_false, not_false_eq_true]
    · show F11_form m c k v = _
      unfold F11_form
      rw [F11_isCharter_e m c i1]
      simp (disch := omega) only [gd_t, stw_v, cpw_v, jn_v, b1_v, b2_v, w32_id, rd_wr_s, rd_wr_k, rd_wr_i, bz_0, bz_n, if_pos, if_neg, if_true, if_false, ne_eq, not_true_eq_false, not_false_eq_true]
