/-! changes: a told value is set; undo, redo -/
def cel (kd j : Int) : Int := if kd = 0 then j else if kd = 1 then 192 + j else 197 + j
def ck (kd : Int) : Nat := if kd = 0 then 89 else if kd = 1 then 90 else 88
def okV (m : Mem) (kd j v : Int) : Prop := (kd = 0 ∧ 0 ≤ j ∧ j < 16 * rd m 83 1 ∧ isF v) ∨ (kd = 1 ∧ 0 ≤ j ∧ j < 5 ∧ 0 ≤ v ∧ v ≤ 99) ∨ (kd = 2 ∧ 0 ≤ j ∧ j < rd m 83 1)
theorem set_e {m q : Mem} {kd j v : Int} (hC : rd m 83 1 ≤ 12) (h : okV m kd j v) : F11_set q kd j v = some (wr q (ck kd) j v) := by
  unfold F11_set ck
  rcases h with ⟨rfl, h1, h2, -⟩ | ⟨rfl, h1, h2, -⟩ | ⟨rfl, h1, h2⟩
  · simp (disch := omega) only [gd_t, stw_v, cpw_v, jn_v, b1_v, b2_v, w32_id, rd_wr_s, rd_wr_k, rd_wr_i, bz_0, bz_n, if_pos, if_neg, if_true, if_false, ne_eq, not_true_eq_false, not_false_eq_true]
  · simp (disch := omega) only [gd_t, stw_v, cpw_v, jn_v, b1_v, b2_v, w32_id, rd_wr_s, rd_wr_k, rd_wr_i, bz_0, bz_n, if_pos, if_neg, if_true, if_false, ne_eq, not_true_eq_false, not_false_eq_true]
  · simp (disch := omega) only [gd_t, stw_v, cpw_v, jn_v, b1_v, b2_v, w32_id, rd_wr_s, rd_wr_k, rd_wr_i, bz_0, bz_n, if_pos, if_neg, if_true, if_false, ne_eq, not_true_eq_false, not_false_eq_true]
theorem valueAt_e {m : Mem} {kd j v : Int} (hI : iCe m) (hC : rd m 83 1 ≤ 12) (h : okV m kd j v) : F11_valueAt m kd j = some (rd m (ck kd) j) ∧ rd m 9 (cel kd j) = rd m (ck kd) j ∧ 0 ≤ cel kd j ∧ cel kd j < 209 := by
  obtain ⟨c1, c2, c3⟩ := hI
  unfold F11_valueAt ck cel
  rcases h with ⟨rfl, h1, h2, -⟩ | ⟨rfl, h1, h2, -⟩ | ⟨rfl, h1, h2⟩
  · have := (c1 (j / 16) (j % 16) (by omega) (by omega) (by omega) (by omega)).1
    rw [show 16 * (j / 16) + j % 16 = j by omega] at this
    simp (disch := omega) only [gd_t, stw_v, cpw_v, jn_v, b1_v, b2_v, w32_id, rd_wr_s, rd_wr_k, rd_wr_i, bz_0, bz_n, if_pos, if_neg, if_true, if_false, ne_eq, not_true_eq_false, not_false_eq_true]
    exact ⟨trivial, this, by omega, by omega⟩
  · have := (c2 j h1 h2).1
    simp (disch := omega) only [gd_t, stw_v, cpw_v, jn_v, b1_v, b2_v, w32_id, rd_wr_s, rd_wr_k, rd_wr_i, bz_0, bz_n, if_pos, if_neg, if_true, if_false, ne_eq, not_true_eq_false, not_false_eq_true]
    exact ⟨trivial, this, by omega, by omega⟩
  · have := c3 j h1 h2
    simp (disch := omega) only [gd_t, stw_v, cpw_v, jn_v, b1_v, b2_v, w32_id, rd_wr_s, rd_wr_k, rd_wr_i, bz_0, bz_n, if_pos, if_neg, if_true, if_false, ne_eq, not_true_eq_false, not_false_eq_true]
    exact ⟨trivial, this, by omega, by omega⟩
theorem iCe_set {m m2 : Mem} {kd j v : Int} (hI : iCe m) (hC : rd m 83 1 ≤ 12) (h : okV m kd j v) (e1 : rd m2 83 1 = rd m 83 1)
    (e9 : ∀ i, rd m2 9 i = if i = cel kd j then v else rd m 9 i) (eR : ∀ k i, k = 88 ∨ k = 89 ∨ k = 90 → rd m2 k i = if k = ck kd ∧ i = j then v else rd m k i) : iCe m2 := by
  obtain ⟨c1, c2, c3⟩ := hI
  unfold iCe
  rw [e1]
  unfold cel at e9
  unfold ck at eR
  refine ⟨fun c k x y u w => ?_, fun k x y => ?_, fun c x y => ?_⟩
  · rw [e9, eR 89 _ (by omega)]
    have old := c1 c k x y u w
    rcases h with ⟨rfl, h1, h2, h3⟩ | ⟨rfl, h1, h2, h3⟩ | ⟨rfl, h1, h2⟩
    · rw [if_pos rfl, if_pos rfl]
      by_cases z : 16 * c + k = j
      · rw [if_pos z, if_pos ⟨rfl, z⟩]; exact ⟨rfl, h3⟩
      · rw [if_neg z, if_neg (by omega)]; exact old
    · rw [if_neg (show (1 : Int) ≠ 0 by omega), if_pos rfl, if_neg (by omega), if_neg (by simp)]; exact old
    · rw [if_neg (show (2 : Int) ≠ 0 by omega), if_neg (show (2 : Int) ≠ 1 by omega), if_neg (by omega), if_neg (by simp)]; exact old
  · rw [e9, eR 90 _ (by omega)]
    have old := c2 k x y
    rcases h with ⟨rfl, h1, h2, h3⟩ | ⟨rfl, h1, h2, h3⟩ | ⟨rfl, h1, h2⟩
    · rw [if_pos rfl, if_neg (by omega), if_neg (by simp)]; exact old
    · rw [if_neg (show (1 : Int) ≠ 0 by omega), if_pos rfl]
      by_cases z : k = j
      · rw [if_pos (by omega), if_pos (by simp; exact z)]; exact ⟨rfl, h3⟩
      · rw [if_neg (by omega), if_neg (by simp; exact z)]; exact old
    · rw [if_neg (show (2 : Int) ≠ 0 by omega), if_neg (show (2 : Int) ≠ 1 by omega), if_neg (by omega), if_neg (by simp)]; exact old
  · rw [e9, eR 88 _ (by omega)]
    have old := c3 c x y
    rcases h with ⟨rfl, h1, h2, h3⟩ | ⟨rfl, h1, h2, h3⟩ | ⟨rfl, h1, h2⟩
    · rw [if_pos rfl, if_neg (by omega), if_neg (by simp)]; exact old
    · rw [if_neg (show (1 : Int) ≠ 0 by omega), if_pos rfl, if_neg (by omega), if_neg (by simp)]; exact old
    · rw [if_neg (show (2 : Int) ≠ 0 by omega), if_neg (show (2 : Int) ≠ 1 by omega)]
      by_cases z : c = j
      · rw [if_pos (by omega), if_pos (by simp; exact z)]
      · rw [if_neg (by omega), if_neg (by simp; exact z)]; exact old
/-- the places that a change may touch -/
def QM (k : Nat) (i : Int) : Prop := (9 ≤ k ∧ k ≤ 12) ∨ (k = 4 ∧ (i = 10 ∨ i = 11 ∨ i = 12)) ∨ (k = 83 ∧ (i = 13 ∨ i = 14 ∨ i = 31)) ∨ (88 ≤ k ∧ k ≤ 90) ∨ (92 ≤ k ∧ k ≤ 95)
theorem Inv_set {n a : Nat} {m m2 : Mem} {kd j v : Int} (hI : Inv n m) (h : okV m kd j v) (ha : rd m2 4 12 ≤ 16 * (a : Int)) (g : ∀ k i, ¬ QM k i → m2 k i = m k i)
    (e9 : ∀ i, rd m2 9 i = if i = cel kd j then v else rd m 9 i) (eR : ∀ k i, k = 88 ∨ k = 89 ∨ k = 90 → rd m2 k i = if k = ck kd ∧ i = j then v else rd m k i)
    (e12 : rd m2 4 12 = rd m 4 12 + 1) (e31 : rd m2 83 31 = 0) (lo : iLo m2) (hi : iHi m2) : Inv a m2 := by
  obtain ⟨h1, h2, h3, h4, h5, h6, h7, h8, h9, h10⟩ := hI
  refine ⟨iCh_s ?_ h1, iCe_set h2 h1.2.1 h (rd_eq (g _ _ (by unfold QM; omega))) e9 eR, iTo_s ?_ h3, lo, hi, iTp_s ?_ h6, iPa_s ?_ h7, iSh_s ?_ h8, iLi_s ?_ h9, ?_⟩
  · exact fun k i q => g k i (by unfold PCh at q; unfold QM; omega)
  · exact fun k i q => g k i (by unfold PTo at q; unfold QM; omega)
  · exact fun k i q => g k i (by unfold PTp at q; unfold QM; omega)
  · exact fun k i q => g k i (by unfold PPa at q; unfold QM; omega)
  · exact fun k i q => g k i (by unfold PSh at q; unfold QM; omega)
  · exact fun k i q => g k i (by unfold PLi at q; unfold QM; omega)
  · obtain ⟨x1, x2, x3, x4, x5, x6, x7⟩ := h10
    have e14 : rd m2 31 14 = rd m 31 14 := rd_eq (g _ _ (by unfold QM; omega))
    unfold iBt
    rw [e14, e31]
    exact ⟨x1, by omega, by omega, ha, Or.inl rfl, ⟨fun q => by omega, fun q => by omega⟩, fun q => by omega⟩
theorem w32_rd (m : Mem) (k : Nat) (i : Int) : w32 (rd m k i) = rd m k i := by
  have := rd_in m k i; exact w32_id this.1 this.2
theorem logC_ok {m : Mem} {i : Int} (h : logC m i) : okV m (rd m 92 i) (rd m 93 i) (rd m 94 i) ∧ okV m (rd m 92 i) (rd m 93 i) (rd m 95 i) ∧ rd m 10 i = cel (rd m 92 i) (rd m 93 i) := by
  unfold logC at h
  unfold okV cel
  rcases h with ⟨h0, h1, h2, h3, h4, h5⟩ | ⟨h0, h1, h2, h3, h4, h5, h6, h7⟩ | ⟨h0, h1, h2, h3⟩
  · rw [h0]; exact ⟨Or.inl ⟨rfl, h1, h2, h4⟩, Or.inl ⟨rfl, h1, h2, h5⟩, h3⟩
  · rw [h0]; exact ⟨Or.inr (Or.inl ⟨rfl, h1, h2, h4, h5⟩), Or.inr (Or.inl ⟨rfl, h1, h2, h6, h7⟩), h3⟩
  · rw [h0]; exact ⟨Or.inr (Or.inr ⟨rfl, h1, h2⟩), Or.inr (Or.inr ⟨rfl, h1, h2⟩), h3⟩
theorem st_undo {n : Nat} {m : Mem} (hI : Inv n m) (hn : n < 100000000) : Sq n (fun m => F10_undo m) (fun m => F11_undo m) m := by
  have hI' := hI
  obtain ⟨⟨a1, a2, a3, a4, a5⟩, h2, h3, ⟨l1, l2, l3, l4, l5, l6⟩, ⟨h, hh1, hh2, hh3, hh4⟩, h6, h7, h8, h9, ⟨x1, x2, x3, x4, x5, x6, x7⟩⟩ := hI
  by_cases a : 0 < rd m 83 13
  · obtain ⟨p, q, r⟩ := l6 (rd m 83 13 - 1) (by omega) (by omega)
    obtain ⟨ok, -, ec⟩ := logC_ok r
    obtain ⟨vv1, vv2, vv3, vv4⟩ := valueAt_e h2 a2 ok
    obtain ⟨u, hu⟩ : ∃ u, u = rd m 83 13 - 1 := ⟨_, rfl⟩
    rw [← hu] at p q r ok ec vv1 vv2 vv3 vv4
    obtain ⟨kd, hkd⟩ : ∃ kd, kd = rd m 92 u := ⟨_, rfl⟩
    obtain ⟨j, hj⟩ : ∃ j, j = rd m 93 u := ⟨_, rfl⟩
    obtain ⟨v, hv⟩ : ∃ v, v = rd m 94 u := ⟨_, rfl⟩
    have wv : w32 v = v := by rw [hv]; exact w32_rd _ _ _
    rw [← hkd, ← hj] at ec vv1 vv2 vv3 vv4
    rw [← hkd, ← hj, ← hv] at ok
    rw [← hv] at p
    obtain ⟨m1, hm1⟩ : ∃ m1, m1 = wr (wr (wr (wr m 4 10 u) 4 11 (rd m 83 14 + 1)) 9 (cel kd j) v) 4 12 (rd m 4 12 + 1) := ⟨_, rfl⟩
    obtain ⟨m2, hm2⟩ : ∃ m2, m2 = wr (wr (wr (wr m1 83 13 u) 83 14 (rd m 83 14 + 1)) (ck kd) j v) 83 31 0 := ⟨_, rfl⟩
    have ckk : ck kd = 88 ∨ ck kd = 89 ∨ ck kd = 90 := by
      unfold ck; split
      · omega
      · split <;> omega
    have q1 : ∀ k i, k ≠ 9 → k ≠ 4 → rd m1 k i = rd m k i := fun k i x y => by rw [hm1]; simp (disch := omega) only [rd_wr_k]
    refine ⟨u, m1, m2, ?_, ?_, ?_⟩
    · show F10_undo m = _
      unfold F10_undo F1_back
      rw [l4]
      simp (disch := omega) only [gd_t, stw_v, w32_id, rd_wr_k, rd_wr_i, rd_wr_s, if_pos, l4, l5, ← hu, ec, p, b2_v]
      rw [hm1]
    · show F11_undo m1 = _
      unfold F11_undo
      rw [q1 83 13 (by omega) (by omega), if_pos (by omega)]
      simp (disch := omega) only [gd_t, stw_v, w32_id, rd_wr_k, rd_wr_i, rd_wr_s, q1, ← hu, ← hkd, ← hj, ← hv]
      rw [set_e a2 ok, b1_v]
      simp (disch := omega) only [gd_t, stw_v, w32_id, rd_wr_k, rd_wr_i, rd_wr_s, q1]
      rw [hm2]
    · have g : ∀ k i, ¬ QM k i → m2 k i = m k i := by
        intro k i x
        unfold QM at x
        rw [hm2, hm1]
        simp (disch := omega) only [wr_ki]
      have gl : ∀ k i, (10 ≤ k ∧ k ≤ 12) ∨ (92 ≤ k ∧ k ≤ 95) → rd m2 k i = rd m k i := by
        intro k i x
        rw [hm2, hm1]
        simp (disch := omega) only [rd_wr_k]
      have e13 : rd m2 83 13 = u := by rw [hm2]; simp (disch := omega) only [gd_t, stw_v, cpw_v, jn_v, b1_v, b2_v, w32_id, rd_wr_s, rd_wr_k, rd_wr_i, bz_0, bz_n, if_pos, if_neg, if_true, if_false, ne_eq, not_true_eq_false, not_false_eq_true]
      have e14 : rd m2 83 14 = rd m 83 14 + 1 := by rw [hm2]; simp (disch := omega) only [gd_t, stw_v, cpw_v, jn_v, b1_v, b2_v, w32_id, rd_wr_s, rd_wr_k, rd_wr_i, bz_0, bz_n, if_pos, if_neg, if_true, if_false, ne_eq, not_true_eq_false, not_false_eq_true]
      have e410 : rd m2 4 10 = u := by rw [hm2, hm1]; simp (disch := omega) only [gd_t, stw_v, cpw_v, jn_v, b1_v, b2_v, w32_id, rd_wr_s, rd_wr_k, rd_wr_i, bz_0, bz_n, if_pos, if_neg, if_true, if_false, ne_eq, not_true_eq_false, not_false_eq_true]
      have e411 : rd m2 4 11 = rd m 83 14 + 1 := by rw [hm2, hm1]; simp (disch := omega) only [gd_t, stw_v, cpw_v, jn_v, b1_v, b2_v, w32_id, rd_wr_s, rd_wr_k, rd_wr_i, bz_0, bz_n, if_pos, if_neg, if_true, if_false, ne_eq, not_true_eq_false, not_false_eq_true]
      have e412 : rd m2 4 12 = rd m 4 12 + 1 := by rw [hm2, hm1]; simp (disch := omega) only [gd_t, stw_v, cpw_v, jn_v, b1_v, b2_v, w32_id, rd_wr_s, rd_wr_k, rd_wr_i, bz_0, bz_n, if_pos, if_neg, if_true, if_false, ne_eq, not_true_eq_false, not_false_eq_true]
      have e1 : rd m2 83 1 = rd m 83 1 := rd_eq (g _ _ (by unfold QM; omega))
      have e9 : ∀ i, rd m2 9 i = if i = cel kd j then v else rd m 9 i := by
        intro i
        rw [hm2, hm1]
        simp (disch := omega) only [rd_wr_k]
        rw [rd_wr_c, wv]
        simp (disch := omega) only [rd_wr_k]
      have eR : ∀ k i, k = 88 ∨ k = 89 ∨ k = 90 → rd m2 k i = if k = ck kd ∧ i = j then v else rd m k i := by
        intro k i x
        rw [hm2, rd_wr_k (by omega), rd_wr, wv]
        simp (disch := omega) only [rd_wr_k, q1]
      refine Inv_set hI' ok (by omega) g e9 eR e412 (by rw [hm2]; simp (disch := omega) only [gd_t, stw_v, cpw_v, jn_v, b1_v, b2_v, w32_id, rd_wr_s, rd_wr_k, rd_wr_i, bz_0, bz_n, if_pos, if_neg, if_true, if_false, ne_eq, not_true_eq_false, not_false_eq_true]) ?_ ?_
      · unfold iLo logC
        rw [e13, e14, e410, e411, e1]
        refine ⟨by omega, by omega, by omega, rfl, rfl, fun i x y => ?_⟩
        rw [gl 10 i (by omega), gl 11 i (by omega), gl 12 i (by omega), gl 92 i (by omega), gl 93 i (by omega), gl 94 i (by omega), gl 95 i (by omega)]
        exact l6 i x (by omega)
      · refine ⟨h, ?_, ?_, ?_, ?_⟩
        · intro i x y
          rw [e13, e14] at y
          rw [e1]; exact hh1 i x (by omega)
        · intro c x y
          rw [e1] at y
          rw [e13, eR 88 c (by omega)]
          have z2 := hh2 c x y
          rw [show rd m 83 13 = u + 1 by omega] at z2
          have z3 := hh3 u (by omega) (by omega)
          have z4 := hh4 u c (by omega) (by omega) x y
          rw [← hkd, ← hj] at z4
          rw [← hkd, ← hj, ← hv] at z3
          by_cases z : kd = 2 ∧ j = c
          · rw [if_pos ⟨by unfold ck; rw [z.1]; rfl, z.2.symm⟩, ← (z3 z.1).1, z.2]
          · rw [if_neg, ← z2, z4 z]
            rintro ⟨z5, z6⟩
            apply z
            refine ⟨?_, z6.symm⟩
            unfold ck at z5
            unfold okV at ok
            rcases ok with ⟨o, -⟩ | ⟨o, -⟩ | ⟨o, -⟩
            · rw [o] at z5; simp at z5
            · rw [o] at z5; simp at z5
            · exact o
        · intro i x y z
          rw [e13, e14] at y
          rw [gl 92 i (by omega)] at z
          rw [gl 93 i (by omega), gl 94 i (by omega), gl 95 i (by omega)]
          exact hh3 i x (by omega) z
        · intro i c x y z w t
          rw [e13, e14] at y
          rw [e1] at w
          rw [gl 92 i (by omega), gl 93 i (by omega)] at t
          exact hh4 i c x (by omega) z w t
  · refine Sq_ro (r := -5) hI' ?_ ?_
    · show F10_undo m = _
      unfold F10_undo F1_back
      simp (disch := omega) only [gd_t, stw_v, cpw_v, jn_v, b1_v, b2_v, w32_id, rd_wr_s, rd_wr_k, rd_wr_i, bz_0, bz_n, if_pos, if_neg, if_true, if_false, ne_eq, not_true_eq_false, not_false_eq_true, l4]
    · show F11_undo m = _
      unfold F11_undo
      simp (disch := omega) only [gd_t, stw_v, cpw_v, jn_v, b1_v, b2_v, w32_id, rd_wr_s, rd_wr_k, rd_wr_i, bz_0, bz_n, if_pos, if_neg, if_true, if_false, ne_eq, not_true_eq_false, not_false_eq_true]
