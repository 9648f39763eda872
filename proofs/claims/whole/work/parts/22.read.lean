/-! each part of Inv by itself: it sees its own places alone -/
def PCh (k : Nat) (i : Int) : Prop := (k = 83 ∧ i = 1) ∨ (k = 4 ∧ i = 0) ∨ k = 5 ∨ k = 6 ∨ k = 7 ∨ k = 8 ∨ k = 84 ∨ k = 85 ∨ k = 86 ∨ k = 87
theorem iCh_s {m m' : Mem} (h : ∀ k i, PCh k i → m' k i = m k i) (hI : iCh m) : iCh m' := by
  have e83_1 : rd m' 83 1 = rd m 83 1 := rd_eq (h 83 1 (by unfold PCh; omega))
  have e4_0 : rd m' 4 0 = rd m 4 0 := rd_eq (h 4 0 (by unfold PCh; omega))
  have c5 : ∀ i, rd m' 5 i = rd m 5 i := fun i => rd_eq (h 5 i (by unfold PCh; omega))
  have c6 : ∀ i, rd m' 6 i = rd m 6 i := fun i => rd_eq (h 6 i (by unfold PCh; omega))
  have c7 : ∀ i, rd m' 7 i = rd m 7 i := fun i => rd_eq (h 7 i (by unfold PCh; omega))
  have c8 : ∀ i, rd m' 8 i = rd m 8 i := fun i => rd_eq (h 8 i (by unfold PCh; omega))
  have c84 : ∀ i, rd m' 84 i = rd m 84 i := fun i => rd_eq (h 84 i (by unfold PCh; omega))
  have c85 : ∀ i, rd m' 85 i = rd m 85 i := fun i => rd_eq (h 85 i (by unfold PCh; omega))
  have c86 : ∀ i, rd m' 86 i = rd m 86 i := fun i => rd_eq (h 86 i (by unfold PCh; omega))
  have c87 : ∀ i, rd m' 87 i = rd m 87 i := fun i => rd_eq (h 87 i (by unfold PCh; omega))
  unfold iCh ; simp only [e83_1, e4_0, c5, c6, c7, c8, c84, c85, c86, c87]; exact hI
def PCe (k : Nat) (i : Int) : Prop := (k = 83 ∧ i = 1) ∨ k = 9 ∨ k = 88 ∨ k = 89 ∨ k = 90
theorem iCe_s {m m' : Mem} (h : ∀ k i, PCe k i → m' k i = m k i) (hI : iCe m) : iCe m' := by
  have e83_1 : rd m' 83 1 = rd m 83 1 := rd_eq (h 83 1 (by unfold PCe; omega))
  have c9 : ∀ i, rd m' 9 i = rd m 9 i := fun i => rd_eq (h 9 i (by unfold PCe; omega))
  have c88 : ∀ i, rd m' 88 i = rd m 88 i := fun i => rd_eq (h 88 i (by unfold PCe; omega))
  have c89 : ∀ i, rd m' 89 i = rd m 89 i := fun i => rd_eq (h 89 i (by unfold PCe; omega))
  have c90 : ∀ i, rd m' 90 i = rd m 90 i := fun i => rd_eq (h 90 i (by unfold PCe; omega))
  unfold iCe ; simp only [e83_1, c9, c88, c89, c90]; exact hI
def PTo (k : Nat) (i : Int) : Prop := k = 13
theorem iTo_s {m m' : Mem} (h : ∀ k i, PTo k i → m' k i = m k i) (hI : iTo m) : iTo m' := by
  have c13 : ∀ i, rd m' 13 i = rd m 13 i := fun i => rd_eq (h 13 i (by unfold PTo; omega))
  unfold iTo ; simp only [c13]; exact hI
def PLo (k : Nat) (i : Int) : Prop := (k = 83 ∧ i = 1) ∨ (k = 83 ∧ i = 13) ∨ (k = 83 ∧ i = 14) ∨ (k = 4 ∧ i = 10) ∨ (k = 4 ∧ i = 11) ∨ k = 10 ∨ k = 11 ∨ k = 12 ∨ k = 92 ∨ k = 93 ∨ k = 94 ∨ k = 95
theorem iLo_s {m m' : Mem} (h : ∀ k i, PLo k i → m' k i = m k i) (hI : iLo m) : iLo m' := by
  have e83_1 : rd m' 83 1 = rd m 83 1 := rd_eq (h 83 1 (by unfold PLo; omega))
  have e83_13 : rd m' 83 13 = rd m 83 13 := rd_eq (h 83 13 (by unfold PLo; omega))
  have e83_14 : rd m' 83 14 = rd m 83 14 := rd_eq (h 83 14 (by unfold PLo; omega))
  have e4_10 : rd m' 4 10 = rd m 4 10 := rd_eq (h 4 10 (by unfold PLo; omega))
  have e4_11 : rd m' 4 11 = rd m 4 11 := rd_eq (h 4 11 (by unfold PLo; omega))
  have c10 : ∀ i, rd m' 10 i = rd m 10 i := fun i => rd_eq (h 10 i (by unfold PLo; omega))
  have c11 : ∀ i, rd m' 11 i = rd m 11 i := fun i => rd_eq (h 11 i (by unfold PLo; omega))
  have c12 : ∀ i, rd m' 12 i = rd m 12 i := fun i => rd_eq (h 12 i (by unfold PLo; omega))
  have c92 : ∀ i, rd m' 92 i = rd m 92 i := fun i => rd_eq (h 92 i (by unfold PLo; omega))
  have c93 : ∀ i, rd m' 93 i = rd m 93 i := fun i => rd_eq (h 93 i (by unfold PLo; omega))
  have c94 : ∀ i, rd m' 94 i = rd m 94 i := fun i => rd_eq (h 94 i (by unfold PLo; omega))
  have c95 : ∀ i, rd m' 95 i = rd m 95 i := fun i => rd_eq (h 95 i (by unfold PLo; omega))
  unfold iLo logC; simp only [e83_1, e83_13, e83_14, e4_10, e4_11, c10, c11, c12, c92, c93, c94, c95]; exact hI
def PHi (k : Nat) (i : Int) : Prop := (k = 83 ∧ i = 1) ∨ (k = 83 ∧ i = 13) ∨ (k = 83 ∧ i = 14) ∨ k = 88 ∨ k = 92 ∨ k = 93 ∨ k = 94 ∨ k = 95
theorem iHi_s {m m' : Mem} (h : ∀ k i, PHi k i → m' k i = m k i) (hI : iHi m) : iHi m' := by
  have e83_1 : rd m' 83 1 = rd m 83 1 := rd_eq (h 83 1 (by unfold PHi; omega))
  have e83_13 : rd m' 83 13 = rd m 83 13 := rd_eq (h 83 13 (by unfold PHi; omega))
  have e83_14 : rd m' 83 14 = rd m 83 14 := rd_eq (h 83 14 (by unfold PHi; omega))
  have c88 : ∀ i, rd m' 88 i = rd m 88 i := fun i => rd_eq (h 88 i (by unfold PHi; omega))
  have c92 : ∀ i, rd m' 92 i = rd m 92 i := fun i => rd_eq (h 92 i (by unfold PHi; omega))
  have c93 : ∀ i, rd m' 93 i = rd m 93 i := fun i => rd_eq (h 93 i (by unfold PHi; omega))
  have c94 : ∀ i, rd m' 94 i = rd m 94 i := fun i => rd_eq (h 94 i (by unfold PHi; omega))
  have c95 : ∀ i, rd m' 95 i = rd m 95 i := fun i => rd_eq (h 95 i (by unfold PHi; omega))
  unfold iHi ; simp only [e83_1, e83_13, e83_14, c88, c92, c93, c94, c95]; exact hI
def PTp (k : Nat) (i : Int) : Prop := (k = 1 ∧ i = 1) ∨ (k = 83 ∧ i = 10) ∨ k = 2 ∨ k = 91
theorem iTp_s {m m' : Mem} (h : ∀ k i, PTp k i → m' k i = m k i) (hI : iTp m) : iTp m' := by
  have e1_1 : rd m' 1 1 = rd m 1 1 := rd_eq (h 1 1 (by unfold PTp; omega))
  have e83_10 : rd m' 83 10 = rd m 83 10 := rd_eq (h 83 10 (by unfold PTp; omega))
  have c2 : ∀ i, rd m' 2 i = rd m 2 i := fun i => rd_eq (h 2 i (by unfold PTp; omega))
  have c91 : ∀ i, rd m' 91 i = rd m 91 i := fun i => rd_eq (h 91 i (by unfold PTp; omega))
  unfold iTp ; simp only [e1_1, e83_10, c2, c91]; exact hI
def PPa (k : Nat) (i : Int) : Prop := (k = 66 ∧ i = 0) ∨ (k = 66 ∧ i = 1) ∨ (k = 83 ∧ i = 46) ∨ (k = 83 ∧ i = 49) ∨ k = 67 ∨ k = 68 ∨ k = 69 ∨ k = 116 ∨ k = 117 ∨ k = 118
theorem iPa_s {m m' : Mem} (h : ∀ k i, PPa k i → m' k i = m k i) (hI : iPa m) : iPa m' := by
  have e66_0 : rd m' 66 0 = rd m 66 0 := rd_eq (h 66 0 (by unfold PPa; omega))
  have e66_1 : rd m' 66 1 = rd m 66 1 := rd_eq (h 66 1 (by unfold PPa; omega))
  have e83_46 : rd m' 83 46 = rd m 83 46 := rd_eq (h 83 46 (by unfold PPa; omega))
  have e83_49 : rd m' 83 49 = rd m 83 49 := rd_eq (h 83 49 (by unfold PPa; omega))
  have c67 : ∀ i, rd m' 67 i = rd m 67 i := fun i => rd_eq (h 67 i (by unfold PPa; omega))
  have c68 : ∀ i, rd m' 68 i = rd m 68 i := fun i => rd_eq (h 68 i (by unfold PPa; omega))
  have c69 : ∀ i, rd m' 69 i = rd m 69 i := fun i => rd_eq (h 69 i (by unfold PPa; omega))
  have c116 : ∀ i, rd m' 116 i = rd m 116 i := fun i => rd_eq (h 116 i (by unfold PPa; omega))
  have c117 : ∀ i, rd m' 117 i = rd m 117 i := fun i => rd_eq (h 117 i (by unfold PPa; omega))
  have c118 : ∀ i, rd m' 118 i = rd m 118 i := fun i => rd_eq (h 118 i (by unfold PPa; omega))
  unfold iPa ; simp only [e66_0, e66_1, e83_46, e83_49, c67, c68, c69, c116, c117, c118]; exact hI
def PLi (k : Nat) (i : Int) : Prop := (k = 31 ∧ i = 2) ∨ (k = 83 ∧ i = 1) ∨ (k = 83 ∧ i = 28) ∨ k = 44 ∨ k = 103
theorem iLi_s {m m' : Mem} (h : ∀ k i, PLi k i → m' k i = m k i) (hI : iLi m) : iLi m' := by
  have e31_2 : rd m' 31 2 = rd m 31 2 := rd_eq (h 31 2 (by unfold PLi; omega))
  have e83_1 : rd m' 83 1 = rd m 83 1 := rd_eq (h 83 1 (by unfold PLi; omega))
  have e83_28 : rd m' 83 28 = rd m 83 28 := rd_eq (h 83 28 (by unfold PLi; omega))
  have c44 : ∀ i, rd m' 44 i = rd m 44 i := fun i => rd_eq (h 44 i (by unfold PLi; omega))
  have c103 : ∀ i, rd m' 103 i = rd m 103 i := fun i => rd_eq (h 103 i (by unfold PLi; omega))
  unfold iLi ; simp only [e31_2, e83_1, e83_28, c44, c103]; exact hI
def PBt (k : Nat) (i : Int) : Prop := (k = 31 ∧ i = 2) ∨ (k = 31 ∧ i = 3) ∨ (k = 31 ∧ i = 4) ∨ (k = 31 ∧ i = 14) ∨ (k = 4 ∧ i = 12) ∨ (k = 83 ∧ i = 31) ∨ (k = 83 ∧ i = 32) ∨ (k = 83 ∧ i = 33) ∨ k = 45 ∨ k = 46 ∨ k = 47 ∨ k = 105 ∨ k = 106
theorem iBt_s {n : Nat} {m m' : Mem} (h : ∀ k i, PBt k i → m' k i = m k i) (hI : iBt n m) : iBt n m' := by
  have e31_2 : rd m' 31 2 = rd m 31 2 := rd_eq (h 31 2 (by unfold PBt; omega))
  have e31_3 : rd m' 31 3 = rd m 31 3 := rd_eq (h 31 3 (by unfold PBt; omega))
  have e31_4 : rd m' 31 4 = rd m 31 4 := rd_eq (h 31 4 (by unfold PBt; omega))
  have e31_14 : rd m' 31 14 = rd m 31 14 := rd_eq (h 31 14 (by unfold PBt; omega))
  have e4_12 : rd m' 4 12 = rd m 4 12 := rd_eq (h 4 12 (by unfold PBt; omega))
  have e83_31 : rd m' 83 31 = rd m 83 31 := rd_eq (h 83 31 (by unfold PBt; omega))
  have e83_32 : rd m' 83 32 = rd m 83 32 := rd_eq (h 83 32 (by unfold PBt; omega))
  have e83_33 : rd m' 83 33 = rd m 83 33 := rd_eq (h 83 33 (by unfold PBt; omega))
  have c45 : ∀ i, rd m' 45 i = rd m 45 i := fun i => rd_eq (h 45 i (by unfold PBt; omega))
  have c46 : ∀ i, rd m' 46 i = rd m 46 i := fun i => rd_eq (h 46 i (by unfold PBt; omega))
  have c47 : ∀ i, rd m' 47 i = rd m 47 i := fun i => rd_eq (h 47 i (by unfold PBt; omega))
  have c105 : ∀ i, rd m' 105 i = rd m 105 i := fun i => rd_eq (h 105 i (by unfold PBt; omega))
  have c106 : ∀ i, rd m' 106 i = rd m 106 i := fun i => rd_eq (h 106 i (by unfold PBt; omega))
  unfold iBt bestR F0_chosen; simp only [e31_2, e31_3, e31_4, e31_14, e4_12, e83_31, e83_32, e83_33, c45, c46, c47, c105, c106]; exact hI
def PSh (k : Nat) (i : Int) : Prop := (71 ≤ k ∧ k ≤ 82) ∨ (k = 66 ∧ i = 0) ∨ k = 119 ∨ k = 120 ∨ k = 121
theorem iSh_s {m m' : Mem} (h : ∀ k i, PSh k i → m' k i = m k i) (h8 : iSh m) : iSh m' := by
  have cs : ∀ (s i : Int), 0 ≤ s → s < 6 → rd m' (71 + 2 * s.toNat) i = rd m (71 + 2 * s.toNat) i := fun s i h0 h1 => rd_eq (h _ i (by unfold PSh; omega))
  have cl : ∀ (s i : Int), 0 ≤ s → s < 6 → rl m' (71 + 2 * s.toNat + 1) i = rl m (71 + 2 * s.toNat + 1) i := fun s i h0 h1 => rl_eq (h _ i (by unfold PSh; omega))
  have b0 : rd m' 66 0 = rd m 66 0 := rd_eq (h 66 0 (by unfold PSh; omega))
  have c119 : ∀ i, rd m' 119 i = rd m 119 i := fun i => rd_eq (h 119 i (by unfold PSh; omega))
  have c120 : ∀ i, rd m' 120 i = rd m 120 i := fun i => rd_eq (h 120 i (by unfold PSh; omega))
  have c121 : ∀ i, rl m' 121 i = rl m 121 i := fun i => rl_eq (h 121 i (by unfold PSh; omega))
  refine ⟨fun s q1 q2 => ?_, fun s j q1 q2 q3 q4 => ?_⟩
  · unfold shH; simp only [cs s _ q1 q2, b0, c119, c120]; exact h8.1 s q1 q2
  · rw [cl s j q1 q2, c121]; exact h8.2 s j q1 q2 q3 q4

/-! calls that only read -/
theorem st_count {n : Nat} {m : Mem} (v : Int) (hI : Inv n m) : F10_count m v = F11_count m v := by
  obtain ⟨h1, h2, h3, h4, h5, h6, h7, h8, h9, h10⟩ := hI
  have a := h1.2.2.1; have b := h6.2.2.1; have c := h9.2.2.1; have d := h4.2.2.2.1; have e := h7.2.2.1; have f := h7.2.2.2.2.2.2.1
  unfold F10_count F11_count
  rw [a, b, c, d, e, f]
theorem st_ofCharter {n : Nat} {m : Mem} (c w : Int) (hI : Inv n m) (hc : inR c) (hw : inR w) : ∃ r, F10_ofCharter m c w = some r ∧ F11_ofCharter m c w = some r := by
  obtain ⟨⟨i1, i2, i3, i4, i5⟩, ⟨j1, j2, j3⟩, -⟩ := hI
  have hw1 := hw.1; have hw2 := hw.2
  unfold F10_ofCharter F11_ofCharter
  rw [F1_has_e, F11_isCharter_e m c i1, i3]
  by_cases hcc : 0 ≤ c ∧ c < rd m 83 1
  · obtain ⟨hc0, hc1⟩ := hcc
    obtain ⟨k1, k2, k3, k4, k5, k6, k7, k8, k9, k10⟩ := i4 c hc0 hc1
    simp (disch := omega) only [gd_t, stw_v, cpw_v, jn_v, b1_v, b2_v, w32_id, rd_wr_s, rd_wr_k, rd_wr_i, bz_0, bz_n, if_pos, if_neg, if_true, if_false, ne_eq, not_true_eq_false, not_false_eq_true]
    by_cases w0 : w = 0
    · simp (disch := omega) only [gd_t, stw_v, cpw_v, jn_v, b1_v, b2_v, w32_id, rd_wr_s, rd_wr_k, rd_wr_i, bz_0, bz_n, if_pos, if_neg, if_true, if_false, ne_eq, not_true_eq_false, not_false_eq_true, k1]; exact ⟨_, rfl, rfl⟩
    by_cases w1 : w = 1
    · simp (disch := omega) only [gd_t, stw_v, cpw_v, jn_v, b1_v, b2_v, w32_id, rd_wr_s, rd_wr_k, rd_wr_i, bz_0, bz_n, if_pos, if_neg, if_true, if_false, ne_eq, not_true_eq_false, not_false_eq_true, k2]; exact ⟨_, rfl, rfl⟩
    by_cases w2 : w = 2
    · simp (disch := omega) only [gd_t, stw_v, cpw_v, jn_v, b1_v, b2_v, w32_id, rd_wr_s, rd_wr_k, rd_wr_i, bz_0, bz_n, if_pos, if_neg, if_true, if_false, ne_eq, not_true_eq_false, not_false_eq_true, k3]; exact ⟨_, rfl, rfl⟩
    by_cases w3 : w = 3
    · simp (disch := omega) only [gd_t, stw_v, cpw_v, jn_v, b1_v, b2_v, w32_id, rd_wr_s, rd_wr_k, rd_wr_i, bz_0, bz_n, if_pos, if_neg, if_true, if_false, ne_eq, not_true_eq_false, not_false_eq_true, k4]
      rcases k10 with e | e <;> rw [e] <;> exact ⟨_, rfl, rfl⟩
    simp (disch := omega) only [gd_t, stw_v, cpw_v, jn_v, b1_v, b2_v, w32_id, rd_wr_s, rd_wr_k, rd_wr_i, bz_0, bz_n, if_pos, if_neg, if_true, if_false, ne_eq, not_true_eq_false, not_false_eq_true, F11_in_e]
    by_cases w4 : 10 ≤ w ∧ w ≤ 25
    · unfold F1_told
      simp (disch := omega) only [gd_t, stw_v, cpw_v, jn_v, b1_v, b2_v, w32_id, rd_wr_s, rd_wr_k, rd_wr_i, bz_0, bz_n, if_pos, if_neg, if_true, if_false, ne_eq, not_true_eq_false, not_false_eq_true, formCell_e]
      rw [show 16 * c + w - 10 = 16 * c + (w - 10) by omega, (j1 c (w - 10) hc0 hc1 (by omega) (by omega)).1]
      exact ⟨_, rfl, rfl⟩
    · by_cases w5 : w < 10
      · simp (disch := omega) only [gd_t, stw_v, cpw_v, jn_v, b1_v, b2_v, w32_id, rd_wr_s, rd_wr_k, rd_wr_i, bz_0, bz_n, if_pos, if_neg, if_true, if_false, ne_eq, not_true_eq_false, not_false_eq_true]; exact ⟨_, rfl, rfl⟩
      · simp (disch := omega) only [gd_t, stw_v, cpw_v, jn_v, b1_v, b2_v, w32_id, rd_wr_s, rd_wr_k, rd_wr_i, bz_0, bz_n, if_pos, if_neg, if_true, if_false, ne_eq, not_true_eq_false, not_false_eq_true]; exact ⟨_, rfl, rfl⟩
  · simp (disch := omega) only [gd_t, stw_v, cpw_v, jn_v, b1_v, b2_v, w32_id, rd_wr_s, rd_wr_k, rd_wr_i, bz_0, bz_n, if_pos, if_neg, if_true, if_false, ne_eq, not_true_eq_false, not_false_eq_true]; exact ⟨_, rfl, rfl⟩
theorem st_trace {n : Nat} {m : Mem} (v : Int) (hI : Inv n m) : ∃ r, F10_trace m v = some r ∧ F11_trace m v = some r := by
  obtain ⟨h1, h2, h3, h4, h5, h6, ⟨p1, p2, p3, p4, p5, p6, p7, p8⟩, h8, h9, h10⟩ := hI
  unfold F10_trace F11_trace
  rw [p7]
  by_cases a : 0 ≤ v ∧ v < rd m 66 1 ∧ v < 24
  · simp (disch := omega) only [gd_t, stw_v, cpw_v, jn_v, b1_v, b2_v, w32_id, rd_wr_s, rd_wr_k, rd_wr_i, bz_0, bz_n, if_pos, if_neg, if_true, if_false, ne_eq, not_true_eq_false, not_false_eq_true, p8]; exact ⟨_, rfl, rfl⟩
  · by_cases b : v < 0
    · simp (disch := omega) only [gd_t, stw_v, cpw_v, jn_v, b1_v, b2_v, w32_id, rd_wr_s, rd_wr_k, rd_wr_i, bz_0, bz_n, if_pos, if_neg, if_true, if_false, ne_eq, not_true_eq_false, not_false_eq_true]; exact ⟨_, rfl, rfl⟩
    · by_cases c : rd m 66 1 ≤ v
      · simp (disch := omega) only [gd_t, stw_v, cpw_v, jn_v, b1_v, b2_v, w32_id, rd_wr_s, rd_wr_k, rd_wr_i, bz_0, bz_n, if_pos, if_neg, if_true, if_false, ne_eq, not_true_eq_false, not_false_eq_true]; exact ⟨_, rfl, rfl⟩
      · simp (disch := omega) only [gd_t, stw_v, cpw_v, jn_v, b1_v, b2_v, w32_id, rd_wr_s, rd_wr_k, rd_wr_i, bz_0, bz_n, if_pos, if_neg, if_true, if_false, ne_eq, not_true_eq_false, not_false_eq_true]; exact ⟨_, rfl, rfl⟩
theorem told_e {m : Mem} {c k : Int} (h0 : 0 ≤ c) (h1 : c < 12) (h2 : 0 ≤ k) (h3 : k < 16) : F1_told m c k = some (rd m 9 (16 * c + k)) := by
  unfold F1_told; simp (disch := omega) only [gd_t, stw_v, cpw_v, jn_v, b1_v, b2_v, w32_id, rd_wr_s, rd_wr_k, rd_wr_i, bz_0, bz_n, if_pos, if_neg, if_true, if_false, ne_eq, not_true_eq_false, not_false_eq_true, formCell_e]
theorem motherOf_e {m : Mem} {c : Int} (h0 : 0 ≤ c) (h1 : c < 12) : F1_motherOf m c = some (rd m 9 (197 + c)) := by
  unfold F1_motherOf; simp (disch := omega) only [gd_t, stw_v, cpw_v, jn_v, b1_v, b2_v, w32_id, rd_wr_s, rd_wr_k, rd_wr_i, bz_0, bz_n, if_pos, if_neg, if_true, if_false, ne_eq, not_true_eq_false, not_false_eq_true]
theorem costOf_e {m : Mem} {c : Int} (h0 : 0 ≤ c) (h1 : c < 5) : F1_costOf m c = some (rd m 9 (192 + c)) := by
  unfold F1_costOf; simp (disch := omega) only [gd_t, stw_v, cpw_v, jn_v, b1_v, b2_v, w32_id, rd_wr_s, rd_wr_k, rd_wr_i, bz_0, bz_n, if_pos, if_neg, if_true, if_false, ne_eq, not_true_eq_false, not_false_eq_true, costCell_e]

