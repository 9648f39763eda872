/-! the shelves -/
theorem whyE {n : Nat} {m : Mem} (s i : Int) (hI : Inv n m) (hs : inR s) : ∃ r, F10_elementRefusal m s i = some r ∧ F11_whyNoPlace m s i = some r ∧ ((r = 0 ∧ 0 ≤ s ∧ s < 6 ∧ 0 ≤ i ∧ i < rd m 120 s ∧ rd m (71 + 2 * s.toNat) 0 = 2 ∧ 0 ≤ rd m (71 + 2 * s.toNat) 2 ∧ rd m (71 + 2 * s.toNat) 2 ≤ 4 ∧ rd m 119 s = -2 - rd m (71 + 2 * s.toNat) 2) ∨ r < 0) := by
  obtain ⟨h1, h2, h3, h4, h5, h6, h7, ⟨h8, h8'⟩, h9, h10⟩ := hI
  unfold F10_elementRefusal F11_whyNoPlace
  rw [F10_isShelf_e, F11_isShelf_e]
  by_cases a : 0 ≤ s ∧ s < 6
  · obtain ⟨u1, u2, u3, u4⟩ := h8 s a.1 a.2
    simp (disch := omega) only [gd_t, stw_v, cpw_v, jn_v, b1_v, b2_v, w32_id, rd_wr_s, rd_wr_k, rd_wr_i, bz_0, bz_n, if_pos, if_neg, if_true, if_false, ne_eq, not_true_eq_false, not_false_eq_true]
    rcases u1 with u | u | u
    · simp (disch := omega) only [gd_t, stw_v, cpw_v, jn_v, b1_v, b2_v, w32_id, rd_wr_s, rd_wr_k, rd_wr_i, bz_0, bz_n, if_pos, if_neg, if_true, if_false, ne_eq, not_true_eq_false, not_false_eq_true, u.1, u.2]
      exact ⟨_, rfl, rfl, Or.inr (by omega)⟩
    · simp (disch := omega) only [gd_t, stw_v, cpw_v, jn_v, b1_v, b2_v, w32_id, rd_wr_s, rd_wr_k, rd_wr_i, bz_0, bz_n, if_pos, if_neg, if_true, if_false, ne_eq, not_true_eq_false, not_false_eq_true, u.1]
      exact ⟨_, rfl, rfl, Or.inr (by omega)⟩
    · simp (disch := omega) only [gd_t, stw_v, cpw_v, jn_v, b1_v, b2_v, w32_id, rd_wr_s, rd_wr_k, rd_wr_i, bz_0, bz_n, if_pos, if_neg, if_true, if_false, ne_eq, not_true_eq_false, not_false_eq_true, u.1, F6_hasPlace_e, F11_in_e, u2]
      by_cases b : 0 ≤ i ∧ i < rd m 120 s
      · simp (disch := omega) only [gd_t, stw_v, cpw_v, jn_v, b1_v, b2_v, w32_id, rd_wr_s, rd_wr_k, rd_wr_i, bz_0, bz_n, if_pos, if_neg, if_true, if_false, ne_eq, not_true_eq_false, not_false_eq_true]
        exact ⟨_, rfl, rfl, Or.inl ⟨rfl, a.1, a.2, b.1, b.2, trivial, u.2⟩⟩
      · simp (disch := omega) only [gd_t, stw_v, cpw_v, jn_v, b1_v, b2_v, w32_id, rd_wr_s, rd_wr_k, rd_wr_i, bz_0, bz_n, if_pos, if_neg, if_true, if_false, ne_eq, not_true_eq_false, not_false_eq_true]
        exact ⟨_, rfl, rfl, Or.inr (by omega)⟩
  · simp (disch := omega) only [gd_t, stw_v, cpw_v, jn_v, b1_v, b2_v, w32_id, rd_wr_s, rd_wr_k, rd_wr_i, bz_0, bz_n, if_pos, if_neg, if_true, if_false, ne_eq, not_true_eq_false, not_false_eq_true]
    exact ⟨_, rfl, rfl, Or.inr (by omega)⟩
theorem st_element {n : Nat} {m : Mem} (s i : Int) (hI : Inv n m) (hs : inR s) : ∃ r, F10_element m s i = some r ∧ F11_element m s i = some r := by
  obtain ⟨r, a, b, c⟩ := whyE s i hI hs
  have h8 := hI.2.2.2.2.2.2.2.1
  unfold F10_element F11_element
  rw [a, b]
  rcases c with ⟨c0, c1, c2, c3, c4, c5⟩ | c
  · have u := h8.1 s c1 c2
    simp (disch := omega) only [gd_t, stw_v, cpw_v, jn_v, b1_v, b2_v, w32_id, rd_wr_s, rd_wr_k, rd_wr_i, bz_0, bz_n, if_pos, if_neg, if_true, if_false, ne_eq, not_true_eq_false, not_false_eq_true, c0]
    rw [h8.2 s i c1 c2 c3 (by omega)]
    exact ⟨_, rfl, rfl⟩
  · simp (disch := omega) only [gd_t, stw_v, cpw_v, jn_v, b1_v, b2_v, w32_id, rd_wr_s, rd_wr_k, rd_wr_i, bz_0, bz_n, if_pos, if_neg, if_true, if_false, ne_eq, not_true_eq_false, not_false_eq_true]
    exact ⟨_, rfl, rfl⟩
theorem isUnder5 : ∀ k j : Int, 0 ≤ k → k ≤ 6 → 0 ≤ j → j ≤ 6 → F5_isUnder k j = some (F11_isUnder k j) := by
  intro k j h0 h1 h2 h3
  rcases (show k = 0 ∨ k = 1 ∨ k = 2 ∨ k = 3 ∨ k = 4 ∨ k = 5 ∨ k = 6 by omega) with rfl | rfl | rfl | rfl | rfl | rfl | rfl <;>
  rcases (show j = 0 ∨ j = 1 ∨ j = 2 ∨ j = 3 ∨ j = 4 ∨ j = 5 ∨ j = 6 by omega) with rfl | rfl | rfl | rfl | rfl | rfl | rfl <;>
  (unfold F5_isUnder; obtain ⟨f, hf, -⟩ := fu_pos (k := 0) (by omega); rw [FU_eq]; decide +kernel)
theorem st_taken {n : Nat} {m : Mem} (s k : Int) (hI : Inv n m) (hs : inR s) : ∃ r, F10_taken m s k = some r ∧ F11_taken m s k = some r := by
  obtain ⟨h1, h2, h3, h4, h5, h6, ⟨p1, p2, p3, p4, p5⟩, ⟨h8, h8'⟩, h9, h10⟩ := hI
  unfold F10_taken F11_taken
  rw [F10_isShelf_e, F11_isShelf_e, F5_isKind_e, F11_in_e]
  by_cases a : 0 ≤ s ∧ s < 6
  · obtain ⟨u1, u2, u3, u4⟩ := h8 s a.1 a.2
    by_cases b : 0 ≤ k ∧ k ≤ 6
    · simp (disch := omega) only [gd_t, stw_v, cpw_v, jn_v, b1_v, b2_v, w32_id, rd_wr_s, rd_wr_k, rd_wr_i, bz_0, bz_n, if_pos, if_neg, if_true, if_false, ne_eq, not_true_eq_false, not_false_eq_true]
      rcases u1 with u | u | u
      · simp (disch := omega) only [gd_t, stw_v, cpw_v, jn_v, b1_v, b2_v, w32_id, rd_wr_s, rd_wr_k, rd_wr_i, bz_0, bz_n, if_pos, if_neg, if_true, if_false, ne_eq, not_true_eq_false, not_false_eq_true, u.1, u.2]
        exact ⟨_, rfl, rfl⟩
      · obtain ⟨q1, q2, q3, q4, q5⟩ := p4 (rd m 119 s) u.2.1 u.2.2.1
        simp (disch := omega) only [gd_t, stw_v, cpw_v, jn_v, b1_v, b2_v, w32_id, rd_wr_s, rd_wr_k, rd_wr_i, bz_0, bz_n, if_pos, if_neg, if_true, if_false, ne_eq, not_true_eq_false, not_false_eq_true, u.1, u.2.2.2, F5_has_e, q3, isUnder5 _ _ q1 q2 b.1 b.2]
        by_cases c : F11_isUnder (rd m 67 (rd m 119 s)) k = 0
        · simp (disch := omega) only [gd_t, stw_v, cpw_v, jn_v, b1_v, b2_v, w32_id, rd_wr_s, rd_wr_k, rd_wr_i, bz_0, bz_n, if_pos, if_neg, if_true, if_false, ne_eq, not_true_eq_false, not_false_eq_true, c]; exact ⟨_, rfl, rfl⟩
        · simp only [c, if_false]; exact ⟨_, rfl, rfl⟩
      · simp (disch := omega) only [gd_t, stw_v, cpw_v, jn_v, b1_v, b2_v, w32_id, rd_wr_s, rd_wr_k, rd_wr_i, bz_0, bz_n, if_pos, if_neg, if_true, if_false, ne_eq, not_true_eq_false, not_false_eq_true, u.1]
        exact ⟨_, rfl, rfl⟩
    · simp (disch := omega) only [gd_t, stw_v, cpw_v, jn_v, b1_v, b2_v, w32_id, rd_wr_s, rd_wr_k, rd_wr_i, bz_0, bz_n, if_pos, if_neg, if_true, if_false, ne_eq, not_true_eq_false, not_false_eq_true]
      exact ⟨_, rfl, rfl⟩
  · simp (disch := omega) only [gd_t, stw_v, cpw_v, jn_v, b1_v, b2_v, w32_id, rd_wr_s, rd_wr_k, rd_wr_i, bz_0, bz_n, if_pos, if_neg, if_true, if_false, ne_eq, not_true_eq_false, not_false_eq_true]
    exact ⟨_, rfl, rfl⟩
theorem lcm_0 (v : Int) : lcm' v 0 = 0 ↔ v = 0 := by unfold lcm'; repeat' split <;> omega
/-- a write into a shelf's place, by both sides -/
theorem iSh_w {m m' : Mem} {s j v : Int} (h8 : iSh m) (h0 : 0 ≤ s) (h1 : s < 6) (j0 : 0 ≤ j) (j1 : j < 60) (hm : m' = wr (wr m (71 + 2 * s.toNat + 1) j v) 121 (60 * s + j) v) : iSh m' := by
  refine ⟨fun t x y => ?_, fun t i x y z w => ?_⟩
  · have g : ∀ i, rd m' (71 + 2 * t.toNat) i = rd m (71 + 2 * t.toNat) i := fun i => by rw [hm]; simp (disch := omega) only [gd_t, stw_v, cpw_v, jn_v, b1_v, b2_v, w32_id, rd_wr_s, rd_wr_k, rd_wr_i, bz_0, bz_n, if_pos, if_neg, if_true, if_false, ne_eq, not_true_eq_false, not_false_eq_true]
    have g119 : rd m' 119 t = rd m 119 t := by rw [hm]; simp (disch := omega) only [gd_t, stw_v, cpw_v, jn_v, b1_v, b2_v, w32_id, rd_wr_s, rd_wr_k, rd_wr_i, bz_0, bz_n, if_pos, if_neg, if_true, if_false, ne_eq, not_true_eq_false, not_false_eq_true]
    have g120 : rd m' 120 t = rd m 120 t := by rw [hm]; simp (disch := omega) only [gd_t, stw_v, cpw_v, jn_v, b1_v, b2_v, w32_id, rd_wr_s, rd_wr_k, rd_wr_i, bz_0, bz_n, if_pos, if_neg, if_true, if_false, ne_eq, not_true_eq_false, not_false_eq_true]
    have g66 : rd m' 66 0 = rd m 66 0 := by rw [hm]; simp (disch := omega) only [gd_t, stw_v, cpw_v, jn_v, b1_v, b2_v, w32_id, rd_wr_s, rd_wr_k, rd_wr_i, bz_0, bz_n, if_pos, if_neg, if_true, if_false, ne_eq, not_true_eq_false, not_false_eq_true]
    unfold shH
    rw [g, g, g, g, g119, g120, g66]
    exact h8.1 t x y
  · have old := h8.2 t i x y z w
    rw [hm]
    by_cases e : t = s ∧ i = j
    · obtain ⟨rfl, rfl⟩ := e
      rw [rl_wr_k (by omega), rl_wr, if_pos ⟨rfl, rfl⟩, rl_wr, if_pos ⟨rfl, rfl⟩]
    · rw [rl_wr_k (by omega), rl_wr, if_neg (by omega), rl_wr, if_neg (by omega), rl_wr_k (by omega)]
      exact old
theorem st_put {n : Nat} {m : Mem} (s i v : Int) (hI : Inv n m) (hs : inR s) (hv : inL v) : Sq n (fun m => F10_put m s i v) (fun m => F11_put m s i v) m := by
  obtain ⟨r, a, b, c⟩ := whyE s i hI hs
  have hI' := hI
  obtain ⟨h1, h2, h3, h4, h5, h6, h7, h8, h9, h10⟩ := hI
  rcases c with ⟨c0, c1, c2, c3, c4, c5, c6, c7, c8⟩ | c
  · have u := h8.1 s c1 c2
    obtain ⟨w, hw⟩ : ∃ w, w = F6_lowest m (71 + 2 * s.toNat) v := ⟨_, rfl⟩
    obtain ⟨m1, hm1⟩ : ∃ m1, m1 = wr m (71 + 2 * s.toNat + 1) i w := ⟨_, rfl⟩
    obtain ⟨m2, hm2⟩ : ∃ m2, m2 = wr m1 121 (60 * s + i) w := ⟨_, rfl⟩
    have q1 : ∀ i, rd m1 119 i = rd m 119 i := fun j => by rw [hm1]; simp (disch := omega) only [gd_t, stw_v, cpw_v, jn_v, b1_v, b2_v, w32_id, rd_wr_s, rd_wr_k, rd_wr_i, bz_0, bz_n, if_pos, if_neg, if_true, if_false, ne_eq, not_true_eq_false, not_false_eq_true]
    have q2 : ∀ i, rd m1 120 i = rd m 120 i := fun j => by rw [hm1]; simp (disch := omega) only [gd_t, stw_v, cpw_v, jn_v, b1_v, b2_v, w32_id, rd_wr_s, rd_wr_k, rd_wr_i, bz_0, bz_n, if_pos, if_neg, if_true, if_false, ne_eq, not_true_eq_false, not_false_eq_true]
    refine ⟨1, m1, m2, ?_, ?_, ?_⟩
    · show F10_put m s i v = _
      unfold F10_put
      rw [a]
      simp (disch := omega) only [gd_t, stw_v, cpw_v, jn_v, b1_v, b2_v, w32_id, rd_wr_s, rd_wr_k, rd_wr_i, bz_0, bz_n, if_pos, if_neg, if_true, if_false, ne_eq, not_true_eq_false, not_false_eq_true, c0]
      rw [← hw, hm1]
    · show F11_put m1 s i v = _
      unfold F11_put
      rw [lo_F11_whyNoPlace q1 q2, b]
      simp (disch := omega) only [gd_t, stw_v, cpw_v, jn_v, b1_v, b2_v, w32_id, rd_wr_s, rd_wr_k, rd_wr_i, bz_0, bz_n, if_pos, if_neg, if_true, if_false, ne_eq, not_true_eq_false, not_false_eq_true, c0, q1, c8]
      rw [show -2 - (-2 - rd m (71 + 2 * s.toNat) 2) = rd m (71 + 2 * s.toNat) 2 by omega]
      rw [hm2, hw]
      unfold F6_lowest
      rcases (show rd m (71 + 2 * s.toNat) 2 = 0 ∨ rd m (71 + 2 * s.toNat) 2 = 1 ∨ rd m (71 + 2 * s.toNat) 2 = 2 ∨ rd m (71 + 2 * s.toNat) 2 = 3 ∨ rd m (71 + 2 * s.toNat) 2 = 4 by omega) with e | e | e | e | e
      · simp (disch := omega) only [gd_t, stw_v, cpw_v, jn_v, b1_v, b2_v, w32_id, rd_wr_s, rd_wr_k, rd_wr_i, bz_0, bz_n, if_pos, if_neg, if_true, if_false, ne_eq, not_true_eq_false, not_false_eq_true, e]
      · simp (disch := omega) only [gd_t, stw_v, cpw_v, jn_v, b1_v, b2_v, w32_id, rd_wr_s, rd_wr_k, rd_wr_i, bz_0, bz_n, if_pos, if_neg, if_true, if_false, ne_eq, not_true_eq_false, not_false_eq_true, e]
      · simp (disch := omega) only [gd_t, stw_v, cpw_v, jn_v, b1_v, b2_v, w32_id, rd_wr_s, rd_wr_k, rd_wr_i, bz_0, bz_n, if_pos, if_neg, if_true, if_false, ne_eq, not_true_eq_false, not_false_eq_true, e]
      · simp (disch := omega) only [gd_t, stw_v, cpw_v, jn_v, b1_v, b2_v, w32_id, rd_wr_s, rd_wr_k, rd_wr_i, bz_0, bz_n, if_pos, if_neg, if_true, if_false, ne_eq, not_true_eq_false, not_false_eq_true, e]
      · simp (disch := omega) only [gd_t, stw_v, cpw_v, jn_v, b1_v, b2_v, w32_id, rd_wr_s, rd_wr_k, rd_wr_i, bz_0, bz_n, if_pos, if_neg, if_true, if_false, ne_eq, not_true_eq_false, not_false_eq_true, e]
        by_cases z : lcm' v 0 = 0
        · simp (disch := omega) only [gd_t, stw_v, cpw_v, jn_v, b1_v, b2_v, w32_id, rd_wr_s, rd_wr_k, rd_wr_i, bz_0, bz_n, if_pos, if_neg, if_true, if_false, ne_eq, not_true_eq_false, not_false_eq_true, z]
        · simp only [z, if_false]
    · refine ⟨iCh_s ?_ h1, iCe_s ?_ h2, iTo_s ?_ h3, iLo_s ?_ h4, iHi_s ?_ h5, iTp_s ?_ h6, iPa_s ?_ h7, iSh_w h8 c1 c2 c3 (by omega) (by rw [hm2, hm1]), iLi_s ?_ h9, ?_⟩
      · rw [hm2, hm1]; exact fun k i q => by unfold PCh at q; simp (disch := omega) only [wr_ki, cpy_ki]
      · rw [hm2, hm1]; exact fun k i q => by unfold PCe at q; simp (disch := omega) only [wr_ki, cpy_ki]
      · rw [hm2, hm1]; exact fun k i q => by unfold PTo at q; simp (disch := omega) only [wr_ki, cpy_ki]
      · rw [hm2, hm1]; exact fun k i q => by unfold PLo at q; simp (disch := omega) only [wr_ki, cpy_ki]
      · rw [hm2, hm1]; exact fun k i q => by unfold PHi at q; simp (disch := omega) only [wr_ki, cpy_ki]
      · rw [hm2, hm1]; exact fun k i q => by unfold PTp at q; simp (disch := omega) only [wr_ki, cpy_ki]
      · rw [hm2, hm1]; exact fun k i q => by unfold PPa at q; simp (disch := omega) only [wr_ki, cpy_ki]
      · rw [hm2, hm1]; exact fun k i q => by unfold PLi at q; simp (disch := omega) only [wr_ki, cpy_ki]
      · have := iBt_s (n := n) (m := m) (m' := m2) (by rw [hm2, hm1]; exact fun k i q => by unfold PBt at q; simp (disch := omega) only [wr_ki, cpy_ki]) h10
        obtain ⟨x1, x2, x3, x4, x5, x6, x7⟩ := this
        exact ⟨x1, x2, x3, by omega, x5, x6, x7⟩
  · refine Sq_ro (r := r) hI' ?_ ?_
    · show F10_put m s i v = _
      unfold F10_put
      rw [a]
      simp (disch := omega) only [gd_t, stw_v, cpw_v, jn_v, b1_v, b2_v, w32_id, rd_wr_s, rd_wr_k, rd_wr_i, bz_0, bz_n, if_pos, if_neg, if_true, if_false, ne_eq, not_true_eq_false, not_false_eq_true]
    · show F11_put m s i v = _
      unfold F11_put
      rw [b]
      simp (disch := omega) only [gd_t, stw_v, cpw_v, jn_v, b1_v, b2_v, w32_id, rd_wr_s, rd_wr_k, rd_wr_i, bz_0, bz_n, if_pos, if_neg, if_true, if_false, ne_eq, not_true_eq_false, not_false_eq_true]
theorem st_keep {n : Nat} {m : Mem} (s p : Int) (hI : Inv n m) (hs : inR s) (hp : inR p) : Sq n (fun m => F10_keep m s p) (fun m => F11_keep m s p) m := by
  have hI' := hI
  obtain ⟨h1, h2, h3, h4, h5, h6, h7, h8, h9, h10⟩ := hI
  have p1 := h7.1; have p2 := h7.2.1; have p3 := h7.2.2.1
  have hp1 := hp.1; have hp2 := hp.2
  by_cases a : 0 ≤ s ∧ s < 6
  · by_cases b : p = -1 ∨ (0 ≤ p ∧ p < rd m 66 0)
    · obtain ⟨z, hz⟩ : ∃ z : Int, z = if 0 ≤ p then 1 else 0 := ⟨_, rfl⟩
      obtain ⟨m1, hm1⟩ : ∃ m1, m1 = wr (wr m (71 + 2 * s.toNat) 0 z) (71 + 2 * s.toNat) 1 p := ⟨_, rfl⟩
      obtain ⟨m2, hm2⟩ : ∃ m2, m2 = wr m1 119 s p := ⟨_, rfl⟩
      have q4 : rd m1 83 46 = rd m 66 0 := by rw [hm1]; simp (disch := omega) only [gd_t, stw_v, cpw_v, jn_v, b1_v, b2_v, w32_id, rd_wr_s, rd_wr_k, rd_wr_i, bz_0, bz_n, if_pos, if_neg, if_true, if_false, ne_eq, not_true_eq_false, not_false_eq_true, p3]
      refine ⟨1, m1, m2, ?_, ?_, ?_⟩
      · show F10_keep m s p = _
        unfold F10_keep F6_keepPath
        rw [F10_isShelf_e, F5_has_e]
        by_cases c : p = -1
        · simp (disch := omega) only [gd_t, stw_v, cpw_v, jn_v, b1_v, b2_v, w32_id, rd_wr_s, rd_wr_k, rd_wr_i, bz_0, bz_n, if_pos, if_neg, if_true, if_false, ne_eq, not_true_eq_false, not_false_eq_true, c]; rw [hm1, hz, c]; simp (disch := omega) only [gd_t, stw_v, cpw_v, jn_v, b1_v, b2_v, w32_id, rd_wr_s, rd_wr_k, rd_wr_i, bz_0, bz_n, if_pos, if_neg, if_true, if_false, ne_eq, not_true_eq_false, not_false_eq_true]
        · simp (disch := omega) only [gd_t, stw_v, cpw_v, jn_v, b1_v, b2_v, w32_id, rd_wr_s, rd_wr_k, rd_wr_i, bz_0, bz_n, if_pos, if_neg, if_true, if_false, ne_eq, not_true_eq_false, not_false_eq_true]; rw [hm1, hz]; simp (disch := omega) only [gd_t, stw_v, cpw_v, jn_v, b1_v, b2_v, w32_id, rd_wr_s, rd_wr_k, rd_wr_i, bz_0, bz_n, if_pos, if_neg, if_true, if_false, ne_eq, not_true_eq_false, not_false_eq_true]
      · show F11_keep m1 s p = _
        unfold F11_keep
        rw [F11_isShelf_e, F11_isBody_e m1 p (by omega), q4]
        by_cases c : p = -1
        · simp (disch := omega) only [gd_t, stw_v, cpw_v, jn_v, b1_v, b2_v, w32_id, rd_wr_s, rd_wr_k, rd_wr_i, bz_0, bz_n, if_pos, if_neg, if_true, if_false, ne_eq, not_true_eq_false, not_false_eq_true, c]; rw [hm2, c]
        · simp (disch := omega) only [gd_t, stw_v, cpw_v, jn_v, b1_v, b2_v, w32_id, rd_wr_s, rd_wr_k, rd_wr_i, bz_0, bz_n, if_pos, if_neg, if_true, if_false, ne_eq, not_true_eq_false, not_false_eq_true]; rw [hm2]
      · have g66 : rd m2 66 0 = rd m 66 0 := by rw [hm2, hm1]; simp (disch := omega) only [gd_t, stw_v, cpw_v, jn_v, b1_v, b2_v, w32_id, rd_wr_s, rd_wr_k, rd_wr_i, bz_0, bz_n, if_pos, if_neg, if_true, if_false, ne_eq, not_true_eq_false, not_false_eq_true]
        refine ⟨iCh_s ?_ h1, iCe_s ?_ h2, iTo_s ?_ h3, iLo_s ?_ h4, iHi_s ?_ h5, iTp_s ?_ h6, iPa_s ?_ h7, ?_, iLi_s ?_ h9, ?_⟩
        · rw [hm2, hm1]; exact fun k i q => by unfold PCh at q; simp (disch := omega) only [wr_ki, cpy_ki]
        · rw [hm2, hm1]; exact fun k i q => by unfold PCe at q; simp (disch := omega) only [wr_ki, cpy_ki]
        · rw [hm2, hm1]; exact fun k i q => by unfold PTo at q; simp (disch := omega) only [wr_ki, cpy_ki]
        · rw [hm2, hm1]; exact fun k i q => by unfold PLo at q; simp (disch := omega) only [wr_ki, cpy_ki]
        · rw [hm2, hm1]; exact fun k i q => by unfold PHi at q; simp (disch := omega) only [wr_ki, cpy_ki]
        · rw [hm2, hm1]; exact fun k i q => by unfold PTp at q; simp (disch := omega) only [wr_ki, cpy_ki]
        · rw [hm2, hm1]; exact fun k i q => by unfold PPa at q; simp (disch := omega) only [wr_ki, cpy_ki]
        · refine ⟨fun t x y => ?_, fun t i x y u w => ?_⟩
          · have g120 : rd m2 120 t = rd m 120 t := by rw [hm2, hm1]; simp (disch := omega) only [gd_t, stw_v, cpw_v, jn_v, b1_v, b2_v, w32_id, rd_wr_s, rd_wr_k, rd_wr_i, bz_0, bz_n, if_pos, if_neg, if_true, if_false, ne_eq, not_true_eq_false, not_false_eq_true]
            have g3 : rd m2 (71 + 2 * t.toNat) 3 = rd m (71 + 2 * t.toNat) 3 := by
              rw [hm2, hm1]; simp (disch := omega) only [gd_t, stw_v, cpw_v, jn_v, b1_v, b2_v, w32_id, rd_wr_s, rd_wr_k, rd_wr_i, bz_0, bz_n, if_pos, if_neg, if_true, if_false, ne_eq, not_true_eq_false, not_false_eq_true]
              by_cases e : t = s
              · rw [e]; simp (disch := omega) only [gd_t, stw_v, cpw_v, jn_v, b1_v, b2_v, w32_id, rd_wr_s, rd_wr_k, rd_wr_i, bz_0, bz_n, if_pos, if_neg, if_true, if_false, ne_eq, not_true_eq_false, not_false_eq_true]
              · simp (disch := omega) only [gd_t, stw_v, cpw_v, jn_v, b1_v, b2_v, w32_id, rd_wr_s, rd_wr_k, rd_wr_i, bz_0, bz_n, if_pos, if_neg, if_true, if_false, ne_eq, not_true_eq_false, not_false_eq_true]
            obtain ⟨u1, u2⟩ := h8.1 t x y
            refine ⟨?_, by rw [g3, g120]; exact u2⟩
            by_cases e : t = s
            · rw [e]
              have k0 : rd m2 (71 + 2 * s.toNat) 0 = z := by rw [hm2, hm1]; simp (disch := omega) only [gd_t, stw_v, cpw_v, jn_v, b1_v, b2_v, w32_id, rd_wr_s, rd_wr_k, rd_wr_i, bz_0, bz_n, if_pos, if_neg, if_true, if_false, ne_eq, not_true_eq_false, not_false_eq_true]
              have k1 : rd m2 (71 + 2 * s.toNat) 1 = p := by rw [hm2, hm1]; simp (disch := omega) only [gd_t, stw_v, cpw_v, jn_v, b1_v, b2_v, w32_id, rd_wr_s, rd_wr_k, rd_wr_i, bz_0, bz_n, if_pos, if_neg, if_true, if_false, ne_eq, not_true_eq_false, not_false_eq_true]
              have k9 : rd m2 119 s = p := by rw [hm2]; simp (disch := omega) only [gd_t, stw_v, cpw_v, jn_v, b1_v, b2_v, w32_id, rd_wr_s, rd_wr_k, rd_wr_i, bz_0, bz_n, if_pos, if_neg, if_true, if_false, ne_eq, not_true_eq_false, not_false_eq_true]
              unfold shH
              rw [k0, k1, k9, g66, hz]
              rcases b with b | b
              · left; simp (disch := omega) only [gd_t, stw_v, cpw_v, jn_v, b1_v, b2_v, w32_id, rd_wr_s, rd_wr_k, rd_wr_i, bz_0, bz_n, if_pos, if_neg, if_true, if_false, ne_eq, not_true_eq_false, not_false_eq_true, b]; exact ⟨trivial, trivial⟩
              · right; left; simp (disch := omega) only [gd_t, stw_v, cpw_v, jn_v, b1_v, b2_v, w32_id, rd_wr_s, rd_wr_k, rd_wr_i, bz_0, bz_n, if_pos, if_neg, if_true, if_false, ne_eq, not_true_eq_false, not_false_eq_true]; exact ⟨trivial, b.1, b.2, trivial⟩
            · have g : ∀ i, rd m2 (71 + 2 * t.toNat) i = rd m (71 + 2 * t.toNat) i := fun i => by rw [hm2, hm1]; simp (disch := omega) only [gd_t, stw_v, cpw_v, jn_v, b1_v, b2_v, w32_id, rd_wr_s, rd_wr_k, rd_wr_i, bz_0, bz_n, if_pos, if_neg, if_true, if_false, ne_eq, not_true_eq_false, not_false_eq_true]
              have g119 : rd m2 119 t = rd m 119 t := by rw [hm2, hm1]; simp (disch := omega) only [gd_t, stw_v, cpw_v, jn_v, b1_v, b2_v, w32_id, rd_wr_s, rd_wr_k, rd_wr_i, bz_0, bz_n, if_pos, if_neg, if_true, if_false, ne_eq, not_true_eq_false, not_false_eq_true]
              unfold shH
              rw [g, g, g, g119, g66]
              exact u1
          · rw [rl_eq (m := m), rl_eq (m := m) (m' := m2) (k := 121)]
            · exact h8.2 t i x y u w
            · rw [hm2, hm1]; simp (disch := omega) only [wr_ki]
            · rw [hm2, hm1]; simp (disch := omega) only [wr_ki]
        · rw [hm2, hm1]; exact fun k i q => by unfold PLi at q; simp (disch := omega) only [wr_ki, cpy_ki]
        · have := iBt_s (n := n) (m := m) (m' := m2) (by rw [hm2, hm1]; exact fun k i q => by unfold PBt at q; simp (disch := omega) only [wr_ki, cpy_ki]) h10
          obtain ⟨x1, x2, x3, x4, x5, x6, x7⟩ := this
          exact ⟨x1, x2, x3, by omega, x5, x6, x7⟩
    · refine Sq_ro (r := -1) hI' ?_ ?_
      · show F10_keep m s p = _
        unfold F10_keep
        rw [F10_isShelf_e, F5_has_e]
        simp (disch := omega) only [gd_t, stw_v, cpw_v, jn_v, b1_v, b2_v, w32_id, rd_wr_s, rd_wr_k, rd_wr_i, bz_0, bz_n, if_pos, if_neg, if_true, if_false, ne_eq, not_true_eq_false, not_false_eq_true]
      · show F11_keep m s p = _
        unfold F11_keep
        rw [F11_isShelf_e, F11_isBody_e m p (by omega), p3]
        simp (disch := omega) only [gd_t, stw_v, cpw_v, jn_v, b1_v, b2_v, w32_id, rd_wr_s, rd_wr_k, rd_wr_i, bz_0, bz_n, if_pos, if_neg, if_true, if_false, ne_eq, not_true_eq_false, not_false_eq_true]
  · refine Sq_ro (r := -1) hI' ?_ ?_
    · show F10_keep m s p = _
      unfold F10_keep
      rw [F10_isShelf_e]
      simp (disch := omega) only [gd_t, stw_v, cpw_v, jn_v, b1_v, b2_v, w32_id, rd_wr_s, rd_wr_k, rd_wr_i, bz_0, bz_n, if_pos, if_neg, if_true, if_false, ne_eq, not_true_eq_false, not_false_eq_true]
    · show F11_keep m s p = _
      unfold F11_keep
      rw [F11_isShelf_e]
      simp (disch := omega) only [gd_t, stw_v, cpw_v, jn_v, b1_v, b2_v, w32_id, rd_wr_s, rd_wr_k, rd_wr_i, bz_0, bz_n, if_pos, if_neg, if_true, if_false, ne_eq, not_true_eq_false, not_false_eq_true]
