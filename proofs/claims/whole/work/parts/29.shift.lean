/-! shift: places of one shelf copied to another's -/
def lcp (m : Mem) (k1 : Nat) (i : Int) (k2 : Nat) (j e : Int) : Mem := fun k' x => if k' = k2 ∧ j ≤ x ∧ x < e then rl m k1 (i + (x - j)) else m k' x
theorem lcp_0 {m : Mem} {k1 k2 : Nat} {i j e : Int} (h : e ≤ j) : lcp m k1 i k2 j e = m := by
  funext k' x; unfold lcp; rw [if_neg (by omega)]
theorem lcp_o {m : Mem} {k1 k2 k' : Nat} {i j e x : Int} (h : ¬ (k' = k2 ∧ j ≤ x ∧ x < e)) : lcp m k1 i k2 j e k' x = m k' x := if_neg h
theorem rl_rl (m : Mem) (k : Nat) (i : Int) : w64 (rl m k i) = rl m k i := by
  have := rl_in m k i
  exact w64_id this.1 this.2
theorem lcp_s {m : Mem} {k1 k2 : Nat} {i j e : Int} (hk : k1 ≠ k2) (h : j < e) : lcp (wr m k2 j (rl m k1 i)) k1 (i + 1) k2 (j + 1) e = lcp m k1 i k2 j e := by
  funext k' x; unfold lcp
  by_cases a : k' = k2 ∧ j ≤ x ∧ x < e
  · rw [if_pos a]
    by_cases b : x = j
    · rw [if_neg (by omega)]
      unfold wr
      rw [if_pos ⟨a.1, b⟩, b, show i + (j - j) = i by omega]
    · rw [if_pos (by omega), rl_wr_k hk, show i + 1 + (x - (j + 1)) = i + (x - j) by omega]
  · rw [if_neg a, if_neg (by omega), wr_ki (by omega)]
theorem rl_lcp {m : Mem} {k1 k2 : Nat} {i j e x : Int} (h : j ≤ x) (h' : x < e) : rl (lcp m k1 i k2 j e) k2 x = rl m k1 (i + (x - j)) := by
  show w64 (lcp m k1 i k2 j e k2 x) = _
  unfold lcp
  rw [if_pos ⟨rfl, h, h'⟩, rl_rl]
theorem L_shA {s v w : Int} {kk : Mem → Option (Int × Mem)} (h0 : 0 ≤ s) (h1 : s < 6) (h2 : 0 ≤ v) (h3 : v + w ≤ 60) (h4 : 0 ≤ w) : ∀ (d n : Nat) (j : Int) (m : Mem), j + d = w → d < n → 0 ≤ j → L11_shift_113 s v w kk n j m = kk (lcp m 121 (60 * s + v + j) 122 j w) := by
  intro d
  induction d with
  | zero =>
    intro n j m h0 h1 h2
    obtain ⟨n, rfl⟩ : ∃ i, n = i + 1 := ⟨n - 1, by omega⟩
    rw [L11_shift_113, if_pos (by omega), lcp_0 (by omega)]
  | succ d ih =>
    intro n j m h0 h1 h2
    obtain ⟨n, rfl⟩ : ∃ i, n = i + 1 := ⟨n - 1, by omega⟩
    rw [L11_shift_113]
    simp (disch := omega) only [gd_t, stw_v, cpw_v, jn_v, b1_v, b2_v, w32_id, rd_wr_s, rd_wr_k, rd_wr_i, bz_0, bz_n, if_pos, if_neg, if_true, if_false, ne_eq, not_true_eq_false, not_false_eq_true]
    rw [ih n (j + 1) _ (by omega) (by omega) (by omega), show 60 * s + v + (j + 1) = 60 * s + v + j + 1 by omega, lcp_s (by decide) (by omega)]
theorem L_shB {s v w : Int} (h0 : 0 ≤ s) (h1 : s < 6) (h2 : 0 ≤ v) (h3 : v + w ≤ 60) (h4 : 0 ≤ w) : ∀ (d n : Nat) (j : Int) (m : Mem), j + d = w → d < n → 0 ≤ j → L11_shift_150 s v w n j m = some (w, lcp m 122 j 121 (60 * s + v + j) (60 * s + v + w)) := by
  intro d
  induction d with
  | zero =>
    intro n j m h0 h1 h2
    obtain ⟨n, rfl⟩ : ∃ i, n = i + 1 := ⟨n - 1, by omega⟩
    rw [L11_shift_150, if_pos (by omega), lcp_0 (by omega)]
  | succ d ih =>
    intro n j m h0 h1 h2
    obtain ⟨n, rfl⟩ : ∃ i, n = i + 1 := ⟨n - 1, by omega⟩
    rw [L11_shift_150]
    simp (disch := omega) only [gd_t, stw_v, cpw_v, jn_v, b1_v, b2_v, w32_id, rd_wr_s, rd_wr_k, rd_wr_i, bz_0, bz_n, if_pos, if_neg, if_true, if_false, ne_eq, not_true_eq_false, not_false_eq_true]
    rw [ih n (j + 1) _ (by omega) (by omega) (by omega), show 60 * s + v + (j + 1) = 60 * s + v + j + 1 by omega, lcp_s (by decide) (by omega)]
theorem st_shift {n : Nat} {m : Mem} (s v t w z : Int) (hI : Inv n m) (hv : inR v) (hw : inR w) (hz : inR z) : Sq n (fun m => F10_shift m s v t w z) (fun m => F11_shift m s v t w z) m := by
  have hI' := hI
  obtain ⟨h1, h2, h3, h4, h5, h6, h7, h8, h9, h10⟩ := hI
  have hv1 := hv.1; have hv2 := hv.2; have hw1 := hw.1; have hw2 := hw.2; have hz1 := hz.1; have hz2 := hz.2
  -- no change: the same answer
  have no : ∀ r, F10_shift m s v t w z = some (r, m) → F11_shift m s v t w z = some (r, m) → Sq n (fun m => F10_shift m s v t w z) (fun m => F11_shift m s v t w z) m := fun r a b => Sq_ro hI' a b
  by_cases a : 0 ≤ s ∧ s < 6
  · by_cases b : 0 ≤ t ∧ t < 6
    · obtain ⟨u1, u2, u3, u4⟩ := h8.1 s a.1 a.2
      obtain ⟨w1, w2, w3, w4⟩ := h8.1 t b.1 b.2
      by_cases c1 : rd m 119 s = -1
      · have c1' : rd m (71 + 2 * s.toNat) 0 = 0 := by unfold shH at u1; omega
        refine no (-11) ?_ ?_
        · unfold F10_shift; rw [F10_isShelf_e, F10_isShelf_e]; simp (disch := omega) only [gd_t, stw_v, cpw_v, jn_v, b1_v, b2_v, w32_id, rd_wr_s, rd_wr_k, rd_wr_i, bz_0, bz_n, if_pos, if_neg, if_true, if_false, ne_eq, not_true_eq_false, not_false_eq_true]
        · unfold F11_shift; rw [F11_isShelf_e, F11_isShelf_e]; simp (disch := omega) only [gd_t, stw_v, cpw_v, jn_v, b1_v, b2_v, w32_id, rd_wr_s, rd_wr_k, rd_wr_i, bz_0, bz_n, if_pos, if_neg, if_true, if_false, ne_eq, not_true_eq_false, not_false_eq_true]
      by_cases c2 : rd m 119 t = -1
      · have c2' : rd m (71 + 2 * t.toNat) 0 = 0 := by unfold shH at w1; omega
        have c1' : rd m (71 + 2 * s.toNat) 0 ≠ 0 := by unfold shH at u1; omega
        refine no (-11) ?_ ?_
        · unfold F10_shift; rw [F10_isShelf_e, F10_isShelf_e]; simp (disch := omega) only [gd_t, stw_v, cpw_v, jn_v, b1_v, b2_v, w32_id, rd_wr_s, rd_wr_k, rd_wr_i, bz_0, bz_n, if_pos, if_neg, if_true, if_false, ne_eq, not_true_eq_false, not_false_eq_true]
        · unfold F11_shift; rw [F11_isShelf_e, F11_isShelf_e]; simp (disch := omega) only [gd_t, stw_v, cpw_v, jn_v, b1_v, b2_v, w32_id, rd_wr_s, rd_wr_k, rd_wr_i, bz_0, bz_n, if_pos, if_neg, if_true, if_false, ne_eq, not_true_eq_false, not_false_eq_true]
      have c1' : rd m (71 + 2 * s.toNat) 0 ≠ 0 := by unfold shH at u1; omega
      have c2' : rd m (71 + 2 * t.toNat) 0 ≠ 0 := by unfold shH at w1; omega
      by_cases c3 : 0 ≤ rd m 119 s
      · have c3' : rd m (71 + 2 * s.toNat) 0 ≠ 2 := by unfold shH at u1; omega
        refine no (-12) ?_ ?_
        · unfold F10_shift; rw [F10_isShelf_e, F10_isShelf_e]; simp (disch := omega) only [gd_t, stw_v, cpw_v, jn_v, b1_v, b2_v, w32_id, rd_wr_s, rd_wr_k, rd_wr_i, bz_0, bz_n, if_pos, if_neg, if_true, if_false, ne_eq, not_true_eq_false, not_false_eq_true]
        · unfold F11_shift; rw [F11_isShelf_e, F11_isShelf_e]; simp (disch := omega) only [gd_t, stw_v, cpw_v, jn_v, b1_v, b2_v, w32_id, rd_wr_s, rd_wr_k, rd_wr_i, bz_0, bz_n, if_pos, if_neg, if_true, if_false, ne_eq, not_true_eq_false, not_false_eq_true]
      have c3' : rd m (71 + 2 * s.toNat) 0 = 2 := by unfold shH at u1; omega
      by_cases c4 : rd m 119 s = rd m 119 t
      · have c4' : rd m (71 + 2 * t.toNat) 0 = 2 := by unfold shH at w1 u1; omega
        have c5' : rd m (71 + 2 * s.toNat) 2 = rd m (71 + 2 * t.toNat) 2 := by unfold shH at w1 u1; omega
        by_cases d1 : 0 ≤ v ∧ 0 ≤ z ∧ v + z ≤ rd m 120 s
        · by_cases d2 : 0 ≤ w ∧ w + z ≤ rd m 120 t
          · obtain ⟨m1, hm1⟩ : ∃ m1, m1 = cpy m (71 + 2 * s.toNat + 1) v (71 + 2 * t.toNat + 1) w z := ⟨_, rfl⟩
            obtain ⟨q, hq⟩ : ∃ q, q = lcp m1 121 (60 * s + v + 0) 122 0 z := ⟨_, rfl⟩
            obtain ⟨m2, hm2⟩ : ∃ m2, m2 = lcp q 122 0 121 (60 * t + w + 0) (60 * t + w + z) := ⟨_, rfl⟩
            have q1 : ∀ k i, k ≠ 71 + 2 * t.toNat + 1 → m1 k i = m k i := fun k i x => by rw [hm1, cpy_ki x]
            have g : ∀ k i, ¬ ((k = 71 + 2 * t.toNat + 1) ∨ k = 122 ∨ (k = 121 ∧ 60 * t + w ≤ i ∧ i < 60 * t + w + z)) → m2 k i = m k i := by
              intro k i x
              rw [hm2, lcp_o (by omega), hq, lcp_o (by omega), q1 _ _ (by omega)]
            have r0 : ∀ i, rd m1 (71 + 2 * s.toNat) i = rd m (71 + 2 * s.toNat) i := fun i => rd_eq (q1 _ _ (by omega))
            have r119 : ∀ i, rd m1 119 i = rd m 119 i := fun i => rd_eq (q1 _ _ (by omega))
            have r120 : ∀ i, rd m1 120 i = rd m 120 i := fun i => rd_eq (q1 _ _ (by omega))
            refine ⟨z, m1, m2, ?_, ?_, ?_⟩
            · show F10_shift m s v t w z = _
              unfold F10_shift
              rw [F10_isShelf_e, F10_isShelf_e, F6_hasPlaces_e _ _ _ _ hv hz, F6_hasPlaces_e _ _ _ _ hw hz, u2, w2]
              simp (disch := omega) only [gd_t, stw_v, cpw_v, jn_v, b1_v, b2_v, w32_id, rd_wr_s, rd_wr_k, rd_wr_i, bz_0, bz_n, if_pos, if_neg, if_true, if_false, ne_eq, not_true_eq_false, not_false_eq_true]
              rw [hm1]
            · show F11_shift m1 s v t w z = _
              unfold F11_shift
              rw [F11_isShelf_e, F11_isShelf_e, r119, r119, r120, r120]
              simp (disch := omega) only [gd_t, stw_v, cpw_v, jn_v, b1_v, b2_v, w32_id, rd_wr_s, rd_wr_k, rd_wr_i, bz_0, bz_n, if_pos, if_neg, if_true, if_false, ne_eq, not_true_eq_false, not_false_eq_true]
              rw [L_shA a.1 a.2 d1.1 (by omega) d1.2.1 z.toNat FU 0 m1 (by omega) (by rw [FU_eq]; omega) (by omega), ← hq, L_shB b.1 b.2 d2.1 (by omega) d1.2.1 z.toNat FU 0 q (by omega) (by rw [FU_eq]; omega) (by omega), ← hm2]
            · refine ⟨iCh_s ?_ h1, iCe_s ?_ h2, iTo_s ?_ h3, iLo_s ?_ h4, iHi_s ?_ h5, iTp_s ?_ h6, iPa_s ?_ h7, ?_, iLi_s ?_ h9, ?_⟩
              · exact fun k i q => g k i (by unfold PCh at q; omega)
              · exact fun k i q => g k i (by unfold PCe at q; omega)
              · exact fun k i q => g k i (by unfold PTo at q; omega)
              · exact fun k i q => g k i (by unfold PLo at q; omega)
              · exact fun k i q => g k i (by unfold PHi at q; omega)
              · exact fun k i q => g k i (by unfold PTp at q; omega)
              · exact fun k i q => g k i (by unfold PPa at q; omega)
              · refine ⟨fun t' x y => ?_, fun t' j x y u w' => ?_⟩
                · have f : ∀ i, rd m2 (71 + 2 * t'.toNat) i = rd m (71 + 2 * t'.toNat) i := fun i => rd_eq (g _ _ (by omega))
                  have e119 : rd m2 119 t' = rd m 119 t' := rd_eq (g _ _ (by omega))
                  have e120 : rd m2 120 t' = rd m 120 t' := rd_eq (g _ _ (by omega))
                  have e66 : rd m2 66 0 = rd m 66 0 := rd_eq (g _ _ (by omega))
                  unfold shH
                  rw [f, f, f, f, e119, e120, e66]
                  exact h8.1 t' x y
                · by_cases e : t' = t ∧ w ≤ j ∧ j < w + z
                  · obtain ⟨rfl, e1, e2⟩ := e
                    have x1 : rl m2 (71 + 2 * t'.toNat + 1) j = rl m (71 + 2 * s.toNat + 1) (v + (j - w)) := by
                      show w64 (m2 (71 + 2 * t'.toNat + 1) j) = w64 (m (71 + 2 * s.toNat + 1) (v + (j - w)))
                      rw [hm2, lcp_o (by omega), hq, lcp_o (by omega), hm1]
                      unfold cpy
                      rw [if_pos ⟨rfl, by omega, by omega⟩]
                    have x2 : rl m2 121 (60 * t' + j) = rl m 121 (60 * s + (v + (j - w))) := by
                      rw [hm2, rl_lcp (by omega) (by omega), hq, rl_lcp (by omega) (by omega)]
                      rw [rl_eq (q1 121 _ (by omega))]
                      congr 1; omega
                    rw [x1, x2]
                    exact h8.2 s _ a.1 a.2 (by omega) (by omega)
                  · have x1 : rl m2 (71 + 2 * t'.toNat + 1) j = rl m (71 + 2 * t'.toNat + 1) j := by
                      apply rl_eq
                      rw [hm2, lcp_o (by omega), hq, lcp_o (by omega), hm1]
                      unfold cpy
                      rw [if_neg (by omega)]
                    have x2 : rl m2 121 (60 * t' + j) = rl m 121 (60 * t' + j) := rl_eq (g _ _ (by omega))
                    rw [x1, x2]
                    exact h8.2 t' j x y u w'
              · exact fun k i q => g k i (by unfold PLi at q; omega)
              · have := iBt_s (n := n) (m := m) (m' := m2) (by exact fun k i q => g k i (by unfold PBt at q; omega)) h10
                obtain ⟨x1, x2, x3, x4, x5, x6, x7⟩ := this
                exact ⟨x1, x2, x3, by omega, x5, x6, x7⟩
          · refine no (-13) ?_ ?_
            · unfold F10_shift
              rw [F10_isShelf_e, F10_isShelf_e, F6_hasPlaces_e _ _ _ _ hv hz, F6_hasPlaces_e _ _ _ _ hw hz, u2, w2]
              simp (disch := omega) only [gd_t, stw_v, cpw_v, jn_v, b1_v, b2_v, w32_id, rd_wr_s, rd_wr_k, rd_wr_i, bz_0, bz_n, if_pos, if_neg, if_true, if_false, ne_eq, not_true_eq_false, not_false_eq_true]
            · unfold F11_shift
              rw [F11_isShelf_e, F11_isShelf_e]
              by_cases d3 : w < 0
              · simp (disch := omega) only [gd_t, stw_v, cpw_v, jn_v, b1_v, b2_v, w32_id, rd_wr_s, rd_wr_k, rd_wr_i, bz_0, bz_n, if_pos, if_neg, if_true, if_false, ne_eq, not_true_eq_false, not_false_eq_true]
              · simp (disch := omega) only [gd_t, stw_v, cpw_v, jn_v, b1_v, b2_v, w32_id, rd_wr_s, rd_wr_k, rd_wr_i, bz_0, bz_n, if_pos, if_neg, if_true, if_false, ne_eq, not_true_eq_false, not_false_eq_true]
        · refine no (-13) ?_ ?_
          · unfold F10_shift
            rw [F10_isShelf_e, F10_isShelf_e, F6_hasPlaces_e _ _ _ _ hv hz, F6_hasPlaces_e _ _ _ _ hw hz, u2, w2]
            simp (disch := omega) only [gd_t, stw_v, cpw_v, jn_v, b1_v, b2_v, w32_id, rd_wr_s, rd_wr_k, rd_wr_i, bz_0, bz_n, if_pos, if_neg, if_true, if_false, ne_eq, not_true_eq_false, not_false_eq_true]
          · unfold F11_shift
            rw [F11_isShelf_e, F11_isShelf_e]
            by_cases d3 : z < 0
            · simp (disch := omega) only [gd_t, stw_v, cpw_v, jn_v, b1_v, b2_v, w32_id, rd_wr_s, rd_wr_k, rd_wr_i, bz_0, bz_n, if_pos, if_neg, if_true, if_false, ne_eq, not_true_eq_false, not_false_eq_true]
            · by_cases d4 : v < 0
              · simp (disch := omega) only [gd_t, stw_v, cpw_v, jn_v, b1_v, b2_v, w32_id, rd_wr_s, rd_wr_k, rd_wr_i, bz_0, bz_n, if_pos, if_neg, if_true, if_false, ne_eq, not_true_eq_false, not_false_eq_true]
              · by_cases d5 : w < 0
                · simp (disch := omega) only [gd_t, stw_v, cpw_v, jn_v, b1_v, b2_v, w32_id, rd_wr_s, rd_wr_k, rd_wr_i, bz_0, bz_n, if_pos, if_neg, if_true, if_false, ne_eq, not_true_eq_false, not_false_eq_true]
                · simp (disch := omega) only [gd_t, stw_v, cpw_v, jn_v, b1_v, b2_v, w32_id, rd_wr_s, rd_wr_k, rd_wr_i, bz_0, bz_n, if_pos, if_neg, if_true, if_false, ne_eq, not_true_eq_false, not_false_eq_true]
      · refine no (-12) ?_ ?_
        · unfold F10_shift; rw [F10_isShelf_e, F10_isShelf_e]
          by_cases c6 : rd m (71 + 2 * t.toNat) 0 = 2
          · have c5' : rd m (71 + 2 * s.toNat) 2 ≠ rd m (71 + 2 * t.toNat) 2 := by unfold shH at w1 u1; omega
            simp (disch := omega) only [gd_t, stw_v, cpw_v, jn_v, b1_v, b2_v, w32_id, rd_wr_s, rd_wr_k, rd_wr_i, bz_0, bz_n, if_pos, if_neg, if_true, if_false, ne_eq, not_true_eq_false, not_false_eq_true]
          · simp (disch := omega) only [gd_t, stw_v, cpw_v, jn_v, b1_v, b2_v, w32_id, rd_wr_s, rd_wr_k, rd_wr_i, bz_0, bz_n, if_pos, if_neg, if_true, if_false, ne_eq, not_true_eq_false, not_false_eq_true]
        · unfold F11_shift; rw [F11_isShelf_e, F11_isShelf_e]; simp (disch := omega) only [gd_t, stw_v, cpw_v, jn_v, b1_v, b2_v, w32_id, rd_wr_s, rd_wr_k, rd_wr_i, bz_0, bz_n, if_pos, if_neg, if_true, if_false, ne_eq, not_true_eq_false, not_false_eq_true]
    · refine no (-1) ?_ ?_
      · unfold F10_shift; rw [F10_isShelf_e, F10_isShelf_e]; simp (disch := omega) only [gd_t, stw_v, cpw_v, jn_v, b1_v, b2_v, w32_id, rd_wr_s, rd_wr_k, rd_wr_i, bz_0, bz_n, if_pos, if_neg, if_true, if_false, ne_eq, not_true_eq_false, not_false_eq_true]
      · unfold F11_shift; rw [F11_isShelf_e, F11_isShelf_e]; simp (disch := omega) only [gd_t, stw_v, cpw_v, jn_v, b1_v, b2_v, w32_id, rd_wr_s, rd_wr_k, rd_wr_i, bz_0, bz_n, if_pos, if_neg, if_true, if_false, ne_eq, not_true_eq_false, not_false_eq_true]
  · refine no (-1) ?_ ?_
    · unfold F10_shift; rw [F10_isShelf_e]; simp (disch := omega) only [gd_t, stw_v, cpw_v, jn_v, b1_v, b2_v, w32_id, rd_wr_s, rd_wr_k, rd_wr_i, bz_0, bz_n, if_pos, if_neg, if_true, if_false, ne_eq, not_true_eq_false, not_false_eq_true]
    · unfold F11_shift; rw [F11_isShelf_e]; simp (disch := omega) only [gd_t, stw_v, cpw_v, jn_v, b1_v, b2_v, w32_id, rd_wr_s, rd_wr_k, rd_wr_i, bz_0, bz_n, if_pos, if_neg, if_true, if_false, ne_eq, not_true_eq_false, not_false_eq_true]
