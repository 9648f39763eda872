/-! rows: places filled, places copied -/
def fil (m : Mem) (k : Nat) (j e v : Int) : Mem := fun k' i => if k' = k ∧ j ≤ i ∧ i < e then v else m k' i
theorem fil_0 {m : Mem} {k : Nat} {j e v : Int} (h : e ≤ j) : fil m k j e v = m := by
  funext k' i; unfold fil; rw [if_neg (by omega)]
theorem fil_s {m : Mem} {k : Nat} {j e v : Int} (h : j < e) : fil (wr m k j v) k (j + 1) e v = fil m k j e v := by
  funext k' i; unfold fil wr
  by_cases a : k' = k ∧ j ≤ i ∧ i < e
  · rw [if_pos a]
    by_cases b : i = j
    · rw [if_neg (by omega), if_pos ⟨a.1, b⟩]
    · rw [if_pos (by omega)]
  · rw [if_neg a, if_neg (by omega), if_neg (by omega)]
theorem fil_k {m : Mem} {k k' : Nat} {j e v i : Int} (h : k' ≠ k) : fil m k j e v k' i = m k' i := if_neg (by omega)
theorem fil_o {m : Mem} {k k' : Nat} {j e v i : Int} (h : ¬ (k' = k ∧ j ≤ i ∧ i < e)) : fil m k j e v k' i = m k' i := if_neg h
theorem fil_i {m : Mem} {k : Nat} {j e v i : Int} (h : j ≤ i) (h' : i < e) : fil m k j e v k i = v := if_pos ⟨rfl, h, h'⟩
theorem L_fillJ {a0 len : Nat} {v1 v3 : Int} (h3 : v3 ≤ len) (hl : len < 1000) : ∀ (d n : Nat) (j : Int) (m : Mem), j + d = v3 → d < n → 0 ≤ j → LJ7_fill_d0a16_6 a0 len v1 v3 n j m = some (fil m a0 j v3 v1) := by
  intro d
  induction d with
  | zero =>
    intro n j m h0 h1 h2
    obtain ⟨n, rfl⟩ : ∃ i, n = i + 1 := ⟨n - 1, by omega⟩
    rw [LJ7_fill_d0a16_6, if_pos (by omega), fil_0 (by omega)]
  | succ d ih =>
    intro n j m h0 h1 h2
    obtain ⟨n, rfl⟩ : ∃ i, n = i + 1 := ⟨n - 1, by omega⟩
    rw [LJ7_fill_d0a16_6]
    simp (disch := omega) only [gd_t, stw_v, cpw_v, jn_v, b1_v, b2_v, w32_id, rd_wr_s, rd_wr_k, rd_wr_i, bz_0, bz_n, if_pos, if_neg, if_true, if_false, ne_eq, not_true_eq_false, not_false_eq_true]
    rw [ih n (j + 1) _ (by omega) (by omega) (by omega), fil_s (by omega)]
theorem L_fillI {a0 len : Nat} {v1 v3 : Int} (h3 : v3 ≤ len) (hl : len < 1000) : ∀ (d n : Nat) (j : Int) (m : Mem), j + d = v3 → d < n → 0 ≤ j → LJ7_fill_53178_5 a0 len v1 v3 n j m = some (fil m a0 j v3 v1) := by
  intro d
  induction d with
  | zero =>
    intro n j m h0 h1 h2
    obtain ⟨n, rfl⟩ : ∃ i, n = i + 1 := ⟨n - 1, by omega⟩
    rw [LJ7_fill_53178_5, if_pos (by omega), fil_0 (by omega)]
  | succ d ih =>
    intro n j m h0 h1 h2
    obtain ⟨n, rfl⟩ : ∃ i, n = i + 1 := ⟨n - 1, by omega⟩
    rw [LJ7_fill_53178_5]
    simp (disch := omega) only [gd_t, stw_v, cpw_v, jn_v, b1_v, b2_v, w32_id, rd_wr_s, rd_wr_k, rd_wr_i, bz_0, bz_n, if_pos, if_neg, if_true, if_false, ne_eq, not_true_eq_false, not_false_eq_true]
    rw [ih n (j + 1) _ (by omega) (by omega) (by omega), fil_s (by omega)]
theorem fillJ_e {a0 len : Nat} {v : Int} (m : Mem) (hl : len < 1000) : FJ7_fill_d0a16 m a0 len v = some (fil m a0 0 len v) := by
  unfold FJ7_fill_d0a16
  exact L_fillJ (Int.le_refl _) hl len FU 0 m (by omega) (by rw [FU_eq]; omega) (by omega)
theorem fillI_e {a0 len : Nat} {v : Int} (m : Mem) (hl : len < 1000) : FJ7_fill_53178 m a0 len v = some (fil m a0 0 len v) := by
  unfold FJ7_fill_53178
  exact L_fillI (Int.le_refl _) hl len FU 0 m (by omega) (by rw [FU_eq]; omega) (by omega)
theorem L_row {s : Int} (h0 : 0 ≤ s) (h1 : s < 6) : ∀ (d n : Nat) (j : Int) (m : Mem), j + d = 60 * s + 60 → d < n → 0 ≤ j → L11_row_54 s n j m = some (1, fil m 121 j (60 * s + 60) 0) := by
  intro d
  induction d with
  | zero =>
    intro n j m h0 h1 h2
    obtain ⟨n, rfl⟩ : ∃ i, n = i + 1 := ⟨n - 1, by omega⟩
    rw [L11_row_54]
    simp (disch := omega) only [gd_t, stw_v, cpw_v, jn_v, b1_v, b2_v, w32_id, rd_wr_s, rd_wr_k, rd_wr_i, bz_0, bz_n, if_pos, if_neg, if_true, if_false, ne_eq, not_true_eq_false, not_false_eq_true]
    rw [fil_0 (by omega)]
  | succ d ih =>
    intro n j m h0 h1 h2
    obtain ⟨n, rfl⟩ : ∃ i, n = i + 1 := ⟨n - 1, by omega⟩
    rw [L11_row_54]
    simp (disch := omega) only [gd_t, stw_v, cpw_v, jn_v, b1_v, b2_v, w32_id, rd_wr_s, rd_wr_k, rd_wr_i, bz_0, bz_n, if_pos, if_neg, if_true, if_false, ne_eq, not_true_eq_false, not_false_eq_true]
    rw [ih n (j + 1) _ (by omega) (by omega) (by omega), fil_s (by omega)]
theorem st_row {n : Nat} {m : Mem} (s o z : Int) (hI : Inv n m) : Sq n (fun m => F10_row m s o z) (fun m => F11_row m s o z) m := by
  have hI' := hI
  obtain ⟨h1, h2, h3, h4, h5, h6, h7, h8, h9, h10⟩ := hI
  by_cases a : 0 ≤ s ∧ s < 6
  · by_cases b : 0 ≤ o ∧ o ≤ 4
    · by_cases c : 0 ≤ z ∧ z ≤ 60
      · obtain ⟨m1, hm1⟩ : ∃ m1, m1 = fil (wr (wr (wr m (71 + 2 * s.toNat) 0 2) (71 + 2 * s.toNat) 2 o) (71 + 2 * s.toNat) 3 z) (71 + 2 * s.toNat + 1) 0 60 0 := ⟨_, rfl⟩
        obtain ⟨m2, hm2⟩ : ∃ m2, m2 = fil (wr (wr m1 119 s (-2 - o)) 120 s z) 121 (60 * s) (60 * s + 60) 0 := ⟨_, rfl⟩
        have g : ∀ k i, ¬ (k = 71 + 2 * s.toNat ∨ k = 71 + 2 * s.toNat + 1 ∨ (k = 119 ∧ i = s) ∨ (k = 120 ∧ i = s) ∨ (k = 121 ∧ 60 * s ≤ i ∧ i < 60 * s + 60)) → m2 k i = m k i := by
          intro k i q
          rw [hm2, fil_o (by omega), wr_ki (by omega), wr_ki (by omega), hm1, fil_k (by omega), wr_ki (by omega), wr_ki (by omega), wr_ki (by omega)]
        refine ⟨1, m1, m2, ?_, ?_, ?_⟩
        · show F10_row m s o z = _
          unfold F10_row F6_keepRow
          rw [F10_isShelf_e]
          simp (disch := omega) only [gd_t, stw_v, bz_0, if_neg, if_pos, fillJ_e _ (show (60 : Nat) < 1000 by omega), b1_v]
          rw [hm1]; rfl
        · show F11_row m1 s o z = _
          unfold F11_row
          rw [F11_isShelf_e, F11_in_e]
          simp (disch := omega) only [gd_t, stw_v, cpw_v, jn_v, b1_v, b2_v, w32_id, rd_wr_s, rd_wr_k, rd_wr_i, bz_0, bz_n, if_pos, if_neg, if_true, if_false, ne_eq, not_true_eq_false, not_false_eq_true]
          rw [L_row a.1 a.2 60 FU (60 * s) _ (by omega) (by rw [FU_eq]; omega) (by omega), hm2]
        · refine ⟨iCh_s ?_ h1, iCe_s ?_ h2, iTo_s ?_ h3, iLo_s ?_ h4, iHi_s ?_ h5, iTp_s ?_ h6, iPa_s ?_ h7, ?_, iLi_s ?_ h9, ?_⟩
          · exact fun k i q => g k i (by unfold PCh at q; omega)
          · exact fun k i q => g k i (by unfold PCe at q; omega)
          · exact fun k i q => g k i (by unfold PTo at q; omega)
          · exact fun k i q => g k i (by unfold PLo at q; omega)
          · exact fun k i q => g k i (by unfold PHi at q; omega)
          · exact fun k i q => g k i (by unfold PTp at q; omega)
          · exact fun k i q => g k i (by unfold PPa at q; omega)
          · refine ⟨fun t x y => ?_, fun t j x y u w => ?_⟩
            · by_cases e : t = s
              · subst e
                have f : ∀ i, rd m2 (71 + 2 * t.toNat) i = rd m1 (71 + 2 * t.toNat) i := fun i => by
                  apply rd_eq; rw [hm2, fil_k (by omega), wr_ka (by omega), wr_ka (by omega)]
                have f' : ∀ i, rd m1 (71 + 2 * t.toNat) i = rd (wr (wr (wr m (71 + 2 * t.toNat) 0 2) (71 + 2 * t.toNat) 2 o) (71 + 2 * t.toNat) 3 z) (71 + 2 * t.toNat) i := fun i => by
                  apply rd_eq; rw [hm1, fil_k (by omega)]
                have e0 : rd m2 (71 + 2 * t.toNat) 0 = 2 := by rw [f, f']; simp (disch := omega) only [gd_t, stw_v, cpw_v, jn_v, b1_v, b2_v, w32_id, rd_wr_s, rd_wr_k, rd_wr_i, bz_0, bz_n, if_pos, if_neg, if_true, if_false, ne_eq, not_true_eq_false, not_false_eq_true]
                have e2 : rd m2 (71 + 2 * t.toNat) 2 = o := by rw [f, f']; simp (disch := omega) only [gd_t, stw_v, cpw_v, jn_v, b1_v, b2_v, w32_id, rd_wr_s, rd_wr_k, rd_wr_i, bz_0, bz_n, if_pos, if_neg, if_true, if_false, ne_eq, not_true_eq_false, not_false_eq_true]
                have e3 : rd m2 (71 + 2 * t.toNat) 3 = z := by rw [f, f']; simp (disch := omega) only [gd_t, stw_v, cpw_v, jn_v, b1_v, b2_v, w32_id, rd_wr_s, rd_wr_k, rd_wr_i, bz_0, bz_n, if_pos, if_neg, if_true, if_false, ne_eq, not_true_eq_false, not_false_eq_true]
                have e119 : rd m2 119 t = -2 - o := by
                  have : rd m2 119 t = rd (wr (wr m1 119 t (-2 - o)) 120 t z) 119 t := rd_eq (by rw [hm2, fil_k (by omega)])
                  rw [this]; simp (disch := omega) only [gd_t, stw_v, cpw_v, jn_v, b1_v, b2_v, w32_id, rd_wr_s, rd_wr_k, rd_wr_i, bz_0, bz_n, if_pos, if_neg, if_true, if_false, ne_eq, not_true_eq_false, not_false_eq_true]
                have e120 : rd m2 120 t = z := by
                  have : rd m2 120 t = rd (wr (wr m1 119 t (-2 - o)) 120 t z) 120 t := rd_eq (by rw [hm2, fil_k (by omega)])
                  rw [this]; simp (disch := omega) only [gd_t, stw_v, cpw_v, jn_v, b1_v, b2_v, w32_id, rd_wr_s, rd_wr_k, rd_wr_i, bz_0, bz_n, if_pos, if_neg, if_true, if_false, ne_eq, not_true_eq_false, not_false_eq_true]
                unfold shH
                rw [e0, e2, e3, e119, e120]
                omega
              · have f : ∀ i, rd m2 (71 + 2 * t.toNat) i = rd m (71 + 2 * t.toNat) i := fun i => rd_eq (g _ _ (by omega))
                have e119 : rd m2 119 t = rd m 119 t := rd_eq (g _ _ (by omega))
                have e120 : rd m2 120 t = rd m 120 t := rd_eq (g _ _ (by omega))
                have e66 : rd m2 66 0 = rd m 66 0 := rd_eq (g _ _ (by omega))
                unfold shH
                rw [f, f, f, f, e119, e120, e66]
                exact h8.1 t x y
            · by_cases e : t = s
              · subst e
                unfold rl
                have e1 : m2 (71 + 2 * t.toNat + 1) j = 0 := by
                  rw [hm2, fil_k (by omega), wr_ka (by omega), wr_ka (by omega), hm1, fil_i (by omega) (by omega)]
                have e2 : m2 121 (60 * t + j) = 0 := by rw [hm2, fil_i (by omega) (by omega)]
                rw [e1, e2]
              · have e1 : rl m2 (71 + 2 * t.toNat + 1) j = rl m (71 + 2 * t.toNat + 1) j := rl_eq (g _ _ (by omega))
                have e2 : rl m2 121 (60 * t + j) = rl m 121 (60 * t + j) := rl_eq (g _ _ (by omega))
                rw [e1, e2]
                exact h8.2 t j x y u w
          · exact fun k i q => g k i (by unfold PLi at q; omega)
          · have := iBt_s (n := n) (m := m) (m' := m2) (by exact fun k i q => g k i (by unfold PBt at q; omega)) h10
            obtain ⟨x1, x2, x3, x4, x5, x6, x7⟩ := this
            exact ⟨x1, x2, x3, by omega, x5, x6, x7⟩
      · by_cases d : z ≤ 60
        · refine Sq_ro (r := -14) hI' ?_ ?_
          · show F10_row m s o z = _
            unfold F10_row
            rw [F10_isShelf_e]
            simp (disch := omega) only [gd_t, stw_v, cpw_v, jn_v, b1_v, b2_v, w32_id, rd_wr_s, rd_wr_k, rd_wr_i, bz_0, bz_n, if_pos, if_neg, if_true, if_false, ne_eq, not_true_eq_false, not_false_eq_true]
          · show F11_row m s o z = _
            unfold F11_row
            rw [F11_isShelf_e, F11_in_e]
            simp (disch := omega) only [gd_t, stw_v, cpw_v, jn_v, b1_v, b2_v, w32_id, rd_wr_s, rd_wr_k, rd_wr_i, bz_0, bz_n, if_pos, if_neg, if_true, if_false, ne_eq, not_true_eq_false, not_false_eq_true]
        · refine Sq_ro (r := -1) hI' ?_ ?_
          · show F10_row m s o z = _
            unfold F10_row
            rw [F10_isShelf_e]
            simp (disch := omega) only [gd_t, stw_v, cpw_v, jn_v, b1_v, b2_v, w32_id, rd_wr_s, rd_wr_k, rd_wr_i, bz_0, bz_n, if_pos, if_neg, if_true, if_false, ne_eq, not_true_eq_false, not_false_eq_true]
          · show F11_row m s o z = _
            unfold F11_row
            rw [F11_isShelf_e, F11_in_e]
            simp (disch := omega) only [gd_t, stw_v, cpw_v, jn_v, b1_v, b2_v, w32_id, rd_wr_s, rd_wr_k, rd_wr_i, bz_0, bz_n, if_pos, if_neg, if_true, if_false, ne_eq, not_true_eq_false, not_false_eq_true]
    · refine Sq_ro (r := -1) hI' ?_ ?_
      · show F10_row m s o z = _
        unfold F10_row
        rw [F10_isShelf_e]
        by_cases d : o < 0
        · simp (disch := omega) only [gd_t, stw_v, cpw_v, jn_v, b1_v, b2_v, w32_id, rd_wr_s, rd_wr_k, rd_wr_i, bz_0, bz_n, if_pos, if_neg, if_true, if_false, ne_eq, not_true_eq_false, not_false_eq_true]
        · simp (disch := omega) only [gd_t, stw_v, cpw_v, jn_v, b1_v, b2_v, w32_id, rd_wr_s, rd_wr_k, rd_wr_i, bz_0, bz_n, if_pos, if_neg, if_true, if_false, ne_eq, not_true_eq_false, not_false_eq_true]
      · show F11_row m s o z = _
        unfold F11_row
        rw [F11_isShelf_e, F11_in_e]
        simp (disch := omega) only [gd_t, stw_v, cpw_v, jn_v, b1_v, b2_v, w32_id, rd_wr_s, rd_wr_k, rd_wr_i, bz_0, bz_n, if_pos, if_neg, if_true, if_false, ne_eq, not_true_eq_false, not_false_eq_true]
  · refine Sq_ro (r := -1) hI' ?_ ?_
    · show F10_row m s o z = _
      unfold F10_row
      rw [F10_isShelf_e]
      simp (disch := omega) only [gd_t, stw_v, cpw_v, jn_v, b1_v, b2_v, w32_id, rd_wr_s, rd_wr_k, rd_wr_i, bz_0, bz_n, if_pos, if_neg, if_true, if_false, ne_eq, not_true_eq_false, not_false_eq_true]
    · show F11_row m s o z = _
      unfold F11_row
      rw [F11_isShelf_e]
      simp (disch := omega) only [gd_t, stw_v, cpw_v, jn_v, b1_v, b2_v, w32_id, rd_wr_s, rd_wr_k, rd_wr_i, bz_0, bz_n, if_pos, if_neg, if_true, if_false, ne_eq, not_true_eq_false, not_false_eq_true]
