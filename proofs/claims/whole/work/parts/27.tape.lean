/-! the tape: bytes fed -/
theorem i8_i8 (x : Int) : i8 (i8 x) = i8 x := by
  unfold i8; rw [Int32.ofInt_toInt, Int8.toInt8_toInt32]
theorem i8_in (x : Int) : -128 ≤ i8 x ∧ i8 x < 128 := by
  unfold i8
  have h1 := Int8.minValue_le_toInt (Int32.ofInt x).toInt8
  have h2 := Int8.toInt_lt (Int32.ofInt x).toInt8
  have h3 := Int8.le_toInt (Int32.ofInt x).toInt8
  rw [Int8.toInt_toInt32]
  omega
theorem band_255 (x : Int) : 0 ≤ band x 255 ∧ band x 255 ≤ 255 := by
  unfold band
  have e : (Int32.ofInt x &&& Int32.ofInt 255).toInt = (Int32.ofInt x &&& Int32.ofInt 255).toBitVec.toInt := rfl
  have h : (Int32.ofInt x &&& Int32.ofInt 255).toBitVec.toNat ≤ 255 := by
    have : (Int32.ofInt x &&& Int32.ofInt 255).toBitVec = (Int32.ofInt x).toBitVec &&& 255#32 := rfl
    rw [this, BitVec.toNat_and]
    exact Nat.and_le_right
  rw [e, BitVec.toInt_eq_toNat_of_lt (by omega)]
  omega
theorem i8_band (x : Int) : i8 (band x 255) = i8 x := by
  unfold i8 band
  rw [Int32.ofInt_toInt]
  have : (Int32.ofInt x &&& Int32.ofInt 255).toInt8 = (Int32.ofInt x).toInt8 := by
    rw [Int32.toInt8_and]
    show (Int32.ofInt x).toInt8 &&& (-1) = _
    exact Int8.and_neg_one
  rw [this]
theorem L8_take {v1 v2 : Int} {kk : Mem → Option (Int × Mem)} (hv : v1 ≤ 4) : ∀ (d n : Nat) (j : Int) (m : Mem), j + d = v1 → d < n → 0 ≤ j → 0 ≤ rd m 1 1 → rd m 1 1 + d ≤ 120 →
    ∃ m', L8_take_16 v1 v2 kk n j m = kk m' ∧ (∀ k i, ¬ (k = 1 ∧ i = 1) → k ≠ 2 → m' k i = m k i) ∧ rd m' 1 1 = rd m 1 1 + d ∧ (∀ i, i < rd m 1 1 → m' 2 i = m 2 i) ∧
      ∀ i, 0 ≤ i → i < (d : Int) → rd m' 2 (rd m 1 1 + i) = band (shr v2 (w32 (8 * (j + i)))) 255 := by
  intro d
  induction d with
  | zero =>
    intro n j m h0 h1 h2 h3 h4
    obtain ⟨n, rfl⟩ : ∃ i, n = i + 1 := ⟨n - 1, by omega⟩
    rw [L8_take_16]
    refine ⟨m, by rw [if_pos (by omega)], fun _ _ _ _ => rfl, by omega, fun _ _ => rfl, fun i x y => by omega⟩
  | succ d ih =>
    intro n j m h0 h1 h2 h3 h4
    obtain ⟨n, rfl⟩ : ∃ i, n = i + 1 := ⟨n - 1, by omega⟩
    rw [L8_take_16]
    obtain ⟨q, hq⟩ : ∃ q, q = wr (wr m 2 (rd m 1 1) (band (shr v2 (w32 (8 * j))) 255)) 1 1 (rd m 1 1 + 1) := ⟨_, rfl⟩
    have q1 : rd q 1 1 = rd m 1 1 + 1 := by rw [hq]; simp (disch := omega) only [gd_t, stw_v, cpw_v, jn_v, b1_v, b2_v, w32_id, rd_wr_s, rd_wr_k, rd_wr_i, bz_0, bz_n, if_pos, if_neg, if_true, if_false, ne_eq, not_true_eq_false, not_false_eq_true]
    obtain ⟨m', a1, a2, a3, a4, a5⟩ := ih n (j + 1) q (by omega) (by omega) (by omega) (by omega) (by omega)
    refine ⟨m', ?_, ?_, by omega, ?_, ?_⟩
    · rw [w32_id (x := 8 * j) (by omega) (by omega)] at hq
      simp (disch := omega) only [gd_t, stw_v, cpw_v, jn_v, b1_v, b2_v, w32_id, rd_wr_s, rd_wr_k, rd_wr_i, bz_0, bz_n, if_pos, if_neg, if_true, if_false, ne_eq, not_true_eq_false, not_false_eq_true]
      rw [← hq]; exact a1
    · intro k i x y
      rw [a2 k i x y, hq, wr_ki x, wr_ka y]
    · intro i x
      rw [a4 i (by omega), hq, wr_ki (by omega), wr_ki (by omega)]
    · intro i x y
      by_cases z : i = 0
      · have : rd m' 2 (rd m 1 1) = rd q 2 (rd m 1 1) := rd_eq (a4 _ (by omega))
        rw [z, Int.add_zero, Int.add_zero, this, hq, rd_wr_k (by omega), rd_wr_s]
        have := band_255 (shr v2 (w32 (8 * j)))
        rw [w32_id (by omega) (by omega)]
      · have := a5 (i - 1) (by omega) (by omega)
        rw [q1, show rd m 1 1 + 1 + (i - 1) = rd m 1 1 + i by omega, show j + 1 + (i - 1) = j + i by omega] at this
        exact this
theorem L11_feed {v1 v2 : Int} {kk : Mem → Option (Int × Mem)} (hv : v1 ≤ 4) : ∀ (d n : Nat) (j : Int) (m : Mem), j + d = v1 → d < n → 0 ≤ j → 0 ≤ rd m 83 10 → rd m 83 10 + d ≤ 120 →
    ∃ m', L11_feed_27 v1 v2 kk n j m = kk m' ∧ (∀ k i, ¬ (k = 83 ∧ i = 10) → k ≠ 91 → m' k i = m k i) ∧ rd m' 83 10 = rd m 83 10 + d ∧ (∀ i, i < rd m 83 10 → m' 91 i = m 91 i) ∧
      ∀ i, 0 ≤ i → i < (d : Int) → rd m' 91 (rd m 83 10 + i) = i8 (shr v2 (w32 (8 * (j + i)))) := by
  intro d
  induction d with
  | zero =>
    intro n j m h0 h1 h2 h3 h4
    obtain ⟨n, rfl⟩ : ∃ i, n = i + 1 := ⟨n - 1, by omega⟩
    rw [L11_feed_27]
    refine ⟨m, by rw [if_pos (by omega)], fun _ _ _ _ => rfl, by omega, fun _ _ => rfl, fun i x y => by omega⟩
  | succ d ih =>
    intro n j m h0 h1 h2 h3 h4
    obtain ⟨n, rfl⟩ : ∃ i, n = i + 1 := ⟨n - 1, by omega⟩
    rw [L11_feed_27]
    obtain ⟨q, hq⟩ : ∃ q, q = wr (wr m 91 (rd m 83 10) (i8 (i8 (shr v2 (w32 (8 * j)))))) 83 10 (rd m 83 10 + 1) := ⟨_, rfl⟩
    have q1 : rd q 83 10 = rd m 83 10 + 1 := by rw [hq]; simp (disch := omega) only [gd_t, stw_v, cpw_v, jn_v, b1_v, b2_v, w32_id, rd_wr_s, rd_wr_k, rd_wr_i, bz_0, bz_n, if_pos, if_neg, if_true, if_false, ne_eq, not_true_eq_false, not_false_eq_true]
    obtain ⟨m', a1, a2, a3, a4, a5⟩ := ih n (j + 1) q (by omega) (by omega) (by omega) (by omega) (by omega)
    refine ⟨m', ?_, ?_, by omega, ?_, ?_⟩
    · rw [w32_id (x := 8 * j) (by omega) (by omega)] at hq
      simp (disch := omega) only [gd_t, stw_v, cpw_v, jn_v, b1_v, b2_v, w32_id, rd_wr_s, rd_wr_k, rd_wr_i, bz_0, bz_n, if_pos, if_neg, if_true, if_false, ne_eq, not_true_eq_false, not_false_eq_true]
      rw [← hq]; exact a1
    · intro k i x y
      rw [a2 k i x y, hq, wr_ki x, wr_ka y]
    · intro i x
      rw [a4 i (by omega), hq, wr_ki (by omega), wr_ki (by omega)]
    · intro i x y
      by_cases z : i = 0
      · have : rd m' 91 (rd m 83 10) = rd q 91 (rd m 83 10) := rd_eq (a4 _ (by omega))
        rw [z, Int.add_zero, Int.add_zero, this, hq, rd_wr_k (by omega), rd_wr_s, i8_i8]
        have := i8_in (shr v2 (w32 (8 * j)))
        rw [w32_id (by omega) (by omega)]
      · have := a5 (i - 1) (by omega) (by omega)
        rw [q1, show rd m 83 10 + 1 + (i - 1) = rd m 83 10 + i by omega, show j + 1 + (i - 1) = j + i by omega] at this
        exact this
theorem st_feed {n : Nat} {m : Mem} (v w : Int) (hI : Inv n m) : Sq n (fun m => F10_feed m v w) (fun m => F11_feed m v w) m := by
  have hI' := hI
  obtain ⟨h1, h2, h3, h4, h5, ⟨t1, t2, t3, t4⟩, h7, h8, h9, h10⟩ := hI
  by_cases a : 1 ≤ v ∧ v ≤ 4
  · by_cases b : rd m 1 1 + v ≤ 120
    · obtain ⟨m1, a1, a2, a3, a4, a5⟩ := L8_take (v1 := v) (v2 := w) (kk := fun m => some (rd m 1 1, m)) a.2 v.toNat FU 0 m (by omega) (by rw [FU_eq]; omega) (by omega) (by omega) (by omega)
      have q : rd m1 83 10 = rd m 1 1 := by rw [rd_eq (a2 83 10 (by omega) (by omega))]; exact t3
      obtain ⟨m2, b1, b2, b3, b4, b5⟩ := L11_feed (v1 := v) (v2 := w) (kk := fun m => some (rd m 83 10, m)) a.2 v.toNat FU 0 m1 (by omega) (by rw [FU_eq]; omega) (by omega) (by omega) (by omega)
      have g : ∀ k i, ¬ (k = 83 ∧ i = 10) → k ≠ 91 → ¬ (k = 1 ∧ i = 1) → k ≠ 2 → m2 k i = m k i := fun k i x y z w => (b2 k i x y).trans (a2 k i z w)
      refine ⟨rd m 1 1 + v, m1, m2, ?_, ?_, ?_⟩
      · show F10_feed m v w = _
        unfold F10_feed F8_take
        simp (disch := omega) only [gd_t, stw_v, cpw_v, jn_v, b1_v, b2_v, w32_id, rd_wr_s, rd_wr_k, rd_wr_i, bz_0, bz_n, if_pos, if_neg, if_true, if_false, ne_eq, not_true_eq_false, not_false_eq_true]
        rw [a1, b2_v, a3, show rd m 1 1 + (v.toNat : Int) = rd m 1 1 + v by omega]
      · show F11_feed m1 v w = _
        unfold F11_feed
        rw [F11_in_e, q]
        simp (disch := omega) only [gd_t, stw_v, cpw_v, jn_v, b1_v, b2_v, w32_id, rd_wr_s, rd_wr_k, rd_wr_i, bz_0, bz_n, if_pos, if_neg, if_true, if_false, ne_eq, not_true_eq_false, not_false_eq_true]
        rw [b1, b3, q, show rd m 1 1 + (v.toNat : Int) = rd m 1 1 + v by omega]
      · refine ⟨iCh_s ?_ h1, iCe_s ?_ h2, iTo_s ?_ h3, iLo_s ?_ h4, iHi_s ?_ h5, ?_, iPa_s ?_ h7, iSh_s ?_ h8, iLi_s ?_ h9, ?_⟩
        · exact fun k i q => g k i (by unfold PCh at q; omega) (by unfold PCh at q; omega) (by unfold PCh at q; omega) (by unfold PCh at q; omega)
        · exact fun k i q => g k i (by unfold PCe at q; omega) (by unfold PCe at q; omega) (by unfold PCe at q; omega) (by unfold PCe at q; omega)
        · exact fun k i q => g k i (by unfold PTo at q; omega) (by unfold PTo at q; omega) (by unfold PTo at q; omega) (by unfold PTo at q; omega)
        · exact fun k i q => g k i (by unfold PLo at q; omega) (by unfold PLo at q; omega) (by unfold PLo at q; omega) (by unfold PLo at q; omega)
        · exact fun k i q => g k i (by unfold PHi at q; omega) (by unfold PHi at q; omega) (by unfold PHi at q; omega) (by unfold PHi at q; omega)
        · have e1 : rd m2 1 1 = rd m 1 1 + v := by rw [rd_eq (b2 1 1 (by omega) (by omega)), a3]; omega
          have e2 : rd m2 83 10 = rd m 1 1 + v := by rw [b3, q]; omega
          unfold iTp
          rw [e1, e2]
          refine ⟨by omega, by omega, rfl, fun i x y => ?_⟩
          have e3 : rd m2 2 i = rd m1 2 i := rd_eq (b2 2 i (by omega) (by omega))
          rw [e3]
          by_cases z : i < rd m 1 1
          · have e4 : rd m1 2 i = rd m 2 i := rd_eq (a4 i z)
            have e5 : rd m2 91 i = rd m 91 i := by rw [rd_eq (b4 i (by omega)), rd_eq (a2 91 i (by omega) (by omega))]
            rw [e4, e5]; exact t4 i x z
          · have e4 := a5 (i - rd m 1 1) (by omega) (by omega)
            have e5 := b5 (i - rd m 1 1) (by omega) (by omega)
            rw [q] at e5
            rw [show rd m 1 1 + (i - rd m 1 1) = i by omega] at e4 e5
            rw [e4, e5, i8_band]
            have := band_255 (shr w (w32 (8 * (0 + (i - rd m 1 1)))))
            exact ⟨this.1, this.2, rfl⟩
        · exact fun k i q => g k i (by unfold PPa at q; omega) (by unfold PPa at q; omega) (by unfold PPa at q; omega) (by unfold PPa at q; omega)
        · exact fun k i q => g k i (by unfold PSh at q; omega) (by unfold PSh at q; omega) (by unfold PSh at q; omega) (by unfold PSh at q; omega)
        · exact fun k i q => g k i (by unfold PLi at q; omega) (by unfold PLi at q; omega) (by unfold PLi at q; omega) (by unfold PLi at q; omega)
        · have := iBt_s (n := n) (m := m) (m' := m2) (fun k i q => g k i (by unfold PBt at q; omega) (by unfold PBt at q; omega) (by unfold PBt at q; omega) (by unfold PBt at q; omega)) h10
          obtain ⟨x1, x2, x3, x4, x5, x6, x7⟩ := this
          exact ⟨x1, x2, x3, by omega, x5, x6, x7⟩
    · refine Sq_ro (r := -3) hI' ?_ ?_
      · show F10_feed m v w = _
        unfold F10_feed F8_take
        simp (disch := omega) only [gd_t, stw_v, cpw_v, jn_v, b1_v, b2_v, w32_id, rd_wr_s, rd_wr_k, rd_wr_i, bz_0, bz_n, if_pos, if_neg, if_true, if_false, ne_eq, not_true_eq_false, not_false_eq_true]
      · show F11_feed m v w = _
        unfold F11_feed
        rw [F11_in_e, t3]
        simp (disch := omega) only [gd_t, stw_v, cpw_v, jn_v, b1_v, b2_v, w32_id, rd_wr_s, rd_wr_k, rd_wr_i, bz_0, bz_n, if_pos, if_neg, if_true, if_false, ne_eq, not_true_eq_false, not_false_eq_true]
  · refine Sq_ro (r := -1) hI' ?_ ?_
    · show F10_feed m v w = _
      unfold F10_feed
      by_cases c : v < 1
      · simp (disch := omega) only [gd_t, stw_v, cpw_v, jn_v, b1_v, b2_v, w32_id, rd_wr_s, rd_wr_k, rd_wr_i, bz_0, bz_n, if_pos, if_neg, if_true, if_false, ne_eq, not_true_eq_false, not_false_eq_true]
      · simp (disch := omega) only [gd_t, stw_v, cpw_v, jn_v, b1_v, b2_v, w32_id, rd_wr_s, rd_wr_k, rd_wr_i, bz_0, bz_n, if_pos, if_neg, if_true, if_false, ne_eq, not_true_eq_false, not_false_eq_true]
    · show F11_feed m v w = _
      unfold F11_feed
      rw [F11_in_e]
      simp (disch := omega) only [gd_t, stw_v, cpw_v, jn_v, b1_v, b2_v, w32_id, rd_wr_s, rd_wr_k, rd_wr_i, bz_0, bz_n, if_pos, if_neg, if_true, if_false, ne_eq, not_true_eq_false, not_false_eq_true]
