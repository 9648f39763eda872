/-! same, digest -/
theorem same_l {m : Mem} {c o w : Int} (hc : 0 ≤ c ∧ c < 12) (ho : 0 ≤ o ∧ o < 12) (hf : ∀ k, 0 ≤ k → k < 16 → rd m 9 (16 * c + k) = rd m 89 (16 * c + k)) (hg : ∀ k, 0 ≤ k → k < 16 → rd m 9 (16 * o + k) = rd m 89 (16 * o + k)) :
    ∀ (d n : Nat) (b k : Int), 0 ≤ k → k + d = 16 → d < n → ∃ r, L10_same_39 m c o w n b k = some r ∧ L11_same_33 m c o w n b k = some r := by
  intro d
  induction d with
  | zero =>
    intro n b k h0 hk hn
    obtain ⟨n, rfl⟩ : ∃ j, n = j + 1 := ⟨n - 1, by omega⟩
    rw [L10_same_39, L11_same_33]
    simp (disch := omega) only [gd_t, stw_v, cpw_v, jn_v, b1_v, b2_v, w32_id, rd_wr_s, rd_wr_k, rd_wr_i, bz_0, bz_n, if_pos, if_neg, if_true, if_false, ne_eq, not_true_eq_false, not_false_eq_true]
    exact ⟨_, rfl, rfl⟩
  | succ d ih =>
    intro n b k h0 hk hn
    obtain ⟨n, rfl⟩ : ∃ j, n = j + 1 := ⟨n - 1, by omega⟩
    rw [L10_same_39, L11_same_33]
    obtain ⟨hc0, hc1⟩ := hc
    obtain ⟨ho0, ho1⟩ := ho
    simp (disch := omega) only [gd_t, stw_v, cpw_v, jn_v, b1_v, b2_v, w32_id, rd_wr_s, rd_wr_k, rd_wr_i, bz_0, bz_n, if_pos, if_neg, if_true, if_false, ne_eq, not_true_eq_false, not_false_eq_true, told_e, hf, hg]
    have key : ∀ b', ∃ r, L10_same_39 m c o w n b' (k + 1) = some r ∧ L11_same_33 m c o w n b' (k + 1) = some r := fun b' => ih n b' (k + 1) (by omega) (by omega) (by omega)
    by_cases e1 : rd m 89 (16 * c + k) = 9
    · rw [if_pos e1, if_pos e1]
      by_cases e2 : (2 : Int) = w
      · rw [if_neg (not_not_intro e2), if_neg (not_not_intro e2)]; exact key _
      · rw [if_pos e2, if_pos e2]; exact key _
    · by_cases e2 : rd m 89 (16 * o + k) = 9
      · rw [if_neg e1, if_neg e1, if_neg (not_not_intro e2), if_neg (not_not_intro e2)]
        by_cases e3 : (2 : Int) = w
        · rw [if_neg (not_not_intro e3), if_neg (not_not_intro e3)]; exact key _
        · rw [if_pos e3, if_pos e3]; exact key _
      · by_cases e4 : rd m 89 (16 * c + k) = rd m 89 (16 * o + k)
        · rw [if_neg e1, if_neg e1, if_pos e2, if_pos e2, if_neg (not_not_intro e4), if_neg (not_not_intro e4)]
          by_cases e3 : (0 : Int) = w
          · rw [if_neg (not_not_intro e3), if_neg (not_not_intro e3)]; exact key _
          · rw [if_pos e3, if_pos e3]; exact key _
        · rw [if_neg e1, if_neg e1, if_pos e2, if_pos e2, if_pos e4, if_pos e4]
          by_cases e3 : (1 : Int) = w
          · rw [if_neg (not_not_intro e3), if_neg (not_not_intro e3)]; exact key _
          · rw [if_pos e3, if_pos e3]; exact key _
theorem st_same {n : Nat} {m : Mem} (c o w : Int) (hI : Inv n m) : ∃ r, F10_same m c o w = some r ∧ F11_same m c o w = some r := by
  obtain ⟨⟨i1, i2, i3, i4, i5⟩, ⟨j1, j2, j3⟩, -⟩ := hI
  unfold F10_same F11_same
  rw [F1_has_e, F11_isCharter_e m c i1, F1_has_e, F11_isCharter_e m o i1, i3, F11_in_e]
  by_cases a : 0 ≤ c ∧ c < rd m 83 1
  · by_cases b : 0 ≤ o ∧ o < rd m 83 1
    · by_cases d : 0 ≤ w ∧ w ≤ 2
      · simp (disch := omega) only [gd_t, stw_v, cpw_v, jn_v, b1_v, b2_v, w32_id, rd_wr_s, rd_wr_k, rd_wr_i, bz_0, bz_n, if_pos, if_neg, if_true, if_false, ne_eq, not_true_eq_false, not_false_eq_true]
        exact same_l ⟨a.1, by omega⟩ ⟨b.1, by omega⟩ (fun k h0 h1 => (j1 c k a.1 a.2 h0 h1).1) (fun k h0 h1 => (j1 o k b.1 b.2 h0 h1).1) 16 FU 0 0 (by omega) (by omega) (by rw [FU_eq]; omega)
      · by_cases e : w < 0
        · simp (disch := omega) only [gd_t, stw_v, cpw_v, jn_v, b1_v, b2_v, w32_id, rd_wr_s, rd_wr_k, rd_wr_i, bz_0, bz_n, if_pos, if_neg, if_true, if_false, ne_eq, not_true_eq_false, not_false_eq_true]; exact ⟨_, rfl, rfl⟩
        · simp (disch := omega) only [gd_t, stw_v, cpw_v, jn_v, b1_v, b2_v, w32_id, rd_wr_s, rd_wr_k, rd_wr_i, bz_0, bz_n, if_pos, if_neg, if_true, if_false, ne_eq, not_true_eq_false, not_false_eq_true]; exact ⟨_, rfl, rfl⟩
    · simp (disch := omega) only [gd_t, stw_v, cpw_v, jn_v, b1_v, b2_v, w32_id, rd_wr_s, rd_wr_k, rd_wr_i, bz_0, bz_n, if_pos, if_neg, if_true, if_false, ne_eq, not_true_eq_false, not_false_eq_true]; exact ⟨_, rfl, rfl⟩
  · simp (disch := omega) only [gd_t, stw_v, cpw_v, jn_v, b1_v, b2_v, w32_id, rd_wr_s, rd_wr_k, rd_wr_i, bz_0, bz_n, if_pos, if_neg, if_true, if_false, ne_eq, not_true_eq_false, not_false_eq_true]; exact ⟨_, rfl, rfl⟩
theorem dig_in {m : Mem} {c : Int} {k1 k2 : Int → Option Int} (hc : 0 ≤ c ∧ c < 12) (hf : ∀ k, 0 ≤ k → k < 16 → rd m 9 (16 * c + k) = rd m 89 (16 * c + k)) (hk : ∀ v, ∃ r, k1 v = some r ∧ k2 v = some r) :
    ∀ (d n : Nat) (v k : Int), 0 ≤ k → k + d = 16 → d < n → ∃ r, L10_digest_34 m c k1 n v k = some r ∧ L11_digest_29 m c k2 n v k = some r := by
  intro d
  induction d with
  | zero =>
    intro n v k h0 hk' hn
    obtain ⟨n, rfl⟩ : ∃ j, n = j + 1 := ⟨n - 1, by omega⟩
    rw [L10_digest_34, L11_digest_29]
    simp (disch := omega) only [gd_t, stw_v, cpw_v, jn_v, b1_v, b2_v, w32_id, rd_wr_s, rd_wr_k, rd_wr_i, bz_0, bz_n, if_pos, if_neg, if_true, if_false, ne_eq, not_true_eq_false, not_false_eq_true]
    exact hk v
  | succ d ih =>
    intro n v k h0 hk' hn
    obtain ⟨n, rfl⟩ : ∃ j, n = j + 1 := ⟨n - 1, by omega⟩
    rw [L10_digest_34, L11_digest_29]
    obtain ⟨hc0, hc1⟩ := hc
    simp (disch := omega) only [gd_t, stw_v, cpw_v, jn_v, b1_v, b2_v, w32_id, rd_wr_s, rd_wr_k, rd_wr_i, bz_0, bz_n, if_pos, if_neg, if_true, if_false, ne_eq, not_true_eq_false, not_false_eq_true, told_e, hf]
    exact ih n _ (k + 1) (by omega) (by omega) (by omega)
theorem dig_out {m : Mem} {k1 k2 : Int → Option Int} (hC : 0 ≤ rd m 83 1 ∧ rd m 83 1 ≤ 12) (hC4 : rd m 4 0 = rd m 83 1) (hf : ∀ c k, 0 ≤ c → c < rd m 83 1 → 0 ≤ k → k < 16 → rd m 9 (16 * c + k) = rd m 89 (16 * c + k)) (hm : ∀ c, 0 ≤ c → c < rd m 83 1 → rd m 9 (197 + c) = rd m 88 c) (hk : ∀ v, ∃ r, k1 v = some r ∧ k2 v = some r) :
    ∀ (d n : Nat) (v c : Int), 0 ≤ c → c + d = rd m 83 1 → d < n → ∃ r, L10_digest_5 m k1 n v c = some r ∧ L11_digest_5 m k2 n v c = some r := by
  intro d
  induction d with
  | zero =>
    intro n v c h0 hk' hn
    obtain ⟨n, rfl⟩ : ∃ j, n = j + 1 := ⟨n - 1, by omega⟩
    rw [L10_digest_5, L11_digest_5, hC4]
    simp (disch := omega) only [gd_t, stw_v, cpw_v, jn_v, b1_v, b2_v, w32_id, rd_wr_s, rd_wr_k, rd_wr_i, bz_0, bz_n, if_pos, if_neg, if_true, if_false, ne_eq, not_true_eq_false, not_false_eq_true]
    exact hk v
  | succ d ih =>
    intro n v c h0 hk' hn
    obtain ⟨n, rfl⟩ : ∃ j, n = j + 1 := ⟨n - 1, by omega⟩
    rw [L10_digest_5, L11_digest_5, hC4]
    obtain ⟨hC0, hC1⟩ := hC
    have := hm c h0 (by omega)
    simp (disch := omega) only [gd_t, stw_v, cpw_v, jn_v, b1_v, b2_v, w32_id, rd_wr_s, rd_wr_k, rd_wr_i, bz_0, bz_n, if_pos, if_neg, if_true, if_false, ne_eq, not_true_eq_false, not_false_eq_true, motherOf_e, this]
    exact dig_in ⟨h0, by omega⟩ (fun k a b => hf c k h0 (by omega) a b) (fun v => ih n v (c + 1) (by omega) (by omega) (by omega)) 16 FU _ 0 (by omega) (by omega) (by rw [FU_eq]; omega)
theorem dig_co {m : Mem} (hf : ∀ k, 0 ≤ k → k < 5 → rd m 9 (192 + k) = rd m 90 k) :
    ∀ (d n : Nat) (v k : Int), 0 ≤ k → k + d = 5 → d < n → ∃ r, L10_digest_69 m n v k = some r ∧ L11_digest_66 m n v k = some r := by
  intro d
  induction d with
  | zero =>
    intro n v k h0 hk' hn
    obtain ⟨n, rfl⟩ : ∃ j, n = j + 1 := ⟨n - 1, by omega⟩
    rw [L10_digest_69, L11_digest_66]
    simp (disch := omega) only [gd_t, stw_v, cpw_v, jn_v, b1_v, b2_v, w32_id, rd_wr_s, rd_wr_k, rd_wr_i, bz_0, bz_n, if_pos, if_neg, if_true, if_false, ne_eq, not_true_eq_false, not_false_eq_true]
    exact ⟨_, rfl, rfl⟩
  | succ d ih =>
    intro n v k h0 hk' hn
    obtain ⟨n, rfl⟩ : ∃ j, n = j + 1 := ⟨n - 1, by omega⟩
    rw [L10_digest_69, L11_digest_66]
    simp (disch := omega) only [gd_t, stw_v, cpw_v, jn_v, b1_v, b2_v, w32_id, rd_wr_s, rd_wr_k, rd_wr_i, bz_0, bz_n, if_pos, if_neg, if_true, if_false, ne_eq, not_true_eq_false, not_false_eq_true, costOf_e, hf]
    exact ih n _ (k + 1) (by omega) (by omega) (by omega)
theorem st_digest {n : Nat} {m : Mem} (hI : Inv n m) : ∃ r, F10_digest m = some r ∧ F11_digest m = some r := by
  obtain ⟨⟨i1, i2, i3, i4, i5⟩, ⟨j1, j2, j3⟩, -⟩ := hI
  unfold F10_digest F11_digest
  exact dig_out ⟨i1, i2⟩ i3 (fun c k a b x y => (j1 c k a b x y).1) j3 (fun v => dig_co (fun k a b => (j2 k a b).1) 5 FU v 0 (by omega) (by omega) (by rw [FU_eq]; omega)) (rd m 83 1).toNat FU 7 0 (by omega) (by omega) (by rw [FU_eq]; omega)
/-! the list -/
theorem place_l {m : Mem} {c : Int} (hL : 0 ≤ rd m 31 2 ∧ rd m 31 2 ≤ 6) (hL2 : rd m 83 28 = rd m 31 2) (hf : ∀ i, 0 ≤ i → i < rd m 31 2 → rd m 44 i = rd m 103 i) :
    ∀ (d n : Nat) (k : Int), 0 ≤ k → k + d = rd m 31 2 → d < n → ∃ r, L0_placeOf_2 m c n k = some r ∧ L11_placeOf_2 m c n k = some r ∧ ((r = -1 ∧ ∀ i, k ≤ i → i < rd m 31 2 → rd m 103 i ≠ c) ∨ (k ≤ r ∧ r < rd m 31 2 ∧ rd m 103 r = c)) := by
  intro d
  induction d with
  | zero =>
    intro n k h0 hk' hn
    obtain ⟨n, rfl⟩ : ∃ j, n = j + 1 := ⟨n - 1, by omega⟩
    rw [L0_placeOf_2, L11_placeOf_2, hL2]
    simp (disch := omega) only [gd_t, stw_v, cpw_v, jn_v, b1_v, b2_v, w32_id, rd_wr_s, rd_wr_k, rd_wr_i, bz_0, bz_n, if_pos, if_neg, if_true, if_false, ne_eq, not_true_eq_false, not_false_eq_true]
    exact ⟨_, rfl, rfl, Or.inl ⟨rfl, fun i a b => by omega⟩⟩
  | succ d ih =>
    intro n k h0 hk' hn
    obtain ⟨n, rfl⟩ : ∃ j, n = j + 1 := ⟨n - 1, by omega⟩
    rw [L0_placeOf_2, L11_placeOf_2, hL2]
    obtain ⟨hL0, hL1⟩ := hL
    simp (disch := omega) only [gd_t, stw_v, cpw_v, jn_v, b1_v, b2_v, w32_id, rd_wr_s, rd_wr_k, rd_wr_i, bz_0, bz_n, if_pos, if_neg, if_true, if_false, ne_eq, not_true_eq_false, not_false_eq_true, hf]
    by_cases e : rd m 103 k = c
    · simp only [e, ne_eq, not_true_eq_false, if_false]
      exact ⟨_, rfl, rfl, Or.inr ⟨by omega, by omega, e⟩⟩
    · simp only [e, ne_eq, not_false_eq_true, if_true]
      obtain ⟨r, a, b, x⟩ := ih n (k + 1) (by omega) (by omega) (by omega)
      refine ⟨r, a, b, ?_⟩
      rcases x with ⟨x1, x2⟩ | ⟨x1, x2, x3⟩
      · exact Or.inl ⟨x1, fun i p q => by
          by_cases hi : i = k
          · rw [hi]; exact e
          · exact x2 i (by omega) q⟩
      · exact Or.inr ⟨by omega, x2, x3⟩
theorem place_e {n : Nat} {m : Mem} (c : Int) (hI : Inv n m) : ∃ r, F0_placeOf m c = some r ∧ F11_placeOf m c = some r ∧ ((r = -1 ∧ ∀ i, 0 ≤ i → i < rd m 31 2 → rd m 103 i ≠ c) ∨ (0 ≤ r ∧ r < rd m 31 2 ∧ rd m 103 r = c)) := by
  obtain ⟨h1, h2, h3, h4, h5, h6, h7, h8, ⟨l1, l2, l3, l4, l5⟩, h10⟩ := hI
  exact place_l ⟨l1, l2⟩ l3 (fun i a b => (l4 i a b).1) (rd m 31 2).toNat FU 0 (by omega) (by omega) (by rw [FU_eq]; omega)
