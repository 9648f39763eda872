/-! acts: the bodies that ran, as a list -/
def bg (m : Mem) (b : Int) : Mem := wr (if 24 ≤ rd m 66 1 then m else wr m 68 (rd m 66 1) b) 66 1 (w32 (rd m 66 1 + 1))
def rn (m : Mem) (b : Int) : Mem := wr (if 24 ≤ rd m 83 49 then m else wr m 118 (rd m 83 49) b) 83 49 (w32 (rd m 83 49 + 1))
def bgs (m : Mem) (L : List Int) : Mem := L.foldl bg m
def rns (m : Mem) (L : List Int) : Mem := L.foldl rn m
theorem bgs_a (m : Mem) (L K : List Int) : bgs (bgs m L) K = bgs m (L ++ K) := by unfold bgs; rw [List.foldl_append]
theorem rns_a (m : Mem) (L K : List Int) : rns (rns m L) K = rns m (L ++ K) := by unfold rns; rw [List.foldl_append]
theorem bg_o {m : Mem} {b : Int} {k : Nat} {i : Int} (h : k ≠ 68) (h' : ¬ (k = 66 ∧ i = 1)) : bg m b k i = m k i := by
  unfold bg; rw [wr_ki h']; split
  · rfl
  · rw [wr_ka h]
theorem rn_o {m : Mem} {b : Int} {k : Nat} {i : Int} (h : k ≠ 118) (h' : ¬ (k = 83 ∧ i = 49)) : rn m b k i = m k i := by
  unfold rn; rw [wr_ki h']; split
  · rfl
  · rw [wr_ka h]
theorem bgs_o {k : Nat} {i : Int} (h : k ≠ 68) (h' : ¬ (k = 66 ∧ i = 1)) : ∀ (L : List Int) (m : Mem), bgs m L k i = m k i
  | [], m => rfl
  | b :: L, m => (bgs_o h h' L (bg m b)).trans (bg_o h h')
theorem rns_o {k : Nat} {i : Int} (h : k ≠ 118) (h' : ¬ (k = 83 ∧ i = 49)) : ∀ (L : List Int) (m : Mem), rns m L k i = m k i
  | [], m => rfl
  | b :: L, m => (rns_o h h' L (rn m b)).trans (rn_o h h')
theorem bg_1 {m : Mem} {b : Int} (h0 : 0 ≤ rd m 66 1) (h1 : rd m 66 1 < 1000) : rd (bg m b) 66 1 = rd m 66 1 + 1 := by
  unfold bg; rw [rd_wr_s, w32_id (x := w32 _) (by have := w32_in (rd m 66 1 + 1); exact this.1) (by have := w32_in (rd m 66 1 + 1); exact this.2), w32_id (by omega) (by omega)]
theorem rn_1 {m : Mem} {b : Int} (h0 : 0 ≤ rd m 83 49) (h1 : rd m 83 49 < 1000) : rd (rn m b) 83 49 = rd m 83 49 + 1 := by
  unfold rn; rw [rd_wr_s, w32_id (x := w32 _) (by have := w32_in (rd m 83 49 + 1); exact this.1) (by have := w32_in (rd m 83 49 + 1); exact this.2), w32_id (by omega) (by omega)]
theorem bgs_1 : ∀ (L : List Int) (m : Mem), 0 ≤ rd m 66 1 → rd m 66 1 + L.length < 1000 → rd (bgs m L) 66 1 = rd m 66 1 + L.length
  | [], m, h0, h1 => by show rd m 66 1 = _; simp
  | b :: L, m, h0, h1 => by
    simp only [List.length_cons] at h1 ⊢
    have e := bg_1 (m := m) (b := b) h0 (by omega)
    have := bgs_1 L (bg m b) (by omega) (by omega)
    show rd (bgs (bg m b) L) 66 1 = _
    rw [this, e]; omega
theorem rns_1 : ∀ (L : List Int) (m : Mem), 0 ≤ rd m 83 49 → rd m 83 49 + L.length < 1000 → rd (rns m L) 83 49 = rd m 83 49 + L.length
  | [], m, h0, h1 => by show rd m 83 49 = _; simp
  | b :: L, m, h0, h1 => by
    simp only [List.length_cons] at h1 ⊢
    have e := rn_1 (m := m) (b := b) h0 (by omega)
    have := rns_1 L (rn m b) (by omega) (by omega)
    show rd (rns (rn m b) L) 83 49 = _
    rw [this, e]; omega
theorem tr_l : ∀ (L : List Int) (m m' : Mem), 0 ≤ rd m 66 1 → rd m 66 1 + L.length < 1000 → rd m 66 1 = rd m' 83 49 → (∀ i, 0 ≤ i → i < 24 → i < rd m 66 1 → rd m 68 i = rd m' 118 i) →
    ∀ i, 0 ≤ i → i < 24 → i < rd m 66 1 + L.length → rd (bgs m L) 68 i = rd (rns m' L) 118 i
  | [], m, m', h0, h1, h2, h3 => fun i a b c => h3 i a b (by simpa using c)
  | b :: L, m, m', h0, h1, h2, h3 => by
    simp only [List.length_cons] at h1 ⊢
    have e := bg_1 (m := m) (b := b) h0 (by omega)
    have e' := rn_1 (m := m') (b := b) (by omega) (by omega)
    intro i x y z
    refine tr_l L (bg m b) (rn m' b) (by omega) (by omega) (by omega) (fun i x y z => ?_) i x y (by omega)
    unfold bg rn
    rw [← h2, rd_wr_k (by omega), rd_wr_k (by omega)]
    by_cases c : 24 ≤ rd m 66 1
    · rw [if_pos c, if_pos c]; exact h3 i x y (by omega)
    · rw [if_neg c, if_neg c, rd_wr_c, rd_wr_c]
      by_cases d : i = rd m 66 1
      · rw [if_pos d, if_pos d]
      · rw [if_neg d, if_neg d]; exact h3 i x y (by omega)
theorem began_e {m : Mem} {L : List Int} (b : Int) (h : rd m 66 1 = 0) (hL : L.length < 500) : F5_began (bgs m L) b = some (bgs m (L ++ [b])) := by
  have e := bgs_1 L m (by omega) (by omega)
  rw [h] at e
  rw [← bgs_a]
  show _ = some (bg (bgs m L) b)
  unfold F5_began bg
  by_cases c : 24 ≤ rd (bgs m L) 66 1
  · simp (disch := omega) only [gd_t, stw_v, cpw_v, jn_v, b1_v, b2_v, w32_id, rd_wr_s, rd_wr_k, rd_wr_i, bz_0, bz_n, if_pos, if_neg, if_true, if_false, ne_eq, not_true_eq_false, not_false_eq_true]
  · simp (disch := omega) only [gd_t, stw_v, cpw_v, jn_v, b1_v, b2_v, w32_id, rd_wr_s, rd_wr_k, rd_wr_i, bz_0, bz_n, if_pos, if_neg, if_true, if_false, ne_eq, not_true_eq_false, not_false_eq_true]
theorem ran_e {m : Mem} {L : List Int} (b : Int) (h : rd m 83 49 = 0) (hL : L.length < 500) : F11_ran (rns m L) b = some (rns m (L ++ [b])) := by
  have e := rns_1 L m (by omega) (by omega)
  rw [h] at e
  rw [← rns_a]
  show _ = some (rn (rns m L) b)
  unfold F11_ran rn
  by_cases c : 24 ≤ rd (rns m L) 83 49
  · simp (disch := omega) only [gd_t, stw_v, cpw_v, jn_v, b1_v, b2_v, w32_id, rd_wr_s, rd_wr_k, rd_wr_i, bz_0, bz_n, if_pos, if_neg, if_true, if_false, ne_eq, not_true_eq_false, not_false_eq_true]
  · simp (disch := omega) only [gd_t, stw_v, cpw_v, jn_v, b1_v, b2_v, w32_id, rd_wr_s, rd_wr_k, rd_wr_i, bz_0, bz_n, if_pos, if_neg, if_true, if_false, ne_eq, not_true_eq_false, not_false_eq_true]
/-- what an act's part does, by both sides: the same value, the same bodies -/
def AM (m : Mem) (p c k : Int) : Prop := rd m 66 1 = 0 ∧ rd m 66 5 = k ∧ rd m 66 6 = p ∧ rd m 66 7 = c ∧ 0 ≤ p ∧ p < 100 ∧ 0 ≤ k ∧ k ≤ 6
def AN (m : Mem) (p c k : Int) : Prop := rd m 83 49 = 0 ∧ rd m 116 p = k ∧ rd m 117 p = c
def AP (N B : Nat) (m : Mem) (p c k : Int) (f g : Mem → Option (Int × Mem)) : Prop := ∃ (r : Int) (K : List Int), K.length ≤ N ∧ (∀ L : List Int, L.length ≤ B → f (bgs m L) = some (r, bgs m (L ++ K))) ∧ ∀ m', AN m' p c k → ∀ L : List Int, L.length ≤ B → g (rns m' L) = some (r, rns m' (L ++ K))
section ACT
variable {m : Mem} {p c k : Int}
theorem am_k (h : AM m p c k) (L : List Int) : rd (bgs m L) 66 5 = k := by rw [rd_eq (bgs_o (by omega) (by omega) L m)]; exact h.2.1
theorem am_p (h : AM m p c k) (L : List Int) : rd (bgs m L) 66 6 = p := by rw [rd_eq (bgs_o (by omega) (by omega) L m)]; exact h.2.2.1
theorem am_c (h : AM m p c k) (L : List Int) : rd (bgs m L) 66 7 = c := by rw [rd_eq (bgs_o (by omega) (by omega) L m)]; exact h.2.2.2.1
theorem an_k {m' : Mem} (h : AN m' p c k) (L : List Int) : rd (rns m' L) 116 p = k := by rw [rd_eq (rns_o (by omega) (by omega) L m')]; exact h.2.1
theorem an_c {m' : Mem} (h : AN m' p c k) (L : List Int) : rd (rns m' L) 117 p = c := by rw [rd_eq (rns_o (by omega) (by omega) L m')]; exact h.2.2
theorem ap_costs (h : AM m p c k) (x : Int) : AP 2 400 m p c k (fun M => F5_costs M x) (fun M => F11_costs M p x) := by
  have k1 := am_k h; have k2 := am_p h
  obtain ⟨h1, -, -, -, h8, h9, h10, h11⟩ := h
  by_cases a : k = 3
  · refine ⟨w32 (w32 (x + p) - 1), [40, 1], by decide, fun L hL => ?_, fun m' hn L hL => ?_⟩
    · show F5_costs (bgs m L) x = _
      unfold F5_costs
      simp (disch := omega) only [gd_t, stw_v, cpw_v, jn_v, b1_v, b2_v, w32_id, rd_wr_s, rd_wr_k, rd_wr_i, bz_0, bz_n, if_pos, if_neg, if_true, if_false, ne_eq, not_true_eq_false, not_false_eq_true, k1, k2, a, began_e 40 h1 (show L.length < 500 by omega), began_e 1 h1 (show (L ++ [40]).length < 500 by simp; omega), List.append_assoc, List.cons_append, List.nil_append]
    · have k4 := an_k hn; have k5 := an_c hn; have h2 := hn.1
      show F11_costs (rns m' L) p x = _
      unfold F11_costs F11_plainCosts
      simp (disch := omega) only [gd_t, stw_v, cpw_v, jn_v, b1_v, b2_v, w32_id, rd_wr_s, rd_wr_k, rd_wr_i, bz_0, bz_n, if_pos, if_neg, if_true, if_false, ne_eq, not_true_eq_false, not_false_eq_true, k4, a, ran_e 40 h2 (show L.length < 500 by omega), ran_e 1 h2 (show (L ++ [40]).length < 500 by simp; omega), List.append_assoc, List.cons_append, List.nil_append]
  · by_cases b : k = 5
    · refine ⟨w32 (w32 (x + 1) + p), [60, 1], by decide, fun L hL => ?_, fun m' hn L hL => ?_⟩
      · show F5_costs (bgs m L) x = _
        unfold F5_costs
        simp (disch := omega) only [gd_t, stw_v, cpw_v, jn_v, b1_v, b2_v, w32_id, rd_wr_s, rd_wr_k, rd_wr_i, bz_0, bz_n, if_pos, if_neg, if_true, if_false, ne_eq, not_true_eq_false, not_false_eq_true, k1, k2, b, began_e 60 h1 (show L.length < 500 by omega), began_e 1 h1 (show (L ++ [60]).length < 500 by simp; omega), List.append_assoc, List.cons_append, List.nil_append]
      · have k4 := an_k hn; have k5 := an_c hn; have h2 := hn.1
        show F11_costs (rns m' L) p x = _
        unfold F11_costs F11_plainCosts
        simp (disch := omega) only [gd_t, stw_v, cpw_v, jn_v, b1_v, b2_v, w32_id, rd_wr_s, rd_wr_k, rd_wr_i, bz_0, bz_n, if_pos, if_neg, if_true, if_false, ne_eq, not_true_eq_false, not_false_eq_true, k4, b, ran_e 60 h2 (show L.length < 500 by omega), ran_e 1 h2 (show (L ++ [60]).length < 500 by simp; omega), List.append_assoc, List.cons_append, List.nil_append]
    · refine ⟨w32 (x + p), [1], by decide, fun L hL => ?_, fun m' hn L hL => ?_⟩
      · show F5_costs (bgs m L) x = _
        unfold F5_costs
        simp (disch := omega) only [gd_t, stw_v, cpw_v, jn_v, b1_v, b2_v, w32_id, rd_wr_s, rd_wr_k, rd_wr_i, bz_0, bz_n, if_pos, if_neg, if_true, if_false, ne_eq, not_true_eq_false, not_false_eq_true, k1, k2, began_e 1 h1 (show L.length < 500 by omega)]
      · have k4 := an_k hn; have k5 := an_c hn; have h2 := hn.1
        show F11_costs (rns m' L) p x = _
        unfold F11_costs F11_plainCosts
        simp (disch := omega) only [gd_t, stw_v, cpw_v, jn_v, b1_v, b2_v, w32_id, rd_wr_s, rd_wr_k, rd_wr_i, bz_0, bz_n, if_pos, if_neg, if_true, if_false, ne_eq, not_true_eq_false, not_false_eq_true, k4, ran_e 1 h2 (show L.length < 500 by omega)]
theorem u4 {k : Int} (h0 : 0 ≤ k) (h1 : k ≤ 6) : F5_isUnder k 4 = some (bz (k = 4 ∨ k = 5)) := by
  rw [isUnder5 k 4 h0 h1 (by omega) (by omega)]
  rcases (show k = 0 ∨ k = 1 ∨ k = 2 ∨ k = 3 ∨ k = 4 ∨ k = 5 ∨ k = 6 by omega) with rfl | rfl | rfl | rfl | rfl | rfl | rfl <;> decide
theorem u1 {k : Int} (h0 : 0 ≤ k) (h1 : k ≤ 6) : F11_isUnder k 1 = bz (k = 1 ∨ k = 3 ∨ k = 6) := by
  rcases (show k = 0 ∨ k = 1 ∨ k = 2 ∨ k = 3 ∨ k = 4 ∨ k = 5 ∨ k = 6 by omega) with rfl | rfl | rfl | rfl | rfl | rfl | rfl <;> decide
theorem u1' {k : Int} (h0 : 0 ≤ k) (h1 : k ≤ 6) : F5_isUnder k 1 = some (bz (k = 1 ∨ k = 3 ∨ k = 6)) := by
  rw [isUnder5 k 1 h0 h1 (by omega) (by omega), u1 h0 h1]
theorem ap_holds (h : AM m p c k) (x : Int) : AP 5 300 m p c k (fun M => F5_holds M x) (fun M => F11_keeps M p x) := by
  have k1 := am_k h; have k2 := am_p h
  obtain ⟨r, K, hK, hc⟩ := ap_costs h 2
  obtain ⟨h1, -, -, -, h8, h9, h10, h11⟩ := h
  have un := u4 h10 h11
  by_cases a : k = 2
  · refine ⟨w32 (bxor x p * 3), [30, 11], by decide, fun L hL => ?_, fun m' hn L hL => ?_⟩
    · show F5_holds (bgs m L) x = _
      unfold F5_holds
      simp (disch := omega) only [gd_t, stw_v, cpw_v, jn_v, b1_v, b2_v, w32_id, rd_wr_s, rd_wr_k, rd_wr_i, bz_0, bz_n, if_pos, if_neg, if_true, if_false, ne_eq, not_true_eq_false, not_false_eq_true, k1, k2, a, began_e 30 h1 (show L.length < 500 by omega), began_e 11 h1 (show (L ++ [30]).length < 500 by simp; omega), List.append_assoc, List.cons_append, List.nil_append]
    · have k4 := an_k hn; have k5 := an_c hn; have h2 := hn.1
      show F11_keeps (rns m' L) p x = _
      unfold F11_keeps F11_plainKeeps
      simp (disch := omega) only [gd_t, stw_v, cpw_v, jn_v, b1_v, b2_v, w32_id, rd_wr_s, rd_wr_k, rd_wr_i, bz_0, bz_n, if_pos, if_neg, if_true, if_false, ne_eq, not_true_eq_false, not_false_eq_true, k4, a, ran_e 30 h2 (show L.length < 500 by omega), ran_e 11 h2 (show (L ++ [30]).length < 500 by simp; omega), List.append_assoc, List.cons_append, List.nil_append]
  by_cases b : k = 5
  · refine ⟨w32 (w32 (-(bxor x p)) + r), [61, 50, 11] ++ K, by simp; omega, fun L hL => ?_, fun m' hn L hL => ?_⟩
    · show F5_holds (bgs m L) x = _
      have e := hc.1 (L ++ [61, 50, 11]) (by simp; omega)
      unfold F5_holds
      rw [bz_pos (by omega), b] at un
      simp (disch := omega) only [gd_t, stw_v, cpw_v, jn_v, b1_v, b2_v, w32_id, rd_wr_s, rd_wr_k, rd_wr_i, bz_0, bz_n, if_pos, if_neg, if_true, if_false, ne_eq, not_true_eq_false, not_false_eq_true, k1, k2, b, un, began_e 61 h1 (show L.length < 500 by omega), began_e 50 h1 (show (L ++ [61]).length < 500 by simp; omega), began_e 11 h1 (show (L ++ [61, 50]).length < 500 by simp; omega), List.append_assoc, List.cons_append, List.nil_append, e]
    · have k4 := an_k hn; have k5 := an_c hn; have h2 := hn.1
      show F11_keeps (rns m' L) p x = _
      have e := hc.2 m' hn (L ++ [61, 50, 11]) (by simp; omega)
      unfold F11_keeps F11_lostKeeps F11_plainKeeps
      simp (disch := omega) only [gd_t, stw_v, cpw_v, jn_v, b1_v, b2_v, w32_id, rd_wr_s, rd_wr_k, rd_wr_i, bz_0, bz_n, if_pos, if_neg, if_true, if_false, ne_eq, not_true_eq_false, not_false_eq_true, k4, b, ran_e 61 h2 (show L.length < 500 by omega), ran_e 50 h2 (show (L ++ [61]).length < 500 by simp; omega), ran_e 11 h2 (show (L ++ [61, 50]).length < 500 by simp; omega), List.append_assoc, List.cons_append, List.nil_append, e]
  by_cases d : k = 4
  · refine ⟨w32 (-(bxor x p)), [50, 11], by decide, fun L hL => ?_, fun m' hn L hL => ?_⟩
    · show F5_holds (bgs m L) x = _
      unfold F5_holds
      rw [bz_pos (by omega), d] at un
      simp (disch := omega) only [gd_t, stw_v, cpw_v, jn_v, b1_v, b2_v, w32_id, rd_wr_s, rd_wr_k, rd_wr_i, bz_0, bz_n, if_pos, if_neg, if_true, if_false, ne_eq, not_true_eq_false, not_false_eq_true, k1, k2, d, un, began_e 50 h1 (show L.length < 500 by omega), began_e 11 h1 (show (L ++ [50]).length < 500 by simp; omega), List.append_assoc, List.cons_append, List.nil_append]
    · have k4 := an_k hn; have k5 := an_c hn; have h2 := hn.1
      show F11_keeps (rns m' L) p x = _
      unfold F11_keeps F11_lostKeeps F11_plainKeeps
      simp (disch := omega) only [gd_t, stw_v, cpw_v, jn_v, b1_v, b2_v, w32_id, rd_wr_s, rd_wr_k, rd_wr_i, bz_0, bz_n, if_pos, if_neg, if_true, if_false, ne_eq, not_true_eq_false, not_false_eq_true, k4, d, ran_e 50 h2 (show L.length < 500 by omega), ran_e 11 h2 (show (L ++ [50]).length < 500 by simp; omega), List.append_assoc, List.cons_append, List.nil_append]
  · refine ⟨bxor x p, [11], by decide, fun L hL => ?_, fun m' hn L hL => ?_⟩
    · show F5_holds (bgs m L) x = _
      unfold F5_holds
      rw [bz_neg (by omega)] at un
      simp (disch := omega) only [gd_t, stw_v, cpw_v, jn_v, b1_v, b2_v, w32_id, rd_wr_s, rd_wr_k, rd_wr_i, bz_0, bz_n, if_pos, if_neg, if_true, if_false, ne_eq, not_true_eq_false, not_false_eq_true, k1, k2, un, began_e 11 h1 (show L.length < 500 by omega)]
    · have k4 := an_k hn; have k5 := an_c hn; have h2 := hn.1
      show F11_keeps (rns m' L) p x = _
      unfold F11_keeps F11_plainKeeps
      simp (disch := omega) only [gd_t, stw_v, cpw_v, jn_v, b1_v, b2_v, w32_id, rd_wr_s, rd_wr_k, rd_wr_i, bz_0, bz_n, if_pos, if_neg, if_true, if_false, ne_eq, not_true_eq_false, not_false_eq_true, k4, ran_e 11 h2 (show L.length < 500 by omega)]
theorem ap_lets (h : AM m p c k) (x : Int) : AP 10 200 m p c k (fun M => F5_lets M x) (fun M => F11_lets M p x) := by
  have k1 := am_k h; have k2 := am_p h; have k3 := am_c h
  obtain ⟨r, K, hK, hc⟩ := ap_costs h x
  obtain ⟨rh, KH, hKH, hh⟩ := ap_holds h 2
  obtain ⟨h1, -, -, -, h8, h9, h10, h11⟩ := h
  have un := u1' h10 h11
  have um := u1 h10 h11
  by_cases a : k = 6
  · refine ⟨w32 (w32 (w32 (r * 2) + c) - rh), [70, 20, 10] ++ (K ++ KH), by simp; omega, fun L hL => ?_, fun m' hn L hL => ?_⟩
    · show F5_lets (bgs m L) x = _
      have e := hc.1 (L ++ [70, 20, 10]) (by simp; omega)
      have e2 := hh.1 (L ++ ([70, 20, 10] ++ K)) (by simp; omega)
      simp only [List.append_assoc, List.cons_append, List.nil_append] at e e2
      unfold F5_lets
      rw [bz_pos (by omega), a] at un
      simp (disch := omega) only [gd_t, stw_v, cpw_v, jn_v, b1_v, b2_v, w32_id, rd_wr_s, rd_wr_k, rd_wr_i, bz_0, bz_n, if_pos, if_neg, if_true, if_false, ne_eq, not_true_eq_false, not_false_eq_true, k1, k2, k3, a, un, began_e 70 h1 (show L.length < 500 by omega), began_e 20 h1 (show (L ++ [70]).length < 500 by simp; omega), began_e 10 h1 (show (L ++ [70, 20]).length < 500 by simp; omega), List.append_assoc, List.cons_append, List.nil_append, e, e2]
    · have k4 := an_k hn; have k5 := an_c hn; have h2 := hn.1
      show F11_lets (rns m' L) p x = _
      have e := hc.2 m' hn (L ++ [70, 20, 10]) (by simp; omega)
      have e2 := hh.2 m' hn (L ++ ([70, 20, 10] ++ K)) (by simp; omega)
      simp only [List.append_assoc, List.cons_append, List.nil_append] at e e2
      unfold F11_lets F11_childLets F11_plainLets
      simp (disch := omega) only [gd_t, stw_v, cpw_v, jn_v, b1_v, b2_v, w32_id, rd_wr_s, rd_wr_k, rd_wr_i, bz_0, bz_n, if_pos, if_neg, if_true, if_false, ne_eq, not_true_eq_false, not_false_eq_true, k4, k5, a, ran_e 70 h2 (show L.length < 500 by omega), ran_e 20 h2 (show (L ++ [70]).length < 500 by simp; omega), ran_e 10 h2 (show (L ++ [70, 20]).length < 500 by simp; omega), List.append_assoc, List.cons_append, List.nil_append, e, e2]
  by_cases b : k = 1 ∨ k = 3
  · refine ⟨w32 (w32 (r * 2) + c), [20, 10] ++ K, by simp; omega, fun L hL => ?_, fun m' hn L hL => ?_⟩
    · show F5_lets (bgs m L) x = _
      have e := hc.1 (L ++ [20, 10]) (by simp; omega)
      simp only [List.append_assoc, List.cons_append, List.nil_append] at e
      unfold F5_lets
      rw [bz_pos (by omega)] at un
      simp (disch := omega) only [gd_t, stw_v, cpw_v, jn_v, b1_v, b2_v, w32_id, rd_wr_s, rd_wr_k, rd_wr_i, bz_0, bz_n, if_pos, if_neg, if_true, if_false, ne_eq, not_true_eq_false, not_false_eq_true, k1, k2, k3, un, began_e 20 h1 (show L.length < 500 by omega), began_e 10 h1 (show (L ++ [20]).length < 500 by simp; omega), List.append_assoc, List.cons_append, List.nil_append, e]
    · have k4 := an_k hn; have k5 := an_c hn; have h2 := hn.1
      show F11_lets (rns m' L) p x = _
      have e := hc.2 m' hn (L ++ [20, 10]) (by simp; omega)
      simp only [List.append_assoc, List.cons_append, List.nil_append] at e
      unfold F11_lets F11_childLets F11_plainLets
      rw [bz_pos (by omega)] at um
      simp (disch := omega) only [gd_t, stw_v, cpw_v, jn_v, b1_v, b2_v, w32_id, rd_wr_s, rd_wr_k, rd_wr_i, bz_0, bz_n, if_pos, if_neg, if_true, if_false, ne_eq, not_true_eq_false, not_false_eq_true, k4, k5, um, ran_e 20 h2 (show L.length < 500 by omega), ran_e 10 h2 (show (L ++ [20]).length < 500 by simp; omega), List.append_assoc, List.cons_append, List.nil_append, e]
  · refine ⟨w32 (r * 2), [10] ++ K, by simp; omega, fun L hL => ?_, fun m' hn L hL => ?_⟩
    · show F5_lets (bgs m L) x = _
      have e := hc.1 (L ++ [10]) (by simp; omega)
      simp only [List.append_assoc, List.cons_append, List.nil_append] at e
      unfold F5_lets
      rw [bz_neg (by omega)] at un
      simp (disch := omega) only [gd_t, stw_v, cpw_v, jn_v, b1_v, b2_v, w32_id, rd_wr_s, rd_wr_k, rd_wr_i, bz_0, bz_n, if_pos, if_neg, if_true, if_false, ne_eq, not_true_eq_false, not_false_eq_true, k1, k2, k3, un, began_e 10 h1 (show L.length < 500 by omega), List.append_assoc, List.cons_append, List.nil_append, e]
    · have k4 := an_k hn; have k5 := an_c hn; have h2 := hn.1
      show F11_lets (rns m' L) p x = _
      have e := hc.2 m' hn (L ++ [10]) (by simp; omega)
      simp only [List.append_assoc, List.cons_append, List.nil_append] at e
      unfold F11_lets F11_plainLets
      rw [bz_neg (by omega)] at um
      simp (disch := omega) only [gd_t, stw_v, cpw_v, jn_v, b1_v, b2_v, w32_id, rd_wr_s, rd_wr_k, rd_wr_i, bz_0, bz_n, if_pos, if_neg, if_true, if_false, ne_eq, not_true_eq_false, not_false_eq_true, k4, k5, um, ran_e 10 h2 (show L.length < 500 by omega), List.append_assoc, List.cons_append, List.nil_append, e]
theorem ap_tells (h : AM m p c k) (x : Int) : AP 17 100 m p c k (fun M => F5_tells M x) (fun M => F11_tells M p x) := by
  have k1 := am_k h; have k2 := am_p h
  obtain ⟨r, K, hK, hc⟩ := ap_lets h x
  obtain ⟨rh, KH, hKH, hh⟩ := ap_holds h 1
  obtain ⟨h1, -, -, -, h8, h9, h10, h11⟩ := h
  by_cases a : k = 3
  · refine ⟨bxor (w32 (r - rh)) 5, [41, 2] ++ (K ++ KH), by simp; omega, fun L hL => ?_, fun m' hn L hL => ?_⟩
    · show F5_tells (bgs m L) x = _
      have e := hc.1 (L ++ [41, 2]) (by simp; omega)
      have e2 := hh.1 (L ++ ([41, 2] ++ K)) (by simp; omega)
      simp only [List.append_assoc, List.cons_append, List.nil_append] at e e2
      unfold F5_tells
      simp (disch := omega) only [gd_t, stw_v, cpw_v, jn_v, b1_v, b2_v, w32_id, rd_wr_s, rd_wr_k, rd_wr_i, bz_0, bz_n, if_pos, if_neg, if_true, if_false, ne_eq, not_true_eq_false, not_false_eq_true, k1, k2, a, began_e 41 h1 (show L.length < 500 by omega), began_e 2 h1 (show (L ++ [41]).length < 500 by simp; omega), List.append_assoc, List.cons_append, List.nil_append, e, e2]
    · have k4 := an_k hn; have k5 := an_c hn; have h2 := hn.1
      show F11_tells (rns m' L) p x = _
      have e := hc.2 m' hn (L ++ [41, 2]) (by simp; omega)
      have e2 := hh.2 m' hn (L ++ ([41, 2] ++ K)) (by simp; omega)
      simp only [List.append_assoc, List.cons_append, List.nil_append] at e e2
      unfold F11_tells F11_plainTells
      simp (disch := omega) only [gd_t, stw_v, cpw_v, jn_v, b1_v, b2_v, w32_id, rd_wr_s, rd_wr_k, rd_wr_i, bz_0, bz_n, if_pos, if_neg, if_true, if_false, ne_eq, not_true_eq_false, not_false_eq_true, k4, a, ran_e 41 h2 (show L.length < 500 by omega), ran_e 2 h2 (show (L ++ [41]).length < 500 by simp; omega), List.append_assoc, List.cons_append, List.nil_append, e, e2]
  · refine ⟨w32 (r - rh), [2] ++ (K ++ KH), by simp; omega, fun L hL => ?_, fun m' hn L hL => ?_⟩
    · show F5_tells (bgs m L) x = _
      have e := hc.1 (L ++ [2]) (by simp; omega)
      have e2 := hh.1 (L ++ ([2] ++ K)) (by simp; omega)
      simp only [List.append_assoc, List.cons_append, List.nil_append] at e e2
      unfold F5_tells
      simp (disch := omega) only [gd_t, stw_v, cpw_v, jn_v, b1_v, b2_v, w32_id, rd_wr_s, rd_wr_k, rd_wr_i, bz_0, bz_n, if_pos, if_neg, if_true, if_false, ne_eq, not_true_eq_false, not_false_eq_true, k1, k2, began_e 2 h1 (show L.length < 500 by omega), List.append_assoc, List.cons_append, List.nil_append, e, e2]
    · have k4 := an_k hn; have k5 := an_c hn; have h2 := hn.1
      show F11_tells (rns m' L) p x = _
      have e := hc.2 m' hn (L ++ [2]) (by simp; omega)
      have e2 := hh.2 m' hn (L ++ ([2] ++ K)) (by simp; omega)
      simp only [List.append_assoc, List.cons_append, List.nil_append] at e e2
      unfold F11_tells F11_plainTells
      simp (disch := omega) only [gd_t, stw_v, cpw_v, jn_v, b1_v, b2_v, w32_id, rd_wr_s, rd_wr_k, rd_wr_i, bz_0, bz_n, if_pos, if_neg, if_true, if_false, ne_eq, not_true_eq_false, not_false_eq_true, k4, ran_e 2 h2 (show L.length < 500 by omega), List.append_assoc, List.cons_append, List.nil_append, e, e2]
end ACT
/-- after an act: the traces are alike -/
theorem iPa_act {m m1 m2 : Mem} {K : List Int} (h7 : iPa m) (hK : K.length ≤ 20)
    (e0 : rd m2 66 0 = rd m 66 0) (e46 : rd m2 83 46 = rd m 83 46) (e67 : ∀ i, rd m2 67 i = rd m 67 i) (e69 : ∀ i, rd m2 69 i = rd m 69 i) (e116 : ∀ i, rd m2 116 i = rd m 116 i) (e117 : ∀ i, rd m2 117 i = rd m 117 i)
    (e1 : rd m2 66 1 = K.length) (e49 : rd m2 83 49 = K.length) (et : ∀ i, 0 ≤ i → i < 24 → i < (K.length : Int) → rd m2 68 i = rd m2 118 i) : iPa m2 := by
  obtain ⟨p1, p2, p3, p4, p5⟩ := h7
  unfold iPa
  rw [e0, e46, e1, e49]
  exact ⟨p1, p2, p3, fun i x y => by rw [e67, e69, e116, e117]; exact p4 i x y, by omega, by omega, rfl, et⟩
theorem st_act {n : Nat} {m : Mem} (p a x : Int) (hI : Inv n m) : Sq n (fun m => F10_act m p a x) (fun m => F11_act m p a x) m := by
  obtain ⟨h1, h2, h3, h4, h5, h6, h7, h8, h9, h10⟩ := hI
  have p1 := h7.1; have p2 := h7.2.1; have p3 := h7.2.2.1; have p4 := h7.2.2.2.1
  -- both ends: K ran from the memory b, the answer is r
  have fin : ∀ (b m' : Mem) (r : Int) (K : List Int), K.length ≤ 20 → (∀ k i, ¬ (k = 66 ∧ (i = 1 ∨ i = 5 ∨ i = 6 ∨ i = 7)) → b k i = m k i) → rd b 66 1 = 0 →
      m' = rns (wr (bgs b K) 83 49 0) K → F10_act m p a x = some (r, bgs b K) → F11_act (bgs b K) p a x = some (r, m') → Sq n (fun m => F10_act m p a x) (fun m => F11_act m p a x) m := by
    intro b m' r K hK hb hb1 hm' f1 f2
    refine ⟨r, bgs b K, m', f1, f2, ?_⟩
    have g : ∀ k i, k ≠ 68 → k ≠ 118 → ¬ (k = 66 ∧ (i = 1 ∨ i = 5 ∨ i = 6 ∨ i = 7)) → ¬ (k = 83 ∧ i = 49) → m' k i = m k i := by
      intro k i a1 a2 a3 a4
      rw [hm', rns_o a2 a4, wr_ki a4, bgs_o a1 (by omega)]
      exact hb k i a3
    have z49 : rd (wr (bgs b K) 83 49 0) 83 49 = 0 := by simp (disch := omega) only [gd_t, stw_v, cpw_v, jn_v, b1_v, b2_v, w32_id, rd_wr_s, rd_wr_k, rd_wr_i, bz_0, bz_n, if_pos, if_neg, if_true, if_false, ne_eq, not_true_eq_false, not_false_eq_true]
    have e1 : rd m' 66 1 = K.length := by
      rw [hm', rd_eq (rns_o (by omega) (by omega) _ _), rd_wr_k (by omega), bgs_1 K b (by omega) (by omega)]; omega
    have e49 : rd m' 83 49 = K.length := by
      rw [hm', rns_1 K _ (by omega) (by omega)]; omega
    have et : ∀ i, 0 ≤ i → i < 24 → i < (K.length : Int) → rd m' 68 i = rd m' 118 i := by
      intro i y0 y1 y2
      have := tr_l K b (wr (bgs b K) 83 49 0) (by omega) (by omega) (by omega) (fun i _ _ q => by omega) i y0 y1 (by omega)
      rw [hm', rd_eq (rns_o (k := 68) (by omega) (by omega) _ _), rd_wr_k (by omega)]
      exact this
    refine ⟨iCh_s ?_ h1, iCe_s ?_ h2, iTo_s ?_ h3, iLo_s ?_ h4, iHi_s ?_ h5, iTp_s ?_ h6, iPa_act (m1 := m) h7 hK (rd_eq (g _ _ (by omega) (by omega) (by omega) (by omega))) (rd_eq (g _ _ (by omega) (by omega) (by omega) (by omega))) (fun i => rd_eq (g _ _ (by omega) (by omega) (by omega) (by omega))) (fun i => rd_eq (g _ _ (by omega) (by omega) (by omega) (by omega))) (fun i => rd_eq (g _ _ (by omega) (by omega) (by omega) (by omega))) (fun i => rd_eq (g _ _ (by omega) (by omega) (by omega) (by omega))) e1 e49 et, iSh_s ?_ h8, iLi_s ?_ h9, ?_⟩
    · exact fun k i q => g k i (by unfold PCh at q; omega) (by unfold PCh at q; omega) (by unfold PCh at q; omega) (by unfold PCh at q; omega)
    · exact fun k i q => g k i (by unfold PCe at q; omega) (by unfold PCe at q; omega) (by unfold PCe at q; omega) (by unfold PCe at q; omega)
    · exact fun k i q => g k i (by unfold PTo at q; omega) (by unfold PTo at q; omega) (by unfold PTo at q; omega) (by unfold PTo at q; omega)
    · exact fun k i q => g k i (by unfold PLo at q; omega) (by unfold PLo at q; omega) (by unfold PLo at q; omega) (by unfold PLo at q; omega)
    · exact fun k i q => g k i (by unfold PHi at q; omega) (by unfold PHi at q; omega) (by unfold PHi at q; omega) (by unfold PHi at q; omega)
    · exact fun k i q => g k i (by unfold PTp at q; omega) (by unfold PTp at q; omega) (by unfold PTp at q; omega) (by unfold PTp at q; omega)
    · exact fun k i q => g k i (by unfold PSh at q; omega) (by unfold PSh at q; omega) (by unfold PSh at q; omega) (by unfold PSh at q; omega)
    · exact fun k i q => g k i (by unfold PLi at q; omega) (by unfold PLi at q; omega) (by unfold PLi at q; omega) (by unfold PLi at q; omega)
    · have := iBt_s (n := n) (m := m) (m' := m') (fun k i q => g k i (by unfold PBt at q; omega) (by unfold PBt at q; omega) (by unfold PBt at q; omega) (by unfold PBt at q; omega)) h10
      obtain ⟨x1, x2, x3, x4, x5, x6, x7⟩ := this
      exact ⟨x1, x2, x3, by omega, x5, x6, x7⟩
  by_cases hp : 0 ≤ p ∧ p < rd m 66 0
  · obtain ⟨c0, c1, c2, c3, c4, c5⟩ := p4 p hp.1 hp.2
    obtain ⟨b, hb⟩ : ∃ b, b = wr (wr (wr (wr m 66 1 0) 66 5 (rd m 67 p)) 66 6 p) 66 7 (rd m 69 p) := ⟨_, rfl⟩
    have bo : ∀ k i, ¬ (k = 66 ∧ (i = 1 ∨ i = 5 ∨ i = 6 ∨ i = 7)) → b k i = m k i := by
      intro k i q; rw [hb]; simp (disch := omega) only [wr_ki]
    have b1' : rd b 66 1 = 0 := by rw [hb]; simp (disch := omega) only [gd_t, stw_v, cpw_v, jn_v, b1_v, b2_v, w32_id, rd_wr_s, rd_wr_k, rd_wr_i, bz_0, bz_n, if_pos, if_neg, if_true, if_false, ne_eq, not_true_eq_false, not_false_eq_true]
    have amb : AM b p (rd m 69 p) (rd m 67 p) := ⟨b1', by rw [hb]; simp (disch := omega) only [gd_t, stw_v, cpw_v, jn_v, b1_v, b2_v, w32_id, rd_wr_s, rd_wr_k, rd_wr_i, bz_0, bz_n, if_pos, if_neg, if_true, if_false, ne_eq, not_true_eq_false, not_false_eq_true], by rw [hb]; simp (disch := omega) only [gd_t, stw_v, cpw_v, jn_v, b1_v, b2_v, w32_id, rd_wr_s, rd_wr_k, rd_wr_i, bz_0, bz_n, if_pos, if_neg, if_true, if_false, ne_eq, not_true_eq_false, not_false_eq_true], by rw [hb]; simp (disch := omega) only [gd_t, stw_v, cpw_v, jn_v, b1_v, b2_v, w32_id, rd_wr_s, rd_wr_k, rd_wr_i, bz_0, bz_n, if_pos, if_neg, if_true, if_false, ne_eq, not_true_eq_false, not_false_eq_true], hp.1, by omega, c0, c1⟩
    have anb : ∀ K, AN (wr (bgs b K) 83 49 0) p (rd m 69 p) (rd m 67 p) := by
      intro K
      refine ⟨by simp (disch := omega) only [gd_t, stw_v, cpw_v, jn_v, b1_v, b2_v, w32_id, rd_wr_s, rd_wr_k, rd_wr_i, bz_0, bz_n, if_pos, if_neg, if_true, if_false, ne_eq, not_true_eq_false, not_false_eq_true], ?_, ?_⟩
      · rw [rd_wr_k (by omega), rd_eq (bgs_o (by omega) (by omega) _ _), rd_eq (bo _ _ (by omega))]; exact c2
      · rw [rd_wr_k (by omega), rd_eq (bgs_o (by omega) (by omega) _ _), rd_eq (bo _ _ (by omega))]; exact c3
    have q46 : ∀ K, rd (wr (bgs b K) 83 49 0) 83 46 = rd m 66 0 := fun K => by
      rw [rd_wr_i (by omega), rd_eq (bgs_o (by omega) (by omega) _ _), rd_eq (bo _ _ (by omega))]; exact p3
    have perf : F5_perform (wr m 66 1 0) p a x = if a = 0 then b2 (F5_costs b x) (fun r q => some (r, q)) else if a = 1 then b2 (F5_lets b x) (fun r q => some (r, q)) else if a = 2 then b2 (F5_holds b x) (fun r q => some (r, q)) else if a = 3 then b2 (F5_tells b x) (fun r q => some (r, q)) else some (0, b) := by
      unfold F5_perform
      simp (disch := omega) only [gd_t, stw_v, rd_wr_k, rd_wr_i]
      rw [← hb]
    have dv : F10_act m p a x = b2 (F5_perform (wr m 66 1 0) p a x) (fun r q => some (r, q)) := by
      unfold F10_act
      rw [stw_v, F5_has_e]
      simp (disch := omega) only [gd_t, stw_v, cpw_v, jn_v, b1_v, b2_v, w32_id, rd_wr_s, rd_wr_k, rd_wr_i, bz_0, bz_n, if_pos, if_neg, if_true, if_false, ne_eq, not_true_eq_false, not_false_eq_true]
    have rv : ∀ K, F11_act (bgs b K) p a x = if ¬ (0 ≤ a ∧ a ≤ 3) then some (0, wr (bgs b K) 83 49 0) else if a = 0 then b2 (F11_costs (wr (bgs b K) 83 49 0) p x) (fun r q => some (r, q)) else if a = 1 then b2 (F11_lets (wr (bgs b K) 83 49 0) p x) (fun r q => some (r, q)) else if a = 2 then b2 (F11_keeps (wr (bgs b K) 83 49 0) p x) (fun r q => some (r, q)) else b2 (F11_tells (wr (bgs b K) 83 49 0) p x) (fun r q => some (r, q)) := by
      intro K
      unfold F11_act F11_isBody
      rw [stw_v, F11_in_e, F11_in_e, q46]
      simp (disch := omega) only [gd_t, stw_v, cpw_v, jn_v, b1_v, b2_v, w32_id, rd_wr_s, rd_wr_k, rd_wr_i, bz_0, bz_n, if_pos, if_neg, if_true, if_false, ne_eq, not_true_eq_false, not_false_eq_true]
      by_cases g : 0 ≤ a ∧ a ≤ 3
      · rcases (show a = 0 ∨ a = 1 ∨ a = 2 ∨ a = 3 by omega) with rfl | rfl | rfl | rfl <;> simp (disch := omega) only [gd_t, stw_v, cpw_v, jn_v, b1_v, b2_v, w32_id, rd_wr_s, rd_wr_k, rd_wr_i, bz_0, bz_n, if_pos, if_neg, if_true, if_false, ne_eq, not_true_eq_false, not_false_eq_true]
      · simp (disch := omega) only [gd_t, stw_v, cpw_v, jn_v, b1_v, b2_v, w32_id, rd_wr_s, rd_wr_k, rd_wr_i, bz_0, bz_n, if_pos, if_neg, if_true, if_false, ne_eq, not_true_eq_false, not_false_eq_true]
    have go : ∀ (f g : Mem → Option (Int × Mem)), AP 17 100 b p (rd m 69 p) (rd m 67 p) f g → F5_perform (wr m 66 1 0) p a x = b2 (f b) (fun r q => some (r, q)) → (∀ K, F11_act (bgs b K) p a x = b2 (g (wr (bgs b K) 83 49 0)) (fun r q => some (r, q))) → Sq n (fun m => F10_act m p a x) (fun m => F11_act m p a x) m := by
      intro f g ⟨r, K, hK, hf, hg⟩ e1 e2
      have y1 := hf [] (by decide)
      have y2 := hg _ (anb K) [] (by decide)
      refine fin b _ r K (by omega) bo b1' rfl ?_ ?_
      · rw [dv, e1]
        have : f b = some (r, bgs b K) := y1
        rw [this, b2_v, b2_v]
      · rw [e2]
        have : g (wr (bgs b K) 83 49 0) = some (r, rns (wr (bgs b K) 83 49 0) K) := y2
        rw [this, b2_v]
    have up : ∀ {N B : Nat} {f g : Mem → Option (Int × Mem)}, N ≤ 17 → 100 ≤ B → AP N B b p (rd m 69 p) (rd m 67 p) f g → AP 17 100 b p (rd m 69 p) (rd m 67 p) f g := by
      intro N B f g hN hB ⟨r, K, hK, hf, hg⟩
      exact ⟨r, K, by omega, fun L hL => hf L (by omega), fun m' hn L hL => hg m' hn L (by omega)⟩
    by_cases a0 : a = 0
    · exact go _ _ (up (by decide) (by decide) (ap_costs amb x)) (by rw [perf, if_pos a0]) (fun K => by rw [rv, if_neg (by omega), if_pos a0])
    by_cases a1 : a = 1
    · exact go _ _ (up (by decide) (by decide) (ap_lets amb x)) (by rw [perf, if_neg a0, if_pos a1]) (fun K => by rw [rv, if_neg (by omega), if_neg a0, if_pos a1])
    by_cases a2 : a = 2
    · exact go _ _ (up (by decide) (by decide) (ap_holds amb x)) (by rw [perf, if_neg a0, if_neg a1, if_pos a2]) (fun K => by rw [rv, if_neg (by omega), if_neg a0, if_neg a1, if_pos a2])
    by_cases a3 : a = 3
    · exact go _ _ (up (by decide) (by decide) (ap_tells amb x)) (by rw [perf, if_neg a0, if_neg a1, if_neg a2, if_pos a3]) (fun K => by rw [rv, if_neg (by omega), if_neg a0, if_neg a1, if_neg a2])
    · refine fin b (wr (bgs b []) 83 49 0) 0 [] (by decide) bo b1' rfl ?_ ?_
      · rw [dv, perf, if_neg a0, if_neg a1, if_neg a2, if_neg a3, b2_v]; rfl
      · rw [rv, if_pos (by omega)]
  · refine fin (wr m 66 1 0) (wr (wr m 66 1 0) 83 49 0) 0 [] (by decide) (fun k i q => wr_ki (by omega)) (by simp (disch := omega) only [gd_t, stw_v, cpw_v, jn_v, b1_v, b2_v, w32_id, rd_wr_s, rd_wr_k, rd_wr_i, bz_0, bz_n, if_pos, if_neg, if_true, if_false, ne_eq, not_true_eq_false, not_false_eq_true]) rfl ?_ ?_
    · unfold F10_act
      rw [stw_v, F5_has_e]
      simp (disch := omega) only [gd_t, stw_v, cpw_v, jn_v, b1_v, b2_v, w32_id, rd_wr_s, rd_wr_k, rd_wr_i, bz_0, bz_n, if_pos, if_neg, if_true, if_false, ne_eq, not_true_eq_false, not_false_eq_true]
      rfl
    · show F11_act (wr m 66 1 0) p a x = _
      have q : rd (wr (wr m 66 1 0) 83 49 0) 83 46 = rd m 66 0 := by simp (disch := omega) only [gd_t, stw_v, cpw_v, jn_v, b1_v, b2_v, w32_id, rd_wr_s, rd_wr_k, rd_wr_i, bz_0, bz_n, if_pos, if_neg, if_true, if_false, ne_eq, not_true_eq_false, not_false_eq_true, p3]
      unfold F11_act F11_isBody
      rw [stw_v, F11_in_e, q]
      simp (disch := omega) only [gd_t, stw_v, cpw_v, jn_v, b1_v, b2_v, w32_id, rd_wr_s, rd_wr_k, rd_wr_i, bz_0, bz_n, if_pos, if_neg, if_true, if_false, ne_eq, not_true_eq_false, not_false_eq_true]
