/-! a charter more: lost, and what both sides share of charter -/
theorem rd_cpy_k {m : Mem} {k1 k2 k : Nat} {i j n x : Int} (h : k ≠ k2) : rd (cpy m k1 i k2 j n) k x = rd m k x := rd_eq (cpy_ki h)
theorem cpy_no {m : Mem} {k1 k2 k : Nat} {i j n x : Int} (h : ¬ (k = k2 ∧ j ≤ x ∧ x < j + n)) : cpy m k1 i k2 j n k x = m k x := by unfold cpy; rw [if_neg h]
theorem rd_cpy_i {m : Mem} {k1 k2 : Nat} {i j n x : Int} (h : j ≤ x) (h' : x < j + n) : rd (cpy m k1 i k2 j n) k2 x = rd m k1 (i + (x - j)) := by
  unfold rd cpy; rw [if_pos ⟨rfl, h, h'⟩]
/-- what may change when a charter comes -/
def QA (m : Mem) (k : Nat) (i : Int) : Prop := k = 1 ∨ k = 3 ∨ (k = 83 ∧ (i = 1 ∨ i = 10 ∨ i = 11 ∨ i = 12)) ∨ (k = 4 ∧ i = 0) ∨ (((5 ≤ k ∧ k ≤ 8) ∨ (84 ≤ k ∧ k ≤ 88)) ∧ i = rd m 83 1) ∨ (k = 9 ∧ ((16 * rd m 83 1 ≤ i ∧ i < 16 * rd m 83 1 + 16) ∨ i = 197 + rd m 83 1)) ∨ (k = 89 ∧ 16 * rd m 83 1 ≤ i ∧ i < 16 * rd m 83 1 + 16)
theorem acyc_add {C : Int} {f : Int → Int} (h0 : 0 ≤ C) (h : acyc C f) : acyc (C + 1) (fun c => if c = C then -1 else f c) := by
  obtain ⟨a, rk, b⟩ := h
  refine ⟨fun c x y => ?_, rk, fun c x y => ?_⟩
  · dsimp only
    split
    · omega
    · have := a c x (by omega); omega
  · dsimp only
    split
    · intro; omega
    · intro q; exact b c x (by omega) q
theorem Inv_add {n : Nat} {m m2 : Mem} (hI : Inv n m) (hC : rd m 83 1 < 12) (e1 : rd m2 83 1 = rd m 83 1 + 1) (e4 : rd m2 4 0 = rd m 83 1 + 1) (g : ∀ k i, ¬ QA m k i → m2 k i = m k i)
    (v5 : rd m2 5 (rd m 83 1) = rd m2 84 (rd m 83 1)) (v6 : rd m2 6 (rd m 83 1) = rd m2 85 (rd m 83 1)) (v7 : rd m2 7 (rd m 83 1) = rd m2 86 (rd m 83 1)) (v8 : rd m2 8 (rd m 83 1) = rd m2 87 (rd m 83 1))
    (w1 : 0 ≤ rd m2 84 (rd m 83 1)) (w2 : rd m2 84 (rd m 83 1) ≤ rd m2 85 (rd m 83 1)) (w3 : rd m2 85 (rd m 83 1) ≤ 999) (w4 : -1 ≤ rd m2 86 (rd m 83 1)) (w5 : rd m2 86 (rd m 83 1) < rd m 83 1) (w6 : inZ (rd m2 87 (rd m 83 1)))
    (v9 : ∀ k, 0 ≤ k → k < 16 → rd m2 9 (16 * rd m 83 1 + k) = rd m2 89 (16 * rd m 83 1 + k) ∧ isF (rd m2 89 (16 * rd m 83 1 + k)))
    (x1 : rd m2 88 (rd m 83 1) = -1) (x2 : rd m2 9 (197 + rd m 83 1) = -1) (tp : iTp m2) : Inv (n + 1) m2 := by
  obtain ⟨⟨a1, a2, a3, a4, a5⟩, ⟨c1, c2, c3⟩, h3, ⟨l1, l2, l3, l4, l5, l6⟩, ⟨h, hh1, hh2, hh3, hh4⟩, h6, h7, h8, ⟨i1, i2, i3, i4, i5⟩, h10⟩ := hI
  have d13 : rd m2 83 13 = rd m 83 13 := rd_eq (g _ _ (by unfold QA; omega))
  have d14 : rd m2 83 14 = rd m 83 14 := rd_eq (g _ _ (by unfold QA; omega))
  refine ⟨?_, ?_, iTo_s ?_ h3, ?_, ?_, tp, iPa_s ?_ h7, iSh_s ?_ h8, ?_, ?_⟩
  · unfold iCh
    rw [e1, e4]
    refine ⟨by omega, by omega, rfl, fun c x y => ?_, fun c x y => ?_⟩
    · by_cases z : c = rd m 83 1
      · subst z; exact ⟨v5, v6, v7, v8, w1, w2, w3, w4, w5, w6⟩
      · rw [rd_eq (g 5 c (by unfold QA; omega)), rd_eq (g 6 c (by unfold QA; omega)), rd_eq (g 7 c (by unfold QA; omega)), rd_eq (g 8 c (by unfold QA; omega)), rd_eq (g 84 c (by unfold QA; omega)), rd_eq (g 85 c (by unfold QA; omega)), rd_eq (g 86 c (by unfold QA; omega)), rd_eq (g 87 c (by unfold QA; omega))]
        exact a4 c x (by omega)
    · rw [rd_eq (g 8 c (by unfold QA; omega))]; exact a5 c (by omega) y
  · unfold iCe
    rw [e1]
    refine ⟨fun c k x y u w => ?_, fun k x y => ?_, fun c x y => ?_⟩
    · by_cases z : c = rd m 83 1
      · subst z; exact v9 k u w
      · rw [rd_eq (g 9 _ (by unfold QA; omega)), rd_eq (g 89 _ (by unfold QA; omega))]; exact c1 c k x (by omega) u w
    · rw [rd_eq (g 9 _ (by unfold QA; omega)), rd_eq (g 90 _ (by unfold QA; omega))]; exact c2 k x y
    · by_cases z : c = rd m 83 1
      · subst z; rw [x1, x2]
      · rw [rd_eq (g 9 _ (by unfold QA; omega)), rd_eq (g 88 _ (by unfold QA; omega))]; exact c3 c x (by omega)
  · exact fun k i q => g k i (by unfold PTo at q; unfold QA; omega)
  · unfold iLo
    rw [d13, d14, rd_eq (g 4 10 (by unfold QA; omega)), rd_eq (g 4 11 (by unfold QA; omega))]
    refine ⟨l1, l2, l3, l4, l5, fun i x y => ?_⟩
    obtain ⟨p, q, r⟩ := l6 i x y
    unfold logC
    rw [e1, rd_eq (g 10 i (by unfold QA; omega)), rd_eq (g 11 i (by unfold QA; omega)), rd_eq (g 12 i (by unfold QA; omega)), rd_eq (g 92 i (by unfold QA; omega)), rd_eq (g 93 i (by unfold QA; omega)), rd_eq (g 94 i (by unfold QA; omega)), rd_eq (g 95 i (by unfold QA; omega))]
    refine ⟨p, q, ?_⟩
    rcases r with ⟨r0, r1, r2, r3⟩ | r | ⟨r0, r1, r2, r3⟩
    · exact Or.inl ⟨r0, r1, by omega, r3⟩
    · exact Or.inr (Or.inl r)
    · exact Or.inr (Or.inr ⟨r0, r1, by omega, r3⟩)
  · have f92 : ∀ i, rd m2 92 i = rd m 92 i := fun i => rd_eq (g 92 i (by unfold QA; omega))
    have f93 : ∀ i, rd m2 93 i = rd m 93 i := fun i => rd_eq (g 93 i (by unfold QA; omega))
    have f94 : ∀ i, rd m2 94 i = rd m 94 i := fun i => rd_eq (g 94 i (by unfold QA; omega))
    have f95 : ∀ i, rd m2 95 i = rd m 95 i := fun i => rd_eq (g 95 i (by unfold QA; omega))
    refine ⟨fun j c => if c = rd m 83 1 then -1 else h j c, ?_, ?_, ?_, ?_⟩
    · intro j x y
      rw [e1]
      exact acyc_add a1 (hh1 j x (by omega))
    · intro c x y
      rw [d13]
      dsimp only
      by_cases z : c = rd m 83 1
      · rw [if_pos z, z, x1]
      · rw [if_neg z, rd_eq (g 88 c (by unfold QA; omega))]; exact hh2 c x (by omega)
    · intro j x y z
      rw [d13, d14] at y
      rw [f92] at z
      rw [f93, f94, f95]
      obtain ⟨p, q, r⟩ := l6 j x y
      have : rd m 93 j < rd m 83 1 := by unfold logC at r; omega
      dsimp only
      rw [if_neg (by omega), if_neg (by omega)]
      exact hh3 j x y z
    · intro j c x y u w z
      rw [d13, d14] at y
      rw [f92, f93] at z
      dsimp only
      by_cases t : c = rd m 83 1
      · rw [if_pos t, if_pos t]
      · rw [if_neg t, if_neg t]; exact hh4 j c x y u (by omega) z
  · exact fun k i q => g k i (by unfold PPa at q; unfold QA; omega)
  · exact fun k i q => g k i (by unfold PSh at q; unfold QA; omega)
  · unfold iLi
    rw [e1, rd_eq (g 31 2 (by unfold QA; omega)), rd_eq (g 83 28 (by unfold QA; omega))]
    refine ⟨i1, i2, i3, fun i x y => ?_, fun i j x y z w => ?_⟩
    · rw [rd_eq (g 44 i (by unfold QA; omega)), rd_eq (g 103 i (by unfold QA; omega))]
      have := i4 i x y; omega
    · rw [rd_eq (g 103 i (by unfold QA; omega)), rd_eq (g 103 j (by unfold QA; omega))]
      exact i5 i j x y z w
  · have := iBt_s (n := n) (m := m) (m' := m2) (fun k i q => g k i (by unfold PBt at q; unfold QA; omega)) h10
    obtain ⟨y1, y2, y3, y4, y5, y6, y7⟩ := this
    exact ⟨y1, y2, y3, by omega, y5, y6, y7⟩
theorem L_clear {c : Int} (h0 : 0 ≤ c) (h1 : c < 12) : ∀ (d n : Nat) (j : Int) (m : Mem), j + d = 16 → d < n → 0 ≤ j → L11_clear_39 c n j m = some (fil m 89 (16 * c + j) (16 * c + 16) 9) := by
  intro d
  induction d with
  | zero =>
    intro n j m h0 h1 h2
    obtain ⟨n, rfl⟩ : ∃ i, n = i + 1 := ⟨n - 1, by omega⟩
    rw [L11_clear_39, if_pos (by omega), fil_0 (by omega)]
  | succ d ih =>
    intro n j m h0 h1 h2
    obtain ⟨n, rfl⟩ : ∃ i, n = i + 1 := ⟨n - 1, by omega⟩
    rw [L11_clear_39]
    simp (disch := omega) only [gd_t, stw_v, cpw_v, jn_v, b1_v, b2_v, w32_id, rd_wr_s, rd_wr_k, rd_wr_i, bz_0, bz_n, if_pos, if_neg, if_true, if_false, ne_eq, not_true_eq_false, not_false_eq_true]
    rw [ih n (j + 1) _ (by omega) (by omega) (by omega), show 16 * c + (j + 1) = 16 * c + j + 1 by omega, fil_s (by omega)]
def clm (m : Mem) (c : Int) : Mem := fil (wr (wr (wr (wr (wr m 84 c 0) 85 c 999) 86 c (-1)) 87 c 0) 88 c (-1)) 89 (16 * c) (16 * c + 16) 9
theorem clear_e {m : Mem} {c : Int} (h0 : 0 ≤ c) (h1 : c < 12) : F11_clear m c = some (clm m c) := by
  unfold F11_clear clm
  simp (disch := omega) only [gd_t, stw_v, cpw_v, jn_v, b1_v, b2_v, w32_id, rd_wr_s, rd_wr_k, rd_wr_i, bz_0, bz_n, if_pos, if_neg, if_true, if_false, ne_eq, not_true_eq_false, not_false_eq_true]
  rw [L_clear h0 h1 16 FU 0 _ (by omega) (by rw [FU_eq]; omega) (by omega), show 16 * c + 0 = 16 * c by omega]
def addm (m : Mem) (a4 : Nat) (a b s c : Int) : Mem := wr (wr (cpy (wr (wr (wr m 5 c a) 6 c b) 7 c s) a4 0 9 (16 * c) 16) 9 (197 + c) (-1)) 4 0 (c + 1)
theorem add_e {m : Mem} {a4 : Nat} {a b s c : Int} (hc : rd m 4 0 = c) (h0 : 0 ≤ c) (h1 : c < 12) : F1_add m a4 a b s = some (c, addm m a4 a b s c) := by
  unfold F1_add addm
  simp (disch := omega) only [gd_t, stw_v, cpw_v, jn_v, b1_v, b2_v, w32_id, rd_wr_s, rd_wr_k, rd_wr_i, bz_0, bz_n, if_pos, if_neg, if_true, if_false, ne_eq, not_true_eq_false, not_false_eq_true, hc, formCell_e, motherCell_e, rd_cpy_k, Int.add_zero]
theorem st_lost {n : Nat} {m : Mem} (hI : Inv n m) : Sq n (fun m => F10_lost m) (fun m => F11_lost m) m := by
  have hI' := hI
  obtain ⟨⟨a1, a2, a3, a4, a5⟩, h2, h3, h4, h5, h6, h7, h8, h9, h10⟩ := hI
  by_cases a : rd m 83 1 < 12
  · obtain ⟨m1, hm1⟩ : ∃ m1, m1 = wr (addm m 13 0 999 (-1) (rd m 83 1)) 8 (rd m 83 1) 1 := ⟨_, rfl⟩
    obtain ⟨m2, hm2⟩ : ∃ m2, m2 = wr (wr (clm m1 (rd m 83 1)) 87 (rd m 83 1) 1) 83 1 (rd m 83 1 + 1) := ⟨_, rfl⟩
    have q1 : rd m1 83 1 = rd m 83 1 := by
      rw [hm1]; unfold addm; simp (disch := omega) only [gd_t, stw_v, cpw_v, jn_v, b1_v, b2_v, w32_id, rd_wr_s, rd_wr_k, rd_wr_i, bz_0, bz_n, if_pos, if_neg, if_true, if_false, ne_eq, not_true_eq_false, not_false_eq_true, rd_cpy_k]
    have q2 : rd (clm m1 (rd m 83 1)) 83 1 = rd m 83 1 := by
      rw [← q1]; apply rd_eq; unfold clm; rw [fil_k (by omega)]; simp (disch := omega) only [wr_ka]
    have g1 : ∀ k i, ¬ QA m k i → m1 k i = m k i := by
      intro k i q
      unfold QA at q
      rw [hm1]; unfold addm
      rw [wr_ki (by omega), wr_ki (by omega), wr_ki (by omega), cpy_no (by omega), wr_ki (by omega), wr_ki (by omega), wr_ki (by omega)]
    have g : ∀ k i, ¬ QA m k i → m2 k i = m k i := by
      intro k i q
      have := g1 k i q
      unfold QA at q
      rw [hm2, wr_ki (by omega), wr_ki (by omega)]; unfold clm
      rw [fil_o (by omega), wr_ki (by omega), wr_ki (by omega), wr_ki (by omega), wr_ki (by omega), wr_ki (by omega)]
      exact this
    have f : ∀ k i, ¬ (84 ≤ k ∧ k ≤ 89) → ¬ (k = 83 ∧ i = 1) → rd m2 k i = rd m1 k i := by
      intro k i x y
      apply rd_eq
      rw [hm2, wr_ki (by omega), wr_ki (by omega)]; unfold clm
      rw [fil_o (by omega), wr_ki (by omega), wr_ki (by omega), wr_ki (by omega), wr_ki (by omega), wr_ki (by omega)]
    have s84 : rd m2 84 (rd m 83 1) = 0 := by
      have : rd m2 84 (rd m 83 1) = rd (wr (wr (wr (wr (wr m1 84 (rd m 83 1) 0) 85 (rd m 83 1) 999) 86 (rd m 83 1) (-1)) 87 (rd m 83 1) 0) 88 (rd m 83 1) (-1)) 84 (rd m 83 1) := rd_eq (by rw [hm2, wr_ki (by omega), wr_ki (by omega)]; unfold clm; rw [fil_k (by omega)])
      rw [this]; simp (disch := omega) only [gd_t, stw_v, cpw_v, jn_v, b1_v, b2_v, w32_id, rd_wr_s, rd_wr_k, rd_wr_i, bz_0, bz_n, if_pos, if_neg, if_true, if_false, ne_eq, not_true_eq_false, not_false_eq_true]
    have s85 : rd m2 85 (rd m 83 1) = 999 := by
      have : rd m2 85 (rd m 83 1) = rd (wr (wr (wr (wr (wr m1 84 (rd m 83 1) 0) 85 (rd m 83 1) 999) 86 (rd m 83 1) (-1)) 87 (rd m 83 1) 0) 88 (rd m 83 1) (-1)) 85 (rd m 83 1) := rd_eq (by rw [hm2, wr_ki (by omega), wr_ki (by omega)]; unfold clm; rw [fil_k (by omega)])
      rw [this]; simp (disch := omega) only [gd_t, stw_v, cpw_v, jn_v, b1_v, b2_v, w32_id, rd_wr_s, rd_wr_k, rd_wr_i, bz_0, bz_n, if_pos, if_neg, if_true, if_false, ne_eq, not_true_eq_false, not_false_eq_true]
    have s86 : rd m2 86 (rd m 83 1) = -1 := by
      have : rd m2 86 (rd m 83 1) = rd (wr (wr (wr (wr (wr m1 84 (rd m 83 1) 0) 85 (rd m 83 1) 999) 86 (rd m 83 1) (-1)) 87 (rd m 83 1) 0) 88 (rd m 83 1) (-1)) 86 (rd m 83 1) := rd_eq (by rw [hm2, wr_ki (by omega), wr_ki (by omega)]; unfold clm; rw [fil_k (by omega)])
      rw [this]; simp (disch := omega) only [gd_t, stw_v, cpw_v, jn_v, b1_v, b2_v, w32_id, rd_wr_s, rd_wr_k, rd_wr_i, bz_0, bz_n, if_pos, if_neg, if_true, if_false, ne_eq, not_true_eq_false, not_false_eq_true]
    have s88 : rd m2 88 (rd m 83 1) = -1 := by
      have : rd m2 88 (rd m 83 1) = rd (wr (wr (wr (wr (wr m1 84 (rd m 83 1) 0) 85 (rd m 83 1) 999) 86 (rd m 83 1) (-1)) 87 (rd m 83 1) 0) 88 (rd m 83 1) (-1)) 88 (rd m 83 1) := rd_eq (by rw [hm2, wr_ki (by omega), wr_ki (by omega)]; unfold clm; rw [fil_k (by omega)])
      rw [this]; simp (disch := omega) only [gd_t, stw_v, cpw_v, jn_v, b1_v, b2_v, w32_id, rd_wr_s, rd_wr_k, rd_wr_i, bz_0, bz_n, if_pos, if_neg, if_true, if_false, ne_eq, not_true_eq_false, not_false_eq_true]
    have s87 : rd m2 87 (rd m 83 1) = 1 := by rw [hm2]; simp (disch := omega) only [gd_t, stw_v, cpw_v, jn_v, b1_v, b2_v, w32_id, rd_wr_s, rd_wr_k, rd_wr_i, bz_0, bz_n, if_pos, if_neg, if_true, if_false, ne_eq, not_true_eq_false, not_false_eq_true]
    have s89 : ∀ k, 0 ≤ k → k < 16 → rd m2 89 (16 * rd m 83 1 + k) = 9 := by
      intro k x y
      have : m2 89 (16 * rd m 83 1 + k) = 9 := by
        rw [hm2, wr_ki (by omega), wr_ki (by omega)]; unfold clm
        rw [fil_i (by omega) (by omega)]
      show w32 (m2 89 (16 * rd m 83 1 + k)) = 9
      rw [this]; exact w32_id (by omega) (by omega)
    have s9 : ∀ k, 0 ≤ k → k < 16 → rd m2 9 (16 * rd m 83 1 + k) = 9 := by
      intro k x y
      rw [f 9 _ (by omega) (by omega), hm1]; unfold addm
      rw [rd_wr_k (by omega), rd_wr_k (by omega), rd_wr_i (by omega), rd_cpy_i (by omega) (by omega)]
      simp (disch := omega) only [rd_wr_k]
      exact h3 _ (by omega) (by omega)
    refine ⟨rd m 83 1, m1, m2, ?_, ?_, ?_⟩
    · show F10_lost m = _
      unfold F10_lost F1_addLost
      rw [add_e a3 a1 a]
      simp (disch := omega) only [gd_t, stw_v, cpw_v, jn_v, b1_v, b2_v, w32_id, rd_wr_s, rd_wr_k, rd_wr_i, bz_0, bz_n, if_pos, if_neg, if_true, if_false, ne_eq, not_true_eq_false, not_false_eq_true, a3]
      rw [hm1]
    · show F11_lost m1 = _
      unfold F11_lost
      rw [q1, clear_e a1 a]
      simp (disch := omega) only [gd_t, stw_v, cpw_v, jn_v, b1_v, b2_v, w32_id, rd_wr_s, rd_wr_k, rd_wr_i, bz_0, bz_n, if_pos, if_neg, if_true, if_false, ne_eq, not_true_eq_false, not_false_eq_true, q2]
      rw [hm2, show rd m 83 1 + 1 - 1 = rd m 83 1 by omega]
    · refine Inv_add hI' a (by rw [hm2]; simp (disch := omega) only [gd_t, stw_v, cpw_v, jn_v, b1_v, b2_v, w32_id, rd_wr_s, rd_wr_k, rd_wr_i, bz_0, bz_n, if_pos, if_neg, if_true, if_false, ne_eq, not_true_eq_false, not_false_eq_true]) ?_ g ?_ ?_ ?_ ?_ (by omega) (by omega) (by omega) (by omega) (by omega) (by rw [s87]; unfold inZ; omega) ?_ s88 ?_ (iTp_s ?_ h6)
      · rw [f 4 0 (by omega) (by omega), hm1]; unfold addm; simp (disch := omega) only [gd_t, stw_v, cpw_v, jn_v, b1_v, b2_v, w32_id, rd_wr_s, rd_wr_k, rd_wr_i, bz_0, bz_n, if_pos, if_neg, if_true, if_false, ne_eq, not_true_eq_false, not_false_eq_true]
      · rw [s84, f 5 _ (by omega) (by omega), hm1]; unfold addm; simp (disch := omega) only [gd_t, stw_v, cpw_v, jn_v, b1_v, b2_v, w32_id, rd_wr_s, rd_wr_k, rd_wr_i, bz_0, bz_n, if_pos, if_neg, if_true, if_false, ne_eq, not_true_eq_false, not_false_eq_true, rd_cpy_k]
      · rw [s85, f 6 _ (by omega) (by omega), hm1]; unfold addm; simp (disch := omega) only [gd_t, stw_v, cpw_v, jn_v, b1_v, b2_v, w32_id, rd_wr_s, rd_wr_k, rd_wr_i, bz_0, bz_n, if_pos, if_neg, if_true, if_false, ne_eq, not_true_eq_false, not_false_eq_true, rd_cpy_k]
      · rw [s86, f 7 _ (by omega) (by omega), hm1]; unfold addm; simp (disch := omega) only [gd_t, stw_v, cpw_v, jn_v, b1_v, b2_v, w32_id, rd_wr_s, rd_wr_k, rd_wr_i, bz_0, bz_n, if_pos, if_neg, if_true, if_false, ne_eq, not_true_eq_false, not_false_eq_true, rd_cpy_k]
      · rw [s87, f 8 _ (by omega) (by omega), hm1]; simp (disch := omega) only [gd_t, stw_v, cpw_v, jn_v, b1_v, b2_v, w32_id, rd_wr_s, rd_wr_k, rd_wr_i, bz_0, bz_n, if_pos, if_neg, if_true, if_false, ne_eq, not_true_eq_false, not_false_eq_true]
      · intro k x y
        rw [s9 k x y, s89 k x y]; exact ⟨rfl, Or.inr rfl⟩
      · rw [f 9 _ (by omega) (by omega), hm1]; unfold addm; simp (disch := omega) only [gd_t, stw_v, cpw_v, jn_v, b1_v, b2_v, w32_id, rd_wr_s, rd_wr_k, rd_wr_i, bz_0, bz_n, if_pos, if_neg, if_true, if_false, ne_eq, not_true_eq_false, not_false_eq_true]
      · intro k i q
        unfold PTp at q
        rw [hm2, wr_ki (by omega), wr_ki (by omega)]; unfold clm
        rw [fil_o (by omega), wr_ki (by omega), wr_ki (by omega), wr_ki (by omega), wr_ki (by omega), wr_ki (by omega), hm1]; unfold addm
        rw [wr_ki (by omega), wr_ki (by omega), wr_ki (by omega), cpy_no (by omega), wr_ki (by omega), wr_ki (by omega), wr_ki (by omega)]
  · refine Sq_ro (r := -3) hI' ?_ ?_
    · show F10_lost m = _
      unfold F10_lost
      simp (disch := omega) only [gd_t, stw_v, cpw_v, jn_v, b1_v, b2_v, w32_id, rd_wr_s, rd_wr_k, rd_wr_i, bz_0, bz_n, if_pos, if_neg, if_true, if_false, ne_eq, not_true_eq_false, not_false_eq_true]
    · show F11_lost m = _
      unfold F11_lost
      simp (disch := omega) only [gd_t, stw_v, cpw_v, jn_v, b1_v, b2_v, w32_id, rd_wr_s, rd_wr_k, rd_wr_i, bz_0, bz_n, if_pos, if_neg, if_true, if_false, ne_eq, not_true_eq_false, not_false_eq_true]
