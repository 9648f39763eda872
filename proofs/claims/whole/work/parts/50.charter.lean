/-- the mother, by both sides -/
theorem moth_e {M : Mem} {p C : Int} (h6 : iTp M) (h0 : 0 ≤ p) (h1 : p ≤ 120) (hC : 0 ≤ C ∧ C < 12) : ∃ f q s : Int, 0 ≤ q ∧ q ≤ 120 ∧ ((f = -1 ∧ -1 ≤ s ∧ s < C) ∨ 0 ≤ f ∧ f ≤ 121) ∧
    (∀ m : Mem, rd m 1 1 = rd M 1 1 → (∀ i, rd m 2 i = rd M 2 i) → rd m 1 6 = p → rd m 1 4 = -1 → ∃ m', F8_readMother m C = some (f, m') ∧ (f < 0 → rd m' 1 6 = q ∧ rd m' 1 4 = s) ∧ (∀ k i, ¬ (k = 1 ∧ (i = 4 ∨ i = 6)) → m' k i = m k i)) ∧
    (∀ (r : Mem) (K : Mem → Option Mem), tpr M r → rd r 83 12 < 0 → rd r 83 11 = p → rd r 86 C = -1 → ∃ r', RM r C K = K r' ∧ ((f < 0 ∧ rd r' 83 12 = rd r 83 12 ∧ rd r' 83 11 = q ∧ rd r' 86 C = s) ∨ (0 ≤ f ∧ rd r' 83 12 = f)) ∧ (∀ k i, ¬ (k = 83 ∧ (i = 11 ∨ i = 12)) → ¬ (k = 86 ∧ i = C) → r' k i = r k i)) := by
  have t1 := h6.2.1
  by_cases b0 : sgn M p = 60
  · obtain ⟨B, hB⟩ : ∃ B, B = numS M 2 (-1) (p + 1) := ⟨_, rfl⟩
    have en := sgn_end (m := M) (p := p) (by omega)
    have bp := numS_p t1 2 (-1) (p + 1) (by omega)
    have bb := numS_b (m := M) 2 (-1) (p + 1) (by unfold bd; omega) (by omega)
    rw [← hB] at bp bb
    have bn : -1 ≤ B.1 := by rcases numS_z (m := M) t1 1 (p + 1) (by omega) with ⟨u1, u2, u3⟩ | ⟨u1, u2⟩ <;> (rw [hB, u1]; omega)
    have dv : ∀ m : Mem, rd m 1 1 = rd M 1 1 → (∀ i, rd m 2 i = rd M 2 i) → rd m 1 6 = p → ∃ m', F8_readMother m C = some (if 0 ≤ B.1 ∧ B.1 < C then -1 else p + 1, m') ∧ rd m' 1 6 = B.2 ∧ rd m' 1 4 = B.1 ∧ (∀ k i, ¬ (k = 1 ∧ (i = 4 ∨ i = 6)) → m' k i = m k i) := by
      intro m e1 e2 e6
      obtain ⟨t, ht⟩ : ∃ t, t = wr m 1 6 (p + 1) := ⟨_, rfl⟩
      have t6 : rd t 1 6 = p + 1 := by rw [ht]; simp (disch := omega) only [gd_t, stw_v, cpw_v, jn_v, b1_v, b2_v, w32_id, rd_wr_s, rd_wr_k, rd_wr_i, bz_0, bz_n, if_pos, if_neg, if_true, if_false, ne_eq, not_true_eq_false, not_false_eq_true]
      have t1' : rd t 1 1 = rd M 1 1 := by rw [ht, rd_wr_i (by omega)]; exact e1
      have t2 : ∀ i, rd t 2 i = rd M 2 i := fun i => by rw [ht, rd_wr_k (by omega)]; exact e2 i
      obtain ⟨m3, x, y, z⟩ := F8_num (m := t) (w := 2) (by omega) (by omega) (by omega) (by omega)
      rw [t6, numS_s t1' t2, show (2 : Int).toNat = 2 from rfl, ← hB] at x y
      refine ⟨wr m3 1 4 B.1, ?_, by rw [rd_wr_i (by omega)]; exact y, by rw [rd_wr_s]; exact w32_id (by omega) (by omega), fun k i h => by rw [wr_ki (by omega), z k i (by omega), ht, wr_ki (by omega)]⟩
      unfold F8_readMother
      rw [sign_e (by omega) (by omega), sgn_s e1 e2, e6, b0, b1_v, if_pos rfl, stw_v, w32_id (x := p + 1) (by omega) (by omega), ← ht, x, b2_v, stw_v, rd_wr_s, w32_id (x := B.1) (by omega) (by omega), jn_v, t6]
      by_cases z0 : B.1 < 0
      · rw [if_pos z0, if_neg (by omega)]
      · by_cases z1 : B.1 < C
        · rw [if_neg z0, if_pos z1, if_pos (by omega)]
        · rw [if_neg z0, if_neg z1, if_neg (by omega)]
    have rv : ∀ (r : Mem) (K : Mem → Option Mem), tpr M r → rd r 83 12 < 0 → rd r 83 11 = p → ∃ r', RM r C K = K r' ∧ ((0 ≤ B.1 ∧ B.1 < C ∧ rd r' 83 12 = rd r 83 12 ∧ rd r' 83 11 = B.2 ∧ rd r' 86 C = B.1) ∨ (¬ (0 ≤ B.1 ∧ B.1 < C) ∧ rd r' 83 12 = p + 1)) ∧ (∀ k i, ¬ (k = 83 ∧ (i = 11 ∨ i = 12)) → ¬ (k = 86 ∧ i = C) → r' k i = r k i) := by
      intro r K e1 e4 e5
      obtain ⟨t, ht⟩ : ∃ t, t = wr r 83 11 (p + 1) := ⟨_, rfl⟩
      have tt : tpr M t := by rw [ht]; exact tpr_w e1 (by omega) (by omega)
      have t11 : rd t 83 11 = p + 1 := by rw [ht]; simp (disch := omega) only [gd_t, stw_v, cpw_v, jn_v, b1_v, b2_v, w32_id, rd_wr_s, rd_wr_k, rd_wr_i, bz_0, bz_n, if_pos, if_neg, if_true, if_false, ne_eq, not_true_eq_false, not_false_eq_true]
      have t12 : rd t 83 12 = rd r 83 12 := by rw [ht, rd_wr_i (by omega)]
      obtain ⟨r4, v4, x', y', z', u'⟩ := F11_num (r := t) h6 (w := 2) (by omega) tt.1 tt.2 (by omega) (by omega) (by omega)
      rw [t11, show (2 : Int).toNat = 2 from rfl, ← hB] at z' u'
      have fr : ∀ k i, ¬ (k = 83 ∧ (i = 11 ∨ i = 12)) → r4 k i = r k i := fun k i h => by rw [y' k i h, ht, wr_ki (by omega)]
      unfold RM
      rw [jn_v, if_neg (by omega), isNext_e h6 e1 (by omega) (by omega) e5 h0 h1, if_pos b0, ← ht, b2_v, if_neg (by omega), x', b2_v, gd_t (by omega), stw_v, rd_wr_k (by omega), rd_wr_s]
      rcases u' with ⟨u1, u2, u3⟩ | ⟨u1, u2, u3, u4⟩
      · rw [if_neg (by omega), gd_t (by omega), u2, w32_id (x := B.1) (by omega) (by omega)]
        by_cases z0 : B.1 < C
        · rw [if_pos z0]
          exact ⟨_, rfl, Or.inl ⟨u1, z0, by rw [rd_wr_k (by omega)]; omega, by rw [rd_wr_k (by omega)]; exact z', by rw [rd_wr_s]; exact w32_id (by omega) (by omega)⟩, fun k i h h' => by rw [wr_ki (by omega)]; exact fr k i h⟩
        · rw [if_neg z0, wrong_e (by rw [rd_wr_k (by omega)]; omega), b1_v, t11]
          exact ⟨_, rfl, Or.inr ⟨by omega, by simp (disch := omega) only [gd_t, stw_v, cpw_v, jn_v, b1_v, b2_v, w32_id, rd_wr_s, rd_wr_k, rd_wr_i, bz_0, bz_n, if_pos, if_neg, if_true, if_false, ne_eq, not_true_eq_false, not_false_eq_true]⟩, fun k i h h' => by rw [wr_ki (by omega), wr_ki (by omega)]; exact fr k i h⟩
      · rw [if_pos (by omega)]
        exact ⟨_, rfl, Or.inr ⟨by omega, by rw [rd_wr_k (by omega)]; exact u3⟩, fun k i h h' => by rw [wr_ki (by omega)]; exact fr k i h⟩
    by_cases z0 : 0 ≤ B.1 ∧ B.1 < C
    · refine ⟨-1, B.2, B.1, by omega, by omega, Or.inl (by omega), ?_, ?_⟩
      · intro m e1 e2 e6 e7
        obtain ⟨m', x, y, z, w⟩ := dv m e1 e2 e6
        rw [if_pos z0] at x
        exact ⟨m', x, fun _ => ⟨y, z⟩, w⟩
      · intro r K e1 e4 e5 e7
        obtain ⟨r', x, y, z⟩ := rv r K e1 e4 e5
        refine ⟨r', x, Or.inl ?_, z⟩
        rcases y with y | y
        · exact ⟨by omega, y.2.2⟩
        · exact absurd z0 y.1
    · refine ⟨p + 1, 0, 0, by omega, by omega, Or.inr (by omega), ?_, ?_⟩
      · intro m e1 e2 e6 e7
        obtain ⟨m', x, y, z, w⟩ := dv m e1 e2 e6
        rw [if_neg z0] at x
        exact ⟨m', x, fun h => by omega, w⟩
      · intro r K e1 e4 e5 e7
        obtain ⟨r', x, y, z⟩ := rv r K e1 e4 e5
        refine ⟨r', x, Or.inr ?_, z⟩
        rcases y with y | y
        · omega
        · exact ⟨by omega, y.2⟩
  · refine ⟨-1, p, -1, h0, h1, Or.inl (by omega), ?_, ?_⟩
    · intro m e1 e2 e6 e7
      refine ⟨m, ?_, fun _ => ⟨e6, e7⟩, fun _ _ _ => rfl⟩
      unfold F8_readMother
      rw [sign_e (by omega) (by omega), sgn_s e1 e2, e6, b1_v, if_neg b0]
    · intro r K e1 e4 e5 e7
      refine ⟨r, ?_, Or.inl ⟨by omega, rfl, e5, e7⟩, fun _ _ _ _ => rfl⟩
      unfold RM
      rw [jn_v, if_neg (by omega), isNext_e h6 e1 (by omega) (by omega) e5 h0 h1, if_neg b0, b2_v, if_pos rfl]
/-- the end: what is left over -/
theorem RE_e {M r : Mem} {p : Int} (h : tpr M r) (h12 : rd r 83 12 < 0) (hp : rd r 83 11 = p) (h0 : 0 ≤ p) (h1 : p ≤ 120) (h6 : iTp M) : ∃ r', RE r = some r' ∧ (∀ k i, ¬ (k = 83 ∧ i = 12) → r' k i = r k i) ∧ rd r' 83 12 = if p < rd M 1 1 then p else rd r 83 12 := by
  have t3 := h6.2.2.1
  unfold RE
  rw [if_neg (by omega), h.1, hp, t3]
  by_cases a : p < rd M 1 1
  · rw [if_neg (by omega), wrong_e h12, b1_v, if_pos a]
    exact ⟨_, rfl, fun k i x => by rw [wr_ki (by omega)], by rw [rd_wr_s]; exact w32_id (by omega) (by omega)⟩
  · rw [if_pos (by omega), if_neg a]
    exact ⟨_, rfl, fun _ _ _ => rfl, rfl⟩
theorem RE_f {r : Mem} (h12 : 0 ≤ rd r 83 12) : RE r = some r := by unfold RE; rw [if_pos h12]
theorem RM_f {r : Mem} {C : Int} {K : Mem → Option Mem} (h12 : 0 ≤ rd r 83 12) : RM r C K = K r := by unfold RM; rw [jn_v, if_pos h12]
theorem mb_0 : cnt (mb 0) 16 = 0 := by decide +kernel
/-- the text, by both sides -/
theorem read_e {M : Mem} {C : Int} (h6 : iTp M) (hC : 0 ≤ C ∧ C < 12) : ∃ (f a b s : Int) (F : Int → Int), ((f = -1 ∧ 0 ≤ a ∧ a ≤ b ∧ b ≤ 999 ∧ -1 ≤ s ∧ s < C) ∨ 0 ≤ f ∧ f ≤ 122) ∧ (∀ k, isF (F k)) ∧
    (∃ m', F8_read M C = some (f, m') ∧ (f < 0 → rd m' 1 2 = a ∧ rd m' 1 3 = b ∧ rd m' 1 4 = s ∧ ∀ k, 0 ≤ k → k < 16 → rd m' 3 k = F k) ∧ (∀ k i, ¬ (k = 1 ∧ (i = 2 ∨ i = 3 ∨ i = 4 ∨ i = 6)) → k ≠ 3 → m' k i = M k i)) ∧
    (∀ r : Mem, tpr M r → rd r 83 12 < 0 → rd r 83 11 = 0 → rd r 86 C = -1 → (∀ k, 0 ≤ k → k < 16 → rd r 89 (16 * C + k) = 9) → ∃ r', F11_readAll r C = some r' ∧ ((f < 0 ∧ rd r' 83 12 < 0 ∧ rd r' 84 C = a ∧ rd r' 85 C = b ∧ rd r' 86 C = s ∧ ∀ k, 0 ≤ k → k < 16 → rd r' 89 (16 * C + k) = F k) ∨ (0 ≤ f ∧ rd r' 83 12 = f)) ∧ (∀ k i, ¬ (k = 83 ∧ (i = 11 ∨ i = 12)) → ¬ ((k = 84 ∨ k = 85 ∨ k = 86) ∧ i = C) → ¬ (k = 89 ∧ 16 * C ≤ i ∧ i < 16 * C + 16) → r' k i = r k i)) := by
  have t1 := h6.2.1
  obtain ⟨f1, p1, a, b, p10, p11, fb1, d1, r1⟩ := days_e h6
  -- the class's start
  obtain ⟨q, hq⟩ : ∃ q, q = fil (wr (wr M 1 6 0) 1 4 (-1)) 3 0 16 9 := ⟨_, rfl⟩
  have qo : ∀ k i, ¬ (k = 1 ∧ (i = 4 ∨ i = 6)) → k ≠ 3 → q k i = M k i := fun k i h h' => by rw [hq, fil_k h', wr_ki (by omega), wr_ki (by omega)]
  have q6 : rd q 1 6 = 0 := by rw [rd_eq (show q 1 6 = _ from by rw [hq, fil_k (by omega)])]; simp (disch := omega) only [gd_t, stw_v, cpw_v, jn_v, b1_v, b2_v, w32_id, rd_wr_s, rd_wr_k, rd_wr_i, bz_0, bz_n, if_pos, if_neg, if_true, if_false, ne_eq, not_true_eq_false, not_false_eq_true]
  have q4 : rd q 1 4 = -1 := by rw [rd_eq (show q 1 4 = _ from by rw [hq, fil_k (by omega)])]; simp (disch := omega) only [gd_t, stw_v, cpw_v, jn_v, b1_v, b2_v, w32_id, rd_wr_s, rd_wr_k, rd_wr_i, bz_0, bz_n, if_pos, if_neg, if_true, if_false, ne_eq, not_true_eq_false, not_false_eq_true]
  have q3 : ∀ k, 0 ≤ k → k < 16 → rd q 3 k = 9 := fun k x y => by
    show w32 (q 3 k) = 9
    rw [hq, fil_i (by omega) (by omega)]; exact w32_id (by omega) (by omega)
  have q1 : rd q 1 1 = rd M 1 1 := rd_eq (qo 1 1 (by omega) (by omega))
  have q2 : ∀ i, rd q 2 i = rd M 2 i := fun i => rd_eq (qo 2 i (by omega) (by omega))
  have pre : F8_read M C = b2 (F8_readDays q) fun r20 m20 => jn (fun (K33 : Int → Mem → Option (Int × Mem)) => if 0 ≤ r20 then K33 r20 m20 else b2 (F8_readClauses m20) fun r29 m29 => K33 r29 m29) (fun (v2_33 : Int) (m_33 : Mem) => jn (fun (K43 : Int → Mem → Option (Int × Mem)) => if 0 ≤ v2_33 then K43 v2_33 m_33 else b2 (F8_readMother m_33 C) fun r39 m39 => K43 r39 m39) (fun (v2_43 : Int) (m_43 : Mem) => jn (fun (K65 : Option (Int × Mem)) => if 0 ≤ v2_43 then K65 else if (rd m_43 1 1) ≤ (rd m_43 1 6) then K65 else some (rd m_43 1 6, m_43)) (some (v2_43, m_43)))) := by
    unfold F8_read
    rw [stw_v, stw_v, fillI_e _ (by omega), b1_v]
    rw [hq]; rfl
  obtain ⟨m1, x1, y1, z1⟩ := d1 q q1 q2 q6
  rw [pre, x1, b2_v, jn_v]
  by_cases f10 : 0 ≤ f1
  · refine ⟨f1, 0, 0, 0, fun _ => 9, Or.inr (by omega), fun _ => Or.inr rfl, ⟨m1, ?_, fun h => by omega, fun k i h h' => by rw [z1 k i (by omega)]; exact qo k i (by omega) h'⟩, ?_⟩
    · rw [if_pos f10]; dsimp only; rw [jn_v, if_pos f10]; dsimp only; rw [jn_v, if_pos f10]
    · intro r e1 e2 e3 e4 e5
      obtain ⟨r', x, y, z⟩ := r1 r C (fun q => L11_readAll_84 C (fun m => RM m C RE) FU 0 q) e1 hC.1 hC.2 e2 e3
      have y' : rd r' 83 12 = f1 := by rcases y with y | y <;> omega
      obtain ⟨n, hn⟩ : ∃ n, FU = n + 1 := ⟨99999, rfl⟩
      refine ⟨r', ?_, Or.inr ⟨f10, y'⟩, fun k i h h' h'' => z k i h (by omega)⟩
      rw [readAll_e, x]
      show L11_readAll_84 C (fun m => RM m C RE) FU 0 r' = some r'
      rw [hn, L11_readAll_84, if_pos (by omega), RM_f (by omega), RE_f (by omega)]
  · have f1n : f1 = -1 := by omega
    obtain ⟨y2, y3, y4⟩ := y1 (by omega)
    rw [if_neg f10]
    obtain ⟨S, hS⟩ : ∃ S, S = clS M 17 0 p1 (fun _ => 9) := ⟨_, rfl⟩
    have sin := clS_in h6 17 0 p1 (fun _ => 9) p10 p11 (fun _ => Or.inr rfl)
    rw [← hS] at sin
    obtain ⟨m2, x2, y5, y6, z2⟩ := L8_cl h6 17 FU 0 0 m1 (fun _ => 9) (by omega) (by rw [mb_0]; rfl) (by rw [FU_eq]; omega) (by rw [rd_eq (z1 1 1 (by omega))]; exact q1) (fun i => by rw [rd_eq (z1 2 i (by omega))]; exact q2 i) (by omega) (by omega) (fun k x y => by rw [rd_eq (z1 3 k (by omega))]; exact q3 k x y)
    rw [y2, ← hS] at x2 y5 y6
    have x2' : F8_readClauses m1 = some (S.1, m2) := x2
    rw [x2', b2_v]; dsimp only; rw [jn_v]
    have m2o : ∀ k i, ¬ (k = 1 ∧ (i = 2 ∨ i = 3 ∨ i = 4 ∨ i = 6)) → k ≠ 3 → m2 k i = M k i := fun k i h h' => by rw [z2 k i (by omega) h', z1 k i (by omega)]; exact qo k i (by omega) h'
    -- the reference, up to the clauses' end
    have rcl : ∀ r : Mem, tpr M r → rd r 83 12 < 0 → rd r 83 11 = 0 → rd r 86 C = -1 → (∀ k, 0 ≤ k → k < 16 → rd r 89 (16 * C + k) = 9) → ∃ r', F11_readAll r C = RM r' C RE ∧ ((S.1 < 0 ∧ rd r' 83 12 < 0 ∧ rd r' 83 11 = S.2.1 ∧ rd r' 84 C = a ∧ rd r' 85 C = b ∧ rd r' 86 C = -1 ∧ tpr M r' ∧ ∀ k, 0 ≤ k → k < 16 → rd r' 89 (16 * C + k) = S.2.2 k) ∨ (0 ≤ S.1 ∧ rd r' 83 12 = S.1)) ∧ (∀ k i, ¬ (k = 83 ∧ (i = 11 ∨ i = 12)) → ¬ ((k = 84 ∨ k = 85) ∧ i = C) → ¬ (k = 89 ∧ 16 * C ≤ i ∧ i < 16 * C + 16) → r' k i = r k i) := by
      intro r e1 e2 e3 e4 e5
      obtain ⟨r', x, y, z⟩ := r1 r C (fun q => L11_readAll_84 C (fun m => RM m C RE) FU 0 q) e1 hC.1 hC.2 e2 e3
      have y' : rd r' 83 12 = rd r 83 12 ∧ rd r' 83 11 = p1 ∧ rd r' 84 C = a ∧ rd r' 85 C = b := by
        rcases y with y | y
        · exact y.2
        · omega
      have rt : tpr M r' := ⟨by rw [rd_eq (z 83 10 (by omega) (by omega))]; exact e1.1, fun i => by rw [rd_eq (z 91 i (by omega) (by omega))]; exact e1.2 i⟩
      obtain ⟨r2, x', u, w, z'⟩ := L11_cl (kk := fun m => RM m C RE) h6 hC 17 FU 0 p1 r' (fun _ => 9) (by rw [mb_0]) (by rw [FU_eq]; omega) rt (by omega) y'.2.1 p10 p11 (fun k s t => by rw [rd_eq (z 89 _ (by omega) (by omega))]; exact e5 k s t)
      rw [← hS] at u w
      refine ⟨r2, ?_, ?_, fun k i h h' h'' => by rw [z' k i h h'']; exact z k i h h'⟩
      · rw [readAll_e, x]; exact x'
      · rcases u with u | u
        · refine Or.inl ⟨u.1, by omega, u.2.2, ?_, ?_, ?_, ⟨?_, fun i => ?_⟩, w⟩
          · rw [rd_eq (z' 84 C (by omega) (by omega))]; exact y'.2.2.1
          · rw [rd_eq (z' 85 C (by omega) (by omega))]; exact y'.2.2.2
          · rw [rd_eq (z' 86 C (by omega) (by omega)), rd_eq (z 86 C (by omega) (by omega))]; exact e4
          · rw [rd_eq (z' 83 10 (by omega) (by omega))]; exact rt.1
          · rw [rd_eq (z' 91 i (by omega) (by omega))]; exact rt.2 i
        · exact Or.inr u
    by_cases s10 : 0 ≤ S.1
    · refine ⟨S.1, 0, 0, 0, fun _ => 9, Or.inr ⟨s10, ?_⟩, fun _ => Or.inr rfl, ⟨m2, ?_, fun h => by omega, m2o⟩, ?_⟩
      · have : ∀ (d : Nat) (v p : Int) (F : Int → Int), (clS M d v p F).1 ≤ (clS M d v p F).2.1 ∨ (clS M d v p F).1 = -1 := by
          intro d
          induction d with
          | zero => intro v p F; exact Or.inr rfl
          | succ d ih =>
            intro v p F
            unfold clS
            split
            · exact Or.inr rfl
            · split
              · exact Or.inl (Int.le_refl _)
              · split
                · exact Or.inl (Int.le_refl _)
                · exact ih _ _ _
        have := this 17 0 p1 (fun _ => 9)
        rw [← hS] at this
        omega
      · rw [if_pos s10]; dsimp only; rw [jn_v, if_pos s10]
      · intro r e1 e2 e3 e4 e5
        obtain ⟨r', x, y, z⟩ := rcl r e1 e2 e3 e4 e5
        have y' : rd r' 83 12 = S.1 := by rcases y with y | y <;> omega
        refine ⟨r', ?_, Or.inr ⟨s10, y'⟩, fun k i h h' h'' => z k i h (by omega) h''⟩
        rw [x, RM_f (by omega), RE_f (by omega)]
    · rw [if_neg s10]
      obtain ⟨f2, p2, s, p20, p21, fb2, d2, r2⟩ := moth_e h6 sin.1 (sin.2.2.1 (by omega)) hC
      have m2t : rd m2 1 1 = rd M 1 1 := rd_eq (m2o 1 1 (by omega) (by omega))
      obtain ⟨m3, x3, y7, z3⟩ := d2 m2 m2t (fun i => rd_eq (m2o 2 i (by omega) (by omega))) y5 (by rw [rd_eq (z2 1 4 (by omega) (by omega)), rd_eq (z1 1 4 (by omega))]; exact q4)
      rw [x3, b2_v]; dsimp only; rw [jn_v]
      have m3o : ∀ k i, ¬ (k = 1 ∧ (i = 2 ∨ i = 3 ∨ i = 4 ∨ i = 6)) → k ≠ 3 → m3 k i = M k i := fun k i h h' => by rw [z3 k i (by omega)]; exact m2o k i h h'
      by_cases f20 : 0 ≤ f2
      · refine ⟨f2, 0, 0, 0, fun _ => 9, Or.inr (by omega), fun _ => Or.inr rfl, ⟨m3, ?_, fun h => by omega, m3o⟩, ?_⟩
        · rw [if_pos f20]
        · intro r e1 e2 e3 e4 e5
          obtain ⟨r', x, y, z⟩ := rcl r e1 e2 e3 e4 e5
          have y' : rd r' 83 12 < 0 ∧ rd r' 83 11 = S.2.1 ∧ rd r' 86 C = -1 ∧ tpr M r' := by
            rcases y with y | y
            · exact ⟨y.2.1, y.2.2.1, y.2.2.2.2.2.1, y.2.2.2.2.2.2.1⟩
            · omega
          obtain ⟨r3, x', u, z'⟩ := r2 r' RE y'.2.2.2 y'.1 y'.2.1 y'.2.2.1
          have u' : rd r3 83 12 = f2 := by rcases u with u | u <;> omega
          refine ⟨r3, ?_, Or.inr ⟨f20, u'⟩, fun k i h h' h'' => by rw [z' k i h (by omega)]; exact z k i h (by omega) h''⟩
          rw [x, x', RE_f (by omega)]
      · obtain ⟨y8, y9⟩ := y7 (by omega)
        have m31 : rd m3 1 1 = rd M 1 1 := rd_eq (m3o 1 1 (by omega) (by omega))
        rw [if_neg f20, m31, y8]
        refine ⟨if p2 < rd M 1 1 then p2 else -1, a, b, s, S.2.2, ?_, sin.2.2.2, ⟨m3, ?_, fun h => ⟨?_, ?_, y9, fun k x y => ?_⟩, m3o⟩, ?_⟩
        · by_cases w : p2 < rd M 1 1
          · rw [if_pos w]; exact Or.inr (by omega)
          · rw [if_neg w]; exact Or.inl (by omega)
        · by_cases w : p2 < rd M 1 1
          · rw [if_neg (by omega), if_pos w]
          · rw [if_pos (by omega), if_neg w, show f2 = -1 by omega]
        · rw [rd_eq (z3 1 2 (by omega)), rd_eq (z2 1 2 (by omega) (by omega))]; exact y3
        · rw [rd_eq (z3 1 3 (by omega)), rd_eq (z2 1 3 (by omega) (by omega))]; exact y4
        · rw [rd_eq (z3 3 k (by omega))]; exact y6 k x y
        · intro r e1 e2 e3 e4 e5
          obtain ⟨r', x, y, z⟩ := rcl r e1 e2 e3 e4 e5
          have y' : rd r' 83 12 < 0 ∧ rd r' 83 11 = S.2.1 ∧ rd r' 84 C = a ∧ rd r' 85 C = b ∧ rd r' 86 C = -1 ∧ tpr M r' ∧ ∀ k, 0 ≤ k → k < 16 → rd r' 89 (16 * C + k) = S.2.2 k := by
            rcases y with y | y
            · exact y.2
            · omega
          obtain ⟨w1, w2, w3, w4, w5, w6, w7⟩ := y'
          obtain ⟨r3, x', u, z'⟩ := r2 r' RE w6 w1 w2 w5
          have u' : rd r3 83 12 = rd r' 83 12 ∧ rd r3 83 11 = p2 ∧ rd r3 86 C = s := by
            rcases u with u | u
            · exact u.2
            · omega
          have r3t : tpr M r3 := ⟨by rw [rd_eq (z' 83 10 (by omega) (by omega))]; exact w6.1, fun i => by rw [rd_eq (z' 91 i (by omega) (by omega))]; exact w6.2 i⟩
          obtain ⟨r4, x4, z4, v4⟩ := RE_e r3t (by omega) u'.2.1 p20 p21 h6
          refine ⟨r4, ?_, ?_, fun k i h h' h'' => by rw [z4 k i (by omega), z' k i h (by omega)]; exact z k i h (by omega) h''⟩
          · rw [x, x', x4]
          · by_cases w : p2 < rd M 1 1
            · rw [if_pos w] at v4 ⊢
              exact Or.inr ⟨p20, v4⟩
            · rw [if_neg w] at v4 ⊢
              refine Or.inl ⟨by omega, by omega, ?_, ?_, ?_, fun k x y => ?_⟩
              · rw [rd_eq (z4 84 C (by omega)), rd_eq (z' 84 C (by omega) (by omega))]; exact w3
              · rw [rd_eq (z4 85 C (by omega)), rd_eq (z' 85 C (by omega) (by omega))]; exact w4
              · rw [rd_eq (z4 86 C (by omega))]; exact u'.2.2
              · rw [rd_eq (z4 89 _ (by omega)), rd_eq (z' 89 _ (by omega) (by omega))]; exact w7 k x y
