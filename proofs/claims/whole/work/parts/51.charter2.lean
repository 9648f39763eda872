theorem iTp_0 {m : Mem} (h : rd m 1 1 = 0) (h' : rd m 83 10 = 0) : iTp m := ⟨by omega, by omega, by omega, fun i a b => by omega⟩
/-- nothing that lives has changed but at a place where no charter is yet -/
theorem Inv_QA {n : Nat} {m m2 : Mem} (hI : Inv n m) (hC : rd m 83 1 < 12) (e1 : rd m2 83 1 = rd m 83 1) (e4 : rd m2 4 0 = rd m 4 0) (e8 : rd m2 8 (rd m 83 1) = 0) (g : ∀ k i, ¬ QA m k i → m2 k i = m k i) (tp : iTp m2) : Inv (n + 1) m2 := by
  have hI' := Inv_mono (show n ≤ n + 1 by omega) hI
  obtain ⟨⟨a1, a2, a3, a4, a5⟩, ⟨c1, c2, c3⟩, h3, ⟨l1, l2, l3, l4, l5, l6⟩, ⟨h, hh1, hh2, hh3, hh4⟩, h6, h7, h8, ⟨i1, i2, i3, i4, i5⟩, h10⟩ := hI'
  have d13 : rd m2 83 13 = rd m 83 13 := rd_eq (g _ _ (by unfold QA; omega))
  have d14 : rd m2 83 14 = rd m 83 14 := rd_eq (g _ _ (by unfold QA; omega))
  refine ⟨?_, ?_, iTo_s ?_ h3, ?_, ?_, tp, iPa_s ?_ h7, iSh_s ?_ h8, ?_, iBt_s ?_ h10⟩
  · unfold iCh
    rw [e1, e4]
    refine ⟨a1, a2, a3, fun c x y => ?_, fun c x y => ?_⟩
    · rw [rd_eq (g 5 c (by unfold QA; omega)), rd_eq (g 6 c (by unfold QA; omega)), rd_eq (g 7 c (by unfold QA; omega)), rd_eq (g 8 c (by unfold QA; omega)), rd_eq (g 84 c (by unfold QA; omega)), rd_eq (g 85 c (by unfold QA; omega)), rd_eq (g 86 c (by unfold QA; omega)), rd_eq (g 87 c (by unfold QA; omega))]
      exact a4 c x y
    · by_cases z : c = rd m 83 1
      · rw [z]; exact e8
      · rw [rd_eq (g 8 c (by unfold QA; omega))]; exact a5 c x y
  · unfold iCe
    rw [e1]
    refine ⟨fun c k x y u w => ?_, fun k x y => ?_, fun c x y => ?_⟩
    · rw [rd_eq (g 9 _ (by unfold QA; omega)), rd_eq (g 89 _ (by unfold QA; omega))]; exact c1 c k x y u w
    · rw [rd_eq (g 9 _ (by unfold QA; omega)), rd_eq (g 90 _ (by unfold QA; omega))]; exact c2 k x y
    · rw [rd_eq (g 9 _ (by unfold QA; omega)), rd_eq (g 88 _ (by unfold QA; omega))]; exact c3 c x y
  · exact fun k i q => g k i (by unfold PTo at q; unfold QA; omega)
  · unfold iLo
    rw [d13, d14, rd_eq (g 4 10 (by unfold QA; omega)), rd_eq (g 4 11 (by unfold QA; omega))]
    refine ⟨l1, l2, l3, l4, l5, fun i x y => ?_⟩
    unfold logC
    rw [e1, rd_eq (g 10 i (by unfold QA; omega)), rd_eq (g 11 i (by unfold QA; omega)), rd_eq (g 12 i (by unfold QA; omega)), rd_eq (g 92 i (by unfold QA; omega)), rd_eq (g 93 i (by unfold QA; omega)), rd_eq (g 94 i (by unfold QA; omega)), rd_eq (g 95 i (by unfold QA; omega))]
    exact l6 i x y
  · have f92 : ∀ i, rd m2 92 i = rd m 92 i := fun i => rd_eq (g 92 i (by unfold QA; omega))
    have f93 : ∀ i, rd m2 93 i = rd m 93 i := fun i => rd_eq (g 93 i (by unfold QA; omega))
    have f94 : ∀ i, rd m2 94 i = rd m 94 i := fun i => rd_eq (g 94 i (by unfold QA; omega))
    have f95 : ∀ i, rd m2 95 i = rd m 95 i := fun i => rd_eq (g 95 i (by unfold QA; omega))
    refine ⟨h, ?_, ?_, ?_, ?_⟩
    · intro j x y
      rw [e1]; exact hh1 j x (by omega)
    · intro c x y
      rw [d13, rd_eq (g 88 c (by unfold QA; omega))]; exact hh2 c x (by omega)
    · intro j x y z
      rw [d13, d14] at y
      rw [f92] at z
      rw [f93, f94, f95]
      exact hh3 j x y z
    · intro j c x y u w z
      rw [d13, d14] at y
      rw [f92, f93] at z
      exact hh4 j c x y u (by omega) z
  · exact fun k i q => g k i (by unfold PPa at q; unfold QA; omega)
  · exact fun k i q => g k i (by unfold PSh at q; unfold QA; omega)
  · unfold iLi
    rw [e1, rd_eq (g 31 2 (by unfold QA; omega)), rd_eq (g 83 28 (by unfold QA; omega))]
    refine ⟨i1, i2, i3, fun i x y => ?_, fun i j x y z w => ?_⟩
    · rw [rd_eq (g 44 i (by unfold QA; omega)), rd_eq (g 103 i (by unfold QA; omega))]
      exact i4 i x y
    · rw [rd_eq (g 103 i (by unfold QA; omega)), rd_eq (g 103 j (by unfold QA; omega))]
      exact i5 i j x y z w
  · exact fun k i q => g k i (by unfold PBt at q; unfold QA; omega)
theorem st_charter {n : Nat} {m : Mem} (hI : Inv n m) : Sq n (fun m => F10_charter m) (fun m => F11_charter m) m := by
  have hI' := hI
  obtain ⟨⟨a1, a2, a3, a4, a5⟩, h2, h3, h4, h5, h6, h7, h8, h9, h10⟩ := hI
  obtain ⟨C, hC⟩ : ∃ C, C = rd m 83 1 := ⟨_, rfl⟩
  rw [← hC] at a1 a2 a3
  by_cases a : C < 12
  · obtain ⟨f, fa, fb, fs, F, hf, hF, ⟨m', x, y, z⟩, rf⟩ := read_e h6 ⟨a1, a⟩
    -- the reference, from where the class left
    have ref : ∀ m1 : Mem, (∀ k i, ¬ QA m k i → m1 k i = m k i) → rd m1 83 1 = C → rd m1 83 10 = rd m 83 10 → ∃ r' : Mem, F11_charter m1 = (if rd r' 83 12 < 0 then some (C, wr (wr r' 83 10 0) 83 1 (C + 1)) else some (w32 (-100 - rd r' 83 12), wr r' 83 10 0)) ∧ ((f < 0 ∧ rd r' 83 12 < 0 ∧ rd r' 84 C = fa ∧ rd r' 85 C = fb ∧ rd r' 86 C = fs ∧ rd r' 87 C = 0 ∧ rd r' 88 C = -1 ∧ ∀ k, 0 ≤ k → k < 16 → rd r' 89 (16 * C + k) = F k) ∨ (0 ≤ f ∧ rd r' 83 12 = f)) ∧ (∀ k i, ¬ (k = 83 ∧ (i = 11 ∨ i = 12)) → ¬ (84 ≤ k ∧ k ≤ 88 ∧ i = C) → ¬ (k = 89 ∧ 16 * C ≤ i ∧ i < 16 * C + 16) → r' k i = m1 k i) := by
      intro m1 g1 e1 e10
      obtain ⟨r0, hr0⟩ : ∃ r0, r0 = wr (wr (clm m1 C) 83 11 0) 83 12 (-1) := ⟨_, rfl⟩
      have o : ∀ k i, ¬ (k = 83 ∧ (i = 11 ∨ i = 12)) → ¬ (84 ≤ k ∧ k ≤ 88 ∧ i = C) → ¬ (k = 89 ∧ 16 * C ≤ i ∧ i < 16 * C + 16) → r0 k i = m1 k i := fun k i u v w => by
        rw [hr0, wr_ki (by omega), wr_ki (by omega)]; unfold clm
        rw [fil_o (by omega), wr_ki (by omega), wr_ki (by omega), wr_ki (by omega), wr_ki (by omega), wr_ki (by omega)]
      have cl : ∀ k, k ≠ 83 → k ≠ 89 → r0 k C = (wr (wr (wr (wr (wr m1 84 C 0) 85 C 999) 86 C (-1)) 87 C 0) 88 C (-1)) k C := fun k u v => by
        rw [hr0, wr_ki (by omega), wr_ki (by omega)]; unfold clm
        rw [fil_k v]
      have e91 : ∀ i, rd m1 91 i = rd m 91 i := fun i => rd_eq (g1 91 i (by unfold QA; omega))
      have t0 : tpr m r0 := ⟨by rw [rd_eq (o 83 10 (by omega) (by omega) (by omega))]; exact e10, fun i => by rw [rd_eq (o 91 i (by omega) (by omega) (by omega))]; exact e91 i⟩
      have c86 : rd r0 86 C = -1 := by rw [rd_eq (cl 86 (by omega) (by omega))]; simp (disch := omega) only [gd_t, stw_v, cpw_v, jn_v, b1_v, b2_v, w32_id, rd_wr_s, rd_wr_k, rd_wr_i, bz_0, bz_n, if_pos, if_neg, if_true, if_false, ne_eq, not_true_eq_false, not_false_eq_true]
      have c87 : rd r0 87 C = 0 := by rw [rd_eq (cl 87 (by omega) (by omega))]; simp (disch := omega) only [gd_t, stw_v, cpw_v, jn_v, b1_v, b2_v, w32_id, rd_wr_s, rd_wr_k, rd_wr_i, bz_0, bz_n, if_pos, if_neg, if_true, if_false, ne_eq, not_true_eq_false, not_false_eq_true]
      have c88 : rd r0 88 C = -1 := by rw [rd_eq (cl 88 (by omega) (by omega))]; simp (disch := omega) only [gd_t, stw_v, cpw_v, jn_v, b1_v, b2_v, w32_id, rd_wr_s, rd_wr_k, rd_wr_i, bz_0, bz_n, if_pos, if_neg, if_true, if_false, ne_eq, not_true_eq_false, not_false_eq_true]
      have c89 : ∀ k, 0 ≤ k → k < 16 → rd r0 89 (16 * C + k) = 9 := fun k u v => by
        show w32 (r0 89 (16 * C + k)) = 9
        rw [hr0, wr_ki (by omega), wr_ki (by omega)]; unfold clm
        rw [fil_i (by omega) (by omega)]; exact w32_id (by omega) (by omega)
      obtain ⟨r', x', u', z'⟩ := rf r0 t0 (by rw [hr0, rd_wr_s, w32_id (by omega) (by omega)]; omega) (by rw [hr0]; simp (disch := omega) only [gd_t, stw_v, cpw_v, jn_v, b1_v, b2_v, w32_id, rd_wr_s, rd_wr_k, rd_wr_i, bz_0, bz_n, if_pos, if_neg, if_true, if_false, ne_eq, not_true_eq_false, not_false_eq_true]) c86 c89
      have r1 : rd r' 83 1 = C := by rw [rd_eq (z' 83 1 (by omega) (by omega) (by omega)), rd_eq (o 83 1 (by omega) (by omega) (by omega))]; exact e1
      have c1 : rd (clm m1 C) 83 1 = C := by
        have : rd r0 83 1 = rd (clm m1 C) 83 1 := by rw [hr0]; simp (disch := omega) only [gd_t, stw_v, cpw_v, jn_v, b1_v, b2_v, w32_id, rd_wr_s, rd_wr_k, rd_wr_i, bz_0, bz_n, if_pos, if_neg, if_true, if_false, ne_eq, not_true_eq_false, not_false_eq_true]
        rw [← this, rd_eq (o 83 1 (by omega) (by omega) (by omega))]; exact e1
      refine ⟨r', ?_, ?_, fun k i u v w => by rw [z' k i u (by omega) w]; exact o k i u v w⟩
      · unfold F11_charter
        rw [e1, if_pos (show C ≠ 12 by omega), clear_e a1 a, b1_v, stw_v, stw_v, rd_wr_i (by omega), rd_wr_i (by omega), c1, ← hr0, x', b1_v, stw_v, rd_wr_i (by omega)]
        by_cases w : rd r' 83 12 < 0
        · rw [if_pos w, if_pos w, stw_v, rd_wr_i (k := 83) (i := 10) (i' := 1) (by omega), r1, w32_id (x := C + 1) (by omega) (by omega), rd_wr_s, w32_id (x := C + 1) (by omega) (by omega), show C + 1 - 1 = C by omega, w32_id (x := C) (by omega) (by omega)]
        · rw [if_neg w, if_neg w]
      · rcases u' with u | u
        · refine Or.inl ⟨u.1, u.2.1, u.2.2.1, u.2.2.2.1, u.2.2.2.2.1, ?_, ?_, u.2.2.2.2.2⟩
          · rw [rd_eq (z' 87 C (by omega) (by omega) (by omega))]; exact c87
          · rw [rd_eq (z' 88 C (by omega) (by omega) (by omega))]; exact c88
        · exact Or.inr u
    have x0 : F8_read m (rd m 4 0) = some (f, m') := by rw [a3]; exact x
    by_cases f0 : f < 0
    · obtain ⟨y2, y3, y4, y5⟩ := y f0
      have hf' : 0 ≤ fa ∧ fa ≤ fb ∧ fb ≤ 999 ∧ -1 ≤ fs ∧ fs < C := by omega
      obtain ⟨m1, hm1⟩ : ∃ m1, m1 = addm (wr m' 1 1 0) 3 fa fb fs C := ⟨_, rfl⟩
      have o1 : ∀ k i, ¬ (k = 1 ∧ (i = 1 ∨ i = 2 ∨ i = 3 ∨ i = 4 ∨ i = 6)) → k ≠ 3 → ¬ (5 ≤ k ∧ k ≤ 7 ∧ i = C) → ¬ (k = 9 ∧ 16 * C ≤ i ∧ i < 16 * C + 16) → ¬ (k = 9 ∧ i = 197 + C) → ¬ (k = 4 ∧ i = 0) → m1 k i = m k i := fun k i u v w p q r => by
        rw [hm1]; unfold addm
        rw [wr_ki r, wr_ki q, cpy_no (by omega), wr_ki (by omega), wr_ki (by omega), wr_ki (by omega), wr_ki (by omega)]
        exact z k i (by omega) v
      have g1 : ∀ k i, ¬ QA m k i → m1 k i = m k i := fun k i q => by
        unfold QA at q; rw [← hC] at q
        exact o1 k i (by omega) (by omega) (by omega) (by omega) (by omega) (by omega)
      have e1 : rd m1 83 1 = C := by rw [rd_eq (o1 83 1 (by omega) (by omega) (by omega) (by omega) (by omega) (by omega))]; exact hC.symm
      have e10 : rd m1 83 10 = rd m 83 10 := rd_eq (o1 83 10 (by omega) (by omega) (by omega) (by omega) (by omega) (by omega))
      obtain ⟨r', p, q, w⟩ := ref m1 g1 e1 e10
      have q' : rd r' 83 12 < 0 ∧ rd r' 84 C = fa ∧ rd r' 85 C = fb ∧ rd r' 86 C = fs ∧ rd r' 87 C = 0 ∧ rd r' 88 C = -1 ∧ ∀ k, 0 ≤ k → k < 16 → rd r' 89 (16 * C + k) = F k := by
        rcases q with q | q
        · exact q.2
        · omega
      obtain ⟨v1, v2, v3, v4, v5, v6, v7⟩ := q'
      rw [if_pos v1] at p
      obtain ⟨m2, hm2⟩ : ∃ m2, m2 = wr (wr r' 83 10 0) 83 1 (C + 1) := ⟨_, rfl⟩
      rw [← hm2] at p
      have o2 : ∀ k i, ¬ (k = 83 ∧ (i = 1 ∨ i = 10 ∨ i = 11 ∨ i = 12)) → ¬ (84 ≤ k ∧ k ≤ 88 ∧ i = C) → ¬ (k = 89 ∧ 16 * C ≤ i ∧ i < 16 * C + 16) → m2 k i = m1 k i := fun k i s t u => by
        rw [hm2, wr_ki (by omega), wr_ki (by omega)]; exact w k i (by omega) t u
      have o3 : ∀ k i, k ≠ 83 → m2 k i = r' k i := fun k i s => by rw [hm2, wr_ki (by omega), wr_ki (by omega)]
      have m1v : ∀ k, 5 ≤ k → k ≤ 7 → m1 k C = (wr (wr (wr (wr m' 1 1 0) 5 C fa) 6 C fb) 7 C fs) k C := fun k s t => by
        rw [hm1]; unfold addm
        rw [wr_ki (by omega), wr_ki (by omega), cpy_no (by omega)]
      refine ⟨C, m1, m2, ?_, p, ?_⟩
      · show F10_charter m = _
        unfold F10_charter
        rw [if_pos (by omega), x0, b2_v, stw_v, if_pos f0, rd_wr_i (by omega), rd_wr_i (by omega), rd_wr_i (by omega), y2, y3, y4, add_e (c := C) (by rw [rd_wr_k (by omega), rd_eq (z 4 0 (by omega) (by omega))]; exact a3) a1 a, b2_v, hm1]
      · refine Inv_add hI' (by omega) ?_ ?_ ?_ ?_ ?_ ?_ ?_ ?_ ?_ ?_ ?_ ?_ ?_ ?_ ?_ ?_ ?_
        all_goals try rw [← hC]
        · rw [hm2]; simp (disch := omega) only [gd_t, stw_v, cpw_v, jn_v, b1_v, b2_v, w32_id, rd_wr_s, rd_wr_k, rd_wr_i, bz_0, bz_n, if_pos, if_neg, if_true, if_false, ne_eq, not_true_eq_false, not_false_eq_true]
        · rw [rd_eq (o2 4 0 (by omega) (by omega) (by omega)), hm1]; unfold addm; simp (disch := omega) only [gd_t, stw_v, cpw_v, jn_v, b1_v, b2_v, w32_id, rd_wr_s, rd_wr_k, rd_wr_i, bz_0, bz_n, if_pos, if_neg, if_true, if_false, ne_eq, not_true_eq_false, not_false_eq_true]
        · intro k i s
          have := g1 k i s
          unfold QA at s; rw [← hC] at s
          rw [o2 k i (by omega) (by omega) (by omega)]; exact this
        · rw [rd_eq (o3 84 C (by omega)), v2, rd_eq (o2 5 C (by omega) (by omega) (by omega)), rd_eq (m1v 5 (by omega) (by omega))]; simp (disch := omega) only [gd_t, stw_v, cpw_v, jn_v, b1_v, b2_v, w32_id, rd_wr_s, rd_wr_k, rd_wr_i, bz_0, bz_n, if_pos, if_neg, if_true, if_false, ne_eq, not_true_eq_false, not_false_eq_true]
        · rw [rd_eq (o3 85 C (by omega)), v3, rd_eq (o2 6 C (by omega) (by omega) (by omega)), rd_eq (m1v 6 (by omega) (by omega))]; simp (disch := omega) only [gd_t, stw_v, cpw_v, jn_v, b1_v, b2_v, w32_id, rd_wr_s, rd_wr_k, rd_wr_i, bz_0, bz_n, if_pos, if_neg, if_true, if_false, ne_eq, not_true_eq_false, not_false_eq_true]
        · rw [rd_eq (o3 86 C (by omega)), v4, rd_eq (o2 7 C (by omega) (by omega) (by omega)), rd_eq (m1v 7 (by omega) (by omega))]; simp (disch := omega) only [gd_t, stw_v, cpw_v, jn_v, b1_v, b2_v, w32_id, rd_wr_s, rd_wr_k, rd_wr_i, bz_0, bz_n, if_pos, if_neg, if_true, if_false, ne_eq, not_true_eq_false, not_false_eq_true]
        · rw [rd_eq (o3 87 C (by omega)), v5, rd_eq (o2 8 C (by omega) (by omega) (by omega)), rd_eq (o1 8 C (by omega) (by omega) (by omega) (by omega) (by omega) (by omega))]; exact a5 C (by omega) a
        · rw [rd_eq (o3 84 C (by omega)), v2]; omega
        · rw [rd_eq (o3 84 C (by omega)), v2, rd_eq (o3 85 C (by omega)), v3]; omega
        · rw [rd_eq (o3 85 C (by omega)), v3]; omega
        · rw [rd_eq (o3 86 C (by omega)), v4]; omega
        · rw [rd_eq (o3 86 C (by omega)), v4]; omega
        · rw [rd_eq (o3 87 C (by omega)), v5]; exact Or.inl rfl
        · intro k s t
          rw [rd_eq (o3 89 _ (by omega)), v7 k s t]
          refine ⟨?_, hF k⟩
          rw [rd_eq (o2 9 _ (by omega) (by omega) (by omega)), hm1]; unfold addm
          rw [rd_wr_k (by omega), rd_wr_i (by omega), rd_cpy_i (by omega) (by omega), rd_wr_k (by omega), rd_wr_k (by omega), rd_wr_k (by omega), rd_wr_k (by omega), show 0 + (16 * C + k - 16 * C) = k by omega]
          exact y5 k s t
        · rw [rd_eq (o3 88 C (by omega)), v6]
        · rw [rd_eq (o2 9 _ (by omega) (by omega) (by omega)), hm1]; unfold addm; simp (disch := omega) only [gd_t, stw_v, cpw_v, jn_v, b1_v, b2_v, w32_id, rd_wr_s, rd_wr_k, rd_wr_i, bz_0, bz_n, if_pos, if_neg, if_true, if_false, ne_eq, not_true_eq_false, not_false_eq_true]
        · refine iTp_0 ?_ (by rw [hm2]; simp (disch := omega) only [gd_t, stw_v, cpw_v, jn_v, b1_v, b2_v, w32_id, rd_wr_s, rd_wr_k, rd_wr_i, bz_0, bz_n, if_pos, if_neg, if_true, if_false, ne_eq, not_true_eq_false, not_false_eq_true])
          rw [rd_eq (o2 1 1 (by omega) (by omega) (by omega)), hm1]; unfold addm
          rw [rd_wr_k (by omega), rd_wr_k (by omega), rd_cpy_k (by omega)]; simp (disch := omega) only [gd_t, stw_v, cpw_v, jn_v, b1_v, b2_v, w32_id, rd_wr_s, rd_wr_k, rd_wr_i, bz_0, bz_n, if_pos, if_neg, if_true, if_false, ne_eq, not_true_eq_false, not_false_eq_true]
    · obtain ⟨m1, hm1⟩ : ∃ m1, m1 = wr m' 1 1 0 := ⟨_, rfl⟩
      have o1 : ∀ k i, ¬ (k = 1 ∧ (i = 1 ∨ i = 2 ∨ i = 3 ∨ i = 4 ∨ i = 6)) → k ≠ 3 → m1 k i = m k i := fun k i u v => by
        rw [hm1, wr_ki (by omega)]; exact z k i (by omega) v
      have g1 : ∀ k i, ¬ QA m k i → m1 k i = m k i := fun k i q => by
        unfold QA at q
        exact o1 k i (by omega) (by omega)
      obtain ⟨r', p, q, w⟩ := ref m1 g1 (by rw [rd_eq (o1 83 1 (by omega) (by omega))]; exact hC.symm) (rd_eq (o1 83 10 (by omega) (by omega)))
      have q' : rd r' 83 12 = f := by
        rcases q with q | q
        · omega
        · exact q.2
      rw [q', if_neg f0] at p
      have o2 : ∀ k i, ¬ (k = 83 ∧ (i = 10 ∨ i = 11 ∨ i = 12)) → ¬ (84 ≤ k ∧ k ≤ 88 ∧ i = C) → ¬ (k = 89 ∧ 16 * C ≤ i ∧ i < 16 * C + 16) → (wr r' 83 10 0) k i = m1 k i := fun k i s t u => by
        rw [wr_ki (by omega)]; exact w k i (by omega) t u
      refine ⟨_, m1, _, ?_, p, ?_⟩
      · show F10_charter m = _
        unfold F10_charter
        rw [if_pos (by omega), x0, b2_v, stw_v, if_neg f0, hm1]
      · refine Inv_QA hI' (by omega) ?_ ?_ ?_ ?_ ?_
        · rw [rd_eq (o2 83 1 (by omega) (by omega) (by omega)), rd_eq (o1 83 1 (by omega) (by omega))]
        · rw [rd_eq (o2 4 0 (by omega) (by omega) (by omega)), rd_eq (o1 4 0 (by omega) (by omega))]
        · rw [← hC, rd_eq (o2 8 C (by omega) (by omega) (by omega)), rd_eq (o1 8 C (by omega) (by omega))]; exact a5 C (by omega) a
        · intro k i s
          have := g1 k i s
          unfold QA at s; rw [← hC] at s
          rw [o2 k i (by omega) (by omega) (by omega)]; exact this
        · refine iTp_0 ?_ (by simp (disch := omega) only [gd_t, stw_v, cpw_v, jn_v, b1_v, b2_v, w32_id, rd_wr_s, rd_wr_k, rd_wr_i, bz_0, bz_n, if_pos, if_neg, if_true, if_false, ne_eq, not_true_eq_false, not_false_eq_true])
          rw [rd_eq (o2 1 1 (by omega) (by omega) (by omega)), hm1]; simp (disch := omega) only [gd_t, stw_v, cpw_v, jn_v, b1_v, b2_v, w32_id, rd_wr_s, rd_wr_k, rd_wr_i, bz_0, bz_n, if_pos, if_neg, if_true, if_false, ne_eq, not_true_eq_false, not_false_eq_true]
  · refine Sq_ro (r := -3) hI' ?_ ?_
    · show F10_charter m = _
      unfold F10_charter
      rw [if_neg (by omega)]
    · show F11_charter m = _
      unfold F11_charter
      rw [← hC, if_neg (by omega)]
