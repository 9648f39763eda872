/-! the four calls that ask of the best trees -/
theorem st_best {n : Nat} {m : Mem} (v : Int) (hI : Inv n m) (hn : n < 100000000) : Sq n (fun m => F10_best m v) (fun m => F11_best m v) m := by
  have l3 := hI.2.2.2.2.2.2.2.2.1.2.2.1
  by_cases a : 0 ≤ v ∧ v ≤ 4
  · by_cases b : 2 ≤ rd m 31 2
    · by_cases c : v = 3
      · obtain ⟨r, r1, r2, _⟩ := bound_e hI
        refine Sq_ro (r := r) hI ?_ ?_
        · unfold F10_best
          rw [if_neg (by omega), if_pos a.2, if_pos b, if_neg (by omega), r1, b1_v]
        · unfold F11_best
          rw [F11_in_e, if_pos (by rw [bz_n]; exact a), if_pos (by omega), if_neg (by omega), r2, b1_v]
      · obtain ⟨m1, m2, f1, f2, hI2, hb⟩ := FO_e hI b hn
        have e28 : rd m1 83 28 = rd m 83 28 := FO_1 f1 (by omega)
        have e3 : rd m1 31 3 = rd m2 31 3 := (FO_2 f2 (by omega)).symm
        have e4 : rd m1 31 4 = rd m2 31 4 := (FO_2 f2 (by omega)).symm
        have li := hI2.2.2.2.2.2.2.2.2.1
        have b2' := hb.2.1; have b3' := hb.2.2.1; have b4' := hb.2.2.2.1; have b5' := hb.2.2.2.2.1
        by_cases d : rd m2 31 3 = 0
        · refine ⟨-2, m1, m2, ?_, ?_, hI2⟩
          · show F10_best m v = _
            unfold F10_best
            rw [if_neg (by omega), if_pos a.2, if_pos b, if_pos c, f1, b1_v, e3, if_neg (fun q => q d)]
          · show F11_best m1 v = _
            unfold F11_best
            rw [F11_in_e, if_pos (by rw [bz_n]; exact a), if_pos (by omega), if_pos c, f2, b1_v, b4', if_neg (fun q => q d)]
        · have pos : 0 < rd m2 31 3 := by omega
          obtain ⟨s, s1, s2⟩ := sure_e hb li pos
          obtain ⟨t, t1, t2, _⟩ := bound_e hI2
          have s1' : F0_sure m1 = some s := by rw [← s1]; exact (lo_F0_sure (FO_2 f2 (by omega)) (fun i => FO_2 f2 (by omega))).symm
          have t1' : F0_bound m1 = some t := by rw [← t1]; exact (lo_F0_bound (fun i => FO_2 f2 (by omega)) (FO_2 f2 (by omega)) (fun i => FO_2 f2 (by omega))).symm
          have e5 := b5' pos
          have hA : ∀ r, (if v = 0 then some (rd m1 31 4, m1) else if v = 1 then some (rd m1 31 3, m1) else if v = 2 then b1 (F0_sure m1) (fun r104 => some (r104, m1)) else b1 (F0_bound m1) (fun r119 => some (w32 ((rd m1 31 4) - r119), m1))) = some (r, m1) → F10_best m v = some (r, m1) := fun r h => by
            unfold F10_best
            rw [if_neg (by omega), if_pos a.2, if_pos b, if_pos c, f1, b1_v, if_pos (by rw [e3]; exact d)]
            exact h
          have hB : ∀ r, (if v ≠ 0 then if v ≠ 1 then if v ≠ 4 then L11_best_84 m2 FU 0 0 else b1 (F11_boundNow m2) (fun r75 => some (w32 ((rd m2 83 32) - r75), m2)) else some (rd m2 83 33, m2) else some (rd m2 83 32, m2)) = some (r, m2) → F11_best m1 v = some (r, m2) := fun r h => by
            unfold F11_best
            rw [F11_in_e, if_pos (by rw [bz_n]; exact a), if_pos (by omega), if_pos c, f2, b1_v, if_pos (by rw [b4']; exact d)]
            exact h
          by_cases v0 : v = 0
          · refine ⟨rd m2 31 4, m1, m2, hA _ ?_, hB _ ?_, hI2⟩
            · rw [if_pos v0, e4]
            · rw [if_neg (fun q => q v0), e5]
          · by_cases v1 : v = 1
            · refine ⟨rd m2 31 3, m1, m2, hA _ ?_, hB _ ?_, hI2⟩
              · rw [if_neg v0, if_pos v1, e3]
              · rw [if_pos v0, if_neg (fun q => q v1), b4']
            · by_cases v2 : v = 2
              · refine ⟨s, m1, m2, hA _ ?_, hB _ ?_, hI2⟩
                · rw [if_neg v0, if_neg v1, if_pos v2, s1', b1_v]
                · rw [if_pos v0, if_pos v1, if_pos (by omega), s2]
              · refine ⟨w32 (rd m2 31 4 - t), m1, m2, hA _ ?_, hB _ ?_, hI2⟩
                · rw [if_neg v0, if_neg v1, if_neg v2, t1', b1_v, e4]
                · rw [if_pos v0, if_pos v1, if_neg (by omega), t2, b1_v, e5]
    · refine Sq_ro (r := -5) hI ?_ ?_
      · unfold F10_best
        rw [if_neg (by omega), if_pos a.2, if_neg b]
      · unfold F11_best
        rw [F11_in_e, if_pos (by rw [bz_n]; exact a), if_neg (by omega)]
  · refine Sq_ro (r := -1) hI ?_ ?_
    · unfold F10_best
      by_cases c : v < 0
      · rw [if_pos c]
      · rw [if_neg c, if_neg (by omega)]
    · unfold F11_best
      rw [F11_in_e, if_neg (by rw [bz_n]; exact a)]
theorem st_tree {n : Nat} {m : Mem} (i p : Int) (hI : Inv n m) (hn : n < 100000000) : Sq n (fun m => F10_tree m i p) (fun m => F11_tree m i p) m := by
  obtain ⟨l1, l2, l3, _⟩ := hI.2.2.2.2.2.2.2.2.1
  have w := w32_id (x := rd m 83 28 - 1) (by omega) (by omega)
  by_cases a : 0 ≤ p ∧ p < rd m 31 2
  · have inn : ¬ (bz (0 ≤ p ∧ p ≤ rd m 83 28 - 1) = 0) := by rw [bz_0]; exact fun q => q ⟨a.1, by omega⟩
    by_cases a' : 0 ≤ i
    · by_cases b : 2 ≤ rd m 31 2
      · obtain ⟨m1, m2, f1, f2, hI2, hb⟩ := FO_e hI b hn
        have e28 : rd m1 83 28 = rd m 83 28 := FO_1 f1 (by omega)
        have e2 : rd m1 31 2 = rd m 31 2 := FO_1 f1 (by omega)
        have e2' : rd m2 31 2 = rd m1 31 2 := FO_2 f2 (by omega)
        have e3 : rd m1 31 3 = rd m2 31 3 := (FO_2 f2 (by omega)).symm
        have li := hI2.2.2.2.2.2.2.2.2.1
        have b4' := hb.2.2.2.1
        by_cases d : rd m2 31 3 = 0
        · refine ⟨-2, m1, m2, ?_, ?_, hI2⟩
          · show F10_tree m i p = _
            unfold F10_tree
            rw [if_neg (by omega), if_neg (by omega), if_pos a.2, if_pos b, f1, b1_v, e3, if_neg (fun q => q d)]
          · show F11_tree m1 i p = _
            unfold F11_tree
            rw [F11_in_e, e28, w, if_neg inn, if_pos a', if_pos (by omega), f2, b1_v, b4', if_neg (fun q => q d)]
        · by_cases g : i < rd m2 31 3
          · obtain ⟨r, r1, r2⟩ := tree_e hb li a' g a.1 (by omega)
            have r1' : F0_motherPlace m1 i p = some r := by rw [← r1]; exact (lo_F0_motherPlace (fun i => FO_2 f2 (by omega)) (fun i => FO_2 f2 (by omega)) (FO_2 f2 (by omega))).symm
            have i78 := hb.2.2.1
            refine ⟨r, m1, m2, ?_, ?_, hI2⟩
            · show F10_tree m i p = _
              unfold F10_tree
              rw [if_neg (by omega), if_neg (by omega), if_pos a.2, if_pos b, f1, b1_v, e3, if_pos d, if_pos g, r1', b1_v]
            · show F11_tree m1 i p = _
              unfold F11_tree
              rw [F11_in_e, e28, w, if_neg inn, if_pos a', if_pos (by omega), f2, b1_v, b4', if_pos d, if_pos g, gd_t (by omega)]
              exact r2
          · refine ⟨-1, m1, m2, ?_, ?_, hI2⟩
            · show F10_tree m i p = _
              unfold F10_tree
              rw [if_neg (by omega), if_neg (by omega), if_pos a.2, if_pos b, f1, b1_v, e3, if_pos d, if_neg g]
            · show F11_tree m1 i p = _
              unfold F11_tree
              rw [F11_in_e, e28, w, if_neg inn, if_pos a', if_pos (by omega), f2, b1_v, b4', if_pos d, if_neg g]
      · refine Sq_ro (r := -5) hI ?_ ?_
        · unfold F10_tree
          rw [if_neg (by omega), if_neg (by omega), if_pos a.2, if_neg b]
        · unfold F11_tree
          rw [F11_in_e, w, if_neg inn, if_pos a', if_neg (by omega)]
    · refine Sq_ro (r := -1) hI ?_ ?_
      · unfold F10_tree
        rw [if_pos (by omega)]
      · unfold F11_tree
        rw [F11_in_e, w, if_neg inn, if_neg a']
  · refine Sq_ro (r := -1) hI ?_ ?_
    · unfold F10_tree
      by_cases x : i < 0
      · rw [if_pos x]
      · rw [if_neg x]
        by_cases y : p < 0
        · rw [if_pos y]
        · rw [if_neg y, if_neg (by omega)]
    · unfold F11_tree
      rw [F11_in_e, w, if_pos (by rw [bz_0]; exact fun q => a ⟨q.1, by omega⟩)]
theorem st_never {n : Nat} {m : Mem} (p : Int) (hI : Inv n m) (hn : n < 100000000) : Sq n (fun m => F10_never m p) (fun m => F11_never m p) m := by
  obtain ⟨l1, l2, l3, _⟩ := hI.2.2.2.2.2.2.2.2.1
  have w := w32_id (x := rd m 83 28 - 1) (by omega) (by omega)
  by_cases a : 0 ≤ p ∧ p < rd m 31 2
  · have inn : bz (0 ≤ p ∧ p ≤ rd m 83 28 - 1) ≠ 0 := by rw [bz_n]; exact ⟨a.1, by omega⟩
    by_cases b : 2 ≤ rd m 31 2
    · obtain ⟨m1, m2, f1, f2, hI2, hb⟩ := FO_e hI b hn
      have e28 : rd m1 83 28 = rd m 83 28 := FO_1 f1 (by omega)
      have e2 : rd m1 31 2 = rd m 31 2 := FO_1 f1 (by omega)
      have e2' : rd m2 31 2 = rd m1 31 2 := FO_2 f2 (by omega)
      have e3 : rd m1 31 3 = rd m2 31 3 := (FO_2 f2 (by omega)).symm
      have li := hI2.2.2.2.2.2.2.2.2.1
      have b4' := hb.2.2.2.1
      by_cases d : rd m2 31 3 = 0
      · refine ⟨-2, m1, m2, ?_, ?_, hI2⟩
        · show F10_never m p = _
          unfold F10_never
          rw [if_neg (by omega), if_pos a.2, if_pos b, f1, b1_v, e3, if_neg (fun q => q d)]
        · show F11_never m1 p = _
          unfold F11_never
          rw [F11_in_e, e28, w, if_pos inn, if_pos (by omega), f2, b1_v, b4', if_neg (fun q => q d)]
      · obtain ⟨r, r1, r2⟩ := never_e hb li (by have := hb.2.1; omega) a.1 (by omega)
        have r1' : F0_neverMothers m1 p = some r := by rw [← r1]; exact (lo_F0_neverMothers (fun i => FO_2 f2 (by omega)) (FO_2 f2 (by omega))).symm
        refine ⟨r, m1, m2, ?_, ?_, hI2⟩
        · show F10_never m p = _
          unfold F10_never
          rw [if_neg (by omega), if_pos a.2, if_pos b, f1, b1_v, e3, if_pos d, r1', b1_v]
        · show F11_never m1 p = _
          unfold F11_never
          rw [F11_in_e, e28, w, if_pos inn, if_pos (by omega), f2, b1_v, b4', if_pos d, r2]
    · refine Sq_ro (r := -5) hI ?_ ?_
      · unfold F10_never
        rw [if_neg (by omega), if_pos a.2, if_neg b]
      · unfold F11_never
        rw [F11_in_e, w, if_pos inn, if_neg (by omega)]
  · refine Sq_ro (r := -1) hI ?_ ?_
    · unfold F10_never
      by_cases y : p < 0
      · rw [if_pos y]
      · rw [if_neg y, if_neg (by omega)]
    · unfold F11_never
      rw [F11_in_e, w, if_neg (by rw [bz_n]; exact fun q => a ⟨q.1, by omega⟩)]
