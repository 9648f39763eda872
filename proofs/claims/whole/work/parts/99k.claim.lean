/-! claim -/
theorem st_claim {n : Nat} {m : Mem} (c : Int) (hI : Inv n m) (hn : n < 100000000) : Sq n (fun m => F10_claim m c) (fun m => F11_claim m c) m := by
  have i1 := hI.1.1
  have i2 := hI.1.2.1
  have i3 := hI.1.2.2.1
  by_cases a : 0 ≤ c ∧ c < rd m 83 1
  · have ch := hI.1.2.2.2.1 c a.1 a.2
    by_cases b : rd m 86 c < 0
    · refine Sq_ro (r := -1) hI ?_ ?_
      · unfold F10_claim
        rw [F1_has_e, i3, if_neg (by rw [bz_0]; exact fun q => q a), gd_t (by omega), ch.2.2.1, if_neg (by omega)]
      · unfold F11_claim
        rw [F11_isCharter_e m c i1, if_neg (by rw [bz_0]; exact fun q => q a), gd_t (by omega), if_pos b]
    · obtain ⟨r, p1, p2, p3⟩ := place_e c hI
      obtain ⟨s, q1, q2, q3⟩ := place_e (rd m 86 c) hI
      by_cases x : r < 0
      · refine Sq_ro (r := -1) hI ?_ ?_
        · unfold F10_claim
          rw [F1_has_e, i3, if_neg (by rw [bz_0]; exact fun q => q a), gd_t (by omega), ch.2.2.1, if_pos (by omega), p1, b1_v, gd_t (by omega), q1, b1_v, if_pos x]
        · unfold F11_claim
          rw [F11_isCharter_e m c i1, if_neg (by rw [bz_0]; exact fun q => q a), gd_t (by omega), if_neg b, p2, b1_v, if_pos x]
      · by_cases y : s < 0
        · refine Sq_ro (r := -1) hI ?_ ?_
          · unfold F10_claim
            rw [F1_has_e, i3, if_neg (by rw [bz_0]; exact fun q => q a), gd_t (by omega), ch.2.2.1, if_pos (by omega), p1, b1_v, gd_t (by omega), q1, b1_v, if_neg x, if_neg (by omega)]
          · unfold F11_claim
            rw [F11_isCharter_e m c i1, if_neg (by rw [bz_0]; exact fun q => q a), gd_t (by omega), if_neg b, p2, b1_v, if_neg x, gd_t (by omega), q2, b1_v, if_neg (by omega)]
        · have r3 : 0 ≤ r ∧ r < rd m 31 2 ∧ rd m 103 r = c := by
            rcases p3 with h | h
            · omega
            · exact h
          have s3 : 0 ≤ s ∧ s < rd m 31 2 ∧ rd m 103 s = rd m 86 c := by
            rcases q3 with h | h
            · omega
            · exact h
          have rs : r ≠ s := fun e => by
            have := r3.2.2; rw [e, s3.2.2] at this; omega
          have two : 2 ≤ rd m 31 2 := by omega
          have l6 := hI.2.2.2.2.2.2.2.2.1.2.1
          obtain ⟨m1, m2, f1, f2, hI2, hb⟩ := FO_e hI two hn
          have li := hI2.2.2.2.2.2.2.2.2.1
          have e3 : rd m1 31 3 = rd m2 31 3 := (FO_2 f2 (by omega)).symm
          have b4' := hb.2.2.2.1
          have c1 : rd m1 83 1 = rd m 83 1 := FO_1 f1 (by omega)
          have c86 : rd m1 86 c = rd m 86 c := FO_1 f1 (by omega)
          have pl1 : ∀ v, F11_placeOf m1 v = F11_placeOf m v := fun v => lo_F11_placeOf (FO_1 f1 (by omega)) (fun i => FO_1 f1 (by omega))
          have pl2 : ∀ v, F11_placeOf m2 v = F11_placeOf m1 v := fun v => lo_F11_placeOf (FO_2 f2 (by omega)) (fun i => FO_2 f2 (by omega))
          have c862 : rd m2 86 c = rd m 86 c := by rw [FO_2 f2 (by omega)]; exact c86
          have d10 : ∀ X : Option (Int × Mem), (b1 (F0_find m) fun m65 => if (rd m65 31 3) ≠ 0 then b1 (F0_borneOut m65 r s) fun r89 => some (r89, m65) else some ((-2), m65)) = X → F10_claim m c = X := fun X h => by
            unfold F10_claim
            rw [F1_has_e, i3, if_neg (by rw [bz_0]; exact fun q => q a), gd_t (by omega), ch.2.2.1, if_pos (by omega), p1, b1_v, gd_t (by omega), q1, b1_v, if_neg x, if_pos (by omega)]
            exact h
          have d11 : ∀ X : Option (Int × Mem), (if (rd m2 83 33) ≠ 0 then (if (rd m2 106 (10 * r + s)) ≠ (rd m2 83 33) then if (rd m2 106 (10 * r + s)) ≤ 0 then some ((0 : Int), m2) else some (1, m2) else some (2, m2)) else some ((-2), m2)) = X → F11_claim m1 c = X := fun X h => by
            unfold F11_claim
            rw [F11_isCharter_e m1 c (by omega), c1, if_neg (by rw [bz_0]; exact fun q => q a), gd_t (by omega), c86, if_neg b, pl1, p2, b1_v, if_neg x, gd_t (by omega), pl1, q2, b1_v, if_pos (by omega), f2, b1_v, pl2, pl1, p2, b1_v, gd_t (by omega), pl2, pl1, c862, q2, b1_v, w32_id (x := 10 * r) (by omega) (by omega), w32_id (x := 10 * r + s) (by omega) (by omega), gd_t (by omega)]
            exact h
          by_cases z : rd m2 31 3 = 0
          · refine ⟨-2, m1, m2, d10 _ ?_, d11 _ ?_, hI2⟩
            · rw [f1, b1_v, e3, if_neg (fun q => q z)]
            · rw [b4', if_neg (fun q => q z)]
          · have e2 : rd m2 31 2 = rd m 31 2 := by rw [FO_2 f2 (by omega)]; exact FO_1 f1 (by omega)
            obtain ⟨t, t1, t2⟩ := borne_e hb li (by have := hb.2.1; omega) r3.1 (show r < rd m2 31 2 by omega) s3.1 (show s < rd m2 31 2 by omega)
            refine ⟨t, m1, m2, d10 _ ?_, d11 _ ?_, hI2⟩
            · have t1' : F0_borneOut m1 r s = some t := by
                rw [← t1]
                have e46 : ∀ i, rd m2 46 i = rd m1 46 i := fun i => FO_2 f2 (by omega)
                unfold F0_borneOut
                simp only [e46]
              rw [f1, b1_v, e3, if_pos z, t1', b1_v]
            · rw [if_pos (by omega)]
              exact t2
  · refine Sq_ro (r := -1) hI ?_ ?_
    · unfold F10_claim
      rw [F1_has_e, i3, if_pos (by rw [bz_0]; exact a)]
    · unfold F11_claim
      rw [F11_isCharter_e m c i1, if_pos (by rw [bz_0]; exact a)]
