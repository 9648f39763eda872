theorem Sq_rel {n : Nat} {m : Mem} {f g : Mem → Option (Int × Mem)} {R : Mem → Int → Prop} (hI : Inv n m) (hf : ∃ x m1, f m = some (x, m1) ∧ Sm m m1 ∧ R m x) (hg : ∀ m1, Inv n m1 → ∃ x m2, g m1 = some (x, m2) ∧ Sm m1 m2 ∧ R m1 x) (hs : ∀ m1 x, Sm m m1 → R m1 x → R m x) (hu : ∀ x y, R m x → R m y → x = y) : Sq n f g m := by
  obtain ⟨x, m1, a, b, c⟩ := hf
  have i1 := Inv_same b hI
  obtain ⟨y, m2, d, e, h⟩ := hg m1 i1
  have := hu x y c (hs m1 y b h)
  subst this
  exact ⟨x, m1, m2, a, d, Inv_mono (by omega) (Inv_same e i1)⟩
def dayR (m : Mem) (v w x : Int) : Prop := if 0 ≤ v ∧ v < rd m 83 1 then (if 0 ≤ w ∧ w ≤ 2 then ∃ r, lateR (inN (rd m 83 1)) (fun v => rd m 88 v) (fun v => rd m 84 v) (fun v => rd m 85 v) r ∧ x = (if w = 2 then (if r < 0 then -2 else r) else if 0 ≤ r then -2 else if w = 0 then ES (fun v => rd m 88 v) (fun v => rd m 84 v) v else LTS (inN (rd m 83 1)) (fun v => rd m 88 v) (fun v => rd m 85 v) v) else x = -1) else x = -1
theorem dayR_s {m m' : Mem} (h : Sm m m') (v w x : Int) : dayR m' v w x → dayR m v w x := by
  have e1 : rd m' 83 1 = rd m 83 1 := Sm_r h (by unfold PS; omega)
  have e88 : ∀ i, rd m' 88 i = rd m 88 i := fun i => Sm_r h (by unfold PS; omega)
  have e84 : ∀ i, rd m' 84 i = rd m 84 i := fun i => Sm_r h (by unfold PS; omega)
  have e85 : ∀ i, rd m' 85 i = rd m 85 i := fun i => Sm_r h (by unfold PS; omega)
  unfold dayR; simp only [e1, e88, e84, e85]; exact fun q => q
theorem dayR_u {m : Mem} {v w x y : Int} (h : dayR m v w x) (h' : dayR m v w y) : x = y := by
  unfold dayR at h h'
  by_cases a : 0 ≤ v ∧ v < rd m 83 1
  · rw [if_pos a] at h h'
    by_cases b : 0 ≤ w ∧ w ≤ 2
    · rw [if_pos b] at h h'
      obtain ⟨r, r1, r2⟩ := h
      obtain ⟨s, s1, s2⟩ := h'
      rcases lateR_u r1 s1 with ⟨c, d⟩ | ⟨c, d⟩
      · rw [r2, s2, if_pos c, if_pos d, if_neg (show ¬ 0 ≤ r by omega), if_neg (show ¬ 0 ≤ s by omega)]
      · rw [r2, s2, c]
    · rw [if_neg b] at h h'; omega
  · rw [if_neg a] at h h'; omega
theorem Gr_DD {n : Nat} {M m : Mem} (hI : Inv n M) (hg : Gr M m 14 (rd M 83 1)) : DD m 14 (rd M 83 1) (fun v => rd M 88 v) (fun v => rd M 84 v) (fun v => rd M 85 v) := by
  obtain ⟨⟨a1, a2, a3, a4, -⟩, ⟨c1, c2, c3⟩, -⟩ := hI
  obtain ⟨g1, g2, g3, g4⟩ := hg
  refine ⟨g1, fun v x y => ?_, Od_c g4 (fun v x y => c3 v x y)⟩
  obtain ⟨q1, q2, q3⟩ := g2 v x y
  rw [q1, q2, q3, c3 v x y, (a4 v x y).1, (a4 v x y).2.1]
  exact ⟨rfl, rfl, rfl⟩
theorem day_ab {n : Nat} {M : Mem} (hI : Inv n M) : ∀ v, inN (rd M 83 1) v = true → 0 ≤ rd M 84 v ∧ rd M 84 v ≤ rd M 85 v ∧ rd M 85 v ≤ 999 := fun v hv => by
  have h := inN_e.mp hv
  have := hI.1.2.2.2.1 v h.1 h.2
  omega
theorem acyI {n : Nat} {m : Mem} (hI : Inv n m) : Acy (inN (rd m 83 1)) (fun v => rd m 88 v) := by
  obtain ⟨⟨a1, a2, -⟩, -, -, lo, hi, -⟩ := hI
  exact acy_N ⟨a1, a2⟩ (ac_now lo hi)
theorem st_days {n : Nat} {m : Mem} (v w : Int) (hI : Inv n m) : Sq n (fun m => F10_days m v w) (fun m => F11_days m v w) m := by
  refine Sq_rel (R := fun m x => dayR m v w x) hI ?_ (fun m1 h => ?_) (fun m1 x h => dayR_s h v w x) (fun x y => dayR_u)
  · have a12 : 0 ≤ rd m 83 1 ∧ rd m 83 1 ≤ 12 := ⟨hI.1.1, hI.1.2.1⟩
    unfold F10_days dayR
    rw [F1_has_e, hI.1.2.2.1]
    by_cases a : 0 ≤ v ∧ v < rd m 83 1
    · rw [if_neg (by rw [bz_0]; exact fun z => z a)]
      simp only [if_pos a]
      by_cases b : 0 ≤ w ∧ w ≤ 2
      · obtain ⟨m1, x1, y1, z1⟩ := grow14 hI
        have ab := day_ab hI
        have dd := Gr_DD hI y1
        obtain ⟨r, m2, x2, y2, z2, w2⟩ := firstLate_e (o := 14) a12 (acyI hI) (fun v x y => by have := ab v (inN_e.mpr ⟨x, y⟩); omega) dd
        have s2 : Sm m m2 := fun k i q => by rw [y2 k i (by unfold PS at q; omega), z1 k i (by unfold PS at q; omega)]
        rw [if_neg (by omega), if_pos (by omega), x1, b1_v, x2, b2_v]
        simp only [if_pos b]
        by_cases c : w = 2
        · rw [if_neg (by omega)]
          by_cases d : 0 ≤ r
          · rw [if_pos d]
            exact ⟨_, m2, rfl, s2, r, w2, by rw [if_pos c, if_neg (by omega)]⟩
          · rw [if_neg d]
            exact ⟨_, m2, rfl, s2, r, w2, by rw [if_pos c, if_pos (by omega)]⟩
        · rw [if_pos c]
          by_cases d : r < 0
          · rw [if_pos d]
            by_cases e : w = 0
            · rw [if_neg (by omega), gd_t (by omega)]
              exact ⟨_, m2, rfl, s2, r, w2, by rw [if_neg c, if_neg (by omega), if_pos e]; exact z2 v a.1 a.2⟩
            · obtain ⟨m3, x3, y3⟩ := latestOf_e (o := 14) a12 (acyI hI) (fun v h => by have := ab v h; omega) (DD_s dd (m' := m2) (fun k i q _ => y2 k i q)) a.1 a.2
              rw [if_pos e, x3, b2_v]
              exact ⟨_, m3, rfl, fun k i q => by rw [y3 k i (by unfold PS at q; omega)]; exact s2 k i q, r, w2, by rw [if_neg c, if_neg (by omega), if_neg e]⟩
          · rw [if_neg d]
            exact ⟨_, m2, rfl, s2, r, w2, by rw [if_neg c, if_pos (by omega)]⟩
      · simp only [if_neg b]
        by_cases c : w < 0
        · rw [if_pos c]; exact ⟨_, m, rfl, fun _ _ _ => rfl, rfl⟩
        · rw [if_neg c, if_neg (by omega)]; exact ⟨_, m, rfl, fun _ _ _ => rfl, rfl⟩
    · rw [if_pos (by rw [bz_0]; exact a)]
      simp only [if_neg a]
      exact ⟨_, m, rfl, fun _ _ _ => rfl, rfl⟩
  · unfold F11_days dayR
    rw [F11_isCharter_e m1 v h.1.1, F11_in_e]
    by_cases a : 0 ≤ v ∧ v < rd m1 83 1
    · rw [if_neg (by rw [bz_0]; exact fun z => z a)]
      simp only [if_pos a]
      by_cases b : 0 ≤ w ∧ w ≤ 2
      · obtain ⟨m2, x1, t1, o1, o2, b1', z1⟩ := rlook h
        have z1' : ∀ k i, ¬ PL k i → m2 k i = m1 k i := fun k i h => z1 k i (fun q => h q.1)
        have a12 := h.1.2.1
        obtain ⟨r, m3, x3, y3, z3, v3, w3⟩ := findDays_e (p := fun v => rd m1 88 v) (a := fun v => rd m1 84 v) (b := fun v => rd m1 85 v) (acyI h) (day_ab h) ⟨t1, o1, o2, fun u _ => ⟨rd_eq (z1' _ _ (by unfold PL; omega)), rd_eq (z1' _ _ (by unfold PL; omega))⟩⟩
        have s3 : Sm m1 m3 := PL_sm (fun k i q => by unfold PL at q; rw [y3 k i (by omega) (by omega)]; exact z1' k i (by unfold PL; omega))
        obtain ⟨e1, e2⟩ := z3 v (inN_e.mpr a)
        rw [if_pos (by rw [bz_n]; exact b), x1, b1_v, x3, b2_v]
        simp only [if_pos b]
        by_cases c : w = 2
        · rw [if_neg (by omega)]
          exact ⟨_, m3, rfl, s3, r, w3, by rw [if_pos c]; split <;> omega⟩
        · rw [if_pos c]
          by_cases d : r < 0
          · rw [if_pos d]
            by_cases e : w = 0
            · rw [if_neg (by omega), gd_t (by omega)]
              exact ⟨_, m3, rfl, s3, r, w3, by rw [if_neg c, if_neg (by omega), if_pos e]; exact e1⟩
            · rw [if_pos e, gd_t (by omega)]
              exact ⟨_, m3, rfl, s3, r, w3, by rw [if_neg c, if_neg (by omega), if_neg e]; exact e2⟩
          · rw [if_neg d]
            exact ⟨_, m3, rfl, s3, r, w3, by rw [if_neg c, if_pos (by omega)]⟩
      · rw [if_neg (by rw [bz_n]; exact b)]
        simp only [if_neg b]
        exact ⟨_, m1, rfl, fun _ _ _ => rfl, rfl⟩
    · rw [if_pos (by rw [bz_0]; exact a)]
      simp only [if_neg a]
      exact ⟨_, m1, rfl, fun _ _ _ => rfl, rfl⟩
