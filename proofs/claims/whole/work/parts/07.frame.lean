set_option maxRecDepth 100000 in
set_option maxHeartbeats 4000000 in
theorem fr_L8_take_16 {k : Nat} {i : Int} {out : Int × Mem} {v1 : Int} {v2 : Int} {k56 : Mem → Option (Int × Mem)} (hk_2 : k ≠ 2) (hf1_1 : ¬ (k = 1 ∧ i = 1)) (hk56 : ∀ (m : Mem), k56 m = some out → out.2 k i = m k i) : ∀ (n : Nat) (v3 : Int) (m : Mem), L8_take_16 v1 v2 k56 n v3 m = some out → out.2 k i = m k i := by
  intro n
  induction n with
  | zero =>
    intro v3 m h
    cases h
  | succ n ih =>
    intro v3 m h
    rw [L8_take_16] at h
    rcases ite_or h with ⟨hc, h⟩ | ⟨hc, h⟩
    · exact (hk56 m h).trans rfl
    obtain ⟨g1, h⟩ := gd_some h
    replace h := stw_e h
    have f39 : (wr m 2 (rd m 1 1) (band (shr v2 (w32 (8 * v3))) 255)) k i = m k i := wr_ka hk_2
    generalize wr m 2 (rd m 1 1) (band (shr v2 (w32 (8 * v3))) 255) = m39 at h f39
    replace h := stw_e h
    have f47 : (wr m39 1 1 (w32 ((rd m39 1 1) + 1))) k i = m39 k i := wr_ki hf1_1
    generalize wr m39 1 1 (w32 ((rd m39 1 1) + 1)) = m47 at h f47
    exact (ih (w32 (v3 + 1)) m47 h).trans (f47.trans f39)
set_option maxRecDepth 100000 in
set_option maxHeartbeats 4000000 in
theorem fr_F8_take {k : Nat} {i : Int} {m : Mem}  {v1 v2 : Int} {out : Int × Mem} (hk_2 : k ≠ 2) (hf1_1 : ¬ (k = 1 ∧ i = 1)) (h : F8_take m v1 v2 = some out) : out.2 k i = m k i := by
  unfold F8_take at h
  rcases ite_or h with ⟨hc, h⟩ | ⟨hc, h⟩
  · refine (fr_L8_take_16 hk_2 hf1_1 (fun m_56 h => ?_) FU 0 m h).trans rfl
    exact (congrArg (fun z : Int × Mem => z.2 k i) (Option.some.inj h)).symm.trans rfl
  exact (congrArg (fun z : Int × Mem => z.2 k i) (Option.some.inj h)).symm.trans rfl
set_option maxRecDepth 100000 in
set_option maxHeartbeats 4000000 in
theorem fr_F10_feed {k : Nat} {i : Int} {m : Mem}  {v1 v2 : Int} {out : Int × Mem} (hk_2 : k ≠ 2) (hf1_1 : ¬ (k = 1 ∧ i = 1)) (h : F10_feed m v1 v2 = some out) : out.2 k i = m k i := by
  unfold F10_feed at h
  refine (jn_e h (fun (K : Option (Int × Mem)) => K = some out → out.2 k i = m k i) (fun h => ?_) (fun K10 J10 h => ?_))
  · exact (congrArg (fun z : Int × Mem => z.2 k i) (Option.some.inj h)).symm.trans rfl
  rcases ite_or h with ⟨hc, h⟩ | ⟨hc, h⟩
  · exact (J10 h).trans rfl
  rcases ite_or h with ⟨hc, h⟩ | ⟨hc, h⟩
  · obtain ⟨r20, m20, e20, h⟩ := b2_some h
    have f20 : m20 k i = m k i := fr_F8_take hk_2 hf1_1 e20
    exact (congrArg (fun z : Int × Mem => z.2 k i) (Option.some.inj h)).symm.trans f20
  exact (J10 h).trans rfl
set_option maxRecDepth 100000 in
set_option maxHeartbeats 4000000 in
theorem fr_LJ7_fill_53178_5 {k : Nat} {i : Int} {out : Mem} {a0 : Nat} {len : Nat} {v1 : Int} {v3 : Int} (hk_a0 : k ≠ a0) : ∀ (n : Nat) (v2 : Int) (m : Mem), LJ7_fill_53178_5 a0 len v1 v3 n v2 m = some out → out k i = m k i := by
  intro n
  induction n with
  | zero =>
    intro v2 m h
    cases h
  | succ n ih =>
    intro v2 m h
    rw [LJ7_fill_53178_5] at h
    rcases ite_or h with ⟨hc, h⟩ | ⟨hc, h⟩
    · exact (congrArg (fun z : Mem => z k i) (Option.some.inj h)).symm.trans rfl
    obtain ⟨g1, h⟩ := gd_some h
    replace h := stw_e h
    have f13 : (wr m a0 v2 v1) k i = m k i := wr_ka hk_a0
    generalize wr m a0 v2 v1 = m13 at h f13
    exact (ih (w32 (v2 + 1)) m13 h).trans f13
set_option maxRecDepth 100000 in
set_option maxHeartbeats 4000000 in
theorem fr_FJ7_fill_53178 {k : Nat} {i : Int} {m : Mem} {a0 : Nat} {len : Nat} {v1 : Int} {out : Mem} (hk_a0 : k ≠ a0) (h : FJ7_fill_53178 m a0 len v1 = some out) : out k i = m k i := by
  unfold FJ7_fill_53178 at h
  refine (fr_LJ7_fill_53178_5 hk_a0 FU 0 m h).trans rfl
set_option maxRecDepth 100000 in
set_option maxHeartbeats 4000000 in
theorem fr_L8_number_4 {k : Nat} {i : Int} {out : Int × Mem} {v1 : Int} (hf6_1 : ¬ (k = 1 ∧ i = 6)) : ∀ (n : Nat) (v2 : Int) (v3 : Int) (m : Mem), L8_number_4 v1 n v2 v3 m = some out → out.2 k i = m k i := by
  intro n
  induction n with
  | zero =>
    intro v2 v3 m h
    cases h
  | succ n ih =>
    intro v2 v3 m h
    rw [L8_number_4] at h
    rcases ite_or h with ⟨hc, h⟩ | ⟨hc, h⟩
    · exact (congrArg (fun z : Int × Mem => z.2 k i) (Option.some.inj h)).symm.trans rfl
    obtain ⟨r10, e10, h⟩ := b1_some h
    rcases ite_or h with ⟨hc, h⟩ | ⟨hc, h⟩
    · exact (congrArg (fun z : Int × Mem => z.2 k i) (Option.some.inj h)).symm.trans rfl
    obtain ⟨r19, e19, h⟩ := b1_some h
    rcases ite_or h with ⟨hc, h⟩ | ⟨hc, h⟩
    · exact (congrArg (fun z : Int × Mem => z.2 k i) (Option.some.inj h)).symm.trans rfl
    obtain ⟨r36, e36, h⟩ := b1_some h
    replace h := stw_e h
    have f51 : (wr m 1 6 (w32 ((rd m 1 6) + 1))) k i = m k i := wr_ki hf6_1
    generalize wr m 1 6 (w32 ((rd m 1 6) + 1)) = m51 at h f51
    exact (ih (w32 ((w32 ((w32 ((imx v2 0) * 10)) + r36)) - 48)) (w32 (v3 + 1)) m51 h).trans f51
set_option maxRecDepth 100000 in
set_option maxHeartbeats 4000000 in
theorem fr_F8_number {k : Nat} {i : Int} {m : Mem}  {v1 : Int} {out : Int × Mem} (hf6_1 : ¬ (k = 1 ∧ i = 6)) (h : F8_number m v1 = some out) : out.2 k i = m k i := by
  unfold F8_number at h
  refine (fr_L8_number_4 hf6_1 FU (-1) 0 m h).trans rfl
set_option maxRecDepth 100000 in
set_option maxHeartbeats 4000000 in
theorem fr_F8_readDays {k : Nat} {i : Int} {m : Mem}  {out : Int × Mem} (hf6_1 : ¬ (k = 1 ∧ i = 6)) (hf2_1 : ¬ (k = 1 ∧ i = 2)) (hf3_1 : ¬ (k = 1 ∧ i = 3)) (h : F8_readDays m = some out) : out.2 k i = m k i := by
  unfold F8_readDays at h
  obtain ⟨r3, m3, e3, h⟩ := b2_some h
  have f3 : m3 k i = m k i := fr_F8_number hf6_1 e3
  replace h := stw_e h
  have f6 : (wr m3 1 2 r3) k i = m3 k i := wr_ki hf2_1
  generalize wr m3 1 2 r3 = m6 at h f6
  rcases ite_or h with ⟨hc, h⟩ | ⟨hc, h⟩
  · replace h := stw_e h
    have f26 : (wr m6 1 3 (rd m6 1 2)) k i = m6 k i := wr_ki hf3_1
    generalize wr m6 1 3 (rd m6 1 2) = m26 at h f26
    obtain ⟨r30, e30, h⟩ := b1_some h
    rcases ite_or h with ⟨hc, h⟩ | ⟨hc, h⟩
    · replace h := stw_e h
      have f47 : (wr m26 1 6 (w32 ((rd m26 1 6) + 1))) k i = m26 k i := wr_ki hf6_1
      generalize wr m26 1 6 (w32 ((rd m26 1 6) + 1)) = m47 at h f47
      obtain ⟨r58, m58, e58, h⟩ := b2_some h
      have f58 : m58 k i = m47 k i := fr_F8_number hf6_1 e58
      replace h := stw_e h
      have f61 : (wr m58 1 3 r58) k i = m58 k i := wr_ki hf3_1
      generalize wr m58 1 3 r58 = m61 at h f61
      rcases ite_or h with ⟨hc, h⟩ | ⟨hc, h⟩
      · exact (congrArg (fun z : Int × Mem => z.2 k i) (Option.some.inj h)).symm.trans (f61.trans (f58.trans (f47.trans (f26.trans (f6.trans f3)))))
      exact (congrArg (fun z : Int × Mem => z.2 k i) (Option.some.inj h)).symm.trans (f61.trans (f58.trans (f47.trans (f26.trans (f6.trans f3)))))
    exact (congrArg (fun z : Int × Mem => z.2 k i) (Option.some.inj h)).symm.trans (f26.trans (f6.trans f3))
  exact (congrArg (fun z : Int × Mem => z.2 k i) (Option.some.inj h)).symm.trans (f6.trans f3)
set_option maxRecDepth 100000 in
set_option maxHeartbeats 4000000 in
theorem fr_L8_readClauses_4 {k : Nat} {i : Int} {out : Int × Mem} {k52 : Mem → Option (Int × Mem)} {k113 : Mem → Option (Int × Mem)} (hf6_1 : ¬ (k = 1 ∧ i = 6)) (hk_3 : k ≠ 3) (hk52 : ∀ (m : Mem), k52 m = some out → out.2 k i = m k i) (hk113 : ∀ (m : Mem), k113 m = some out → out.2 k i = m k i) : ∀ (n : Nat) (v1 : Int) (v2 : Int) (m : Mem), L8_readClauses_4 k52 k113 n v1 v2 m = some out → out.2 k i = m k i := by
  intro n
  induction n with
  | zero =>
    intro v1 v2 m h
    cases h
  | succ n ih =>
    intro v1 v2 m h
    rw [L8_readClauses_4] at h
    rcases ite_or h with ⟨hc, h⟩ | ⟨hc, h⟩
    · exact (congrArg (fun z : Int × Mem => z.2 k i) (Option.some.inj h)).symm.trans rfl
    obtain ⟨r11, e11, h⟩ := b1_some h
    rcases ite_or h with ⟨hc, h⟩ | ⟨hc, h⟩
    · exact (congrArg (fun z : Int × Mem => z.2 k i) (Option.some.inj h)).symm.trans rfl
    replace h := stw_e h
    have f26 : (wr m 1 6 (w32 ((rd m 1 6) + 1))) k i = m k i := wr_ki hf6_1
    generalize wr m 1 6 (w32 ((rd m 1 6) + 1)) = m26 at h f26
    obtain ⟨r30, e30, h⟩ := b1_some h
    rcases ite_or h with ⟨hc, h⟩ | ⟨hc, h⟩
    · exact (hk52 m26 h).trans f26
    rcases ite_or h with ⟨hc, h⟩ | ⟨hc, h⟩
    · replace h := stw_e h
      have f70 : (wr m26 1 6 (w32 ((rd m26 1 6) + 1))) k i = m26 k i := wr_ki hf6_1
      generalize wr m26 1 6 (w32 ((rd m26 1 6) + 1)) = m70 at h f70
      obtain ⟨r74, e74, h⟩ := b1_some h
      refine (jn_e h (fun (K : Int → Option (Int × Mem)) => ∀ (x94 : Int), K x94 = some out → out.2 k i = m70 k i) (fun x94 h => ?_) (fun K94 J94 h => ?_))
      · rcases ite_or h with ⟨hc, h⟩ | ⟨hc, h⟩
        · exact (hk113 m70 h).trans rfl
        obtain ⟨r105, e105, h⟩ := b1_some h
        rcases ite_or h with ⟨hc, h⟩ | ⟨hc, h⟩
        · obtain ⟨g1, h⟩ := gd_some h
          replace h := stw_e h
          have f125 : (wr m70 3 (w32 (r30 - 97)) x94) k i = m70 k i := wr_ka hk_3
          generalize wr m70 3 (w32 (r30 - 97)) x94 = m125 at h f125
          replace h := stw_e h
          have f133 : (wr m125 1 6 (w32 ((rd m125 1 6) + 1))) k i = m125 k i := wr_ki hf6_1
          generalize wr m125 1 6 (w32 ((rd m125 1 6) + 1)) = m133 at h f133
          exact (ih (bor v1 (shl 1 (w32 (r30 - 97)))) (w32 (v2 + 1)) m133 h).trans (f133.trans f125)
        exact (hk113 m70 h).trans rfl
      rcases ite_or h with ⟨hc, h⟩ | ⟨hc, h⟩
      · obtain ⟨r88, e88, h⟩ := b1_some h
        exact (J94 (w32 (r88 - 48)) h).trans (f70.trans f26)
      exact (J94 9 h).trans (f70.trans f26)
    exact (hk52 m26 h).trans f26
set_option maxRecDepth 100000 in
set_option maxHeartbeats 4000000 in
theorem fr_F8_readClauses {k : Nat} {i : Int} {m : Mem}  {out : Int × Mem} (hf6_1 : ¬ (k = 1 ∧ i = 6)) (hk_3 : k ≠ 3) (h : F8_readClauses m = some out) : out.2 k i = m k i := by
  unfold F8_readClauses at h
  refine (fr_L8_readClauses_4 hf6_1 hk_3 (fun m_52 h => ?_) (fun m_113 h => ?_) FU 0 0 m h).trans rfl
  · exact (congrArg (fun z : Int × Mem => z.2 k i) (Option.some.inj h)).symm.trans rfl
  · exact (congrArg (fun z : Int × Mem => z.2 k i) (Option.some.inj h)).symm.trans rfl
set_option maxRecDepth 100000 in
set_option maxHeartbeats 4000000 in
theorem fr_F8_readMother {k : Nat} {i : Int} {m : Mem}  {v1 : Int} {out : Int × Mem} (hf6_1 : ¬ (k = 1 ∧ i = 6)) (hf4_1 : ¬ (k = 1 ∧ i = 4)) (h : F8_readMother m v1 = some out) : out.2 k i = m k i := by
  unfold F8_readMother at h
  obtain ⟨r1, e1, h⟩ := b1_some h
  rcases ite_or h with ⟨hc, h⟩ | ⟨hc, h⟩
  · replace h := stw_e h
    have f18 : (wr m 1 6 (w32 ((rd m 1 6) + 1))) k i = m k i := wr_ki hf6_1
    generalize wr m 1 6 (w32 ((rd m 1 6) + 1)) = m18 at h f18
    obtain ⟨r29, m29, e29, h⟩ := b2_some h
    have f29 : m29 k i = m18 k i := fr_F8_number hf6_1 e29
    replace h := stw_e h
    have f32 : (wr m29 1 4 r29) k i = m29 k i := wr_ki hf4_1
    generalize wr m29 1 4 r29 = m32 at h f32
    refine (jn_e h (fun (K : Option (Int × Mem)) => K = some out → out.2 k i = m32 k i) (fun h => ?_) (fun K50 J50 h => ?_))
    · exact (congrArg (fun z : Int × Mem => z.2 k i) (Option.some.inj h)).symm.trans rfl
    rcases ite_or h with ⟨hc, h⟩ | ⟨hc, h⟩
    · exact (J50 h).trans (f32.trans (f29.trans f18))
    rcases ite_or h with ⟨hc, h⟩ | ⟨hc, h⟩
    · exact (congrArg (fun z : Int × Mem => z.2 k i) (Option.some.inj h)).symm.trans (f32.trans (f29.trans f18))
    exact (J50 h).trans (f32.trans (f29.trans f18))
  exact (congrArg (fun z : Int × Mem => z.2 k i) (Option.some.inj h)).symm.trans rfl
set_option maxRecDepth 100000 in
set_option maxHeartbeats 4000000 in
theorem fr_F8_read {k : Nat} {i : Int} {m : Mem}  {v1 : Int} {out : Int × Mem} (hf6_1 : ¬ (k = 1 ∧ i = 6)) (hf4_1 : ¬ (k = 1 ∧ i = 4)) (hk_3 : k ≠ 3) (hf2_1 : ¬ (k = 1 ∧ i = 2)) (hf3_1 : ¬ (k = 1 ∧ i = 3)) (h : F8_read m v1 = some out) : out.2 k i = m k i := by
  unfold F8_read at h
  replace h := stw_e h
  have f2 : (wr m 1 6 0) k i = m k i := wr_ki hf6_1
  generalize wr m 1 6 0 = m2 at h f2
  replace h := stw_e h
  have f7 : (wr m2 1 4 (-1)) k i = m2 k i := wr_ki hf4_1
  generalize wr m2 1 4 (-1) = m7 at h f7
  obtain ⟨m16, e16, h⟩ := b1_some h
  have f16 : m16 k i = m7 k i := fr_FJ7_fill_53178 hk_3 e16
  obtain ⟨r20, m20, e20, h⟩ := b2_some h
  have f20 : m20 k i = m16 k i := fr_F8_readDays hf6_1 hf2_1 hf3_1 e20
  refine (jn_e h (fun (K : Int → Mem → Option (Int × Mem)) => ∀ (v2_33 : Int) (m_33 : Mem), K v2_33 m_33 = some out → out.2 k i = m_33 k i) (fun v2_33 m_33 h => ?_) (fun K33 J33 h => ?_))
  · refine (jn_e h (fun (K : Int → Mem → Option (Int × Mem)) => ∀ (v2_43 : Int) (m_43 : Mem), K v2_43 m_43 = some out → out.2 k i = m_43 k i) (fun v2_43 m_43 h => ?_) (fun K43 J43 h => ?_))
    · refine (jn_e h (fun (K : Option (Int × Mem)) => K = some out → out.2 k i = m_43 k i) (fun h => ?_) (fun K65 J65 h => ?_))
      · exact (congrArg (fun z : Int × Mem => z.2 k i) (Option.some.inj h)).symm.trans rfl
      rcases ite_or h with ⟨hc, h⟩ | ⟨hc, h⟩
      · exact (J65 h).trans rfl
      rcases ite_or h with ⟨hc, h⟩ | ⟨hc, h⟩
      · exact (J65 h).trans rfl
      exact (congrArg (fun z : Int × Mem => z.2 k i) (Option.some.inj h)).symm.trans rfl
    rcases ite_or h with ⟨hc, h⟩ | ⟨hc, h⟩
    · exact (J43 v2_33 m_33 h).trans rfl
    obtain ⟨r39, m39, e39, h⟩ := b2_some h
    have f39 : m39 k i = m_33 k i := fr_F8_readMother hf6_1 hf4_1 e39
    exact (J43 r39 m39 h).trans f39
  rcases ite_or h with ⟨hc, h⟩ | ⟨hc, h⟩
  · exact (J33 r20 m20 h).trans (f20.trans (f16.trans (f7.trans f2)))
  obtain ⟨r29, m29, e29, h⟩ := b2_some h
  have f29 : m29 k i = m20 k i := fr_F8_readClauses hf6_1 hk_3 e29
  exact (J33 r29 m29 h).trans (f29.trans (f20.trans (f16.trans (f7.trans f2))))
set_option maxRecDepth 100000 in
set_option maxHeartbeats 4000000 in
theorem fr_F1_add {k : Nat} {i : Int} {m : Mem} {a4 : Nat} {v1 v2 v3 : Int} {out : Int × Mem} (hk_5 : k ≠ 5) (hk_6 : k ≠ 6) (hk_7 : k ≠ 7) (hk_9 : k ≠ 9) (hf0_4 : ¬ (k = 4 ∧ i = 0)) (h : F1_add m a4 v1 v2 v3 = some out) : out.2 k i = m k i := by
  unfold F1_add at h
  obtain ⟨g1, h⟩ := gd_some h
  replace h := stw_e h
  have f13 : (wr m 5 (rd m 4 0) v1) k i = m k i := wr_ka hk_5
  generalize wr m 5 (rd m 4 0) v1 = m13 at h f13
  obtain ⟨g1, h⟩ := gd_some h
  replace h := stw_e h
  have f21 : (wr m13 6 (rd m 4 0) v2) k i = m13 k i := wr_ka hk_6
  generalize wr m13 6 (rd m 4 0) v2 = m21 at h f21
  obtain ⟨g1, h⟩ := gd_some h
  replace h := stw_e h
  have f29 : (wr m21 7 (rd m 4 0) v3) k i = m21 k i := wr_ka hk_7
  generalize wr m21 7 (rd m 4 0) v3 = m29 at h f29
  obtain ⟨g1, h⟩ := gd_some h
  replace h := cpw_e h
  have f46 : (cpy m29 a4 0 9 (F1_formCell (rd m 4 0) 0) 16) k i = m29 k i := cpy_ki hk_9
  generalize cpy m29 a4 0 9 (F1_formCell (rd m 4 0) 0) 16 = m46 at h f46
  obtain ⟨g1, h⟩ := gd_some h
  replace h := stw_e h
  have f60 : (wr m46 9 (F1_motherCell (rd m 4 0)) (-1)) k i = m46 k i := wr_ka hk_9
  generalize wr m46 9 (F1_motherCell (rd m 4 0)) (-1) = m60 at h f60
  replace h := stw_e h
  have f68 : (wr m60 4 0 (w32 ((rd m60 4 0) + 1))) k i = m60 k i := wr_ki hf0_4
  generalize wr m60 4 0 (w32 ((rd m60 4 0) + 1)) = m68 at h f68
  exact (congrArg (fun z : Int × Mem => z.2 k i) (Option.some.inj h)).symm.trans (f68.trans (f60.trans (f46.trans (f29.trans (f21.trans f13)))))
set_option maxRecDepth 100000 in
set_option maxHeartbeats 4000000 in
theorem fr_F10_charter {k : Nat} {i : Int} {m : Mem}  {out : Int × Mem} (hf6_1 : ¬ (k = 1 ∧ i = 6)) (hf4_1 : ¬ (k = 1 ∧ i = 4)) (hk_3 : k ≠ 3) (hf2_1 : ¬ (k = 1 ∧ i = 2)) (hf3_1 : ¬ (k = 1 ∧ i = 3)) (hf1_1 : ¬ (k = 1 ∧ i = 1)) (hk_5 : k ≠ 5) (hk_6 : k ≠ 6) (hk_7 : k ≠ 7) (hk_9 : k ≠ 9) (hf0_4 : ¬ (k = 4 ∧ i = 0)) (h : F10_charter m = some out) : out.2 k i = m k i := by
  unfold F10_charter at h
  rcases ite_or h with ⟨hc, h⟩ | ⟨hc, h⟩
  · obtain ⟨r26, m26, e26, h⟩ := b2_some h
    have f26 : m26 k i = m k i := fr_F8_read hf6_1 hf4_1 hk_3 hf2_1 hf3_1 e26
    replace h := stw_e h
    have f35 : (wr m26 1 1 0) k i = m26 k i := wr_ki hf1_1
    generalize wr m26 1 1 0 = m35 at h f35
    rcases ite_or h with ⟨hc, h⟩ | ⟨hc, h⟩
    · obtain ⟨r79, m79, e79, h⟩ := b2_some h
      have f79 : m79 k i = m35 k i := fr_F1_add hk_5 hk_6 hk_7 hk_9 hf0_4 e79
      exact (congrArg (fun z : Int × Mem => z.2 k i) (Option.some.inj h)).symm.trans (f79.trans (f35.trans f26))
    exact (congrArg (fun z : Int × Mem => z.2 k i) (Option.some.inj h)).symm.trans (f35.trans f26)
  exact (congrArg (fun z : Int × Mem => z.2 k i) (Option.some.inj h)).symm.trans rfl
set_option maxRecDepth 100000 in
set_option maxHeartbeats 4000000 in
theorem fr_F1_addLost {k : Nat} {i : Int} {m : Mem}  {out : Int × Mem} (hk_5 : k ≠ 5) (hk_6 : k ≠ 6) (hk_7 : k ≠ 7) (hk_9 : k ≠ 9) (hf0_4 : ¬ (k = 4 ∧ i = 0)) (hk_8 : k ≠ 8) (h : F1_addLost m = some out) : out.2 k i = m k i := by
  unfold F1_addLost at h
  obtain ⟨r10, m10, e10, h⟩ := b2_some h
  have f10 : m10 k i = m k i := fr_F1_add hk_5 hk_6 hk_7 hk_9 hf0_4 e10
  obtain ⟨g1, h⟩ := gd_some h
  replace h := stw_e h
  have f20 : (wr m10 8 r10 1) k i = m10 k i := wr_ka hk_8
  generalize wr m10 8 r10 1 = m20 at h f20
  exact (congrArg (fun z : Int × Mem => z.2 k i) (Option.some.inj h)).symm.trans (f20.trans f10)
set_option maxRecDepth 100000 in
set_option maxHeartbeats 4000000 in
theorem fr_F10_lost {k : Nat} {i : Int} {m : Mem}  {out : Int × Mem} (hk_5 : k ≠ 5) (hk_6 : k ≠ 6) (hk_7 : k ≠ 7) (hk_9 : k ≠ 9) (hf0_4 : ¬ (k = 4 ∧ i = 0)) (hk_8 : k ≠ 8) (h : F10_lost m = some out) : out.2 k i = m k i := by
  unfold F10_lost at h
  rcases ite_or h with ⟨hc, h⟩ | ⟨hc, h⟩
  · obtain ⟨r21, m21, e21, h⟩ := b2_some h
    have f21 : m21 k i = m k i := fr_F1_addLost hk_5 hk_6 hk_7 hk_9 hf0_4 hk_8 e21
    exact (congrArg (fun z : Int × Mem => z.2 k i) (Option.some.inj h)).symm.trans f21
  exact (congrArg (fun z : Int × Mem => z.2 k i) (Option.some.inj h)).symm.trans rfl
set_option maxRecDepth 100000 in
set_option maxHeartbeats 4000000 in
theorem fr_F1_dropOldest {k : Nat} {i : Int} {m : Mem}  {out : Mem} (hk_10 : k ≠ 10) (hk_11 : k ≠ 11) (hk_12 : k ≠ 12) (hf10_4 : ¬ (k = 4 ∧ i = 10)) (h : F1_dropOldest m = some out) : out k i = m k i := by
  unfold F1_dropOldest at h
  obtain ⟨g1, h⟩ := gd_some h
  replace h := cpw_e h
  have f12 : (cpy m 10 1 10 0 39) k i = m k i := cpy_ki hk_10
  generalize cpy m 10 1 10 0 39 = m12 at h f12
  obtain ⟨g1, h⟩ := gd_some h
  replace h := cpw_e h
  have f27 : (cpy m12 11 1 11 0 39) k i = m12 k i := cpy_ki hk_11
  generalize cpy m12 11 1 11 0 39 = m27 at h f27
  obtain ⟨g1, h⟩ := gd_some h
  replace h := cpw_e h
  have f42 : (cpy m27 12 1 12 0 39) k i = m27 k i := cpy_ki hk_12
  generalize cpy m27 12 1 12 0 39 = m42 at h f42
  replace h := stw_e h
  have f48 : (wr m42 4 10 39) k i = m42 k i := wr_ki hf10_4
  generalize wr m42 4 10 39 = m48 at h f48
  exact (congrArg (fun z : Mem => z k i) (Option.some.inj h)).symm.trans (f48.trans (f42.trans (f27.trans f12)))
set_option maxRecDepth 100000 in
set_option maxHeartbeats 4000000 in
theorem fr_F1_change {k : Nat} {i : Int} {m : Mem}  {v1 v2 : Int} {out : Int × Mem} (hk_10 : k ≠ 10) (hk_11 : k ≠ 11) (hk_12 : k ≠ 12) (hf10_4 : ¬ (k = 4 ∧ i = 10)) (hf11_4 : ¬ (k = 4 ∧ i = 11)) (hk_9 : k ≠ 9) (hf12_4 : ¬ (k = 4 ∧ i = 12)) (h : F1_change m v1 v2 = some out) : out.2 k i = m k i := by
  unfold F1_change at h
  obtain ⟨g1, h⟩ := gd_some h
  rcases ite_or h with ⟨hc, h⟩ | ⟨hc, h⟩
  · refine (jn_e h (fun (K : Mem → Option (Int × Mem)) => ∀ (m_27 : Mem), K m_27 = some out → out.2 k i = m_27 k i) (fun m_27 h => ?_) (fun K27 J27 h => ?_))
    · obtain ⟨g1, h⟩ := gd_some h
      replace h := stw_e h
      have f36 : (wr m_27 10 (rd m_27 4 10) v1) k i = m_27 k i := wr_ka hk_10
      generalize wr m_27 10 (rd m_27 4 10) v1 = m36 at h f36
      obtain ⟨g1, h⟩ := gd_some h
      replace h := stw_e h
      have f46 : (wr m36 11 (rd m36 4 10) (rd m 9 v1)) k i = m36 k i := wr_ka hk_11
      generalize wr m36 11 (rd m36 4 10) (rd m 9 v1) = m46 at h f46
      obtain ⟨g1, h⟩ := gd_some h
      replace h := stw_e h
      have f56 : (wr m46 12 (rd m46 4 10) v2) k i = m46 k i := wr_ka hk_12
      generalize wr m46 12 (rd m46 4 10) v2 = m56 at h f56
      replace h := stw_e h
      have f64 : (wr m56 4 10 (w32 ((rd m56 4 10) + 1))) k i = m56 k i := wr_ki hf10_4
      generalize wr m56 4 10 (w32 ((rd m56 4 10) + 1)) = m64 at h f64
      replace h := stw_e h
      have f69 : (wr m64 4 11 0) k i = m64 k i := wr_ki hf11_4
      generalize wr m64 4 11 0 = m69 at h f69
      obtain ⟨g1, h⟩ := gd_some h
      replace h := stw_e h
      have f78 : (wr m69 9 v1 v2) k i = m69 k i := wr_ka hk_9
      generalize wr m69 9 v1 v2 = m78 at h f78
      replace h := stw_e h
      have f86 : (wr m78 4 12 (w32 ((rd m78 4 12) + 1))) k i = m78 k i := wr_ki hf12_4
      generalize wr m78 4 12 (w32 ((rd m78 4 12) + 1)) = m86 at h f86
      exact (congrArg (fun z : Int × Mem => z.2 k i) (Option.some.inj h)).symm.trans (f86.trans (f78.trans (f69.trans (f64.trans (f56.trans (f46.trans f36))))))
    rcases ite_or h with ⟨hc, h⟩ | ⟨hc, h⟩
    · exact (J27 m h).trans rfl
    obtain ⟨m24, e24, h⟩ := b1_some h
    have f24 : m24 k i = m k i := fr_F1_dropOldest hk_10 hk_11 hk_12 hf10_4 e24
    exact (J27 m24 h).trans f24
  exact (congrArg (fun z : Int × Mem => z.2 k i) (Option.some.inj h)).symm.trans rfl
set_option maxRecDepth 100000 in
set_option maxHeartbeats 4000000 in
theorem fr_F10_form {k : Nat} {i : Int} {m : Mem}  {v1 v2 v3 : Int} {out : Int × Mem} (hk_10 : k ≠ 10) (hk_11 : k ≠ 11) (hk_12 : k ≠ 12) (hf10_4 : ¬ (k = 4 ∧ i = 10)) (hf11_4 : ¬ (k = 4 ∧ i = 11)) (hk_9 : k ≠ 9) (hf12_4 : ¬ (k = 4 ∧ i = 12)) (h : F10_form m v1 v2 v3 = some out) : out.2 k i = m k i := by
  unfold F10_form at h
  rcases ite_or h with ⟨hc, h⟩ | ⟨hc, h⟩
  · exact (congrArg (fun z : Int × Mem => z.2 k i) (Option.some.inj h)).symm.trans rfl
  rcases ite_or h with ⟨hc, h⟩ | ⟨hc, h⟩
  · exact (congrArg (fun z : Int × Mem => z.2 k i) (Option.some.inj h)).symm.trans rfl
  rcases ite_or h with ⟨hc, h⟩ | ⟨hc, h⟩
  · obtain ⟨r41, m41, e41, h⟩ := b2_some h
    have f41 : m41 k i = m k i := fr_F1_change hk_10 hk_11 hk_12 hf10_4 hf11_4 hk_9 hf12_4 e41
    exact (congrArg (fun z : Int × Mem => z.2 k i) (Option.some.inj h)).symm.trans f41
  exact (congrArg (fun z : Int × Mem => z.2 k i) (Option.some.inj h)).symm.trans rfl
set_option maxRecDepth 100000 in
set_option maxHeartbeats 4000000 in
theorem fr_L10_forms_74 {k : Nat} {i : Int} {out : Int × Mem} {v1 : Int} {v3 : Int} {v4 : Int} {o5 : Nat} {k116 : Int → Mem → Option (Int × Mem)} (hk_10 : k ≠ 10) (hk_11 : k ≠ 11) (hk_12 : k ≠ 12) (hf10_4 : ¬ (k = 4 ∧ i = 10)) (hf11_4 : ¬ (k = 4 ∧ i = 11)) (hk_9 : k ≠ 9) (hf12_4 : ¬ (k = 4 ∧ i = 12)) (hk116 : ∀ (v6 : Int) (m : Mem), k116 v6 m = some out → out.2 k i = m k i) : ∀ (n : Nat) (v6 : Int) (m : Mem), L10_forms_74 v1 v3 v4 o5 k116 n v6 m = some out → out.2 k i = m k i := by
  intro n
  induction n with
  | zero =>
    intro v6 m h
    cases h
  | succ n ih =>
    intro v6 m h
    rw [L10_forms_74] at h
    rcases ite_or h with ⟨hc, h⟩ | ⟨hc, h⟩
    · exact (congrArg (fun z : Int × Mem => z.2 k i) (Option.some.inj h)).symm.trans rfl
    rcases ite_or h with ⟨hc, h⟩ | ⟨hc, h⟩
    · exact (congrArg (fun z : Int × Mem => z.2 k i) (Option.some.inj h)).symm.trans rfl
    obtain ⟨g1, h⟩ := gd_some h
    rcases ite_or h with ⟨hc, h⟩ | ⟨hc, h⟩
    · obtain ⟨r135, m135, e135, h⟩ := b2_some h
      have f135 : m135 k i = m k i := fr_F1_change hk_10 hk_11 hk_12 hf10_4 hf11_4 hk_9 hf12_4 e135
      exact (ih (w32 (v6 + 1)) m135 h).trans f135
    exact (hk116 v6 m h).trans rfl
set_option maxRecDepth 100000 in
set_option maxHeartbeats 4000000 in
theorem fr_F10_forms {k : Nat} {i : Int} {m : Mem}  {v1 v2 v3 v4 : Int} {out : Int × Mem} (hk_10 : k ≠ 10) (hk_11 : k ≠ 11) (hk_12 : k ≠ 12) (hf10_4 : ¬ (k = 4 ∧ i = 10)) (hf11_4 : ¬ (k = 4 ∧ i = 11)) (hk_9 : k ≠ 9) (hf12_4 : ¬ (k = 4 ∧ i = 12)) (h : F10_forms m v1 v2 v3 v4 = some out) : out.2 k i = m k i := by
  unfold F10_forms at h
  rcases ite_or h with ⟨hc, h⟩ | ⟨hc, h⟩
  · exact (congrArg (fun z : Int × Mem => z.2 k i) (Option.some.inj h)).symm.trans rfl
  rcases ite_or h with ⟨hc, h⟩ | ⟨hc, h⟩
  · exact (congrArg (fun z : Int × Mem => z.2 k i) (Option.some.inj h)).symm.trans rfl
  rcases ite_or h with ⟨hc, h⟩ | ⟨hc, h⟩
  · exact (congrArg (fun z : Int × Mem => z.2 k i) (Option.some.inj h)).symm.trans rfl
  rcases ite_or h with ⟨hc, h⟩ | ⟨hc, h⟩
  · obtain ⟨g1, h⟩ := gd_some h
    rcases ite_or h with ⟨hc, h⟩ | ⟨hc, h⟩
    · rcases ite_or h with ⟨hc, h⟩ | ⟨hc, h⟩
      · exact (congrArg (fun z : Int × Mem => z.2 k i) (Option.some.inj h)).symm.trans rfl
      rcases ite_or h with ⟨hc, h⟩ | ⟨hc, h⟩
      · refine (fr_L10_forms_74 hk_10 hk_11 hk_12 hf10_4 hf11_4 hk_9 hf12_4 (fun v6_116 m_116 h => ?_) FU 0 m h).trans rfl
        exact (congrArg (fun z : Int × Mem => z.2 k i) (Option.some.inj h)).symm.trans rfl
      exact (congrArg (fun z : Int × Mem => z.2 k i) (Option.some.inj h)).symm.trans rfl
    exact (congrArg (fun z : Int × Mem => z.2 k i) (Option.some.inj h)).symm.trans rfl
  exact (congrArg (fun z : Int × Mem => z.2 k i) (Option.some.inj h)).symm.trans rfl
set_option maxRecDepth 100000 in
set_option maxHeartbeats 4000000 in
theorem fr_F10_price {k : Nat} {i : Int} {m : Mem}  {v1 v2 : Int} {out : Int × Mem} (hk_10 : k ≠ 10) (hk_11 : k ≠ 11) (hk_12 : k ≠ 12) (hf10_4 : ¬ (k = 4 ∧ i = 10)) (hf11_4 : ¬ (k = 4 ∧ i = 11)) (hk_9 : k ≠ 9) (hf12_4 : ¬ (k = 4 ∧ i = 12)) (h : F10_price m v1 v2 = some out) : out.2 k i = m k i := by
  unfold F10_price at h
  rcases ite_or h with ⟨hc, h⟩ | ⟨hc, h⟩
  · exact (congrArg (fun z : Int × Mem => z.2 k i) (Option.some.inj h)).symm.trans rfl
  rcases ite_or h with ⟨hc, h⟩ | ⟨hc, h⟩
  · exact (congrArg (fun z : Int × Mem => z.2 k i) (Option.some.inj h)).symm.trans rfl
  rcases ite_or h with ⟨hc, h⟩ | ⟨hc, h⟩
  · exact (congrArg (fun z : Int × Mem => z.2 k i) (Option.some.inj h)).symm.trans rfl
  rcases ite_or h with ⟨hc, h⟩ | ⟨hc, h⟩
  · obtain ⟨r34, m34, e34, h⟩ := b2_some h
    have f34 : m34 k i = m k i := fr_F1_change hk_10 hk_11 hk_12 hf10_4 hf11_4 hk_9 hf12_4 e34
    exact (congrArg (fun z : Int × Mem => z.2 k i) (Option.some.inj h)).symm.trans f34
  exact (congrArg (fun z : Int × Mem => z.2 k i) (Option.some.inj h)).symm.trans rfl
set_option maxRecDepth 100000 in
set_option maxHeartbeats 4000000 in
theorem fr_F10_mother {k : Nat} {i : Int} {m : Mem}  {v1 v2 : Int} {out : Int × Mem} (hk_10 : k ≠ 10) (hk_11 : k ≠ 11) (hk_12 : k ≠ 12) (hf10_4 : ¬ (k = 4 ∧ i = 10)) (hf11_4 : ¬ (k = 4 ∧ i = 11)) (hk_9 : k ≠ 9) (hf12_4 : ¬ (k = 4 ∧ i = 12)) (h : F10_mother m v1 v2 = some out) : out.2 k i = m k i := by
  unfold F10_mother at h
  rcases ite_or h with ⟨hc, h⟩ | ⟨hc, h⟩
  · exact (congrArg (fun z : Int × Mem => z.2 k i) (Option.some.inj h)).symm.trans rfl
  refine (jn_e h (fun (K : Option (Int × Mem)) => K = some out → out.2 k i = m k i) (fun h => ?_) (fun K27 J27 h => ?_))
  · rcases ite_or h with ⟨hc, h⟩ | ⟨hc, h⟩
    · obtain ⟨r41, e41, h⟩ := b1_some h
      rcases ite_or h with ⟨hc, h⟩ | ⟨hc, h⟩
      · obtain ⟨r63, m63, e63, h⟩ := b2_some h
        have f63 : m63 k i = m k i := fr_F1_change hk_10 hk_11 hk_12 hf10_4 hf11_4 hk_9 hf12_4 e63
        exact (congrArg (fun z : Int × Mem => z.2 k i) (Option.some.inj h)).symm.trans f63
      exact (congrArg (fun z : Int × Mem => z.2 k i) (Option.some.inj h)).symm.trans rfl
    exact (congrArg (fun z : Int × Mem => z.2 k i) (Option.some.inj h)).symm.trans rfl
  rcases ite_or h with ⟨hc, h⟩ | ⟨hc, h⟩
  · exact (J27 h).trans rfl
  rcases ite_or h with ⟨hc, h⟩ | ⟨hc, h⟩
  · exact (congrArg (fun z : Int × Mem => z.2 k i) (Option.some.inj h)).symm.trans rfl
  exact (J27 h).trans rfl
set_option maxRecDepth 100000 in
set_option maxHeartbeats 4000000 in
theorem fr_L9_takeCosts_9 {k : Nat} {i : Int} {out : Mem} {o : Nat} {v2 : Int} {k64 : Mem → Option Mem} (hk_o_8 : k ≠ o + 8) (hk64 : ∀ (m : Mem), k64 m = some out → out k i = m k i) : ∀ (n : Nat) (v3 : Int) (m : Mem), L9_takeCosts_9 o v2 k64 n v3 m = some out → out k i = m k i := by
  intro n
  induction n with
  | zero =>
    intro v3 m h
    cases h
  | succ n ih =>
    intro v3 m h
    rw [L9_takeCosts_9] at h
    rcases ite_or h with ⟨hc, h⟩ | ⟨hc, h⟩
    · exact (hk64 m h).trans rfl
    refine (jn_e h (fun (K : Int → Option Mem) => ∀ (x31 : Int), K x31 = some out → out k i = m k i) (fun x31 h => ?_) (fun K31 J31 h => ?_))
    · refine (jn_e h (fun (K : Int → Option Mem) => ∀ (x57 : Int), K x57 = some out → out k i = m k i) (fun x57 h => ?_) (fun K57 J57 h => ?_))
      · obtain ⟨g1, h⟩ := gd_some h
        replace h := stw_e h
        have f57 : (wr m (o + 8) (w32 ((w32 (v2 * 4)) + v3)) x57) k i = m k i := wr_ka hk_o_8
        generalize wr m (o + 8) (w32 ((w32 (v2 * 4)) + v3)) x57 = m57 at h f57
        exact (ih (w32 (v3 + 1)) m57 h).trans f57
      rcases ite_or h with ⟨hc, h⟩ | ⟨hc, h⟩
      · obtain ⟨r54, e54, h⟩ := b1_some h
        exact (J57 r54 h).trans rfl
      exact (J57 0 h).trans rfl
    rcases ite_or h with ⟨hc, h⟩ | ⟨hc, h⟩
    · rcases ite_or h with ⟨hc, h⟩ | ⟨hc, h⟩
      · exact (J31 2 h).trans rfl
      exact (J31 1 h).trans rfl
    exact (J31 0 h).trans rfl
set_option maxRecDepth 100000 in
set_option maxHeartbeats 4000000 in
theorem fr_L9_takeCosts_2 {k : Nat} {i : Int} {out : Mem} {o : Nat} (hk_o_8 : k ≠ o + 8) : ∀ (n : Nat) (v2 : Int) (m : Mem), L9_takeCosts_2 o n v2 m = some out → out k i = m k i := by
  intro n
  induction n with
  | zero =>
    intro v2 m h
    cases h
  | succ n ih =>
    intro v2 m h
    rw [L9_takeCosts_2] at h
    rcases ite_or h with ⟨hc, h⟩ | ⟨hc, h⟩
    · exact (congrArg (fun z : Mem => z k i) (Option.some.inj h)).symm.trans rfl
    refine (fr_L9_takeCosts_9 hk_o_8 (fun m_64 h => ?_) FU 0 m h).trans rfl
    exact (ih (w32 (v2 + 1)) m_64 h).trans rfl
set_option maxRecDepth 100000 in
set_option maxHeartbeats 4000000 in
theorem fr_F9_takeCosts {k : Nat} {i : Int} {m : Mem} {o : Nat} {out : Mem} (hk_o_8 : k ≠ o + 8) (h : F9_takeCosts m o = some out) : out k i = m k i := by
  unfold F9_takeCosts at h
  refine (fr_L9_takeCosts_2 hk_o_8 FU 0 m h).trans rfl
set_option maxRecDepth 100000 in
set_option maxHeartbeats 4000000 in
theorem fr_L9_arrange_25 {k : Nat} {i : Int} {out : Int × Mem} {o : Nat} {k111 : Int → Int → Mem → Option (Int × Mem)} (hk_o_7 : k ≠ o + 7) (hk111 : ∀ (v1 : Int) (v2 : Int) (m : Mem), k111 v1 v2 m = some out → out.2 k i = m k i) : ∀ (n : Nat) (v1 : Int) (v2 : Int) (v4 : Int) (m : Mem), L9_arrange_25 o k111 n v1 v2 v4 m = some out → out.2 k i = m k i := by
  intro n
  induction n with
  | zero =>
    intro v1 v2 v4 m h
    cases h
  | succ n ih =>
    intro v1 v2 v4 m h
    rw [L9_arrange_25] at h
    rcases ite_or h with ⟨hc, h⟩ | ⟨hc, h⟩
    · exact (hk111 v1 v2 m h).trans rfl
    obtain ⟨g1, h⟩ := gd_some h
    refine (jn_e h (fun (K : Int → Option (Int × Mem)) => ∀ (x63 : Int), K x63 = some out → out.2 k i = m k i) (fun x63 h => ?_) (fun K63 J63 h => ?_))
    · refine (jn_e h (fun (K : Int → Int → Mem → Option (Int × Mem)) => ∀ (v1_105 : Int) (v2_105 : Int) (m_105 : Mem), K v1_105 v2_105 m_105 = some out → out.2 k i = m_105 k i) (fun v1_105 v2_105 m_105 h => ?_) (fun K105 J105 h => ?_))
      · exact (ih v1_105 v2_105 (w32 (v4 + 1)) m_105 h).trans rfl
      rcases ite_or h with ⟨hc, h⟩ | ⟨hc, h⟩
      · exact (J105 v1 v2 m h).trans rfl
      rcases ite_or h with ⟨hc, h⟩ | ⟨hc, h⟩
      · exact (J105 v1 v2 m h).trans rfl
      rcases ite_or h with ⟨hc, h⟩ | ⟨hc, h⟩
      · exact (J105 v1 v2 m h).trans rfl
      obtain ⟨g1, h⟩ := gd_some h
      replace h := stw_e h
      have f101 : (wr m (o + 7) v2 v4) k i = m k i := wr_ka hk_o_7
      generalize wr m (o + 7) v2 v4 = m101 at h f101
      exact (J105 (bor v1 (shl 1 v4)) (w32 (v2 + 1)) m101 h).trans f101
    refine (jn_e h (fun (K : Option (Int × Mem)) => K = some out → out.2 k i = m k i) (fun h => ?_) (fun K58 J58 h => ?_))
    · exact (J63 1 h).trans rfl
    rcases ite_or h with ⟨hc, h⟩ | ⟨hc, h⟩
    · exact (J58 h).trans rfl
    obtain ⟨g1, h⟩ := gd_some h
    rcases ite_or h with ⟨hc, h⟩ | ⟨hc, h⟩
    · exact (J63 0 h).trans rfl
    exact (J58 h).trans rfl
set_option maxRecDepth 100000 in
set_option maxHeartbeats 4000000 in
theorem fr_L9_arrange_6 {k : Nat} {i : Int} {out : Int × Mem} {o : Nat} {k117 : Int → Mem → Option (Int × Mem)} (hk_o_7 : k ≠ o + 7) (hk117 : ∀ (v2 : Int) (m : Mem), k117 v2 m = some out → out.2 k i = m k i) : ∀ (n : Nat) (v1 : Int) (v2 : Int) (v3 : Int) (m : Mem), L9_arrange_6 o k117 n v1 v2 v3 m = some out → out.2 k i = m k i := by
  intro n
  induction n with
  | zero =>
    intro v1 v2 v3 m h
    cases h
  | succ n ih =>
    intro v1 v2 v3 m h
    rw [L9_arrange_6] at h
    rcases ite_or h with ⟨hc, h⟩ | ⟨hc, h⟩
    · exact (hk117 v2 m h).trans rfl
    rcases ite_or h with ⟨hc, h⟩ | ⟨hc, h⟩
    · exact (hk117 v2 m h).trans rfl
    refine (fr_L9_arrange_25 hk_o_7 (fun v1_111 v2_111 m_111 h => ?_) FU v1 v2 0 m h).trans rfl
    exact (ih v1_111 v2_111 (w32 (v3 + 1)) m_111 h).trans rfl
set_option maxRecDepth 100000 in
set_option maxHeartbeats 4000000 in
theorem fr_F9_arrange {k : Nat} {i : Int} {m : Mem} {o : Nat} {out : Int × Mem} (hk_o_7 : k ≠ o + 7) (h : F9_arrange m o = some out) : out.2 k i = m k i := by
  unfold F9_arrange at h
  refine (fr_L9_arrange_6 hk_o_7 (fun v2_117 m_117 h => ?_) FU 0 0 0 m h).trans rfl
  rcases ite_or h with ⟨hc, h⟩ | ⟨hc, h⟩
  · exact (congrArg (fun z : Int × Mem => z.2 k i) (Option.some.inj h)).symm.trans rfl
  exact (congrArg (fun z : Int × Mem => z.2 k i) (Option.some.inj h)).symm.trans rfl
set_option maxRecDepth 100000 in
set_option maxHeartbeats 4000000 in
theorem fr_L9_growAsTold_10 {k : Nat} {i : Int} {out : Mem} {o : Nat} {k59 : Mem → Option Mem} (hk_o_1 : k ≠ o + 1) (hk_o_2 : k ≠ o + 2) (hk_o_3 : k ≠ o + 3) (hk59 : ∀ (m : Mem), k59 m = some out → out k i = m k i) : ∀ (n : Nat) (v2 : Int) (m : Mem), L9_growAsTold_10 o k59 n v2 m = some out → out k i = m k i := by
  intro n
  induction n with
  | zero =>
    intro v2 m h
    cases h
  | succ n ih =>
    intro v2 m h
    rw [L9_growAsTold_10] at h
    rcases ite_or h with ⟨hc, h⟩ | ⟨hc, h⟩
    · exact (hk59 m h).trans rfl
    obtain ⟨r25, e25, h⟩ := b1_some h
    obtain ⟨g1, h⟩ := gd_some h
    replace h := stw_e h
    have f28 : (wr m (o + 1) v2 r25) k i = m k i := wr_ka hk_o_1
    generalize wr m (o + 1) v2 r25 = m28 at h f28
    obtain ⟨g1, h⟩ := gd_some h
    obtain ⟨g1, h⟩ := gd_some h
    replace h := stw_e h
    have f40 : (wr m28 (o + 2) v2 (rd m28 5 v2)) k i = m28 k i := wr_ka hk_o_2
    generalize wr m28 (o + 2) v2 (rd m28 5 v2) = m40 at h f40
    obtain ⟨g1, h⟩ := gd_some h
    obtain ⟨g1, h⟩ := gd_some h
    replace h := stw_e h
    have f52 : (wr m40 (o + 3) v2 (rd m40 6 v2)) k i = m40 k i := wr_ka hk_o_3
    generalize wr m40 (o + 3) v2 (rd m40 6 v2) = m52 at h f52
    exact (ih (w32 (v2 + 1)) m52 h).trans (f52.trans (f40.trans f28))
set_option maxRecDepth 100000 in
set_option maxHeartbeats 4000000 in
theorem fr_F9_growAsTold {k : Nat} {i : Int} {m : Mem} {o : Nat} {out : Mem} (hf0_o : ¬ (k = o ∧ i = 0)) (hk_o_1 : k ≠ o + 1) (hk_o_2 : k ≠ o + 2) (hk_o_3 : k ≠ o + 3) (hk_o_8 : k ≠ o + 8) (hk_o_7 : k ≠ o + 7) (h : F9_growAsTold m o = some out) : out k i = m k i := by
  unfold F9_growAsTold at h
  replace h := stw_e h
  have f5 : (wr m o 0 (rd m 4 0)) k i = m k i := wr_ki hf0_o
  generalize wr m o 0 (rd m 4 0) = m5 at h f5
  refine (fr_L9_growAsTold_10 hk_o_1 hk_o_2 hk_o_3 (fun m_59 h => ?_) FU 0 m5 h).trans f5
  obtain ⟨m61, e61, h⟩ := b1_some h
  have f61 : m61 k i = m_59 k i := fr_F9_takeCosts hk_o_8 e61
  obtain ⟨r65, m65, e65, h⟩ := b2_some h
  have f65 : m65 k i = m61 k i := fr_F9_arrange hk_o_7 e65
  exact (congrArg (fun z : Mem => z k i) (Option.some.inj h)).symm.trans (f65.trans f61)
set_option maxRecDepth 100000 in
set_option maxHeartbeats 4000000 in
theorem fr_L9_write_2 {k : Nat} {i : Int} {out : Mem} {o : Nat} {v2 : Int} (hk_o_5 : k ≠ o + 5) : ∀ (n : Nat) (v3 : Int) (m : Mem), L9_write_2 o v2 n v3 m = some out → out k i = m k i := by
  intro n
  induction n with
  | zero =>
    intro v3 m h
    cases h
  | succ n ih =>
    intro v3 m h
    rw [L9_write_2] at h
    rcases ite_or h with ⟨hc, h⟩ | ⟨hc, h⟩
    · exact (congrArg (fun z : Mem => z k i) (Option.some.inj h)).symm.trans rfl
    obtain ⟨r18, e18, h⟩ := b1_some h
    obtain ⟨g1, h⟩ := gd_some h
    replace h := stw_e h
    have f21 : (wr m (o + 5) v3 r18) k i = m k i := wr_ka hk_o_5
    generalize wr m (o + 5) v3 r18 = m21 at h f21
    exact (ih (w32 (v3 + 1)) m21 h).trans f21
set_option maxRecDepth 100000 in
set_option maxHeartbeats 4000000 in
theorem fr_F9_write {k : Nat} {i : Int} {m : Mem} {o : Nat} {v2 : Int} {out : Mem} (hk_o_5 : k ≠ o + 5) (h : F9_write m o v2 = some out) : out k i = m k i := by
  unfold F9_write at h
  refine (fr_L9_write_2 hk_o_5 FU 0 m h).trans rfl
set_option maxRecDepth 100000 in
set_option maxHeartbeats 4000000 in
theorem fr_L9_hang_61 {k : Nat} {i : Int} {out : Mem} {m : Mem} {o : Nat} {v1 : Int} {v4 : Int} {v5 : Int} {k105 : Int → Option Mem} (hk105 : ∀ (v6 : Int), k105 v6 = some out → out k i = m k i) : ∀ (n : Nat) (v6 : Int) (v7 : Int), L9_hang_61 m o v1 v4 v5 k105 n v6 v7 = some out → out k i = m k i := by
  intro n
  induction n with
  | zero =>
    intro v6 v7 h
    cases h
  | succ n ih =>
    intro v6 v7 h
    rw [L9_hang_61] at h
    rcases ite_or h with ⟨hc, h⟩ | ⟨hc, h⟩
    · exact (hk105 v6 h).trans rfl
    obtain ⟨g1, h⟩ := gd_some h
    obtain ⟨g1, h⟩ := gd_some h
    exact (ih (imn v6 (w32 ((rd m (o + 8) (w32 ((w32 (v5 * 4)) + v7))) + (rd m (o + 9) (w32 ((w32 (v1 * 4)) + v7)))))) (w32 (v7 + 1)) h).trans rfl
set_option maxRecDepth 100000 in
set_option maxHeartbeats 4000000 in
theorem fr_L9_hang_48 {k : Nat} {i : Int} {out : Mem} {o : Nat} {v1 : Int} {v2 : Int} {v3 : Int} {v4 : Int} (hk_o_11 : k ≠ o + 11) (hk_o_9 : k ≠ o + 9) : ∀ (n : Nat) (v5 : Int) (m : Mem), L9_hang_48 o v1 v2 v3 v4 n v5 m = some out → out k i = m k i := by
  intro n
  induction n with
  | zero =>
    intro v5 m h
    cases h
  | succ n ih =>
    intro v5 m h
    rw [L9_hang_48] at h
    rcases ite_or h with ⟨hc, h⟩ | ⟨hc, h⟩
    · exact (congrArg (fun z : Mem => z k i) (Option.some.inj h)).symm.trans rfl
    refine (fr_L9_hang_61 (fun v6_105 h => ?_) FU 16777216 v3 h).trans rfl
    obtain ⟨g1, h⟩ := gd_some h
    replace h := stw_e h
    have f117 : (wr m (o + 11) (w32 ((w32 (v1 * 4)) + v5)) v6_105) k i = m k i := wr_ka hk_o_11
    generalize wr m (o + 11) (w32 ((w32 (v1 * 4)) + v5)) v6_105 = m117 at h f117
    obtain ⟨g1, h⟩ := gd_some h
    obtain ⟨g1, h⟩ := gd_some h
    replace h := stw_e h
    have f133 : (wr m117 (o + 9) (w32 ((w32 (v2 * 4)) + v5)) (w32 ((rd m117 (o + 9) (w32 ((w32 (v2 * 4)) + v5))) + v6_105))) k i = m117 k i := wr_ka hk_o_9
    generalize wr m117 (o + 9) (w32 ((w32 (v2 * 4)) + v5)) (w32 ((rd m117 (o + 9) (w32 ((w32 (v2 * 4)) + v5))) + v6_105)) = m133 at h f133
    exact (ih (w32 (v5 + 1)) m133 h).trans (f133.trans f117)
set_option maxRecDepth 100000 in
set_option maxHeartbeats 4000000 in
theorem fr_F9_hang {k : Nat} {i : Int} {m : Mem} {o : Nat} {v1 v2 : Int} {out : Mem} (hk_o_11 : k ≠ o + 11) (hk_o_9 : k ≠ o + 9) (h : F9_hang m o v1 v2 = some out) : out k i = m k i := by
  unfold F9_hang at h
  obtain ⟨g1, h⟩ := gd_some h
  refine (jn_e h (fun (K : Int → Option Mem) => ∀ (x21 : Int), K x21 = some out → out k i = m k i) (fun x21 h => ?_) (fun K21 J21 h => ?_))
  · obtain ⟨g1, h⟩ := gd_some h
    refine (jn_e h (fun (K : Int → Option Mem) => ∀ (x43 : Int), K x43 = some out → out k i = m k i) (fun x43 h => ?_) (fun K43 J43 h => ?_))
    · refine (fr_L9_hang_48 hk_o_11 hk_o_9 FU 0 m h).trans rfl
    rcases ite_or h with ⟨hc, h⟩ | ⟨hc, h⟩
    · obtain ⟨g1, h⟩ := gd_some h
      exact (J43 (rd m (o + 5) v1) h).trans rfl
    exact (J43 3 h).trans rfl
  rcases ite_or h with ⟨hc, h⟩ | ⟨hc, h⟩
  · obtain ⟨g1, h⟩ := gd_some h
    exact (J21 (rd m (o + 5) v1) h).trans rfl
  exact (J21 0 h).trans rfl
set_option maxRecDepth 100000 in
set_option maxHeartbeats 4000000 in
theorem fr_L9_least_12 {k : Nat} {i : Int} {out : Int × Mem} {o : Nat} {v1 : Int} {k60 : Mem → Option (Int × Mem)} (hk_o_9 : k ≠ o + 9) (hk60 : ∀ (m : Mem), k60 m = some out → out.2 k i = m k i) : ∀ (n : Nat) (v2 : Int) (m : Mem), L9_least_12 o v1 k60 n v2 m = some out → out.2 k i = m k i := by
  intro n
  induction n with
  | zero =>
    intro v2 m h
    cases h
  | succ n ih =>
    intro v2 m h
    rw [L9_least_12] at h
    rcases ite_or h with ⟨hc, h⟩ | ⟨hc, h⟩
    · exact (hk60 m h).trans rfl
    obtain ⟨g1, h⟩ := gd_some h
    refine (jn_e h (fun (K : Int → Option (Int × Mem)) => ∀ (x53 : Int), K x53 = some out → out.2 k i = m k i) (fun x53 h => ?_) (fun K53 J53 h => ?_))
    · obtain ⟨g1, h⟩ := gd_some h
      replace h := stw_e h
      have f53 : (wr m (o + 9) (w32 ((w32 (v1 * 4)) + v2)) x53) k i = m k i := wr_ka hk_o_9
      generalize wr m (o + 9) (w32 ((w32 (v1 * 4)) + v2)) x53 = m53 at h f53
      exact (ih (w32 (v2 + 1)) m53 h).trans f53
    refine (jn_e h (fun (K : Option (Int × Mem)) => K = some out → out.2 k i = m k i) (fun h => ?_) (fun K47 J47 h => ?_))
    · exact (J53 0 h).trans rfl
    rcases ite_or h with ⟨hc, h⟩ | ⟨hc, h⟩
    · exact (J47 h).trans rfl
    obtain ⟨g1, h⟩ := gd_some h
    rcases ite_or h with ⟨hc, h⟩ | ⟨hc, h⟩
    · exact (J53 16777216 h).trans rfl
    exact (J47 h).trans rfl
set_option maxRecDepth 100000 in
set_option maxHeartbeats 4000000 in
theorem fr_L9_least_2 {k : Nat} {i : Int} {out : Int × Mem} {o : Nat} {k66 : Mem → Option (Int × Mem)} (hk_o_9 : k ≠ o + 9) (hk66 : ∀ (m : Mem), k66 m = some out → out.2 k i = m k i) : ∀ (n : Nat) (v1 : Int) (m : Mem), L9_least_2 o k66 n v1 m = some out → out.2 k i = m k i := by
  intro n
  induction n with
  | zero =>
    intro v1 m h
    cases h
  | succ n ih =>
    intro v1 m h
    rw [L9_least_2] at h
    rcases ite_or h with ⟨hc, h⟩ | ⟨hc, h⟩
    · exact (hk66 m h).trans rfl
    refine (fr_L9_least_12 hk_o_9 (fun m_60 h => ?_) FU 0 m h).trans rfl
    exact (ih (w32 (v1 + 1)) m_60 h).trans rfl
set_option maxRecDepth 100000 in
set_option maxHeartbeats 4000000 in
theorem fr_L9_least_75 {k : Nat} {i : Int} {out : Int × Mem} {o : Nat} (hk_o_11 : k ≠ o + 11) (hk_o_9 : k ≠ o + 9) : ∀ (n : Nat) (v1 : Int) (v2 : Int) (m : Mem), L9_least_75 o n v1 v2 m = some out → out.2 k i = m k i := by
  intro n
  induction n with
  | zero =>
    intro v1 v2 m h
    cases h
  | succ n ih =>
    intro v1 v2 m h
    rw [L9_least_75] at h
    rcases ite_or h with ⟨hc, h⟩ | ⟨hc, h⟩
    · exact (congrArg (fun z : Int × Mem => z.2 k i) (Option.some.inj h)).symm.trans rfl
    obtain ⟨g1, h⟩ := gd_some h
    obtain ⟨g1, h⟩ := gd_some h
    refine (jn_e h (fun (K : Int → Mem → Option (Int × Mem)) => ∀ (v1_117 : Int) (m_117 : Mem), K v1_117 m_117 = some out → out.2 k i = m_117 k i) (fun v1_117 m_117 h => ?_) (fun K117 J117 h => ?_))
    · exact (ih v1_117 (w32 (v2 + (-1))) m_117 h).trans rfl
    rcases ite_or h with ⟨hc, h⟩ | ⟨hc, h⟩
    · obtain ⟨g1, h⟩ := gd_some h
      obtain ⟨m114, e114, h⟩ := b1_some h
      have f114 : m114 k i = m k i := fr_F9_hang hk_o_11 hk_o_9 e114
      exact (J117 v1 m114 h).trans f114
    obtain ⟨r98, e98, h⟩ := b1_some h
    exact (J117 (w32 (v1 + r98)) m h).trans rfl
set_option maxRecDepth 100000 in
set_option maxHeartbeats 4000000 in
theorem fr_F9_least {k : Nat} {i : Int} {m : Mem} {o : Nat} {out : Int × Mem} (hk_o_9 : k ≠ o + 9) (hk_o_11 : k ≠ o + 11) (h : F9_least m o = some out) : out.2 k i = m k i := by
  unfold F9_least at h
  refine (fr_L9_least_2 hk_o_9 (fun m_66 h => ?_) FU 0 m h).trans rfl
  refine (fr_L9_least_75 hk_o_11 hk_o_9 FU 0 (w32 ((rd m_66 o 0) - 1)) m_66 h).trans rfl
set_option maxRecDepth 100000 in
set_option maxHeartbeats 4000000 in
theorem fr_L10_cost_29 {k : Nat} {i : Int} {out : Int × Mem} {v1 : Int} (hk_19 : k ≠ 19) (hk_23 : k ≠ 23) (hk_25 : k ≠ 25) : ∀ (n : Nat) (v2 : Int) (v3 : Int) (m : Mem), L10_cost_29 v1 n v2 v3 m = some out → out.2 k i = m k i := by
  intro n
  induction n with
  | zero =>
    intro v2 v3 m h
    cases h
  | succ n ih =>
    intro v2 v3 m h
    rw [L10_cost_29] at h
    rcases ite_or h with ⟨hc, h⟩ | ⟨hc, h⟩
    · exact (congrArg (fun z : Int × Mem => z.2 k i) (Option.some.inj h)).symm.trans rfl
    refine (jn_e h (fun (K : Int → Mem → Option (Int × Mem)) => ∀ (v2_67 : Int) (m_67 : Mem), K v2_67 m_67 = some out → out.2 k i = m_67 k i) (fun v2_67 m_67 h => ?_) (fun K67 J67 h => ?_))
    · exact (ih v2_67 (w32 (v3 + 1)) m_67 h).trans rfl
    refine (jn_e h (fun (K : Option (Int × Mem)) => K = some out → out.2 k i = m k i) (fun h => ?_) (fun K45 J45 h => ?_))
    · obtain ⟨m54, e54, h⟩ := b1_some h
      have f54 : m54 k i = m k i := fr_F9_write hk_19 e54
      obtain ⟨r62, m62, e62, h⟩ := b2_some h
      have f62 : m62 k i = m54 k i := fr_F9_least hk_23 hk_25 e62
      exact (J67 (w32 (v2 + r62)) m62 h).trans (f62.trans f54)
    rcases ite_or h with ⟨hc, h⟩ | ⟨hc, h⟩
    · exact (J45 h).trans rfl
    rcases ite_or h with ⟨hc, h⟩ | ⟨hc, h⟩
    · exact (J67 v2 m h).trans rfl
    exact (J45 h).trans rfl
set_option maxRecDepth 100000 in
set_option maxHeartbeats 4000000 in
theorem fr_F10_cost {k : Nat} {i : Int} {m : Mem}  {v1 : Int} {out : Int × Mem} (hf0_14 : ¬ (k = 14 ∧ i = 0)) (hk_15 : k ≠ 15) (hk_16 : k ≠ 16) (hk_17 : k ≠ 17) (hk_22 : k ≠ 22) (hk_21 : k ≠ 21) (hk_19 : k ≠ 19) (hk_23 : k ≠ 23) (hk_25 : k ≠ 25) (h : F10_cost m v1 = some out) : out.2 k i = m k i := by
  unfold F10_cost at h
  refine (jn_e h (fun (K : Option (Int × Mem)) => K = some out → out.2 k i = m k i) (fun h => ?_) (fun K14 J14 h => ?_))
  · obtain ⟨m22, e22, h⟩ := b1_some h
    have f22 : m22 k i = m k i := fr_F9_growAsTold hf0_14 hk_15 hk_16 hk_17 hk_22 hk_21 e22
    refine (fr_L10_cost_29 hk_19 hk_23 hk_25 FU 0 0 m22 h).trans f22
  rcases ite_or h with ⟨hc, h⟩ | ⟨hc, h⟩
  · exact (J14 h).trans rfl
  rcases ite_or h with ⟨hc, h⟩ | ⟨hc, h⟩
  · exact (J14 h).trans rfl
  exact (congrArg (fun z : Int × Mem => z.2 k i) (Option.some.inj h)).symm.trans rfl
set_option maxRecDepth 100000 in
set_option maxHeartbeats 4000000 in
theorem fr_L9_spread_27 {k : Nat} {i : Int} {out : Mem} {o : Nat} {v2 : Int} {v3 : Int} {k66 : Mem → Option Mem} (hk_o_10 : k ≠ o + 10) (hk66 : ∀ (m : Mem), k66 m = some out → out k i = m k i) : ∀ (n : Nat) (v4 : Int) (m : Mem), L9_spread_27 o v2 v3 k66 n v4 m = some out → out k i = m k i := by
  intro n
  induction n with
  | zero =>
    intro v4 m h
    cases h
  | succ n ih =>
    intro v4 m h
    rw [L9_spread_27] at h
    rcases ite_or h with ⟨hc, h⟩ | ⟨hc, h⟩
    · exact (hk66 m h).trans rfl
    refine (jn_e h (fun (K : Int → Option Mem) => ∀ (x59 : Int), K x59 = some out → out k i = m k i) (fun x59 h => ?_) (fun K59 J59 h => ?_))
    · obtain ⟨g1, h⟩ := gd_some h
      replace h := stw_e h
      have f59 : (wr m (o + 10) (w32 ((w32 (v2 * 4)) + v4)) x59) k i = m k i := wr_ka hk_o_10
      generalize wr m (o + 10) (w32 ((w32 (v2 * 4)) + v4)) x59 = m59 at h f59
      exact (ih (w32 (v4 + 1)) m59 h).trans f59
    rcases ite_or h with ⟨hc, h⟩ | ⟨hc, h⟩
    · obtain ⟨r56, e56, h⟩ := b1_some h
      exact (J59 r56 h).trans rfl
    exact (J59 0 h).trans rfl
set_option maxRecDepth 100000 in
set_option maxHeartbeats 4000000 in
theorem fr_L9_spread_2 {k : Nat} {i : Int} {out : Mem} {o : Nat} (hk_o_10 : k ≠ o + 10) : ∀ (n : Nat) (v1 : Int) (m : Mem), L9_spread_2 o n v1 m = some out → out k i = m k i := by
  intro n
  induction n with
  | zero =>
    intro v1 m h
    cases h
  | succ n ih =>
    intro v1 m h
    rw [L9_spread_2] at h
    rcases ite_or h with ⟨hc, h⟩ | ⟨hc, h⟩
    · exact (congrArg (fun z : Mem => z k i) (Option.some.inj h)).symm.trans rfl
    obtain ⟨g1, h⟩ := gd_some h
    obtain ⟨g1, h⟩ := gd_some h
    refine (fr_L9_spread_27 hk_o_10 (fun m_66 h => ?_) FU 0 m h).trans rfl
    exact (ih (w32 (v1 + 1)) m_66 h).trans rfl
set_option maxRecDepth 100000 in
set_option maxHeartbeats 4000000 in
theorem fr_F9_spread {k : Nat} {i : Int} {m : Mem} {o : Nat} {out : Mem} (hk_o_10 : k ≠ o + 10) (h : F9_spread m o = some out) : out k i = m k i := by
  unfold F9_spread at h
  refine (fr_L9_spread_2 hk_o_10 FU 0 m h).trans rfl
set_option maxRecDepth 100000 in
set_option maxHeartbeats 4000000 in
theorem fr_F4_burntForms {k : Nat} {i : Int} {m : Mem}  {v1 v2 : Int} {out : Int × Mem} (hf0_14 : ¬ (k = 14 ∧ i = 0)) (hk_15 : k ≠ 15) (hk_16 : k ≠ 16) (hk_17 : k ≠ 17) (hk_22 : k ≠ 22) (hk_21 : k ≠ 21) (hk_19 : k ≠ 19) (hk_23 : k ≠ 23) (hk_25 : k ≠ 25) (hk_24 : k ≠ 24) (h : F4_burntForms m v1 v2 = some out) : out.2 k i = m k i := by
  unfold F4_burntForms at h
  obtain ⟨m8, e8, h⟩ := b1_some h
  have f8 : m8 k i = m k i := fr_F9_growAsTold hf0_14 hk_15 hk_16 hk_17 hk_22 hk_21 e8
  obtain ⟨m20, e20, h⟩ := b1_some h
  have f20 : m20 k i = m8 k i := fr_F9_write hk_19 e20
  obtain ⟨g1, h⟩ := gd_some h
  replace h := stw_e h
  have f33 : (wr m20 19 v1 9) k i = m20 k i := wr_ka hk_19
  generalize wr m20 19 v1 9 = m33 at h f33
  obtain ⟨r38, m38, e38, h⟩ := b2_some h
  have f38 : m38 k i = m33 k i := fr_F9_least hk_23 hk_25 e38
  obtain ⟨m46, e46, h⟩ := b1_some h
  have f46 : m46 k i = m38 k i := fr_F9_spread hk_24 e46
  obtain ⟨r54, e54, h⟩ := b1_some h
  exact (congrArg (fun z : Int × Mem => z.2 k i) (Option.some.inj h)).symm.trans (f46.trans (f38.trans (f33.trans (f20.trans f8))))
set_option maxRecDepth 100000 in
set_option maxHeartbeats 4000000 in
theorem fr_F10_filled {k : Nat} {i : Int} {m : Mem}  {v1 v2 : Int} {out : Int × Mem} (hf0_14 : ¬ (k = 14 ∧ i = 0)) (hk_15 : k ≠ 15) (hk_16 : k ≠ 16) (hk_17 : k ≠ 17) (hk_22 : k ≠ 22) (hk_21 : k ≠ 21) (hk_19 : k ≠ 19) (hk_23 : k ≠ 23) (hk_25 : k ≠ 25) (hk_24 : k ≠ 24) (h : F10_filled m v1 v2 = some out) : out.2 k i = m k i := by
  unfold F10_filled at h
  rcases ite_or h with ⟨hc, h⟩ | ⟨hc, h⟩
  · exact (congrArg (fun z : Int × Mem => z.2 k i) (Option.some.inj h)).symm.trans rfl
  rcases ite_or h with ⟨hc, h⟩ | ⟨hc, h⟩
  · obtain ⟨r26, e26, h⟩ := b1_some h
    rcases ite_or h with ⟨hc, h⟩ | ⟨hc, h⟩
    · obtain ⟨r48, m48, e48, h⟩ := b2_some h
      have f48 : m48 k i = m k i := fr_F4_burntForms hf0_14 hk_15 hk_16 hk_17 hk_22 hk_21 hk_19 hk_23 hk_25 hk_24 e48
      exact (congrArg (fun z : Int × Mem => z.2 k i) (Option.some.inj h)).symm.trans f48
    exact (congrArg (fun z : Int × Mem => z.2 k i) (Option.some.inj h)).symm.trans rfl
  exact (congrArg (fun z : Int × Mem => z.2 k i) (Option.some.inj h)).symm.trans rfl
set_option maxRecDepth 100000 in
set_option maxHeartbeats 4000000 in
theorem fr_L9_firstLate_4 {k : Nat} {i : Int} {out : Int × Mem} {o : Nat} (hk_o_4 : k ≠ o + 4) : ∀ (n : Nat) (v1 : Int) (v2 : Int) (m : Mem), L9_firstLate_4 o n v1 v2 m = some out → out.2 k i = m k i := by
  intro n
  induction n with
  | zero =>
    intro v1 v2 m h
    cases h
  | succ n ih =>
    intro v1 v2 m h
    rw [L9_firstLate_4] at h
    rcases ite_or h with ⟨hc, h⟩ | ⟨hc, h⟩
    · exact (congrArg (fun z : Int × Mem => z.2 k i) (Option.some.inj h)).symm.trans rfl
    obtain ⟨g1, h⟩ := gd_some h
    obtain ⟨g1, h⟩ := gd_some h
    obtain ⟨g1, h⟩ := gd_some h
    replace h := stw_e h
    have f30 : (wr m (o + 4) (rd m (o + 7) v2) (rd m (o + 2) (rd m (o + 7) v2))) k i = m k i := wr_ka hk_o_4
    generalize wr m (o + 4) (rd m (o + 7) v2) (rd m (o + 2) (rd m (o + 7) v2)) = m30 at h f30
    obtain ⟨g1, h⟩ := gd_some h
    refine (jn_e h (fun (K : Int → Mem → Option (Int × Mem)) => ∀ (v1_94 : Int) (m_94 : Mem), K v1_94 m_94 = some out → out.2 k i = m_94 k i) (fun v1_94 m_94 h => ?_) (fun K94 J94 h => ?_))
    · exact (ih v1_94 (w32 (v2 + 1)) m_94 h).trans rfl
    rcases ite_or h with ⟨hc, h⟩ | ⟨hc, h⟩
    · exact (J94 v1 m30 h).trans f30
    obtain ⟨g1, h⟩ := gd_some h
    obtain ⟨g1, h⟩ := gd_some h
    obtain ⟨g1, h⟩ := gd_some h
    obtain ⟨g1, h⟩ := gd_some h
    replace h := stw_e h
    have f67 : (wr m30 (o + 4) (rd m (o + 7) v2) (imx (rd m30 (o + 2) (rd m (o + 7) v2)) (w32 ((rd m30 (o + 4) (rd m30 (o + 1) (rd m (o + 7) v2))) + 1)))) k i = m30 k i := wr_ka hk_o_4
    generalize wr m30 (o + 4) (rd m (o + 7) v2) (imx (rd m30 (o + 2) (rd m (o + 7) v2)) (w32 ((rd m30 (o + 4) (rd m30 (o + 1) (rd m (o + 7) v2))) + 1))) = m67 at h f67
    obtain ⟨g1, h⟩ := gd_some h
    obtain ⟨g1, h⟩ := gd_some h
    rcases ite_or h with ⟨hc, h⟩ | ⟨hc, h⟩
    · exact (J94 v1 m67 h).trans (f67.trans f30)
    refine (jn_e h (fun (K : Option (Int × Mem)) => K = some out → out.2 k i = m67 k i) (fun h => ?_) (fun K92 J92 h => ?_))
    · exact (J94 (rd m (o + 7) v2) m67 h).trans rfl
    rcases ite_or h with ⟨hc, h⟩ | ⟨hc, h⟩
    · exact (J92 h).trans (f67.trans f30)
    rcases ite_or h with ⟨hc, h⟩ | ⟨hc, h⟩
    · exact (J94 v1 m67 h).trans (f67.trans f30)
    exact (J92 h).trans (f67.trans f30)
set_option maxRecDepth 100000 in
set_option maxHeartbeats 4000000 in
theorem fr_F9_firstLate {k : Nat} {i : Int} {m : Mem} {o : Nat} {out : Int × Mem} (hk_o_4 : k ≠ o + 4) (h : F9_firstLate m o = some out) : out.2 k i = m k i := by
  unfold F9_firstLate at h
  refine (fr_L9_firstLate_4 hk_o_4 FU (-1) 0 m h).trans rfl
set_option maxRecDepth 100000 in
set_option maxHeartbeats 4000000 in
theorem fr_L9_latestOf_2 {k : Nat} {i : Int} {out : Int × Mem} {o : Nat} {k28 : Mem → Option (Int × Mem)} (hk_o_6 : k ≠ o + 6) (hk28 : ∀ (m : Mem), k28 m = some out → out.2 k i = m k i) : ∀ (n : Nat) (v2 : Int) (m : Mem), L9_latestOf_2 o k28 n v2 m = some out → out.2 k i = m k i := by
  intro n
  induction n with
  | zero =>
    intro v2 m h
    cases h
  | succ n ih =>
    intro v2 m h
    rw [L9_latestOf_2] at h
    rcases ite_or h with ⟨hc, h⟩ | ⟨hc, h⟩
    · exact (hk28 m h).trans rfl
    obtain ⟨g1, h⟩ := gd_some h
    obtain ⟨g1, h⟩ := gd_some h
    replace h := stw_e h
    have f21 : (wr m (o + 6) v2 (rd m (o + 3) v2)) k i = m k i := wr_ka hk_o_6
    generalize wr m (o + 6) v2 (rd m (o + 3) v2) = m21 at h f21
    exact (ih (w32 (v2 + 1)) m21 h).trans f21
set_option maxRecDepth 100000 in
set_option maxHeartbeats 4000000 in
theorem fr_L9_latestOf_35 {k : Nat} {i : Int} {out : Int × Mem} {o : Nat} {k94 : Mem → Option (Int × Mem)} (hk_o_6 : k ≠ o + 6) (hk94 : ∀ (m : Mem), k94 m = some out → out.2 k i = m k i) : ∀ (n : Nat) (v2 : Int) (m : Mem), L9_latestOf_35 o k94 n v2 m = some out → out.2 k i = m k i := by
  intro n
  induction n with
  | zero =>
    intro v2 m h
    cases h
  | succ n ih =>
    intro v2 m h
    rw [L9_latestOf_35] at h
    rcases ite_or h with ⟨hc, h⟩ | ⟨hc, h⟩
    · exact (hk94 m h).trans rfl
    obtain ⟨g1, h⟩ := gd_some h
    obtain ⟨g1, h⟩ := gd_some h
    refine (jn_e h (fun (K : Mem → Option (Int × Mem)) => ∀ (m_88 : Mem), K m_88 = some out → out.2 k i = m_88 k i) (fun m_88 h => ?_) (fun K88 J88 h => ?_))
    · exact (ih (w32 (v2 + (-1))) m_88 h).trans rfl
    rcases ite_or h with ⟨hc, h⟩ | ⟨hc, h⟩
    · exact (J88 m h).trans rfl
    obtain ⟨g1, h⟩ := gd_some h
    obtain ⟨g1, h⟩ := gd_some h
    obtain ⟨g1, h⟩ := gd_some h
    obtain ⟨g1, h⟩ := gd_some h
    obtain ⟨g1, h⟩ := gd_some h
    replace h := stw_e h
    have f87 : (wr m (o + 6) (rd m (o + 1) (rd m (o + 7) v2)) (imn (rd m (o + 6) (rd m (o + 1) (rd m (o + 7) v2))) (w32 ((rd m (o + 6) (rd m (o + 7) v2)) - 1)))) k i = m k i := wr_ka hk_o_6
    generalize wr m (o + 6) (rd m (o + 1) (rd m (o + 7) v2)) (imn (rd m (o + 6) (rd m (o + 1) (rd m (o + 7) v2))) (w32 ((rd m (o + 6) (rd m (o + 7) v2)) - 1))) = m87 at h f87
    exact (J88 m87 h).trans f87
set_option maxRecDepth 100000 in
set_option maxHeartbeats 4000000 in
theorem fr_F9_latestOf {k : Nat} {i : Int} {m : Mem} {o : Nat} {v1 : Int} {out : Int × Mem} (hk_o_6 : k ≠ o + 6) (h : F9_latestOf m o v1 = some out) : out.2 k i = m k i := by
  unfold F9_latestOf at h
  refine (fr_L9_latestOf_2 hk_o_6 (fun m_28 h => ?_) FU 0 m h).trans rfl
  refine (fr_L9_latestOf_35 hk_o_6 (fun m_94 h => ?_) FU (w32 ((rd m_28 o 0) - 1)) m_28 h).trans rfl
  obtain ⟨g1, h⟩ := gd_some h
  exact (congrArg (fun z : Int × Mem => z.2 k i) (Option.some.inj h)).symm.trans rfl
set_option maxRecDepth 100000 in
set_option maxHeartbeats 4000000 in
theorem fr_F10_days {k : Nat} {i : Int} {m : Mem}  {v1 v2 : Int} {out : Int × Mem} (hf0_14 : ¬ (k = 14 ∧ i = 0)) (hk_15 : k ≠ 15) (hk_16 : k ≠ 16) (hk_17 : k ≠ 17) (hk_22 : k ≠ 22) (hk_21 : k ≠ 21) (hk_18 : k ≠ 18) (hk_20 : k ≠ 20) (h : F10_days m v1 v2 = some out) : out.2 k i = m k i := by
  unfold F10_days at h
  rcases ite_or h with ⟨hc, h⟩ | ⟨hc, h⟩
  · exact (congrArg (fun z : Int × Mem => z.2 k i) (Option.some.inj h)).symm.trans rfl
  rcases ite_or h with ⟨hc, h⟩ | ⟨hc, h⟩
  · exact (congrArg (fun z : Int × Mem => z.2 k i) (Option.some.inj h)).symm.trans rfl
  rcases ite_or h with ⟨hc, h⟩ | ⟨hc, h⟩
  · obtain ⟨m30, e30, h⟩ := b1_some h
    have f30 : m30 k i = m k i := fr_F9_growAsTold hf0_14 hk_15 hk_16 hk_17 hk_22 hk_21 e30
    obtain ⟨r37, m37, e37, h⟩ := b2_some h
    have f37 : m37 k i = m30 k i := fr_F9_firstLate hk_18 e37
    rcases ite_or h with ⟨hc, h⟩ | ⟨hc, h⟩
    · rcases ite_or h with ⟨hc, h⟩ | ⟨hc, h⟩
      · rcases ite_or h with ⟨hc, h⟩ | ⟨hc, h⟩
        · obtain ⟨r85, m85, e85, h⟩ := b2_some h
          have f85 : m85 k i = m37 k i := fr_F9_latestOf hk_20 e85
          exact (congrArg (fun z : Int × Mem => z.2 k i) (Option.some.inj h)).symm.trans (f85.trans (f37.trans f30))
        obtain ⟨g1, h⟩ := gd_some h
        exact (congrArg (fun z : Int × Mem => z.2 k i) (Option.some.inj h)).symm.trans (f37.trans f30)
      exact (congrArg (fun z : Int × Mem => z.2 k i) (Option.some.inj h)).symm.trans (f37.trans f30)
    rcases ite_or h with ⟨hc, h⟩ | ⟨hc, h⟩
    · exact (congrArg (fun z : Int × Mem => z.2 k i) (Option.some.inj h)).symm.trans (f37.trans f30)
    exact (congrArg (fun z : Int × Mem => z.2 k i) (Option.some.inj h)).symm.trans (f37.trans f30)
  exact (congrArg (fun z : Int × Mem => z.2 k i) (Option.some.inj h)).symm.trans rfl
set_option maxRecDepth 100000 in
set_option maxHeartbeats 4000000 in
theorem fr_F0_tell {k : Nat} {i : Int} {m : Mem}  {v1 : Int} {out : Int × Mem} (hk_44 : k ≠ 44) (hf2_31 : ¬ (k = 31 ∧ i = 2)) (hf14_31 : ¬ (k = 31 ∧ i = 14)) (h : F0_tell m v1 = some out) : out.2 k i = m k i := by
  unfold F0_tell at h
  obtain ⟨g1, h⟩ := gd_some h
  replace h := stw_e h
  have f9 : (wr m 44 (rd m 31 2) v1) k i = m k i := wr_ka hk_44
  generalize wr m 44 (rd m 31 2) v1 = m9 at h f9
  replace h := stw_e h
  have f17 : (wr m9 31 2 (w32 ((rd m9 31 2) + 1))) k i = m9 k i := wr_ki hf2_31
  generalize wr m9 31 2 (w32 ((rd m9 31 2) + 1)) = m17 at h f17
  replace h := stw_e h
  have f22 : (wr m17 31 14 (-1)) k i = m17 k i := wr_ki hf14_31
  generalize wr m17 31 14 (-1) = m22 at h f22
  exact (congrArg (fun z : Int × Mem => z.2 k i) (Option.some.inj h)).symm.trans (f22.trans (f17.trans f9))
set_option maxRecDepth 100000 in
set_option maxHeartbeats 4000000 in
theorem fr_F10_list {k : Nat} {i : Int} {m : Mem}  {v1 : Int} {out : Int × Mem} (hk_44 : k ≠ 44) (hf2_31 : ¬ (k = 31 ∧ i = 2)) (hf14_31 : ¬ (k = 31 ∧ i = 14)) (h : F10_list m v1 = some out) : out.2 k i = m k i := by
  unfold F10_list at h
  rcases ite_or h with ⟨hc, h⟩ | ⟨hc, h⟩
  · exact (congrArg (fun z : Int × Mem => z.2 k i) (Option.some.inj h)).symm.trans rfl
  obtain ⟨r16, e16, h⟩ := b1_some h
  rcases ite_or h with ⟨hc, h⟩ | ⟨hc, h⟩
  · rcases ite_or h with ⟨hc, h⟩ | ⟨hc, h⟩
    · obtain ⟨r46, m46, e46, h⟩ := b2_some h
      have f46 : m46 k i = m k i := fr_F0_tell hk_44 hf2_31 hf14_31 e46
      exact (congrArg (fun z : Int × Mem => z.2 k i) (Option.some.inj h)).symm.trans f46
    exact (congrArg (fun z : Int × Mem => z.2 k i) (Option.some.inj h)).symm.trans rfl
  exact (congrArg (fun z : Int × Mem => z.2 k i) (Option.some.inj h)).symm.trans rfl
set_option maxRecDepth 100000 in
set_option maxHeartbeats 4000000 in
theorem fr_F0_forget {k : Nat} {i : Int} {m : Mem}  {out : Int × Mem} (hf2_31 : ¬ (k = 31 ∧ i = 2)) (hf14_31 : ¬ (k = 31 ∧ i = 14)) (h : F0_forget m = some out) : out.2 k i = m k i := by
  unfold F0_forget at h
  replace h := stw_e h
  have f7 : (wr m 31 2 0) k i = m k i := wr_ki hf2_31
  generalize wr m 31 2 0 = m7 at h f7
  replace h := stw_e h
  have f12 : (wr m7 31 14 (-1)) k i = m7 k i := wr_ki hf14_31
  generalize wr m7 31 14 (-1) = m12 at h f12
  exact (congrArg (fun z : Int × Mem => z.2 k i) (Option.some.inj h)).symm.trans (f12.trans f7)
set_option maxRecDepth 100000 in
set_option maxHeartbeats 4000000 in
theorem fr_F10_unlist {k : Nat} {i : Int} {m : Mem}  {out : Int × Mem} (hf2_31 : ¬ (k = 31 ∧ i = 2)) (hf14_31 : ¬ (k = 31 ∧ i = 14)) (h : F10_unlist m = some out) : out.2 k i = m k i := by
  unfold F10_unlist at h
  obtain ⟨r4, m4, e4, h⟩ := b2_some h
  have f4 : m4 k i = m k i := fr_F0_forget hf2_31 hf14_31 e4
  exact (congrArg (fun z : Int × Mem => z.2 k i) (Option.some.inj h)).symm.trans f4
set_option maxRecDepth 100000 in
set_option maxHeartbeats 4000000 in
theorem fr_L0_sortClause_15 {k : Nat} {i : Int} {out : Mem} {m : Mem} {v1 : Int} {k69 : Option Mem} {k42 : Option Mem} (hk69 : k69 = some out → out k i = m k i) (hk42 : k42 = some out → out k i = m k i) : ∀ (n : Nat) (v2 : Int), L0_sortClause_15 m v1 k69 k42 n v2 = some out → out k i = m k i := by
  intro n
  induction n with
  | zero =>
    intro v2 h
    cases h
  | succ n ih =>
    intro v2 h
    rw [L0_sortClause_15] at h
    rcases ite_or h with ⟨hc, h⟩ | ⟨hc, h⟩
    · exact (hk69 h).trans rfl
    obtain ⟨g1, h⟩ := gd_some h
    obtain ⟨r34, e34, h⟩ := b1_some h
    rcases ite_or h with ⟨hc, h⟩ | ⟨hc, h⟩
    · exact (ih (w32 (v2 + 1)) h).trans rfl
    exact (hk42 h).trans rfl
set_option maxRecDepth 100000 in
set_option maxHeartbeats 4000000 in
theorem fr_L0_sortClause_81 {k : Nat} {i : Int} {out : Mem} {v1 : Int} {v2 : Int} {k148 : Mem → Option Mem} (hk_48 : k ≠ 48) (hk148 : ∀ (m : Mem), k148 m = some out → out k i = m k i) : ∀ (n : Nat) (v3 : Int) (m : Mem), L0_sortClause_81 v1 v2 k148 n v3 m = some out → out k i = m k i := by
  intro n
  induction n with
  | zero =>
    intro v3 m h
    cases h
  | succ n ih =>
    intro v3 m h
    rw [L0_sortClause_81] at h
    rcases ite_or h with ⟨hc, h⟩ | ⟨hc, h⟩
    · exact (hk148 m h).trans rfl
    obtain ⟨g1, h⟩ := gd_some h
    obtain ⟨r104, e104, h⟩ := b1_some h
    obtain ⟨g1, h⟩ := gd_some h
    obtain ⟨r118, e118, h⟩ := b1_some h
    obtain ⟨r121, e121, h⟩ := b1_some h
    obtain ⟨g1, h⟩ := gd_some h
    obtain ⟨g1, h⟩ := gd_some h
    replace h := stw_e h
    have f141 : (wr m 48 (w32 ((w32 (v2 * 6)) + v3)) (w32 ((rd m 48 (w32 ((w32 (v2 * 6)) + v3))) + r121))) k i = m k i := wr_ka hk_48
    generalize wr m 48 (w32 ((w32 (v2 * 6)) + v3)) (w32 ((rd m 48 (w32 ((w32 (v2 * 6)) + v3))) + r121)) = m141 at h f141
    exact (ih (w32 (v3 + 1)) m141 h).trans f141
set_option maxRecDepth 100000 in
set_option maxHeartbeats 4000000 in
theorem fr_L0_sortClause_71 {k : Nat} {i : Int} {out : Mem} {v1 : Int} (hk_48 : k ≠ 48) : ∀ (n : Nat) (v2 : Int) (m : Mem), L0_sortClause_71 v1 n v2 m = some out → out k i = m k i := by
  intro n
  induction n with
  | zero =>
    intro v2 m h
    cases h
  | succ n ih =>
    intro v2 m h
    rw [L0_sortClause_71] at h
    rcases ite_or h with ⟨hc, h⟩ | ⟨hc, h⟩
    · exact (congrArg (fun z : Mem => z k i) (Option.some.inj h)).symm.trans rfl
    refine (fr_L0_sortClause_81 hk_48 (fun m_148 h => ?_) FU 0 m h).trans rfl
    exact (ih (w32 (v2 + 1)) m_148 h).trans rfl
set_option maxRecDepth 100000 in
set_option maxHeartbeats 4000000 in
theorem fr_F0_sortClause {k : Nat} {i : Int} {m : Mem}  {v1 : Int} {out : Mem} (hk_48 : k ≠ 48) (hk_49 : k ≠ 49) (hf12_31 : ¬ (k = 31 ∧ i = 12)) (h : F0_sortClause m v1 = some out) : out k i = m k i := by
  unfold F0_sortClause at h
  obtain ⟨r2, e2, h⟩ := b1_some h
  rcases ite_or h with ⟨hc, h⟩ | ⟨hc, h⟩
  · refine (fr_L0_sortClause_15 (fun h => ?_) (fun h => ?_) FU 0 h).trans rfl
    · refine (fr_L0_sortClause_71 hk_48 FU 0 m h).trans rfl
    · obtain ⟨g1, h⟩ := gd_some h
      replace h := stw_e h
      have f51 : (wr m 49 (rd m 31 12) v1) k i = m k i := wr_ka hk_49
      generalize wr m 49 (rd m 31 12) v1 = m51 at h f51
      replace h := stw_e h
      have f59 : (wr m51 31 12 (w32 ((rd m51 31 12) + 1))) k i = m51 k i := wr_ki hf12_31
      generalize wr m51 31 12 (w32 ((rd m51 31 12) + 1)) = m59 at h f59
      exact (congrArg (fun z : Mem => z k i) (Option.some.inj h)).symm.trans (f59.trans f51)
  exact (congrArg (fun z : Mem => z k i) (Option.some.inj h)).symm.trans rfl
set_option maxRecDepth 100000 in
set_option maxHeartbeats 4000000 in
theorem fr_L0_prepare_19 {k : Nat} {i : Int} {out : Mem} {k48 : Mem → Option Mem} (hk_47 : k ≠ 47) (hk48 : ∀ (m : Mem), k48 m = some out → out k i = m k i) : ∀ (n : Nat) (v1 : Int) (m : Mem), L0_prepare_19 k48 n v1 m = some out → out k i = m k i := by
  intro n
  induction n with
  | zero =>
    intro v1 m h
    cases h
  | succ n ih =>
    intro v1 m h
    rw [L0_prepare_19] at h
    rcases ite_or h with ⟨hc, h⟩ | ⟨hc, h⟩
    · exact (hk48 m h).trans rfl
    obtain ⟨g1, h⟩ := gd_some h
    obtain ⟨g1, h⟩ := gd_some h
    replace h := stw_e h
    have f41 : (wr m 47 v1 (w32 ((rd m 47 (w32 (v1 + 1))) * (rd m 31 2)))) k i = m k i := wr_ka hk_47
    generalize wr m 47 v1 (w32 ((rd m 47 (w32 (v1 + 1))) * (rd m 31 2))) = m41 at h f41
    exact (ih (w32 (v1 + (-1))) m41 h).trans f41
set_option maxRecDepth 100000 in
set_option maxHeartbeats 4000000 in
theorem fr_L0_prepare_72 {k : Nat} {i : Int} {out : Mem} {k132 : Mem → Option Mem} (hk_34 : k ≠ 34) (hk_35 : k ≠ 35) (hk132 : ∀ (m : Mem), k132 m = some out → out k i = m k i) : ∀ (n : Nat) (v1 : Int) (m : Mem), L0_prepare_72 k132 n v1 m = some out → out k i = m k i := by
  intro n
  induction n with
  | zero =>
    intro v1 m h
    cases h
  | succ n ih =>
    intro v1 m h
    rw [L0_prepare_72] at h
    rcases ite_or h with ⟨hc, h⟩ | ⟨hc, h⟩
    · exact (hk132 m h).trans rfl
    obtain ⟨g1, h⟩ := gd_some h
    obtain ⟨g1, h⟩ := gd_some h
    obtain ⟨g1, h⟩ := gd_some h
    replace h := stw_e h
    have f102 : (wr m 34 v1 (rd m 5 (rd m 44 v1))) k i = m k i := wr_ka hk_34
    generalize wr m 34 v1 (rd m 5 (rd m 44 v1)) = m102 at h f102
    obtain ⟨g1, h⟩ := gd_some h
    obtain ⟨g1, h⟩ := gd_some h
    obtain ⟨g1, h⟩ := gd_some h
    replace h := stw_e h
    have f125 : (wr m102 35 v1 (rd m102 6 (rd m102 44 v1))) k i = m102 k i := wr_ka hk_35
    generalize wr m102 35 v1 (rd m102 6 (rd m102 44 v1)) = m125 at h f125
    exact (ih (w32 (v1 + 1)) m125 h).trans (f125.trans f102)
set_option maxRecDepth 100000 in
set_option maxHeartbeats 4000000 in
theorem fr_L0_prepare_147 {k : Nat} {i : Int} {out : Mem} {k164 : Mem → Option Mem} (hk_48 : k ≠ 48) (hk_49 : k ≠ 49) (hf12_31 : ¬ (k = 31 ∧ i = 12)) (hk164 : ∀ (m : Mem), k164 m = some out → out k i = m k i) : ∀ (n : Nat) (v1 : Int) (m : Mem), L0_prepare_147 k164 n v1 m = some out → out k i = m k i := by
  intro n
  induction n with
  | zero =>
    intro v1 m h
    cases h
  | succ n ih =>
    intro v1 m h
    rw [L0_prepare_147] at h
    rcases ite_or h with ⟨hc, h⟩ | ⟨hc, h⟩
    · exact (hk164 m h).trans rfl
    obtain ⟨m155, e155, h⟩ := b1_some h
    have f155 : m155 k i = m k i := fr_F0_sortClause hk_48 hk_49 hf12_31 e155
    exact (ih (w32 (v1 + 1)) m155 h).trans f155
set_option maxRecDepth 100000 in
set_option maxHeartbeats 4000000 in
theorem fr_L0_prepare_181 {k : Nat} {i : Int} {out : Mem} (hk_50 : k ≠ 50) : ∀ (n : Nat) (v1 : Int) (m : Mem), L0_prepare_181 n v1 m = some out → out k i = m k i := by
  intro n
  induction n with
  | zero =>
    intro v1 m h
    cases h
  | succ n ih =>
    intro v1 m h
    rw [L0_prepare_181] at h
    rcases ite_or h with ⟨hc, h⟩ | ⟨hc, h⟩
    · exact (congrArg (fun z : Mem => z k i) (Option.some.inj h)).symm.trans rfl
    obtain ⟨g1, h⟩ := gd_some h
    obtain ⟨g1, h⟩ := gd_some h
    obtain ⟨r206, e206, h⟩ := b1_some h
    obtain ⟨r209, e209, h⟩ := b1_some h
    obtain ⟨g1, h⟩ := gd_some h
    replace h := stw_e h
    have f213 : (wr m 50 v1 (w32 ((rd m 50 (w32 (v1 + 1))) + r209))) k i = m k i := wr_ka hk_50
    generalize wr m 50 v1 (w32 ((rd m 50 (w32 (v1 + 1))) + r209)) = m213 at h f213
    exact (ih (w32 (v1 + (-1))) m213 h).trans f213
set_option maxRecDepth 100000 in
set_option maxHeartbeats 4000000 in
theorem fr_F0_prepare {k : Nat} {i : Int} {m : Mem}  {out : Mem} (hk_47 : k ≠ 47) (hf0_32 : ¬ (k = 32 ∧ i = 0)) (hk_40 : k ≠ 40) (hk_34 : k ≠ 34) (hk_35 : k ≠ 35) (hk_48 : k ≠ 48) (hf12_31 : ¬ (k = 31 ∧ i = 12)) (hk_49 : k ≠ 49) (hk_50 : k ≠ 50) (h : F0_prepare m = some out) : out k i = m k i := by
  unfold F0_prepare at h
  obtain ⟨g1, h⟩ := gd_some h
  replace h := stw_e h
  have f11 : (wr m 47 (w32 ((rd m 31 2) - 1)) 1) k i = m k i := wr_ka hk_47
  generalize wr m 47 (w32 ((rd m 31 2) - 1)) 1 = m11 at h f11
  refine (fr_L0_prepare_19 hk_47 (fun m_48 h => ?_) FU (w32 ((rd m11 31 2) - 2)) m11 h).trans f11
  replace h := stw_e h
  have f56 : (wr m_48 32 0 (rd m_48 31 2)) k i = m_48 k i := wr_ki hf0_32
  generalize wr m_48 32 0 (rd m_48 31 2) = m56 at h f56
  obtain ⟨m67, e67, h⟩ := b1_some h
  have f67 : m67 k i = m56 k i := fr_F9_takeCosts hk_40 e67
  refine (fr_L0_prepare_72 hk_34 hk_35 (fun m_132 h => ?_) FU 0 m67 h).trans (f67.trans f56)
  obtain ⟨m137, e137, h⟩ := b1_some h
  have f137 : m137 k i = m_132 k i := fr_FJ7_fill_53178 hk_48 e137
  replace h := stw_e h
  have f142 : (wr m137 31 12 0) k i = m137 k i := wr_ki hf12_31
  generalize wr m137 31 12 0 = m142 at h f142
  refine (fr_L0_prepare_147 hk_48 hk_49 hf12_31 (fun m_164 h => ?_) FU 0 m142 h).trans (f142.trans f137)
  obtain ⟨g1, h⟩ := gd_some h
  replace h := stw_e h
  have f173 : (wr m_164 50 (rd m_164 31 12) 0) k i = m_164 k i := wr_ka hk_50
  generalize wr m_164 50 (rd m_164 31 12) 0 = m173 at h f173
  refine (fr_L0_prepare_181 hk_50 FU (w32 ((rd m173 31 12) - 1)) m173 h).trans f173
set_option maxRecDepth 100000 in
set_option maxHeartbeats 4000000 in
theorem fr_L0_grow_9 {k : Nat} {i : Int} {out : Int × Mem} {v1 : Int} {k163 : Int → Mem → Option (Int × Mem)} {k46 : Int → Mem → Option (Int × Mem)} {k150 : Int → Mem → Option (Int × Mem)} (hk_33 : k ≠ 33) (hf13_31 : ¬ (k = 31 ∧ i = 13)) (hk163 : ∀ (v2 : Int) (m : Mem), k163 v2 m = some out → out.2 k i = m k i) (hk46 : ∀ (v3 : Int) (m : Mem), k46 v3 m = some out → out.2 k i = m k i) (hk150 : ∀ (v3 : Int) (m : Mem), k150 v3 m = some out → out.2 k i = m k i) : ∀ (n : Nat) (v2 : Int) (v3 : Int) (m : Mem), L0_grow_9 v1 k163 k46 k150 n v2 v3 m = some out → out.2 k i = m k i := by
  intro n
  induction n with
  | zero =>
    intro v2 v3 m h
    cases h
  | succ n ih =>
    intro v2 v3 m h
    rw [L0_grow_9] at h
    rcases ite_or h with ⟨hc, h⟩ | ⟨hc, h⟩
    · exact (hk163 v2 m h).trans rfl
    obtain ⟨r20, e20, h⟩ := b1_some h
    refine (jn_e h (fun (K : Int → Mem → Option (Int × Mem)) => ∀ (v2_157 : Int) (m_157 : Mem), K v2_157 m_157 = some out → out.2 k i = m_157 k i) (fun v2_157 m_157 h => ?_) (fun K157 J157 h => ?_))
    · exact (ih v2_157 (w32 (v3 + 1)) m_157 h).trans rfl
    rcases ite_or h with ⟨hc, h⟩ | ⟨hc, h⟩
    · obtain ⟨g1, h⟩ := gd_some h
      replace h := stw_e h
      have f68 : (wr m 33 v3 r20) k i = m k i := wr_ka hk_33
      generalize wr m 33 v3 r20 = m68 at h f68
      obtain ⟨g1, h⟩ := gd_some h
      replace h := stw_e h
      have f87 : (wr m68 31 13 (w32 ((rd m68 31 13) + (rd m68 48 (w32 ((w32 (r20 * 6)) + v3)))))) k i = m68 k i := wr_ki hf13_31
      generalize wr m68 31 13 (w32 ((rd m68 31 13) + (rd m68 48 (w32 ((w32 (r20 * 6)) + v3))))) = m87 at h f87
      obtain ⟨g1, h⟩ := gd_some h
      refine (jn_e h (fun (K : Int → Option (Int × Mem)) => ∀ (x113 : Int), K x113 = some out → out.2 k i = m87 k i) (fun x113 h => ?_) (fun K113 J113 h => ?_))
      · rcases ite_or h with ⟨hc, h⟩ | ⟨hc, h⟩
        · exact (hk150 v3 m87 h).trans rfl
        obtain ⟨g1, h⟩ := gd_some h
        obtain ⟨g1, h⟩ := gd_some h
        rcases ite_or h with ⟨hc, h⟩ | ⟨hc, h⟩
        · exact (hk150 v3 m87 h).trans rfl
        obtain ⟨r144, e144, h⟩ := b1_some h
        rcases ite_or h with ⟨hc, h⟩ | ⟨hc, h⟩
        · exact (J157 v2 m87 h).trans rfl
        exact (hk150 v3 m87 h).trans rfl
      rcases ite_or h with ⟨hc, h⟩ | ⟨hc, h⟩
      · exact (J113 0 h).trans (f87.trans f68)
      exact (J113 1 h).trans (f87.trans f68)
    obtain ⟨g1, h⟩ := gd_some h
    replace h := stw_e h
    have f41 : (wr m 33 v3 (-1)) k i = m k i := wr_ka hk_33
    generalize wr m 33 v3 (-1) = m41 at h f41
    rcases ite_or h with ⟨hc, h⟩ | ⟨hc, h⟩
    · exact (J157 1 m41 h).trans f41
    exact (hk46 v3 m41 h).trans f41
set_option maxRecDepth 100000 in
set_option maxHeartbeats 4000000 in
theorem fr_F0_grow {k : Nat} {i : Int} {m : Mem}  {v1 : Int} {out : Int × Mem} (hf13_31 : ¬ (k = 31 ∧ i = 13)) (hk_33 : k ≠ 33) (h : F0_grow m v1 = some out) : out.2 k i = m k i := by
  unfold F0_grow at h
  replace h := stw_e h
  have f4 : (wr m 31 13 0) k i = m k i := wr_ki hf13_31
  generalize wr m 31 13 0 = m4 at h f4
  refine (fr_L0_grow_9 hk_33 hf13_31 (fun v2_163 m_163 h => ?_) (fun v3_46 m_46 h => ?_) (fun v3_150 m_150 h => ?_) FU 0 0 m4 h).trans f4
  · rcases ite_or h with ⟨hc, h⟩ | ⟨hc, h⟩
    · exact (congrArg (fun z : Int × Mem => z.2 k i) (Option.some.inj h)).symm.trans rfl
    exact (congrArg (fun z : Int × Mem => z.2 k i) (Option.some.inj h)).symm.trans rfl
  · obtain ⟨g1, h⟩ := gd_some h
    exact (congrArg (fun z : Int × Mem => z.2 k i) (Option.some.inj h)).symm.trans rfl
  · obtain ⟨g1, h⟩ := gd_some h
    exact (congrArg (fun z : Int × Mem => z.2 k i) (Option.some.inj h)).symm.trans rfl
set_option maxRecDepth 100000 in
set_option maxHeartbeats 4000000 in
theorem fr_L0_writeClause_2 {k : Nat} {i : Int} {out : Mem} {v1 : Int} (hk_37 : k ≠ 37) : ∀ (n : Nat) (v2 : Int) (m : Mem), L0_writeClause_2 v1 n v2 m = some out → out k i = m k i := by
  intro n
  induction n with
  | zero =>
    intro v2 m h
    cases h
  | succ n ih =>
    intro v2 m h
    rw [L0_writeClause_2] at h
    rcases ite_or h with ⟨hc, h⟩ | ⟨hc, h⟩
    · exact (congrArg (fun z : Mem => z k i) (Option.some.inj h)).symm.trans rfl
    obtain ⟨g1, h⟩ := gd_some h
    obtain ⟨r29, e29, h⟩ := b1_some h
    obtain ⟨g1, h⟩ := gd_some h
    replace h := stw_e h
    have f32 : (wr m 37 v2 r29) k i = m k i := wr_ka hk_37
    generalize wr m 37 v2 r29 = m32 at h f32
    exact (ih (w32 (v2 + 1)) m32 h).trans f32
set_option maxRecDepth 100000 in
set_option maxHeartbeats 4000000 in
theorem fr_F0_writeClause {k : Nat} {i : Int} {m : Mem}  {v1 : Int} {out : Mem} (hk_37 : k ≠ 37) (h : F0_writeClause m v1 = some out) : out k i = m k i := by
  unfold F0_writeClause at h
  refine (fr_L0_writeClause_2 hk_37 FU 0 m h).trans rfl
set_option maxRecDepth 100000 in
set_option maxHeartbeats 4000000 in
theorem fr_L0_weigh_28 {k : Nat} {i : Int} {out : Mem} {k78 : Int → Mem → Option Mem} (hk_37 : k ≠ 37) (hk_41 : k ≠ 41) (hk_43 : k ≠ 43) (hk78 : ∀ (v2 : Int) (m : Mem), k78 v2 m = some out → out k i = m k i) : ∀ (n : Nat) (v2 : Int) (v3 : Int) (m : Mem), L0_weigh_28 k78 n v2 v3 m = some out → out k i = m k i := by
  intro n
  induction n with
  | zero =>
    intro v2 v3 m h
    cases h
  | succ n ih =>
    intro v2 v3 m h
    rw [L0_weigh_28] at h
    rcases ite_or h with ⟨hc, h⟩ | ⟨hc, h⟩
    · exact (hk78 v2 m h).trans rfl
    obtain ⟨g1, h⟩ := gd_some h
    rcases ite_or h with ⟨hc, h⟩ | ⟨hc, h⟩
    · obtain ⟨g1, h⟩ := gd_some h
      obtain ⟨m59, e59, h⟩ := b1_some h
      have f59 : m59 k i = m k i := fr_F0_writeClause hk_37 e59
      obtain ⟨r67, m67, e67, h⟩ := b2_some h
      have f67 : m67 k i = m59 k i := fr_F9_least hk_41 hk_43 e67
      exact (ih (w32 (v2 + r67)) (w32 (v3 + 1)) m67 h).trans (f67.trans f59)
    exact (congrArg (fun z : Mem => z k i) (Option.some.inj h)).symm.trans rfl
set_option maxRecDepth 100000 in
set_option maxHeartbeats 4000000 in
theorem fr_L0_weigh_144 {k : Nat} {i : Int} {out : Mem} {v1 : Int} (hk_46 : k ≠ 46) : ∀ (n : Nat) (v3 : Int) (m : Mem), L0_weigh_144 v1 n v3 m = some out → out k i = m k i := by
  intro n
  induction n with
  | zero =>
    intro v3 m h
    cases h
  | succ n ih =>
    intro v3 m h
    rw [L0_weigh_144] at h
    rcases ite_or h with ⟨hc, h⟩ | ⟨hc, h⟩
    · exact (congrArg (fun z : Mem => z k i) (Option.some.inj h)).symm.trans rfl
    obtain ⟨g1, h⟩ := gd_some h
    obtain ⟨r163, e163, h⟩ := b1_some h
    obtain ⟨g1, h⟩ := gd_some h
    replace h := stw_e h
    have f168 : (wr m 46 v3 (bor (rd m 46 v3) (shl 1 r163))) k i = m k i := wr_ka hk_46
    generalize wr m 46 v3 (bor (rd m 46 v3) (shl 1 r163)) = m168 at h f168
    exact (ih (w32 (v3 + 1)) m168 h).trans f168
set_option maxRecDepth 100000 in
set_option maxHeartbeats 4000000 in
theorem fr_F0_weigh {k : Nat} {i : Int} {m : Mem}  {v1 : Int} {out : Mem} (hk_39 : k ≠ 39) (hk_36 : k ≠ 36) (hk_37 : k ≠ 37) (hk_41 : k ≠ 41) (hk_43 : k ≠ 43) (hk_45 : k ≠ 45) (hf3_31 : ¬ (k = 31 ∧ i = 3)) (hk_46 : k ≠ 46) (hf4_31 : ¬ (k = 31 ∧ i = 4)) (h : F0_weigh m v1 = some out) : out k i = m k i := by
  unfold F0_weigh at h
  obtain ⟨r4, m4, e4, h⟩ := b2_some h
  have f4 : m4 k i = m k i := fr_F9_arrange hk_39 e4
  rcases ite_or h with ⟨hc, h⟩ | ⟨hc, h⟩
  · exact (congrArg (fun z : Mem => z k i) (Option.some.inj h)).symm.trans f4
  obtain ⟨r14, m14, e14, h⟩ := b2_some h
  have f14 : m14 k i = m4 k i := fr_F9_firstLate hk_36 e14
  rcases ite_or h with ⟨hc, h⟩ | ⟨hc, h⟩
  · refine (fr_L0_weigh_28 hk_37 hk_41 hk_43 (fun v2_78 m_78 h => ?_) FU (rd m14 31 13) 0 m14 h).trans (f14.trans f4)
    refine (jn_e h (fun (K : Mem → Option Mem) => ∀ (m_104 : Mem), K m_104 = some out → out k i = m_104 k i) (fun m_104 h => ?_) (fun K104 J104 h => ?_))
    · rcases ite_or h with ⟨hc, h⟩ | ⟨hc, h⟩
      · exact (congrArg (fun z : Mem => z k i) (Option.some.inj h)).symm.trans rfl
      rcases ite_or h with ⟨hc, h⟩ | ⟨hc, h⟩
      · exact (congrArg (fun z : Mem => z k i) (Option.some.inj h)).symm.trans rfl
      obtain ⟨g1, h⟩ := gd_some h
      replace h := stw_e h
      have f131 : (wr m_104 45 (rd m_104 31 3) v1) k i = m_104 k i := wr_ka hk_45
      generalize wr m_104 45 (rd m_104 31 3) v1 = m131 at h f131
      replace h := stw_e h
      have f139 : (wr m131 31 3 (w32 ((rd m131 31 3) + 1))) k i = m131 k i := wr_ki hf3_31
      generalize wr m131 31 3 (w32 ((rd m131 31 3) + 1)) = m139 at h f139
      refine (fr_L0_weigh_144 hk_46 FU 0 m139 h).trans (f139.trans f131)
    rcases ite_or h with ⟨hc, h⟩ | ⟨hc, h⟩
    · exact (J104 m_78 h).trans rfl
    replace h := stw_e h
    have f88 : (wr m_78 31 4 v2_78) k i = m_78 k i := wr_ki hf4_31
    generalize wr m_78 31 4 v2_78 = m88 at h f88
    replace h := stw_e h
    have f93 : (wr m88 31 3 0) k i = m88 k i := wr_ki hf3_31
    generalize wr m88 31 3 0 = m93 at h f93
    obtain ⟨m101, e101, h⟩ := b1_some h
    have f101 : m101 k i = m93 k i := fr_FJ7_fill_53178 hk_46 e101
    exact (J104 m101 h).trans (f101.trans (f93.trans f88))
  exact (congrArg (fun z : Mem => z k i) (Option.some.inj h)).symm.trans (f14.trans f4)
set_option maxRecDepth 100000 in
set_option maxHeartbeats 4000000 in
theorem fr_L0_find_63 {k : Nat} {i : Int} {out : Mem} {v1 : Int} (hf13_31 : ¬ (k = 31 ∧ i = 13)) (hk_33 : k ≠ 33) (hk_39 : k ≠ 39) (hk_36 : k ≠ 36) (hk_37 : k ≠ 37) (hk_41 : k ≠ 41) (hk_43 : k ≠ 43) (hk_45 : k ≠ 45) (hf3_31 : ¬ (k = 31 ∧ i = 3)) (hk_46 : k ≠ 46) (hf4_31 : ¬ (k = 31 ∧ i = 4)) : ∀ (n : Nat) (v2 : Int) (m : Mem), L0_find_63 v1 n v2 m = some out → out k i = m k i := by
  intro n
  induction n with
  | zero =>
    intro v2 m h
    cases h
  | succ n ih =>
    intro v2 m h
    rw [L0_find_63] at h
    rcases ite_or h with ⟨hc, h⟩ | ⟨hc, h⟩
    · exact (congrArg (fun z : Mem => z k i) (Option.some.inj h)).symm.trans rfl
    obtain ⟨r70, m70, e70, h⟩ := b2_some h
    have f70 : m70 k i = m k i := fr_F0_grow hf13_31 hk_33 e70
    refine (jn_e h (fun (K : Mem → Option Mem) => ∀ (m_83 : Mem), K m_83 = some out → out k i = m_83 k i) (fun m_83 h => ?_) (fun K83 J83 h => ?_))
    · obtain ⟨g1, h⟩ := gd_some h
      exact (ih (w32 ((w32 ((idv v2 (imx 1 r70)) + 1)) * (imx 1 r70))) m_83 h).trans rfl
    rcases ite_or h with ⟨hc, h⟩ | ⟨hc, h⟩
    · exact (J83 m70 h).trans f70
    obtain ⟨m80, e80, h⟩ := b1_some h
    have f80 : m80 k i = m70 k i := fr_F0_weigh hk_39 hk_36 hk_37 hk_41 hk_43 hk_45 hf3_31 hk_46 hf4_31 e80
    exact (J83 m80 h).trans (f80.trans f70)
set_option maxRecDepth 100000 in
set_option maxHeartbeats 4000000 in
theorem fr_F0_find {k : Nat} {i : Int} {m : Mem}  {out : Mem} (hf14_31 : ¬ (k = 31 ∧ i = 14)) (hf3_31 : ¬ (k = 31 ∧ i = 3)) (hf4_31 : ¬ (k = 31 ∧ i = 4)) (hk_47 : k ≠ 47) (hf0_32 : ¬ (k = 32 ∧ i = 0)) (hk_40 : k ≠ 40) (hk_34 : k ≠ 34) (hk_35 : k ≠ 35) (hk_48 : k ≠ 48) (hf12_31 : ¬ (k = 31 ∧ i = 12)) (hk_49 : k ≠ 49) (hk_50 : k ≠ 50) (hf13_31 : ¬ (k = 31 ∧ i = 13)) (hk_33 : k ≠ 33) (hk_39 : k ≠ 39) (hk_36 : k ≠ 36) (hk_37 : k ≠ 37) (hk_41 : k ≠ 41) (hk_43 : k ≠ 43) (hk_45 : k ≠ 45) (hk_46 : k ≠ 46) (h : F0_find m = some out) : out k i = m k i := by
  unfold F0_find at h
  rcases ite_or h with ⟨hc, h⟩ | ⟨hc, h⟩
  · exact (congrArg (fun z : Mem => z k i) (Option.some.inj h)).symm.trans rfl
  rcases ite_or h with ⟨hc, h⟩ | ⟨hc, h⟩
  · replace h := stw_e h
    have f31 : (wr m 31 14 (rd m 4 12)) k i = m k i := wr_ki hf14_31
    generalize wr m 31 14 (rd m 4 12) = m31 at h f31
    replace h := stw_e h
    have f36 : (wr m31 31 3 0) k i = m31 k i := wr_ki hf3_31
    generalize wr m31 31 3 0 = m36 at h f36
    replace h := stw_e h
    have f42 : (wr m36 31 4 16777216) k i = m36 k i := wr_ki hf4_31
    generalize wr m36 31 4 16777216 = m42 at h f42
    obtain ⟨m46, e46, h⟩ := b1_some h
    have f46 : m46 k i = m42 k i := fr_F0_prepare hk_47 hf0_32 hk_40 hk_34 hk_35 hk_48 hf12_31 hk_49 hk_50 e46
    obtain ⟨g1, h⟩ := gd_some h
    refine (fr_L0_find_63 hf13_31 hk_33 hk_39 hk_36 hk_37 hk_41 hk_43 hk_45 hf3_31 hk_46 hf4_31 FU 0 m46 h).trans (f46.trans (f42.trans (f36.trans f31)))
  exact (congrArg (fun z : Mem => z k i) (Option.some.inj h)).symm.trans rfl
set_option maxRecDepth 100000 in
set_option maxHeartbeats 4000000 in
theorem fr_F10_best {k : Nat} {i : Int} {m : Mem}  {v1 : Int} {out : Int × Mem} (hf14_31 : ¬ (k = 31 ∧ i = 14)) (hf3_31 : ¬ (k = 31 ∧ i = 3)) (hf4_31 : ¬ (k = 31 ∧ i = 4)) (hk_47 : k ≠ 47) (hf0_32 : ¬ (k = 32 ∧ i = 0)) (hk_40 : k ≠ 40) (hk_34 : k ≠ 34) (hk_35 : k ≠ 35) (hk_48 : k ≠ 48) (hf12_31 : ¬ (k = 31 ∧ i = 12)) (hk_49 : k ≠ 49) (hk_50 : k ≠ 50) (hf13_31 : ¬ (k = 31 ∧ i = 13)) (hk_33 : k ≠ 33) (hk_39 : k ≠ 39) (hk_36 : k ≠ 36) (hk_37 : k ≠ 37) (hk_41 : k ≠ 41) (hk_43 : k ≠ 43) (hk_45 : k ≠ 45) (hk_46 : k ≠ 46) (h : F10_best m v1 = some out) : out.2 k i = m k i := by
  unfold F10_best at h
  rcases ite_or h with ⟨hc, h⟩ | ⟨hc, h⟩
  · exact (congrArg (fun z : Int × Mem => z.2 k i) (Option.some.inj h)).symm.trans rfl
  rcases ite_or h with ⟨hc, h⟩ | ⟨hc, h⟩
  · rcases ite_or h with ⟨hc, h⟩ | ⟨hc, h⟩
    · rcases ite_or h with ⟨hc, h⟩ | ⟨hc, h⟩
      · obtain ⟨m42, e42, h⟩ := b1_some h
        have f42 : m42 k i = m k i := fr_F0_find hf14_31 hf3_31 hf4_31 hk_47 hf0_32 hk_40 hk_34 hk_35 hk_48 hf12_31 hk_49 hk_50 hf13_31 hk_33 hk_39 hk_36 hk_37 hk_41 hk_43 hk_45 hk_46 e42
        rcases ite_or h with ⟨hc, h⟩ | ⟨hc, h⟩
        · rcases ite_or h with ⟨hc, h⟩ | ⟨hc, h⟩
          · exact (congrArg (fun z : Int × Mem => z.2 k i) (Option.some.inj h)).symm.trans f42
          rcases ite_or h with ⟨hc, h⟩ | ⟨hc, h⟩
          · exact (congrArg (fun z : Int × Mem => z.2 k i) (Option.some.inj h)).symm.trans f42
          rcases ite_or h with ⟨hc, h⟩ | ⟨hc, h⟩
          · obtain ⟨r104, e104, h⟩ := b1_some h
            exact (congrArg (fun z : Int × Mem => z.2 k i) (Option.some.inj h)).symm.trans f42
          obtain ⟨r119, e119, h⟩ := b1_some h
          exact (congrArg (fun z : Int × Mem => z.2 k i) (Option.some.inj h)).symm.trans f42
        exact (congrArg (fun z : Int × Mem => z.2 k i) (Option.some.inj h)).symm.trans f42
      obtain ⟨r34, e34, h⟩ := b1_some h
      exact (congrArg (fun z : Int × Mem => z.2 k i) (Option.some.inj h)).symm.trans rfl
    exact (congrArg (fun z : Int × Mem => z.2 k i) (Option.some.inj h)).symm.trans rfl
  exact (congrArg (fun z : Int × Mem => z.2 k i) (Option.some.inj h)).symm.trans rfl
set_option maxRecDepth 100000 in
set_option maxHeartbeats 4000000 in
theorem fr_F10_tree {k : Nat} {i : Int} {m : Mem}  {v1 v2 : Int} {out : Int × Mem} (hf14_31 : ¬ (k = 31 ∧ i = 14)) (hf3_31 : ¬ (k = 31 ∧ i = 3)) (hf4_31 : ¬ (k = 31 ∧ i = 4)) (hk_47 : k ≠ 47) (hf0_32 : ¬ (k = 32 ∧ i = 0)) (hk_40 : k ≠ 40) (hk_34 : k ≠ 34) (hk_35 : k ≠ 35) (hk_48 : k ≠ 48) (hf12_31 : ¬ (k = 31 ∧ i = 12)) (hk_49 : k ≠ 49) (hk_50 : k ≠ 50) (hf13_31 : ¬ (k = 31 ∧ i = 13)) (hk_33 : k ≠ 33) (hk_39 : k ≠ 39) (hk_36 : k ≠ 36) (hk_37 : k ≠ 37) (hk_41 : k ≠ 41) (hk_43 : k ≠ 43) (hk_45 : k ≠ 45) (hk_46 : k ≠ 46) (h : F10_tree m v1 v2 = some out) : out.2 k i = m k i := by
  unfold F10_tree at h
  rcases ite_or h with ⟨hc, h⟩ | ⟨hc, h⟩
  · exact (congrArg (fun z : Int × Mem => z.2 k i) (Option.some.inj h)).symm.trans rfl
  rcases ite_or h with ⟨hc, h⟩ | ⟨hc, h⟩
  · exact (congrArg (fun z : Int × Mem => z.2 k i) (Option.some.inj h)).symm.trans rfl
  rcases ite_or h with ⟨hc, h⟩ | ⟨hc, h⟩
  · rcases ite_or h with ⟨hc, h⟩ | ⟨hc, h⟩
    · obtain ⟨m39, e39, h⟩ := b1_some h
      have f39 : m39 k i = m k i := fr_F0_find hf14_31 hf3_31 hf4_31 hk_47 hf0_32 hk_40 hk_34 hk_35 hk_48 hf12_31 hk_49 hk_50 hf13_31 hk_33 hk_39 hk_36 hk_37 hk_41 hk_43 hk_45 hk_46 e39
      rcases ite_or h with ⟨hc, h⟩ | ⟨hc, h⟩
      · rcases ite_or h with ⟨hc, h⟩ | ⟨hc, h⟩
        · obtain ⟨r76, e76, h⟩ := b1_some h
          exact (congrArg (fun z : Int × Mem => z.2 k i) (Option.some.inj h)).symm.trans f39
        exact (congrArg (fun z : Int × Mem => z.2 k i) (Option.some.inj h)).symm.trans f39
      exact (congrArg (fun z : Int × Mem => z.2 k i) (Option.some.inj h)).symm.trans f39
    exact (congrArg (fun z : Int × Mem => z.2 k i) (Option.some.inj h)).symm.trans rfl
  exact (congrArg (fun z : Int × Mem => z.2 k i) (Option.some.inj h)).symm.trans rfl
set_option maxRecDepth 100000 in
set_option maxHeartbeats 4000000 in
theorem fr_F10_never {k : Nat} {i : Int} {m : Mem}  {v1 : Int} {out : Int × Mem} (hf14_31 : ¬ (k = 31 ∧ i = 14)) (hf3_31 : ¬ (k = 31 ∧ i = 3)) (hf4_31 : ¬ (k = 31 ∧ i = 4)) (hk_47 : k ≠ 47) (hf0_32 : ¬ (k = 32 ∧ i = 0)) (hk_40 : k ≠ 40) (hk_34 : k ≠ 34) (hk_35 : k ≠ 35) (hk_48 : k ≠ 48) (hf12_31 : ¬ (k = 31 ∧ i = 12)) (hk_49 : k ≠ 49) (hk_50 : k ≠ 50) (hf13_31 : ¬ (k = 31 ∧ i = 13)) (hk_33 : k ≠ 33) (hk_39 : k ≠ 39) (hk_36 : k ≠ 36) (hk_37 : k ≠ 37) (hk_41 : k ≠ 41) (hk_43 : k ≠ 43) (hk_45 : k ≠ 45) (hk_46 : k ≠ 46) (h : F10_never m v1 = some out) : out.2 k i = m k i := by
  unfold F10_never at h
  rcases ite_or h with ⟨hc, h⟩ | ⟨hc, h⟩
  · exact (congrArg (fun z : Int × Mem => z.2 k i) (Option.some.inj h)).symm.trans rfl
  rcases ite_or h with ⟨hc, h⟩ | ⟨hc, h⟩
  · rcases ite_or h with ⟨hc, h⟩ | ⟨hc, h⟩
    · obtain ⟨m35, e35, h⟩ := b1_some h
      have f35 : m35 k i = m k i := fr_F0_find hf14_31 hf3_31 hf4_31 hk_47 hf0_32 hk_40 hk_34 hk_35 hk_48 hf12_31 hk_49 hk_50 hf13_31 hk_33 hk_39 hk_36 hk_37 hk_41 hk_43 hk_45 hk_46 e35
      rcases ite_or h with ⟨hc, h⟩ | ⟨hc, h⟩
      · obtain ⟨r58, e58, h⟩ := b1_some h
        exact (congrArg (fun z : Int × Mem => z.2 k i) (Option.some.inj h)).symm.trans f35
      exact (congrArg (fun z : Int × Mem => z.2 k i) (Option.some.inj h)).symm.trans f35
    exact (congrArg (fun z : Int × Mem => z.2 k i) (Option.some.inj h)).symm.trans rfl
  exact (congrArg (fun z : Int × Mem => z.2 k i) (Option.some.inj h)).symm.trans rfl
set_option maxRecDepth 100000 in
set_option maxHeartbeats 4000000 in
theorem fr_F10_claim {k : Nat} {i : Int} {m : Mem}  {v1 : Int} {out : Int × Mem} (hf14_31 : ¬ (k = 31 ∧ i = 14)) (hf3_31 : ¬ (k = 31 ∧ i = 3)) (hf4_31 : ¬ (k = 31 ∧ i = 4)) (hk_47 : k ≠ 47) (hf0_32 : ¬ (k = 32 ∧ i = 0)) (hk_40 : k ≠ 40) (hk_34 : k ≠ 34) (hk_35 : k ≠ 35) (hk_48 : k ≠ 48) (hf12_31 : ¬ (k = 31 ∧ i = 12)) (hk_49 : k ≠ 49) (hk_50 : k ≠ 50) (hf13_31 : ¬ (k = 31 ∧ i = 13)) (hk_33 : k ≠ 33) (hk_39 : k ≠ 39) (hk_36 : k ≠ 36) (hk_37 : k ≠ 37) (hk_41 : k ≠ 41) (hk_43 : k ≠ 43) (hk_45 : k ≠ 45) (hk_46 : k ≠ 46) (h : F10_claim m v1 = some out) : out.2 k i = m k i := by
  unfold F10_claim at h
  rcases ite_or h with ⟨hc, h⟩ | ⟨hc, h⟩
  · exact (congrArg (fun z : Int × Mem => z.2 k i) (Option.some.inj h)).symm.trans rfl
  obtain ⟨g1, h⟩ := gd_some h
  rcases ite_or h with ⟨hc, h⟩ | ⟨hc, h⟩
  · obtain ⟨r30, e30, h⟩ := b1_some h
    obtain ⟨g1, h⟩ := gd_some h
    obtain ⟨r47, e47, h⟩ := b1_some h
    rcases ite_or h with ⟨hc, h⟩ | ⟨hc, h⟩
    · exact (congrArg (fun z : Int × Mem => z.2 k i) (Option.some.inj h)).symm.trans rfl
    rcases ite_or h with ⟨hc, h⟩ | ⟨hc, h⟩
    · obtain ⟨m65, e65, h⟩ := b1_some h
      have f65 : m65 k i = m k i := fr_F0_find hf14_31 hf3_31 hf4_31 hk_47 hf0_32 hk_40 hk_34 hk_35 hk_48 hf12_31 hk_49 hk_50 hf13_31 hk_33 hk_39 hk_36 hk_37 hk_41 hk_43 hk_45 hk_46 e65
      rcases ite_or h with ⟨hc, h⟩ | ⟨hc, h⟩
      · obtain ⟨r89, e89, h⟩ := b1_some h
        exact (congrArg (fun z : Int × Mem => z.2 k i) (Option.some.inj h)).symm.trans f65
      exact (congrArg (fun z : Int × Mem => z.2 k i) (Option.some.inj h)).symm.trans f65
    exact (congrArg (fun z : Int × Mem => z.2 k i) (Option.some.inj h)).symm.trans rfl
  exact (congrArg (fun z : Int × Mem => z.2 k i) (Option.some.inj h)).symm.trans rfl
set_option maxRecDepth 100000 in
set_option maxHeartbeats 4000000 in
theorem fr_L4_fillClause_29 {k : Nat} {i : Int} {out : Mem} {v1 : Int} (hk_27 : k ≠ 27) : ∀ (n : Nat) (v2 : Int) (m : Mem), L4_fillClause_29 v1 n v2 m = some out → out k i = m k i := by
  intro n
  induction n with
  | zero =>
    intro v2 m h
    cases h
  | succ n ih =>
    intro v2 m h
    rw [L4_fillClause_29] at h
    rcases ite_or h with ⟨hc, h⟩ | ⟨hc, h⟩
    · exact (congrArg (fun z : Mem => z k i) (Option.some.inj h)).symm.trans rfl
    obtain ⟨r46, e46, h⟩ := b1_some h
    refine (jn_e h (fun (K : Int → Option Mem) => ∀ (x84 : Int), K x84 = some out → out k i = m k i) (fun x84 h => ?_) (fun K84 J84 h => ?_))
    · obtain ⟨g1, h⟩ := gd_some h
      replace h := stw_e h
      have f84 : (wr m 27 (F1_formCell v2 v1) x84) k i = m k i := wr_ka hk_27
      generalize wr m 27 (F1_formCell v2 v1) x84 = m84 at h f84
      exact (ih (w32 (v2 + 1)) m84 h).trans f84
    rcases ite_or h with ⟨hc, h⟩ | ⟨hc, h⟩
    · obtain ⟨r78, e78, h⟩ := b1_some h
      obtain ⟨r81, e81, h⟩ := b1_some h
      exact (J84 r81 h).trans rfl
    exact (J84 r46 h).trans rfl
set_option maxRecDepth 100000 in
set_option maxHeartbeats 4000000 in
theorem fr_F4_fillClause {k : Nat} {i : Int} {m : Mem}  {v1 : Int} {out : Mem} (hk_19 : k ≠ 19) (hk_23 : k ≠ 23) (hk_25 : k ≠ 25) (hk_24 : k ≠ 24) (hk_27 : k ≠ 27) (h : F4_fillClause m v1 = some out) : out k i = m k i := by
  unfold F4_fillClause at h
  obtain ⟨m9, e9, h⟩ := b1_some h
  have f9 : m9 k i = m k i := fr_F9_write hk_19 e9
  obtain ⟨r16, m16, e16, h⟩ := b2_some h
  have f16 : m16 k i = m9 k i := fr_F9_least hk_23 hk_25 e16
  obtain ⟨m24, e24, h⟩ := b1_some h
  have f24 : m24 k i = m16 k i := fr_F9_spread hk_24 e24
  refine (fr_L4_fillClause_29 hk_27 FU 0 m24 h).trans (f24.trans (f16.trans f9))
set_option maxRecDepth 100000 in
set_option maxHeartbeats 4000000 in
theorem fr_L4_gainBeside_26 {k : Nat} {i : Int} {out : Mem} {m : Mem} {v4 : Int} {k64 : Int → Option Mem} (hk64 : ∀ (v5 : Int), k64 v5 = some out → out k i = m k i) : ∀ (n : Nat) (v5 : Int) (v6 : Int), L4_gainBeside_26 m v4 k64 n v5 v6 = some out → out k i = m k i := by
  intro n
  induction n with
  | zero =>
    intro v5 v6 h
    cases h
  | succ n ih =>
    intro v5 v6 h
    rw [L4_gainBeside_26] at h
    rcases ite_or h with ⟨hc, h⟩ | ⟨hc, h⟩
    · exact (hk64 v5 h).trans rfl
    refine (jn_e h (fun (K : Int → Option Mem) => ∀ (x55 : Int), K x55 = some out → out k i = m k i) (fun x55 h => ?_) (fun K55 J55 h => ?_))
    · exact (ih (w32 (v5 + x55)) (w32 (v6 + 1)) h).trans rfl
    rcases ite_or h with ⟨hc, h⟩ | ⟨hc, h⟩
    · exact (J55 0 h).trans rfl
    obtain ⟨g1, h⟩ := gd_some h
    exact (J55 (rd m 30 v6) h).trans rfl
set_option maxRecDepth 100000 in
set_option maxHeartbeats 4000000 in
theorem fr_L4_gainBeside_3 {k : Nat} {i : Int} {out : Mem} {v1 : Int} {v2 : Int} {v3 : Int} (hk_28 : k ≠ 28) : ∀ (n : Nat) (v4 : Int) (m : Mem), L4_gainBeside_3 v1 v2 v3 n v4 m = some out → out k i = m k i := by
  intro n
  induction n with
  | zero =>
    intro v4 m h
    cases h
  | succ n ih =>
    intro v4 m h
    rw [L4_gainBeside_3] at h
    rcases ite_or h with ⟨hc, h⟩ | ⟨hc, h⟩
    · exact (congrArg (fun z : Mem => z k i) (Option.some.inj h)).symm.trans rfl
    refine (jn_e h (fun (K : Mem → Option Mem) => ∀ (m_102 : Mem), K m_102 = some out → out k i = m_102 k i) (fun m_102 h => ?_) (fun K102 J102 h => ?_))
    · exact (ih (w32 (v4 + 1)) m_102 h).trans rfl
    rcases ite_or h with ⟨hc, h⟩ | ⟨hc, h⟩
    · refine (fr_L4_gainBeside_26 (fun v5_64 h => ?_) FU v3 0 h).trans rfl
      rcases ite_or h with ⟨hc, h⟩ | ⟨hc, h⟩
      · exact (J102 m h).trans rfl
      obtain ⟨g1, h⟩ := gd_some h
      obtain ⟨g1, h⟩ := gd_some h
      replace h := stw_e h
      have f101 : (wr m 28 (w32 (v2 + (FJ6_bitCount_0f7a4 v4))) (imx (rd m 28 (w32 (v2 + (FJ6_bitCount_0f7a4 v4)))) v5_64)) k i = m k i := wr_ka hk_28
      generalize wr m 28 (w32 (v2 + (FJ6_bitCount_0f7a4 v4))) (imx (rd m 28 (w32 (v2 + (FJ6_bitCount_0f7a4 v4)))) v5_64) = m101 at h f101
      exact (J102 m101 h).trans f101
    exact (J102 m h).trans rfl
set_option maxRecDepth 100000 in
set_option maxHeartbeats 4000000 in
theorem fr_F4_gainBeside {k : Nat} {i : Int} {m : Mem}  {v1 v2 v3 : Int} {out : Mem} (hk_28 : k ≠ 28) (h : F4_gainBeside m v1 v2 v3 = some out) : out k i = m k i := by
  unfold F4_gainBeside at h
  refine (fr_L4_gainBeside_3 hk_28 FU 0 m h).trans rfl
set_option maxRecDepth 100000 in
set_option maxHeartbeats 4000000 in
theorem fr_L4_gainOfChapter_17 {k : Nat} {i : Int} {out : Mem} {m : Mem} {v1 : Int} {v2 : Int} {v3 : Int} {k73 : Int → Int → Option Mem} (hk73 : ∀ (v4 : Int) (v5 : Int), k73 v4 v5 = some out → out k i = m k i) : ∀ (n : Nat) (v4 : Int) (v5 : Int) (v6 : Int), L4_gainOfChapter_17 m v1 v2 v3 k73 n v4 v5 v6 = some out → out k i = m k i := by
  intro n
  induction n with
  | zero =>
    intro v4 v5 v6 h
    cases h
  | succ n ih =>
    intro v4 v5 v6 h
    rw [L4_gainOfChapter_17] at h
    rcases ite_or h with ⟨hc, h⟩ | ⟨hc, h⟩
    · exact (hk73 v4 v5 h).trans rfl
    obtain ⟨r29, e29, h⟩ := b1_some h
    obtain ⟨r38, e38, h⟩ := b1_some h
    refine (jn_e h (fun (K : Int → Int → Option Mem) => ∀ (v4_67 : Int) (v5_67 : Int), K v4_67 v5_67 = some out → out k i = m k i) (fun v4_67 v5_67 h => ?_) (fun K67 J67 h => ?_))
    · exact (ih v4_67 v5_67 (w32 (v6 + 1)) h).trans rfl
    rcases ite_or h with ⟨hc, h⟩ | ⟨hc, h⟩
    · exact (J67 v4 v5 h).trans rfl
    obtain ⟨r61, e61, h⟩ := b1_some h
    exact (J67 (bor v4 (shl 1 v6)) (w32 (v5 + r61)) h).trans rfl
set_option maxRecDepth 100000 in
set_option maxHeartbeats 4000000 in
theorem fr_F4_gainOfChapter {k : Nat} {i : Int} {m : Mem}  {v1 v2 v3 : Int} {out : Mem} (hk_28 : k ≠ 28) (h : F4_gainOfChapter m v1 v2 v3 = some out) : out k i = m k i := by
  unfold F4_gainOfChapter at h
  obtain ⟨r8, e8, h⟩ := b1_some h
  refine (fr_L4_gainOfChapter_17 (fun v4_73 v5_73 h => ?_) FU 0 (w32 (-r8)) 0 h).trans rfl
  obtain ⟨m79, e79, h⟩ := b1_some h
  have f79 : m79 k i = m k i := fr_F4_gainBeside hk_28 e79
  exact (congrArg (fun z : Mem => z k i) (Option.some.inj h)).symm.trans f79
set_option maxRecDepth 100000 in
set_option maxHeartbeats 4000000 in
theorem fr_L4_weighChapter_5 {k : Nat} {i : Int} {out : Int × Mem} {v1 : Int} {v2 : Int} {k83 : Int → Mem → Option (Int × Mem)} (hk_30 : k ≠ 30) (hk83 : ∀ (v3 : Int) (m : Mem), k83 v3 m = some out → out.2 k i = m k i) : ∀ (n : Nat) (v3 : Int) (v4 : Int) (m : Mem), L4_weighChapter_5 v1 v2 k83 n v3 v4 m = some out → out.2 k i = m k i := by
  intro n
  induction n with
  | zero =>
    intro v3 v4 m h
    cases h
  | succ n ih =>
    intro v3 v4 m h
    rw [L4_weighChapter_5] at h
    rcases ite_or h with ⟨hc, h⟩ | ⟨hc, h⟩
    · exact (hk83 v3 m h).trans rfl
    obtain ⟨r17, e17, h⟩ := b1_some h
    obtain ⟨r28, e28, h⟩ := b1_some h
    refine (jn_e h (fun (K : Int → Option (Int × Mem)) => ∀ (x39 : Int), K x39 = some out → out.2 k i = m k i) (fun x39 h => ?_) (fun K39 J39 h => ?_))
    · refine (jn_e h (fun (K : Int → Option (Int × Mem)) => ∀ (x71 : Int), K x71 = some out → out.2 k i = m k i) (fun x71 h => ?_) (fun K71 J71 h => ?_))
      · obtain ⟨g1, h⟩ := gd_some h
        replace h := stw_e h
        have f71 : (wr m 30 v4 x71) k i = m k i := wr_ka hk_30
        generalize wr m 30 v4 x71 = m71 at h f71
        exact (ih (w32 (v3 + r17)) (w32 (v4 + 1)) m71 h).trans f71
      rcases ite_or h with ⟨hc, h⟩ | ⟨hc, h⟩
      · exact (J71 0 h).trans rfl
      obtain ⟨r60, e60, h⟩ := b1_some h
      exact (J71 (imx 0 (w32 (r17 - r60))) h).trans rfl
    rcases ite_or h with ⟨hc, h⟩ | ⟨hc, h⟩
    · exact (J39 0 h).trans rfl
    exact (J39 1 h).trans rfl
set_option maxRecDepth 100000 in
set_option maxHeartbeats 4000000 in
theorem fr_L4_weighChapter_101 {k : Nat} {i : Int} {out : Int × Mem} {v1 : Int} {v2 : Int} {v3 : Int} (hk_28 : k ≠ 28) : ∀ (n : Nat) (v4 : Int) (m : Mem), L4_weighChapter_101 v1 v2 v3 n v4 m = some out → out.2 k i = m k i := by
  intro n
  induction n with
  | zero =>
    intro v4 m h
    cases h
  | succ n ih =>
    intro v4 m h
    rw [L4_weighChapter_101] at h
    rcases ite_or h with ⟨hc, h⟩ | ⟨hc, h⟩
    · exact (congrArg (fun z : Int × Mem => z.2 k i) (Option.some.inj h)).symm.trans rfl
    obtain ⟨r117, e117, h⟩ := b1_some h
    refine (jn_e h (fun (K : Mem → Option (Int × Mem)) => ∀ (m_131 : Mem), K m_131 = some out → out.2 k i = m_131 k i) (fun m_131 h => ?_) (fun K131 J131 h => ?_))
    · exact (ih (w32 (v4 + 1)) m_131 h).trans rfl
    rcases ite_or h with ⟨hc, h⟩ | ⟨hc, h⟩
    · exact (J131 m h).trans rfl
    obtain ⟨m128, e128, h⟩ := b1_some h
    have f128 : m128 k i = m k i := fr_F4_gainOfChapter hk_28 e128
    exact (J131 m128 h).trans f128
set_option maxRecDepth 100000 in
set_option maxHeartbeats 4000000 in
theorem fr_F4_weighChapter {k : Nat} {i : Int} {m : Mem}  {v1 v2 : Int} {out : Int × Mem} (hk_30 : k ≠ 30) (hk_28 : k ≠ 28) (h : F4_weighChapter m v1 v2 = some out) : out.2 k i = m k i := by
  unfold F4_weighChapter at h
  refine (fr_L4_weighChapter_5 hk_30 (fun v3_83 m_83 h => ?_) FU 0 0 m h).trans rfl
  obtain ⟨m88, e88, h⟩ := b1_some h
  have f88 : m88 k i = m_83 k i := fr_FJ7_fill_53178 hk_28 e88
  obtain ⟨m95, e95, h⟩ := b1_some h
  have f95 : m95 k i = m88 k i := fr_F4_gainBeside hk_28 e95
  refine (fr_L4_weighChapter_101 hk_28 FU 0 m95 h).trans (f95.trans f88)
set_option maxRecDepth 100000 in
set_option maxHeartbeats 4000000 in
theorem fr_L4_share_13 {k : Nat} {i : Int} {out : Mem} {v2 : Int} {k63 : Mem → Option Mem} (hk_29 : k ≠ 29) (hk63 : ∀ (m : Mem), k63 m = some out → out k i = m k i) : ∀ (n : Nat) (v3 : Int) (m : Mem), L4_share_13 v2 k63 n v3 m = some out → out k i = m k i := by
  intro n
  induction n with
  | zero =>
    intro v3 m h
    cases h
  | succ n ih =>
    intro v3 m h
    rw [L4_share_13] at h
    rcases ite_or h with ⟨hc, h⟩ | ⟨hc, h⟩
    · exact (hk63 m h).trans rfl
    rcases ite_or h with ⟨hc, h⟩ | ⟨hc, h⟩
    · exact (hk63 m h).trans rfl
    obtain ⟨g1, h⟩ := gd_some h
    obtain ⟨g1, h⟩ := gd_some h
    obtain ⟨g1, h⟩ := gd_some h
    obtain ⟨g1, h⟩ := gd_some h
    replace h := stw_e h
    have f56 : (wr m 29 v2 (imx (rd m 29 v2) (w32 ((rd m 29 (w32 (v2 - v3))) + (rd m 28 v3))))) k i = m k i := wr_ka hk_29
    generalize wr m 29 v2 (imx (rd m 29 v2) (w32 ((rd m 29 (w32 (v2 - v3))) + (rd m 28 v3)))) = m56 at h f56
    exact (ih (w32 (v3 + 1)) m56 h).trans f56
set_option maxRecDepth 100000 in
set_option maxHeartbeats 4000000 in
theorem fr_L4_share_7 {k : Nat} {i : Int} {out : Mem} (hk_29 : k ≠ 29) : ∀ (n : Nat) (v2 : Int) (m : Mem), L4_share_7 n v2 m = some out → out k i = m k i := by
  intro n
  induction n with
  | zero =>
    intro v2 m h
    cases h
  | succ n ih =>
    intro v2 m h
    rw [L4_share_7] at h
    rcases ite_or h with ⟨hc, h⟩ | ⟨hc, h⟩
    · exact (congrArg (fun z : Mem => z k i) (Option.some.inj h)).symm.trans rfl
    refine (fr_L4_share_13 hk_29 (fun m_63 h => ?_) FU 1 m h).trans rfl
    exact (ih (w32 (v2 + (-1))) m_63 h).trans rfl
set_option maxRecDepth 100000 in
set_option maxHeartbeats 4000000 in
theorem fr_F4_share {k : Nat} {i : Int} {m : Mem}  {v1 : Int} {out : Mem} (hk_29 : k ≠ 29) (h : F4_share m v1 = some out) : out k i = m k i := by
  unfold F4_share at h
  refine (fr_L4_share_7 hk_29 FU (imn v1 20) m h).trans rfl
set_option maxRecDepth 100000 in
set_option maxHeartbeats 4000000 in
theorem fr_L4_leastWith_13 {k : Nat} {i : Int} {out : Int × Mem} {k30 : Mem → Option (Int × Mem)} (hk_19 : k ≠ 19) (hk_23 : k ≠ 23) (hk_25 : k ≠ 25) (hk_24 : k ≠ 24) (hk_27 : k ≠ 27) (hk30 : ∀ (m : Mem), k30 m = some out → out.2 k i = m k i) : ∀ (n : Nat) (v2 : Int) (m : Mem), L4_leastWith_13 k30 n v2 m = some out → out.2 k i = m k i := by
  intro n
  induction n with
  | zero =>
    intro v2 m h
    cases h
  | succ n ih =>
    intro v2 m h
    rw [L4_leastWith_13] at h
    rcases ite_or h with ⟨hc, h⟩ | ⟨hc, h⟩
    · exact (hk30 m h).trans rfl
    obtain ⟨m21, e21, h⟩ := b1_some h
    have f21 : m21 k i = m k i := fr_F4_fillClause hk_19 hk_23 hk_25 hk_24 hk_27 e21
    exact (ih (w32 (v2 + 1)) m21 h).trans f21
set_option maxRecDepth 100000 in
set_option maxHeartbeats 4000000 in
theorem fr_L4_leastWith_70 {k : Nat} {i : Int} {out : Int × Mem} {v1 : Int} {v3 : Int} {k98 : Int → Mem → Option (Int × Mem)} (hk_30 : k ≠ 30) (hk_28 : k ≠ 28) (hk_29 : k ≠ 29) (hk98 : ∀ (v2 : Int) (m : Mem), k98 v2 m = some out → out.2 k i = m k i) : ∀ (n : Nat) (v2 : Int) (v4 : Int) (m : Mem), L4_leastWith_70 v1 v3 k98 n v2 v4 m = some out → out.2 k i = m k i := by
  intro n
  induction n with
  | zero =>
    intro v2 v4 m h
    cases h
  | succ n ih =>
    intro v2 v4 m h
    rw [L4_leastWith_70] at h
    rcases ite_or h with ⟨hc, h⟩ | ⟨hc, h⟩
    · exact (hk98 v2 m h).trans rfl
    obtain ⟨r82, m82, e82, h⟩ := b2_some h
    have f82 : m82 k i = m k i := fr_F4_weighChapter hk_30 hk_28 e82
    obtain ⟨m89, e89, h⟩ := b1_some h
    have f89 : m89 k i = m82 k i := fr_F4_share hk_29 e89
    exact (ih (w32 (v2 + r82)) (w32 (v4 + 4)) m89 h).trans (f89.trans f82)
set_option maxRecDepth 100000 in
set_option maxHeartbeats 4000000 in
theorem fr_L4_leastWith_42 {k : Nat} {i : Int} {out : Int × Mem} {v1 : Int} {k104 : Int → Mem → Option (Int × Mem)} (hk_30 : k ≠ 30) (hk_28 : k ≠ 28) (hk_29 : k ≠ 29) (hk104 : ∀ (v2 : Int) (m : Mem), k104 v2 m = some out → out.2 k i = m k i) : ∀ (n : Nat) (v2 : Int) (v3 : Int) (m : Mem), L4_leastWith_42 v1 k104 n v2 v3 m = some out → out.2 k i = m k i := by
  intro n
  induction n with
  | zero =>
    intro v2 v3 m h
    cases h
  | succ n ih =>
    intro v2 v3 m h
    rw [L4_leastWith_42] at h
    rcases ite_or h with ⟨hc, h⟩ | ⟨hc, h⟩
    · exact (hk104 v2 m h).trans rfl
    obtain ⟨r58, e58, h⟩ := b1_some h
    refine (jn_e h (fun (K : Int → Mem → Option (Int × Mem)) => ∀ (v2_98 : Int) (m_98 : Mem), K v2_98 m_98 = some out → out.2 k i = m_98 k i) (fun v2_98 m_98 h => ?_) (fun K98 J98 h => ?_))
    · exact (ih v2_98 (w32 (v3 + 1)) m_98 h).trans rfl
    rcases ite_or h with ⟨hc, h⟩ | ⟨hc, h⟩
    · refine (fr_L4_leastWith_70 hk_30 hk_28 hk_29 (fun v2_98 m_98 h => ?_) FU v2 0 m h).trans rfl
      exact (J98 v2_98 m_98 h).trans rfl
    exact (J98 v2 m h).trans rfl
set_option maxRecDepth 100000 in
set_option maxHeartbeats 4000000 in
theorem fr_F4_leastWith {k : Nat} {i : Int} {m : Mem}  {v1 : Int} {out : Int × Mem} (hf0_14 : ¬ (k = 14 ∧ i = 0)) (hk_15 : k ≠ 15) (hk_16 : k ≠ 16) (hk_17 : k ≠ 17) (hk_22 : k ≠ 22) (hk_21 : k ≠ 21) (hk_19 : k ≠ 19) (hk_23 : k ≠ 23) (hk_25 : k ≠ 25) (hk_24 : k ≠ 24) (hk_27 : k ≠ 27) (hk_29 : k ≠ 29) (hk_30 : k ≠ 30) (hk_28 : k ≠ 28) (h : F4_leastWith m v1 = some out) : out.2 k i = m k i := by
  unfold F4_leastWith at h
  obtain ⟨m8, e8, h⟩ := b1_some h
  have f8 : m8 k i = m k i := fr_F9_growAsTold hf0_14 hk_15 hk_16 hk_17 hk_22 hk_21 e8
  refine (fr_L4_leastWith_13 hk_19 hk_23 hk_25 hk_24 hk_27 (fun m_30 h => ?_) FU 0 m8 h).trans f8
  obtain ⟨m35, e35, h⟩ := b1_some h
  have f35 : m35 k i = m_30 k i := fr_FJ7_fill_53178 hk_29 e35
  refine (fr_L4_leastWith_42 hk_30 hk_28 hk_29 (fun v2_104 m_104 h => ?_) FU 0 0 m35 h).trans f35
  obtain ⟨g1, h⟩ := gd_some h
  exact (congrArg (fun z : Int × Mem => z.2 k i) (Option.some.inj h)).symm.trans rfl
set_option maxRecDepth 100000 in
set_option maxHeartbeats 4000000 in
theorem fr_F10_few {k : Nat} {i : Int} {m : Mem}  {v1 : Int} {out : Int × Mem} (hf0_14 : ¬ (k = 14 ∧ i = 0)) (hk_15 : k ≠ 15) (hk_16 : k ≠ 16) (hk_17 : k ≠ 17) (hk_22 : k ≠ 22) (hk_21 : k ≠ 21) (hk_19 : k ≠ 19) (hk_23 : k ≠ 23) (hk_25 : k ≠ 25) (hk_24 : k ≠ 24) (hk_27 : k ≠ 27) (hk_29 : k ≠ 29) (hk_30 : k ≠ 30) (hk_28 : k ≠ 28) (h : F10_few m v1 = some out) : out.2 k i = m k i := by
  unfold F10_few at h
  refine (jn_e h (fun (K : Option (Int × Mem)) => K = some out → out.2 k i = m k i) (fun h => ?_) (fun K10 J10 h => ?_))
  · exact (congrArg (fun z : Int × Mem => z.2 k i) (Option.some.inj h)).symm.trans rfl
  rcases ite_or h with ⟨hc, h⟩ | ⟨hc, h⟩
  · exact (J10 h).trans rfl
  rcases ite_or h with ⟨hc, h⟩ | ⟨hc, h⟩
  · obtain ⟨r19, m19, e19, h⟩ := b2_some h
    have f19 : m19 k i = m k i := fr_F4_leastWith hf0_14 hk_15 hk_16 hk_17 hk_22 hk_21 hk_19 hk_23 hk_25 hk_24 hk_27 hk_29 hk_30 hk_28 e19
    exact (congrArg (fun z : Int × Mem => z.2 k i) (Option.some.inj h)).symm.trans f19
  exact (J10 h).trans rfl
set_option maxRecDepth 100000 in
set_option maxHeartbeats 4000000 in
theorem fr_F4_lender {k : Nat} {i : Int} {m : Mem}  {v1 v2 : Int} {out : Int × Mem} (hf0_14 : ¬ (k = 14 ∧ i = 0)) (hk_15 : k ≠ 15) (hk_16 : k ≠ 16) (hk_17 : k ≠ 17) (hk_22 : k ≠ 22) (hk_21 : k ≠ 21) (hk_19 : k ≠ 19) (hk_23 : k ≠ 23) (hk_25 : k ≠ 25) (hk_24 : k ≠ 24) (hk_27 : k ≠ 27) (h : F4_lender m v1 v2 = some out) : out.2 k i = m k i := by
  unfold F4_lender at h
  obtain ⟨m8, e8, h⟩ := b1_some h
  have f8 : m8 k i = m k i := fr_F9_growAsTold hf0_14 hk_15 hk_16 hk_17 hk_22 hk_21 e8
  obtain ⟨m13, e13, h⟩ := b1_some h
  have f13 : m13 k i = m8 k i := fr_F4_fillClause hk_19 hk_23 hk_25 hk_24 hk_27 e13
  obtain ⟨r19, e19, h⟩ := b1_some h
  obtain ⟨r27, e27, h⟩ := b1_some h
  refine (jn_e h (fun (K : Int → Option (Int × Mem)) => ∀ (x38 : Int), K x38 = some out → out.2 k i = m13 k i) (fun x38 h => ?_) (fun K38 J38 h => ?_))
  · rcases ite_or h with ⟨hc, h⟩ | ⟨hc, h⟩
    · exact (congrArg (fun z : Int × Mem => z.2 k i) (Option.some.inj h)).symm.trans rfl
    obtain ⟨r46, e46, h⟩ := b1_some h
    exact (congrArg (fun z : Int × Mem => z.2 k i) (Option.some.inj h)).symm.trans rfl
  rcases ite_or h with ⟨hc, h⟩ | ⟨hc, h⟩
  · exact (J38 0 h).trans (f13.trans f8)
  exact (J38 1 h).trans (f13.trans f8)
set_option maxRecDepth 100000 in
set_option maxHeartbeats 4000000 in
theorem fr_F10_from {k : Nat} {i : Int} {m : Mem}  {v1 v2 : Int} {out : Int × Mem} (hf0_14 : ¬ (k = 14 ∧ i = 0)) (hk_15 : k ≠ 15) (hk_16 : k ≠ 16) (hk_17 : k ≠ 17) (hk_22 : k ≠ 22) (hk_21 : k ≠ 21) (hk_19 : k ≠ 19) (hk_23 : k ≠ 23) (hk_25 : k ≠ 25) (hk_24 : k ≠ 24) (hk_27 : k ≠ 27) (h : F10_from m v1 v2 = some out) : out.2 k i = m k i := by
  unfold F10_from at h
  refine (jn_e h (fun (K : Option (Int × Mem)) => K = some out → out.2 k i = m k i) (fun h => ?_) (fun K18 J18 h => ?_))
  · exact (congrArg (fun z : Int × Mem => z.2 k i) (Option.some.inj h)).symm.trans rfl
  rcases ite_or h with ⟨hc, h⟩ | ⟨hc, h⟩
  · exact (J18 h).trans rfl
  rcases ite_or h with ⟨hc, h⟩ | ⟨hc, h⟩
  · obtain ⟨r28, m28, e28, h⟩ := b2_some h
    have f28 : m28 k i = m k i := fr_F4_lender hf0_14 hk_15 hk_16 hk_17 hk_22 hk_21 hk_19 hk_23 hk_25 hk_24 hk_27 e28
    exact (congrArg (fun z : Int × Mem => z.2 k i) (Option.some.inj h)).symm.trans f28
  exact (J18 h).trans rfl
set_option maxRecDepth 100000 in
set_option maxHeartbeats 4000000 in
theorem fr_L3_involve_22 {k : Nat} {i : Int} {out : Int × Mem} {v2 : Int} {k77 : Int → Mem → Option (Int × Mem)} (hk_52 : k ≠ 52) (hk77 : ∀ (v1 : Int) (m : Mem), k77 v1 m = some out → out.2 k i = m k i) : ∀ (n : Nat) (v1 : Int) (v3 : Int) (m : Mem), L3_involve_22 v2 k77 n v1 v3 m = some out → out.2 k i = m k i := by
  intro n
  induction n with
  | zero =>
    intro v1 v3 m h
    cases h
  | succ n ih =>
    intro v1 v3 m h
    rw [L3_involve_22] at h
    rcases ite_or h with ⟨hc, h⟩ | ⟨hc, h⟩
    · exact (hk77 v1 m h).trans rfl
    obtain ⟨r31, e31, h⟩ := b1_some h
    refine (jn_e h (fun (K : Int → Mem → Option (Int × Mem)) => ∀ (v1_71 : Int) (m_71 : Mem), K v1_71 m_71 = some out → out.2 k i = m_71 k i) (fun v1_71 m_71 h => ?_) (fun K71 J71 h => ?_))
    · exact (ih v1_71 (w32 (v3 + 1)) m_71 h).trans rfl
    rcases ite_or h with ⟨hc, h⟩ | ⟨hc, h⟩
    · exact (J71 v1 m h).trans rfl
    obtain ⟨g1, h⟩ := gd_some h
    obtain ⟨g1, h⟩ := gd_some h
    replace h := stw_e h
    have f48 : (wr m 52 v2 (bor (rd m 52 v2) (shl 1 v3))) k i = m k i := wr_ka hk_52
    generalize wr m 52 v2 (bor (rd m 52 v2) (shl 1 v3)) = m48 at h f48
    obtain ⟨g1, h⟩ := gd_some h
    obtain ⟨g1, h⟩ := gd_some h
    replace h := stw_e h
    have f60 : (wr m48 52 v3 (bor (rd m48 52 v3) (shl 1 v2))) k i = m48 k i := wr_ka hk_52
    generalize wr m48 52 v3 (bor (rd m48 52 v3) (shl 1 v2)) = m60 at h f60
    exact (J71 (bor v1 (bor (shl 1 v2) (shl 1 v3))) m60 h).trans (f60.trans f48)
set_option maxRecDepth 100000 in
set_option maxHeartbeats 4000000 in
theorem fr_L3_involve_12 {k : Nat} {i : Int} {out : Int × Mem} (hk_52 : k ≠ 52) : ∀ (n : Nat) (v1 : Int) (v2 : Int) (m : Mem), L3_involve_12 n v1 v2 m = some out → out.2 k i = m k i := by
  intro n
  induction n with
  | zero =>
    intro v1 v2 m h
    cases h
  | succ n ih =>
    intro v1 v2 m h
    rw [L3_involve_12] at h
    rcases ite_or h with ⟨hc, h⟩ | ⟨hc, h⟩
    · exact (congrArg (fun z : Int × Mem => z.2 k i) (Option.some.inj h)).symm.trans rfl
    refine (fr_L3_involve_22 hk_52 (fun v1_77 m_77 h => ?_) FU v1 (w32 (v2 + 1)) m h).trans rfl
    exact (ih v1_77 (w32 (v2 + 1)) m_77 h).trans rfl
set_option maxRecDepth 100000 in
set_option maxHeartbeats 4000000 in
theorem fr_F3_involve {k : Nat} {i : Int} {m : Mem}  {out : Int × Mem} (hk_52 : k ≠ 52) (h : F3_involve m = some out) : out.2 k i = m k i := by
  unfold F3_involve at h
  obtain ⟨m5, e5, h⟩ := b1_some h
  have f5 : m5 k i = m k i := fr_FJ7_fill_53178 hk_52 e5
  refine (fr_L3_involve_12 hk_52 FU 0 0 m5 h).trans f5
set_option maxRecDepth 100000 in
set_option maxHeartbeats 4000000 in
theorem fr_L3_fewestOut_9 {k : Nat} {i : Int} {out : Int × Mem} {m : Mem} {v1 : Int} : ∀ (n : Nat) (v2 : Int) (v3 : Int), L3_fewestOut_9 m v1 n v2 v3 = some out → out.2 k i = m k i := by
  intro n
  induction n with
  | zero =>
    intro v2 v3 h
    cases h
  | succ n ih =>
    intro v2 v3 h
    rw [L3_fewestOut_9] at h
    rcases ite_or h with ⟨hc, h⟩ | ⟨hc, h⟩
    · exact (congrArg (fun z : Int × Mem => z.2 k i) (Option.some.inj h)).symm.trans rfl
    refine (jn_e h (fun (K : Int → Option (Int × Mem)) => ∀ (x30 : Int), K x30 = some out → out.2 k i = m k i) (fun x30 h => ?_) (fun K30 J30 h => ?_))
    · refine (jn_e h (fun (K : Int → Option (Int × Mem)) => ∀ (v2_55 : Int), K v2_55 = some out → out.2 k i = m k i) (fun v2_55 h => ?_) (fun K55 J55 h => ?_))
      · exact (ih v2_55 (w32 (v3 + 1)) h).trans rfl
      rcases ite_or h with ⟨hc, h⟩ | ⟨hc, h⟩
      · exact (J55 v2 h).trans rfl
      rcases ite_or h with ⟨hc, h⟩ | ⟨hc, h⟩
      · exact (J55 v2 h).trans rfl
      obtain ⟨r47, e47, h⟩ := b1_some h
      rcases ite_or h with ⟨hc, h⟩ | ⟨hc, h⟩
      · exact (J55 v2 h).trans rfl
      exact (J55 v3 h).trans rfl
    rcases ite_or h with ⟨hc, h⟩ | ⟨hc, h⟩
    · exact (J30 0 h).trans rfl
    exact (J30 1 h).trans rfl
set_option maxRecDepth 100000 in
set_option maxHeartbeats 4000000 in
theorem fr_F3_fewestOut {k : Nat} {i : Int} {m : Mem}  {out : Int × Mem} (hk_52 : k ≠ 52) (h : F3_fewestOut m = some out) : out.2 k i = m k i := by
  unfold F3_fewestOut at h
  obtain ⟨r1, m1, e1, h⟩ := b2_some h
  have f1 : m1 k i = m k i := fr_F3_involve hk_52 e1
  refine (fr_L3_fewestOut_9 FU r1 0 h).trans f1
set_option maxRecDepth 100000 in
set_option maxHeartbeats 4000000 in
theorem fr_F10_freed {k : Nat} {i : Int} {m : Mem}  {out : Int × Mem} (hk_52 : k ≠ 52) (h : F10_freed m = some out) : out.2 k i = m k i := by
  unfold F10_freed at h
  obtain ⟨r4, m4, e4, h⟩ := b2_some h
  have f4 : m4 k i = m k i := fr_F3_fewestOut hk_52 e4
  exact (congrArg (fun z : Int × Mem => z.2 k i) (Option.some.inj h)).symm.trans f4
set_option maxRecDepth 100000 in
set_option maxHeartbeats 4000000 in
theorem fr_L2_holdWithout_2 {k : Nat} {i : Int} {out : Int × Mem} {v1 : Int} {k49 : Mem → Option (Int × Mem)} (hk_55 : k ≠ 55) (hk49 : ∀ (m : Mem), k49 m = some out → out.2 k i = m k i) : ∀ (n : Nat) (v2 : Int) (m : Mem), L2_holdWithout_2 v1 k49 n v2 m = some out → out.2 k i = m k i := by
  intro n
  induction n with
  | zero =>
    intro v2 m h
    cases h
  | succ n ih =>
    intro v2 m h
    rw [L2_holdWithout_2] at h
    rcases ite_or h with ⟨hc, h⟩ | ⟨hc, h⟩
    · exact (hk49 m h).trans rfl
    refine (jn_e h (fun (K : Int → Option (Int × Mem)) => ∀ (x42 : Int), K x42 = some out → out.2 k i = m k i) (fun x42 h => ?_) (fun K42 J42 h => ?_))
    · obtain ⟨g1, h⟩ := gd_some h
      replace h := stw_e h
      have f42 : (wr m 55 v2 x42) k i = m k i := wr_ka hk_55
      generalize wr m 55 v2 x42 = m42 at h f42
      exact (ih (w32 (v2 + 1)) m42 h).trans f42
    rcases ite_or h with ⟨hc, h⟩ | ⟨hc, h⟩
    · obtain ⟨g1, h⟩ := gd_some h
      exact (J42 (rd m 7 v2) h).trans rfl
    exact (J42 (-1) h).trans rfl
set_option maxRecDepth 100000 in
set_option maxHeartbeats 4000000 in
theorem fr_F2_holdWithout {k : Nat} {i : Int} {m : Mem}  {v1 : Int} {out : Int × Mem} (hk_55 : k ≠ 55) (hk_61 : k ≠ 61) (hk_58 : k ≠ 58) (h : F2_holdWithout m v1 = some out) : out.2 k i = m k i := by
  unfold F2_holdWithout at h
  refine (fr_L2_holdWithout_2 hk_55 (fun m_49 h => ?_) FU 0 m h).trans rfl
  obtain ⟨r53, m53, e53, h⟩ := b2_some h
  have f53 : m53 k i = m_49 k i := fr_F9_arrange hk_61 e53
  refine (jn_e h (fun (K : Mem → Option (Int × Mem)) => ∀ (m_73 : Mem), K m_73 = some out → out.2 k i = m_73 k i) (fun m_73 h => ?_) (fun K73 J73 h => ?_))
  · exact (congrArg (fun z : Int × Mem => z.2 k i) (Option.some.inj h)).symm.trans rfl
  rcases ite_or h with ⟨hc, h⟩ | ⟨hc, h⟩
  · exact (J73 m53 h).trans f53
  obtain ⟨r63, m63, e63, h⟩ := b2_some h
  have f63 : m63 k i = m53 k i := fr_F9_firstLate hk_58 e63
  rcases ite_or h with ⟨hc, h⟩ | ⟨hc, h⟩
  · exact (J73 m63 h).trans (f63.trans f53)
  exact (congrArg (fun z : Int × Mem => z.2 k i) (Option.some.inj h)).symm.trans (f63.trans f53)
set_option maxRecDepth 100000 in
set_option maxHeartbeats 4000000 in
theorem fr_L2_fewestOut_18 {k : Nat} {i : Int} {out : Int × Mem} {k93 : Int → Mem → Option (Int × Mem)} (hk_56 : k ≠ 56) (hk_57 : k ≠ 57) (hk93 : ∀ (v1 : Int) (m : Mem), k93 v1 m = some out → out.2 k i = m k i) : ∀ (n : Nat) (v1 : Int) (v2 : Int) (m : Mem), L2_fewestOut_18 k93 n v1 v2 m = some out → out.2 k i = m k i := by
  intro n
  induction n with
  | zero =>
    intro v1 v2 m h
    cases h
  | succ n ih =>
    intro v1 v2 m h
    rw [L2_fewestOut_18] at h
    rcases ite_or h with ⟨hc, h⟩ | ⟨hc, h⟩
    · exact (hk93 v1 m h).trans rfl
    obtain ⟨g1, h⟩ := gd_some h
    refine (jn_e h (fun (K : Int → Option (Int × Mem)) => ∀ (x49 : Int), K x49 = some out → out.2 k i = m k i) (fun x49 h => ?_) (fun K49 J49 h => ?_))
    · obtain ⟨g1, h⟩ := gd_some h
      obtain ⟨g1, h⟩ := gd_some h
      replace h := stw_e h
      have f68 : (wr m 56 v2 (rd m 5 v2)) k i = m k i := wr_ka hk_56
      generalize wr m 56 v2 (rd m 5 v2) = m68 at h f68
      obtain ⟨g1, h⟩ := gd_some h
      obtain ⟨g1, h⟩ := gd_some h
      replace h := stw_e h
      have f86 : (wr m68 57 v2 (rd m68 6 v2)) k i = m68 k i := wr_ka hk_57
      generalize wr m68 57 v2 (rd m68 6 v2) = m86 at h f86
      exact (ih (bor v1 x49) (w32 (v2 + 1)) m86 h).trans (f86.trans f68)
    rcases ite_or h with ⟨hc, h⟩ | ⟨hc, h⟩
    · exact (J49 (shl 1 v2) h).trans rfl
    exact (J49 0 h).trans rfl
set_option maxRecDepth 100000 in
set_option maxHeartbeats 4000000 in
theorem fr_L2_fewestOut_97 {k : Nat} {i : Int} {out : Int × Mem} {v1 : Int} (hk_55 : k ≠ 55) (hk_61 : k ≠ 61) (hk_58 : k ≠ 58) : ∀ (n : Nat) (v2 : Int) (v3 : Int) (m : Mem), L2_fewestOut_97 v1 n v2 v3 m = some out → out.2 k i = m k i := by
  intro n
  induction n with
  | zero =>
    intro v2 v3 m h
    cases h
  | succ n ih =>
    intro v2 v3 m h
    rw [L2_fewestOut_97] at h
    rcases ite_or h with ⟨hc, h⟩ | ⟨hc, h⟩
    · exact (congrArg (fun z : Int × Mem => z.2 k i) (Option.some.inj h)).symm.trans rfl
    refine (jn_e h (fun (K : Int → Option (Int × Mem)) => ∀ (x118 : Int), K x118 = some out → out.2 k i = m k i) (fun x118 h => ?_) (fun K118 J118 h => ?_))
    · refine (jn_e h (fun (K : Int → Mem → Option (Int × Mem)) => ∀ (v2_143 : Int) (m_143 : Mem), K v2_143 m_143 = some out → out.2 k i = m_143 k i) (fun v2_143 m_143 h => ?_) (fun K143 J143 h => ?_))
      · exact (ih v2_143 (w32 (v3 + 1)) m_143 h).trans rfl
      rcases ite_or h with ⟨hc, h⟩ | ⟨hc, h⟩
      · exact (J143 v2 m h).trans rfl
      rcases ite_or h with ⟨hc, h⟩ | ⟨hc, h⟩
      · exact (J143 v2 m h).trans rfl
      obtain ⟨r135, m135, e135, h⟩ := b2_some h
      have f135 : m135 k i = m k i := fr_F2_holdWithout hk_55 hk_61 hk_58 e135
      rcases ite_or h with ⟨hc, h⟩ | ⟨hc, h⟩
      · exact (J143 v2 m135 h).trans f135
      exact (J143 v3 m135 h).trans f135
    rcases ite_or h with ⟨hc, h⟩ | ⟨hc, h⟩
    · exact (J118 0 h).trans rfl
    exact (J118 1 h).trans rfl
set_option maxRecDepth 100000 in
set_option maxHeartbeats 4000000 in
theorem fr_F2_fewestOut {k : Nat} {i : Int} {m : Mem}  {out : Int × Mem} (hf0_54 : ¬ (k = 54 ∧ i = 0)) (hk_56 : k ≠ 56) (hk_57 : k ≠ 57) (hk_55 : k ≠ 55) (hk_61 : k ≠ 61) (hk_58 : k ≠ 58) (h : F2_fewestOut m = some out) : out.2 k i = m k i := by
  unfold F2_fewestOut at h
  replace h := stw_e h
  have f13 : (wr m 54 0 (rd m 4 0)) k i = m k i := wr_ki hf0_54
  generalize wr m 54 0 (rd m 4 0) = m13 at h f13
  refine (fr_L2_fewestOut_18 hk_56 hk_57 (fun v1_93 m_93 h => ?_) FU 0 0 m13 h).trans f13
  refine (fr_L2_fewestOut_97 hk_55 hk_61 hk_58 FU v1_93 0 m_93 h).trans rfl
set_option maxRecDepth 100000 in
set_option maxHeartbeats 4000000 in
theorem fr_F10_doubt {k : Nat} {i : Int} {m : Mem}  {v1 : Int} {out : Int × Mem} (hf0_54 : ¬ (k = 54 ∧ i = 0)) (hk_56 : k ≠ 56) (hk_57 : k ≠ 57) (hk_55 : k ≠ 55) (hk_61 : k ≠ 61) (hk_58 : k ≠ 58) (h : F10_doubt m v1 = some out) : out.2 k i = m k i := by
  unfold F10_doubt at h
  rcases ite_or h with ⟨hc, h⟩ | ⟨hc, h⟩
  · exact (congrArg (fun z : Int × Mem => z.2 k i) (Option.some.inj h)).symm.trans rfl
  rcases ite_or h with ⟨hc, h⟩ | ⟨hc, h⟩
  · obtain ⟨r15, m15, e15, h⟩ := b2_some h
    have f15 : m15 k i = m k i := fr_F2_fewestOut hf0_54 hk_56 hk_57 hk_55 hk_61 hk_58 e15
    rcases ite_or h with ⟨hc, h⟩ | ⟨hc, h⟩
    · exact (congrArg (fun z : Int × Mem => z.2 k i) (Option.some.inj h)).symm.trans f15
    exact (congrArg (fun z : Int × Mem => z.2 k i) (Option.some.inj h)).symm.trans f15
  exact (congrArg (fun z : Int × Mem => z.2 k i) (Option.some.inj h)).symm.trans rfl
set_option maxRecDepth 100000 in
set_option maxHeartbeats 4000000 in
theorem fr_F10_law {k : Nat} {i : Int} {m : Mem}  {v1 v2 : Int} {out : Int × Mem} (hf0_14 : ¬ (k = 14 ∧ i = 0)) (hk_15 : k ≠ 15) (hk_16 : k ≠ 16) (hk_17 : k ≠ 17) (hk_22 : k ≠ 22) (hk_21 : k ≠ 21) (hk_19 : k ≠ 19) (hk_23 : k ≠ 23) (hk_25 : k ≠ 25) (hk_24 : k ≠ 24) (h : F10_law m v1 v2 = some out) : out.2 k i = m k i := by
  unfold F10_law at h
  refine (jn_e h (fun (K : Option (Int × Mem)) => K = some out → out.2 k i = m k i) (fun h => ?_) (fun K18 J18 h => ?_))
  · exact (congrArg (fun z : Int × Mem => z.2 k i) (Option.some.inj h)).symm.trans rfl
  rcases ite_or h with ⟨hc, h⟩ | ⟨hc, h⟩
  · exact (J18 h).trans rfl
  rcases ite_or h with ⟨hc, h⟩ | ⟨hc, h⟩
  · obtain ⟨r28, m28, e28, h⟩ := b2_some h
    have f28 : m28 k i = m k i := fr_F4_burntForms hf0_14 hk_15 hk_16 hk_17 hk_22 hk_21 hk_19 hk_23 hk_25 hk_24 e28
    exact (congrArg (fun z : Int × Mem => z.2 k i) (Option.some.inj h)).symm.trans f28
  exact (J18 h).trans rfl
set_option maxRecDepth 100000 in
set_option maxHeartbeats 4000000 in
theorem fr_L4_source_36 {k : Nat} {i : Int} {out : Int × Mem} {m : Mem} {v2 : Int} {v3 : Int} {k70 : Int → Option (Int × Mem)} (hk70 : ∀ (v4 : Int), k70 v4 = some out → out.2 k i = m k i) : ∀ (n : Nat) (v4 : Int) (v5 : Int), L4_source_36 m v2 v3 k70 n v4 v5 = some out → out.2 k i = m k i := by
  intro n
  induction n with
  | zero =>
    intro v4 v5 h
    cases h
  | succ n ih =>
    intro v4 v5 h
    rw [L4_source_36] at h
    rcases ite_or h with ⟨hc, h⟩ | ⟨hc, h⟩
    · exact (congrArg (fun z : Int × Mem => z.2 k i) (Option.some.inj h)).symm.trans rfl
    obtain ⟨r49, e49, h⟩ := b1_some h
    rcases ite_or h with ⟨hc, h⟩ | ⟨hc, h⟩
    · exact (congrArg (fun z : Int × Mem => z.2 k i) (Option.some.inj h)).symm.trans rfl
    obtain ⟨r63, e63, h⟩ := b1_some h
    rcases ite_or h with ⟨hc, h⟩ | ⟨hc, h⟩
    · exact (ih r49 (w32 (v5 + 1)) h).trans rfl
    exact (hk70 v4 h).trans rfl
set_option maxRecDepth 100000 in
set_option maxHeartbeats 4000000 in
theorem fr_F4_source {k : Nat} {i : Int} {m : Mem}  {v1 v2 : Int} {out : Int × Mem} (hf0_14 : ¬ (k = 14 ∧ i = 0)) (hk_15 : k ≠ 15) (hk_16 : k ≠ 16) (hk_17 : k ≠ 17) (hk_22 : k ≠ 22) (hk_21 : k ≠ 21) (hk_19 : k ≠ 19) (hk_23 : k ≠ 23) (hk_25 : k ≠ 25) (hk_24 : k ≠ 24) (hk_27 : k ≠ 27) (h : F4_source m v1 v2 = some out) : out.2 k i = m k i := by
  unfold F4_source at h
  obtain ⟨m8, e8, h⟩ := b1_some h
  have f8 : m8 k i = m k i := fr_F9_growAsTold hf0_14 hk_15 hk_16 hk_17 hk_22 hk_21 e8
  obtain ⟨m13, e13, h⟩ := b1_some h
  have f13 : m13 k i = m8 k i := fr_F4_fillClause hk_19 hk_23 hk_25 hk_24 hk_27 e13
  obtain ⟨r19, e19, h⟩ := b1_some h
  rcases ite_or h with ⟨hc, h⟩ | ⟨hc, h⟩
  · refine (fr_L4_source_36 (fun v4_70 h => ?_) FU v1 0 h).trans (f13.trans f8)
    exact (congrArg (fun z : Int × Mem => z.2 k i) (Option.some.inj h)).symm.trans rfl
  exact (congrArg (fun z : Int × Mem => z.2 k i) (Option.some.inj h)).symm.trans (f13.trans f8)
set_option maxRecDepth 100000 in
set_option maxHeartbeats 4000000 in
theorem fr_F10_cameIn {k : Nat} {i : Int} {m : Mem}  {v1 v2 : Int} {out : Int × Mem} (hf0_14 : ¬ (k = 14 ∧ i = 0)) (hk_15 : k ≠ 15) (hk_16 : k ≠ 16) (hk_17 : k ≠ 17) (hk_22 : k ≠ 22) (hk_21 : k ≠ 21) (hk_19 : k ≠ 19) (hk_23 : k ≠ 23) (hk_25 : k ≠ 25) (hk_24 : k ≠ 24) (hk_27 : k ≠ 27) (h : F10_cameIn m v1 v2 = some out) : out.2 k i = m k i := by
  unfold F10_cameIn at h
  refine (jn_e h (fun (K : Option (Int × Mem)) => K = some out → out.2 k i = m k i) (fun h => ?_) (fun K18 J18 h => ?_))
  · exact (congrArg (fun z : Int × Mem => z.2 k i) (Option.some.inj h)).symm.trans rfl
  rcases ite_or h with ⟨hc, h⟩ | ⟨hc, h⟩
  · exact (J18 h).trans rfl
  rcases ite_or h with ⟨hc, h⟩ | ⟨hc, h⟩
  · obtain ⟨r28, m28, e28, h⟩ := b2_some h
    have f28 : m28 k i = m k i := fr_F4_source hf0_14 hk_15 hk_16 hk_17 hk_22 hk_21 hk_19 hk_23 hk_25 hk_24 hk_27 e28
    exact (congrArg (fun z : Int × Mem => z.2 k i) (Option.some.inj h)).symm.trans f28
  exact (J18 h).trans rfl
set_option maxRecDepth 100000 in
set_option maxHeartbeats 4000000 in
theorem fr_F1_back {k : Nat} {i : Int} {m : Mem}  {out : Int × Mem} (hf10_4 : ¬ (k = 4 ∧ i = 10)) (hf11_4 : ¬ (k = 4 ∧ i = 11)) (hk_9 : k ≠ 9) (hf12_4 : ¬ (k = 4 ∧ i = 12)) (h : F1_back m = some out) : out.2 k i = m k i := by
  unfold F1_back at h
  rcases ite_or h with ⟨hc, h⟩ | ⟨hc, h⟩
  · replace h := stw_e h
    have f17 : (wr m 4 10 (w32 ((rd m 4 10) - 1))) k i = m k i := wr_ki hf10_4
    generalize wr m 4 10 (w32 ((rd m 4 10) - 1)) = m17 at h f17
    replace h := stw_e h
    have f27 : (wr m17 4 11 (w32 ((rd m17 4 11) + 1))) k i = m17 k i := wr_ki hf11_4
    generalize wr m17 4 11 (w32 ((rd m17 4 11) + 1)) = m27 at h f27
    obtain ⟨g1, h⟩ := gd_some h
    obtain ⟨g1, h⟩ := gd_some h
    obtain ⟨g1, h⟩ := gd_some h
    replace h := stw_e h
    have f52 : (wr m27 9 (rd m27 10 (rd m27 4 10)) (rd m27 11 (rd m27 4 10))) k i = m27 k i := wr_ka hk_9
    generalize wr m27 9 (rd m27 10 (rd m27 4 10)) (rd m27 11 (rd m27 4 10)) = m52 at h f52
    replace h := stw_e h
    have f60 : (wr m52 4 12 (w32 ((rd m52 4 12) + 1))) k i = m52 k i := wr_ki hf12_4
    generalize wr m52 4 12 (w32 ((rd m52 4 12) + 1)) = m60 at h f60
    exact (congrArg (fun z : Int × Mem => z.2 k i) (Option.some.inj h)).symm.trans (f60.trans (f52.trans (f27.trans f17)))
  exact (congrArg (fun z : Int × Mem => z.2 k i) (Option.some.inj h)).symm.trans rfl
set_option maxRecDepth 100000 in
set_option maxHeartbeats 4000000 in
theorem fr_F10_undo {k : Nat} {i : Int} {m : Mem}  {out : Int × Mem} (hf10_4 : ¬ (k = 4 ∧ i = 10)) (hf11_4 : ¬ (k = 4 ∧ i = 11)) (hk_9 : k ≠ 9) (hf12_4 : ¬ (k = 4 ∧ i = 12)) (h : F10_undo m = some out) : out.2 k i = m k i := by
  unfold F10_undo at h
  obtain ⟨r4, m4, e4, h⟩ := b2_some h
  have f4 : m4 k i = m k i := fr_F1_back hf10_4 hf11_4 hk_9 hf12_4 e4
  exact (congrArg (fun z : Int × Mem => z.2 k i) (Option.some.inj h)).symm.trans f4
set_option maxRecDepth 100000 in
set_option maxHeartbeats 4000000 in
theorem fr_F1_forth {k : Nat} {i : Int} {m : Mem}  {out : Int × Mem} (hk_9 : k ≠ 9) (hf10_4 : ¬ (k = 4 ∧ i = 10)) (hf11_4 : ¬ (k = 4 ∧ i = 11)) (hf12_4 : ¬ (k = 4 ∧ i = 12)) (h : F1_forth m = some out) : out.2 k i = m k i := by
  unfold F1_forth at h
  rcases ite_or h with ⟨hc, h⟩ | ⟨hc, h⟩
  · exact (congrArg (fun z : Int × Mem => z.2 k i) (Option.some.inj h)).symm.trans rfl
  rcases ite_or h with ⟨hc, h⟩ | ⟨hc, h⟩
  · obtain ⟨g1, h⟩ := gd_some h
    obtain ⟨g1, h⟩ := gd_some h
    obtain ⟨g1, h⟩ := gd_some h
    replace h := stw_e h
    have f41 : (wr m 9 (rd m 10 (rd m 4 10)) (rd m 12 (rd m 4 10))) k i = m k i := wr_ka hk_9
    generalize wr m 9 (rd m 10 (rd m 4 10)) (rd m 12 (rd m 4 10)) = m41 at h f41
    replace h := stw_e h
    have f49 : (wr m41 4 10 (w32 ((rd m41 4 10) + 1))) k i = m41 k i := wr_ki hf10_4
    generalize wr m41 4 10 (w32 ((rd m41 4 10) + 1)) = m49 at h f49
    replace h := stw_e h
    have f59 : (wr m49 4 11 (w32 ((rd m49 4 11) - 1))) k i = m49 k i := wr_ki hf11_4
    generalize wr m49 4 11 (w32 ((rd m49 4 11) - 1)) = m59 at h f59
    replace h := stw_e h
    have f69 : (wr m59 4 12 (w32 ((rd m59 4 12) + 1))) k i = m59 k i := wr_ki hf12_4
    generalize wr m59 4 12 (w32 ((rd m59 4 12) + 1)) = m69 at h f69
    exact (congrArg (fun z : Int × Mem => z.2 k i) (Option.some.inj h)).symm.trans (f69.trans (f59.trans (f49.trans f41)))
  exact (congrArg (fun z : Int × Mem => z.2 k i) (Option.some.inj h)).symm.trans rfl
set_option maxRecDepth 100000 in
set_option maxHeartbeats 4000000 in
theorem fr_F10_redo {k : Nat} {i : Int} {m : Mem}  {out : Int × Mem} (hk_9 : k ≠ 9) (hf10_4 : ¬ (k = 4 ∧ i = 10)) (hf11_4 : ¬ (k = 4 ∧ i = 11)) (hf12_4 : ¬ (k = 4 ∧ i = 12)) (h : F10_redo m = some out) : out.2 k i = m k i := by
  unfold F10_redo at h
  obtain ⟨r4, m4, e4, h⟩ := b2_some h
  have f4 : m4 k i = m k i := fr_F1_forth hk_9 hf10_4 hf11_4 hf12_4 e4
  exact (congrArg (fun z : Int × Mem => z.2 k i) (Option.some.inj h)).symm.trans f4
set_option maxRecDepth 100000 in
set_option maxHeartbeats 4000000 in
theorem fr_F5_add {k : Nat} {i : Int} {m : Mem}  {v1 v2 : Int} {out : Int × Mem} (hk_67 : k ≠ 67) (hk_69 : k ≠ 69) (hf0_66 : ¬ (k = 66 ∧ i = 0)) (h : F5_add m v1 v2 = some out) : out.2 k i = m k i := by
  unfold F5_add at h
  obtain ⟨g1, h⟩ := gd_some h
  replace h := stw_e h
  have f9 : (wr m 67 (rd m 66 0) v1) k i = m k i := wr_ka hk_67
  generalize wr m 67 (rd m 66 0) v1 = m9 at h f9
  obtain ⟨g1, h⟩ := gd_some h
  replace h := stw_e h
  have f19 : (wr m9 69 (rd m9 66 0) v2) k i = m9 k i := wr_ka hk_69
  generalize wr m9 69 (rd m9 66 0) v2 = m19 at h f19
  replace h := stw_e h
  have f27 : (wr m19 66 0 (w32 ((rd m19 66 0) + 1))) k i = m19 k i := wr_ki hf0_66
  generalize wr m19 66 0 (w32 ((rd m19 66 0) + 1)) = m27 at h f27
  exact (congrArg (fun z : Int × Mem => z.2 k i) (Option.some.inj h)).symm.trans (f27.trans (f19.trans f9))
set_option maxRecDepth 100000 in
set_option maxHeartbeats 4000000 in
theorem fr_F10_path {k : Nat} {i : Int} {m : Mem}  {v1 v2 : Int} {out : Int × Mem} (hk_67 : k ≠ 67) (hk_69 : k ≠ 69) (hf0_66 : ¬ (k = 66 ∧ i = 0)) (h : F10_path m v1 v2 = some out) : out.2 k i = m k i := by
  unfold F10_path at h
  rcases ite_or h with ⟨hc, h⟩ | ⟨hc, h⟩
  · exact (congrArg (fun z : Int × Mem => z.2 k i) (Option.some.inj h)).symm.trans rfl
  rcases ite_or h with ⟨hc, h⟩ | ⟨hc, h⟩
  · rcases ite_or h with ⟨hc, h⟩ | ⟨hc, h⟩
    · obtain ⟨r43, m43, e43, h⟩ := b2_some h
      have f43 : m43 k i = m k i := fr_F5_add hk_67 hk_69 hf0_66 e43
      exact (congrArg (fun z : Int × Mem => z.2 k i) (Option.some.inj h)).symm.trans f43
    exact (congrArg (fun z : Int × Mem => z.2 k i) (Option.some.inj h)).symm.trans rfl
  exact (congrArg (fun z : Int × Mem => z.2 k i) (Option.some.inj h)).symm.trans rfl
set_option maxRecDepth 100000 in
set_option maxHeartbeats 4000000 in
theorem fr_F5_began {k : Nat} {i : Int} {m : Mem}  {v1 : Int} {out : Mem} (hf1_66 : ¬ (k = 66 ∧ i = 1)) (hk_68 : k ≠ 68) (h : F5_began m v1 = some out) : out k i = m k i := by
  unfold F5_began at h
  refine (jn_e h (fun (K : Mem → Option Mem) => ∀ (m_19 : Mem), K m_19 = some out → out k i = m_19 k i) (fun m_19 h => ?_) (fun K19 J19 h => ?_))
  · replace h := stw_e h
    have f26 : (wr m_19 66 1 (w32 ((rd m_19 66 1) + 1))) k i = m_19 k i := wr_ki hf1_66
    generalize wr m_19 66 1 (w32 ((rd m_19 66 1) + 1)) = m26 at h f26
    exact (congrArg (fun z : Mem => z k i) (Option.some.inj h)).symm.trans f26
  rcases ite_or h with ⟨hc, h⟩ | ⟨hc, h⟩
  · exact (J19 m h).trans rfl
  obtain ⟨g1, h⟩ := gd_some h
  replace h := stw_e h
  have f18 : (wr m 68 (rd m 66 1) v1) k i = m k i := wr_ka hk_68
  generalize wr m 68 (rd m 66 1) v1 = m18 at h f18
  exact (J19 m18 h).trans f18
set_option maxRecDepth 100000 in
set_option maxHeartbeats 4000000 in
theorem fr_F5_costs {k : Nat} {i : Int} {m : Mem}  {v1 : Int} {out : Int × Mem} (hf1_66 : ¬ (k = 66 ∧ i = 1)) (hk_68 : k ≠ 68) (h : F5_costs m v1 = some out) : out.2 k i = m k i := by
  unfold F5_costs at h
  rcases ite_or h with ⟨hc, h⟩ | ⟨hc, h⟩
  · rcases ite_or h with ⟨hc, h⟩ | ⟨hc, h⟩
    · obtain ⟨m58, e58, h⟩ := b1_some h
      have f58 : m58 k i = m k i := fr_F5_began hf1_66 hk_68 e58
      exact (congrArg (fun z : Int × Mem => z.2 k i) (Option.some.inj h)).symm.trans f58
    obtain ⟨m39, e39, h⟩ := b1_some h
    have f39 : m39 k i = m k i := fr_F5_began hf1_66 hk_68 e39
    obtain ⟨m44, e44, h⟩ := b1_some h
    have f44 : m44 k i = m39 k i := fr_F5_began hf1_66 hk_68 e44
    exact (congrArg (fun z : Int × Mem => z.2 k i) (Option.some.inj h)).symm.trans (f44.trans f39)
  obtain ⟨m11, e11, h⟩ := b1_some h
  have f11 : m11 k i = m k i := fr_F5_began hf1_66 hk_68 e11
  obtain ⟨m16, e16, h⟩ := b1_some h
  have f16 : m16 k i = m11 k i := fr_F5_began hf1_66 hk_68 e16
  exact (congrArg (fun z : Int × Mem => z.2 k i) (Option.some.inj h)).symm.trans (f16.trans f11)
set_option maxRecDepth 100000 in
set_option maxHeartbeats 4000000 in
theorem fr_F5_holds {k : Nat} {i : Int} {m : Mem}  {v1 : Int} {out : Int × Mem} (hf1_66 : ¬ (k = 66 ∧ i = 1)) (hk_68 : k ≠ 68) (h : F5_holds m v1 = some out) : out.2 k i = m k i := by
  unfold F5_holds at h
  rcases ite_or h with ⟨hc, h⟩ | ⟨hc, h⟩
  · refine (jn_e h (fun (K : Mem → Option (Int × Mem)) => ∀ (m_43 : Mem), K m_43 = some out → out.2 k i = m_43 k i) (fun m_43 h => ?_) (fun K43 J43 h => ?_))
    · obtain ⟨r48, e48, h⟩ := b1_some h
      refine (jn_e h (fun (K : Mem → Option (Int × Mem)) => ∀ (m_60 : Mem), K m_60 = some out → out.2 k i = m_60 k i) (fun m_60 h => ?_) (fun K60 J60 h => ?_))
      · obtain ⟨m63, e63, h⟩ := b1_some h
        have f63 : m63 k i = m_60 k i := fr_F5_began hf1_66 hk_68 e63
        obtain ⟨r71, e71, h⟩ := b1_some h
        refine (jn_e h (fun (K : Int → Option (Int × Mem)) => ∀ (x93 : Int), K x93 = some out → out.2 k i = m63 k i) (fun x93 h => ?_) (fun K93 J93 h => ?_))
        · rcases ite_or h with ⟨hc, h⟩ | ⟨hc, h⟩
          · exact (congrArg (fun z : Int × Mem => z.2 k i) (Option.some.inj h)).symm.trans rfl
          obtain ⟨r105, m105, e105, h⟩ := b2_some h
          have f105 : m105 k i = m63 k i := fr_F5_costs hf1_66 hk_68 e105
          exact (congrArg (fun z : Int × Mem => z.2 k i) (Option.some.inj h)).symm.trans f105
        rcases ite_or h with ⟨hc, h⟩ | ⟨hc, h⟩
        · exact (J93 (bxor v1 (rd m63 66 6)) h).trans f63
        exact (J93 (w32 (-(bxor v1 (rd m63 66 6)))) h).trans f63
      rcases ite_or h with ⟨hc, h⟩ | ⟨hc, h⟩
      · exact (J60 m_43 h).trans rfl
      obtain ⟨m57, e57, h⟩ := b1_some h
      have f57 : m57 k i = m_43 k i := fr_F5_began hf1_66 hk_68 e57
      exact (J60 m57 h).trans f57
    rcases ite_or h with ⟨hc, h⟩ | ⟨hc, h⟩
    · exact (J43 m h).trans rfl
    obtain ⟨m40, e40, h⟩ := b1_some h
    have f40 : m40 k i = m k i := fr_F5_began hf1_66 hk_68 e40
    exact (J43 m40 h).trans f40
  obtain ⟨m11, e11, h⟩ := b1_some h
  have f11 : m11 k i = m k i := fr_F5_began hf1_66 hk_68 e11
  obtain ⟨m17, e17, h⟩ := b1_some h
  have f17 : m17 k i = m11 k i := fr_F5_began hf1_66 hk_68 e17
  exact (congrArg (fun z : Int × Mem => z.2 k i) (Option.some.inj h)).symm.trans (f17.trans f11)
set_option maxRecDepth 100000 in
set_option maxHeartbeats 4000000 in
theorem fr_F5_lets {k : Nat} {i : Int} {m : Mem}  {v1 : Int} {out : Int × Mem} (hf1_66 : ¬ (k = 66 ∧ i = 1)) (hk_68 : k ≠ 68) (h : F5_lets m v1 = some out) : out.2 k i = m k i := by
  unfold F5_lets at h
  refine (jn_e h (fun (K : Mem → Option (Int × Mem)) => ∀ (m_15 : Mem), K m_15 = some out → out.2 k i = m_15 k i) (fun m_15 h => ?_) (fun K15 J15 h => ?_))
  · obtain ⟨r20, e20, h⟩ := b1_some h
    refine (jn_e h (fun (K : Mem → Option (Int × Mem)) => ∀ (m_32 : Mem), K m_32 = some out → out.2 k i = m_32 k i) (fun m_32 h => ?_) (fun K32 J32 h => ?_))
    · obtain ⟨m35, e35, h⟩ := b1_some h
      have f35 : m35 k i = m_32 k i := fr_F5_began hf1_66 hk_68 e35
      obtain ⟨r40, m40, e40, h⟩ := b2_some h
      have f40 : m40 k i = m35 k i := fr_F5_costs hf1_66 hk_68 e40
      obtain ⟨r51, e51, h⟩ := b1_some h
      refine (jn_e h (fun (K : Int → Option (Int × Mem)) => ∀ (v2_64 : Int), K v2_64 = some out → out.2 k i = m40 k i) (fun v2_64 h => ?_) (fun K64 J64 h => ?_))
      · rcases ite_or h with ⟨hc, h⟩ | ⟨hc, h⟩
        · exact (congrArg (fun z : Int × Mem => z.2 k i) (Option.some.inj h)).symm.trans rfl
        obtain ⟨r76, m76, e76, h⟩ := b2_some h
        have f76 : m76 k i = m40 k i := fr_F5_holds hf1_66 hk_68 e76
        exact (congrArg (fun z : Int × Mem => z.2 k i) (Option.some.inj h)).symm.trans f76
      rcases ite_or h with ⟨hc, h⟩ | ⟨hc, h⟩
      · exact (J64 (w32 (r40 * 2)) h).trans (f40.trans f35)
      exact (J64 (w32 ((w32 (r40 * 2)) + (rd m40 66 7))) h).trans (f40.trans f35)
    rcases ite_or h with ⟨hc, h⟩ | ⟨hc, h⟩
    · exact (J32 m_15 h).trans rfl
    obtain ⟨m29, e29, h⟩ := b1_some h
    have f29 : m29 k i = m_15 k i := fr_F5_began hf1_66 hk_68 e29
    exact (J32 m29 h).trans f29
  rcases ite_or h with ⟨hc, h⟩ | ⟨hc, h⟩
  · exact (J15 m h).trans rfl
  obtain ⟨m12, e12, h⟩ := b1_some h
  have f12 : m12 k i = m k i := fr_F5_began hf1_66 hk_68 e12
  exact (J15 m12 h).trans f12
set_option maxRecDepth 100000 in
set_option maxHeartbeats 4000000 in
theorem fr_F5_tells {k : Nat} {i : Int} {m : Mem}  {v1 : Int} {out : Int × Mem} (hf1_66 : ¬ (k = 66 ∧ i = 1)) (hk_68 : k ≠ 68) (h : F5_tells m v1 = some out) : out.2 k i = m k i := by
  unfold F5_tells at h
  refine (jn_e h (fun (K : Mem → Option (Int × Mem)) => ∀ (m_14 : Mem), K m_14 = some out → out.2 k i = m_14 k i) (fun m_14 h => ?_) (fun K14 J14 h => ?_))
  · obtain ⟨m16, e16, h⟩ := b1_some h
    have f16 : m16 k i = m_14 k i := fr_F5_began hf1_66 hk_68 e16
    obtain ⟨r21, m21, e21, h⟩ := b2_some h
    have f21 : m21 k i = m16 k i := fr_F5_lets hf1_66 hk_68 e21
    obtain ⟨r28, m28, e28, h⟩ := b2_some h
    have f28 : m28 k i = m21 k i := fr_F5_holds hf1_66 hk_68 e28
    rcases ite_or h with ⟨hc, h⟩ | ⟨hc, h⟩
    · exact (congrArg (fun z : Int × Mem => z.2 k i) (Option.some.inj h)).symm.trans (f28.trans (f21.trans f16))
    exact (congrArg (fun z : Int × Mem => z.2 k i) (Option.some.inj h)).symm.trans (f28.trans (f21.trans f16))
  rcases ite_or h with ⟨hc, h⟩ | ⟨hc, h⟩
  · exact (J14 m h).trans rfl
  obtain ⟨m11, e11, h⟩ := b1_some h
  have f11 : m11 k i = m k i := fr_F5_began hf1_66 hk_68 e11
  exact (J14 m11 h).trans f11
set_option maxRecDepth 100000 in
set_option maxHeartbeats 4000000 in
theorem fr_F5_perform {k : Nat} {i : Int} {m : Mem}  {v1 v2 v3 : Int} {out : Int × Mem} (hf5_66 : ¬ (k = 66 ∧ i = 5)) (hf6_66 : ¬ (k = 66 ∧ i = 6)) (hf7_66 : ¬ (k = 66 ∧ i = 7)) (hf1_66 : ¬ (k = 66 ∧ i = 1)) (hk_68 : k ≠ 68) (h : F5_perform m v1 v2 v3 = some out) : out.2 k i = m k i := by
  unfold F5_perform at h
  obtain ⟨g1, h⟩ := gd_some h
  replace h := stw_e h
  have f7 : (wr m 66 5 (rd m 67 v1)) k i = m k i := wr_ki hf5_66
  generalize wr m 66 5 (rd m 67 v1) = m7 at h f7
  replace h := stw_e h
  have f12 : (wr m7 66 6 v1) k i = m7 k i := wr_ki hf6_66
  generalize wr m7 66 6 v1 = m12 at h f12
  obtain ⟨g1, h⟩ := gd_some h
  replace h := stw_e h
  have f22 : (wr m12 66 7 (rd m12 69 v1)) k i = m12 k i := wr_ki hf7_66
  generalize wr m12 66 7 (rd m12 69 v1) = m22 at h f22
  rcases ite_or h with ⟨hc, h⟩ | ⟨hc, h⟩
  · obtain ⟨r58, m58, e58, h⟩ := b2_some h
    have f58 : m58 k i = m22 k i := fr_F5_costs hf1_66 hk_68 e58
    exact (congrArg (fun z : Int × Mem => z.2 k i) (Option.some.inj h)).symm.trans (f58.trans (f22.trans (f12.trans f7)))
  rcases ite_or h with ⟨hc, h⟩ | ⟨hc, h⟩
  · obtain ⟨r64, m64, e64, h⟩ := b2_some h
    have f64 : m64 k i = m22 k i := fr_F5_lets hf1_66 hk_68 e64
    exact (congrArg (fun z : Int × Mem => z.2 k i) (Option.some.inj h)).symm.trans (f64.trans (f22.trans (f12.trans f7)))
  rcases ite_or h with ⟨hc, h⟩ | ⟨hc, h⟩
  · obtain ⟨r70, m70, e70, h⟩ := b2_some h
    have f70 : m70 k i = m22 k i := fr_F5_holds hf1_66 hk_68 e70
    exact (congrArg (fun z : Int × Mem => z.2 k i) (Option.some.inj h)).symm.trans (f70.trans (f22.trans (f12.trans f7)))
  rcases ite_or h with ⟨hc, h⟩ | ⟨hc, h⟩
  · obtain ⟨r76, m76, e76, h⟩ := b2_some h
    have f76 : m76 k i = m22 k i := fr_F5_tells hf1_66 hk_68 e76
    exact (congrArg (fun z : Int × Mem => z.2 k i) (Option.some.inj h)).symm.trans (f76.trans (f22.trans (f12.trans f7)))
  exact (congrArg (fun z : Int × Mem => z.2 k i) (Option.some.inj h)).symm.trans (f22.trans (f12.trans f7))
set_option maxRecDepth 100000 in
set_option maxHeartbeats 4000000 in
theorem fr_F10_act {k : Nat} {i : Int} {m : Mem}  {v1 v2 v3 : Int} {out : Int × Mem} (hf1_66 : ¬ (k = 66 ∧ i = 1)) (hf5_66 : ¬ (k = 66 ∧ i = 5)) (hf6_66 : ¬ (k = 66 ∧ i = 6)) (hf7_66 : ¬ (k = 66 ∧ i = 7)) (hk_68 : k ≠ 68) (h : F10_act m v1 v2 v3 = some out) : out.2 k i = m k i := by
  unfold F10_act at h
  replace h := stw_e h
  have f5 : (wr m 66 1 0) k i = m k i := wr_ki hf1_66
  generalize wr m 66 1 0 = m5 at h f5
  rcases ite_or h with ⟨hc, h⟩ | ⟨hc, h⟩
  · exact (congrArg (fun z : Int × Mem => z.2 k i) (Option.some.inj h)).symm.trans f5
  obtain ⟨r26, m26, e26, h⟩ := b2_some h
  have f26 : m26 k i = m5 k i := fr_F5_perform hf5_66 hf6_66 hf7_66 hf1_66 hk_68 e26
  exact (congrArg (fun z : Int × Mem => z.2 k i) (Option.some.inj h)).symm.trans (f26.trans f5)
set_option maxRecDepth 100000 in
set_option maxHeartbeats 4000000 in
theorem fr_F6_keepPath {k : Nat} {i : Int} {m : Mem} {o : Nat} {v1 : Int} {out : Mem} (hf0_o : ¬ (k = o ∧ i = 0)) (hf1_o : ¬ (k = o ∧ i = 1)) (h : F6_keepPath m o v1 = some out) : out k i = m k i := by
  unfold F6_keepPath at h
  refine (jn_e h (fun (K : Int → Option Mem) => ∀ (x10 : Int), K x10 = some out → out k i = m k i) (fun x10 h => ?_) (fun K10 J10 h => ?_))
  · replace h := stw_e h
    have f10 : (wr m o 0 x10) k i = m k i := wr_ki hf0_o
    generalize wr m o 0 x10 = m10 at h f10
    replace h := stw_e h
    have f15 : (wr m10 o 1 v1) k i = m10 k i := wr_ki hf1_o
    generalize wr m10 o 1 v1 = m15 at h f15
    exact (congrArg (fun z : Mem => z k i) (Option.some.inj h)).symm.trans (f15.trans f10)
  rcases ite_or h with ⟨hc, h⟩ | ⟨hc, h⟩
  · exact (J10 1 h).trans rfl
  exact (J10 0 h).trans rfl
set_option maxRecDepth 100000 in
set_option maxHeartbeats 4000000 in
theorem fr_LJ7_fill_d0a16_6 {k : Nat} {i : Int} {out : Mem} {a0 : Nat} {len : Nat} {v1 : Int} {v4 : Int} (hk_a0 : k ≠ a0) : ∀ (n : Nat) (v3 : Int) (m : Mem), LJ7_fill_d0a16_6 a0 len v1 v4 n v3 m = some out → out k i = m k i := by
  intro n
  induction n with
  | zero =>
    intro v3 m h
    cases h
  | succ n ih =>
    intro v3 m h
    rw [LJ7_fill_d0a16_6] at h
    rcases ite_or h with ⟨hc, h⟩ | ⟨hc, h⟩
    · exact (congrArg (fun z : Mem => z k i) (Option.some.inj h)).symm.trans rfl
    obtain ⟨g1, h⟩ := gd_some h
    replace h := stw_e h
    have f15 : (wr m a0 v3 v1) k i = m k i := wr_ka hk_a0
    generalize wr m a0 v3 v1 = m15 at h f15
    exact (ih (w32 (v3 + 1)) m15 h).trans f15
set_option maxRecDepth 100000 in
set_option maxHeartbeats 4000000 in
theorem fr_FJ7_fill_d0a16 {k : Nat} {i : Int} {m : Mem} {a0 : Nat} {len : Nat} {v1 : Int} {out : Mem} (hk_a0 : k ≠ a0) (h : FJ7_fill_d0a16 m a0 len v1 = some out) : out k i = m k i := by
  unfold FJ7_fill_d0a16 at h
  refine (fr_LJ7_fill_d0a16_6 hk_a0 FU 0 m h).trans rfl
set_option maxRecDepth 100000 in
set_option maxHeartbeats 4000000 in
theorem fr_F6_keepRow {k : Nat} {i : Int} {m : Mem} {o : Nat} {v1 v2 : Int} {out : Mem} (hf0_o : ¬ (k = o ∧ i = 0)) (hf2_o : ¬ (k = o ∧ i = 2)) (hf3_o : ¬ (k = o ∧ i = 3)) (hk_o_1 : k ≠ o + 1) (h : F6_keepRow m o v1 v2 = some out) : out k i = m k i := by
  unfold F6_keepRow at h
  replace h := stw_e h
  have f2 : (wr m o 0 2) k i = m k i := wr_ki hf0_o
  generalize wr m o 0 2 = m2 at h f2
  replace h := stw_e h
  have f7 : (wr m2 o 2 v1) k i = m2 k i := wr_ki hf2_o
  generalize wr m2 o 2 v1 = m7 at h f7
  replace h := stw_e h
  have f12 : (wr m7 o 3 v2) k i = m7 k i := wr_ki hf3_o
  generalize wr m7 o 3 v2 = m12 at h f12
  obtain ⟨m20, e20, h⟩ := b1_some h
  have f20 : m20 k i = m12 k i := fr_FJ7_fill_d0a16 hk_o_1 e20
  exact (congrArg (fun z : Mem => z k i) (Option.some.inj h)).symm.trans (f20.trans (f12.trans (f7.trans f2)))
set_option maxRecDepth 100000 in
set_option maxHeartbeats 4000000 in
theorem fr_L11_feed_27 {k : Nat} {i : Int} {out : Int × Mem} {v1 : Int} {v2 : Int} {k64 : Mem → Option (Int × Mem)} (hk_91 : k ≠ 91) (hf10_83 : ¬ (k = 83 ∧ i = 10)) (hk64 : ∀ (m : Mem), k64 m = some out → out.2 k i = m k i) : ∀ (n : Nat) (v3 : Int) (m : Mem), L11_feed_27 v1 v2 k64 n v3 m = some out → out.2 k i = m k i := by
  intro n
  induction n with
  | zero =>
    intro v3 m h
    cases h
  | succ n ih =>
    intro v3 m h
    rw [L11_feed_27] at h
    rcases ite_or h with ⟨hc, h⟩ | ⟨hc, h⟩
    · exact (hk64 m h).trans rfl
    obtain ⟨g1, h⟩ := gd_some h
    replace h := stw_e h
    have f47 : (wr m 91 (rd m 83 10) (i8 (i8 (shr v2 (w32 (8 * v3)))))) k i = m k i := wr_ka hk_91
    generalize wr m 91 (rd m 83 10) (i8 (i8 (shr v2 (w32 (8 * v3))))) = m47 at h f47
    replace h := stw_e h
    have f55 : (wr m47 83 10 (w32 ((rd m47 83 10) + 1))) k i = m47 k i := wr_ki hf10_83
    generalize wr m47 83 10 (w32 ((rd m47 83 10) + 1)) = m55 at h f55
    exact (ih (w32 (v3 + 1)) m55 h).trans (f55.trans f47)
set_option maxRecDepth 100000 in
set_option maxHeartbeats 4000000 in
theorem fr_F11_feed {k : Nat} {i : Int} {m : Mem}  {v1 v2 : Int} {out : Int × Mem} (hk_91 : k ≠ 91) (hf10_83 : ¬ (k = 83 ∧ i = 10)) (h : F11_feed m v1 v2 = some out) : out.2 k i = m k i := by
  unfold F11_feed at h
  rcases ite_or h with ⟨hc, h⟩ | ⟨hc, h⟩
  · rcases ite_or h with ⟨hc, h⟩ | ⟨hc, h⟩
    · refine (fr_L11_feed_27 hk_91 hf10_83 (fun m_64 h => ?_) FU 0 m h).trans rfl
      exact (congrArg (fun z : Int × Mem => z.2 k i) (Option.some.inj h)).symm.trans rfl
    exact (congrArg (fun z : Int × Mem => z.2 k i) (Option.some.inj h)).symm.trans rfl
  exact (congrArg (fun z : Int × Mem => z.2 k i) (Option.some.inj h)).symm.trans rfl
set_option maxRecDepth 100000 in
set_option maxHeartbeats 4000000 in
theorem fr_F11_wrong {k : Nat} {i : Int} {m : Mem}  {v1 : Int} {out : Mem} (hf12_83 : ¬ (k = 83 ∧ i = 12)) (h : F11_wrong m v1 = some out) : out k i = m k i := by
  unfold F11_wrong at h
  rcases ite_or h with ⟨hc, h⟩ | ⟨hc, h⟩
  · exact (congrArg (fun z : Mem => z k i) (Option.some.inj h)).symm.trans rfl
  replace h := stw_e h
  have f9 : (wr m 83 12 v1) k i = m k i := wr_ki hf12_83
  generalize wr m 83 12 v1 = m9 at h f9
  exact (congrArg (fun z : Mem => z k i) (Option.some.inj h)).symm.trans f9
set_option maxRecDepth 100000 in
set_option maxHeartbeats 4000000 in
theorem fr_L11_number_4 {k : Nat} {i : Int} {out : Int × Mem} {v1 : Int} {k52 : Int → Int → Mem → Option (Int × Mem)} (hf11_83 : ¬ (k = 83 ∧ i = 11)) (hk52 : ∀ (v2 : Int) (v3 : Int) (m : Mem), k52 v2 v3 m = some out → out.2 k i = m k i) : ∀ (n : Nat) (v2 : Int) (v3 : Int) (m : Mem), L11_number_4 v1 k52 n v2 v3 m = some out → out.2 k i = m k i := by
  intro n
  induction n with
  | zero =>
    intro v2 v3 m h
    cases h
  | succ n ih =>
    intro v2 v3 m h
    rw [L11_number_4] at h
    rcases ite_or h with ⟨hc, h⟩ | ⟨hc, h⟩
    · exact (hk52 v2 v3 m h).trans rfl
    obtain ⟨r10, e10, h⟩ := b1_some h
    rcases ite_or h with ⟨hc, h⟩ | ⟨hc, h⟩
    · exact (hk52 v2 v3 m h).trans rfl
    obtain ⟨r28, e28, h⟩ := b1_some h
    replace h := stw_e h
    have f46 : (wr m 83 11 (w32 ((rd m 83 11) + 1))) k i = m k i := wr_ki hf11_83
    generalize wr m 83 11 (w32 ((rd m 83 11) + 1)) = m46 at h f46
    exact (ih (w32 ((w32 ((w32 (10 * v2)) + r28)) - 48)) (w32 (v3 + 1)) m46 h).trans f46
set_option maxRecDepth 100000 in
set_option maxHeartbeats 4000000 in
theorem fr_F11_number {k : Nat} {i : Int} {m : Mem}  {v1 : Int} {out : Int × Mem} (hf11_83 : ¬ (k = 83 ∧ i = 11)) (hf12_83 : ¬ (k = 83 ∧ i = 12)) (h : F11_number m v1 = some out) : out.2 k i = m k i := by
  unfold F11_number at h
  refine (fr_L11_number_4 hf11_83 (fun v2_52 v3_52 m_52 h => ?_) FU 0 0 m h).trans rfl
  rcases ite_or h with ⟨hc, h⟩ | ⟨hc, h⟩
  · exact (congrArg (fun z : Int × Mem => z.2 k i) (Option.some.inj h)).symm.trans rfl
  obtain ⟨m61, e61, h⟩ := b1_some h
  have f61 : m61 k i = m_52 k i := fr_F11_wrong hf12_83 e61
  exact (congrArg (fun z : Int × Mem => z.2 k i) (Option.some.inj h)).symm.trans f61
set_option maxRecDepth 100000 in
set_option maxHeartbeats 4000000 in
theorem fr_F11_isNext {k : Nat} {i : Int} {m : Mem}  {v1 : Int} {out : Int × Mem} (hf11_83 : ¬ (k = 83 ∧ i = 11)) (h : F11_isNext m v1 = some out) : out.2 k i = m k i := by
  unfold F11_isNext at h
  obtain ⟨r1, e1, h⟩ := b1_some h
  rcases ite_or h with ⟨hc, h⟩ | ⟨hc, h⟩
  · replace h := stw_e h
    have f17 : (wr m 83 11 (w32 ((rd m 83 11) + 1))) k i = m k i := wr_ki hf11_83
    generalize wr m 83 11 (w32 ((rd m 83 11) + 1)) = m17 at h f17
    exact (congrArg (fun z : Int × Mem => z.2 k i) (Option.some.inj h)).symm.trans f17
  exact (congrArg (fun z : Int × Mem => z.2 k i) (Option.some.inj h)).symm.trans rfl
set_option maxRecDepth 100000 in
set_option maxHeartbeats 4000000 in
theorem fr_L11_clear_39 {k : Nat} {i : Int} {out : Mem} {v1 : Int} (hk_89 : k ≠ 89) : ∀ (n : Nat) (v2 : Int) (m : Mem), L11_clear_39 v1 n v2 m = some out → out k i = m k i := by
  intro n
  induction n with
  | zero =>
    intro v2 m h
    cases h
  | succ n ih =>
    intro v2 m h
    rw [L11_clear_39] at h
    rcases ite_or h with ⟨hc, h⟩ | ⟨hc, h⟩
    · exact (congrArg (fun z : Mem => z k i) (Option.some.inj h)).symm.trans rfl
    obtain ⟨g1, h⟩ := gd_some h
    replace h := stw_e h
    have f57 : (wr m 89 (w32 ((w32 (16 * v1)) + v2)) 9) k i = m k i := wr_ka hk_89
    generalize wr m 89 (w32 ((w32 (16 * v1)) + v2)) 9 = m57 at h f57
    exact (ih (w32 (v2 + 1)) m57 h).trans f57
set_option maxRecDepth 100000 in
set_option maxHeartbeats 4000000 in
theorem fr_F11_clear {k : Nat} {i : Int} {m : Mem}  {v1 : Int} {out : Mem} (hk_84 : k ≠ 84) (hk_85 : k ≠ 85) (hk_86 : k ≠ 86) (hk_87 : k ≠ 87) (hk_88 : k ≠ 88) (hk_89 : k ≠ 89) (h : F11_clear m v1 = some out) : out k i = m k i := by
  unfold F11_clear at h
  obtain ⟨g1, h⟩ := gd_some h
  replace h := stw_e h
  have f6 : (wr m 84 v1 0) k i = m k i := wr_ka hk_84
  generalize wr m 84 v1 0 = m6 at h f6
  obtain ⟨g1, h⟩ := gd_some h
  replace h := stw_e h
  have f15 : (wr m6 85 v1 999) k i = m6 k i := wr_ka hk_85
  generalize wr m6 85 v1 999 = m15 at h f15
  obtain ⟨g1, h⟩ := gd_some h
  replace h := stw_e h
  have f22 : (wr m15 86 v1 (-1)) k i = m15 k i := wr_ka hk_86
  generalize wr m15 86 v1 (-1) = m22 at h f22
  obtain ⟨g1, h⟩ := gd_some h
  replace h := stw_e h
  have f29 : (wr m22 87 v1 0) k i = m22 k i := wr_ka hk_87
  generalize wr m22 87 v1 0 = m29 at h f29
  obtain ⟨g1, h⟩ := gd_some h
  replace h := stw_e h
  have f36 : (wr m29 88 v1 (-1)) k i = m29 k i := wr_ka hk_88
  generalize wr m29 88 v1 (-1) = m36 at h f36
  refine (fr_L11_clear_39 hk_89 FU 0 m36 h).trans (f36.trans (f29.trans (f22.trans (f15.trans f6))))
set_option maxRecDepth 100000 in
set_option maxHeartbeats 4000000 in
theorem fr_F11_readClause {k : Nat} {i : Int} {m : Mem}  {v1 v2 : Int} {out : Int × Mem} (hf12_83 : ¬ (k = 83 ∧ i = 12)) (hf11_83 : ¬ (k = 83 ∧ i = 11)) (hk_89 : k ≠ 89) (h : F11_readClause m v1 v2 = some out) : out.2 k i = m k i := by
  unfold F11_readClause at h
  obtain ⟨r1, e1, h⟩ := b1_some h
  refine (jn_e h (fun (K : Option (Int × Mem)) => K = some out → out.2 k i = m k i) (fun h => ?_) (fun K24 J24 h => ?_))
  · obtain ⟨m29, e29, h⟩ := b1_some h
    have f29 : m29 k i = m k i := fr_F11_wrong hf12_83 e29
    exact (congrArg (fun z : Int × Mem => z.2 k i) (Option.some.inj h)).symm.trans f29
  rcases ite_or h with ⟨hc, h⟩ | ⟨hc, h⟩
  · exact (J24 h).trans rfl
  rcases ite_or h with ⟨hc, h⟩ | ⟨hc, h⟩
  · replace h := stw_e h
    have f41 : (wr m 83 11 (w32 ((rd m 83 11) + 1))) k i = m k i := wr_ki hf11_83
    generalize wr m 83 11 (w32 ((rd m 83 11) + 1)) = m41 at h f41
    obtain ⟨r45, e45, h⟩ := b1_some h
    refine (jn_e h (fun (K : Int → Option (Int × Mem)) => ∀ (x65 : Int), K x65 = some out → out.2 k i = m41 k i) (fun x65 h => ?_) (fun K65 J65 h => ?_))
    · refine (jn_e h (fun (K : Option (Int × Mem)) => K = some out → out.2 k i = m41 k i) (fun h => ?_) (fun K84 J84 h => ?_))
      · obtain ⟨m89, e89, h⟩ := b1_some h
        have f89 : m89 k i = m41 k i := fr_F11_wrong hf12_83 e89
        exact (congrArg (fun z : Int × Mem => z.2 k i) (Option.some.inj h)).symm.trans f89
      rcases ite_or h with ⟨hc, h⟩ | ⟨hc, h⟩
      · exact (J84 h).trans rfl
      obtain ⟨r76, e76, h⟩ := b1_some h
      rcases ite_or h with ⟨hc, h⟩ | ⟨hc, h⟩
      · obtain ⟨g1, h⟩ := gd_some h
        replace h := stw_e h
        have f106 : (wr m41 89 (w32 ((w32 (16 * v1)) + (w32 (r1 - 97)))) x65) k i = m41 k i := wr_ka hk_89
        generalize wr m41 89 (w32 ((w32 (16 * v1)) + (w32 (r1 - 97)))) x65 = m106 at h f106
        replace h := stw_e h
        have f114 : (wr m106 83 11 (w32 ((rd m106 83 11) + 1))) k i = m106 k i := wr_ki hf11_83
        generalize wr m106 83 11 (w32 ((rd m106 83 11) + 1)) = m114 at h f114
        exact (congrArg (fun z : Int × Mem => z.2 k i) (Option.some.inj h)).symm.trans (f114.trans f106)
      exact (J84 h).trans rfl
    rcases ite_or h with ⟨hc, h⟩ | ⟨hc, h⟩
    · obtain ⟨r59, e59, h⟩ := b1_some h
      exact (J65 (w32 (r59 - 48)) h).trans f41
    exact (J65 9 h).trans f41
  exact (J24 h).trans rfl
set_option maxRecDepth 100000 in
set_option maxHeartbeats 4000000 in
theorem fr_L11_readAll_84 {k : Nat} {i : Int} {out : Mem} {v1 : Int} {k110 : Mem → Option Mem} (hf11_83 : ¬ (k = 83 ∧ i = 11)) (hf12_83 : ¬ (k = 83 ∧ i = 12)) (hk_89 : k ≠ 89) (hk110 : ∀ (m : Mem), k110 m = some out → out k i = m k i) : ∀ (n : Nat) (v2 : Int) (m : Mem), L11_readAll_84 v1 k110 n v2 m = some out → out k i = m k i := by
  intro n
  induction n with
  | zero =>
    intro v2 m h
    cases h
  | succ n ih =>
    intro v2 m h
    rw [L11_readAll_84] at h
    rcases ite_or h with ⟨hc, h⟩ | ⟨hc, h⟩
    · exact (hk110 m h).trans rfl
    obtain ⟨r94, m94, e94, h⟩ := b2_some h
    have f94 : m94 k i = m k i := fr_F11_isNext hf11_83 e94
    rcases ite_or h with ⟨hc, h⟩ | ⟨hc, h⟩
    · exact (hk110 m94 h).trans f94
    obtain ⟨r103, m103, e103, h⟩ := b2_some h
    have f103 : m103 k i = m94 k i := fr_F11_readClause hf12_83 hf11_83 hk_89 e103
    exact (ih r103 m103 h).trans (f103.trans f94)
set_option maxRecDepth 100000 in
set_option maxHeartbeats 4000000 in
theorem fr_F11_readAll {k : Nat} {i : Int} {m : Mem}  {v1 : Int} {out : Mem} (hf11_83 : ¬ (k = 83 ∧ i = 11)) (hf12_83 : ¬ (k = 83 ∧ i = 12)) (hk_84 : k ≠ 84) (hk_85 : k ≠ 85) (hk_89 : k ≠ 89) (hk_86 : k ≠ 86) (h : F11_readAll m v1 = some out) : out k i = m k i := by
  unfold F11_readAll at h
  obtain ⟨r7, m7, e7, h⟩ := b2_some h
  have f7 : m7 k i = m k i := fr_F11_number hf11_83 hf12_83 e7
  obtain ⟨g1, h⟩ := gd_some h
  replace h := stw_e h
  have f10 : (wr m7 84 v1 r7) k i = m7 k i := wr_ka hk_84
  generalize wr m7 84 v1 r7 = m10 at h f10
  obtain ⟨g1, h⟩ := gd_some h
  obtain ⟨g1, h⟩ := gd_some h
  replace h := stw_e h
  have f22 : (wr m10 85 v1 (rd m10 84 v1)) k i = m10 k i := wr_ka hk_85
  generalize wr m10 85 v1 (rd m10 84 v1) = m22 at h f22
  refine (jn_e h (fun (K : Mem → Option Mem) => ∀ (m_82 : Mem), K m_82 = some out → out k i = m_82 k i) (fun m_82 h => ?_) (fun K82 J82 h => ?_))
  · refine (fr_L11_readAll_84 hf11_83 hf12_83 hk_89 (fun m_110 h => ?_) FU 0 m_82 h).trans rfl
    refine (jn_e h (fun (K : Mem → Option Mem) => ∀ (m_164 : Mem), K m_164 = some out → out k i = m_164 k i) (fun m_164 h => ?_) (fun K164 J164 h => ?_))
    · rcases ite_or h with ⟨hc, h⟩ | ⟨hc, h⟩
      · exact (congrArg (fun z : Mem => z k i) (Option.some.inj h)).symm.trans rfl
      rcases ite_or h with ⟨hc, h⟩ | ⟨hc, h⟩
      · exact (congrArg (fun z : Mem => z k i) (Option.some.inj h)).symm.trans rfl
      obtain ⟨m187, e187, h⟩ := b1_some h
      have f187 : m187 k i = m_164 k i := fr_F11_wrong hf12_83 e187
      exact (congrArg (fun z : Mem => z k i) (Option.some.inj h)).symm.trans f187
    rcases ite_or h with ⟨hc, h⟩ | ⟨hc, h⟩
    · exact (J164 m_110 h).trans rfl
    obtain ⟨r120, m120, e120, h⟩ := b2_some h
    have f120 : m120 k i = m_110 k i := fr_F11_isNext hf11_83 e120
    rcases ite_or h with ⟨hc, h⟩ | ⟨hc, h⟩
    · exact (J164 m120 h).trans f120
    obtain ⟨r138, m138, e138, h⟩ := b2_some h
    have f138 : m138 k i = m120 k i := fr_F11_number hf11_83 hf12_83 e138
    obtain ⟨g1, h⟩ := gd_some h
    replace h := stw_e h
    have f141 : (wr m138 86 v1 r138) k i = m138 k i := wr_ka hk_86
    generalize wr m138 86 v1 r138 = m141 at h f141
    rcases ite_or h with ⟨hc, h⟩ | ⟨hc, h⟩
    · exact (J164 m141 h).trans (f141.trans (f138.trans f120))
    obtain ⟨g1, h⟩ := gd_some h
    rcases ite_or h with ⟨hc, h⟩ | ⟨hc, h⟩
    · exact (J164 m141 h).trans (f141.trans (f138.trans f120))
    obtain ⟨m161, e161, h⟩ := b1_some h
    have f161 : m161 k i = m141 k i := fr_F11_wrong hf12_83 e161
    exact (J164 m161 h).trans (f161.trans (f141.trans (f138.trans f120)))
  rcases ite_or h with ⟨hc, h⟩ | ⟨hc, h⟩
  · exact (J82 m22 h).trans (f22.trans (f10.trans f7))
  obtain ⟨r33, m33, e33, h⟩ := b2_some h
  have f33 : m33 k i = m22 k i := fr_F11_isNext hf11_83 e33
  rcases ite_or h with ⟨hc, h⟩ | ⟨hc, h⟩
  · exact (J82 m33 h).trans (f33.trans (f22.trans (f10.trans f7)))
  obtain ⟨r51, m51, e51, h⟩ := b2_some h
  have f51 : m51 k i = m33 k i := fr_F11_number hf11_83 hf12_83 e51
  obtain ⟨g1, h⟩ := gd_some h
  replace h := stw_e h
  have f54 : (wr m51 85 v1 r51) k i = m51 k i := wr_ka hk_85
  generalize wr m51 85 v1 r51 = m54 at h f54
  rcases ite_or h with ⟨hc, h⟩ | ⟨hc, h⟩
  · exact (J82 m54 h).trans (f54.trans (f51.trans (f33.trans (f22.trans (f10.trans f7)))))
  obtain ⟨g1, h⟩ := gd_some h
  obtain ⟨g1, h⟩ := gd_some h
  rcases ite_or h with ⟨hc, h⟩ | ⟨hc, h⟩
  · exact (J82 m54 h).trans (f54.trans (f51.trans (f33.trans (f22.trans (f10.trans f7)))))
  obtain ⟨m79, e79, h⟩ := b1_some h
  have f79 : m79 k i = m54 k i := fr_F11_wrong hf12_83 e79
  exact (J82 m79 h).trans (f79.trans (f54.trans (f51.trans (f33.trans (f22.trans (f10.trans f7))))))
set_option maxRecDepth 100000 in
set_option maxHeartbeats 4000000 in
theorem fr_F11_charter {k : Nat} {i : Int} {m : Mem}  {out : Int × Mem} (hk_84 : k ≠ 84) (hk_85 : k ≠ 85) (hk_86 : k ≠ 86) (hk_87 : k ≠ 87) (hk_88 : k ≠ 88) (hk_89 : k ≠ 89) (hf11_83 : ¬ (k = 83 ∧ i = 11)) (hf12_83 : ¬ (k = 83 ∧ i = 12)) (hf10_83 : ¬ (k = 83 ∧ i = 10)) (hf1_83 : ¬ (k = 83 ∧ i = 1)) (h : F11_charter m = some out) : out.2 k i = m k i := by
  unfold F11_charter at h
  rcases ite_or h with ⟨hc, h⟩ | ⟨hc, h⟩
  · obtain ⟨m17, e17, h⟩ := b1_some h
    have f17 : m17 k i = m k i := fr_F11_clear hk_84 hk_85 hk_86 hk_87 hk_88 hk_89 e17
    replace h := stw_e h
    have f22 : (wr m17 83 11 0) k i = m17 k i := wr_ki hf11_83
    generalize wr m17 83 11 0 = m22 at h f22
    replace h := stw_e h
    have f27 : (wr m22 83 12 (-1)) k i = m22 k i := wr_ki hf12_83
    generalize wr m22 83 12 (-1) = m27 at h f27
    obtain ⟨m35, e35, h⟩ := b1_some h
    have f35 : m35 k i = m27 k i := fr_F11_readAll hf11_83 hf12_83 hk_84 hk_85 hk_89 hk_86 e35
    replace h := stw_e h
    have f40 : (wr m35 83 10 0) k i = m35 k i := wr_ki hf10_83
    generalize wr m35 83 10 0 = m40 at h f40
    rcases ite_or h with ⟨hc, h⟩ | ⟨hc, h⟩
    · replace h := stw_e h
      have f65 : (wr m40 83 1 (w32 ((rd m40 83 1) + 1))) k i = m40 k i := wr_ki hf1_83
      generalize wr m40 83 1 (w32 ((rd m40 83 1) + 1)) = m65 at h f65
      exact (congrArg (fun z : Int × Mem => z.2 k i) (Option.some.inj h)).symm.trans (f65.trans (f40.trans (f35.trans (f27.trans (f22.trans f17)))))
    exact (congrArg (fun z : Int × Mem => z.2 k i) (Option.some.inj h)).symm.trans (f40.trans (f35.trans (f27.trans (f22.trans f17))))
  exact (congrArg (fun z : Int × Mem => z.2 k i) (Option.some.inj h)).symm.trans rfl
set_option maxRecDepth 100000 in
set_option maxHeartbeats 4000000 in
theorem fr_F11_lost {k : Nat} {i : Int} {m : Mem}  {out : Int × Mem} (hk_84 : k ≠ 84) (hk_85 : k ≠ 85) (hk_86 : k ≠ 86) (hk_87 : k ≠ 87) (hk_88 : k ≠ 88) (hk_89 : k ≠ 89) (hf1_83 : ¬ (k = 83 ∧ i = 1)) (h : F11_lost m = some out) : out.2 k i = m k i := by
  unfold F11_lost at h
  rcases ite_or h with ⟨hc, h⟩ | ⟨hc, h⟩
  · obtain ⟨m17, e17, h⟩ := b1_some h
    have f17 : m17 k i = m k i := fr_F11_clear hk_84 hk_85 hk_86 hk_87 hk_88 hk_89 e17
    obtain ⟨g1, h⟩ := gd_some h
    replace h := stw_e h
    have f29 : (wr m17 87 (rd m17 83 1) 1) k i = m17 k i := wr_ka hk_87
    generalize wr m17 87 (rd m17 83 1) 1 = m29 at h f29
    replace h := stw_e h
    have f37 : (wr m29 83 1 (w32 ((rd m29 83 1) + 1))) k i = m29 k i := wr_ki hf1_83
    generalize wr m29 83 1 (w32 ((rd m29 83 1) + 1)) = m37 at h f37
    exact (congrArg (fun z : Int × Mem => z.2 k i) (Option.some.inj h)).symm.trans (f37.trans (f29.trans f17))
  exact (congrArg (fun z : Int × Mem => z.2 k i) (Option.some.inj h)).symm.trans rfl
set_option maxRecDepth 100000 in
set_option maxHeartbeats 4000000 in
theorem fr_F11_set {k : Nat} {i : Int} {m : Mem}  {v1 v2 v3 : Int} {out : Mem} (hk_88 : k ≠ 88) (hk_90 : k ≠ 90) (hk_89 : k ≠ 89) (h : F11_set m v1 v2 v3 = some out) : out k i = m k i := by
  unfold F11_set at h
  rcases ite_or h with ⟨hc, h⟩ | ⟨hc, h⟩
  · rcases ite_or h with ⟨hc, h⟩ | ⟨hc, h⟩
    · obtain ⟨g1, h⟩ := gd_some h
      replace h := stw_e h
      have f35 : (wr m 88 v2 v3) k i = m k i := wr_ka hk_88
      generalize wr m 88 v2 v3 = m35 at h f35
      exact (congrArg (fun z : Mem => z k i) (Option.some.inj h)).symm.trans f35
    obtain ⟨g1, h⟩ := gd_some h
    replace h := stw_e h
    have f25 : (wr m 90 v2 v3) k i = m k i := wr_ka hk_90
    generalize wr m 90 v2 v3 = m25 at h f25
    exact (congrArg (fun z : Mem => z k i) (Option.some.inj h)).symm.trans f25
  obtain ⟨g1, h⟩ := gd_some h
  replace h := stw_e h
  have f10 : (wr m 89 v2 v3) k i = m k i := wr_ka hk_89
  generalize wr m 89 v2 v3 = m10 at h f10
  exact (congrArg (fun z : Mem => z k i) (Option.some.inj h)).symm.trans f10
set_option maxRecDepth 100000 in
set_option maxHeartbeats 4000000 in
theorem fr_L11_changes_34 {k : Nat} {i : Int} {out : Int × Mem} {k111 : Mem → Option (Int × Mem)} (hk_92 : k ≠ 92) (hk_93 : k ≠ 93) (hk_94 : k ≠ 94) (hk_95 : k ≠ 95) (hk111 : ∀ (m : Mem), k111 m = some out → out.2 k i = m k i) : ∀ (n : Nat) (v5 : Int) (m : Mem), L11_changes_34 k111 n v5 m = some out → out.2 k i = m k i := by
  intro n
  induction n with
  | zero =>
    intro v5 m h
    cases h
  | succ n ih =>
    intro v5 m h
    rw [L11_changes_34] at h
    rcases ite_or h with ⟨hc, h⟩ | ⟨hc, h⟩
    · exact (hk111 m h).trans rfl
    obtain ⟨g1, h⟩ := gd_some h
    obtain ⟨g1, h⟩ := gd_some h
    replace h := stw_e h
    have f56 : (wr m 92 (w32 (v5 - 1)) (rd m 92 v5)) k i = m k i := wr_ka hk_92
    generalize wr m 92 (w32 (v5 - 1)) (rd m 92 v5) = m56 at h f56
    obtain ⟨g1, h⟩ := gd_some h
    obtain ⟨g1, h⟩ := gd_some h
    replace h := stw_e h
    have f72 : (wr m56 93 (w32 (v5 - 1)) (rd m56 93 v5)) k i = m56 k i := wr_ka hk_93
    generalize wr m56 93 (w32 (v5 - 1)) (rd m56 93 v5) = m72 at h f72
    obtain ⟨g1, h⟩ := gd_some h
    obtain ⟨g1, h⟩ := gd_some h
    replace h := stw_e h
    have f88 : (wr m72 94 (w32 (v5 - 1)) (rd m72 94 v5)) k i = m72 k i := wr_ka hk_94
    generalize wr m72 94 (w32 (v5 - 1)) (rd m72 94 v5) = m88 at h f88
    obtain ⟨g1, h⟩ := gd_some h
    obtain ⟨g1, h⟩ := gd_some h
    replace h := stw_e h
    have f104 : (wr m88 95 (w32 (v5 - 1)) (rd m88 95 v5)) k i = m88 k i := wr_ka hk_95
    generalize wr m88 95 (w32 (v5 - 1)) (rd m88 95 v5) = m104 at h f104
    exact (ih (w32 (v5 + 1)) m104 h).trans (f104.trans (f88.trans (f72.trans f56)))
set_option maxRecDepth 100000 in
set_option maxHeartbeats 4000000 in
theorem fr_F11_changes {k : Nat} {i : Int} {m : Mem}  {v1 v2 v3 : Int} {out : Int × Mem} (hf14_83 : ¬ (k = 83 ∧ i = 14)) (hk_92 : k ≠ 92) (hk_93 : k ≠ 93) (hk_94 : k ≠ 94) (hk_95 : k ≠ 95) (hf13_83 : ¬ (k = 83 ∧ i = 13)) (hk_88 : k ≠ 88) (hk_90 : k ≠ 90) (hk_89 : k ≠ 89) (hf31_83 : ¬ (k = 83 ∧ i = 31)) (h : F11_changes m v1 v2 v3 = some out) : out.2 k i = m k i := by
  unfold F11_changes at h
  obtain ⟨r3, e3, h⟩ := b1_some h
  rcases ite_or h with ⟨hc, h⟩ | ⟨hc, h⟩
  · replace h := stw_e h
    have f19 : (wr m 83 14 0) k i = m k i := wr_ki hf14_83
    generalize wr m 83 14 0 = m19 at h f19
    refine (jn_e h (fun (K : Mem → Option (Int × Mem)) => ∀ (m_121 : Mem), K m_121 = some out → out.2 k i = m_121 k i) (fun m_121 h => ?_) (fun K121 J121 h => ?_))
    · obtain ⟨g1, h⟩ := gd_some h
      replace h := stw_e h
      have f130 : (wr m_121 92 (rd m_121 83 13) v1) k i = m_121 k i := wr_ka hk_92
      generalize wr m_121 92 (rd m_121 83 13) v1 = m130 at h f130
      obtain ⟨g1, h⟩ := gd_some h
      replace h := stw_e h
      have f140 : (wr m130 93 (rd m130 83 13) v2) k i = m130 k i := wr_ka hk_93
      generalize wr m130 93 (rd m130 83 13) v2 = m140 at h f140
      obtain ⟨g1, h⟩ := gd_some h
      replace h := stw_e h
      have f151 : (wr m140 94 (rd m140 83 13) r3) k i = m140 k i := wr_ka hk_94
      generalize wr m140 94 (rd m140 83 13) r3 = m151 at h f151
      obtain ⟨g1, h⟩ := gd_some h
      replace h := stw_e h
      have f161 : (wr m151 95 (rd m151 83 13) v3) k i = m151 k i := wr_ka hk_95
      generalize wr m151 95 (rd m151 83 13) v3 = m161 at h f161
      replace h := stw_e h
      have f169 : (wr m161 83 13 (w32 ((rd m161 83 13) + 1))) k i = m161 k i := wr_ki hf13_83
      generalize wr m161 83 13 (w32 ((rd m161 83 13) + 1)) = m169 at h f169
      obtain ⟨m176, e176, h⟩ := b1_some h
      have f176 : m176 k i = m169 k i := fr_F11_set hk_88 hk_90 hk_89 e176
      replace h := stw_e h
      have f181 : (wr m176 83 31 0) k i = m176 k i := wr_ki hf31_83
      generalize wr m176 83 31 0 = m181 at h f181
      exact (congrArg (fun z : Int × Mem => z.2 k i) (Option.some.inj h)).symm.trans (f181.trans (f176.trans (f169.trans (f161.trans (f151.trans (f140.trans f130))))))
    rcases ite_or h with ⟨hc, h⟩ | ⟨hc, h⟩
    · exact (J121 m19 h).trans f19
    refine (fr_L11_changes_34 hk_92 hk_93 hk_94 hk_95 (fun m_111 h => ?_) FU 1 m19 h).trans f19
    replace h := stw_e h
    have f118 : (wr m_111 83 13 (w32 ((rd m_111 83 13) - 1))) k i = m_111 k i := wr_ki hf13_83
    generalize wr m_111 83 13 (w32 ((rd m_111 83 13) - 1)) = m118 at h f118
    exact (J121 m118 h).trans f118
  exact (congrArg (fun z : Int × Mem => z.2 k i) (Option.some.inj h)).symm.trans rfl
set_option maxRecDepth 100000 in
set_option maxHeartbeats 4000000 in
theorem fr_F11_undo {k : Nat} {i : Int} {m : Mem}  {out : Int × Mem} (hf13_83 : ¬ (k = 83 ∧ i = 13)) (hf14_83 : ¬ (k = 83 ∧ i = 14)) (hk_88 : k ≠ 88) (hk_90 : k ≠ 90) (hk_89 : k ≠ 89) (hf31_83 : ¬ (k = 83 ∧ i = 31)) (h : F11_undo m = some out) : out.2 k i = m k i := by
  unfold F11_undo at h
  rcases ite_or h with ⟨hc, h⟩ | ⟨hc, h⟩
  · replace h := stw_e h
    have f17 : (wr m 83 13 (w32 ((rd m 83 13) - 1))) k i = m k i := wr_ki hf13_83
    generalize wr m 83 13 (w32 ((rd m 83 13) - 1)) = m17 at h f17
    replace h := stw_e h
    have f27 : (wr m17 83 14 (w32 ((rd m17 83 14) + 1))) k i = m17 k i := wr_ki hf14_83
    generalize wr m17 83 14 (w32 ((rd m17 83 14) + 1)) = m27 at h f27
    obtain ⟨g1, h⟩ := gd_some h
    obtain ⟨g1, h⟩ := gd_some h
    obtain ⟨g1, h⟩ := gd_some h
    obtain ⟨m58, e58, h⟩ := b1_some h
    have f58 : m58 k i = m27 k i := fr_F11_set hk_88 hk_90 hk_89 e58
    replace h := stw_e h
    have f63 : (wr m58 83 31 0) k i = m58 k i := wr_ki hf31_83
    generalize wr m58 83 31 0 = m63 at h f63
    exact (congrArg (fun z : Int × Mem => z.2 k i) (Option.some.inj h)).symm.trans (f63.trans (f58.trans (f27.trans f17)))
  exact (congrArg (fun z : Int × Mem => z.2 k i) (Option.some.inj h)).symm.trans rfl
set_option maxRecDepth 100000 in
set_option maxHeartbeats 4000000 in
theorem fr_F11_redo {k : Nat} {i : Int} {m : Mem}  {out : Int × Mem} (hk_88 : k ≠ 88) (hk_90 : k ≠ 90) (hk_89 : k ≠ 89) (hf13_83 : ¬ (k = 83 ∧ i = 13)) (hf14_83 : ¬ (k = 83 ∧ i = 14)) (hf31_83 : ¬ (k = 83 ∧ i = 31)) (h : F11_redo m = some out) : out.2 k i = m k i := by
  unfold F11_redo at h
  rcases ite_or h with ⟨hc, h⟩ | ⟨hc, h⟩
  · obtain ⟨g1, h⟩ := gd_some h
    obtain ⟨g1, h⟩ := gd_some h
    obtain ⟨g1, h⟩ := gd_some h
    obtain ⟨m38, e38, h⟩ := b1_some h
    have f38 : m38 k i = m k i := fr_F11_set hk_88 hk_90 hk_89 e38
    replace h := stw_e h
    have f48 : (wr m38 83 13 (w32 ((rd m38 83 13) + 1))) k i = m38 k i := wr_ki hf13_83
    generalize wr m38 83 13 (w32 ((rd m38 83 13) + 1)) = m48 at h f48
    replace h := stw_e h
    have f58 : (wr m48 83 14 (w32 ((rd m48 83 14) - 1))) k i = m48 k i := wr_ki hf14_83
    generalize wr m48 83 14 (w32 ((rd m48 83 14) - 1)) = m58 at h f58
    replace h := stw_e h
    have f63 : (wr m58 83 31 0) k i = m58 k i := wr_ki hf31_83
    generalize wr m58 83 31 0 = m63 at h f63
    exact (congrArg (fun z : Int × Mem => z.2 k i) (Option.some.inj h)).symm.trans (f63.trans (f58.trans (f48.trans f38)))
  exact (congrArg (fun z : Int × Mem => z.2 k i) (Option.some.inj h)).symm.trans rfl
set_option maxRecDepth 100000 in
set_option maxHeartbeats 4000000 in
theorem fr_F11_form {k : Nat} {i : Int} {m : Mem}  {v1 v2 v3 : Int} {out : Int × Mem} (hf14_83 : ¬ (k = 83 ∧ i = 14)) (hk_92 : k ≠ 92) (hk_93 : k ≠ 93) (hk_94 : k ≠ 94) (hk_95 : k ≠ 95) (hf13_83 : ¬ (k = 83 ∧ i = 13)) (hk_88 : k ≠ 88) (hk_90 : k ≠ 90) (hk_89 : k ≠ 89) (hf31_83 : ¬ (k = 83 ∧ i = 31)) (h : F11_form m v1 v2 v3 = some out) : out.2 k i = m k i := by
  unfold F11_form at h
  refine (jn_e h (fun (K : Option (Int × Mem)) => K = some out → out.2 k i = m k i) (fun h => ?_) (fun K37 J37 h => ?_))
  · exact (congrArg (fun z : Int × Mem => z.2 k i) (Option.some.inj h)).symm.trans rfl
  rcases ite_or h with ⟨hc, h⟩ | ⟨hc, h⟩
  · exact (J37 h).trans rfl
  rcases ite_or h with ⟨hc, h⟩ | ⟨hc, h⟩
  · exact (J37 h).trans rfl
  rcases ite_or h with ⟨hc, h⟩ | ⟨hc, h⟩
  · exact (J37 h).trans rfl
  obtain ⟨r31, m31, e31, h⟩ := b2_some h
  have f31 : m31 k i = m k i := fr_F11_changes hf14_83 hk_92 hk_93 hk_94 hk_95 hf13_83 hk_88 hk_90 hk_89 hf31_83 e31
  exact (congrArg (fun z : Int × Mem => z.2 k i) (Option.some.inj h)).symm.trans f31
set_option maxRecDepth 100000 in
set_option maxHeartbeats 4000000 in
theorem fr_L11_forms_67 {k : Nat} {i : Int} {out : Int × Mem} {v1 : Int} {v2 : Int} {v3 : Int} {v4 : Int} (hf14_83 : ¬ (k = 83 ∧ i = 14)) (hk_92 : k ≠ 92) (hk_93 : k ≠ 93) (hk_94 : k ≠ 94) (hk_95 : k ≠ 95) (hf13_83 : ¬ (k = 83 ∧ i = 13)) (hk_88 : k ≠ 88) (hk_90 : k ≠ 90) (hk_89 : k ≠ 89) (hf31_83 : ¬ (k = 83 ∧ i = 31)) : ∀ (n : Nat) (v5 : Int) (m : Mem), L11_forms_67 v1 v2 v3 v4 n v5 m = some out → out.2 k i = m k i := by
  intro n
  induction n with
  | zero =>
    intro v5 m h
    cases h
  | succ n ih =>
    intro v5 m h
    rw [L11_forms_67] at h
    rcases ite_or h with ⟨hc, h⟩ | ⟨hc, h⟩
    · exact (congrArg (fun z : Int × Mem => z.2 k i) (Option.some.inj h)).symm.trans rfl
    rcases ite_or h with ⟨hc, h⟩ | ⟨hc, h⟩
    · exact (congrArg (fun z : Int × Mem => z.2 k i) (Option.some.inj h)).symm.trans rfl
    obtain ⟨g1, h⟩ := gd_some h
    rcases ite_or h with ⟨hc, h⟩ | ⟨hc, h⟩
    · exact (congrArg (fun z : Int × Mem => z.2 k i) (Option.some.inj h)).symm.trans rfl
    obtain ⟨g1, h⟩ := gd_some h
    rcases ite_or h with ⟨hc, h⟩ | ⟨hc, h⟩
    · obtain ⟨g1, h⟩ := gd_some h
      obtain ⟨r148, m148, e148, h⟩ := b2_some h
      have f148 : m148 k i = m k i := fr_F11_changes hf14_83 hk_92 hk_93 hk_94 hk_95 hf13_83 hk_88 hk_90 hk_89 hf31_83 e148
      exact (ih (w32 (v5 + 1)) m148 h).trans f148
    exact (congrArg (fun z : Int × Mem => z.2 k i) (Option.some.inj h)).symm.trans rfl
set_option maxRecDepth 100000 in
set_option maxHeartbeats 4000000 in
theorem fr_F11_forms {k : Nat} {i : Int} {m : Mem}  {v1 v2 v3 v4 : Int} {out : Int × Mem} (hf14_83 : ¬ (k = 83 ∧ i = 14)) (hk_92 : k ≠ 92) (hk_93 : k ≠ 93) (hk_94 : k ≠ 94) (hk_95 : k ≠ 95) (hf13_83 : ¬ (k = 83 ∧ i = 13)) (hk_88 : k ≠ 88) (hk_90 : k ≠ 90) (hk_89 : k ≠ 89) (hf31_83 : ¬ (k = 83 ∧ i = 31)) (h : F11_forms m v1 v2 v3 v4 = some out) : out.2 k i = m k i := by
  unfold F11_forms at h
  rcases ite_or h with ⟨hc, h⟩ | ⟨hc, h⟩
  · exact (congrArg (fun z : Int × Mem => z.2 k i) (Option.some.inj h)).symm.trans rfl
  rcases ite_or h with ⟨hc, h⟩ | ⟨hc, h⟩
  · exact (congrArg (fun z : Int × Mem => z.2 k i) (Option.some.inj h)).symm.trans rfl
  rcases ite_or h with ⟨hc, h⟩ | ⟨hc, h⟩
  · obtain ⟨g1, h⟩ := gd_some h
    refine (jn_e h (fun (K : Option (Int × Mem)) => K = some out → out.2 k i = m k i) (fun h => ?_) (fun K52 J52 h => ?_))
    · obtain ⟨g1, h⟩ := gd_some h
      rcases ite_or h with ⟨hc, h⟩ | ⟨hc, h⟩
      · refine (fr_L11_forms_67 hf14_83 hk_92 hk_93 hk_94 hk_95 hf13_83 hk_88 hk_90 hk_89 hf31_83 FU 0 m h).trans rfl
      exact (congrArg (fun z : Int × Mem => z.2 k i) (Option.some.inj h)).symm.trans rfl
    rcases ite_or h with ⟨hc, h⟩ | ⟨hc, h⟩
    · exact (J52 h).trans rfl
    obtain ⟨g1, h⟩ := gd_some h
    rcases ite_or h with ⟨hc, h⟩ | ⟨hc, h⟩
    · exact (J52 h).trans rfl
    exact (congrArg (fun z : Int × Mem => z.2 k i) (Option.some.inj h)).symm.trans rfl
  exact (congrArg (fun z : Int × Mem => z.2 k i) (Option.some.inj h)).symm.trans rfl
set_option maxRecDepth 100000 in
set_option maxHeartbeats 4000000 in
theorem fr_F11_price {k : Nat} {i : Int} {m : Mem}  {v1 v2 : Int} {out : Int × Mem} (hf14_83 : ¬ (k = 83 ∧ i = 14)) (hk_92 : k ≠ 92) (hk_93 : k ≠ 93) (hk_94 : k ≠ 94) (hk_95 : k ≠ 95) (hf13_83 : ¬ (k = 83 ∧ i = 13)) (hk_88 : k ≠ 88) (hk_90 : k ≠ 90) (hk_89 : k ≠ 89) (hf31_83 : ¬ (k = 83 ∧ i = 31)) (h : F11_price m v1 v2 = some out) : out.2 k i = m k i := by
  unfold F11_price at h
  refine (jn_e h (fun (K : Option (Int × Mem)) => K = some out → out.2 k i = m k i) (fun h => ?_) (fun K29 J29 h => ?_))
  · exact (congrArg (fun z : Int × Mem => z.2 k i) (Option.some.inj h)).symm.trans rfl
  rcases ite_or h with ⟨hc, h⟩ | ⟨hc, h⟩
  · exact (J29 h).trans rfl
  rcases ite_or h with ⟨hc, h⟩ | ⟨hc, h⟩
  · exact (J29 h).trans rfl
  obtain ⟨r23, m23, e23, h⟩ := b2_some h
  have f23 : m23 k i = m k i := fr_F11_changes hf14_83 hk_92 hk_93 hk_94 hk_95 hf13_83 hk_88 hk_90 hk_89 hf31_83 e23
  exact (congrArg (fun z : Int × Mem => z.2 k i) (Option.some.inj h)).symm.trans f23
set_option maxRecDepth 100000 in
set_option maxHeartbeats 4000000 in
theorem fr_F11_mother {k : Nat} {i : Int} {m : Mem}  {v1 v2 : Int} {out : Int × Mem} (hf14_83 : ¬ (k = 83 ∧ i = 14)) (hk_92 : k ≠ 92) (hk_93 : k ≠ 93) (hk_94 : k ≠ 94) (hk_95 : k ≠ 95) (hf13_83 : ¬ (k = 83 ∧ i = 13)) (hk_88 : k ≠ 88) (hk_90 : k ≠ 90) (hk_89 : k ≠ 89) (hf31_83 : ¬ (k = 83 ∧ i = 31)) (h : F11_mother m v1 v2 = some out) : out.2 k i = m k i := by
  unfold F11_mother at h
  rcases ite_or h with ⟨hc, h⟩ | ⟨hc, h⟩
  · exact (congrArg (fun z : Int × Mem => z.2 k i) (Option.some.inj h)).symm.trans rfl
  refine (jn_e h (fun (K : Option (Int × Mem)) => K = some out → out.2 k i = m k i) (fun h => ?_) (fun K21 J21 h => ?_))
  · rcases ite_or h with ⟨hc, h⟩ | ⟨hc, h⟩
    · refine (jn_e h (fun (K : Option (Int × Mem)) => K = some out → out.2 k i = m k i) (fun h => ?_) (fun K45 J45 h => ?_))
      · obtain ⟨r49, m49, e49, h⟩ := b2_some h
        have f49 : m49 k i = m k i := fr_F11_changes hf14_83 hk_92 hk_93 hk_94 hk_95 hf13_83 hk_88 hk_90 hk_89 hf31_83 e49
        exact (congrArg (fun z : Int × Mem => z.2 k i) (Option.some.inj h)).symm.trans f49
      rcases ite_or h with ⟨hc, h⟩ | ⟨hc, h⟩
      · exact (J45 h).trans rfl
      obtain ⟨r36, e36, h⟩ := b1_some h
      rcases ite_or h with ⟨hc, h⟩ | ⟨hc, h⟩
      · exact (J45 h).trans rfl
      exact (congrArg (fun z : Int × Mem => z.2 k i) (Option.some.inj h)).symm.trans rfl
    exact (congrArg (fun z : Int × Mem => z.2 k i) (Option.some.inj h)).symm.trans rfl
  rcases ite_or h with ⟨hc, h⟩ | ⟨hc, h⟩
  · exact (J21 h).trans rfl
  rcases ite_or h with ⟨hc, h⟩ | ⟨hc, h⟩
  · exact (congrArg (fun z : Int × Mem => z.2 k i) (Option.some.inj h)).symm.trans rfl
  exact (J21 h).trans rfl
set_option maxRecDepth 100000 in
set_option maxHeartbeats 4000000 in
theorem fr_L11_findOrder_15 {k : Nat} {i : Int} {out : Mem} {k93 : Int → Mem → Option Mem} (hk_100 : k ≠ 100) (hf24_83 : ¬ (k = 83 ∧ i = 24)) (hk93 : ∀ (v1 : Int) (m : Mem), k93 v1 m = some out → out k i = m k i) : ∀ (n : Nat) (v1 : Int) (v2 : Int) (m : Mem), L11_findOrder_15 k93 n v1 v2 m = some out → out k i = m k i := by
  intro n
  induction n with
  | zero =>
    intro v1 v2 m h
    cases h
  | succ n ih =>
    intro v1 v2 m h
    rw [L11_findOrder_15] at h
    rcases ite_or h with ⟨hc, h⟩ | ⟨hc, h⟩
    · exact (hk93 v1 m h).trans rfl
    obtain ⟨g1, h⟩ := gd_some h
    refine (jn_e h (fun (K : Int → Mem → Option Mem) => ∀ (v1_87 : Int) (m_87 : Mem), K v1_87 m_87 = some out → out k i = m_87 k i) (fun v1_87 m_87 h => ?_) (fun K87 J87 h => ?_))
    · exact (ih v1_87 (w32 (v2 + 1)) m_87 h).trans rfl
    rcases ite_or h with ⟨hc, h⟩ | ⟨hc, h⟩
    · exact (J87 v1 m h).trans rfl
    obtain ⟨r34, e34, h⟩ := b1_some h
    rcases ite_or h with ⟨hc, h⟩ | ⟨hc, h⟩
    · exact (J87 v1 m h).trans rfl
    obtain ⟨g1, h⟩ := gd_some h
    refine (jn_e h (fun (K : Option Mem) => K = some out → out k i = m k i) (fun h => ?_) (fun K65 J65 h => ?_))
    · obtain ⟨g1, h⟩ := gd_some h
      replace h := stw_e h
      have f74 : (wr m 100 (rd m 83 24) v2) k i = m k i := wr_ka hk_100
      generalize wr m 100 (rd m 83 24) v2 = m74 at h f74
      replace h := stw_e h
      have f82 : (wr m74 83 24 (w32 ((rd m74 83 24) + 1))) k i = m74 k i := wr_ki hf24_83
      generalize wr m74 83 24 (w32 ((rd m74 83 24) + 1)) = m82 at h f82
      exact (J87 1 m82 h).trans (f82.trans f74)
    rcases ite_or h with ⟨hc, h⟩ | ⟨hc, h⟩
    · exact (J65 h).trans rfl
    obtain ⟨g1, h⟩ := gd_some h
    obtain ⟨r56, e56, h⟩ := b1_some h
    rcases ite_or h with ⟨hc, h⟩ | ⟨hc, h⟩
    · exact (J65 h).trans rfl
    exact (J87 v1 m h).trans rfl
set_option maxRecDepth 100000 in
set_option maxHeartbeats 4000000 in
theorem fr_L11_findOrder_7 {k : Nat} {i : Int} {out : Mem} (hk_100 : k ≠ 100) (hf24_83 : ¬ (k = 83 ∧ i = 24)) : ∀ (n : Nat) (v1 : Int) (m : Mem), L11_findOrder_7 n v1 m = some out → out k i = m k i := by
  intro n
  induction n with
  | zero =>
    intro v1 m h
    cases h
  | succ n ih =>
    intro v1 m h
    rw [L11_findOrder_7] at h
    rcases ite_or h with ⟨hc, h⟩ | ⟨hc, h⟩
    · exact (congrArg (fun z : Mem => z k i) (Option.some.inj h)).symm.trans rfl
    refine (fr_L11_findOrder_15 hk_100 hf24_83 (fun v1_93 m_93 h => ?_) FU 0 0 m h).trans rfl
    exact (ih v1_93 m_93 h).trans rfl
set_option maxRecDepth 100000 in
set_option maxHeartbeats 4000000 in
theorem fr_F11_findOrder {k : Nat} {i : Int} {m : Mem}  {out : Mem} (hf24_83 : ¬ (k = 83 ∧ i = 24)) (hk_100 : k ≠ 100) (h : F11_findOrder m = some out) : out k i = m k i := by
  unfold F11_findOrder at h
  replace h := stw_e h
  have f2 : (wr m 83 24 0) k i = m k i := wr_ki hf24_83
  generalize wr m 83 24 0 = m2 at h f2
  refine (fr_L11_findOrder_7 hk_100 hf24_83 FU 1 m2 h).trans f2
set_option maxRecDepth 100000 in
set_option maxHeartbeats 4000000 in
theorem fr_L11_costOf_53 {k : Nat} {i : Int} {out : Int × Mem} {m : Mem} {v4 : Int} {v5 : Int} {k110 : Int → Option (Int × Mem)} (hk110 : ∀ (v6 : Int), k110 v6 = some out → out.2 k i = m k i) : ∀ (n : Nat) (v6 : Int) (v7 : Int), L11_costOf_53 m v4 v5 k110 n v6 v7 = some out → out.2 k i = m k i := by
  intro n
  induction n with
  | zero =>
    intro v6 v7 h
    cases h
  | succ n ih =>
    intro v6 v7 h
    rw [L11_costOf_53] at h
    rcases ite_or h with ⟨hc, h⟩ | ⟨hc, h⟩
    · exact (hk110 v6 h).trans rfl
    rcases ite_or h with ⟨hc, h⟩ | ⟨hc, h⟩
    · exact (hk110 v6 h).trans rfl
    obtain ⟨g1, h⟩ := gd_some h
    refine (jn_e h (fun (K : Int → Option (Int × Mem)) => ∀ (v6_104 : Int), K v6_104 = some out → out.2 k i = m k i) (fun v6_104 h => ?_) (fun K104 J104 h => ?_))
    · exact (ih v6_104 (w32 (v7 + 1)) h).trans rfl
    rcases ite_or h with ⟨hc, h⟩ | ⟨hc, h⟩
    · exact (J104 v6 h).trans rfl
    obtain ⟨g1, h⟩ := gd_some h
    rcases ite_or h with ⟨hc, h⟩ | ⟨hc, h⟩
    · exact (J104 v6 h).trans rfl
    obtain ⟨r98, e98, h⟩ := b1_some h
    exact (J104 (w32 (v6 + r98)) h).trans rfl
set_option maxRecDepth 100000 in
set_option maxHeartbeats 4000000 in
theorem fr_L11_costOf_24 {k : Nat} {i : Int} {out : Int × Mem} {v1 : Int} {v4 : Int} {k130 : Mem → Option (Int × Mem)} (hk_98 : k ≠ 98) (hk130 : ∀ (m : Mem), k130 m = some out → out.2 k i = m k i) : ∀ (n : Nat) (v5 : Int) (m : Mem), L11_costOf_24 v1 v4 k130 n v5 m = some out → out.2 k i = m k i := by
  intro n
  induction n with
  | zero =>
    intro v5 m h
    cases h
  | succ n ih =>
    intro v5 m h
    rw [L11_costOf_24] at h
    rcases ite_or h with ⟨hc, h⟩ | ⟨hc, h⟩
    · exact (hk130 m h).trans rfl
    obtain ⟨r36, e36, h⟩ := b1_some h
    refine (jn_e h (fun (K : Int → Option (Int × Mem)) => ∀ (x48 : Int), K x48 = some out → out.2 k i = m k i) (fun x48 h => ?_) (fun K48 J48 h => ?_))
    · refine (fr_L11_costOf_53 (fun v6_110 h => ?_) FU x48 0 h).trans rfl
      obtain ⟨g1, h⟩ := gd_some h
      replace h := stw_e h
      have f123 : (wr m 98 (w32 ((w32 (4 * v4)) + v5)) v6_110) k i = m k i := wr_ka hk_98
      generalize wr m 98 (w32 ((w32 (4 * v4)) + v5)) v6_110 = m123 at h f123
      exact (ih (w32 (v5 + 1)) m123 h).trans f123
    rcases ite_or h with ⟨hc, h⟩ | ⟨hc, h⟩
    · exact (J48 1000000 h).trans rfl
    exact (J48 0 h).trans rfl
set_option maxRecDepth 100000 in
set_option maxHeartbeats 4000000 in
theorem fr_L11_costOf_9 {k : Nat} {i : Int} {out : Int × Mem} {v1 : Int} {k136 : Mem → Option (Int × Mem)} (hk_98 : k ≠ 98) (hk136 : ∀ (m : Mem), k136 m = some out → out.2 k i = m k i) : ∀ (n : Nat) (v3 : Int) (m : Mem), L11_costOf_9 v1 k136 n v3 m = some out → out.2 k i = m k i := by
  intro n
  induction n with
  | zero =>
    intro v3 m h
    cases h
  | succ n ih =>
    intro v3 m h
    rw [L11_costOf_9] at h
    rcases ite_or h with ⟨hc, h⟩ | ⟨hc, h⟩
    · exact (hk136 m h).trans rfl
    obtain ⟨g1, h⟩ := gd_some h
    refine (fr_L11_costOf_24 hk_98 (fun m_130 h => ?_) FU 0 m h).trans rfl
    exact (ih (w32 (v3 + (-1))) m_130 h).trans rfl
set_option maxRecDepth 100000 in
set_option maxHeartbeats 4000000 in
theorem fr_L11_costOf_174 {k : Nat} {i : Int} {out : Int × Mem} {m : Mem} {v4 : Int} {k205 : Int → Option (Int × Mem)} (hk205 : ∀ (v5 : Int), k205 v5 = some out → out.2 k i = m k i) : ∀ (n : Nat) (v5 : Int) (v6 : Int), L11_costOf_174 m v4 k205 n v5 v6 = some out → out.2 k i = m k i := by
  intro n
  induction n with
  | zero =>
    intro v5 v6 h
    cases h
  | succ n ih =>
    intro v5 v6 h
    rw [L11_costOf_174] at h
    rcases ite_or h with ⟨hc, h⟩ | ⟨hc, h⟩
    · exact (hk205 v5 h).trans rfl
    obtain ⟨g1, h⟩ := gd_some h
    exact (ih (F11_lesser v5 (rd m 98 (w32 ((w32 (4 * v4)) + v6)))) (w32 (v6 + 1)) h).trans rfl
set_option maxRecDepth 100000 in
set_option maxHeartbeats 4000000 in
theorem fr_L11_costOf_138 {k : Nat} {i : Int} {out : Int × Mem} {m : Mem} : ∀ (n : Nat) (v2 : Int) (v3 : Int), L11_costOf_138 m n v2 v3 = some out → out.2 k i = m k i := by
  intro n
  induction n with
  | zero =>
    intro v2 v3 h
    cases h
  | succ n ih =>
    intro v2 v3 h
    rw [L11_costOf_138] at h
    rcases ite_or h with ⟨hc, h⟩ | ⟨hc, h⟩
    · exact (congrArg (fun z : Int × Mem => z.2 k i) (Option.some.inj h)).symm.trans rfl
    obtain ⟨g1, h⟩ := gd_some h
    obtain ⟨g1, h⟩ := gd_some h
    refine (jn_e h (fun (K : Int → Option (Int × Mem)) => ∀ (v2_210 : Int), K v2_210 = some out → out.2 k i = m k i) (fun v2_210 h => ?_) (fun K210 J210 h => ?_))
    · exact (ih v2_210 (w32 (v3 + 1)) h).trans rfl
    rcases ite_or h with ⟨hc, h⟩ | ⟨hc, h⟩
    · refine (fr_L11_costOf_174 (fun v5_205 h => ?_) FU 1000000 0 h).trans rfl
      exact (J210 (w32 (v2 + v5_205)) h).trans rfl
    exact (J210 v2 h).trans rfl
set_option maxRecDepth 100000 in
set_option maxHeartbeats 4000000 in
theorem fr_F11_costOf {k : Nat} {i : Int} {m : Mem}  {v1 : Int} {out : Int × Mem} (hk_98 : k ≠ 98) (h : F11_costOf m v1 = some out) : out.2 k i = m k i := by
  unfold F11_costOf at h
  refine (fr_L11_costOf_9 hk_98 (fun m_136 h => ?_) FU (w32 ((rd m 83 24) - 1)) m h).trans rfl
  refine (fr_L11_costOf_138 FU 0 0 h).trans rfl
set_option maxRecDepth 100000 in
set_option maxHeartbeats 4000000 in
theorem fr_L11_findBeyond_59 {k : Nat} {i : Int} {out : Mem} {m : Mem} {v2 : Int} {v3 : Int} {v4 : Int} {k137 : Int → Option Mem} (hk137 : ∀ (v5 : Int), k137 v5 = some out → out k i = m k i) : ∀ (n : Nat) (v5 : Int) (v6 : Int), L11_findBeyond_59 m v2 v3 v4 k137 n v5 v6 = some out → out k i = m k i := by
  intro n
  induction n with
  | zero =>
    intro v5 v6 h
    cases h
  | succ n ih =>
    intro v5 v6 h
    rw [L11_findBeyond_59] at h
    rcases ite_or h with ⟨hc, h⟩ | ⟨hc, h⟩
    · exact (hk137 v5 h).trans rfl
    obtain ⟨g1, h⟩ := gd_some h
    refine (jn_e h (fun (K : Int → Option Mem) => ∀ (v5_131 : Int), K v5_131 = some out → out k i = m k i) (fun v5_131 h => ?_) (fun K131 J131 h => ?_))
    · exact (ih v5_131 (w32 (v6 + 1)) h).trans rfl
    rcases ite_or h with ⟨hc, h⟩ | ⟨hc, h⟩
    · obtain ⟨g1, h⟩ := gd_some h
      obtain ⟨g1, h⟩ := gd_some h
      obtain ⟨r113, e113, h⟩ := b1_some h
      obtain ⟨r122, e122, h⟩ := b1_some h
      exact (J131 (F11_lesser v5 (w32 ((w32 ((w32 ((rd m 99 (w32 ((w32 (4 * v3)) + v6))) + (rd m 98 (w32 ((w32 (4 * v3)) + v6))))) - r113)) + r122))) h).trans rfl
    exact (J131 v5 h).trans rfl
set_option maxRecDepth 100000 in
set_option maxHeartbeats 4000000 in
theorem fr_L11_findBeyond_27 {k : Nat} {i : Int} {out : Mem} {v2 : Int} {v3 : Int} {k156 : Mem → Option Mem} (hk_99 : k ≠ 99) (hk156 : ∀ (m : Mem), k156 m = some out → out k i = m k i) : ∀ (n : Nat) (v4 : Int) (m : Mem), L11_findBeyond_27 v2 v3 k156 n v4 m = some out → out k i = m k i := by
  intro n
  induction n with
  | zero =>
    intro v4 m h
    cases h
  | succ n ih =>
    intro v4 m h
    rw [L11_findBeyond_27] at h
    rcases ite_or h with ⟨hc, h⟩ | ⟨hc, h⟩
    · exact (hk156 m h).trans rfl
    refine (jn_e h (fun (K : Mem → Option Mem) => ∀ (m_150 : Mem), K m_150 = some out → out k i = m_150 k i) (fun m_150 h => ?_) (fun K150 J150 h => ?_))
    · exact (ih (w32 (v4 + 1)) m_150 h).trans rfl
    rcases ite_or h with ⟨hc, h⟩ | ⟨hc, h⟩
    · refine (fr_L11_findBeyond_59 (fun v5_137 h => ?_) FU 1000000 0 h).trans rfl
      obtain ⟨g1, h⟩ := gd_some h
      replace h := stw_e h
      have f149 : (wr m 99 (w32 ((w32 (4 * v2)) + v4)) v5_137) k i = m k i := wr_ka hk_99
      generalize wr m 99 (w32 ((w32 (4 * v2)) + v4)) v5_137 = m149 at h f149
      exact (J150 m149 h).trans f149
    obtain ⟨g1, h⟩ := gd_some h
    replace h := stw_e h
    have f48 : (wr m 99 (w32 ((w32 (4 * v2)) + v4)) 0) k i = m k i := wr_ka hk_99
    generalize wr m 99 (w32 ((w32 (4 * v2)) + v4)) 0 = m48 at h f48
    exact (J150 m48 h).trans f48
set_option maxRecDepth 100000 in
set_option maxHeartbeats 4000000 in
theorem fr_L11_findBeyond_2 {k : Nat} {i : Int} {out : Mem} (hk_99 : k ≠ 99) : ∀ (n : Nat) (v1 : Int) (m : Mem), L11_findBeyond_2 n v1 m = some out → out k i = m k i := by
  intro n
  induction n with
  | zero =>
    intro v1 m h
    cases h
  | succ n ih =>
    intro v1 m h
    rw [L11_findBeyond_2] at h
    rcases ite_or h with ⟨hc, h⟩ | ⟨hc, h⟩
    · exact (congrArg (fun z : Mem => z k i) (Option.some.inj h)).symm.trans rfl
    obtain ⟨g1, h⟩ := gd_some h
    obtain ⟨g1, h⟩ := gd_some h
    refine (fr_L11_findBeyond_27 hk_99 (fun m_156 h => ?_) FU 0 m h).trans rfl
    exact (ih (w32 (v1 + 1)) m_156 h).trans rfl
set_option maxRecDepth 100000 in
set_option maxHeartbeats 4000000 in
theorem fr_F11_findBeyond {k : Nat} {i : Int} {m : Mem}  {out : Mem} (hk_99 : k ≠ 99) (h : F11_findBeyond m = some out) : out k i = m k i := by
  unfold F11_findBeyond at h
  refine (fr_L11_findBeyond_2 hk_99 FU 0 m h).trans rfl
set_option maxRecDepth 100000 in
set_option maxHeartbeats 4000000 in
theorem fr_L11_lookAtAll_7 {k : Nat} {i : Int} {out : Mem} {k50 : Mem → Option Mem} (hk_97 : k ≠ 97) (hk_96 : k ≠ 96) (hk50 : ∀ (m : Mem), k50 m = some out → out k i = m k i) : ∀ (n : Nat) (v1 : Int) (m : Mem), L11_lookAtAll_7 k50 n v1 m = some out → out k i = m k i := by
  intro n
  induction n with
  | zero =>
    intro v1 m h
    cases h
  | succ n ih =>
    intro v1 m h
    rw [L11_lookAtAll_7] at h
    rcases ite_or h with ⟨hc, h⟩ | ⟨hc, h⟩
    · exact (hk50 m h).trans rfl
    refine (jn_e h (fun (K : Int → Option Mem) => ∀ (x31 : Int), K x31 = some out → out k i = m k i) (fun x31 h => ?_) (fun K31 J31 h => ?_))
    · obtain ⟨g1, h⟩ := gd_some h
      replace h := stw_e h
      have f31 : (wr m 97 v1 x31) k i = m k i := wr_ka hk_97
      generalize wr m 97 v1 x31 = m31 at h f31
      obtain ⟨g1, h⟩ := gd_some h
      obtain ⟨g1, h⟩ := gd_some h
      replace h := stw_e h
      have f43 : (wr m31 96 v1 (rd m31 88 v1)) k i = m31 k i := wr_ka hk_96
      generalize wr m31 96 v1 (rd m31 88 v1) = m43 at h f43
      exact (ih (w32 (v1 + 1)) m43 h).trans (f43.trans f31)
    rcases ite_or h with ⟨hc, h⟩ | ⟨hc, h⟩
    · exact (J31 0 h).trans rfl
    exact (J31 1 h).trans rfl
set_option maxRecDepth 100000 in
set_option maxHeartbeats 4000000 in
theorem fr_F11_lookAtAll {k : Nat} {i : Int} {m : Mem}  {out : Mem} (hf25_83 : ¬ (k = 83 ∧ i = 25)) (hk_97 : k ≠ 97) (hk_96 : k ≠ 96) (hf24_83 : ¬ (k = 83 ∧ i = 24)) (hk_100 : k ≠ 100) (h : F11_lookAtAll m = some out) : out k i = m k i := by
  unfold F11_lookAtAll at h
  replace h := stw_e h
  have f2 : (wr m 83 25 (-1)) k i = m k i := wr_ki hf25_83
  generalize wr m 83 25 (-1) = m2 at h f2
  refine (fr_L11_lookAtAll_7 hk_97 hk_96 (fun m_50 h => ?_) FU 0 m2 h).trans f2
  obtain ⟨m51, e51, h⟩ := b1_some h
  have f51 : m51 k i = m_50 k i := fr_F11_findOrder hf24_83 hk_100 e51
  exact (congrArg (fun z : Mem => z k i) (Option.some.inj h)).symm.trans f51
set_option maxRecDepth 100000 in
set_option maxHeartbeats 4000000 in
theorem fr_L11_cost_32 {k : Nat} {i : Int} {out : Int × Mem} (hk_98 : k ≠ 98) : ∀ (n : Nat) (v2 : Int) (v3 : Int) (m : Mem), L11_cost_32 n v2 v3 m = some out → out.2 k i = m k i := by
  intro n
  induction n with
  | zero =>
    intro v2 v3 m h
    cases h
  | succ n ih =>
    intro v2 v3 m h
    rw [L11_cost_32] at h
    rcases ite_or h with ⟨hc, h⟩ | ⟨hc, h⟩
    · exact (congrArg (fun z : Int × Mem => z.2 k i) (Option.some.inj h)).symm.trans rfl
    obtain ⟨r41, m41, e41, h⟩ := b2_some h
    have f41 : m41 k i = m k i := fr_F11_costOf hk_98 e41
    exact (ih (w32 (v2 + r41)) (w32 (v3 + 1)) m41 h).trans f41
set_option maxRecDepth 100000 in
set_option maxHeartbeats 4000000 in
theorem fr_F11_cost {k : Nat} {i : Int} {m : Mem}  {v1 : Int} {out : Int × Mem} (hf25_83 : ¬ (k = 83 ∧ i = 25)) (hk_97 : k ≠ 97) (hk_96 : k ≠ 96) (hf24_83 : ¬ (k = 83 ∧ i = 24)) (hk_100 : k ≠ 100) (hk_98 : k ≠ 98) (h : F11_cost m v1 = some out) : out.2 k i = m k i := by
  unfold F11_cost at h
  refine (jn_e h (fun (K : Option (Int × Mem)) => K = some out → out.2 k i = m k i) (fun h => ?_) (fun K14 J14 h => ?_))
  · obtain ⟨m15, e15, h⟩ := b1_some h
    have f15 : m15 k i = m k i := fr_F11_lookAtAll hf25_83 hk_97 hk_96 hf24_83 hk_100 e15
    rcases ite_or h with ⟨hc, h⟩ | ⟨hc, h⟩
    · refine (fr_L11_cost_32 hk_98 FU 0 0 m15 h).trans f15
    obtain ⟨r24, m24, e24, h⟩ := b2_some h
    have f24 : m24 k i = m15 k i := fr_F11_costOf hk_98 e24
    exact (congrArg (fun z : Int × Mem => z.2 k i) (Option.some.inj h)).symm.trans (f24.trans f15)
  rcases ite_or h with ⟨hc, h⟩ | ⟨hc, h⟩
  · exact (J14 h).trans rfl
  rcases ite_or h with ⟨hc, h⟩ | ⟨hc, h⟩
  · exact (J14 h).trans rfl
  exact (congrArg (fun z : Int × Mem => z.2 k i) (Option.some.inj h)).symm.trans rfl
set_option maxRecDepth 100000 in
set_option maxHeartbeats 4000000 in
theorem fr_L11_filledBy_16 {k : Nat} {i : Int} {out : Int × Mem} {m : Mem} {v1 : Int} {k72 : Int → Option (Int × Mem)} (hk72 : ∀ (v3 : Int), k72 v3 = some out → out.2 k i = m k i) : ∀ (n : Nat) (v3 : Int) (v4 : Int), L11_filledBy_16 m v1 k72 n v3 v4 = some out → out.2 k i = m k i := by
  intro n
  induction n with
  | zero =>
    intro v3 v4 h
    cases h
  | succ n ih =>
    intro v3 v4 h
    rw [L11_filledBy_16] at h
    rcases ite_or h with ⟨hc, h⟩ | ⟨hc, h⟩
    · exact (hk72 v3 h).trans rfl
    obtain ⟨g1, h⟩ := gd_some h
    refine (jn_e h (fun (K : Int → Option (Int × Mem)) => ∀ (v3_66 : Int), K v3_66 = some out → out.2 k i = m k i) (fun v3_66 h => ?_) (fun K66 J66 h => ?_))
    · exact (ih v3_66 (w32 (v4 + 1)) h).trans rfl
    rcases ite_or h with ⟨hc, h⟩ | ⟨hc, h⟩
    · exact (J66 v3 h).trans rfl
    obtain ⟨g1, h⟩ := gd_some h
    obtain ⟨g1, h⟩ := gd_some h
    exact (J66 (F11_lesser v3 (w32 ((rd m 98 (w32 ((w32 (4 * v1)) + v4))) + (rd m 99 (w32 ((w32 (4 * v1)) + v4)))))) h).trans rfl
set_option maxRecDepth 100000 in
set_option maxHeartbeats 4000000 in
theorem fr_L11_filledBy_78 {k : Nat} {i : Int} {out : Int × Mem} {m : Mem} {v1 : Int} {v3 : Int} : ∀ (n : Nat) (v4 : Int) (v5 : Int), L11_filledBy_78 m v1 v3 n v4 v5 = some out → out.2 k i = m k i := by
  intro n
  induction n with
  | zero =>
    intro v4 v5 h
    cases h
  | succ n ih =>
    intro v4 v5 h
    rw [L11_filledBy_78] at h
    rcases ite_or h with ⟨hc, h⟩ | ⟨hc, h⟩
    · exact (congrArg (fun z : Int × Mem => z.2 k i) (Option.some.inj h)).symm.trans rfl
    obtain ⟨g1, h⟩ := gd_some h
    refine (jn_e h (fun (K : Int → Option (Int × Mem)) => ∀ (v4_136 : Int), K v4_136 = some out → out.2 k i = m k i) (fun v4_136 h => ?_) (fun K136 J136 h => ?_))
    · exact (ih v4_136 (w32 (v5 + 1)) h).trans rfl
    rcases ite_or h with ⟨hc, h⟩ | ⟨hc, h⟩
    · exact (J136 v4 h).trans rfl
    obtain ⟨g1, h⟩ := gd_some h
    obtain ⟨g1, h⟩ := gd_some h
    rcases ite_or h with ⟨hc, h⟩ | ⟨hc, h⟩
    · exact (J136 v4 h).trans rfl
    exact (J136 (bor v4 (shl 1 v5)) h).trans rfl
set_option maxRecDepth 100000 in
set_option maxHeartbeats 4000000 in
theorem fr_F11_filledBy {k : Nat} {i : Int} {m : Mem}  {v1 v2 : Int} {out : Int × Mem} (hk_98 : k ≠ 98) (hk_99 : k ≠ 99) (h : F11_filledBy m v1 v2 = some out) : out.2 k i = m k i := by
  unfold F11_filledBy at h
  obtain ⟨r2, m2, e2, h⟩ := b2_some h
  have f2 : m2 k i = m k i := fr_F11_costOf hk_98 e2
  obtain ⟨m7, e7, h⟩ := b1_some h
  have f7 : m7 k i = m2 k i := fr_F11_findBeyond hk_99 e7
  refine (fr_L11_filledBy_16 (fun v3_72 h => ?_) FU 1000000 0 h).trans (f7.trans f2)
  refine (fr_L11_filledBy_78 FU 0 0 h).trans rfl
set_option maxRecDepth 100000 in
set_option maxHeartbeats 4000000 in
theorem fr_F11_filled {k : Nat} {i : Int} {m : Mem}  {v1 v2 : Int} {out : Int × Mem} (hf25_83 : ¬ (k = 83 ∧ i = 25)) (hk_97 : k ≠ 97) (hk_96 : k ≠ 96) (hf24_83 : ¬ (k = 83 ∧ i = 24)) (hk_100 : k ≠ 100) (hk_98 : k ≠ 98) (hk_99 : k ≠ 99) (h : F11_filled m v1 v2 = some out) : out.2 k i = m k i := by
  unfold F11_filled at h
  rcases ite_or h with ⟨hc, h⟩ | ⟨hc, h⟩
  · exact (congrArg (fun z : Int × Mem => z.2 k i) (Option.some.inj h)).symm.trans rfl
  rcases ite_or h with ⟨hc, h⟩ | ⟨hc, h⟩
  · obtain ⟨m18, e18, h⟩ := b1_some h
    have f18 : m18 k i = m k i := fr_F11_lookAtAll hf25_83 hk_97 hk_96 hf24_83 hk_100 e18
    obtain ⟨r24, m24, e24, h⟩ := b2_some h
    have f24 : m24 k i = m18 k i := fr_F11_filledBy hk_98 hk_99 e24
    exact (congrArg (fun z : Int × Mem => z.2 k i) (Option.some.inj h)).symm.trans (f24.trans f18)
  exact (congrArg (fun z : Int × Mem => z.2 k i) (Option.some.inj h)).symm.trans rfl
set_option maxRecDepth 100000 in
set_option maxHeartbeats 4000000 in
theorem fr_F11_law {k : Nat} {i : Int} {m : Mem}  {v1 v2 : Int} {out : Int × Mem} (hf25_83 : ¬ (k = 83 ∧ i = 25)) (hk_97 : k ≠ 97) (hk_96 : k ≠ 96) (hf24_83 : ¬ (k = 83 ∧ i = 24)) (hk_100 : k ≠ 100) (hk_98 : k ≠ 98) (hk_99 : k ≠ 99) (h : F11_law m v1 v2 = some out) : out.2 k i = m k i := by
  unfold F11_law at h
  rcases ite_or h with ⟨hc, h⟩ | ⟨hc, h⟩
  · exact (congrArg (fun z : Int × Mem => z.2 k i) (Option.some.inj h)).symm.trans rfl
  rcases ite_or h with ⟨hc, h⟩ | ⟨hc, h⟩
  · obtain ⟨m18, e18, h⟩ := b1_some h
    have f18 : m18 k i = m k i := fr_F11_lookAtAll hf25_83 hk_97 hk_96 hf24_83 hk_100 e18
    replace h := stw_e h
    have f23 : (wr m18 83 25 v1) k i = m18 k i := wr_ki hf25_83
    generalize wr m18 83 25 v1 = m23 at h f23
    obtain ⟨r29, m29, e29, h⟩ := b2_some h
    have f29 : m29 k i = m23 k i := fr_F11_filledBy hk_98 hk_99 e29
    replace h := stw_e h
    have f35 : (wr m29 83 25 (-1)) k i = m29 k i := wr_ki hf25_83
    generalize wr m29 83 25 (-1) = m35 at h f35
    exact (congrArg (fun z : Int × Mem => z.2 k i) (Option.some.inj h)).symm.trans (f35.trans (f29.trans (f23.trans f18)))
  exact (congrArg (fun z : Int × Mem => z.2 k i) (Option.some.inj h)).symm.trans rfl
set_option maxRecDepth 100000 in
set_option maxHeartbeats 4000000 in
theorem fr_L11_findDays_2 {k : Nat} {i : Int} {out : Int × Mem} {k69 : Mem → Option (Int × Mem)} (hk_101 : k ≠ 101) (hk69 : ∀ (m : Mem), k69 m = some out → out.2 k i = m k i) : ∀ (n : Nat) (v1 : Int) (m : Mem), L11_findDays_2 k69 n v1 m = some out → out.2 k i = m k i := by
  intro n
  induction n with
  | zero =>
    intro v1 m h
    cases h
  | succ n ih =>
    intro v1 m h
    rw [L11_findDays_2] at h
    rcases ite_or h with ⟨hc, h⟩ | ⟨hc, h⟩
    · exact (hk69 m h).trans rfl
    obtain ⟨g1, h⟩ := gd_some h
    obtain ⟨g1, h⟩ := gd_some h
    refine (jn_e h (fun (K : Int → Option (Int × Mem)) => ∀ (x62 : Int), K x62 = some out → out.2 k i = m k i) (fun x62 h => ?_) (fun K62 J62 h => ?_))
    · obtain ⟨g1, h⟩ := gd_some h
      replace h := stw_e h
      have f62 : (wr m 101 (rd m 100 v1) x62) k i = m k i := wr_ka hk_101
      generalize wr m 101 (rd m 100 v1) x62 = m62 at h f62
      exact (ih (w32 (v1 + 1)) m62 h).trans f62
    rcases ite_or h with ⟨hc, h⟩ | ⟨hc, h⟩
    · obtain ⟨g1, h⟩ := gd_some h
      obtain ⟨g1, h⟩ := gd_some h
      obtain ⟨g1, h⟩ := gd_some h
      exact (J62 (F11_greater (rd m 84 (rd m 100 v1)) (w32 ((rd m 101 (rd m 96 (rd m 100 v1))) + 1))) h).trans rfl
    obtain ⟨g1, h⟩ := gd_some h
    exact (J62 (rd m 84 (rd m 100 v1)) h).trans rfl
set_option maxRecDepth 100000 in
set_option maxHeartbeats 4000000 in
theorem fr_L11_findDays_101 {k : Nat} {i : Int} {out : Int × Mem} {v2 : Int} {k157 : Mem → Option (Int × Mem)} (hk_102 : k ≠ 102) (hk157 : ∀ (m : Mem), k157 m = some out → out.2 k i = m k i) : ∀ (n : Nat) (v3 : Int) (m : Mem), L11_findDays_101 v2 k157 n v3 m = some out → out.2 k i = m k i := by
  intro n
  induction n with
  | zero =>
    intro v3 m h
    cases h
  | succ n ih =>
    intro v3 m h
    rw [L11_findDays_101] at h
    rcases ite_or h with ⟨hc, h⟩ | ⟨hc, h⟩
    · exact (hk157 m h).trans rfl
    obtain ⟨g1, h⟩ := gd_some h
    refine (jn_e h (fun (K : Mem → Option (Int × Mem)) => ∀ (m_151 : Mem), K m_151 = some out → out.2 k i = m_151 k i) (fun m_151 h => ?_) (fun K151 J151 h => ?_))
    · exact (ih (w32 (v3 + 1)) m_151 h).trans rfl
    rcases ite_or h with ⟨hc, h⟩ | ⟨hc, h⟩
    · exact (J151 m h).trans rfl
    obtain ⟨g1, h⟩ := gd_some h
    rcases ite_or h with ⟨hc, h⟩ | ⟨hc, h⟩
    · exact (J151 m h).trans rfl
    obtain ⟨g1, h⟩ := gd_some h
    obtain ⟨g1, h⟩ := gd_some h
    obtain ⟨g1, h⟩ := gd_some h
    replace h := stw_e h
    have f150 : (wr m 102 v2 (F11_lesser (rd m 102 v2) (w32 ((rd m 102 v3) - 1)))) k i = m k i := wr_ka hk_102
    generalize wr m 102 v2 (F11_lesser (rd m 102 v2) (w32 ((rd m 102 v3) - 1))) = m150 at h f150
    exact (J151 m150 h).trans f150
set_option maxRecDepth 100000 in
set_option maxHeartbeats 4000000 in
theorem fr_L11_findDays_76 {k : Nat} {i : Int} {out : Int × Mem} {k163 : Mem → Option (Int × Mem)} (hk_102 : k ≠ 102) (hk163 : ∀ (m : Mem), k163 m = some out → out.2 k i = m k i) : ∀ (n : Nat) (v1 : Int) (m : Mem), L11_findDays_76 k163 n v1 m = some out → out.2 k i = m k i := by
  intro n
  induction n with
  | zero =>
    intro v1 m h
    cases h
  | succ n ih =>
    intro v1 m h
    rw [L11_findDays_76] at h
    rcases ite_or h with ⟨hc, h⟩ | ⟨hc, h⟩
    · exact (hk163 m h).trans rfl
    obtain ⟨g1, h⟩ := gd_some h
    obtain ⟨g1, h⟩ := gd_some h
    obtain ⟨g1, h⟩ := gd_some h
    replace h := stw_e h
    have f98 : (wr m 102 (rd m 100 v1) (rd m 85 (rd m 100 v1))) k i = m k i := wr_ka hk_102
    generalize wr m 102 (rd m 100 v1) (rd m 85 (rd m 100 v1)) = m98 at h f98
    refine (fr_L11_findDays_101 hk_102 (fun m_157 h => ?_) FU 0 m98 h).trans f98
    exact (ih (w32 (v1 + (-1))) m_157 h).trans rfl
set_option maxRecDepth 100000 in
set_option maxHeartbeats 4000000 in
theorem fr_L11_findDays_165 {k : Nat} {i : Int} {out : Int × Mem} {m : Mem} : ∀ (n : Nat) (v1 : Int), L11_findDays_165 m n v1 = some out → out.2 k i = m k i := by
  intro n
  induction n with
  | zero =>
    intro v1 h
    cases h
  | succ n ih =>
    intro v1 h
    rw [L11_findDays_165] at h
    rcases ite_or h with ⟨hc, h⟩ | ⟨hc, h⟩
    · exact (congrArg (fun z : Int × Mem => z.2 k i) (Option.some.inj h)).symm.trans rfl
    obtain ⟨g1, h⟩ := gd_some h
    refine (jn_e h (fun (K : Option (Int × Mem)) => K = some out → out.2 k i = m k i) (fun h => ?_) (fun K199 J199 h => ?_))
    · exact (ih (w32 (v1 + 1)) h).trans rfl
    rcases ite_or h with ⟨hc, h⟩ | ⟨hc, h⟩
    · exact (J199 h).trans rfl
    obtain ⟨g1, h⟩ := gd_some h
    obtain ⟨g1, h⟩ := gd_some h
    rcases ite_or h with ⟨hc, h⟩ | ⟨hc, h⟩
    · exact (J199 h).trans rfl
    exact (congrArg (fun z : Int × Mem => z.2 k i) (Option.some.inj h)).symm.trans rfl
set_option maxRecDepth 100000 in
set_option maxHeartbeats 4000000 in
theorem fr_F11_findDays {k : Nat} {i : Int} {m : Mem}  {out : Int × Mem} (hk_101 : k ≠ 101) (hk_102 : k ≠ 102) (h : F11_findDays m = some out) : out.2 k i = m k i := by
  unfold F11_findDays at h
  refine (fr_L11_findDays_2 hk_101 (fun m_69 h => ?_) FU 0 m h).trans rfl
  refine (fr_L11_findDays_76 hk_102 (fun m_163 h => ?_) FU (w32 ((rd m_69 83 24) - 1)) m_69 h).trans rfl
  refine (fr_L11_findDays_165 FU 0 h).trans rfl
set_option maxRecDepth 100000 in
set_option maxHeartbeats 4000000 in
theorem fr_F11_days {k : Nat} {i : Int} {m : Mem}  {v1 v2 : Int} {out : Int × Mem} (hf25_83 : ¬ (k = 83 ∧ i = 25)) (hk_97 : k ≠ 97) (hk_96 : k ≠ 96) (hf24_83 : ¬ (k = 83 ∧ i = 24)) (hk_100 : k ≠ 100) (hk_101 : k ≠ 101) (hk_102 : k ≠ 102) (h : F11_days m v1 v2 = some out) : out.2 k i = m k i := by
  unfold F11_days at h
  rcases ite_or h with ⟨hc, h⟩ | ⟨hc, h⟩
  · exact (congrArg (fun z : Int × Mem => z.2 k i) (Option.some.inj h)).symm.trans rfl
  rcases ite_or h with ⟨hc, h⟩ | ⟨hc, h⟩
  · obtain ⟨m20, e20, h⟩ := b1_some h
    have f20 : m20 k i = m k i := fr_F11_lookAtAll hf25_83 hk_97 hk_96 hf24_83 hk_100 e20
    obtain ⟨r24, m24, e24, h⟩ := b2_some h
    have f24 : m24 k i = m20 k i := fr_F11_findDays hk_101 hk_102 e24
    rcases ite_or h with ⟨hc, h⟩ | ⟨hc, h⟩
    · rcases ite_or h with ⟨hc, h⟩ | ⟨hc, h⟩
      · rcases ite_or h with ⟨hc, h⟩ | ⟨hc, h⟩
        · obtain ⟨g1, h⟩ := gd_some h
          exact (congrArg (fun z : Int × Mem => z.2 k i) (Option.some.inj h)).symm.trans (f24.trans f20)
        obtain ⟨g1, h⟩ := gd_some h
        exact (congrArg (fun z : Int × Mem => z.2 k i) (Option.some.inj h)).symm.trans (f24.trans f20)
      exact (congrArg (fun z : Int × Mem => z.2 k i) (Option.some.inj h)).symm.trans (f24.trans f20)
    exact (congrArg (fun z : Int × Mem => z.2 k i) (Option.some.inj h)).symm.trans (f24.trans f20)
  exact (congrArg (fun z : Int × Mem => z.2 k i) (Option.some.inj h)).symm.trans rfl
set_option maxRecDepth 100000 in
set_option maxHeartbeats 4000000 in
theorem fr_F11_list {k : Nat} {i : Int} {m : Mem}  {v1 : Int} {out : Int × Mem} (hk_103 : k ≠ 103) (hf28_83 : ¬ (k = 83 ∧ i = 28)) (hf31_83 : ¬ (k = 83 ∧ i = 31)) (h : F11_list m v1 = some out) : out.2 k i = m k i := by
  unfold F11_list at h
  rcases ite_or h with ⟨hc, h⟩ | ⟨hc, h⟩
  · exact (congrArg (fun z : Int × Mem => z.2 k i) (Option.some.inj h)).symm.trans rfl
  obtain ⟨r10, e10, h⟩ := b1_some h
  rcases ite_or h with ⟨hc, h⟩ | ⟨hc, h⟩
  · rcases ite_or h with ⟨hc, h⟩ | ⟨hc, h⟩
    · obtain ⟨g1, h⟩ := gd_some h
      replace h := stw_e h
      have f39 : (wr m 103 (rd m 83 28) v1) k i = m k i := wr_ka hk_103
      generalize wr m 103 (rd m 83 28) v1 = m39 at h f39
      replace h := stw_e h
      have f47 : (wr m39 83 28 (w32 ((rd m39 83 28) + 1))) k i = m39 k i := wr_ki hf28_83
      generalize wr m39 83 28 (w32 ((rd m39 83 28) + 1)) = m47 at h f47
      replace h := stw_e h
      have f52 : (wr m47 83 31 0) k i = m47 k i := wr_ki hf31_83
      generalize wr m47 83 31 0 = m52 at h f52
      exact (congrArg (fun z : Int × Mem => z.2 k i) (Option.some.inj h)).symm.trans (f52.trans (f47.trans f39))
    exact (congrArg (fun z : Int × Mem => z.2 k i) (Option.some.inj h)).symm.trans rfl
  exact (congrArg (fun z : Int × Mem => z.2 k i) (Option.some.inj h)).symm.trans rfl
set_option maxRecDepth 100000 in
set_option maxHeartbeats 4000000 in
theorem fr_F11_unlist {k : Nat} {i : Int} {m : Mem}  {out : Int × Mem} (hf28_83 : ¬ (k = 83 ∧ i = 28)) (hf31_83 : ¬ (k = 83 ∧ i = 31)) (h : F11_unlist m = some out) : out.2 k i = m k i := by
  unfold F11_unlist at h
  replace h := stw_e h
  have f7 : (wr m 83 28 0) k i = m k i := wr_ki hf28_83
  generalize wr m 83 28 0 = m7 at h f7
  replace h := stw_e h
  have f12 : (wr m7 83 31 0) k i = m7 k i := wr_ki hf31_83
  generalize wr m7 83 31 0 = m12 at h f12
  exact (congrArg (fun z : Int × Mem => z.2 k i) (Option.some.inj h)).symm.trans (f12.trans f7)
set_option maxRecDepth 100000 in
set_option maxHeartbeats 4000000 in
theorem fr_L11_weigh_10 {k : Nat} {i : Int} {out : Mem} {k29 : Mem → Option Mem} (hk_97 : k ≠ 97) (hk29 : ∀ (m : Mem), k29 m = some out → out k i = m k i) : ∀ (n : Nat) (v1 : Int) (m : Mem), L11_weigh_10 k29 n v1 m = some out → out k i = m k i := by
  intro n
  induction n with
  | zero =>
    intro v1 m h
    cases h
  | succ n ih =>
    intro v1 m h
    rw [L11_weigh_10] at h
    rcases ite_or h with ⟨hc, h⟩ | ⟨hc, h⟩
    · exact (hk29 m h).trans rfl
    obtain ⟨g1, h⟩ := gd_some h
    replace h := stw_e h
    have f22 : (wr m 97 v1 0) k i = m k i := wr_ka hk_97
    generalize wr m 97 v1 0 = m22 at h f22
    exact (ih (w32 (v1 + 1)) m22 h).trans f22
set_option maxRecDepth 100000 in
set_option maxHeartbeats 4000000 in
theorem fr_L11_weigh_31 {k : Nat} {i : Int} {out : Mem} {k94 : Mem → Option Mem} (hk_97 : k ≠ 97) (hk_96 : k ≠ 96) (hk94 : ∀ (m : Mem), k94 m = some out → out k i = m k i) : ∀ (n : Nat) (v1 : Int) (m : Mem), L11_weigh_31 k94 n v1 m = some out → out k i = m k i := by
  intro n
  induction n with
  | zero =>
    intro v1 m h
    cases h
  | succ n ih =>
    intro v1 m h
    rw [L11_weigh_31] at h
    rcases ite_or h with ⟨hc, h⟩ | ⟨hc, h⟩
    · exact (hk94 m h).trans rfl
    obtain ⟨g1, h⟩ := gd_some h
    obtain ⟨g1, h⟩ := gd_some h
    replace h := stw_e h
    have f50 : (wr m 97 (rd m 103 v1) 1) k i = m k i := wr_ka hk_97
    generalize wr m 97 (rd m 103 v1) 1 = m50 at h f50
    obtain ⟨g1, h⟩ := gd_some h
    obtain ⟨g1, h⟩ := gd_some h
    refine (jn_e h (fun (K : Int → Option Mem) => ∀ (x87 : Int), K x87 = some out → out k i = m50 k i) (fun x87 h => ?_) (fun K87 J87 h => ?_))
    · obtain ⟨g1, h⟩ := gd_some h
      replace h := stw_e h
      have f87 : (wr m50 96 (rd m50 103 v1) x87) k i = m50 k i := wr_ka hk_96
      generalize wr m50 96 (rd m50 103 v1) x87 = m87 at h f87
      exact (ih (w32 (v1 + 1)) m87 h).trans f87
    rcases ite_or h with ⟨hc, h⟩ | ⟨hc, h⟩
    · obtain ⟨g1, h⟩ := gd_some h
      obtain ⟨g1, h⟩ := gd_some h
      exact (J87 (rd m50 103 (rd m50 104 v1)) h).trans f50
    exact (J87 (-1) h).trans f50
set_option maxRecDepth 100000 in
set_option maxHeartbeats 4000000 in
theorem fr_L11_weigh_110 {k : Nat} {i : Int} {out : Mem} {k145 : Int → Mem → Option Mem} (hk_98 : k ≠ 98) (hk145 : ∀ (v1 : Int) (m : Mem), k145 v1 m = some out → out k i = m k i) : ∀ (n : Nat) (v1 : Int) (v2 : Int) (m : Mem), L11_weigh_110 k145 n v1 v2 m = some out → out k i = m k i := by
  intro n
  induction n with
  | zero =>
    intro v1 v2 m h
    cases h
  | succ n ih =>
    intro v1 v2 m h
    rw [L11_weigh_110] at h
    rcases ite_or h with ⟨hc, h⟩ | ⟨hc, h⟩
    · exact (hk145 v1 m h).trans rfl
    refine (jn_e h (fun (K : Option Mem) => K = some out → out k i = m k i) (fun h => ?_) (fun K131 J131 h => ?_))
    · obtain ⟨r134, m134, e134, h⟩ := b2_some h
      have f134 : m134 k i = m k i := fr_F11_costOf hk_98 e134
      exact (ih (w32 (v1 + r134)) (w32 (v2 + 1)) m134 h).trans f134
    rcases ite_or h with ⟨hc, h⟩ | ⟨hc, h⟩
    · exact (J131 h).trans rfl
    rcases ite_or h with ⟨hc, h⟩ | ⟨hc, h⟩
    · exact (hk145 v1 m h).trans rfl
    exact (J131 h).trans rfl
set_option maxRecDepth 100000 in
set_option maxHeartbeats 4000000 in
theorem fr_L11_weigh_211 {k : Nat} {i : Int} {out : Mem} {k257 : Int → Mem → Option Mem} (hk_106 : k ≠ 106) (hk257 : ∀ (v2 : Int) (m : Mem), k257 v2 m = some out → out k i = m k i) : ∀ (n : Nat) (v2 : Int) (v3 : Int) (m : Mem), L11_weigh_211 k257 n v2 v3 m = some out → out k i = m k i := by
  intro n
  induction n with
  | zero =>
    intro v2 v3 m h
    cases h
  | succ n ih =>
    intro v2 v3 m h
    rw [L11_weigh_211] at h
    rcases ite_or h with ⟨hc, h⟩ | ⟨hc, h⟩
    · exact (hk257 v2 m h).trans rfl
    obtain ⟨g1, h⟩ := gd_some h
    obtain ⟨g1, h⟩ := gd_some h
    obtain ⟨g1, h⟩ := gd_some h
    obtain ⟨g1, h⟩ := gd_some h
    replace h := stw_e h
    have f250 : (wr m 106 (w32 ((w32 (10 * v3)) + (rd m 104 v3))) (w32 ((rd m 106 (w32 ((w32 (10 * v3)) + (rd m 104 v3)))) + 1))) k i = m k i := wr_ka hk_106
    generalize wr m 106 (w32 ((w32 (10 * v3)) + (rd m 104 v3))) (w32 ((rd m 106 (w32 ((w32 (10 * v3)) + (rd m 104 v3)))) + 1)) = m250 at h f250
    exact (ih (w32 ((w32 (10 * v2)) + (rd m 104 v3))) (w32 (v3 + 1)) m250 h).trans f250
set_option maxRecDepth 100000 in
set_option maxHeartbeats 4000000 in
theorem fr_L11_weigh_188 {k : Nat} {i : Int} {out : Mem} {k207 : Mem → Option Mem} (hk_106 : k ≠ 106) (hk207 : ∀ (m : Mem), k207 m = some out → out k i = m k i) : ∀ (n : Nat) (v2 : Int) (m : Mem), L11_weigh_188 k207 n v2 m = some out → out k i = m k i := by
  intro n
  induction n with
  | zero =>
    intro v2 m h
    cases h
  | succ n ih =>
    intro v2 m h
    rw [L11_weigh_188] at h
    rcases ite_or h with ⟨hc, h⟩ | ⟨hc, h⟩
    · exact (hk207 m h).trans rfl
    obtain ⟨g1, h⟩ := gd_some h
    replace h := stw_e h
    have f200 : (wr m 106 v2 0) k i = m k i := wr_ka hk_106
    generalize wr m 106 v2 0 = m200 at h f200
    exact (ih (w32 (v2 + 1)) m200 h).trans f200
set_option maxRecDepth 100000 in
set_option maxHeartbeats 4000000 in
theorem fr_F11_weigh {k : Nat} {i : Int} {m : Mem}  {out : Mem} (hk_97 : k ≠ 97) (hk_96 : k ≠ 96) (hf24_83 : ¬ (k = 83 ∧ i = 24)) (hk_100 : k ≠ 100) (hk_101 : k ≠ 101) (hk_102 : k ≠ 102) (hk_98 : k ≠ 98) (hk_106 : k ≠ 106) (hk_105 : k ≠ 105) (hf33_83 : ¬ (k = 83 ∧ i = 33)) (hf32_83 : ¬ (k = 83 ∧ i = 32)) (h : F11_weigh m = some out) : out k i = m k i := by
  unfold F11_weigh at h
  obtain ⟨r1, e1, h⟩ := b1_some h
  rcases ite_or h with ⟨hc, h⟩ | ⟨hc, h⟩
  · refine (fr_L11_weigh_10 hk_97 (fun m_29 h => ?_) FU 0 m h).trans rfl
    refine (fr_L11_weigh_31 hk_97 hk_96 (fun m_94 h => ?_) FU 0 m_29 h).trans rfl
    obtain ⟨m95, e95, h⟩ := b1_some h
    have f95 : m95 k i = m_94 k i := fr_F11_findOrder hf24_83 hk_100 e95
    obtain ⟨r99, m99, e99, h⟩ := b2_some h
    have f99 : m99 k i = m95 k i := fr_F11_findDays hk_101 hk_102 e99
    rcases ite_or h with ⟨hc, h⟩ | ⟨hc, h⟩
    · refine (fr_L11_weigh_110 hk_98 (fun v1_145 m_145 h => ?_) FU 0 0 m99 h).trans (f99.trans f95)
      refine (jn_e h (fun (K : Option Mem) => K = some out → out k i = m_145 k i) (fun h => ?_) (fun K161 J161 h => ?_))
      · refine (jn_e h (fun (K : Mem → Option Mem) => ∀ (m_207 : Mem), K m_207 = some out → out k i = m_207 k i) (fun m_207 h => ?_) (fun K207 J207 h => ?_))
        · refine (fr_L11_weigh_211 hk_106 (fun v2_257 m_257 h => ?_) FU 0 0 m_207 h).trans rfl
          obtain ⟨g1, h⟩ := gd_some h
          replace h := stw_e h
          have f266 : (wr m_257 105 (rd m_257 83 33) v2_257) k i = m_257 k i := wr_ka hk_105
          generalize wr m_257 105 (rd m_257 83 33) v2_257 = m266 at h f266
          replace h := stw_e h
          have f274 : (wr m266 83 33 (w32 ((rd m266 83 33) + 1))) k i = m266 k i := wr_ki hf33_83
          generalize wr m266 83 33 (w32 ((rd m266 83 33) + 1)) = m274 at h f274
          exact (congrArg (fun z : Mem => z k i) (Option.some.inj h)).symm.trans (f274.trans f266)
        refine (jn_e h (fun (K : Option Mem) => K = some out → out k i = m_145 k i) (fun h => ?_) (fun K176 J176 h => ?_))
        · replace h := stw_e h
          have f178 : (wr m_145 83 32 v1_145) k i = m_145 k i := wr_ki hf32_83
          generalize wr m_145 83 32 v1_145 = m178 at h f178
          replace h := stw_e h
          have f183 : (wr m178 83 33 0) k i = m178 k i := wr_ki hf33_83
          generalize wr m178 83 33 0 = m183 at h f183
          refine (fr_L11_weigh_188 hk_106 (fun m_207 h => ?_) FU 0 m183 h).trans (f183.trans f178)
          exact (J207 m_207 h).trans rfl
        rcases ite_or h with ⟨hc, h⟩ | ⟨hc, h⟩
        · exact (J176 h).trans rfl
        rcases ite_or h with ⟨hc, h⟩ | ⟨hc, h⟩
        · exact (J207 m_145 h).trans rfl
        exact (J176 h).trans rfl
      rcases ite_or h with ⟨hc, h⟩ | ⟨hc, h⟩
      · exact (J161 h).trans rfl
      rcases ite_or h with ⟨hc, h⟩ | ⟨hc, h⟩
      · exact (J161 h).trans rfl
      exact (congrArg (fun z : Mem => z k i) (Option.some.inj h)).symm.trans rfl
    exact (congrArg (fun z : Mem => z k i) (Option.some.inj h)).symm.trans (f99.trans f95)
  exact (congrArg (fun z : Mem => z k i) (Option.some.inj h)).symm.trans rfl
set_option maxRecDepth 100000 in
set_option maxHeartbeats 4000000 in
theorem fr_L11_mothersFrom_20 {k : Nat} {i : Int} {out : Mem} {v1 : Int} {v2 : Int} {k57 : Mem → Option Mem} (hk_104 : k ≠ 104) {rec : Mem → Int → Int → Option Mem} (rec_fr : ∀ {m : Mem} {w0 : Int} {w1 : Int} {out : Mem}, rec m w0 w1 = some out → out k i = m k i) (hk57 : ∀ (m : Mem), k57 m = some out → out k i = m k i) : ∀ (n : Nat) (v3 : Int) (m : Mem), L11_mothersFrom_20 rec v1 v2 k57 n v3 m = some out → out k i = m k i := by
  intro n
  induction n with
  | zero =>
    intro v3 m h
    cases h
  | succ n ih =>
    intro v3 m h
    rw [L11_mothersFrom_20] at h
    rcases ite_or h with ⟨hc, h⟩ | ⟨hc, h⟩
    · exact (hk57 m h).trans rfl
    refine (jn_e h (fun (K : Mem → Option Mem) => ∀ (m_51 : Mem), K m_51 = some out → out k i = m_51 k i) (fun m_51 h => ?_) (fun K51 J51 h => ?_))
    · exact (ih (w32 (v3 + 1)) m_51 h).trans rfl
    rcases ite_or h with ⟨hc, h⟩ | ⟨hc, h⟩
    · obtain ⟨g1, h⟩ := gd_some h
      replace h := stw_e h
      have f42 : (wr m 104 v1 v3) k i = m k i := wr_ka hk_104
      generalize wr m 104 v1 v3 = m42 at h f42
      obtain ⟨m48, e48, h⟩ := b1_some h
      have f48 : m48 k i = m42 k i := rec_fr e48
      exact (J51 m48 h).trans (f48.trans f42)
    exact (J51 m h).trans rfl
set_option maxRecDepth 100000 in
set_option maxHeartbeats 4000000 in
theorem fr_F11_mothersFrom {k : Nat} {i : Int} (hk_104 : k ≠ 104) (hk_97 : k ≠ 97) (hk_96 : k ≠ 96) (hf24_83 : ¬ (k = 83 ∧ i = 24)) (hk_100 : k ≠ 100) (hk_101 : k ≠ 101) (hk_102 : k ≠ 102) (hk_98 : k ≠ 98) (hk_106 : k ≠ 106) (hk_105 : k ≠ 105) (hf33_83 : ¬ (k = 83 ∧ i = 33)) (hf32_83 : ¬ (k = 83 ∧ i = 32)) : ∀ (n : Nat) {m : Mem}  {v1 v2 : Int} {out : Mem} , F11_mothersFrom n m v1 v2 = some out → out k i = m k i := by
  intro n
  induction n with
  | zero => intro _ _ _ _ h; cases h
  | succ n rec_ih =>
    intro m v1 v2 out h
    have rec_fr : ∀ {m : Mem} {v1 : Int} {v2 : Int} {out : Mem}, F11_mothersFrom n m v1 v2 = some out → out k i = m k i := rec_ih
    rw [F11_mothersFrom] at h
    rcases ite_or h with ⟨hc, h⟩ | ⟨hc, h⟩
    · refine (fr_L11_mothersFrom_20 hk_104 rec_fr (fun m_57 h => ?_) FU 0 m h).trans rfl
      obtain ⟨g1, h⟩ := gd_some h
      replace h := stw_e h
      have f64 : (wr m_57 104 v1 9) k i = m_57 k i := wr_ka hk_104
      generalize wr m_57 104 v1 9 = m64 at h f64
      rcases ite_or h with ⟨hc, h⟩ | ⟨hc, h⟩
      · exact (congrArg (fun z : Mem => z k i) (Option.some.inj h)).symm.trans f64
      obtain ⟨m74, e74, h⟩ := b1_some h
      have f74 : m74 k i = m64 k i := rec_fr e74
      exact (congrArg (fun z : Mem => z k i) (Option.some.inj h)).symm.trans (f74.trans f64)
    rcases ite_or h with ⟨hc, h⟩ | ⟨hc, h⟩
    · exact (congrArg (fun z : Mem => z k i) (Option.some.inj h)).symm.trans rfl
    obtain ⟨m14, e14, h⟩ := b1_some h
    have f14 : m14 k i = m k i := fr_F11_weigh hk_97 hk_96 hf24_83 hk_100 hk_101 hk_102 hk_98 hk_106 hk_105 hf33_83 hf32_83 e14
    exact (congrArg (fun z : Mem => z k i) (Option.some.inj h)).symm.trans f14
set_option maxRecDepth 100000 in
set_option maxHeartbeats 4000000 in
theorem fr_F11_findBest {k : Nat} {i : Int} {m : Mem}  {out : Mem} (hf31_83 : ¬ (k = 83 ∧ i = 31)) (hf25_83 : ¬ (k = 83 ∧ i = 25)) (hf33_83 : ¬ (k = 83 ∧ i = 33)) (hk_104 : k ≠ 104) (hk_97 : k ≠ 97) (hk_96 : k ≠ 96) (hf24_83 : ¬ (k = 83 ∧ i = 24)) (hk_100 : k ≠ 100) (hk_101 : k ≠ 101) (hk_102 : k ≠ 102) (hk_98 : k ≠ 98) (hk_106 : k ≠ 106) (hk_105 : k ≠ 105) (hf32_83 : ¬ (k = 83 ∧ i = 32)) (h : F11_findBest m = some out) : out k i = m k i := by
  unfold F11_findBest at h
  rcases ite_or h with ⟨hc, h⟩ | ⟨hc, h⟩
  · replace h := stw_e h
    have f10 : (wr m 83 31 1) k i = m k i := wr_ki hf31_83
    generalize wr m 83 31 1 = m10 at h f10
    replace h := stw_e h
    have f15 : (wr m10 83 25 (-1)) k i = m10 k i := wr_ki hf25_83
    generalize wr m10 83 25 (-1) = m15 at h f15
    replace h := stw_e h
    have f20 : (wr m15 83 33 0) k i = m15 k i := wr_ki hf33_83
    generalize wr m15 83 33 0 = m20 at h f20
    obtain ⟨m26, e26, h⟩ := b1_some h
    have f26 : m26 k i = m20 k i := fr_F11_mothersFrom hk_104 hk_97 hk_96 hf24_83 hk_100 hk_101 hk_102 hk_98 hk_106 hk_105 hf33_83 hf32_83 9 e26
    exact (congrArg (fun z : Mem => z k i) (Option.some.inj h)).symm.trans (f26.trans (f20.trans (f15.trans f10)))
  exact (congrArg (fun z : Mem => z k i) (Option.some.inj h)).symm.trans rfl
set_option maxRecDepth 100000 in
set_option maxHeartbeats 4000000 in
theorem fr_L11_best_95 {k : Nat} {i : Int} {out : Int × Mem} {m : Mem} {v3 : Int} {k133 : Int → Option (Int × Mem)} (hk133 : ∀ (v2 : Int), k133 v2 = some out → out.2 k i = m k i) : ∀ (n : Nat) (v2 : Int) (v4 : Int), L11_best_95 m v3 k133 n v2 v4 = some out → out.2 k i = m k i := by
  intro n
  induction n with
  | zero =>
    intro v2 v4 h
    cases h
  | succ n ih =>
    intro v2 v4 h
    rw [L11_best_95] at h
    rcases ite_or h with ⟨hc, h⟩ | ⟨hc, h⟩
    · exact (hk133 v2 h).trans rfl
    obtain ⟨g1, h⟩ := gd_some h
    refine (jn_e h (fun (K : Int → Option (Int × Mem)) => ∀ (v2_127 : Int), K v2_127 = some out → out.2 k i = m k i) (fun v2_127 h => ?_) (fun K127 J127 h => ?_))
    · exact (ih v2_127 (w32 (v4 + 1)) h).trans rfl
    rcases ite_or h with ⟨hc, h⟩ | ⟨hc, h⟩
    · exact (J127 v2 h).trans rfl
    exact (J127 (bor v2 (shl 1 v3)) h).trans rfl
set_option maxRecDepth 100000 in
set_option maxHeartbeats 4000000 in
theorem fr_L11_best_84 {k : Nat} {i : Int} {out : Int × Mem} {m : Mem} : ∀ (n : Nat) (v2 : Int) (v3 : Int), L11_best_84 m n v2 v3 = some out → out.2 k i = m k i := by
  intro n
  induction n with
  | zero =>
    intro v2 v3 h
    cases h
  | succ n ih =>
    intro v2 v3 h
    rw [L11_best_84] at h
    rcases ite_or h with ⟨hc, h⟩ | ⟨hc, h⟩
    · exact (congrArg (fun z : Int × Mem => z.2 k i) (Option.some.inj h)).symm.trans rfl
    refine (fr_L11_best_95 (fun v2_133 h => ?_) FU v2 0 h).trans rfl
    exact (ih v2_133 (w32 (v3 + 1)) h).trans rfl
set_option maxRecDepth 100000 in
set_option maxHeartbeats 4000000 in
theorem fr_F11_best {k : Nat} {i : Int} {m : Mem}  {v1 : Int} {out : Int × Mem} (hf31_83 : ¬ (k = 83 ∧ i = 31)) (hf25_83 : ¬ (k = 83 ∧ i = 25)) (hf33_83 : ¬ (k = 83 ∧ i = 33)) (hk_104 : k ≠ 104) (hk_97 : k ≠ 97) (hk_96 : k ≠ 96) (hf24_83 : ¬ (k = 83 ∧ i = 24)) (hk_100 : k ≠ 100) (hk_101 : k ≠ 101) (hk_102 : k ≠ 102) (hk_98 : k ≠ 98) (hk_106 : k ≠ 106) (hk_105 : k ≠ 105) (hf32_83 : ¬ (k = 83 ∧ i = 32)) (h : F11_best m v1 = some out) : out.2 k i = m k i := by
  unfold F11_best at h
  rcases ite_or h with ⟨hc, h⟩ | ⟨hc, h⟩
  · rcases ite_or h with ⟨hc, h⟩ | ⟨hc, h⟩
    · rcases ite_or h with ⟨hc, h⟩ | ⟨hc, h⟩
      · obtain ⟨m33, e33, h⟩ := b1_some h
        have f33 : m33 k i = m k i := fr_F11_findBest hf31_83 hf25_83 hf33_83 hk_104 hk_97 hk_96 hf24_83 hk_100 hk_101 hk_102 hk_98 hk_106 hk_105 hf32_83 e33
        rcases ite_or h with ⟨hc, h⟩ | ⟨hc, h⟩
        · rcases ite_or h with ⟨hc, h⟩ | ⟨hc, h⟩
          · rcases ite_or h with ⟨hc, h⟩ | ⟨hc, h⟩
            · rcases ite_or h with ⟨hc, h⟩ | ⟨hc, h⟩
              · refine (fr_L11_best_84 FU 0 0 h).trans f33
              obtain ⟨r75, e75, h⟩ := b1_some h
              exact (congrArg (fun z : Int × Mem => z.2 k i) (Option.some.inj h)).symm.trans f33
            exact (congrArg (fun z : Int × Mem => z.2 k i) (Option.some.inj h)).symm.trans f33
          exact (congrArg (fun z : Int × Mem => z.2 k i) (Option.some.inj h)).symm.trans f33
        exact (congrArg (fun z : Int × Mem => z.2 k i) (Option.some.inj h)).symm.trans f33
      obtain ⟨r28, e28, h⟩ := b1_some h
      exact (congrArg (fun z : Int × Mem => z.2 k i) (Option.some.inj h)).symm.trans rfl
    exact (congrArg (fun z : Int × Mem => z.2 k i) (Option.some.inj h)).symm.trans rfl
  exact (congrArg (fun z : Int × Mem => z.2 k i) (Option.some.inj h)).symm.trans rfl
set_option maxRecDepth 100000 in
set_option maxHeartbeats 4000000 in
theorem fr_L11_tree_70 {k : Nat} {i : Int} {out : Int × Mem} {m : Mem} {v2 : Int} {k87 : Int → Option (Int × Mem)} (hk87 : ∀ (v3 : Int), k87 v3 = some out → out.2 k i = m k i) : ∀ (n : Nat) (v3 : Int) (v4 : Int), L11_tree_70 v2 k87 n v3 v4 = some out → out.2 k i = m k i := by
  intro n
  induction n with
  | zero =>
    intro v3 v4 h
    cases h
  | succ n ih =>
    intro v3 v4 h
    rw [L11_tree_70] at h
    rcases ite_or h with ⟨hc, h⟩ | ⟨hc, h⟩
    · exact (hk87 v3 h).trans rfl
    exact (ih (idv v3 10) (w32 (v4 + (-1))) h).trans rfl
set_option maxRecDepth 100000 in
set_option maxHeartbeats 4000000 in
theorem fr_F11_tree {k : Nat} {i : Int} {m : Mem}  {v1 v2 : Int} {out : Int × Mem} (hf31_83 : ¬ (k = 83 ∧ i = 31)) (hf25_83 : ¬ (k = 83 ∧ i = 25)) (hf33_83 : ¬ (k = 83 ∧ i = 33)) (hk_104 : k ≠ 104) (hk_97 : k ≠ 97) (hk_96 : k ≠ 96) (hf24_83 : ¬ (k = 83 ∧ i = 24)) (hk_100 : k ≠ 100) (hk_101 : k ≠ 101) (hk_102 : k ≠ 102) (hk_98 : k ≠ 98) (hk_106 : k ≠ 106) (hk_105 : k ≠ 105) (hf32_83 : ¬ (k = 83 ∧ i = 32)) (h : F11_tree m v1 v2 = some out) : out.2 k i = m k i := by
  unfold F11_tree at h
  rcases ite_or h with ⟨hc, h⟩ | ⟨hc, h⟩
  · exact (congrArg (fun z : Int × Mem => z.2 k i) (Option.some.inj h)).symm.trans rfl
  rcases ite_or h with ⟨hc, h⟩ | ⟨hc, h⟩
  · rcases ite_or h with ⟨hc, h⟩ | ⟨hc, h⟩
    · obtain ⟨m32, e32, h⟩ := b1_some h
      have f32 : m32 k i = m k i := fr_F11_findBest hf31_83 hf25_83 hf33_83 hk_104 hk_97 hk_96 hf24_83 hk_100 hk_101 hk_102 hk_98 hk_106 hk_105 hf32_83 e32
      rcases ite_or h with ⟨hc, h⟩ | ⟨hc, h⟩
      · rcases ite_or h with ⟨hc, h⟩ | ⟨hc, h⟩
        · obtain ⟨g1, h⟩ := gd_some h
          refine (fr_L11_tree_70 (fun v3_87 h => ?_) FU (rd m32 105 v1) (w32 ((rd m32 83 28) - 1)) h).trans f32
          exact (congrArg (fun z : Int × Mem => z.2 k i) (Option.some.inj h)).symm.trans rfl
        exact (congrArg (fun z : Int × Mem => z.2 k i) (Option.some.inj h)).symm.trans f32
      exact (congrArg (fun z : Int × Mem => z.2 k i) (Option.some.inj h)).symm.trans f32
    exact (congrArg (fun z : Int × Mem => z.2 k i) (Option.some.inj h)).symm.trans rfl
  exact (congrArg (fun z : Int × Mem => z.2 k i) (Option.some.inj h)).symm.trans rfl
set_option maxRecDepth 100000 in
set_option maxHeartbeats 4000000 in
theorem fr_L11_never_45 {k : Nat} {i : Int} {out : Int × Mem} {m : Mem} {v1 : Int} : ∀ (n : Nat) (v2 : Int) (v3 : Int), L11_never_45 m v1 n v2 v3 = some out → out.2 k i = m k i := by
  intro n
  induction n with
  | zero =>
    intro v2 v3 h
    cases h
  | succ n ih =>
    intro v2 v3 h
    rw [L11_never_45] at h
    rcases ite_or h with ⟨hc, h⟩ | ⟨hc, h⟩
    · exact (congrArg (fun z : Int × Mem => z.2 k i) (Option.some.inj h)).symm.trans rfl
    obtain ⟨g1, h⟩ := gd_some h
    refine (jn_e h (fun (K : Int → Option (Int × Mem)) => ∀ (v2_73 : Int), K v2_73 = some out → out.2 k i = m k i) (fun v2_73 h => ?_) (fun K73 J73 h => ?_))
    · exact (ih v2_73 (w32 (v3 + 1)) h).trans rfl
    rcases ite_or h with ⟨hc, h⟩ | ⟨hc, h⟩
    · exact (J73 v2 h).trans rfl
    exact (J73 (bor v2 (shl 1 v3)) h).trans rfl
set_option maxRecDepth 100000 in
set_option maxHeartbeats 4000000 in
theorem fr_F11_never {k : Nat} {i : Int} {m : Mem}  {v1 : Int} {out : Int × Mem} (hf31_83 : ¬ (k = 83 ∧ i = 31)) (hf25_83 : ¬ (k = 83 ∧ i = 25)) (hf33_83 : ¬ (k = 83 ∧ i = 33)) (hk_104 : k ≠ 104) (hk_97 : k ≠ 97) (hk_96 : k ≠ 96) (hf24_83 : ¬ (k = 83 ∧ i = 24)) (hk_100 : k ≠ 100) (hk_101 : k ≠ 101) (hk_102 : k ≠ 102) (hk_98 : k ≠ 98) (hk_106 : k ≠ 106) (hk_105 : k ≠ 105) (hf32_83 : ¬ (k = 83 ∧ i = 32)) (h : F11_never m v1 = some out) : out.2 k i = m k i := by
  unfold F11_never at h
  rcases ite_or h with ⟨hc, h⟩ | ⟨hc, h⟩
  · rcases ite_or h with ⟨hc, h⟩ | ⟨hc, h⟩
    · obtain ⟨m28, e28, h⟩ := b1_some h
      have f28 : m28 k i = m k i := fr_F11_findBest hf31_83 hf25_83 hf33_83 hk_104 hk_97 hk_96 hf24_83 hk_100 hk_101 hk_102 hk_98 hk_106 hk_105 hf32_83 e28
      rcases ite_or h with ⟨hc, h⟩ | ⟨hc, h⟩
      · refine (fr_L11_never_45 FU 0 0 h).trans f28
      exact (congrArg (fun z : Int × Mem => z.2 k i) (Option.some.inj h)).symm.trans f28
    exact (congrArg (fun z : Int × Mem => z.2 k i) (Option.some.inj h)).symm.trans rfl
  exact (congrArg (fun z : Int × Mem => z.2 k i) (Option.some.inj h)).symm.trans rfl
set_option maxRecDepth 100000 in
set_option maxHeartbeats 4000000 in
theorem fr_F11_claim {k : Nat} {i : Int} {m : Mem}  {v1 : Int} {out : Int × Mem} (hf31_83 : ¬ (k = 83 ∧ i = 31)) (hf25_83 : ¬ (k = 83 ∧ i = 25)) (hf33_83 : ¬ (k = 83 ∧ i = 33)) (hk_104 : k ≠ 104) (hk_97 : k ≠ 97) (hk_96 : k ≠ 96) (hf24_83 : ¬ (k = 83 ∧ i = 24)) (hk_100 : k ≠ 100) (hk_101 : k ≠ 101) (hk_102 : k ≠ 102) (hk_98 : k ≠ 98) (hk_106 : k ≠ 106) (hk_105 : k ≠ 105) (hf32_83 : ¬ (k = 83 ∧ i = 32)) (h : F11_claim m v1 = some out) : out.2 k i = m k i := by
  unfold F11_claim at h
  rcases ite_or h with ⟨hc, h⟩ | ⟨hc, h⟩
  · exact (congrArg (fun z : Int × Mem => z.2 k i) (Option.some.inj h)).symm.trans rfl
  obtain ⟨g1, h⟩ := gd_some h
  rcases ite_or h with ⟨hc, h⟩ | ⟨hc, h⟩
  · exact (congrArg (fun z : Int × Mem => z.2 k i) (Option.some.inj h)).symm.trans rfl
  obtain ⟨r19, e19, h⟩ := b1_some h
  rcases ite_or h with ⟨hc, h⟩ | ⟨hc, h⟩
  · exact (congrArg (fun z : Int × Mem => z.2 k i) (Option.some.inj h)).symm.trans rfl
  obtain ⟨g1, h⟩ := gd_some h
  obtain ⟨r32, e32, h⟩ := b1_some h
  rcases ite_or h with ⟨hc, h⟩ | ⟨hc, h⟩
  · obtain ⟨m41, e41, h⟩ := b1_some h
    have f41 : m41 k i = m k i := fr_F11_findBest hf31_83 hf25_83 hf33_83 hk_104 hk_97 hk_96 hf24_83 hk_100 hk_101 hk_102 hk_98 hk_106 hk_105 hf32_83 e41
    rcases ite_or h with ⟨hc, h⟩ | ⟨hc, h⟩
    · obtain ⟨r62, e62, h⟩ := b1_some h
      obtain ⟨g1, h⟩ := gd_some h
      obtain ⟨r73, e73, h⟩ := b1_some h
      obtain ⟨g1, h⟩ := gd_some h
      rcases ite_or h with ⟨hc, h⟩ | ⟨hc, h⟩
      · rcases ite_or h with ⟨hc, h⟩ | ⟨hc, h⟩
        · exact (congrArg (fun z : Int × Mem => z.2 k i) (Option.some.inj h)).symm.trans f41
        exact (congrArg (fun z : Int × Mem => z.2 k i) (Option.some.inj h)).symm.trans f41
      exact (congrArg (fun z : Int × Mem => z.2 k i) (Option.some.inj h)).symm.trans f41
    exact (congrArg (fun z : Int × Mem => z.2 k i) (Option.some.inj h)).symm.trans f41
  exact (congrArg (fun z : Int × Mem => z.2 k i) (Option.some.inj h)).symm.trans rfl
set_option maxRecDepth 100000 in
set_option maxHeartbeats 4000000 in
theorem fr_L11_fillAll_32 {k : Nat} {i : Int} {out : Mem} {m : Mem} {v3 : Int} {k47 : Int → Option Mem} (hk47 : ∀ (v4 : Int), k47 v4 = some out → out k i = m k i) : ∀ (n : Nat) (v4 : Int), L11_fillAll_32 v3 k47 n v4 = some out → out k i = m k i := by
  intro n
  induction n with
  | zero =>
    intro v4 h
    cases h
  | succ n ih =>
    intro v4 h
    rw [L11_fillAll_32] at h
    rcases ite_or h with ⟨hc, h⟩ | ⟨hc, h⟩
    · exact (hk47 v4 h).trans rfl
    exact (ih (w32 (v4 + 1)) h).trans rfl
set_option maxRecDepth 100000 in
set_option maxHeartbeats 4000000 in
theorem fr_L11_fillAll_14 {k : Nat} {i : Int} {out : Mem} {v1 : Int} {k66 : Mem → Option Mem} (hk_98 : k ≠ 98) (hk_99 : k ≠ 99) (hk_107 : k ≠ 107) (hk66 : ∀ (m : Mem), k66 m = some out → out k i = m k i) : ∀ (n : Nat) (v2 : Int) (m : Mem), L11_fillAll_14 v1 k66 n v2 m = some out → out k i = m k i := by
  intro n
  induction n with
  | zero =>
    intro v2 m h
    cases h
  | succ n ih =>
    intro v2 m h
    rw [L11_fillAll_14] at h
    rcases ite_or h with ⟨hc, h⟩ | ⟨hc, h⟩
    · exact (hk66 m h).trans rfl
    obtain ⟨r25, m25, e25, h⟩ := b2_some h
    have f25 : m25 k i = m k i := fr_F11_filledBy hk_98 hk_99 e25
    refine (fr_L11_fillAll_32 (fun v4_47 h => ?_) FU 0 h).trans f25
    obtain ⟨g1, h⟩ := gd_some h
    replace h := stw_e h
    have f59 : (wr m25 107 (w32 ((w32 (16 * v2)) + v1)) v4_47) k i = m25 k i := wr_ka hk_107
    generalize wr m25 107 (w32 ((w32 (16 * v2)) + v1)) v4_47 = m59 at h f59
    exact (ih (w32 (v2 + 1)) m59 h).trans f59
set_option maxRecDepth 100000 in
set_option maxHeartbeats 4000000 in
theorem fr_L11_fillAll_6 {k : Nat} {i : Int} {out : Mem} (hk_98 : k ≠ 98) (hk_99 : k ≠ 99) (hk_107 : k ≠ 107) : ∀ (n : Nat) (v1 : Int) (m : Mem), L11_fillAll_6 n v1 m = some out → out k i = m k i := by
  intro n
  induction n with
  | zero =>
    intro v1 m h
    cases h
  | succ n ih =>
    intro v1 m h
    rw [L11_fillAll_6] at h
    rcases ite_or h with ⟨hc, h⟩ | ⟨hc, h⟩
    · exact (congrArg (fun z : Mem => z k i) (Option.some.inj h)).symm.trans rfl
    refine (fr_L11_fillAll_14 hk_98 hk_99 hk_107 (fun m_66 h => ?_) FU 0 m h).trans rfl
    exact (ih (w32 (v1 + 1)) m_66 h).trans rfl
set_option maxRecDepth 100000 in
set_option maxHeartbeats 4000000 in
theorem fr_F11_fillAll {k : Nat} {i : Int} {m : Mem}  {out : Mem} (hf25_83 : ¬ (k = 83 ∧ i = 25)) (hk_97 : k ≠ 97) (hk_96 : k ≠ 96) (hf24_83 : ¬ (k = 83 ∧ i = 24)) (hk_100 : k ≠ 100) (hk_98 : k ≠ 98) (hk_99 : k ≠ 99) (hk_107 : k ≠ 107) (h : F11_fillAll m = some out) : out k i = m k i := by
  unfold F11_fillAll at h
  obtain ⟨m1, e1, h⟩ := b1_some h
  have f1 : m1 k i = m k i := fr_F11_lookAtAll hf25_83 hk_97 hk_96 hf24_83 hk_100 e1
  refine (fr_L11_fillAll_6 hk_98 hk_99 hk_107 FU 0 m1 h).trans f1
set_option maxRecDepth 100000 in
set_option maxHeartbeats 4000000 in
theorem fr_L11_addGain_2 {k : Nat} {i : Int} {out : Mem} {v2 : Int} {k38 : Int → Mem → Option Mem} (hk_108 : k ≠ 108) (hk38 : ∀ (v3 : Int) (m : Mem), k38 v3 m = some out → out k i = m k i) : ∀ (n : Nat) (v3 : Int) (m : Mem), L11_addGain_2 v2 k38 n v3 m = some out → out k i = m k i := by
  intro n
  induction n with
  | zero =>
    intro v3 m h
    cases h
  | succ n ih =>
    intro v3 m h
    rw [L11_addGain_2] at h
    rcases ite_or h with ⟨hc, h⟩ | ⟨hc, h⟩
    · exact (hk38 v3 m h).trans rfl
    obtain ⟨g1, h⟩ := gd_some h
    rcases ite_or h with ⟨hc, h⟩ | ⟨hc, h⟩
    · exact (hk38 v3 m h).trans rfl
    obtain ⟨g1, h⟩ := gd_some h
    obtain ⟨g1, h⟩ := gd_some h
    replace h := stw_e h
    have f31 : (wr m 108 v3 (rd m 108 (w32 (v3 - 1)))) k i = m k i := wr_ka hk_108
    generalize wr m 108 v3 (rd m 108 (w32 (v3 - 1))) = m31 at h f31
    exact (ih (w32 (v3 + (-1))) m31 h).trans f31
set_option maxRecDepth 100000 in
set_option maxHeartbeats 4000000 in
theorem fr_F11_addGain {k : Nat} {i : Int} {m : Mem}  {v1 v2 : Int} {out : Mem} (hk_108 : k ≠ 108) (h : F11_addGain m v1 v2 = some out) : out k i = m k i := by
  unfold F11_addGain at h
  refine (fr_L11_addGain_2 hk_108 (fun v3_38 m_38 h => ?_) FU v1 m h).trans rfl
  obtain ⟨g1, h⟩ := gd_some h
  replace h := stw_e h
  have f44 : (wr m_38 108 v3_38 v2) k i = m_38 k i := wr_ka hk_108
  generalize wr m_38 108 v3_38 v2 = m44 at h f44
  exact (congrArg (fun z : Mem => z k i) (Option.some.inj h)).symm.trans f44
set_option maxRecDepth 100000 in
set_option maxHeartbeats 4000000 in
theorem fr_L11_tryChapter_24 {k : Nat} {i : Int} {out : Mem} {v1 : Int} {v2 : Int} {v3 : Int} {k122 : Int → Int → Mem → Option Mem} (hk_108 : k ≠ 108) (hk122 : ∀ (v4 : Int) (v5 : Int) (m : Mem), k122 v4 v5 m = some out → out k i = m k i) : ∀ (n : Nat) (v4 : Int) (v5 : Int) (v6 : Int) (m : Mem), L11_tryChapter_24 v1 v2 v3 k122 n v4 v5 v6 m = some out → out k i = m k i := by
  intro n
  induction n with
  | zero =>
    intro v4 v5 v6 m h
    cases h
  | succ n ih =>
    intro v4 v5 v6 m h
    rw [L11_tryChapter_24] at h
    rcases ite_or h with ⟨hc, h⟩ | ⟨hc, h⟩
    · exact (hk122 v4 v5 m h).trans rfl
    refine (jn_e h (fun (K : Int → Int → Mem → Option Mem) => ∀ (v4_116 : Int) (v5_116 : Int) (m_116 : Mem), K v4_116 v5_116 m_116 = some out → out k i = m_116 k i) (fun v4_116 v5_116 m_116 h => ?_) (fun K116 J116 h => ?_))
    · exact (ih v4_116 v5_116 (w32 (v6 + 1)) m_116 h).trans rfl
    refine (jn_e h (fun (K : Option Mem) => K = some out → out k i = m k i) (fun h => ?_) (fun K52 J52 h => ?_))
    · obtain ⟨r58, e58, h⟩ := b1_some h
      obtain ⟨r68, e68, h⟩ := b1_some h
      rcases ite_or h with ⟨hc, h⟩ | ⟨hc, h⟩
      · exact (J116 (w32 (v4 + r58)) v5 m h).trans rfl
      obtain ⟨r78, e78, h⟩ := b1_some h
      obtain ⟨g1, h⟩ := gd_some h
      rcases ite_or h with ⟨hc, h⟩ | ⟨hc, h⟩
      · obtain ⟨r100, e100, h⟩ := b1_some h
        obtain ⟨g1, h⟩ := gd_some h
        obtain ⟨m110, e110, h⟩ := b1_some h
        have f110 : m110 k i = m k i := fr_F11_addGain hk_108 e110
        exact (J116 (w32 (v4 + r58)) (w32 (v5 + 1)) m110 h).trans f110
      exact (J116 (w32 (v4 + r58)) v5 m h).trans rfl
    rcases ite_or h with ⟨hc, h⟩ | ⟨hc, h⟩
    · exact (J52 h).trans rfl
    obtain ⟨r43, e43, h⟩ := b1_some h
    rcases ite_or h with ⟨hc, h⟩ | ⟨hc, h⟩
    · exact (J52 h).trans rfl
    exact (J116 v4 v5 m h).trans rfl
set_option maxRecDepth 100000 in
set_option maxHeartbeats 4000000 in
theorem fr_L11_tryChapter_136 {k : Nat} {i : Int} {out : Mem} {v5 : Int} {v6 : Int} (hk_109 : k ≠ 109) : ∀ (n : Nat) (v4 : Int) (v7 : Int) (m : Mem), L11_tryChapter_136 v5 v6 n v4 v7 m = some out → out k i = m k i := by
  intro n
  induction n with
  | zero =>
    intro v4 v7 m h
    cases h
  | succ n ih =>
    intro v4 v7 m h
    rw [L11_tryChapter_136] at h
    rcases ite_or h with ⟨hc, h⟩ | ⟨hc, h⟩
    · exact (congrArg (fun z : Mem => z k i) (Option.some.inj h)).symm.trans rfl
    obtain ⟨g1, h⟩ := gd_some h
    obtain ⟨g1, h⟩ := gd_some h
    replace h := stw_e h
    have f170 : (wr m 109 (w32 (v6 + v7)) (F11_lesser (rd m 109 (w32 (v6 + v7))) v4)) k i = m k i := wr_ka hk_109
    generalize wr m 109 (w32 (v6 + v7)) (F11_lesser (rd m 109 (w32 (v6 + v7))) v4) = m170 at h f170
    refine (jn_e h (fun (K : Int → Option Mem) => ∀ (v4_190 : Int), K v4_190 = some out → out k i = m170 k i) (fun v4_190 h => ?_) (fun K190 J190 h => ?_))
    · exact (ih v4_190 (w32 (v7 + 1)) m170 h).trans rfl
    rcases ite_or h with ⟨hc, h⟩ | ⟨hc, h⟩
    · exact (J190 v4 h).trans f170
    obtain ⟨g1, h⟩ := gd_some h
    exact (J190 (w32 (v4 - (rd m170 108 v7))) h).trans f170
set_option maxRecDepth 100000 in
set_option maxHeartbeats 4000000 in
theorem fr_F11_tryChapter {k : Nat} {i : Int} {m : Mem}  {v1 v2 v3 : Int} {out : Mem} (hk_108 : k ≠ 108) (hk_109 : k ≠ 109) (h : F11_tryChapter m v1 v2 v3 = some out) : out k i = m k i := by
  unfold F11_tryChapter at h
  refine (jn_e h (fun (K : Int → Option Mem) => ∀ (x14 : Int), K x14 = some out → out k i = m k i) (fun x14 h => ?_) (fun K14 J14 h => ?_))
  · refine (fr_L11_tryChapter_24 hk_108 (fun v4_122 v5_122 m_122 h => ?_) FU x14 0 (w32 (4 * v2)) m h).trans rfl
    refine (jn_e h (fun (K : Int → Option Mem) => ∀ (x131 : Int), K x131 = some out → out k i = m_122 k i) (fun x131 h => ?_) (fun K131 J131 h => ?_))
    · refine (fr_L11_tryChapter_136 hk_109 FU v4_122 0 m_122 h).trans rfl
    rcases ite_or h with ⟨hc, h⟩ | ⟨hc, h⟩
    · exact (J131 1 h).trans rfl
    exact (J131 0 h).trans rfl
  rcases ite_or h with ⟨hc, h⟩ | ⟨hc, h⟩
  · obtain ⟨g1, h⟩ := gd_some h
    exact (J14 (rd m 90 4) h).trans rfl
  exact (J14 0 h).trans rfl
set_option maxRecDepth 100000 in
set_option maxHeartbeats 4000000 in
theorem fr_L11_findChapter_2 {k : Nat} {i : Int} {out : Mem} {k22 : Mem → Option Mem} (hk_109 : k ≠ 109) (hk22 : ∀ (m : Mem), k22 m = some out → out k i = m k i) : ∀ (n : Nat) (v3 : Int) (m : Mem), L11_findChapter_2 k22 n v3 m = some out → out k i = m k i := by
  intro n
  induction n with
  | zero =>
    intro v3 m h
    cases h
  | succ n ih =>
    intro v3 m h
    rw [L11_findChapter_2] at h
    rcases ite_or h with ⟨hc, h⟩ | ⟨hc, h⟩
    · exact (hk22 m h).trans rfl
    obtain ⟨g1, h⟩ := gd_some h
    replace h := stw_e h
    have f15 : (wr m 109 v3 1000000) k i = m k i := wr_ka hk_109
    generalize wr m 109 v3 1000000 = m15 at h f15
    exact (ih (w32 (v3 + 1)) m15 h).trans f15
set_option maxRecDepth 100000 in
set_option maxHeartbeats 4000000 in
theorem fr_L11_findChapter_31 {k : Nat} {i : Int} {out : Mem} {v1 : Int} {v2 : Int} (hk_108 : k ≠ 108) (hk_109 : k ≠ 109) : ∀ (n : Nat) (v3 : Int) (m : Mem), L11_findChapter_31 v1 v2 n v3 m = some out → out k i = m k i := by
  intro n
  induction n with
  | zero =>
    intro v3 m h
    cases h
  | succ n ih =>
    intro v3 m h
    rw [L11_findChapter_31] at h
    rcases ite_or h with ⟨hc, h⟩ | ⟨hc, h⟩
    · exact (congrArg (fun z : Mem => z k i) (Option.some.inj h)).symm.trans rfl
    obtain ⟨r42, e42, h⟩ := b1_some h
    refine (jn_e h (fun (K : Mem → Option Mem) => ∀ (m_55 : Mem), K m_55 = some out → out k i = m_55 k i) (fun m_55 h => ?_) (fun K55 J55 h => ?_))
    · exact (ih (w32 (v3 + 1)) m_55 h).trans rfl
    rcases ite_or h with ⟨hc, h⟩ | ⟨hc, h⟩
    · exact (J55 m h).trans rfl
    obtain ⟨m52, e52, h⟩ := b1_some h
    have f52 : m52 k i = m k i := fr_F11_tryChapter hk_108 hk_109 e52
    exact (J55 m52 h).trans f52
set_option maxRecDepth 100000 in
set_option maxHeartbeats 4000000 in
theorem fr_F11_findChapter {k : Nat} {i : Int} {m : Mem}  {v1 v2 : Int} {out : Mem} (hk_109 : k ≠ 109) (hk_108 : k ≠ 108) (h : F11_findChapter m v1 v2 = some out) : out k i = m k i := by
  unfold F11_findChapter at h
  refine (fr_L11_findChapter_2 hk_109 (fun m_22 h => ?_) FU 0 m h).trans rfl
  obtain ⟨m26, e26, h⟩ := b1_some h
  have f26 : m26 k i = m_22 k i := fr_F11_tryChapter hk_108 hk_109 e26
  refine (fr_L11_findChapter_31 hk_108 hk_109 FU 0 m26 h).trans f26
set_option maxRecDepth 100000 in
set_option maxHeartbeats 4000000 in
theorem fr_L11_few_18 {k : Nat} {i : Int} {out : Int × Mem} {k37 : Mem → Option (Int × Mem)} (hk_110 : k ≠ 110) (hk37 : ∀ (m : Mem), k37 m = some out → out.2 k i = m k i) : ∀ (n : Nat) (v2 : Int) (m : Mem), L11_few_18 k37 n v2 m = some out → out.2 k i = m k i := by
  intro n
  induction n with
  | zero =>
    intro v2 m h
    cases h
  | succ n ih =>
    intro v2 m h
    rw [L11_few_18] at h
    rcases ite_or h with ⟨hc, h⟩ | ⟨hc, h⟩
    · exact (hk37 m h).trans rfl
    obtain ⟨g1, h⟩ := gd_some h
    replace h := stw_e h
    have f30 : (wr m 110 v2 0) k i = m k i := wr_ka hk_110
    generalize wr m 110 v2 0 = m30 at h f30
    exact (ih (w32 (v2 + 1)) m30 h).trans f30
set_option maxRecDepth 100000 in
set_option maxHeartbeats 4000000 in
theorem fr_L11_few_88 {k : Nat} {i : Int} {out : Int × Mem} {m : Mem} {v4 : Int} {k133 : Int → Option (Int × Mem)} (hk133 : ∀ (v5 : Int), k133 v5 = some out → out.2 k i = m k i) : ∀ (n : Nat) (v5 : Int) (v6 : Int), L11_few_88 m v4 k133 n v5 v6 = some out → out.2 k i = m k i := by
  intro n
  induction n with
  | zero =>
    intro v5 v6 h
    cases h
  | succ n ih =>
    intro v5 v6 h
    rw [L11_few_88] at h
    rcases ite_or h with ⟨hc, h⟩ | ⟨hc, h⟩
    · exact (hk133 v5 h).trans rfl
    rcases ite_or h with ⟨hc, h⟩ | ⟨hc, h⟩
    · exact (hk133 v5 h).trans rfl
    obtain ⟨g1, h⟩ := gd_some h
    obtain ⟨g1, h⟩ := gd_some h
    exact (ih (F11_lesser v5 (w32 ((rd m 110 (w32 (v4 - v6))) + (rd m 109 v6)))) (w32 (v6 + 1)) h).trans rfl
set_option maxRecDepth 100000 in
set_option maxHeartbeats 4000000 in
theorem fr_L11_few_76 {k : Nat} {i : Int} {out : Int × Mem} {k148 : Mem → Option (Int × Mem)} (hk_110 : k ≠ 110) (hk148 : ∀ (m : Mem), k148 m = some out → out.2 k i = m k i) : ∀ (n : Nat) (v4 : Int) (m : Mem), L11_few_76 k148 n v4 m = some out → out.2 k i = m k i := by
  intro n
  induction n with
  | zero =>
    intro v4 m h
    cases h
  | succ n ih =>
    intro v4 m h
    rw [L11_few_76] at h
    rcases ite_or h with ⟨hc, h⟩ | ⟨hc, h⟩
    · exact (hk148 m h).trans rfl
    refine (fr_L11_few_88 (fun v5_133 h => ?_) FU 1000000 0 h).trans rfl
    obtain ⟨g1, h⟩ := gd_some h
    replace h := stw_e h
    have f141 : (wr m 110 v4 v5_133) k i = m k i := wr_ka hk_110
    generalize wr m 110 v4 v5_133 = m141 at h f141
    exact (ih (w32 (v4 + (-1))) m141 h).trans f141
set_option maxRecDepth 100000 in
set_option maxHeartbeats 4000000 in
theorem fr_L11_few_61 {k : Nat} {i : Int} {out : Int × Mem} {v2 : Int} {k154 : Mem → Option (Int × Mem)} (hk_109 : k ≠ 109) (hk_108 : k ≠ 108) (hk_110 : k ≠ 110) (hk154 : ∀ (m : Mem), k154 m = some out → out.2 k i = m k i) : ∀ (n : Nat) (v3 : Int) (m : Mem), L11_few_61 v2 k154 n v3 m = some out → out.2 k i = m k i := by
  intro n
  induction n with
  | zero =>
    intro v3 m h
    cases h
  | succ n ih =>
    intro v3 m h
    rw [L11_few_61] at h
    rcases ite_or h with ⟨hc, h⟩ | ⟨hc, h⟩
    · exact (hk154 m h).trans rfl
    obtain ⟨m69, e69, h⟩ := b1_some h
    have f69 : m69 k i = m k i := fr_F11_findChapter hk_109 hk_108 e69
    refine (fr_L11_few_76 hk_110 (fun m_148 h => ?_) FU 20 m69 h).trans f69
    exact (ih (w32 (v3 + 1)) m_148 h).trans rfl
set_option maxRecDepth 100000 in
set_option maxHeartbeats 4000000 in
theorem fr_L11_few_39 {k : Nat} {i : Int} {out : Int × Mem} {k160 : Mem → Option (Int × Mem)} (hk_109 : k ≠ 109) (hk_108 : k ≠ 108) (hk_110 : k ≠ 110) (hk160 : ∀ (m : Mem), k160 m = some out → out.2 k i = m k i) : ∀ (n : Nat) (v2 : Int) (m : Mem), L11_few_39 k160 n v2 m = some out → out.2 k i = m k i := by
  intro n
  induction n with
  | zero =>
    intro v2 m h
    cases h
  | succ n ih =>
    intro v2 m h
    rw [L11_few_39] at h
    rcases ite_or h with ⟨hc, h⟩ | ⟨hc, h⟩
    · exact (hk160 m h).trans rfl
    obtain ⟨g1, h⟩ := gd_some h
    refine (jn_e h (fun (K : Mem → Option (Int × Mem)) => ∀ (m_154 : Mem), K m_154 = some out → out.2 k i = m_154 k i) (fun m_154 h => ?_) (fun K154 J154 h => ?_))
    · exact (ih (w32 (v2 + 1)) m_154 h).trans rfl
    rcases ite_or h with ⟨hc, h⟩ | ⟨hc, h⟩
    · refine (fr_L11_few_61 hk_109 hk_108 hk_110 (fun m_154 h => ?_) FU 0 m h).trans rfl
      exact (J154 m_154 h).trans rfl
    exact (J154 m h).trans rfl
set_option maxRecDepth 100000 in
set_option maxHeartbeats 4000000 in
theorem fr_F11_few {k : Nat} {i : Int} {m : Mem}  {v1 : Int} {out : Int × Mem} (hf25_83 : ¬ (k = 83 ∧ i = 25)) (hk_97 : k ≠ 97) (hk_96 : k ≠ 96) (hf24_83 : ¬ (k = 83 ∧ i = 24)) (hk_100 : k ≠ 100) (hk_98 : k ≠ 98) (hk_99 : k ≠ 99) (hk_107 : k ≠ 107) (hk_110 : k ≠ 110) (hk_109 : k ≠ 109) (hk_108 : k ≠ 108) (h : F11_few m v1 = some out) : out.2 k i = m k i := by
  unfold F11_few at h
  rcases ite_or h with ⟨hc, h⟩ | ⟨hc, h⟩
  · obtain ⟨m13, e13, h⟩ := b1_some h
    have f13 : m13 k i = m k i := fr_F11_fillAll hf25_83 hk_97 hk_96 hf24_83 hk_100 hk_98 hk_99 hk_107 e13
    refine (fr_L11_few_18 hk_110 (fun m_37 h => ?_) FU 0 m13 h).trans f13
    refine (fr_L11_few_39 hk_109 hk_108 hk_110 (fun m_160 h => ?_) FU 0 m_37 h).trans rfl
    obtain ⟨g1, h⟩ := gd_some h
    exact (congrArg (fun z : Int × Mem => z.2 k i) (Option.some.inj h)).symm.trans rfl
  exact (congrArg (fun z : Int × Mem => z.2 k i) (Option.some.inj h)).symm.trans rfl
set_option maxRecDepth 100000 in
set_option maxHeartbeats 4000000 in
theorem fr_L11_from_53 {k : Nat} {i : Int} {out : Int × Mem} {m : Mem} {v1 : Int} {v2 : Int} : ∀ (n : Nat) (v3 : Int), L11_from_53 m v1 v2 n v3 = some out → out.2 k i = m k i := by
  intro n
  induction n with
  | zero =>
    intro v3 h
    cases h
  | succ n ih =>
    intro v3 h
    rw [L11_from_53] at h
    rcases ite_or h with ⟨hc, h⟩ | ⟨hc, h⟩
    · exact (congrArg (fun z : Int × Mem => z.2 k i) (Option.some.inj h)).symm.trans rfl
    obtain ⟨r64, e64, h⟩ := b1_some h
    refine (jn_e h (fun (K : Option (Int × Mem)) => K = some out → out.2 k i = m k i) (fun h => ?_) (fun K82 J82 h => ?_))
    · exact (ih (w32 (v3 + 1)) h).trans rfl
    rcases ite_or h with ⟨hc, h⟩ | ⟨hc, h⟩
    · exact (J82 h).trans rfl
    obtain ⟨r74, e74, h⟩ := b1_some h
    rcases ite_or h with ⟨hc, h⟩ | ⟨hc, h⟩
    · exact (J82 h).trans rfl
    exact (congrArg (fun z : Int × Mem => z.2 k i) (Option.some.inj h)).symm.trans rfl
set_option maxRecDepth 100000 in
set_option maxHeartbeats 4000000 in
theorem fr_F11_from {k : Nat} {i : Int} {m : Mem}  {v1 v2 : Int} {out : Int × Mem} (hf25_83 : ¬ (k = 83 ∧ i = 25)) (hk_97 : k ≠ 97) (hk_96 : k ≠ 96) (hf24_83 : ¬ (k = 83 ∧ i = 24)) (hk_100 : k ≠ 100) (hk_98 : k ≠ 98) (hk_99 : k ≠ 99) (hk_107 : k ≠ 107) (h : F11_from m v1 v2 = some out) : out.2 k i = m k i := by
  unfold F11_from at h
  rcases ite_or h with ⟨hc, h⟩ | ⟨hc, h⟩
  · exact (congrArg (fun z : Int × Mem => z.2 k i) (Option.some.inj h)).symm.trans rfl
  rcases ite_or h with ⟨hc, h⟩ | ⟨hc, h⟩
  · obtain ⟨g1, h⟩ := gd_some h
    rcases ite_or h with ⟨hc, h⟩ | ⟨hc, h⟩
    · obtain ⟨m30, e30, h⟩ := b1_some h
      have f30 : m30 k i = m k i := fr_F11_fillAll hf25_83 hk_97 hk_96 hf24_83 hk_100 hk_98 hk_99 hk_107 e30
      obtain ⟨r36, e36, h⟩ := b1_some h
      obtain ⟨g1, h⟩ := gd_some h
      rcases ite_or h with ⟨hc, h⟩ | ⟨hc, h⟩
      · refine (fr_L11_from_53 FU 0 h).trans f30
      exact (congrArg (fun z : Int × Mem => z.2 k i) (Option.some.inj h)).symm.trans f30
    exact (congrArg (fun z : Int × Mem => z.2 k i) (Option.some.inj h)).symm.trans rfl
  exact (congrArg (fun z : Int × Mem => z.2 k i) (Option.some.inj h)).symm.trans rfl
set_option maxRecDepth 100000 in
set_option maxHeartbeats 4000000 in
theorem fr_L11_cameIn_40 {k : Nat} {i : Int} {out : Int × Mem} {m : Mem} {v1 : Int} {v2 : Int} : ∀ (n : Nat) (v3 : Int), L11_cameIn_40 m v1 v2 n v3 = some out → out.2 k i = m k i := by
  intro n
  induction n with
  | zero =>
    intro v3 h
    cases h
  | succ n ih =>
    intro v3 h
    rw [L11_cameIn_40] at h
    obtain ⟨g1, h⟩ := gd_some h
    rcases ite_or h with ⟨hc, h⟩ | ⟨hc, h⟩
    · exact (congrArg (fun z : Int × Mem => z.2 k i) (Option.some.inj h)).symm.trans rfl
    obtain ⟨g1, h⟩ := gd_some h
    obtain ⟨r58, e58, h⟩ := b1_some h
    rcases ite_or h with ⟨hc, h⟩ | ⟨hc, h⟩
    · exact (congrArg (fun z : Int × Mem => z.2 k i) (Option.some.inj h)).symm.trans rfl
    obtain ⟨g1, h⟩ := gd_some h
    exact (ih (rd m 88 v3) h).trans rfl
set_option maxRecDepth 100000 in
set_option maxHeartbeats 4000000 in
theorem fr_F11_cameIn {k : Nat} {i : Int} {m : Mem}  {v1 v2 : Int} {out : Int × Mem} (hf25_83 : ¬ (k = 83 ∧ i = 25)) (hk_97 : k ≠ 97) (hk_96 : k ≠ 96) (hf24_83 : ¬ (k = 83 ∧ i = 24)) (hk_100 : k ≠ 100) (hk_98 : k ≠ 98) (hk_99 : k ≠ 99) (hk_107 : k ≠ 107) (h : F11_cameIn m v1 v2 = some out) : out.2 k i = m k i := by
  unfold F11_cameIn at h
  rcases ite_or h with ⟨hc, h⟩ | ⟨hc, h⟩
  · exact (congrArg (fun z : Int × Mem => z.2 k i) (Option.some.inj h)).symm.trans rfl
  rcases ite_or h with ⟨hc, h⟩ | ⟨hc, h⟩
  · obtain ⟨m18, e18, h⟩ := b1_some h
    have f18 : m18 k i = m k i := fr_F11_fillAll hf25_83 hk_97 hk_96 hf24_83 hk_100 hk_98 hk_99 hk_107 e18
    obtain ⟨g1, h⟩ := gd_some h
    rcases ite_or h with ⟨hc, h⟩ | ⟨hc, h⟩
    · refine (fr_L11_cameIn_40 FU v1 h).trans f18
    exact (congrArg (fun z : Int × Mem => z.2 k i) (Option.some.inj h)).symm.trans f18
  exact (congrArg (fun z : Int × Mem => z.2 k i) (Option.some.inj h)).symm.trans rfl
set_option maxRecDepth 100000 in
set_option maxHeartbeats 4000000 in
theorem fr_L11_findPairs_17 {k : Nat} {i : Int} {out : Mem} {v1 : Int} {k66 : Mem → Option Mem} (hk_111 : k ≠ 111) (hf40_83 : ¬ (k = 83 ∧ i = 40)) (hk66 : ∀ (m : Mem), k66 m = some out → out k i = m k i) : ∀ (n : Nat) (v2 : Int) (m : Mem), L11_findPairs_17 v1 k66 n v2 m = some out → out k i = m k i := by
  intro n
  induction n with
  | zero =>
    intro v2 m h
    cases h
  | succ n ih =>
    intro v2 m h
    rw [L11_findPairs_17] at h
    rcases ite_or h with ⟨hc, h⟩ | ⟨hc, h⟩
    · exact (hk66 m h).trans rfl
    obtain ⟨r26, e26, h⟩ := b1_some h
    refine (jn_e h (fun (K : Mem → Option Mem) => ∀ (m_60 : Mem), K m_60 = some out → out k i = m_60 k i) (fun m_60 h => ?_) (fun K60 J60 h => ?_))
    · exact (ih (w32 (v2 + 1)) m_60 h).trans rfl
    rcases ite_or h with ⟨hc, h⟩ | ⟨hc, h⟩
    · obtain ⟨g1, h⟩ := gd_some h
      replace h := stw_e h
      have f49 : (wr m 111 (rd m 83 40) (w32 ((w32 (16 * v1)) + v2))) k i = m k i := wr_ka hk_111
      generalize wr m 111 (rd m 83 40) (w32 ((w32 (16 * v1)) + v2)) = m49 at h f49
      replace h := stw_e h
      have f57 : (wr m49 83 40 (w32 ((rd m49 83 40) + 1))) k i = m49 k i := wr_ki hf40_83
      generalize wr m49 83 40 (w32 ((rd m49 83 40) + 1)) = m57 at h f57
      exact (J60 m57 h).trans (f57.trans f49)
    exact (J60 m h).trans rfl
set_option maxRecDepth 100000 in
set_option maxHeartbeats 4000000 in
theorem fr_L11_findPairs_7 {k : Nat} {i : Int} {out : Mem} (hk_111 : k ≠ 111) (hf40_83 : ¬ (k = 83 ∧ i = 40)) : ∀ (n : Nat) (v1 : Int) (m : Mem), L11_findPairs_7 n v1 m = some out → out k i = m k i := by
  intro n
  induction n with
  | zero =>
    intro v1 m h
    cases h
  | succ n ih =>
    intro v1 m h
    rw [L11_findPairs_7] at h
    rcases ite_or h with ⟨hc, h⟩ | ⟨hc, h⟩
    · exact (congrArg (fun z : Mem => z k i) (Option.some.inj h)).symm.trans rfl
    refine (fr_L11_findPairs_17 hk_111 hf40_83 (fun m_66 h => ?_) FU (w32 (v1 + 1)) m h).trans rfl
    exact (ih (w32 (v1 + 1)) m_66 h).trans rfl
set_option maxRecDepth 100000 in
set_option maxHeartbeats 4000000 in
theorem fr_F11_findPairs {k : Nat} {i : Int} {m : Mem}  {out : Mem} (hf40_83 : ¬ (k = 83 ∧ i = 40)) (hk_111 : k ≠ 111) (h : F11_findPairs m = some out) : out k i = m k i := by
  unfold F11_findPairs at h
  replace h := stw_e h
  have f2 : (wr m 83 40 0) k i = m k i := wr_ki hf40_83
  generalize wr m 83 40 0 = m2 at h f2
  refine (fr_L11_findPairs_7 hk_111 hf40_83 FU 0 m2 h).trans f2
set_option maxRecDepth 100000 in
set_option maxHeartbeats 4000000 in
theorem fr_F11_pairs {k : Nat} {i : Int} {m : Mem}  {v1 : Int} {out : Int × Mem} (hf40_83 : ¬ (k = 83 ∧ i = 40)) (hk_111 : k ≠ 111) (h : F11_pairs m v1 = some out) : out.2 k i = m k i := by
  unfold F11_pairs at h
  rcases ite_or h with ⟨hc, h⟩ | ⟨hc, h⟩
  · obtain ⟨m8, e8, h⟩ := b1_some h
    have f8 : m8 k i = m k i := fr_F11_findPairs hf40_83 hk_111 e8
    rcases ite_or h with ⟨hc, h⟩ | ⟨hc, h⟩
    · rcases ite_or h with ⟨hc, h⟩ | ⟨hc, h⟩
      · exact (congrArg (fun z : Int × Mem => z.2 k i) (Option.some.inj h)).symm.trans f8
      obtain ⟨g1, h⟩ := gd_some h
      exact (congrArg (fun z : Int × Mem => z.2 k i) (Option.some.inj h)).symm.trans f8
    exact (congrArg (fun z : Int × Mem => z.2 k i) (Option.some.inj h)).symm.trans f8
  exact (congrArg (fun z : Int × Mem => z.2 k i) (Option.some.inj h)).symm.trans rfl
set_option maxRecDepth 100000 in
set_option maxHeartbeats 4000000 in
theorem fr_L11_freed_10 {k : Nat} {i : Int} {out : Int × Mem} {m : Mem} : ∀ (n : Nat) (v1 : Int) (v2 : Int), L11_freed_10 m n v1 v2 = some out → out.2 k i = m k i := by
  intro n
  induction n with
  | zero =>
    intro v1 v2 h
    cases h
  | succ n ih =>
    intro v1 v2 h
    rw [L11_freed_10] at h
    rcases ite_or h with ⟨hc, h⟩ | ⟨hc, h⟩
    · exact (congrArg (fun z : Int × Mem => z.2 k i) (Option.some.inj h)).symm.trans rfl
    obtain ⟨r18, e18, h⟩ := b1_some h
    obtain ⟨r22, e22, h⟩ := b1_some h
    refine (jn_e h (fun (K : Int → Option (Int × Mem)) => ∀ (v1_38 : Int), K v1_38 = some out → out.2 k i = m k i) (fun v1_38 h => ?_) (fun K38 J38 h => ?_))
    · exact (ih v1_38 (w32 (v2 + 1)) h).trans rfl
    rcases ite_or h with ⟨hc, h⟩ | ⟨hc, h⟩
    · exact (J38 v1 h).trans rfl
    obtain ⟨r30, e30, h⟩ := b1_some h
    rcases ite_or h with ⟨hc, h⟩ | ⟨hc, h⟩
    · exact (J38 v1 h).trans rfl
    exact (J38 v2 h).trans rfl
set_option maxRecDepth 100000 in
set_option maxHeartbeats 4000000 in
theorem fr_F11_freed {k : Nat} {i : Int} {m : Mem}  {out : Int × Mem} (hf40_83 : ¬ (k = 83 ∧ i = 40)) (hk_111 : k ≠ 111) (h : F11_freed m = some out) : out.2 k i = m k i := by
  unfold F11_freed at h
  obtain ⟨m1, e1, h⟩ := b1_some h
  have f1 : m1 k i = m k i := fr_F11_findPairs hf40_83 hk_111 e1
  refine (fr_L11_freed_10 FU 65535 0 h).trans f1
set_option maxRecDepth 100000 in
set_option maxHeartbeats 4000000 in
theorem fr_L11_doAgree_2 {k : Nat} {i : Int} {out : Int × Mem} {v1 : Int} {k65 : Mem → Option (Int × Mem)} (hk_97 : k ≠ 97) (hk_96 : k ≠ 96) (hk65 : ∀ (m : Mem), k65 m = some out → out.2 k i = m k i) : ∀ (n : Nat) (v2 : Int) (m : Mem), L11_doAgree_2 v1 k65 n v2 m = some out → out.2 k i = m k i := by
  intro n
  induction n with
  | zero =>
    intro v2 m h
    cases h
  | succ n ih =>
    intro v2 m h
    rw [L11_doAgree_2] at h
    rcases ite_or h with ⟨hc, h⟩ | ⟨hc, h⟩
    · exact (hk65 m h).trans rfl
    refine (jn_e h (fun (K : Int → Option (Int × Mem)) => ∀ (x26 : Int), K x26 = some out → out.2 k i = m k i) (fun x26 h => ?_) (fun K26 J26 h => ?_))
    · obtain ⟨g1, h⟩ := gd_some h
      replace h := stw_e h
      have f26 : (wr m 97 v2 x26) k i = m k i := wr_ka hk_97
      generalize wr m 97 v2 x26 = m26 at h f26
      refine (jn_e h (fun (K : Int → Option (Int × Mem)) => ∀ (x58 : Int), K x58 = some out → out.2 k i = m26 k i) (fun x58 h => ?_) (fun K58 J58 h => ?_))
      · obtain ⟨g1, h⟩ := gd_some h
        replace h := stw_e h
        have f58 : (wr m26 96 v2 x58) k i = m26 k i := wr_ka hk_96
        generalize wr m26 96 v2 x58 = m58 at h f58
        exact (ih (w32 (v2 + 1)) m58 h).trans f58
      refine (jn_e h (fun (K : Option (Int × Mem)) => K = some out → out.2 k i = m26 k i) (fun h => ?_) (fun K57 J57 h => ?_))
      · exact (J58 (-1) h).trans rfl
      rcases ite_or h with ⟨hc, h⟩ | ⟨hc, h⟩
      · exact (J57 h).trans f26
      rcases ite_or h with ⟨hc, h⟩ | ⟨hc, h⟩
      · exact (J57 h).trans f26
      obtain ⟨g1, h⟩ := gd_some h
      exact (J58 (rd m26 86 v2) h).trans f26
    rcases ite_or h with ⟨hc, h⟩ | ⟨hc, h⟩
    · exact (J26 0 h).trans rfl
    exact (J26 1 h).trans rfl
set_option maxRecDepth 100000 in
set_option maxHeartbeats 4000000 in
theorem fr_F11_doAgree {k : Nat} {i : Int} {m : Mem}  {v1 : Int} {out : Int × Mem} (hk_97 : k ≠ 97) (hk_96 : k ≠ 96) (hf24_83 : ¬ (k = 83 ∧ i = 24)) (hk_100 : k ≠ 100) (hk_101 : k ≠ 101) (hk_102 : k ≠ 102) (h : F11_doAgree m v1 = some out) : out.2 k i = m k i := by
  unfold F11_doAgree at h
  refine (fr_L11_doAgree_2 hk_97 hk_96 (fun m_65 h => ?_) FU 0 m h).trans rfl
  obtain ⟨m66, e66, h⟩ := b1_some h
  have f66 : m66 k i = m_65 k i := fr_F11_findOrder hf24_83 hk_100 e66
  obtain ⟨r70, m70, e70, h⟩ := b2_some h
  have f70 : m70 k i = m66 k i := fr_F11_findDays hk_101 hk_102 e70
  rcases ite_or h with ⟨hc, h⟩ | ⟨hc, h⟩
  · exact (congrArg (fun z : Int × Mem => z.2 k i) (Option.some.inj h)).symm.trans (f70.trans f66)
  exact (congrArg (fun z : Int × Mem => z.2 k i) (Option.some.inj h)).symm.trans (f70.trans f66)
set_option maxRecDepth 100000 in
set_option maxHeartbeats 4000000 in
theorem fr_L11_doubt_15 {k : Nat} {i : Int} {out : Int × Mem} {m : Mem} {k44 : Int → Option (Int × Mem)} (hk44 : ∀ (v2 : Int), k44 v2 = some out → out.2 k i = m k i) : ∀ (n : Nat) (v2 : Int) (v3 : Int), L11_doubt_15 m k44 n v2 v3 = some out → out.2 k i = m k i := by
  intro n
  induction n with
  | zero =>
    intro v2 v3 h
    cases h
  | succ n ih =>
    intro v2 v3 h
    rw [L11_doubt_15] at h
    rcases ite_or h with ⟨hc, h⟩ | ⟨hc, h⟩
    · exact (hk44 v2 h).trans rfl
    obtain ⟨g1, h⟩ := gd_some h
    refine (jn_e h (fun (K : Int → Option (Int × Mem)) => ∀ (v2_38 : Int), K v2_38 = some out → out.2 k i = m k i) (fun v2_38 h => ?_) (fun K38 J38 h => ?_))
    · exact (ih v2_38 (w32 (v3 + 1)) h).trans rfl
    rcases ite_or h with ⟨hc, h⟩ | ⟨hc, h⟩
    · exact (J38 v2 h).trans rfl
    exact (J38 (bor v2 (shl 1 v3)) h).trans rfl
set_option maxRecDepth 100000 in
set_option maxHeartbeats 4000000 in
theorem fr_L11_doubt_49 {k : Nat} {i : Int} {out : Int × Mem} {v2 : Int} {k101 : Int → Mem → Option (Int × Mem)} (hk_97 : k ≠ 97) (hk_96 : k ≠ 96) (hf24_83 : ¬ (k = 83 ∧ i = 24)) (hk_100 : k ≠ 100) (hk_101 : k ≠ 101) (hk_102 : k ≠ 102) (hk101 : ∀ (v3 : Int) (m : Mem), k101 v3 m = some out → out.2 k i = m k i) : ∀ (n : Nat) (v3 : Int) (v4 : Int) (m : Mem), L11_doubt_49 v2 k101 n v3 v4 m = some out → out.2 k i = m k i := by
  intro n
  induction n with
  | zero =>
    intro v3 v4 m h
    cases h
  | succ n ih =>
    intro v3 v4 m h
    rw [L11_doubt_49] at h
    rcases ite_or h with ⟨hc, h⟩ | ⟨hc, h⟩
    · exact (hk101 v3 m h).trans rfl
    refine (jn_e h (fun (K : Int → Mem → Option (Int × Mem)) => ∀ (v3_95 : Int) (m_95 : Mem), K v3_95 m_95 = some out → out.2 k i = m_95 k i) (fun v3_95 m_95 h => ?_) (fun K95 J95 h => ?_))
    · exact (ih v3_95 (w32 (v4 + 1)) m_95 h).trans rfl
    rcases ite_or h with ⟨hc, h⟩ | ⟨hc, h⟩
    · exact (J95 v3 m h).trans rfl
    refine (jn_e h (fun (K : Option (Int × Mem)) => K = some out → out.2 k i = m k i) (fun h => ?_) (fun K80 J80 h => ?_))
    · obtain ⟨r83, m83, e83, h⟩ := b2_some h
      have f83 : m83 k i = m k i := fr_F11_doAgree hk_97 hk_96 hf24_83 hk_100 hk_101 hk_102 e83
      rcases ite_or h with ⟨hc, h⟩ | ⟨hc, h⟩
      · exact (J95 v4 m83 h).trans f83
      exact (J95 v3 m83 h).trans f83
    rcases ite_or h with ⟨hc, h⟩ | ⟨hc, h⟩
    · exact (J80 h).trans rfl
    obtain ⟨r70, e70, h⟩ := b1_some h
    obtain ⟨r74, e74, h⟩ := b1_some h
    rcases ite_or h with ⟨hc, h⟩ | ⟨hc, h⟩
    · exact (J95 v3 m h).trans rfl
    exact (J80 h).trans rfl
set_option maxRecDepth 100000 in
set_option maxHeartbeats 4000000 in
theorem fr_F11_doubt {k : Nat} {i : Int} {m : Mem}  {v1 : Int} {out : Int × Mem} (hk_97 : k ≠ 97) (hk_96 : k ≠ 96) (hf24_83 : ¬ (k = 83 ∧ i = 24)) (hk_100 : k ≠ 100) (hk_101 : k ≠ 101) (hk_102 : k ≠ 102) (h : F11_doubt m v1 = some out) : out.2 k i = m k i := by
  unfold F11_doubt at h
  rcases ite_or h with ⟨hc, h⟩ | ⟨hc, h⟩
  · refine (fr_L11_doubt_15 (fun v2_44 h => ?_) FU 0 0 h).trans rfl
    refine (fr_L11_doubt_49 hk_97 hk_96 hf24_83 hk_100 hk_101 hk_102 (fun v3_101 m_101 h => ?_) FU (-1) 0 m h).trans rfl
    rcases ite_or h with ⟨hc, h⟩ | ⟨hc, h⟩
    · exact (congrArg (fun z : Int × Mem => z.2 k i) (Option.some.inj h)).symm.trans rfl
    obtain ⟨r106, e106, h⟩ := b1_some h
    exact (congrArg (fun z : Int × Mem => z.2 k i) (Option.some.inj h)).symm.trans rfl
  exact (congrArg (fun z : Int × Mem => z.2 k i) (Option.some.inj h)).symm.trans rfl
set_option maxRecDepth 100000 in
set_option maxHeartbeats 4000000 in
theorem fr_L11_digitsOf_4 {k : Nat} {i : Int} {out : Int × Mem} {m : Mem} {k19 : Int → Option (Int × Mem)} (hk19 : ∀ (v2 : Int), k19 v2 = some out → out.2 k i = m k i) : ∀ (n : Nat) (v2 : Int) (v3 : Int), L11_digitsOf_4 k19 n v2 v3 = some out → out.2 k i = m k i := by
  intro n
  induction n with
  | zero =>
    intro v2 v3 h
    cases h
  | succ n ih =>
    intro v2 v3 h
    rw [L11_digitsOf_4] at h
    rcases ite_or h with ⟨hc, h⟩ | ⟨hc, h⟩
    · exact (hk19 v2 h).trans rfl
    exact (ih (w32 (v2 + 1)) (idv v3 10) h).trans rfl
set_option maxRecDepth 100000 in
set_option maxHeartbeats 4000000 in
theorem fr_L11_digitsOf_26 {k : Nat} {i : Int} {out : Int × Mem} {a1 : Nat} {v2 : Int} (hk_a1 : k ≠ a1) : ∀ (n : Nat) (v3 : Int) (v4 : Int) (m : Mem), L11_digitsOf_26 a1 v2 n v3 v4 m = some out → out.2 k i = m k i := by
  intro n
  induction n with
  | zero =>
    intro v3 v4 m h
    cases h
  | succ n ih =>
    intro v3 v4 m h
    rw [L11_digitsOf_26] at h
    rcases ite_or h with ⟨hc, h⟩ | ⟨hc, h⟩
    · exact (congrArg (fun z : Int × Mem => z.2 k i) (Option.some.inj h)).symm.trans rfl
    obtain ⟨g1, h⟩ := gd_some h
    replace h := stw_e h
    have f38 : (wr m a1 v4 (irm v3 10)) k i = m k i := wr_ka hk_a1
    generalize wr m a1 v4 (irm v3 10) = m38 at h f38
    exact (ih (idv v3 10) (w32 (v4 + (-1))) m38 h).trans f38
set_option maxRecDepth 100000 in
set_option maxHeartbeats 4000000 in
theorem fr_F11_digitsOf {k : Nat} {i : Int} {m : Mem} {a1 : Nat} {v0 : Int} {out : Int × Mem} (hk_a1 : k ≠ a1) (h : F11_digitsOf m a1 v0 = some out) : out.2 k i = m k i := by
  unfold F11_digitsOf at h
  refine (fr_L11_digitsOf_4 (fun v2_19 h => ?_) FU 0 v0 h).trans rfl
  refine (fr_L11_digitsOf_26 hk_a1 FU v0 (w32 (v2_19 - 1)) m h).trans rfl
set_option maxRecDepth 100000 in
set_option maxHeartbeats 4000000 in
theorem fr_L11_slipOf_29 {k : Nat} {i : Int} {out : Int × Mem} {m : Mem} {v3 : Int} {v4 : Int} {k62 : Option (Int × Mem)} (hk62 : k62 = some out → out.2 k i = m k i) : ∀ (n : Nat) (v5 : Int), L11_slipOf_29 m v3 v4 k62 n v5 = some out → out.2 k i = m k i := by
  intro n
  induction n with
  | zero =>
    intro v5 h
    cases h
  | succ n ih =>
    intro v5 h
    rw [L11_slipOf_29] at h
    rcases ite_or h with ⟨hc, h⟩ | ⟨hc, h⟩
    · exact (hk62 h).trans rfl
    obtain ⟨r48, e48, h⟩ := b1_some h
    rcases ite_or h with ⟨hc, h⟩ | ⟨hc, h⟩
    · exact (ih (w32 (v5 + 1)) h).trans rfl
    exact (congrArg (fun z : Int × Mem => z.2 k i) (Option.some.inj h)).symm.trans rfl
set_option maxRecDepth 100000 in
set_option maxHeartbeats 4000000 in
theorem fr_L11_slipOf_65 {k : Nat} {i : Int} {out : Int × Mem} {m : Mem} {v3 : Int} {v4 : Int} {k118 : Option (Int × Mem)} (hk118 : k118 = some out → out.2 k i = m k i) : ∀ (n : Nat) (v5 : Int), L11_slipOf_65 m v3 v4 k118 n v5 = some out → out.2 k i = m k i := by
  intro n
  induction n with
  | zero =>
    intro v5 h
    cases h
  | succ n ih =>
    intro v5 h
    rw [L11_slipOf_65] at h
    rcases ite_or h with ⟨hc, h⟩ | ⟨hc, h⟩
    · exact (hk118 h).trans rfl
    obtain ⟨g1, h⟩ := gd_some h
    obtain ⟨g1, h⟩ := gd_some h
    refine (jn_e h (fun (K : Option (Int × Mem)) => K = some out → out.2 k i = m k i) (fun h => ?_) (fun K112 J112 h => ?_))
    · exact (ih (w32 (v5 + 1)) h).trans rfl
    rcases ite_or h with ⟨hc, h⟩ | ⟨hc, h⟩
    · exact (J112 h).trans rfl
    obtain ⟨r104, e104, h⟩ := b1_some h
    rcases ite_or h with ⟨hc, h⟩ | ⟨hc, h⟩
    · exact (J112 h).trans rfl
    exact (congrArg (fun z : Int × Mem => z.2 k i) (Option.some.inj h)).symm.trans rfl
set_option maxRecDepth 100000 in
set_option maxHeartbeats 4000000 in
theorem fr_L11_slipOf_139 {k : Nat} {i : Int} {out : Int × Mem} {m : Mem} {v3 : Int} {k187 : Int → Int → Int → Option (Int × Mem)} (hk187 : ∀ (v5 : Int) (v6 : Int) (v7 : Int), k187 v5 v6 v7 = some out → out.2 k i = m k i) : ∀ (n : Nat) (v5 : Int) (v6 : Int) (v7 : Int) (v8 : Int), L11_slipOf_139 m v3 k187 n v5 v6 v7 v8 = some out → out.2 k i = m k i := by
  intro n
  induction n with
  | zero =>
    intro v5 v6 v7 v8 h
    cases h
  | succ n ih =>
    intro v5 v6 v7 v8 h
    rw [L11_slipOf_139] at h
    rcases ite_or h with ⟨hc, h⟩ | ⟨hc, h⟩
    · exact (hk187 v5 v6 v7 h).trans rfl
    obtain ⟨g1, h⟩ := gd_some h
    obtain ⟨g1, h⟩ := gd_some h
    refine (jn_e h (fun (K : Int → Int → Int → Option (Int × Mem)) => ∀ (v5_181 : Int) (v6_181 : Int) (v7_181 : Int), K v5_181 v6_181 v7_181 = some out → out.2 k i = m k i) (fun v5_181 v6_181 v7_181 h => ?_) (fun K181 J181 h => ?_))
    · exact (ih v5_181 v6_181 v7_181 (w32 (v8 + 1)) h).trans rfl
    rcases ite_or h with ⟨hc, h⟩ | ⟨hc, h⟩
    · refine (jn_e h (fun (K : Int → Option (Int × Mem)) => ∀ (v6_177 : Int), K v6_177 = some out → out.2 k i = m k i) (fun v6_177 h => ?_) (fun K177 J177 h => ?_))
      · exact (J181 (w32 (v5 + 1)) v6_177 v8 h).trans rfl
      rcases ite_or h with ⟨hc, h⟩ | ⟨hc, h⟩
      · exact (J177 v6 h).trans rfl
      exact (J177 v8 h).trans rfl
    exact (J181 v5 v6 v7 h).trans rfl
set_option maxRecDepth 100000 in
set_option maxHeartbeats 4000000 in
theorem fr_F11_slipOf {k : Nat} {i : Int} {m : Mem}  {v1 v2 : Int} {out : Int × Mem} (hk_112 : k ≠ 112) (hk_113 : k ≠ 113) (h : F11_slipOf m v1 v2 = some out) : out.2 k i = m k i := by
  unfold F11_slipOf at h
  rcases ite_or h with ⟨hc, h⟩ | ⟨hc, h⟩
  · obtain ⟨r12, m12, e12, h⟩ := b2_some h
    have f12 : m12 k i = m k i := fr_F11_digitsOf hk_112 e12
    obtain ⟨r21, m21, e21, h⟩ := b2_some h
    have f21 : m21 k i = m12 k i := fr_F11_digitsOf hk_113 e21
    refine (fr_L11_slipOf_29 (fun h => ?_) FU 0 h).trans (f21.trans f12)
    refine (fr_L11_slipOf_65 (fun h => ?_) FU 1 h).trans rfl
    rcases ite_or h with ⟨hc, h⟩ | ⟨hc, h⟩
    · refine (fr_L11_slipOf_139 (fun v5_187 v6_187 v7_187 h => ?_) FU 0 (-1) (-1) 0 h).trans rfl
      refine (jn_e h (fun (K : Option (Int × Mem)) => K = some out → out.2 k i = m21 k i) (fun h => ?_) (fun K238 J238 h => ?_))
      · refine (jn_e h (fun (K : Option (Int × Mem)) => K = some out → out.2 k i = m21 k i) (fun h => ?_) (fun K268 J268 h => ?_))
        · exact (congrArg (fun z : Int × Mem => z.2 k i) (Option.some.inj h)).symm.trans rfl
        rcases ite_or h with ⟨hc, h⟩ | ⟨hc, h⟩
        · exact (J268 h).trans rfl
        obtain ⟨g1, h⟩ := gd_some h
        obtain ⟨g1, h⟩ := gd_some h
        rcases ite_or h with ⟨hc, h⟩ | ⟨hc, h⟩
        · exact (J268 h).trans rfl
        exact (congrArg (fun z : Int × Mem => z.2 k i) (Option.some.inj h)).symm.trans rfl
      rcases ite_or h with ⟨hc, h⟩ | ⟨hc, h⟩
      · exact (J238 h).trans rfl
      rcases ite_or h with ⟨hc, h⟩ | ⟨hc, h⟩
      · exact (J238 h).trans rfl
      obtain ⟨g1, h⟩ := gd_some h
      obtain ⟨g1, h⟩ := gd_some h
      rcases ite_or h with ⟨hc, h⟩ | ⟨hc, h⟩
      · exact (J238 h).trans rfl
      obtain ⟨g1, h⟩ := gd_some h
      obtain ⟨g1, h⟩ := gd_some h
      rcases ite_or h with ⟨hc, h⟩ | ⟨hc, h⟩
      · exact (J238 h).trans rfl
      exact (congrArg (fun z : Int × Mem => z.2 k i) (Option.some.inj h)).symm.trans rfl
    exact (congrArg (fun z : Int × Mem => z.2 k i) (Option.some.inj h)).symm.trans rfl
  exact (congrArg (fun z : Int × Mem => z.2 k i) (Option.some.inj h)).symm.trans rfl
set_option maxRecDepth 100000 in
set_option maxHeartbeats 4000000 in
theorem fr_F11_slip {k : Nat} {i : Int} {m : Mem}  {v1 v2 : Int} {out : Int × Mem} (hk_112 : k ≠ 112) (hk_113 : k ≠ 113) (h : F11_slip m v1 v2 = some out) : out.2 k i = m k i := by
  unfold F11_slip at h
  refine (jn_e h (fun (K : Option (Int × Mem)) => K = some out → out.2 k i = m k i) (fun h => ?_) (fun K23 J23 h => ?_))
  · exact (congrArg (fun z : Int × Mem => z.2 k i) (Option.some.inj h)).symm.trans rfl
  rcases ite_or h with ⟨hc, h⟩ | ⟨hc, h⟩
  · exact (J23 h).trans rfl
  rcases ite_or h with ⟨hc, h⟩ | ⟨hc, h⟩
  · exact (J23 h).trans rfl
  obtain ⟨r17, m17, e17, h⟩ := b2_some h
  have f17 : m17 k i = m k i := fr_F11_slipOf hk_112 hk_113 e17
  exact (congrArg (fun z : Int × Mem => z.2 k i) (Option.some.inj h)).symm.trans f17
set_option maxRecDepth 100000 in
set_option maxHeartbeats 4000000 in
theorem fr_L11_copyRow_16 {k : Nat} {i : Int} {out : Mem} {v1 : Int} (hk_114 : k ≠ 114) : ∀ (n : Nat) (v2 : Int) (m : Mem), L11_copyRow_16 v1 n v2 m = some out → out k i = m k i := by
  intro n
  induction n with
  | zero =>
    intro v2 m h
    cases h
  | succ n ih =>
    intro v2 m h
    rw [L11_copyRow_16] at h
    rcases ite_or h with ⟨hc, h⟩ | ⟨hc, h⟩
    · exact (congrArg (fun z : Mem => z k i) (Option.some.inj h)).symm.trans rfl
    obtain ⟨g1, h⟩ := gd_some h
    obtain ⟨g1, h⟩ := gd_some h
    replace h := stw_e h
    have f46 : (wr m 114 (w32 ((w32 ((w32 (6 * v1)) + 6)) + v2)) (rd m 114 (w32 ((w32 (6 * v1)) + v2)))) k i = m k i := wr_ka hk_114
    generalize wr m 114 (w32 ((w32 ((w32 (6 * v1)) + 6)) + v2)) (rd m 114 (w32 ((w32 (6 * v1)) + v2))) = m46 at h f46
    exact (ih (w32 (v2 + 1)) m46 h).trans f46
set_option maxRecDepth 100000 in
set_option maxHeartbeats 4000000 in
theorem fr_F11_copyRow {k : Nat} {i : Int} {m : Mem}  {v1 : Int} {out : Mem} (hk_115 : k ≠ 115) (hk_114 : k ≠ 114) (h : F11_copyRow m v1 = some out) : out k i = m k i := by
  unfold F11_copyRow at h
  obtain ⟨g1, h⟩ := gd_some h
  obtain ⟨g1, h⟩ := gd_some h
  replace h := stw_e h
  have f13 : (wr m 115 (w32 (v1 + 1)) (rd m 115 v1)) k i = m k i := wr_ka hk_115
  generalize wr m 115 (w32 (v1 + 1)) (rd m 115 v1) = m13 at h f13
  refine (fr_L11_copyRow_16 hk_114 FU 0 m13 h).trans f13
set_option maxRecDepth 100000 in
set_option maxHeartbeats 4000000 in
theorem fr_L11_reaches_66 {k : Nat} {i : Int} {out : Int × Mem} {v5 : Int} {v6 : Int} {k103 : Mem → Option (Int × Mem)} (hk_114 : k ≠ 114) (hk103 : ∀ (m : Mem), k103 m = some out → out.2 k i = m k i) : ∀ (n : Nat) (v8 : Int) (m : Mem), L11_reaches_66 v5 v6 k103 n v8 m = some out → out.2 k i = m k i := by
  intro n
  induction n with
  | zero =>
    intro v8 m h
    cases h
  | succ n ih =>
    intro v8 m h
    rw [L11_reaches_66] at h
    rcases ite_or h with ⟨hc, h⟩ | ⟨hc, h⟩
    · exact (hk103 m h).trans rfl
    obtain ⟨g1, h⟩ := gd_some h
    obtain ⟨g1, h⟩ := gd_some h
    replace h := stw_e h
    have f96 : (wr m 114 (w32 (v6 + v8)) (rd m 114 (w32 ((w32 (v6 + v8)) + 1)))) k i = m k i := wr_ka hk_114
    generalize wr m 114 (w32 (v6 + v8)) (rd m 114 (w32 ((w32 (v6 + v8)) + 1))) = m96 at h f96
    exact (ih (w32 (v8 + 1)) m96 h).trans f96
set_option maxRecDepth 100000 in
set_option maxHeartbeats 4000000 in
theorem fr_L11_reaches_140 {k : Nat} {i : Int} {out : Int × Mem} {v6 : Int} {v7 : Int} {k175 : Mem → Option (Int × Mem)} (hk_114 : k ≠ 114) (hk175 : ∀ (m : Mem), k175 m = some out → out.2 k i = m k i) : ∀ (n : Nat) (v8 : Int) (m : Mem), L11_reaches_140 v6 v7 k175 n v8 m = some out → out.2 k i = m k i := by
  intro n
  induction n with
  | zero =>
    intro v8 m h
    cases h
  | succ n ih =>
    intro v8 m h
    rw [L11_reaches_140] at h
    rcases ite_or h with ⟨hc, h⟩ | ⟨hc, h⟩
    · exact (hk175 m h).trans rfl
    obtain ⟨g1, h⟩ := gd_some h
    obtain ⟨g1, h⟩ := gd_some h
    replace h := stw_e h
    have f168 : (wr m 114 (w32 (v6 + v8)) (rd m 114 (w32 ((w32 (v6 + v8)) - 1)))) k i = m k i := wr_ka hk_114
    generalize wr m 114 (w32 (v6 + v8)) (rd m 114 (w32 ((w32 (v6 + v8)) - 1))) = m168 at h f168
    exact (ih (w32 (v8 + (-1))) m168 h).trans f168
set_option maxRecDepth 100000 in
set_option maxHeartbeats 4000000 in
theorem fr_L11_reaches_290 {k : Nat} {i : Int} {out : Int × Mem} {v1 : Int} {v2 : Int} {v3 : Int} {v6 : Int} {v7 : Int} {k359 : Mem → Option (Int × Mem)} (hk_115 : k ≠ 115) (hk_114 : k ≠ 114) {rec : Mem → Int → Int → Int → Option (Int × Mem)} (rec_fr : ∀ {m : Mem} {w0 : Int} {w1 : Int} {w2 : Int} {out : Int × Mem}, rec m w0 w1 w2 = some out → out.2 k i = m k i) (hk359 : ∀ (m : Mem), k359 m = some out → out.2 k i = m k i) : ∀ (n : Nat) (v8 : Int) (m : Mem), L11_reaches_290 rec v1 v2 v3 v6 v7 k359 n v8 m = some out → out.2 k i = m k i := by
  intro n
  induction n with
  | zero =>
    intro v8 m h
    cases h
  | succ n ih =>
    intro v8 m h
    rw [L11_reaches_290] at h
    rcases ite_or h with ⟨hc, h⟩ | ⟨hc, h⟩
    · exact (hk359 m h).trans rfl
    obtain ⟨m299, e299, h⟩ := b1_some h
    have f299 : m299 k i = m k i := fr_F11_copyRow hk_115 hk_114 e299
    obtain ⟨g1, h⟩ := gd_some h
    refine (jn_e h (fun (K : Mem → Option (Int × Mem)) => ∀ (m_353 : Mem), K m_353 = some out → out.2 k i = m_353 k i) (fun m_353 h => ?_) (fun K353 J353 h => ?_))
    · exact (ih (w32 (v8 + 1)) m_353 h).trans rfl
    rcases ite_or h with ⟨hc, h⟩ | ⟨hc, h⟩
    · obtain ⟨g1, h⟩ := gd_some h
      replace h := stw_e h
      have f336 : (wr m299 114 (w32 (v6 + v7)) v8) k i = m299 k i := wr_ka hk_114
      generalize wr m299 114 (w32 (v6 + v7)) v8 = m336 at h f336
      obtain ⟨r345, m345, e345, h⟩ := b2_some h
      have f345 : m345 k i = m336 k i := rec_fr e345
      rcases ite_or h with ⟨hc, h⟩ | ⟨hc, h⟩
      · exact (J353 m345 h).trans (f345.trans (f336.trans f299))
      exact (congrArg (fun z : Int × Mem => z.2 k i) (Option.some.inj h)).symm.trans (f345.trans (f336.trans f299))
    exact (J353 m299 h).trans f299
set_option maxRecDepth 100000 in
set_option maxHeartbeats 4000000 in
theorem fr_L11_reaches_50 {k : Nat} {i : Int} {out : Int × Mem} {v1 : Int} {v2 : Int} {v3 : Int} {v5 : Int} {v6 : Int} (hk_115 : k ≠ 115) (hk_114 : k ≠ 114) {rec : Mem → Int → Int → Int → Option (Int × Mem)} (rec_fr : ∀ {m : Mem} {w0 : Int} {w1 : Int} {w2 : Int} {out : Int × Mem}, rec m w0 w1 w2 = some out → out.2 k i = m k i) : ∀ (n : Nat) (v7 : Int) (m : Mem), L11_reaches_50 rec v1 v2 v3 v5 v6 n v7 m = some out → out.2 k i = m k i := by
  intro n
  induction n with
  | zero =>
    intro v7 m h
    cases h
  | succ n ih =>
    intro v7 m h
    rw [L11_reaches_50] at h
    rcases ite_or h with ⟨hc, h⟩ | ⟨hc, h⟩
    · exact (congrArg (fun z : Int × Mem => z.2 k i) (Option.some.inj h)).symm.trans rfl
    obtain ⟨m59, e59, h⟩ := b1_some h
    have f59 : m59 k i = m k i := fr_F11_copyRow hk_115 hk_114 e59
    refine (fr_L11_reaches_66 hk_114 (fun m_103 h => ?_) FU v7 m59 h).trans f59
    obtain ⟨g1, h⟩ := gd_some h
    replace h := stw_e h
    have f114 : (wr m_103 115 (w32 (v1 + 1)) (w32 (v5 - 1))) k i = m_103 k i := wr_ka hk_115
    generalize wr m_103 115 (w32 (v1 + 1)) (w32 (v5 - 1)) = m114 at h f114
    obtain ⟨r123, m123, e123, h⟩ := b2_some h
    have f123 : m123 k i = m114 k i := rec_fr e123
    rcases ite_or h with ⟨hc, h⟩ | ⟨hc, h⟩
    · obtain ⟨m133, e133, h⟩ := b1_some h
      have f133 : m133 k i = m123 k i := fr_F11_copyRow hk_115 hk_114 e133
      refine (fr_L11_reaches_140 hk_114 (fun m_175 h => ?_) FU v5 m133 h).trans (f133.trans (f123.trans f114))
      obtain ⟨g1, h⟩ := gd_some h
      replace h := stw_e h
      have f186 : (wr m_175 115 (w32 (v1 + 1)) (w32 (v5 + 1))) k i = m_175 k i := wr_ka hk_115
      generalize wr m_175 115 (w32 (v1 + 1)) (w32 (v5 + 1)) = m186 at h f186
      refine (jn_e h (fun (K : Mem → Option (Int × Mem)) => ∀ (m_209 : Mem), K m_209 = some out → out.2 k i = m_209 k i) (fun m_209 h => ?_) (fun K209 J209 h => ?_))
      · obtain ⟨m211, e211, h⟩ := b1_some h
        have f211 : m211 k i = m_209 k i := fr_F11_copyRow hk_115 hk_114 e211
        refine (jn_e h (fun (K : Mem → Option (Int × Mem)) => ∀ (m_287 : Mem), K m_287 = some out → out.2 k i = m_287 k i) (fun m_287 h => ?_) (fun K287 J287 h => ?_))
        · refine (fr_L11_reaches_290 hk_115 hk_114 rec_fr (fun m_359 h => ?_) FU 0 m_287 h).trans rfl
          exact (ih (w32 (v7 + 1)) m_359 h).trans rfl
        rcases ite_or h with ⟨hc, h⟩ | ⟨hc, h⟩
        · exact (J287 m211 h).trans f211
        obtain ⟨g1, h⟩ := gd_some h
        obtain ⟨g1, h⟩ := gd_some h
        replace h := stw_e h
        have f246 : (wr m211 114 (w32 (v6 + v7)) (rd m211 114 (w32 ((w32 ((w32 (6 * v1)) + v7)) + 1)))) k i = m211 k i := wr_ka hk_114
        generalize wr m211 114 (w32 (v6 + v7)) (rd m211 114 (w32 ((w32 ((w32 (6 * v1)) + v7)) + 1))) = m246 at h f246
        obtain ⟨g1, h⟩ := gd_some h
        obtain ⟨g1, h⟩ := gd_some h
        replace h := stw_e h
        have f270 : (wr m246 114 (w32 ((w32 (v6 + v7)) + 1)) (rd m246 114 (w32 ((w32 (6 * v1)) + v7)))) k i = m246 k i := wr_ka hk_114
        generalize wr m246 114 (w32 ((w32 (v6 + v7)) + 1)) (rd m246 114 (w32 ((w32 (6 * v1)) + v7))) = m270 at h f270
        obtain ⟨r279, m279, e279, h⟩ := b2_some h
        have f279 : m279 k i = m270 k i := rec_fr e279
        rcases ite_or h with ⟨hc, h⟩ | ⟨hc, h⟩
        · exact (J287 m279 h).trans (f279.trans (f270.trans (f246.trans f211)))
        exact (congrArg (fun z : Int × Mem => z.2 k i) (Option.some.inj h)).symm.trans (f279.trans (f270.trans (f246.trans f211)))
      rcases ite_or h with ⟨hc, h⟩ | ⟨hc, h⟩
      · exact (J209 m186 h).trans f186
      obtain ⟨r201, m201, e201, h⟩ := b2_some h
      have f201 : m201 k i = m186 k i := rec_fr e201
      rcases ite_or h with ⟨hc, h⟩ | ⟨hc, h⟩
      · exact (J209 m201 h).trans (f201.trans f186)
      exact (congrArg (fun z : Int × Mem => z.2 k i) (Option.some.inj h)).symm.trans (f201.trans f186)
    exact (congrArg (fun z : Int × Mem => z.2 k i) (Option.some.inj h)).symm.trans (f123.trans f114)
set_option maxRecDepth 100000 in
set_option maxHeartbeats 4000000 in
theorem fr_F11_reaches {k : Nat} {i : Int} (hk_115 : k ≠ 115) (hk_114 : k ≠ 114) : ∀ (n : Nat) {m : Mem}  {v1 v2 v3 : Int} {out : Int × Mem} , F11_reaches n m v1 v2 v3 = some out → out.2 k i = m k i := by
  intro n
  induction n with
  | zero => intro _ _ _ _ _ h; cases h
  | succ n rec_ih =>
    intro m v1 v2 v3 out h
    have rec_fr : ∀ {m : Mem} {v1 : Int} {v2 : Int} {v3 : Int} {out : Int × Mem}, F11_reaches n m v1 v2 v3 = some out → out.2 k i = m k i := rec_ih
    rw [F11_reaches] at h
    obtain ⟨r2, e2, h⟩ := b1_some h
    rcases ite_or h with ⟨hc, h⟩ | ⟨hc, h⟩
    · rcases ite_or h with ⟨hc, h⟩ | ⟨hc, h⟩
      · obtain ⟨g1, h⟩ := gd_some h
        refine (fr_L11_reaches_50 hk_115 hk_114 rec_fr FU 0 m h).trans rfl
      rcases ite_or h with ⟨hc, h⟩ | ⟨hc, h⟩
      · exact (congrArg (fun z : Int × Mem => z.2 k i) (Option.some.inj h)).symm.trans rfl
      exact (congrArg (fun z : Int × Mem => z.2 k i) (Option.some.inj h)).symm.trans rfl
    exact (congrArg (fun z : Int × Mem => z.2 k i) (Option.some.inj h)).symm.trans rfl
set_option maxRecDepth 100000 in
set_option maxHeartbeats 4000000 in
theorem fr_L11_chain_35 {k : Nat} {i : Int} {out : Int × Mem} {v3 : Int} {k72 : Mem → Option (Int × Mem)} (hk_114 : k ≠ 114) (hk72 : ∀ (m : Mem), k72 m = some out → out.2 k i = m k i) : ∀ (n : Nat) (v4 : Int) (m : Mem), L11_chain_35 v3 k72 n v4 m = some out → out.2 k i = m k i := by
  intro n
  induction n with
  | zero =>
    intro v4 m h
    cases h
  | succ n ih =>
    intro v4 m h
    rw [L11_chain_35] at h
    rcases ite_or h with ⟨hc, h⟩ | ⟨hc, h⟩
    · exact (hk72 m h).trans rfl
    refine (jn_e h (fun (K : Int → Option (Int × Mem)) => ∀ (x65 : Int), K x65 = some out → out.2 k i = m k i) (fun x65 h => ?_) (fun K65 J65 h => ?_))
    · obtain ⟨g1, h⟩ := gd_some h
      replace h := stw_e h
      have f65 : (wr m 114 v4 x65) k i = m k i := wr_ka hk_114
      generalize wr m 114 v4 x65 = m65 at h f65
      exact (ih (w32 (v4 + 1)) m65 h).trans f65
    rcases ite_or h with ⟨hc, h⟩ | ⟨hc, h⟩
    · exact (J65 0 h).trans rfl
    obtain ⟨g1, h⟩ := gd_some h
    exact (J65 (rd m 112 v4) h).trans rfl
set_option maxRecDepth 100000 in
set_option maxHeartbeats 4000000 in
theorem fr_L11_chain_75 {k : Nat} {i : Int} {out : Int × Mem} {v2 : Int} (hk_115 : k ≠ 115) (hk_114 : k ≠ 114) : ∀ (n : Nat) (v4 : Int) (m : Mem), L11_chain_75 v2 n v4 m = some out → out.2 k i = m k i := by
  intro n
  induction n with
  | zero =>
    intro v4 m h
    cases h
  | succ n ih =>
    intro v4 m h
    rw [L11_chain_75] at h
    rcases ite_or h with ⟨hc, h⟩ | ⟨hc, h⟩
    · exact (congrArg (fun z : Int × Mem => z.2 k i) (Option.some.inj h)).symm.trans rfl
    obtain ⟨r86, m86, e86, h⟩ := b2_some h
    have f86 : m86 k i = m k i := fr_F11_reaches hk_115 hk_114 6 e86
    rcases ite_or h with ⟨hc, h⟩ | ⟨hc, h⟩
    · exact (ih (w32 (v4 + 1)) m86 h).trans f86
    exact (congrArg (fun z : Int × Mem => z.2 k i) (Option.some.inj h)).symm.trans f86
set_option maxRecDepth 100000 in
set_option maxHeartbeats 4000000 in
theorem fr_F11_chain {k : Nat} {i : Int} {m : Mem}  {v1 v2 : Int} {out : Int × Mem} (hk_112 : k ≠ 112) (hk_115 : k ≠ 115) (hk_114 : k ≠ 114) (h : F11_chain m v1 v2 = some out) : out.2 k i = m k i := by
  unfold F11_chain at h
  rcases ite_or h with ⟨hc, h⟩ | ⟨hc, h⟩
  · exact (congrArg (fun z : Int × Mem => z.2 k i) (Option.some.inj h)).symm.trans rfl
  rcases ite_or h with ⟨hc, h⟩ | ⟨hc, h⟩
  · obtain ⟨r21, m21, e21, h⟩ := b2_some h
    have f21 : m21 k i = m k i := fr_F11_digitsOf hk_112 e21
    obtain ⟨g1, h⟩ := gd_some h
    replace h := stw_e h
    have f31 : (wr m21 115 0 r21) k i = m21 k i := wr_ka hk_115
    generalize wr m21 115 0 r21 = m31 at h f31
    refine (fr_L11_chain_35 hk_114 (fun m_72 h => ?_) FU 0 m31 h).trans (f31.trans f21)
    refine (fr_L11_chain_75 hk_115 hk_114 FU 0 m_72 h).trans rfl
  exact (congrArg (fun z : Int × Mem => z.2 k i) (Option.some.inj h)).symm.trans rfl
set_option maxRecDepth 100000 in
set_option maxHeartbeats 4000000 in
theorem fr_F11_path {k : Nat} {i : Int} {m : Mem}  {v1 v2 : Int} {out : Int × Mem} (hk_116 : k ≠ 116) (hk_117 : k ≠ 117) (hf46_83 : ¬ (k = 83 ∧ i = 46)) (h : F11_path m v1 v2 = some out) : out.2 k i = m k i := by
  unfold F11_path at h
  rcases ite_or h with ⟨hc, h⟩ | ⟨hc, h⟩
  · exact (congrArg (fun z : Int × Mem => z.2 k i) (Option.some.inj h)).symm.trans rfl
  rcases ite_or h with ⟨hc, h⟩ | ⟨hc, h⟩
  · rcases ite_or h with ⟨hc, h⟩ | ⟨hc, h⟩
    · obtain ⟨g1, h⟩ := gd_some h
      replace h := stw_e h
      have f41 : (wr m 116 (rd m 83 46) v1) k i = m k i := wr_ka hk_116
      generalize wr m 116 (rd m 83 46) v1 = m41 at h f41
      obtain ⟨g1, h⟩ := gd_some h
      replace h := stw_e h
      have f51 : (wr m41 117 (rd m41 83 46) v2) k i = m41 k i := wr_ka hk_117
      generalize wr m41 117 (rd m41 83 46) v2 = m51 at h f51
      replace h := stw_e h
      have f59 : (wr m51 83 46 (w32 ((rd m51 83 46) + 1))) k i = m51 k i := wr_ki hf46_83
      generalize wr m51 83 46 (w32 ((rd m51 83 46) + 1)) = m59 at h f59
      exact (congrArg (fun z : Int × Mem => z.2 k i) (Option.some.inj h)).symm.trans (f59.trans (f51.trans f41))
    exact (congrArg (fun z : Int × Mem => z.2 k i) (Option.some.inj h)).symm.trans rfl
  exact (congrArg (fun z : Int × Mem => z.2 k i) (Option.some.inj h)).symm.trans rfl
set_option maxRecDepth 100000 in
set_option maxHeartbeats 4000000 in
theorem fr_F11_ran {k : Nat} {i : Int} {m : Mem}  {v1 : Int} {out : Mem} (hf49_83 : ¬ (k = 83 ∧ i = 49)) (hk_118 : k ≠ 118) (h : F11_ran m v1 = some out) : out k i = m k i := by
  unfold F11_ran at h
  refine (jn_e h (fun (K : Mem → Option Mem) => ∀ (m_19 : Mem), K m_19 = some out → out k i = m_19 k i) (fun m_19 h => ?_) (fun K19 J19 h => ?_))
  · replace h := stw_e h
    have f26 : (wr m_19 83 49 (w32 ((rd m_19 83 49) + 1))) k i = m_19 k i := wr_ki hf49_83
    generalize wr m_19 83 49 (w32 ((rd m_19 83 49) + 1)) = m26 at h f26
    exact (congrArg (fun z : Mem => z k i) (Option.some.inj h)).symm.trans f26
  rcases ite_or h with ⟨hc, h⟩ | ⟨hc, h⟩
  · exact (J19 m h).trans rfl
  obtain ⟨g1, h⟩ := gd_some h
  replace h := stw_e h
  have f18 : (wr m 118 (rd m 83 49) v1) k i = m k i := wr_ka hk_118
  generalize wr m 118 (rd m 83 49) v1 = m18 at h f18
  exact (J19 m18 h).trans f18
set_option maxRecDepth 100000 in
set_option maxHeartbeats 4000000 in
theorem fr_F11_plainCosts {k : Nat} {i : Int} {m : Mem}  {v1 v2 : Int} {out : Int × Mem} (hf49_83 : ¬ (k = 83 ∧ i = 49)) (hk_118 : k ≠ 118) (h : F11_plainCosts m v1 v2 = some out) : out.2 k i = m k i := by
  unfold F11_plainCosts at h
  obtain ⟨m2, e2, h⟩ := b1_some h
  have f2 : m2 k i = m k i := fr_F11_ran hf49_83 hk_118 e2
  exact (congrArg (fun z : Int × Mem => z.2 k i) (Option.some.inj h)).symm.trans f2
set_option maxRecDepth 100000 in
set_option maxHeartbeats 4000000 in
theorem fr_F11_costs {k : Nat} {i : Int} {m : Mem}  {v1 v2 : Int} {out : Int × Mem} (hf49_83 : ¬ (k = 83 ∧ i = 49)) (hk_118 : k ≠ 118) (h : F11_costs m v1 v2 = some out) : out.2 k i = m k i := by
  unfold F11_costs at h
  obtain ⟨g1, h⟩ := gd_some h
  rcases ite_or h with ⟨hc, h⟩ | ⟨hc, h⟩
  · obtain ⟨g1, h⟩ := gd_some h
    rcases ite_or h with ⟨hc, h⟩ | ⟨hc, h⟩
    · obtain ⟨r53, m53, e53, h⟩ := b2_some h
      have f53 : m53 k i = m k i := fr_F11_plainCosts hf49_83 hk_118 e53
      exact (congrArg (fun z : Int × Mem => z.2 k i) (Option.some.inj h)).symm.trans f53
    obtain ⟨m38, e38, h⟩ := b1_some h
    have f38 : m38 k i = m k i := fr_F11_ran hf49_83 hk_118 e38
    obtain ⟨r46, m46, e46, h⟩ := b2_some h
    have f46 : m46 k i = m38 k i := fr_F11_plainCosts hf49_83 hk_118 e46
    exact (congrArg (fun z : Int × Mem => z.2 k i) (Option.some.inj h)).symm.trans (f46.trans f38)
  obtain ⟨m13, e13, h⟩ := b1_some h
  have f13 : m13 k i = m k i := fr_F11_ran hf49_83 hk_118 e13
  obtain ⟨r19, m19, e19, h⟩ := b2_some h
  have f19 : m19 k i = m13 k i := fr_F11_plainCosts hf49_83 hk_118 e19
  exact (congrArg (fun z : Int × Mem => z.2 k i) (Option.some.inj h)).symm.trans (f19.trans f13)
set_option maxRecDepth 100000 in
set_option maxHeartbeats 4000000 in
theorem fr_F11_plainLets {k : Nat} {i : Int} {m : Mem}  {v1 v2 : Int} {out : Int × Mem} (hf49_83 : ¬ (k = 83 ∧ i = 49)) (hk_118 : k ≠ 118) (h : F11_plainLets m v1 v2 = some out) : out.2 k i = m k i := by
  unfold F11_plainLets at h
  obtain ⟨m3, e3, h⟩ := b1_some h
  have f3 : m3 k i = m k i := fr_F11_ran hf49_83 hk_118 e3
  obtain ⟨r9, m9, e9, h⟩ := b2_some h
  have f9 : m9 k i = m3 k i := fr_F11_costs hf49_83 hk_118 e9
  exact (congrArg (fun z : Int × Mem => z.2 k i) (Option.some.inj h)).symm.trans (f9.trans f3)
set_option maxRecDepth 100000 in
set_option maxHeartbeats 4000000 in
theorem fr_F11_childLets {k : Nat} {i : Int} {m : Mem}  {v1 v2 : Int} {out : Int × Mem} (hf49_83 : ¬ (k = 83 ∧ i = 49)) (hk_118 : k ≠ 118) (h : F11_childLets m v1 v2 = some out) : out.2 k i = m k i := by
  unfold F11_childLets at h
  obtain ⟨m3, e3, h⟩ := b1_some h
  have f3 : m3 k i = m k i := fr_F11_ran hf49_83 hk_118 e3
  obtain ⟨r9, m9, e9, h⟩ := b2_some h
  have f9 : m9 k i = m3 k i := fr_F11_plainLets hf49_83 hk_118 e9
  obtain ⟨g1, h⟩ := gd_some h
  exact (congrArg (fun z : Int × Mem => z.2 k i) (Option.some.inj h)).symm.trans (f9.trans f3)
set_option maxRecDepth 100000 in
set_option maxHeartbeats 4000000 in
theorem fr_F11_plainKeeps {k : Nat} {i : Int} {m : Mem}  {v1 v2 : Int} {out : Int × Mem} (hf49_83 : ¬ (k = 83 ∧ i = 49)) (hk_118 : k ≠ 118) (h : F11_plainKeeps m v1 v2 = some out) : out.2 k i = m k i := by
  unfold F11_plainKeeps at h
  obtain ⟨m3, e3, h⟩ := b1_some h
  have f3 : m3 k i = m k i := fr_F11_ran hf49_83 hk_118 e3
  exact (congrArg (fun z : Int × Mem => z.2 k i) (Option.some.inj h)).symm.trans f3
set_option maxRecDepth 100000 in
set_option maxHeartbeats 4000000 in
theorem fr_F11_lostKeeps {k : Nat} {i : Int} {m : Mem}  {v1 v2 : Int} {out : Int × Mem} (hf49_83 : ¬ (k = 83 ∧ i = 49)) (hk_118 : k ≠ 118) (h : F11_lostKeeps m v1 v2 = some out) : out.2 k i = m k i := by
  unfold F11_lostKeeps at h
  obtain ⟨m3, e3, h⟩ := b1_some h
  have f3 : m3 k i = m k i := fr_F11_ran hf49_83 hk_118 e3
  obtain ⟨r9, m9, e9, h⟩ := b2_some h
  have f9 : m9 k i = m3 k i := fr_F11_plainKeeps hf49_83 hk_118 e9
  exact (congrArg (fun z : Int × Mem => z.2 k i) (Option.some.inj h)).symm.trans (f9.trans f3)
set_option maxRecDepth 100000 in
set_option maxHeartbeats 4000000 in
theorem fr_F11_keeps {k : Nat} {i : Int} {m : Mem}  {v1 v2 : Int} {out : Int × Mem} (hf49_83 : ¬ (k = 83 ∧ i = 49)) (hk_118 : k ≠ 118) (h : F11_keeps m v1 v2 = some out) : out.2 k i = m k i := by
  unfold F11_keeps at h
  obtain ⟨g1, h⟩ := gd_some h
  rcases ite_or h with ⟨hc, h⟩ | ⟨hc, h⟩
  · obtain ⟨g1, h⟩ := gd_some h
    rcases ite_or h with ⟨hc, h⟩ | ⟨hc, h⟩
    · obtain ⟨g1, h⟩ := gd_some h
      rcases ite_or h with ⟨hc, h⟩ | ⟨hc, h⟩
      · obtain ⟨r79, m79, e79, h⟩ := b2_some h
        have f79 : m79 k i = m k i := fr_F11_plainKeeps hf49_83 hk_118 e79
        exact (congrArg (fun z : Int × Mem => z.2 k i) (Option.some.inj h)).symm.trans f79
      obtain ⟨r70, m70, e70, h⟩ := b2_some h
      have f70 : m70 k i = m k i := fr_F11_lostKeeps hf49_83 hk_118 e70
      exact (congrArg (fun z : Int × Mem => z.2 k i) (Option.some.inj h)).symm.trans f70
    obtain ⟨m38, e38, h⟩ := b1_some h
    have f38 : m38 k i = m k i := fr_F11_ran hf49_83 hk_118 e38
    obtain ⟨r44, m44, e44, h⟩ := b2_some h
    have f44 : m44 k i = m38 k i := fr_F11_lostKeeps hf49_83 hk_118 e44
    obtain ⟨r52, m52, e52, h⟩ := b2_some h
    have f52 : m52 k i = m44 k i := fr_F11_costs hf49_83 hk_118 e52
    exact (congrArg (fun z : Int × Mem => z.2 k i) (Option.some.inj h)).symm.trans (f52.trans (f44.trans f38))
  obtain ⟨m13, e13, h⟩ := b1_some h
  have f13 : m13 k i = m k i := fr_F11_ran hf49_83 hk_118 e13
  obtain ⟨r19, m19, e19, h⟩ := b2_some h
  have f19 : m19 k i = m13 k i := fr_F11_plainKeeps hf49_83 hk_118 e19
  exact (congrArg (fun z : Int × Mem => z.2 k i) (Option.some.inj h)).symm.trans (f19.trans f13)
set_option maxRecDepth 100000 in
set_option maxHeartbeats 4000000 in
theorem fr_F11_lets {k : Nat} {i : Int} {m : Mem}  {v1 v2 : Int} {out : Int × Mem} (hf49_83 : ¬ (k = 83 ∧ i = 49)) (hk_118 : k ≠ 118) (h : F11_lets m v1 v2 = some out) : out.2 k i = m k i := by
  unfold F11_lets at h
  obtain ⟨g1, h⟩ := gd_some h
  rcases ite_or h with ⟨hc, h⟩ | ⟨hc, h⟩
  · obtain ⟨g1, h⟩ := gd_some h
    rcases ite_or h with ⟨hc, h⟩ | ⟨hc, h⟩
    · obtain ⟨r58, m58, e58, h⟩ := b2_some h
      have f58 : m58 k i = m k i := fr_F11_plainLets hf49_83 hk_118 e58
      exact (congrArg (fun z : Int × Mem => z.2 k i) (Option.some.inj h)).symm.trans f58
    obtain ⟨r49, m49, e49, h⟩ := b2_some h
    have f49 : m49 k i = m k i := fr_F11_childLets hf49_83 hk_118 e49
    exact (congrArg (fun z : Int × Mem => z.2 k i) (Option.some.inj h)).symm.trans f49
  obtain ⟨m14, e14, h⟩ := b1_some h
  have f14 : m14 k i = m k i := fr_F11_ran hf49_83 hk_118 e14
  obtain ⟨r20, m20, e20, h⟩ := b2_some h
  have f20 : m20 k i = m14 k i := fr_F11_childLets hf49_83 hk_118 e20
  obtain ⟨r28, m28, e28, h⟩ := b2_some h
  have f28 : m28 k i = m20 k i := fr_F11_keeps hf49_83 hk_118 e28
  exact (congrArg (fun z : Int × Mem => z.2 k i) (Option.some.inj h)).symm.trans (f28.trans (f20.trans f14))
set_option maxRecDepth 100000 in
set_option maxHeartbeats 4000000 in
theorem fr_F11_plainTells {k : Nat} {i : Int} {m : Mem}  {v1 v2 : Int} {out : Int × Mem} (hf49_83 : ¬ (k = 83 ∧ i = 49)) (hk_118 : k ≠ 118) (h : F11_plainTells m v1 v2 = some out) : out.2 k i = m k i := by
  unfold F11_plainTells at h
  obtain ⟨m2, e2, h⟩ := b1_some h
  have f2 : m2 k i = m k i := fr_F11_ran hf49_83 hk_118 e2
  obtain ⟨r8, m8, e8, h⟩ := b2_some h
  have f8 : m8 k i = m2 k i := fr_F11_lets hf49_83 hk_118 e8
  obtain ⟨r16, m16, e16, h⟩ := b2_some h
  have f16 : m16 k i = m8 k i := fr_F11_keeps hf49_83 hk_118 e16
  exact (congrArg (fun z : Int × Mem => z.2 k i) (Option.some.inj h)).symm.trans (f16.trans (f8.trans f2))
set_option maxRecDepth 100000 in
set_option maxHeartbeats 4000000 in
theorem fr_F11_tells {k : Nat} {i : Int} {m : Mem}  {v1 v2 : Int} {out : Int × Mem} (hf49_83 : ¬ (k = 83 ∧ i = 49)) (hk_118 : k ≠ 118) (h : F11_tells m v1 v2 = some out) : out.2 k i = m k i := by
  unfold F11_tells at h
  obtain ⟨g1, h⟩ := gd_some h
  rcases ite_or h with ⟨hc, h⟩ | ⟨hc, h⟩
  · obtain ⟨r28, m28, e28, h⟩ := b2_some h
    have f28 : m28 k i = m k i := fr_F11_plainTells hf49_83 hk_118 e28
    exact (congrArg (fun z : Int × Mem => z.2 k i) (Option.some.inj h)).symm.trans f28
  obtain ⟨m13, e13, h⟩ := b1_some h
  have f13 : m13 k i = m k i := fr_F11_ran hf49_83 hk_118 e13
  obtain ⟨r19, m19, e19, h⟩ := b2_some h
  have f19 : m19 k i = m13 k i := fr_F11_plainTells hf49_83 hk_118 e19
  exact (congrArg (fun z : Int × Mem => z.2 k i) (Option.some.inj h)).symm.trans (f19.trans f13)
set_option maxRecDepth 100000 in
set_option maxHeartbeats 4000000 in
theorem fr_F11_act {k : Nat} {i : Int} {m : Mem}  {v1 v2 v3 : Int} {out : Int × Mem} (hf49_83 : ¬ (k = 83 ∧ i = 49)) (hk_118 : k ≠ 118) (h : F11_act m v1 v2 v3 = some out) : out.2 k i = m k i := by
  unfold F11_act at h
  replace h := stw_e h
  have f2 : (wr m 83 49 0) k i = m k i := wr_ki hf49_83
  generalize wr m 83 49 0 = m2 at h f2
  rcases ite_or h with ⟨hc, h⟩ | ⟨hc, h⟩
  · exact (congrArg (fun z : Int × Mem => z.2 k i) (Option.some.inj h)).symm.trans f2
  rcases ite_or h with ⟨hc, h⟩ | ⟨hc, h⟩
  · rcases ite_or h with ⟨hc, h⟩ | ⟨hc, h⟩
    · rcases ite_or h with ⟨hc, h⟩ | ⟨hc, h⟩
      · rcases ite_or h with ⟨hc, h⟩ | ⟨hc, h⟩
        · obtain ⟨r68, m68, e68, h⟩ := b2_some h
          have f68 : m68 k i = m2 k i := fr_F11_tells hf49_83 hk_118 e68
          exact (congrArg (fun z : Int × Mem => z.2 k i) (Option.some.inj h)).symm.trans (f68.trans f2)
        obtain ⟨r59, m59, e59, h⟩ := b2_some h
        have f59 : m59 k i = m2 k i := fr_F11_keeps hf49_83 hk_118 e59
        exact (congrArg (fun z : Int × Mem => z.2 k i) (Option.some.inj h)).symm.trans (f59.trans f2)
      obtain ⟨r45, m45, e45, h⟩ := b2_some h
      have f45 : m45 k i = m2 k i := fr_F11_lets hf49_83 hk_118 e45
      exact (congrArg (fun z : Int × Mem => z.2 k i) (Option.some.inj h)).symm.trans (f45.trans f2)
    obtain ⟨r31, m31, e31, h⟩ := b2_some h
    have f31 : m31 k i = m2 k i := fr_F11_costs hf49_83 hk_118 e31
    exact (congrArg (fun z : Int × Mem => z.2 k i) (Option.some.inj h)).symm.trans (f31.trans f2)
  exact (congrArg (fun z : Int × Mem => z.2 k i) (Option.some.inj h)).symm.trans f2
set_option maxRecDepth 100000 in
set_option maxHeartbeats 4000000 in
theorem fr_F11_keep {k : Nat} {i : Int} {m : Mem}  {v1 v2 : Int} {out : Int × Mem} (hk_119 : k ≠ 119) (h : F11_keep m v1 v2 = some out) : out.2 k i = m k i := by
  unfold F11_keep at h
  rcases ite_or h with ⟨hc, h⟩ | ⟨hc, h⟩
  · exact (congrArg (fun z : Int × Mem => z.2 k i) (Option.some.inj h)).symm.trans rfl
  refine (jn_e h (fun (K : Option (Int × Mem)) => K = some out → out.2 k i = m k i) (fun h => ?_) (fun K22 J22 h => ?_))
  · obtain ⟨g1, h⟩ := gd_some h
    replace h := stw_e h
    have f28 : (wr m 119 v1 v2) k i = m k i := wr_ka hk_119
    generalize wr m 119 v1 v2 = m28 at h f28
    exact (congrArg (fun z : Int × Mem => z.2 k i) (Option.some.inj h)).symm.trans f28
  rcases ite_or h with ⟨hc, h⟩ | ⟨hc, h⟩
  · exact (J22 h).trans rfl
  rcases ite_or h with ⟨hc, h⟩ | ⟨hc, h⟩
  · exact (J22 h).trans rfl
  exact (congrArg (fun z : Int × Mem => z.2 k i) (Option.some.inj h)).symm.trans rfl
set_option maxRecDepth 100000 in
set_option maxHeartbeats 4000000 in
theorem fr_L11_row_54 {k : Nat} {i : Int} {out : Int × Mem} {v1 : Int} (hk_121 : k ≠ 121) : ∀ (n : Nat) (v4 : Int) (m : Mem), L11_row_54 v1 n v4 m = some out → out.2 k i = m k i := by
  intro n
  induction n with
  | zero =>
    intro v4 m h
    cases h
  | succ n ih =>
    intro v4 m h
    rw [L11_row_54] at h
    rcases ite_or h with ⟨hc, h⟩ | ⟨hc, h⟩
    · exact (congrArg (fun z : Int × Mem => z.2 k i) (Option.some.inj h)).symm.trans rfl
    obtain ⟨g1, h⟩ := gd_some h
    replace h := stw_e h
    have f73 : (wr m 121 v4 0) k i = m k i := wr_ka hk_121
    generalize wr m 121 v4 0 = m73 at h f73
    exact (ih (w32 (v4 + 1)) m73 h).trans f73
set_option maxRecDepth 100000 in
set_option maxHeartbeats 4000000 in
theorem fr_F11_row {k : Nat} {i : Int} {m : Mem}  {v1 v2 v3 : Int} {out : Int × Mem} (hk_119 : k ≠ 119) (hk_120 : k ≠ 120) (hk_121 : k ≠ 121) (h : F11_row m v1 v2 v3 = some out) : out.2 k i = m k i := by
  unfold F11_row at h
  rcases ite_or h with ⟨hc, h⟩ | ⟨hc, h⟩
  · exact (congrArg (fun z : Int × Mem => z.2 k i) (Option.some.inj h)).symm.trans rfl
  rcases ite_or h with ⟨hc, h⟩ | ⟨hc, h⟩
  · exact (congrArg (fun z : Int × Mem => z.2 k i) (Option.some.inj h)).symm.trans rfl
  rcases ite_or h with ⟨hc, h⟩ | ⟨hc, h⟩
  · rcases ite_or h with ⟨hc, h⟩ | ⟨hc, h⟩
    · obtain ⟨g1, h⟩ := gd_some h
      replace h := stw_e h
      have f40 : (wr m 119 v1 (w32 ((-2) - v2))) k i = m k i := wr_ka hk_119
      generalize wr m 119 v1 (w32 ((-2) - v2)) = m40 at h f40
      obtain ⟨g1, h⟩ := gd_some h
      replace h := stw_e h
      have f47 : (wr m40 120 v1 v3) k i = m40 k i := wr_ka hk_120
      generalize wr m40 120 v1 v3 = m47 at h f47
      refine (fr_L11_row_54 hk_121 FU (w32 (60 * v1)) m47 h).trans (f47.trans f40)
    exact (congrArg (fun z : Int × Mem => z.2 k i) (Option.some.inj h)).symm.trans rfl
  exact (congrArg (fun z : Int × Mem => z.2 k i) (Option.some.inj h)).symm.trans rfl
set_option maxRecDepth 100000 in
set_option maxHeartbeats 4000000 in
theorem fr_F11_put {k : Nat} {i : Int} {m : Mem}  {v1 v2 v3 : Int} {out : Int × Mem} (hk_121 : k ≠ 121) (h : F11_put m v1 v2 v3 = some out) : out.2 k i = m k i := by
  unfold F11_put at h
  obtain ⟨r3, e3, h⟩ := b1_some h
  rcases ite_or h with ⟨hc, h⟩ | ⟨hc, h⟩
  · obtain ⟨g1, h⟩ := gd_some h
    refine (jn_e h (fun (K : Int → Option (Int × Mem)) => ∀ (x95 : Int), K x95 = some out → out.2 k i = m k i) (fun x95 h => ?_) (fun K95 J95 h => ?_))
    · obtain ⟨g1, h⟩ := gd_some h
      replace h := stw_e h
      have f95 : (wr m 121 (w32 ((w32 (60 * v1)) + v2)) x95) k i = m k i := wr_ka hk_121
      generalize wr m 121 (w32 ((w32 (60 * v1)) + v2)) x95 = m95 at h f95
      exact (congrArg (fun z : Int × Mem => z.2 k i) (Option.some.inj h)).symm.trans f95
    rcases ite_or h with ⟨hc, h⟩ | ⟨hc, h⟩
    · rcases ite_or h with ⟨hc, h⟩ | ⟨hc, h⟩
      · rcases ite_or h with ⟨hc, h⟩ | ⟨hc, h⟩
        · rcases ite_or h with ⟨hc, h⟩ | ⟨hc, h⟩
          · rcases ite_or h with ⟨hc, h⟩ | ⟨hc, h⟩
            · exact (J95 0 h).trans rfl
            exact (J95 1 h).trans rfl
          exact (J95 v3 h).trans rfl
        exact (J95 (w32 v3) h).trans rfl
      exact (J95 (i16 (w32 v3)) h).trans rfl
    exact (J95 (i8 (w32 v3)) h).trans rfl
  exact (congrArg (fun z : Int × Mem => z.2 k i) (Option.some.inj h)).symm.trans rfl
set_option maxRecDepth 100000 in
set_option maxHeartbeats 4000000 in
theorem fr_L11_shift_113 {k : Nat} {i : Int} {out : Int × Mem} {v1 : Int} {v2 : Int} {v5 : Int} {k147 : Mem → Option (Int × Mem)} (hk_122 : k ≠ 122) (hk147 : ∀ (m : Mem), k147 m = some out → out.2 k i = m k i) : ∀ (n : Nat) (v6 : Int) (m : Mem), L11_shift_113 v1 v2 v5 k147 n v6 m = some out → out.2 k i = m k i := by
  intro n
  induction n with
  | zero =>
    intro v6 m h
    cases h
  | succ n ih =>
    intro v6 m h
    rw [L11_shift_113] at h
    rcases ite_or h with ⟨hc, h⟩ | ⟨hc, h⟩
    · exact (hk147 m h).trans rfl
    obtain ⟨g1, h⟩ := gd_some h
    obtain ⟨g1, h⟩ := gd_some h
    replace h := stw_e h
    have f140 : (wr m 122 v6 (rl m 121 (w32 ((w32 ((w32 (60 * v1)) + v2)) + v6)))) k i = m k i := wr_ka hk_122
    generalize wr m 122 v6 (rl m 121 (w32 ((w32 ((w32 (60 * v1)) + v2)) + v6))) = m140 at h f140
    exact (ih (w32 (v6 + 1)) m140 h).trans f140
set_option maxRecDepth 100000 in
set_option maxHeartbeats 4000000 in
theorem fr_L11_shift_150 {k : Nat} {i : Int} {out : Int × Mem} {v3 : Int} {v4 : Int} {v5 : Int} (hk_121 : k ≠ 121) : ∀ (n : Nat) (v6 : Int) (m : Mem), L11_shift_150 v3 v4 v5 n v6 m = some out → out.2 k i = m k i := by
  intro n
  induction n with
  | zero =>
    intro v6 m h
    cases h
  | succ n ih =>
    intro v6 m h
    rw [L11_shift_150] at h
    rcases ite_or h with ⟨hc, h⟩ | ⟨hc, h⟩
    · exact (congrArg (fun z : Int × Mem => z.2 k i) (Option.some.inj h)).symm.trans rfl
    obtain ⟨g1, h⟩ := gd_some h
    obtain ⟨g1, h⟩ := gd_some h
    replace h := stw_e h
    have f178 : (wr m 121 (w32 ((w32 ((w32 (60 * v3)) + v4)) + v6)) (rl m 122 v6)) k i = m k i := wr_ka hk_121
    generalize wr m 121 (w32 ((w32 ((w32 (60 * v3)) + v4)) + v6)) (rl m 122 v6) = m178 at h f178
    exact (ih (w32 (v6 + 1)) m178 h).trans f178
set_option maxRecDepth 100000 in
set_option maxHeartbeats 4000000 in
theorem fr_F11_shift {k : Nat} {i : Int} {m : Mem}  {v1 v2 v3 v4 v5 : Int} {out : Int × Mem} (hk_122 : k ≠ 122) (hk_121 : k ≠ 121) (h : F11_shift m v1 v2 v3 v4 v5 = some out) : out.2 k i = m k i := by
  unfold F11_shift at h
  rcases ite_or h with ⟨hc, h⟩ | ⟨hc, h⟩
  · exact (congrArg (fun z : Int × Mem => z.2 k i) (Option.some.inj h)).symm.trans rfl
  rcases ite_or h with ⟨hc, h⟩ | ⟨hc, h⟩
  · obtain ⟨g1, h⟩ := gd_some h
    rcases ite_or h with ⟨hc, h⟩ | ⟨hc, h⟩
    · exact (congrArg (fun z : Int × Mem => z.2 k i) (Option.some.inj h)).symm.trans rfl
    obtain ⟨g1, h⟩ := gd_some h
    rcases ite_or h with ⟨hc, h⟩ | ⟨hc, h⟩
    · obtain ⟨g1, h⟩ := gd_some h
      rcases ite_or h with ⟨hc, h⟩ | ⟨hc, h⟩
      · exact (congrArg (fun z : Int × Mem => z.2 k i) (Option.some.inj h)).symm.trans rfl
      obtain ⟨g1, h⟩ := gd_some h
      obtain ⟨g1, h⟩ := gd_some h
      rcases ite_or h with ⟨hc, h⟩ | ⟨hc, h⟩
      · rcases ite_or h with ⟨hc, h⟩ | ⟨hc, h⟩
        · exact (congrArg (fun z : Int × Mem => z.2 k i) (Option.some.inj h)).symm.trans rfl
        rcases ite_or h with ⟨hc, h⟩ | ⟨hc, h⟩
        · exact (congrArg (fun z : Int × Mem => z.2 k i) (Option.some.inj h)).symm.trans rfl
        rcases ite_or h with ⟨hc, h⟩ | ⟨hc, h⟩
        · exact (congrArg (fun z : Int × Mem => z.2 k i) (Option.some.inj h)).symm.trans rfl
        obtain ⟨g1, h⟩ := gd_some h
        rcases ite_or h with ⟨hc, h⟩ | ⟨hc, h⟩
        · exact (congrArg (fun z : Int × Mem => z.2 k i) (Option.some.inj h)).symm.trans rfl
        obtain ⟨g1, h⟩ := gd_some h
        rcases ite_or h with ⟨hc, h⟩ | ⟨hc, h⟩
        · refine (fr_L11_shift_113 hk_122 (fun m_147 h => ?_) FU 0 m h).trans rfl
          refine (fr_L11_shift_150 hk_121 FU 0 m_147 h).trans rfl
        exact (congrArg (fun z : Int × Mem => z.2 k i) (Option.some.inj h)).symm.trans rfl
      exact (congrArg (fun z : Int × Mem => z.2 k i) (Option.some.inj h)).symm.trans rfl
    exact (congrArg (fun z : Int × Mem => z.2 k i) (Option.some.inj h)).symm.trans rfl
  exact (congrArg (fun z : Int × Mem => z.2 k i) (Option.some.inj h)).symm.trans rfl
