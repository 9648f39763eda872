theorem numS_b {m : Mem} : ∀ d v p, bd d v → -1 ≤ v → (numS m d v p).1 ≤ 999
  | 0, v, p, h, _ => by show v ≤ 999; unfold bd at h; omega
  | d + 1, v, p, h, h' => by
    unfold numS
    by_cases a : 48 ≤ sgn m p ∧ sgn m p ≤ 57
    · rw [if_pos a]
      have im : imx v 0 = if v < 0 then 0 else v := rfl
      refine numS_b d _ _ ?_ ?_
      · rw [im]; unfold bd at h ⊢; split <;> omega
      · rw [im]; unfold bd at h; split <;> omega
    · rw [if_neg a]; show v ≤ 999; unfold bd at h; omega
def RD (r : Mem) (c : Int) (K : Mem → Option Mem) : Option Mem :=
  b2 (F11_number r 3) fun r7 m7 =>
  gd (0 ≤ c ∧ c < 12) <|
  stw m7 84 c r7 fun m10 =>
  gd (0 ≤ c ∧ c < 12) <|
  gd (0 ≤ c ∧ c < 12) <|
  stw m10 85 c (rd m10 84 c) fun m22 =>
  jn (fun (K82 : Mem → Option Mem) =>
    if 0 ≤ (rd m22 83 12) then
      K82 m22
    else
    b2 (F11_isNext m22 45) fun r33 m33 =>
    if r33 = 0 then
      K82 m33
    else
    b2 (F11_number m33 3) fun r51 m51 =>
    gd (0 ≤ c ∧ c < 12) <|
    stw m51 85 c r51 fun m54 =>
    if 0 ≤ (rd m54 83 12) then
      K82 m54
    else
    gd (0 ≤ c ∧ c < 12) <|
    gd (0 ≤ c ∧ c < 12) <|
    if (rd m54 84 c) ≤ (rd m54 85 c) then
      K82 m54
    else
    b1 (F11_wrong m54 (rd m33 83 11)) fun m79 =>
    K82 m79) K
def RM (r : Mem) (c : Int) (K : Mem → Option Mem) : Option Mem :=
  jn (fun (K164 : Mem → Option Mem) =>
    if 0 ≤ (rd r 83 12) then
      K164 r
    else
    b2 (F11_isNext r 60) fun r120 m120 =>
    if r120 = 0 then
      K164 m120
    else
    b2 (F11_number m120 2) fun r138 m138 =>
    gd (0 ≤ c ∧ c < 12) <|
    stw m138 86 c r138 fun m141 =>
    if 0 ≤ (rd m141 83 12) then
      K164 m141
    else
    gd (0 ≤ c ∧ c < 12) <|
    if (rd m141 86 c) < c then
      K164 m141
    else
    b1 (F11_wrong m141 (rd m120 83 11)) fun m161 =>
    K164 m161) K
def RE (r : Mem) : Option Mem :=
  if 0 ≤ (rd r 83 12) then
    some r
  else
  if (rd r 83 10) ≤ (rd r 83 11) then
    some r
  else
  b1 (F11_wrong r (rd r 83 11)) fun m187 =>
  some m187
theorem readAll_e (r : Mem) (c : Int) : F11_readAll r c = RD r c (fun q => L11_readAll_84 c (fun m => RM m c RE) FU 0 q) := by unfold F11_readAll RD RM RE; rfl
/-- the days, by both sides -/
theorem days_e {M : Mem} (h6 : iTp M) : ∃ f p a b : Int, 0 ≤ p ∧ p ≤ 120 ∧ ((f = -1 ∧ 0 ≤ a ∧ a ≤ b ∧ b ≤ 999) ∨ 0 ≤ f ∧ f ≤ 121) ∧
    (∀ m : Mem, rd m 1 1 = rd M 1 1 → (∀ i, rd m 2 i = rd M 2 i) → rd m 1 6 = 0 → ∃ m', F8_readDays m = some (f, m') ∧ (f < 0 → rd m' 1 6 = p ∧ rd m' 1 2 = a ∧ rd m' 1 3 = b) ∧ (∀ k i, ¬ (k = 1 ∧ (i = 2 ∨ i = 3 ∨ i = 6)) → m' k i = m k i)) ∧
    (∀ (r : Mem) (c : Int) (K : Mem → Option Mem), tpr M r → 0 ≤ c → c < 12 → rd r 83 12 < 0 → rd r 83 11 = 0 → ∃ r', RD r c K = K r' ∧ ((f < 0 ∧ rd r' 83 12 = rd r 83 12 ∧ rd r' 83 11 = p ∧ rd r' 84 c = a ∧ rd r' 85 c = b) ∨ (0 ≤ f ∧ rd r' 83 12 = f)) ∧ (∀ k i, ¬ (k = 83 ∧ (i = 11 ∨ i = 12)) → ¬ ((k = 84 ∨ k = 85) ∧ i = c) → r' k i = r k i)) := by
  have t1 := h6.2.1
  obtain ⟨A, hA⟩ : ∃ A, A = numS M 3 (-1) 0 := ⟨_, rfl⟩
  have ap := numS_p t1 3 (-1) 0 (by omega)
  have ab := numS_b (m := M) 3 (-1) 0 (by unfold bd; omega) (by omega)
  rw [← hA] at ap ab
  -- each side's first number
  have dev : ∀ m : Mem, rd m 1 1 = rd M 1 1 → (∀ i, rd m 2 i = rd M 2 i) → rd m 1 6 = 0 → ∃ m3, F8_number m 3 = some (A.1, m3) ∧ rd m3 1 6 = A.2 ∧ ∀ k i, ¬ (k = 1 ∧ i = 6) → m3 k i = m k i := by
    intro m e1 e2 e6
    obtain ⟨m3, x, y, z⟩ := F8_num (m := m) (w := 3) (by omega) (by omega) (by omega) (by omega)
    rw [e6, numS_s e1 e2, show (3 : Int).toNat = 3 from rfl, ← hA] at x y
    exact ⟨m3, x, y, z⟩
  have ref : ∀ r : Mem, tpr M r → rd r 83 12 < 0 → rd r 83 11 = 0 → ∃ r' v, F11_number r 3 = some (v, r') ∧ (∀ k i, ¬ (k = 83 ∧ (i = 11 ∨ i = 12)) → r' k i = r k i) ∧ rd r' 83 11 = A.2 ∧ ((0 ≤ A.1 ∧ v = A.1 ∧ rd r' 83 12 = rd r 83 12) ∨ (A.1 = -1 ∧ v = 0 ∧ rd r' 83 12 = 0 ∧ rd r' 83 11 = 0)) := by
    intro r e1 e2 e3
    obtain ⟨r', v, x, y, z, w⟩ := F11_num (r := r) h6 (w := 3) (by omega) e1.1 e1.2 (by omega) (by omega) e2
    rw [e3, show (3 : Int).toNat = 3 from rfl, ← hA] at z w
    exact ⟨r', v, x, y, z, w⟩
  by_cases a0 : A.1 < 0
  · have az : A.1 = -1 ∧ A.2 = 0 := by
      rcases numS_z (m := M) t1 2 0 (by omega) with ⟨x, y, z⟩ | ⟨x, y⟩
      · rw [← hA] at x; rw [x] at a0; omega
      · rw [← hA] at x; rw [x]; exact ⟨rfl, rfl⟩
    refine ⟨0, 0, 0, 0, by omega, by omega, Or.inr (by omega), ?_, ?_⟩
    · intro m e1 e2 e6
      obtain ⟨m3, x, y, z⟩ := dev m e1 e2 e6
      refine ⟨wr m3 1 2 (-1), ?_, fun h => by omega, fun k i h => by rw [wr_ki (by omega)]; exact z k i (by omega)⟩
      unfold F8_readDays
      rw [x, b2_v, az.1]
      simp (disch := omega) only [gd_t, stw_v, cpw_v, jn_v, b1_v, b2_v, w32_id, rd_wr_s, rd_wr_k, rd_wr_i, bz_0, bz_n, if_pos, if_neg, if_true, if_false, ne_eq, not_true_eq_false, not_false_eq_true, y, az.2]
    · intro r c K e1 e2 e3 e4 e5
      obtain ⟨r', v, x, y, z, w⟩ := ref r e1 e4 e5
      have w' : v = 0 ∧ rd r' 83 12 = 0 := by omega
      refine ⟨wr (wr r' 84 c 0) 85 c 0, ?_, Or.inr ⟨by omega, ?_⟩, fun k i h h' => by rw [wr_ki (by omega), wr_ki (by omega)]; exact y k i h⟩
      · unfold RD
        rw [x, b2_v, w'.1]
        simp (disch := omega) only [gd_t, stw_v, cpw_v, jn_v, b1_v, b2_v, w32_id, rd_wr_s, rd_wr_k, rd_wr_i, bz_0, bz_n, if_pos, if_neg, if_true, if_false, ne_eq, not_true_eq_false, not_false_eq_true, w'.2]
      · simp (disch := omega) only [gd_t, stw_v, cpw_v, jn_v, b1_v, b2_v, w32_id, rd_wr_s, rd_wr_k, rd_wr_i, bz_0, bz_n, if_pos, if_neg, if_true, if_false, ne_eq, not_true_eq_false, not_false_eq_true, w'.2]
  · by_cases b0 : sgn M A.2 = 45
    · obtain ⟨B, hB⟩ : ∃ B, B = numS M 3 (-1) (A.2 + 1) := ⟨_, rfl⟩
      have en := sgn_end (m := M) (p := A.2) (by omega)
      have bp := numS_p t1 3 (-1) (A.2 + 1) (by omega)
      have bb := numS_b (m := M) 3 (-1) (A.2 + 1) (by unfold bd; omega) (by omega)
      rw [← hB] at bp bb
      have bn : -1 ≤ B.1 := by rcases numS_z (m := M) t1 2 (A.2 + 1) (by omega) with ⟨u1, u2, u3⟩ | ⟨u1, u2⟩ <;> (rw [hB, u1]; omega)
      have dev2 : ∀ m : Mem, rd m 1 1 = rd M 1 1 → (∀ i, rd m 2 i = rd M 2 i) → rd m 1 6 = A.2 + 1 → ∃ m3, F8_number m 3 = some (B.1, m3) ∧ rd m3 1 6 = B.2 ∧ ∀ k i, ¬ (k = 1 ∧ i = 6) → m3 k i = m k i := by
        intro m e1 e2 e6
        obtain ⟨m3, x, y, z⟩ := F8_num (m := m) (w := 3) (by omega) (by omega) (by omega) (by omega)
        rw [e6, numS_s e1 e2, show (3 : Int).toNat = 3 from rfl, ← hB] at x y
        exact ⟨m3, x, y, z⟩
      have ref2 : ∀ r : Mem, tpr M r → rd r 83 12 < 0 → rd r 83 11 = A.2 + 1 → ∃ r' v, F11_number r 3 = some (v, r') ∧ (∀ k i, ¬ (k = 83 ∧ (i = 11 ∨ i = 12)) → r' k i = r k i) ∧ rd r' 83 11 = B.2 ∧ ((0 ≤ B.1 ∧ v = B.1 ∧ rd r' 83 12 = rd r 83 12) ∨ (B.1 = -1 ∧ v = 0 ∧ rd r' 83 12 = A.2 + 1 ∧ rd r' 83 11 = A.2 + 1)) := by
        intro r e1 e2 e3
        obtain ⟨r', v, x, y, z, w⟩ := F11_num (r := r) h6 (w := 3) (by omega) e1.1 e1.2 (by omega) (by omega) e2
        rw [e3, show (3 : Int).toNat = 3 from rfl, ← hB] at z w
        exact ⟨r', v, x, y, z, w⟩
      -- the class, up to its second number
      have dv : ∀ m : Mem, rd m 1 1 = rd M 1 1 → (∀ i, rd m 2 i = rd M 2 i) → rd m 1 6 = 0 → ∃ m', F8_readDays m = some (if A.1 ≤ B.1 then -1 else A.2 + 1, m') ∧ rd m' 1 6 = B.2 ∧ rd m' 1 2 = A.1 ∧ rd m' 1 3 = B.1 ∧ (∀ k i, ¬ (k = 1 ∧ (i = 2 ∨ i = 3 ∨ i = 6)) → m' k i = m k i) := by
        intro m e1 e2 e6
        obtain ⟨m3, x, y, z⟩ := dev m e1 e2 e6
        obtain ⟨q, hq⟩ : ∃ q, q = wr (wr m3 1 2 A.1) 1 3 A.1 := ⟨_, rfl⟩
        have q1 : rd q 1 1 = rd M 1 1 := by rw [hq, rd_wr_i (by omega), rd_wr_i (by omega), rd_eq (z 1 1 (by omega))]; exact e1
        have q2 : ∀ i, rd q 2 i = rd M 2 i := fun i => by rw [hq, rd_wr_k (by omega), rd_wr_k (by omega), rd_eq (z 2 i (by omega))]; exact e2 i
        have q6 : rd q 1 6 = A.2 := by rw [hq, rd_wr_i (by omega), rd_wr_i (by omega)]; exact y
        have qs : F8_sign q = some 45 := by rw [sign_e (by omega) (by omega), sgn_s q1 q2, q6, b0]
        obtain ⟨t, ht⟩ : ∃ t, t = wr q 1 6 (A.2 + 1) := ⟨_, rfl⟩
        have t6 : rd t 1 6 = A.2 + 1 := by rw [ht]; simp (disch := omega) only [gd_t, stw_v, cpw_v, jn_v, b1_v, b2_v, w32_id, rd_wr_s, rd_wr_k, rd_wr_i, bz_0, bz_n, if_pos, if_neg, if_true, if_false, ne_eq, not_true_eq_false, not_false_eq_true]
        obtain ⟨m4, x', y', z'⟩ := dev2 t (by rw [ht, rd_wr_i (by omega)]; exact q1) (fun i => by rw [ht, rd_wr_k (by omega)]; exact q2 i) t6
        have m42 : rd m4 1 2 = A.1 := by rw [rd_eq (z' 1 2 (by omega)), ht, hq]; simp (disch := omega) only [gd_t, stw_v, cpw_v, jn_v, b1_v, b2_v, w32_id, rd_wr_s, rd_wr_k, rd_wr_i, bz_0, bz_n, if_pos, if_neg, if_true, if_false, ne_eq, not_true_eq_false, not_false_eq_true]
        refine ⟨wr m4 1 3 B.1, ?_, by rw [rd_wr_i (by omega)]; exact y', by rw [rd_wr_i (by omega)]; exact m42, by rw [rd_wr_s]; exact w32_id (by omega) (by omega), fun k i h => by rw [wr_ki (by omega), z' k i (by omega), ht, wr_ki (by omega), hq, wr_ki (by omega), wr_ki (by omega)]; exact z k i (by omega)⟩
        unfold F8_readDays
        rw [x, b2_v, stw_v, rd_wr_s, w32_id (x := A.1) (by omega) (by omega), if_pos (by omega), stw_v, ← hq, qs, b1_v, if_pos rfl, stw_v, q6, w32_id (x := A.2 + 1) (by omega) (by omega), ← ht, x', b2_v, stw_v, rd_wr_s, rd_wr_i (by omega), m42, w32_id (x := B.1) (by omega) (by omega), t6]
        by_cases z0 : A.1 ≤ B.1
        · rw [if_pos z0, if_pos z0]
        · rw [if_neg z0, if_neg z0]
      have rv : ∀ (r : Mem) (c : Int) (K : Mem → Option Mem), tpr M r → 0 ≤ c → c < 12 → rd r 83 12 < 0 → rd r 83 11 = 0 → ∃ r', RD r c K = K r' ∧ ((A.1 ≤ B.1 ∧ rd r' 83 12 = rd r 83 12 ∧ rd r' 83 11 = B.2 ∧ rd r' 84 c = A.1 ∧ rd r' 85 c = B.1) ∨ (B.1 < A.1 ∧ rd r' 83 12 = A.2 + 1)) ∧ (∀ k i, ¬ (k = 83 ∧ (i = 11 ∨ i = 12)) → ¬ ((k = 84 ∨ k = 85) ∧ i = c) → r' k i = r k i) := by
        intro r c K e1 e2 e3 e4 e5
        obtain ⟨r3, v, x, y, z, w⟩ := ref r e1 e4 e5
        have w' : v = A.1 ∧ rd r3 83 12 = rd r 83 12 := by omega
        obtain ⟨q, hq⟩ : ∃ q, q = wr (wr r3 84 c A.1) 85 c A.1 := ⟨_, rfl⟩
        have r3t : tpr M r3 := ⟨by rw [rd_eq (y 83 10 (by omega))]; exact e1.1, fun i => by rw [rd_eq (y 91 i (by omega))]; exact e1.2 i⟩
        have qt : tpr M q := by rw [hq]; exact tpr_w (tpr_w r3t (by omega) (by omega)) (by omega) (by omega)
        have q11 : rd q 83 11 = A.2 := by rw [hq, rd_wr_k (by omega), rd_wr_k (by omega)]; exact z
        have q12 : rd q 83 12 = rd r 83 12 := by rw [hq, rd_wr_k (by omega), rd_wr_k (by omega)]; exact w'.2
        obtain ⟨t, ht⟩ : ∃ t, t = wr q 83 11 (A.2 + 1) := ⟨_, rfl⟩
        have tt : tpr M t := by rw [ht]; exact tpr_w qt (by omega) (by omega)
        have t11 : rd t 83 11 = A.2 + 1 := by rw [ht]; simp (disch := omega) only [gd_t, stw_v, cpw_v, jn_v, b1_v, b2_v, w32_id, rd_wr_s, rd_wr_k, rd_wr_i, bz_0, bz_n, if_pos, if_neg, if_true, if_false, ne_eq, not_true_eq_false, not_false_eq_true]
        have t12 : rd t 83 12 = rd r 83 12 := by rw [ht, rd_wr_i (by omega)]; exact q12
        obtain ⟨r4, v4, x', y', z', u'⟩ := ref2 t tt (by omega) t11
        have r484 : rd r4 84 c = A.1 := by rw [rd_eq (y' 84 c (by omega)), ht, hq]; simp (disch := omega) only [gd_t, stw_v, cpw_v, jn_v, b1_v, b2_v, w32_id, rd_wr_s, rd_wr_k, rd_wr_i, bz_0, bz_n, if_pos, if_neg, if_true, if_false, ne_eq, not_true_eq_false, not_false_eq_true]
        have fr : ∀ k i, ¬ (k = 83 ∧ (i = 11 ∨ i = 12)) → ¬ ((k = 84 ∨ k = 85) ∧ i = c) → r4 k i = r k i := fun k i h h' => by
          rw [y' k i h, ht, wr_ki (by omega), hq, wr_ki (by omega), wr_ki (by omega)]; exact y k i h
        have pre : RD r c K = b2 (F11_number t 3) fun r51 m51 => gd (0 ≤ c ∧ c < 12) <| stw m51 85 c r51 fun m54 => if 0 ≤ (rd m54 83 12) then K m54 else gd (0 ≤ c ∧ c < 12) <| gd (0 ≤ c ∧ c < 12) <| if (rd m54 84 c) ≤ (rd m54 85 c) then K m54 else b1 (F11_wrong m54 (rd t 83 11)) fun m79 => K m79 := by
          unfold RD
          rw [x, b2_v, gd_t (by omega), stw_v, gd_t (by omega), gd_t (by omega), stw_v, rd_wr_s, w'.1, w32_id (x := A.1) (by omega) (by omega), ← hq, jn_v, if_neg (by omega), isNext_e h6 qt (by omega) (by omega) q11 (by omega) (by omega), if_pos b0, ← ht, b2_v, if_neg (by omega)]
        rw [pre, x', b2_v, gd_t (by omega), stw_v, rd_wr_k (by omega), rd_wr_k (by omega), r484, rd_wr_s]
        rcases u' with ⟨u1, u2, u3⟩ | ⟨u1, u2, u3, u4⟩
        · rw [if_neg (by omega), gd_t (by omega), gd_t (by omega), u2, w32_id (x := B.1) (by omega) (by omega)]
          by_cases z0 : A.1 ≤ B.1
          · rw [if_pos z0]
            refine ⟨_, rfl, Or.inl ⟨z0, by rw [rd_wr_k (by omega)]; omega, by rw [rd_wr_k (by omega)]; exact z', by rw [rd_wr_k (by omega)]; exact r484, by simp (disch := omega) only [gd_t, stw_v, cpw_v, jn_v, b1_v, b2_v, w32_id, rd_wr_s, rd_wr_k, rd_wr_i, bz_0, bz_n, if_pos, if_neg, if_true, if_false, ne_eq, not_true_eq_false, not_false_eq_true]⟩, fun k i h h' => by rw [wr_ki (by omega)]; exact fr k i h h'⟩
          · rw [if_neg z0, wrong_e (by rw [rd_wr_k (by omega)]; omega), b1_v, t11]
            refine ⟨_, rfl, Or.inr ⟨by omega, by simp (disch := omega) only [gd_t, stw_v, cpw_v, jn_v, b1_v, b2_v, w32_id, rd_wr_s, rd_wr_k, rd_wr_i, bz_0, bz_n, if_pos, if_neg, if_true, if_false, ne_eq, not_true_eq_false, not_false_eq_true]⟩, fun k i h h' => by rw [wr_ki (by omega), wr_ki (by omega)]; exact fr k i h h'⟩
        · rw [if_pos (by omega)]
          refine ⟨_, rfl, Or.inr ⟨by omega, by rw [rd_wr_k (by omega)]; exact u3⟩, fun k i h h' => by rw [wr_ki (by omega)]; exact fr k i h h'⟩
      by_cases z0 : A.1 ≤ B.1
      · refine ⟨-1, B.2, A.1, B.1, by omega, by omega, Or.inl ⟨rfl, by omega, z0, bb⟩, ?_, ?_⟩
        · intro m e1 e2 e6
          obtain ⟨m', x, y, z, u, w⟩ := dv m e1 e2 e6
          rw [if_pos z0] at x
          exact ⟨m', x, fun _ => ⟨y, z, u⟩, w⟩
        · intro r c K e1 e2 e3 e4 e5
          obtain ⟨r', x, y, z⟩ := rv r c K e1 e2 e3 e4 e5
          refine ⟨r', x, Or.inl ?_, z⟩
          rcases y with y | y
          · exact ⟨by omega, y.2⟩
          · omega
      · refine ⟨A.2 + 1, 0, 0, 0, by omega, by omega, Or.inr (by omega), ?_, ?_⟩
        · intro m e1 e2 e6
          obtain ⟨m', x, y, z, u, w⟩ := dv m e1 e2 e6
          rw [if_neg z0] at x
          exact ⟨m', x, fun h => by omega, w⟩
        · intro r c K e1 e2 e3 e4 e5
          obtain ⟨r', x, y, z⟩ := rv r c K e1 e2 e3 e4 e5
          refine ⟨r', x, Or.inr ?_, z⟩
          rcases y with y | y
          · omega
          · exact ⟨by omega, y.2⟩
    · refine ⟨-1, A.2, A.1, A.1, by omega, by omega, Or.inl ⟨rfl, by omega, by omega, ab⟩, ?_, ?_⟩
      · intro m e1 e2 e6
        obtain ⟨m3, x, y, z⟩ := dev m e1 e2 e6
        obtain ⟨q, hq⟩ : ∃ q, q = wr (wr m3 1 2 A.1) 1 3 A.1 := ⟨_, rfl⟩
        have q1 : rd q 1 1 = rd M 1 1 := by rw [hq, rd_wr_i (by omega), rd_wr_i (by omega), rd_eq (z 1 1 (by omega))]; exact e1
        have q2 : ∀ i, rd q 2 i = rd M 2 i := fun i => by rw [hq, rd_wr_k (by omega), rd_wr_k (by omega), rd_eq (z 2 i (by omega))]; exact e2 i
        have q6 : rd q 1 6 = A.2 := by rw [hq, rd_wr_i (by omega), rd_wr_i (by omega)]; exact y
        refine ⟨q, ?_, fun _ => ⟨q6, by rw [hq]; simp (disch := omega) only [gd_t, stw_v, cpw_v, jn_v, b1_v, b2_v, w32_id, rd_wr_s, rd_wr_k, rd_wr_i, bz_0, bz_n, if_pos, if_neg, if_true, if_false, ne_eq, not_true_eq_false, not_false_eq_true], by rw [hq]; simp (disch := omega) only [gd_t, stw_v, cpw_v, jn_v, b1_v, b2_v, w32_id, rd_wr_s, rd_wr_k, rd_wr_i, bz_0, bz_n, if_pos, if_neg, if_true, if_false, ne_eq, not_true_eq_false, not_false_eq_true]⟩, fun k i h => by rw [hq, wr_ki (by omega), wr_ki (by omega)]; exact z k i (by omega)⟩
        unfold F8_readDays
        rw [x, b2_v, stw_v, rd_wr_s, w32_id (x := A.1) (by omega) (by omega), if_pos (by omega), stw_v, ← hq, sign_e (by omega) (by omega), sgn_s q1 q2, q6, b1_v, if_neg b0]
      · intro r c K e1 e2 e3 e4 e5
        obtain ⟨r3, v, x, y, z, w⟩ := ref r e1 e4 e5
        have w' : v = A.1 ∧ rd r3 83 12 = rd r 83 12 := by omega
        obtain ⟨q, hq⟩ : ∃ q, q = wr (wr r3 84 c A.1) 85 c A.1 := ⟨_, rfl⟩
        have r3t : tpr M r3 := ⟨by rw [rd_eq (y 83 10 (by omega))]; exact e1.1, fun i => by rw [rd_eq (y 91 i (by omega))]; exact e1.2 i⟩
        have qt : tpr M q := by rw [hq]; exact tpr_w (tpr_w r3t (by omega) (by omega)) (by omega) (by omega)
        have q11 : rd q 83 11 = A.2 := by rw [hq, rd_wr_k (by omega), rd_wr_k (by omega)]; exact z
        have q12 : rd q 83 12 = rd r 83 12 := by rw [hq, rd_wr_k (by omega), rd_wr_k (by omega)]; exact w'.2
        refine ⟨q, ?_, Or.inl ⟨by omega, q12, q11, by rw [hq]; simp (disch := omega) only [gd_t, stw_v, cpw_v, jn_v, b1_v, b2_v, w32_id, rd_wr_s, rd_wr_k, rd_wr_i, bz_0, bz_n, if_pos, if_neg, if_true, if_false, ne_eq, not_true_eq_false, not_false_eq_true], by rw [hq]; simp (disch := omega) only [gd_t, stw_v, cpw_v, jn_v, b1_v, b2_v, w32_id, rd_wr_s, rd_wr_k, rd_wr_i, bz_0, bz_n, if_pos, if_neg, if_true, if_false, ne_eq, not_true_eq_false, not_false_eq_true]⟩, fun k i h h' => by rw [hq, wr_ki (by omega), wr_ki (by omega)]; exact y k i h⟩
        unfold RD
        rw [x, b2_v, gd_t (by omega), stw_v, gd_t (by omega), gd_t (by omega), stw_v, rd_wr_s, w'.1, w32_id (x := A.1) (by omega) (by omega), ← hq, jn_v, if_neg (by omega), isNext_e h6 qt (by omega) (by omega) q11 (by omega) (by omega), if_neg b0, b2_v, if_pos rfl]
