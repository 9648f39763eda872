/-! a change that is kept: the log, by both sides -/
theorem acyc_c {C : Int} {f g : Int → Int} (h : ∀ c, 0 ≤ c → c < C → f c = g c) (hf : acyc C f) : acyc C g := by
  obtain ⟨a, rk, b⟩ := hf
  refine ⟨fun c x y => ?_, rk, fun c x y z => ?_⟩
  · rw [← h c x y]; exact a c x y
  · rw [← h c x y] at z ⊢; exact b c x y z
theorem log_new {m m2 : Mem} {S u kd j v : Int} (lo : iLo m) (hi : iHi m) (ok : okV m kd j v) (ok0 : okV m kd j (rd m (ck kd) j)) (hS : 0 ≤ S) (hu : u = rd m 83 13 - S) (hu0 : 0 ≤ u) (hu1 : u < 40)
    (e1 : rd m2 83 1 = rd m 83 1) (e13 : rd m2 83 13 = u + 1) (e14 : rd m2 83 14 = 0) (e410 : rd m2 4 10 = u + 1) (e411 : rd m2 4 11 = 0)
    (gl : ∀ k i, (10 ≤ k ∧ k ≤ 12) ∨ (92 ≤ k ∧ k ≤ 95) → 0 ≤ i → i < u → rd m2 k i = rd m k (i + S))
    (f10 : rd m2 10 u = cel kd j) (f11 : rd m2 11 u = rd m (ck kd) j) (f12 : rd m2 12 u = v) (f92 : rd m2 92 u = kd) (f93 : rd m2 93 u = j) (f94 : rd m2 94 u = rd m (ck kd) j) (f95 : rd m2 95 u = v)
    (eR : ∀ c, rd m2 88 c = if 88 = ck kd ∧ c = j then v else rd m 88 c) (ac : acyc (rd m 83 1) (fun c => if kd = 2 ∧ c = j then v else rd m 88 c)) : iLo m2 ∧ iHi m2 := by
  obtain ⟨l1, l2, l3, l4, l5, l6⟩ := lo
  obtain ⟨h, hh1, hh2, hh3, hh4⟩ := hi
  constructor
  · unfold iLo
    rw [e13, e14, e410, e411]
    refine ⟨by omega, by omega, by omega, rfl, rfl, fun i x y => ?_⟩
    by_cases z : i = u
    · subst z
      rw [f11, f94, f12, f95]
      refine ⟨rfl, rfl, ?_⟩
      unfold logC
      rw [f92, f93, f10, f94, f95, e1]
      unfold okV at ok ok0
      unfold cel
      rcases ok with ⟨rfl, o1, o2, o3⟩ | ⟨rfl, o1, o2, o3, o4⟩ | ⟨rfl, o1, o2⟩
      · left
        rcases ok0 with ⟨-, -, -, o5⟩ | ⟨o5, -⟩ | ⟨o5, -⟩
        · exact ⟨rfl, o1, o2, rfl, o5, o3⟩
        · omega
        · omega
      · right; left
        rcases ok0 with ⟨o5, -⟩ | ⟨-, -, -, o5, o6⟩ | ⟨o5, -⟩
        · omega
        · exact ⟨rfl, o1, o2, rfl, o5, o6, o3, o4⟩
        · omega
      · right; right
        exact ⟨rfl, o1, o2, rfl⟩
    · have := l6 (i + S) (by omega) (by omega)
      unfold logC at this ⊢
      rw [gl 10 i (by omega) x (by omega), gl 11 i (by omega) x (by omega), gl 12 i (by omega) x (by omega), gl 92 i (by omega) x (by omega), gl 93 i (by omega) x (by omega), gl 94 i (by omega) x (by omega), gl 95 i (by omega) x (by omega), e1]
      exact this
  · refine ⟨fun i c => if i ≤ u then h (i + S) c else if kd = 2 ∧ c = j then v else h (u + S) c, ?_, ?_, ?_, ?_⟩
    · intro i x y
      rw [e13, e14] at y
      rw [e1]
      by_cases z : i ≤ u
      · exact acyc_c (fun c _ _ => by dsimp only; rw [if_pos z]) (hh1 (i + S) (by omega) (by omega))
      · refine acyc_c (fun c a b => ?_) ac
        dsimp only
        rw [if_neg z, show u + S = rd m 83 13 by omega, hh2 c a b]
    · intro c x y
      rw [e1] at y
      rw [e13, eR]
      dsimp only
      rw [if_neg (by omega), show u + S = rd m 83 13 by omega, hh2 c x y]
      by_cases z : kd = 2 ∧ c = j
      · rw [if_pos z, if_pos ⟨by unfold ck; rw [z.1]; rfl, z.2⟩]
      · rw [if_neg z, if_neg (fun w => z ⟨ck_2 ok w.1, w.2⟩)]
    · intro i x y z
      rw [e13, e14] at y
      dsimp only
      by_cases w : i = u
      · subst w
        rw [f92] at z
        rw [f93, f94, f95, if_pos (by omega), if_neg (by omega), if_pos ⟨z, rfl⟩]
        refine ⟨?_, rfl⟩
        have o : 0 ≤ j ∧ j < rd m 83 1 := by
          unfold okV at ok; omega
        rw [show i + S = rd m 83 13 by omega, hh2 j o.1 o.2, z]; rfl
      · rw [gl 92 i (by omega) x (by omega)] at z
        rw [gl 93 i (by omega) x (by omega), gl 94 i (by omega) x (by omega), gl 95 i (by omega) x (by omega), if_pos (by omega), if_pos (by omega), show i + 1 + S = i + S + 1 by omega]
        exact hh3 (i + S) (by omega) (by omega) z
    · intro i c x y a b t
      rw [e13, e14] at y
      rw [e1] at b
      dsimp only
      by_cases w : i = u
      · subst w
        rw [f92, f93] at t
        rw [if_neg (by omega), if_neg (fun q => t ⟨q.1, q.2.symm⟩), if_pos (by omega)]
      · rw [gl 92 i (by omega) x (by omega), gl 93 i (by omega) x (by omega)] at t
        rw [if_pos (by omega), if_pos (by omega), show i + 1 + S = i + S + 1 by omega]
        exact hh4 (i + S) c (by omega) (by omega) a b t
/-- the class's change -/
theorem dchange {m : Mem} {x v : Int} (hv : inR v) (h0 : 0 ≤ x) (h1 : x < 209) (hu0 : 0 ≤ rd m 4 10) (hu1 : rd m 4 10 ≤ 40) (hw : 0 ≤ rd m 4 12) (hw1 : rd m 4 12 < 2147483647) (hne : rd m 9 x ≠ v) :
    ∃ m1 u S, F1_change m x v = some (rd m 9 x, m1) ∧ 0 ≤ S ∧ u = rd m 4 10 - S ∧ 0 ≤ u ∧ u < 40 ∧ (S = 0 ∨ (S = 1 ∧ u = 39)) ∧ (S = 0 ↔ rd m 4 10 < 40) ∧
      (∀ k i, ¬ (k = 9 ∧ i = x) → ¬ (10 ≤ k ∧ k ≤ 12) → ¬ (k = 4 ∧ (i = 10 ∨ i = 11 ∨ i = 12)) → m1 k i = m k i) ∧ rd m1 9 x = v ∧ rd m1 4 10 = u + 1 ∧ rd m1 4 11 = 0 ∧ rd m1 4 12 = rd m 4 12 + 1 ∧
      (∀ k i, 10 ≤ k ∧ k ≤ 12 → 0 ≤ i → i < u → rd m1 k i = rd m k (i + S)) ∧ rd m1 10 u = x ∧ rd m1 11 u = rd m 9 x ∧ rd m1 12 u = v := by
  have hv1 := hv.1; have hv2 := hv.2
  have wv : w32 v = v := w32_id hv1 hv2
  have wo := w32_rd m 9 x
  by_cases a : rd m 4 10 < 40
  · obtain ⟨u, hu⟩ : ∃ u, u = rd m 4 10 := ⟨_, rfl⟩
    obtain ⟨m1, hm1⟩ : ∃ m1, m1 = wr (wr (wr (wr (wr (wr (wr m 10 u x) 11 u (rd m 9 x)) 12 u v) 4 10 (u + 1)) 4 11 0) 9 x v) 4 12 (rd m 4 12 + 1) := ⟨_, rfl⟩
    refine ⟨m1, u, 0, ?_, by omega, by omega, by omega, by omega, Or.inl rfl, by omega, ?_, ?_, ?_, ?_, ?_, ?_, ?_, ?_, ?_⟩
    · unfold F1_change
      rw [gd_t ⟨h0, h1⟩, if_pos hne, jn_v, if_pos a]
      simp (disch := omega) only [gd_t, stw_v, w32_id, rd_wr_k, rd_wr_i, rd_wr_s, ← hu]
      rw [hm1]
    · intro k i b c d
      rw [hm1]
      simp (disch := omega) only [wr_ki]
    · rw [hm1]; simp (disch := omega) only [gd_t, stw_v, cpw_v, jn_v, b1_v, b2_v, w32_id, rd_wr_s, rd_wr_k, rd_wr_i, bz_0, bz_n, if_pos, if_neg, if_true, if_false, ne_eq, not_true_eq_false, not_false_eq_true]
    · rw [hm1]; simp (disch := omega) only [gd_t, stw_v, cpw_v, jn_v, b1_v, b2_v, w32_id, rd_wr_s, rd_wr_k, rd_wr_i, bz_0, bz_n, if_pos, if_neg, if_true, if_false, ne_eq, not_true_eq_false, not_false_eq_true]
    · rw [hm1]; simp (disch := omega) only [gd_t, stw_v, cpw_v, jn_v, b1_v, b2_v, w32_id, rd_wr_s, rd_wr_k, rd_wr_i, bz_0, bz_n, if_pos, if_neg, if_true, if_false, ne_eq, not_true_eq_false, not_false_eq_true]
    · rw [hm1]; simp (disch := omega) only [gd_t, stw_v, cpw_v, jn_v, b1_v, b2_v, w32_id, rd_wr_s, rd_wr_k, rd_wr_i, bz_0, bz_n, if_pos, if_neg, if_true, if_false, ne_eq, not_true_eq_false, not_false_eq_true]
    · intro k i b c d
      rw [hm1, Int.add_zero, rd_eq]
      simp (disch := omega) only [wr_ki]
    · rw [hm1]; simp (disch := omega) only [gd_t, stw_v, cpw_v, jn_v, b1_v, b2_v, w32_id, rd_wr_s, rd_wr_k, rd_wr_i, bz_0, bz_n, if_pos, if_neg, if_true, if_false, ne_eq, not_true_eq_false, not_false_eq_true]
    · rw [hm1]; simp (disch := omega) only [gd_t, stw_v, cpw_v, jn_v, b1_v, b2_v, w32_id, rd_wr_s, rd_wr_k, rd_wr_i, bz_0, bz_n, if_pos, if_neg, if_true, if_false, ne_eq, not_true_eq_false, not_false_eq_true, wo]
    · rw [hm1]; simp (disch := omega) only [gd_t, stw_v, cpw_v, jn_v, b1_v, b2_v, w32_id, rd_wr_s, rd_wr_k, rd_wr_i, bz_0, bz_n, if_pos, if_neg, if_true, if_false, ne_eq, not_true_eq_false, not_false_eq_true]
  · obtain ⟨m1, hm1⟩ : ∃ m1, m1 = wr (wr (wr (wr (wr (wr (wr (wr (cpy (cpy (cpy m 10 1 10 0 39) 11 1 11 0 39) 12 1 12 0 39) 4 10 39) 10 39 x) 11 39 (rd m 9 x)) 12 39 v) 4 10 40) 4 11 0) 9 x v) 4 12 (rd m 4 12 + 1) := ⟨_, rfl⟩
    refine ⟨m1, 39, 1, ?_, by omega, by omega, by omega, by omega, Or.inr ⟨rfl, rfl⟩, by omega, ?_, ?_, ?_, ?_, ?_, ?_, ?_, ?_, ?_⟩
    · unfold F1_change F1_dropOldest
      rw [gd_t ⟨h0, h1⟩, if_pos hne, jn_v, if_neg a]
      simp (disch := omega) only [gd_t, stw_v, cpw_v, b1_v, w32_id, rd_wr_k, rd_wr_i, rd_wr_s, rd_cpy_k]
      rw [hm1]
      rfl
    · intro k i b c d
      rw [hm1]
      simp (disch := omega) only [wr_ki, cpy_no]
    · rw [hm1]; simp (disch := omega) only [gd_t, stw_v, cpw_v, jn_v, b1_v, b2_v, w32_id, rd_wr_s, rd_wr_k, rd_wr_i, bz_0, bz_n, if_pos, if_neg, if_true, if_false, ne_eq, not_true_eq_false, not_false_eq_true]
    · rw [hm1]; simp (disch := omega) only [gd_t, stw_v, cpw_v, jn_v, b1_v, b2_v, w32_id, rd_wr_s, rd_wr_k, rd_wr_i, bz_0, bz_n, if_pos, if_neg, if_true, if_false, ne_eq, not_true_eq_false, not_false_eq_true]; rfl
    · rw [hm1]; simp (disch := omega) only [gd_t, stw_v, cpw_v, jn_v, b1_v, b2_v, w32_id, rd_wr_s, rd_wr_k, rd_wr_i, bz_0, bz_n, if_pos, if_neg, if_true, if_false, ne_eq, not_true_eq_false, not_false_eq_true]
    · rw [hm1]; simp (disch := omega) only [gd_t, stw_v, cpw_v, jn_v, b1_v, b2_v, w32_id, rd_wr_s, rd_wr_k, rd_wr_i, bz_0, bz_n, if_pos, if_neg, if_true, if_false, ne_eq, not_true_eq_false, not_false_eq_true]
    · intro k i b c d
      rcases (show k = 10 ∨ k = 11 ∨ k = 12 by omega) with rfl | rfl | rfl
      · rw [hm1]; simp (disch := omega) only [rd_wr_k, rd_wr_i, rd_cpy_k, rd_cpy_i]; congr 1; omega
      · rw [hm1]; simp (disch := omega) only [rd_wr_k, rd_wr_i, rd_cpy_k, rd_cpy_i]; congr 1; omega
      · rw [hm1]; simp (disch := omega) only [rd_wr_k, rd_wr_i, rd_cpy_k, rd_cpy_i]; congr 1; omega
    · rw [hm1]; simp (disch := omega) only [gd_t, stw_v, cpw_v, jn_v, b1_v, b2_v, w32_id, rd_wr_s, rd_wr_k, rd_wr_i, bz_0, bz_n, if_pos, if_neg, if_true, if_false, ne_eq, not_true_eq_false, not_false_eq_true]
    · rw [hm1]; simp (disch := omega) only [gd_t, stw_v, cpw_v, jn_v, b1_v, b2_v, w32_id, rd_wr_s, rd_wr_k, rd_wr_i, bz_0, bz_n, if_pos, if_neg, if_true, if_false, ne_eq, not_true_eq_false, not_false_eq_true, wo]
    · rw [hm1]; simp (disch := omega) only [gd_t, stw_v, cpw_v, jn_v, b1_v, b2_v, w32_id, rd_wr_s, rd_wr_k, rd_wr_i, bz_0, bz_n, if_pos, if_neg, if_true, if_false, ne_eq, not_true_eq_false, not_false_eq_true]
/-- the reference's: the four lists one place down -/
def shm (m : Mem) (j : Int) : Mem := fun k i => if (92 ≤ k ∧ k ≤ 95) ∧ j - 1 ≤ i ∧ i < 39 then rd m k (i + 1) else m k i
theorem shm_o {m : Mem} {j : Int} {k : Nat} {i : Int} (h : ¬ ((92 ≤ k ∧ k ≤ 95) ∧ j - 1 ≤ i ∧ i < 39)) : shm m j k i = m k i := if_neg h
theorem rd_shm {m : Mem} {j : Int} {k : Nat} {i : Int} (h : (92 ≤ k ∧ k ≤ 95) ∧ j - 1 ≤ i ∧ i < 39) : rd (shm m j) k i = rd m k (i + 1) := by
  show w32 (shm m j k i) = _
  unfold shm
  rw [if_pos h, w32_rd]
theorem shm_s {m : Mem} {j : Int} (h : 1 ≤ j) (h' : j < 40) : shm (wr (wr (wr (wr m 92 (j - 1) (rd m 92 j)) 93 (j - 1) (rd m 93 j)) 94 (j - 1) (rd m 94 j)) 95 (j - 1) (rd m 95 j)) (j + 1) = shm m j := by
  funext k i
  unfold shm
  by_cases a : (92 ≤ k ∧ k ≤ 95) ∧ j - 1 ≤ i ∧ i < 39
  · rw [if_pos a]
    by_cases b : i = j - 1
    · rw [if_neg (by omega), b, show j - 1 + 1 = j by omega]
      rcases (show k = 92 ∨ k = 93 ∨ k = 94 ∨ k = 95 by omega) with rfl | rfl | rfl | rfl
      · rw [wr_ki (by omega), wr_ki (by omega), wr_ki (by omega)]; unfold wr; rw [if_pos ⟨rfl, rfl⟩]
      · rw [wr_ki (by omega), wr_ki (by omega)]; unfold wr; rw [if_pos ⟨rfl, rfl⟩]
      · rw [wr_ki (by omega)]; unfold wr; rw [if_pos ⟨rfl, rfl⟩]
      · unfold wr; rw [if_pos ⟨rfl, rfl⟩]
    · rw [if_pos (by omega)]
      apply rd_eq
      simp (disch := omega) only [wr_ki]
  · rw [if_neg a, if_neg (by omega)]
    simp (disch := omega) only [wr_ki]
theorem L_shm {kk : Mem → Option (Int × Mem)} : ∀ (d n : Nat) (j : Int) (m : Mem), j + d = 40 → d < n → 1 ≤ j → L11_changes_34 kk n j m = kk (shm m j) := by
  intro d
  induction d with
  | zero =>
    intro n j m h0 h1 h2
    obtain ⟨n, rfl⟩ : ∃ i, n = i + 1 := ⟨n - 1, by omega⟩
    have : shm m j = m := by funext k i; unfold shm; rw [if_neg (by omega)]
    rw [L11_changes_34, if_pos (by omega), this]
  | succ d ih =>
    intro n j m h0 h1 h2
    obtain ⟨n, rfl⟩ : ∃ i, n = i + 1 := ⟨n - 1, by omega⟩
    rw [L11_changes_34]
    simp (disch := omega) only [gd_t, stw_v, cpw_v, jn_v, b1_v, b2_v, w32_id, rd_wr_s, rd_wr_k, rd_wr_i, bz_0, bz_n, if_pos, if_neg, if_true, if_false, ne_eq, not_true_eq_false, not_false_eq_true]
    rw [ih n (j + 1) _ (by omega) (by omega) (by omega), shm_s h2 (by omega)]
theorem rchange {m : Mem} {kd j v C : Int} (hv : inR v) (hkd : kd = 0 ∧ 0 ≤ j ∧ j < 192 ∨ kd = 1 ∧ 0 ≤ j ∧ j < 5 ∨ kd = 2 ∧ 0 ≤ j ∧ j < 12) (hu0 : 0 ≤ rd m 83 13) (hu1 : rd m 83 13 ≤ 40) (hne : rd m (ck kd) j ≠ v) :
    ∃ m1 u S, F11_changes m kd j v = some (rd m (ck kd) j, m1) ∧ 0 ≤ S ∧ u = rd m 83 13 - S ∧ 0 ≤ u ∧ u < 40 ∧ (S = 0 ∨ (S = 1 ∧ u = 39)) ∧ (S = 0 ↔ rd m 83 13 < 40) ∧
      (∀ k i, ¬ (k = ck kd ∧ i = j) → ¬ (92 ≤ k ∧ k ≤ 95) → ¬ (k = 83 ∧ (i = 13 ∨ i = 14 ∨ i = 31)) → m1 k i = m k i) ∧ rd m1 (ck kd) j = v ∧ rd m1 83 13 = u + 1 ∧ rd m1 83 14 = 0 ∧ rd m1 83 31 = 0 ∧
      (∀ k i, 92 ≤ k ∧ k ≤ 95 → 0 ≤ i → i < u → rd m1 k i = rd m k (i + S)) ∧ rd m1 92 u = kd ∧ rd m1 93 u = j ∧ rd m1 94 u = rd m (ck kd) j ∧ rd m1 95 u = v := by
  have hv1 := hv.1; have hv2 := hv.2
  have wv : w32 v = v := w32_id hv1 hv2
  have wo := w32_rd m (ck kd) j
  have ckk : ck kd = 88 ∨ ck kd = 89 ∨ ck kd = 90 := by
    unfold ck; split
    · omega
    · split <;> omega
  have va : F11_valueAt m kd j = some (rd m (ck kd) j) := by
    unfold F11_valueAt ck
    rcases hkd with ⟨rfl, h1, h2⟩ | ⟨rfl, h1, h2⟩ | ⟨rfl, h1, h2⟩
    · simp (disch := omega) only [gd_t, stw_v, cpw_v, jn_v, b1_v, b2_v, w32_id, rd_wr_s, rd_wr_k, rd_wr_i, bz_0, bz_n, if_pos, if_neg, if_true, if_false, ne_eq, not_true_eq_false, not_false_eq_true]
    · simp (disch := omega) only [gd_t, stw_v, cpw_v, jn_v, b1_v, b2_v, w32_id, rd_wr_s, rd_wr_k, rd_wr_i, bz_0, bz_n, if_pos, if_neg, if_true, if_false, ne_eq, not_true_eq_false, not_false_eq_true]
    · simp (disch := omega) only [gd_t, stw_v, cpw_v, jn_v, b1_v, b2_v, w32_id, rd_wr_s, rd_wr_k, rd_wr_i, bz_0, bz_n, if_pos, if_neg, if_true, if_false, ne_eq, not_true_eq_false, not_false_eq_true]
  have se : ∀ q, F11_set q kd j v = some (wr q (ck kd) j v) := by
    intro q
    unfold F11_set ck
    rcases hkd with ⟨rfl, h1, h2⟩ | ⟨rfl, h1, h2⟩ | ⟨rfl, h1, h2⟩
    · simp (disch := omega) only [gd_t, stw_v, cpw_v, jn_v, b1_v, b2_v, w32_id, rd_wr_s, rd_wr_k, rd_wr_i, bz_0, bz_n, if_pos, if_neg, if_true, if_false, ne_eq, not_true_eq_false, not_false_eq_true]
    · simp (disch := omega) only [gd_t, stw_v, cpw_v, jn_v, b1_v, b2_v, w32_id, rd_wr_s, rd_wr_k, rd_wr_i, bz_0, bz_n, if_pos, if_neg, if_true, if_false, ne_eq, not_true_eq_false, not_false_eq_true]
    · simp (disch := omega) only [gd_t, stw_v, cpw_v, jn_v, b1_v, b2_v, w32_id, rd_wr_s, rd_wr_k, rd_wr_i, bz_0, bz_n, if_pos, if_neg, if_true, if_false, ne_eq, not_true_eq_false, not_false_eq_true]
  have wj : w32 j = j := w32_id (by omega) (by omega)
  have wk : w32 kd = kd := w32_id (by omega) (by omega)
  -- the end of it, from a memory b whose log has place u free
  have fin : ∀ (b : Mem) (u : Int), rd b 83 13 = u → 0 ≤ u → u < 40 → (gd (0 ≤ rd b 83 13 ∧ rd b 83 13 < 40) <| stw b 92 (rd b 83 13) kd fun m130 =>
      gd (0 ≤ rd m130 83 13 ∧ rd m130 83 13 < 40) <| stw m130 93 (rd m130 83 13) j fun m140 =>
      gd (0 ≤ rd m140 83 13 ∧ rd m140 83 13 < 40) <| stw m140 94 (rd m140 83 13) (rd m (ck kd) j) fun m151 =>
      gd (0 ≤ rd m151 83 13 ∧ rd m151 83 13 < 40) <| stw m151 95 (rd m151 83 13) v fun m161 =>
      stw m161 83 13 (w32 ((rd m161 83 13) + 1)) fun m169 =>
      b1 (F11_set m169 kd j v) fun m176 => stw m176 83 31 0 fun m181 => some (rd m (ck kd) j, m181)) =
      some (rd m (ck kd) j, wr (wr (wr (wr (wr (wr (wr b 92 u kd) 93 u j) 94 u (rd m (ck kd) j)) 95 u v) 83 13 (u + 1)) (ck kd) j v) 83 31 0) := by
    intro b u hb h0 h1
    subst hb
    simp (disch := omega) only [gd_t, stw_v, w32_id, rd_wr_k, rd_wr_i, rd_wr_s, se, b1_v]
  by_cases a : rd m 83 13 < 40
  · obtain ⟨u, hu⟩ : ∃ u, u = rd m 83 13 := ⟨_, rfl⟩
    obtain ⟨m1, hm1⟩ : ∃ m1, m1 = wr (wr (wr (wr (wr (wr (wr (wr m 83 14 0) 92 u kd) 93 u j) 94 u (rd m (ck kd) j)) 95 u v) 83 13 (u + 1)) (ck kd) j v) 83 31 0 := ⟨_, rfl⟩
    refine ⟨m1, u, 0, ?_, by omega, by omega, by omega, by omega, Or.inl rfl, by omega, ?_, ?_, ?_, ?_, ?_, ?_, ?_, ?_, ?_, ?_⟩
    · unfold F11_changes
      rw [va, b1_v, if_pos hne, stw_v, jn_v, if_pos (by rw [rd_wr_i (by omega)]; omega), hm1]
      exact fin (wr m 83 14 0) u (by rw [rd_wr_i (by omega)]; omega) (by omega) (by omega)
    · intro k i b c d
      rw [hm1]
      simp (disch := omega) only [wr_ki]
    · rw [hm1]; simp (disch := omega) only [gd_t, stw_v, cpw_v, jn_v, b1_v, b2_v, w32_id, rd_wr_s, rd_wr_k, rd_wr_i, bz_0, bz_n, if_pos, if_neg, if_true, if_false, ne_eq, not_true_eq_false, not_false_eq_true, wv]
    · rw [hm1]; simp (disch := omega) only [gd_t, stw_v, cpw_v, jn_v, b1_v, b2_v, w32_id, rd_wr_s, rd_wr_k, rd_wr_i, bz_0, bz_n, if_pos, if_neg, if_true, if_false, ne_eq, not_true_eq_false, not_false_eq_true]
    · rw [hm1]; simp (disch := omega) only [gd_t, stw_v, cpw_v, jn_v, b1_v, b2_v, w32_id, rd_wr_s, rd_wr_k, rd_wr_i, bz_0, bz_n, if_pos, if_neg, if_true, if_false, ne_eq, not_true_eq_false, not_false_eq_true]
    · rw [hm1]; simp (disch := omega) only [gd_t, stw_v, cpw_v, jn_v, b1_v, b2_v, w32_id, rd_wr_s, rd_wr_k, rd_wr_i, bz_0, bz_n, if_pos, if_neg, if_true, if_false, ne_eq, not_true_eq_false, not_false_eq_true]
    · intro k i b c d
      rw [hm1, Int.add_zero, rd_eq]
      simp (disch := omega) only [wr_ki]
    · rw [hm1]; simp (disch := omega) only [gd_t, stw_v, cpw_v, jn_v, b1_v, b2_v, w32_id, rd_wr_s, rd_wr_k, rd_wr_i, bz_0, bz_n, if_pos, if_neg, if_true, if_false, ne_eq, not_true_eq_false, not_false_eq_true]
    · rw [hm1]; simp (disch := omega) only [gd_t, stw_v, cpw_v, jn_v, b1_v, b2_v, w32_id, rd_wr_s, rd_wr_k, rd_wr_i, bz_0, bz_n, if_pos, if_neg, if_true, if_false, ne_eq, not_true_eq_false, not_false_eq_true]
    · rw [hm1]; simp (disch := omega) only [gd_t, stw_v, cpw_v, jn_v, b1_v, b2_v, w32_id, rd_wr_s, rd_wr_k, rd_wr_i, bz_0, bz_n, if_pos, if_neg, if_true, if_false, ne_eq, not_true_eq_false, not_false_eq_true, wo]
    · rw [hm1]; simp (disch := omega) only [gd_t, stw_v, cpw_v, jn_v, b1_v, b2_v, w32_id, rd_wr_s, rd_wr_k, rd_wr_i, bz_0, bz_n, if_pos, if_neg, if_true, if_false, ne_eq, not_true_eq_false, not_false_eq_true]
  · obtain ⟨b, hb⟩ : ∃ b, b = wr (shm (wr m 83 14 0) 1) 83 13 39 := ⟨_, rfl⟩
    obtain ⟨m1, hm1⟩ : ∃ m1, m1 = wr (wr (wr (wr (wr (wr (wr b 92 39 kd) 93 39 j) 94 39 (rd m (ck kd) j)) 95 39 v) 83 13 40) (ck kd) j v) 83 31 0 := ⟨_, rfl⟩
    have s13 : rd (shm (wr m 83 14 0) 1) 83 13 = 40 := by
      rw [rd_eq (shm_o (by omega)), rd_wr_i (by omega)]; omega
    refine ⟨m1, 39, 1, ?_, by omega, by omega, by omega, by omega, Or.inr ⟨rfl, rfl⟩, by omega, ?_, ?_, ?_, ?_, ?_, ?_, ?_, ?_, ?_, ?_⟩
    · unfold F11_changes
      rw [va, b1_v, if_pos hne, stw_v, jn_v, if_neg (by rw [rd_wr_i (by omega)]; omega), L_shm 39 FU 1 _ (by omega) (by rw [FU_eq]; omega) (by omega), stw_v, s13, show w32 (40 - 1) = 39 from w32_id (by omega) (by omega), ← hb, hm1]
      exact fin b 39 (by rw [hb]; simp (disch := omega) only [gd_t, stw_v, cpw_v, jn_v, b1_v, b2_v, w32_id, rd_wr_s, rd_wr_k, rd_wr_i, bz_0, bz_n, if_pos, if_neg, if_true, if_false, ne_eq, not_true_eq_false, not_false_eq_true]) (by omega) (by omega)
    · intro k i b' c d
      rw [hm1, hb]
      simp (disch := omega) only [wr_ki, shm_o]
    · rw [hm1]; simp (disch := omega) only [gd_t, stw_v, cpw_v, jn_v, b1_v, b2_v, w32_id, rd_wr_s, rd_wr_k, rd_wr_i, bz_0, bz_n, if_pos, if_neg, if_true, if_false, ne_eq, not_true_eq_false, not_false_eq_true, wv]
    · rw [hm1]; simp (disch := omega) only [gd_t, stw_v, cpw_v, jn_v, b1_v, b2_v, w32_id, rd_wr_s, rd_wr_k, rd_wr_i, bz_0, bz_n, if_pos, if_neg, if_true, if_false, ne_eq, not_true_eq_false, not_false_eq_true]; rfl
    · rw [hm1, hb]; simp (disch := omega) only [rd_wr_k, rd_wr_i]; rw [rd_eq (shm_o (by omega)), rd_wr_s]; exact w32_id (by omega) (by omega)
    · rw [hm1]; simp (disch := omega) only [gd_t, stw_v, cpw_v, jn_v, b1_v, b2_v, w32_id, rd_wr_s, rd_wr_k, rd_wr_i, bz_0, bz_n, if_pos, if_neg, if_true, if_false, ne_eq, not_true_eq_false, not_false_eq_true]
    · intro k i b' c d
      rw [hm1, hb]
      simp (disch := omega) only [rd_wr_k, rd_wr_i]
      have : ∀ i, rd (wr m 83 14 0) k i = rd m k i := fun i => rd_wr_k (by omega)
      rcases (show k = 92 ∨ k = 93 ∨ k = 94 ∨ k = 95 by omega) with rfl | rfl | rfl | rfl
      · simp (disch := omega) only [rd_wr_k, rd_wr_i, rd_shm]
      · simp (disch := omega) only [rd_wr_k, rd_wr_i, rd_shm]
      · simp (disch := omega) only [rd_wr_k, rd_wr_i, rd_shm]
      · simp (disch := omega) only [rd_wr_k, rd_wr_i, rd_shm]
    · rw [hm1]; simp (disch := omega) only [gd_t, stw_v, cpw_v, jn_v, b1_v, b2_v, w32_id, rd_wr_s, rd_wr_k, rd_wr_i, bz_0, bz_n, if_pos, if_neg, if_true, if_false, ne_eq, not_true_eq_false, not_false_eq_true]
    · rw [hm1]; simp (disch := omega) only [gd_t, stw_v, cpw_v, jn_v, b1_v, b2_v, w32_id, rd_wr_s, rd_wr_k, rd_wr_i, bz_0, bz_n, if_pos, if_neg, if_true, if_false, ne_eq, not_true_eq_false, not_false_eq_true]
    · rw [hm1]; simp (disch := omega) only [gd_t, stw_v, cpw_v, jn_v, b1_v, b2_v, w32_id, rd_wr_s, rd_wr_k, rd_wr_i, bz_0, bz_n, if_pos, if_neg, if_true, if_false, ne_eq, not_true_eq_false, not_false_eq_true, wo]
    · rw [hm1]; simp (disch := omega) only [gd_t, stw_v, cpw_v, jn_v, b1_v, b2_v, w32_id, rd_wr_s, rd_wr_k, rd_wr_i, bz_0, bz_n, if_pos, if_neg, if_true, if_false, ne_eq, not_true_eq_false, not_false_eq_true]
