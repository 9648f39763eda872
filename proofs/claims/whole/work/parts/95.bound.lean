/-! the bound: how often at least the listed charters must have changed -/
def fpB (m : Mem) (k v : Int) : Nat → Bool
  | 0 => false
  | j + 1 => fpB m k v j || decide (rd m 89 (16 * rd m 103 (j : Int) + k) = v)
def pk (m : Mem) (k : Int) (j : Nat) : Int := bs (pat (fpB m k 0 j) (fpB m k 1 j) (fpB m k 2 j) (fpB m k 3 j)) 4
def pr (m : Mem) (k : Int) (j : Nat) : Int := bs (pat false (fpB m k 1 j) (fpB m k 2 j) (fpB m k 3 j)) 4
def n3 (b c d : Bool) : Int := (if b then 1 else 0) + (if c then 1 else 0) + (if d then 1 else 0)
theorem n3_b (b c d : Bool) : 0 ≤ n3 b c d ∧ n3 b c d ≤ 3 := by cases b <;> cases c <;> cases d <;> decide
theorem pat_b : ∀ a b c d : Bool, 0 ≤ bs (pat a b c d) 4 ∧ bs (pat a b c d) 4 < 16 := by decide +kernel
theorem pat_n : ∀ a b c d : Bool, FJ6_bitCount_0f7a4 (shr (bs (pat a b c d) 4) 1) = n3 b c d := by decide +kernel
theorem pat_m : ∀ b c d : Bool, w32 ((w32 ((band (shr (bs (pat false b c d) 4) 1) 1) + (band (shr (bs (pat false b c d) 4) 2) 1))) + (band (shr (bs (pat false b c d) 4) 3) 1)) = n3 b c d := by decide +kernel
theorem L0_tf {n : Nat} {m : Mem} (hI : Inv n m) {k : Int} (hk : 0 ≤ k ∧ k < 16) {N : Nat} (hN : rd m 31 2 = (N : Int)) : ∀ (d t j : Nat), j + d = N → d < t → L0_toldForms_4 m k t (pk m k j) (j : Int) = some (pk m k N) := by
  obtain ⟨⟨_, c1, _⟩, ⟨e1, _⟩, _, _, _, _, _, _, ⟨l1, l2, l3, l4, _⟩, _⟩ := hI
  intro d
  induction d with
  | zero =>
    intro t j h0 h1
    obtain ⟨t, rfl⟩ : ∃ i, t = i + 1 := ⟨t - 1, by omega⟩
    rw [L0_toldForms_4, hN, if_pos (by omega), show j = N by omega]
  | succ d ih =>
    intro t j h0 h1
    obtain ⟨t, rfl⟩ : ∃ i, t = i + 1 := ⟨t - 1, by omega⟩
    obtain ⟨x1, x2, x3⟩ := l4 (j : Int) (by omega) (by omega)
    obtain ⟨y1, y2⟩ := e1 (rd m 103 (j : Int)) k x2 x3 hk.1 hk.2
    have e : ∀ v, fpB m k v (j + 1) = (fpB m k v j || decide (rd m 89 (16 * rd m 103 (j : Int) + k) = v)) := fun v => rfl
    have ih' := ih t (j + 1) (by omega) (by omega)
    rw [L0_toldForms_4, hN, if_neg (by omega), gd_t (by omega), x1, told_e x2 (by omega) hk.1 hk.2, b1_v, y1, w32_id (x := (j : Int) + 1) (by omega) (by omega), show (j : Int) + 1 = ((j + 1 : Nat) : Int) by omega]
    simp only [jn_v]
    have pb := pat_b (fpB m k 0 j) (fpB m k 1 j) (fpB m k 2 j) (fpB m k 3 j)
    have bp := bor_pat (fpB m k 0 j) (fpB m k 1 j) (fpB m k 2 j) (fpB m k 3 j)
    generalize rd m 89 (16 * rd m 103 (j : Int) + k) = f at y2 e ⊢
    have hf : f = 0 ∨ f = 1 ∨ f = 2 ∨ f = 3 ∨ f = 9 := by unfold isF at y2; omega
    suffices h : bor (pk m k j) (if f ≠ 9 then shl 1 f else 0) = pk m k (j + 1) by
      by_cases z : f ≠ 9
      · rw [if_pos z] at h ⊢; rw [h]; exact ih'
      · rw [if_neg z] at h ⊢; rw [h]; exact ih'
    unfold pk at *
    rw [e 0, e 1, e 2, e 3]
    rcases hf with rfl | rfl | rfl | rfl | rfl
    · rw [show decide ((0 : Int) = 0) = true from rfl, show decide ((0 : Int) = 1) = false from rfl, show decide ((0 : Int) = 2) = false from rfl, show decide ((0 : Int) = 3) = false from rfl, Bool.or_true, Bool.or_false, Bool.or_false, Bool.or_false, if_pos (by omega)]
      exact bp.1
    · rw [show decide ((1 : Int) = 0) = false from rfl, show decide ((1 : Int) = 1) = true from rfl, show decide ((1 : Int) = 2) = false from rfl, show decide ((1 : Int) = 3) = false from rfl, Bool.or_true, Bool.or_false, Bool.or_false, Bool.or_false, if_pos (by omega)]
      exact bp.2.1
    · rw [show decide ((2 : Int) = 0) = false from rfl, show decide ((2 : Int) = 1) = false from rfl, show decide ((2 : Int) = 2) = true from rfl, show decide ((2 : Int) = 3) = false from rfl, Bool.or_true, Bool.or_false, Bool.or_false, Bool.or_false, if_pos (by omega)]
      exact bp.2.2.1
    · rw [show decide ((3 : Int) = 0) = false from rfl, show decide ((3 : Int) = 1) = false from rfl, show decide ((3 : Int) = 2) = false from rfl, show decide ((3 : Int) = 3) = true from rfl, Bool.or_true, Bool.or_false, Bool.or_false, Bool.or_false, if_pos (by omega)]
      exact bp.2.2.2
    · simp only [show decide ((9 : Int) = 0) = false from rfl, show decide ((9 : Int) = 1) = false from rfl, show decide ((9 : Int) = 2) = false from rfl, show decide ((9 : Int) = 3) = false from rfl, Bool.or_false]
      rw [if_neg (fun q => q rfl)]
      exact bor_0 ⟨pb.1, by omega⟩
theorem pk_0 (m : Mem) (k : Int) : pk m k 0 = 0 := bs_00
theorem pr_0 (m : Mem) (k : Int) : pr m k 0 = 0 := bs_00
theorem tf_e {n : Nat} {m : Mem} (hI : Inv n m) {k : Int} (hk : 0 ≤ k ∧ k < 16) {N : Nat} (hN : rd m 31 2 = (N : Int)) : F0_toldForms m k = some (pk m k N) := by
  have l2 := hI.2.2.2.2.2.2.2.2.1.2.1
  have := L0_tf hI hk hN N FU 0 (by omega) (by rw [FU_eq]; omega)
  rw [pk_0] at this
  exact this
theorem L11_bn15 {n : Nat} {m : Mem} (hI : Inv n m) {k : Int} (hk : 0 ≤ k ∧ k < 16) {N : Nat} (hN : rd m 31 2 = (N : Int)) {kk : Int → Option Int} : ∀ (d t j : Nat), j + d = N → d < t → L11_boundNow_15 m k kk t (pr m k j) (j : Int) = kk (pr m k N) := by
  obtain ⟨⟨_, c1, _⟩, ⟨e1, _⟩, _, _, _, _, _, _, ⟨l1, l2, l3, l4, _⟩, _⟩ := hI
  intro d
  induction d with
  | zero =>
    intro t j h0 h1
    obtain ⟨t, rfl⟩ : ∃ i, t = i + 1 := ⟨t - 1, by omega⟩
    rw [L11_boundNow_15, l3, hN, if_pos (by omega), show j = N by omega]
  | succ d ih =>
    intro t j h0 h1
    obtain ⟨t, rfl⟩ : ∃ i, t = i + 1 := ⟨t - 1, by omega⟩
    obtain ⟨x1, x2, x3⟩ := l4 (j : Int) (by omega) (by omega)
    obtain ⟨y1, y2⟩ := e1 (rd m 103 (j : Int)) k x2 x3 hk.1 hk.2
    have e : ∀ v, fpB m k v (j + 1) = (fpB m k v j || decide (rd m 89 (16 * rd m 103 (j : Int) + k) = v)) := fun v => rfl
    have ih' := ih t (j + 1) (by omega) (by omega)
    have ad : w32 ((w32 (16 * rd m 103 (j : Int))) + k) = 16 * rd m 103 (j : Int) + k := by rw [w32_id (x := 16 * rd m 103 (j : Int)) (by omega) (by omega), w32_id (by omega) (by omega)]
    rw [L11_boundNow_15, l3, hN, if_neg (by omega), gd_t (by omega), ad, gd_t (by omega), F11_in_e, w32_id (x := (j : Int) + 1) (by omega) (by omega), show (j : Int) + 1 = ((j + 1 : Nat) : Int) by omega]
    simp only [jn_v]
    have bp := bor_pat false (fpB m k 1 j) (fpB m k 2 j) (fpB m k 3 j)
    generalize rd m 89 (16 * rd m 103 (j : Int) + k) = f at y2 e ⊢
    have hf : f = 0 ∨ f = 1 ∨ f = 2 ∨ f = 3 ∨ f = 9 := by unfold isF at y2; omega
    suffices h : (if bz (1 ≤ f ∧ f ≤ 3) = 0 then pr m k j else bor (pr m k j) (shl 1 f)) = pr m k (j + 1) by
      by_cases z : bz (1 ≤ f ∧ f ≤ 3) = 0
      · rw [if_pos z] at h ⊢; rw [h]; exact ih'
      · rw [if_neg z] at h ⊢; rw [h]; exact ih'
    rw [show (if bz (1 ≤ f ∧ f ≤ 3) = 0 then pr m k j else bor (pr m k j) (shl 1 f)) = (if ¬ (1 ≤ f ∧ f ≤ 3) then pr m k j else bor (pr m k j) (shl 1 f)) by
      by_cases z : 1 ≤ f ∧ f ≤ 3
      · rw [if_neg (by rw [bz_0]; exact fun q => q z), if_neg (fun q => q z)]
      · rw [if_pos (by rw [bz_0]; exact z), if_pos z]]
    unfold pr at *
    rw [e 1, e 2, e 3]
    rcases hf with rfl | rfl | rfl | rfl | rfl
    · simp only [show decide ((0 : Int) = 1) = false from rfl, show decide ((0 : Int) = 2) = false from rfl, show decide ((0 : Int) = 3) = false from rfl, Bool.or_true, Bool.or_false]
      rw [if_pos (by omega)]
    · rw [show decide ((1 : Int) = 1) = true from rfl, show decide ((1 : Int) = 2) = false from rfl, show decide ((1 : Int) = 3) = false from rfl, Bool.or_true, Bool.or_false, Bool.or_false]
      rw [if_neg (by omega)]
      exact bp.2.1
    · rw [show decide ((2 : Int) = 1) = false from rfl, show decide ((2 : Int) = 2) = true from rfl, show decide ((2 : Int) = 3) = false from rfl, Bool.or_true, Bool.or_false, Bool.or_false]
      rw [if_neg (by omega)]
      exact bp.2.2.1
    · rw [show decide ((3 : Int) = 1) = false from rfl, show decide ((3 : Int) = 2) = false from rfl, show decide ((3 : Int) = 3) = true from rfl, Bool.or_true, Bool.or_false, Bool.or_false]
      rw [if_neg (by omega)]
      exact bp.2.2.2
    · simp only [show decide ((9 : Int) = 1) = false from rfl, show decide ((9 : Int) = 2) = false from rfl, show decide ((9 : Int) = 3) = false from rfl, Bool.or_false]
      rw [if_pos (by omega)]
def bX (m : Mem) (N : Nat) (k : Int) : Int := max 0 (n3 (fpB m k 1 N) (fpB m k 2 N) (fpB m k 3 N) - 1)
def bV (m : Mem) (N : Nat) : Nat → Int
  | 0 => 0
  | k + 1 => bV m N k + bX m N (k : Int) * min (rd m 90 0) (rd m 90 2)
theorem bXq {x q : Int} (hx : 0 ≤ x ∧ x ≤ 2) (hq : 0 ≤ q ∧ q ≤ 99) : 0 ≤ x * q ∧ x * q ≤ 198 := by
  have : x = 0 ∨ x = 1 ∨ x = 2 := by omega
  rcases this with rfl | rfl | rfl <;> omega
theorem bX_b (m : Mem) (N : Nat) (k : Int) : 0 ≤ bX m N k ∧ bX m N k ≤ 2 := by
  have := n3_b (fpB m k 1 N) (fpB m k 2 N) (fpB m k 3 N)
  unfold bX; omega
theorem bV_b {m : Mem} (h0 : 0 ≤ rd m 90 0 ∧ rd m 90 0 ≤ 99) (h2 : 0 ≤ rd m 90 2 ∧ rd m 90 2 ≤ 99) (N : Nat) : ∀ k : Nat, 0 ≤ bV m N k ∧ bV m N k ≤ 198 * (k : Int)
  | 0 => ⟨Int.le_refl _, by show (0 : Int) ≤ _; omega⟩
  | k + 1 => by
    have i := bV_b h0 h2 N k
    have j := bXq (bX_b m N (k : Int)) (q := min (rd m 90 0) (rd m 90 2)) (by omega)
    have e : bV m N (k + 1) = bV m N k + bX m N (k : Int) * min (rd m 90 0) (rd m 90 2) := rfl
    rw [e]; omega
theorem bound_e {n : Nat} {m : Mem} (hI : Inv n m) : ∃ r, F0_bound m = some r ∧ F11_boundNow m = some r ∧ 0 ≤ r ∧ r ≤ 3168 := by
  have hI' := hI
  obtain ⟨_, ⟨_, e2, _⟩, _, _, _, _, _, _, ⟨l1, l2, l3, l4, _⟩, _⟩ := hI
  obtain ⟨N, hN⟩ : ∃ N : Nat, rd m 31 2 = (N : Int) := ⟨(rd m 31 2).toNat, by omega⟩
  have p0 := e2 0 (by omega) (by omega)
  have p2 := e2 2 (by omega) (by omega)
  rw [show (192 : Int) + 0 = 192 by omega] at p0
  rw [show (192 : Int) + 2 = 194 by omega] at p2
  have vb := bV_b (m := m) p0.2 p2.2 N
  have q0 : 0 ≤ min (rd m 90 0) (rd m 90 2) ∧ min (rd m 90 0) (rd m 90 2) ≤ 99 := by omega
  have A : ∀ (d t k : Nat), k + d = 16 → d < t → L0_bound_24 m (min (rd m 90 0) (rd m 90 2)) t (bV m N k) (k : Int) = some (bV m N 16) := by
    intro d
    induction d with
    | zero =>
      intro t k h0 h1
      obtain ⟨t, rfl⟩ : ∃ i, t = i + 1 := ⟨t - 1, by omega⟩
      rw [L0_bound_24, if_pos (by omega), show k = 16 by omega]
    | succ d ih =>
      intro t k h0 h1
      obtain ⟨t, rfl⟩ : ∃ i, t = i + 1 := ⟨t - 1, by omega⟩
      have b := vb k
      have nb := n3_b (fpB m (k : Int) 1 N) (fpB m (k : Int) 2 N) (fpB m (k : Int) 3 N)
      have j := bXq (bX_b m N (k : Int)) q0
      have ih' := ih t (k + 1) (by omega) (by omega)
      have e : bV m N (k + 1) = bV m N k + bX m N (k : Int) * min (rd m 90 0) (rd m 90 2) := rfl
      rw [e] at ih'
      rw [L0_bound_24, if_neg (by omega), tf_e hI' (k := (k : Int)) (by omega) hN, b1_v]
      unfold pk
      rw [pat_n, w32_id (x := n3 _ _ _ - 1) (by omega) (by omega), imx_e, show max 0 (n3 (fpB m (k : Int) 1 N) (fpB m (k : Int) 2 N) (fpB m (k : Int) 3 N) - 1) = bX m N (k : Int) from rfl, w32_id (x := bX m N (k : Int) * _) (by omega) (by omega), w32_id (x := bV m N k + _) (by omega) (by omega), w32_id (x := (k : Int) + 1) (by omega) (by omega), show (k : Int) + 1 = ((k + 1 : Nat) : Int) by omega]
      exact ih'
  have B : ∀ (d t k : Nat), k + d = 16 → d < t → L11_boundNow_4 m t (bV m N k) (k : Int) = some (bV m N 16) := by
    intro d
    induction d with
    | zero =>
      intro t k h0 h1
      obtain ⟨t, rfl⟩ : ∃ i, t = i + 1 := ⟨t - 1, by omega⟩
      rw [L11_boundNow_4, if_pos (by omega), show k = 16 by omega]
    | succ d ih =>
      intro t k h0 h1
      obtain ⟨t, rfl⟩ : ∃ i, t = i + 1 := ⟨t - 1, by omega⟩
      have b := vb k
      have nb := n3_b (fpB m (k : Int) 1 N) (fpB m (k : Int) 2 N) (fpB m (k : Int) 3 N)
      have j := bXq (bX_b m N (k : Int)) q0
      have ih' := ih t (k + 1) (by omega) (by omega)
      have e : bV m N (k + 1) = bV m N k + bX m N (k : Int) * min (rd m 90 0) (rd m 90 2) := rfl
      rw [e] at ih'
      have x := fun kk => L11_bn15 hI' (k := (k : Int)) (by omega) hN (kk := kk) N FU 0 (by omega) (by rw [FU_eq]; omega)
      rw [pr_0] at x
      rw [L11_boundNow_4, if_neg (by omega)]
      refine Eq.trans (x _) ?_
      unfold pr
      simp only [jn_v]
      rw [pat_m, F11_lesser_e, gd_t (by omega), gd_t (by omega), w32_id (x := n3 _ _ _ - 1) (by omega) (by omega), w32_id (x := (k : Int) + 1) (by omega) (by omega), show (k : Int) + 1 = ((k + 1 : Nat) : Int) by omega]
      by_cases z : n3 (fpB m (k : Int) 1 N) (fpB m (k : Int) 2 N) (fpB m (k : Int) 3 N) ≤ 1
      · have b0 : bX m N (k : Int) = 0 := by unfold bX; omega
        rw [b0, Int.zero_mul, Int.add_zero] at ih'
        rw [if_pos z]; exact ih'
      · have b1' : n3 (fpB m (k : Int) 1 N) (fpB m (k : Int) 2 N) (fpB m (k : Int) 3 N) - 1 = bX m N (k : Int) := by unfold bX; omega
        rw [if_neg z, b1', w32_id (x := bX m N (k : Int) * _) (by omega) (by omega), w32_id (x := bV m N k + _) (by omega) (by omega)]
        exact ih'
  have v16 := vb 16
  refine ⟨bV m N 16, ?_, B 16 FU 0 (by omega) (by rw [FU_eq]; omega), v16.1, by omega⟩
  unfold F0_bound
  rw [costOf_e (by omega) (by omega), b1_v, costOf_e (by omega) (by omega), b1_v, show (192 : Int) + 0 = 192 by omega, show (192 : Int) + 2 = 194 by omega, p0.1, p2.1, imn_e]
  exact A 16 FU 0 (by omega) (by rw [FU_eq]; omega)
