/-! the reference fills all -/
def RK (M m : Mem) : Prop := TR m (rd M 83 1) (inN (rd M 83 1)) (fun v => rd M 88 v) ∧ rd m 83 24 = (cI (inN (rd M 83 1)) : Int) ∧ Od (inN (rd M 83 1)) (fun v => rd M 88 v) (cI (inN (rd M 83 1)) : Int) (fun i => rd m 100 i) ∧ (∀ i, rd m 89 i = rd M 89 i) ∧ (∀ i, rd m 90 i = rd M 90 i) ∧ rd m 83 25 = -1
theorem RK_s {M m m' : Mem} (h : RK M m) (g : ∀ k i, k ≠ 98 → k ≠ 99 → k ≠ 107 → m' k i = m k i) : RK M m' := by
  obtain ⟨a, b, c, d, e, f⟩ := h
  have g100 : (fun i => rd m' 100 i) = fun i => rd m 100 i := by funext i; exact rd_eq (g _ _ (by omega) (by omega) (by omega))
  have r : ∀ k i, k ≠ 98 → k ≠ 99 → k ≠ 107 → rd m' k i = rd m k i := fun k i x y z => rd_eq (g k i x y z)
  exact ⟨TR_s a (r _ _ (by omega) (by omega) (by omega)) (fun c => r _ _ (by omega) (by omega) (by omega)) (fun c => r _ _ (by omega) (by omega) (by omega)), by rw [r _ _ (by omega) (by omega) (by omega)]; exact b, by rw [g100]; exact c, fun i => by rw [r _ _ (by omega) (by omega) (by omega)]; exact d i, fun i => by rw [r _ _ (by omega) (by omega) (by omega)]; exact e i, by rw [r _ _ (by omega) (by omega) (by omega)]; exact f⟩
theorem L11_fa14 {n : Nat} {M : Mem} (hI : Inv n M) {c : Int} (hc : 0 ≤ c ∧ c < 16) {kk : Mem → Option Mem} : ∀ (d f : Nat) (v : Int) (m : Mem), v + d = rd M 83 1 → 0 ≤ v → d < f → RK M m →
    ∃ m', L11_fillAll_14 c kk f v m = kk m' ∧ (∀ k i, k ≠ 98 → k ≠ 99 → k ≠ 107 → m' k i = m k i) ∧ (∀ i, (∀ w, v ≤ w → w < rd M 83 1 → i ≠ 16 * w + c) → m' 107 i = m 107 i) ∧ ∀ w, v ≤ w → w < rd M 83 1 → rd m' 107 (16 * w + c) = FLL M w c := by
  have a12 : 0 ≤ rd M 83 1 ∧ rd M 83 1 ≤ 12 := ⟨hI.1.1, hI.1.2.1⟩
  have hk := HT_k hI hc (-1)
  intro d
  induction d with
  | zero =>
    intro f v m h0 h1 h2 hr
    obtain ⟨f, rfl⟩ : ∃ j, f = j + 1 := ⟨f - 1, by omega⟩
    rw [L11_fillAll_14, hr.1.1, if_pos (by omega)]
    exact ⟨m, rfl, fun _ _ _ _ _ => rfl, fun _ _ => rfl, fun w a b => by omega⟩
  | succ d ih =>
    intro f v m h0 h1 h2 hr
    obtain ⟨f, rfl⟩ : ∃ j, f = j + 1 := ⟨f - 1, by omega⟩
    have hv : 0 ≤ v ∧ v < rd M 83 1 := ⟨h1, by omega⟩
    have fb := FLL_b M v c
    obtain ⟨m1, x1, y1⟩ := rfilled hI hv hc (b := -1) hr.1 hr.2.1 hr.2.2.1 hr.2.2.2.1 hr.2.2.2.2.1 (fun w _ _ => by rw [hr.2.2.2.2.2])
    rw [L11_fillAll_14, hr.1.1, if_neg (by omega), x1, b2_v, FS_FP, lowR_e (FP_ex hk (HT_in.mpr hv)), w32_id (x := 16 * v) (by omega) (by omega), w32_id (x := 16 * v + c) (by omega) (by omega), w32_id (x := v + 1) (by omega) (by omega), gd_t (by omega), stw_v]
    obtain ⟨q, hq⟩ : ∃ q, q = wr m1 107 (16 * v + c) (lo (FP (HT M c (-1)) v)) := ⟨_, rfl⟩
    rw [← hq]
    have qo : ∀ k i, k ≠ 98 → k ≠ 99 → k ≠ 107 → q k i = m k i := fun k i a b d => by rw [hq, wr_ka d, y1 k i a b]
    obtain ⟨m', p1, p2, p3, p4⟩ := ih f (v + 1) q (by omega) (by omega) (by omega) (RK_s hr qo)
    refine ⟨m', p1, fun k i a b d => by rw [p2 k i a b d]; exact qo k i a b d, fun i u => by rw [p3 i (fun w a b => u w (by omega) b), hq, wr_ki (fun z => u v (by omega) (by omega) z.2), y1 107 i (by omega) (by omega)], fun w w0 w1 => ?_⟩
    by_cases z : w = v
    · subst z
      rw [rd_eq (p3 _ (fun u a b => by omega)), hq, rd_wr_s]
      exact w32_id (x := FLL M w c) (by omega) (by omega)
    · exact p4 w (by omega) w1
theorem L11_fa6 {n : Nat} {M : Mem} (hI : Inv n M) : ∀ (d f : Nat) (c : Int) (m : Mem), c + d = 16 → 0 ≤ c → d < f → RK M m → (∀ w k, 0 ≤ w → w < rd M 83 1 → 0 ≤ k → k < c → rd m 107 (16 * w + k) = FLL M w k) →
    ∃ m', L11_fillAll_6 f c m = some m' ∧ (∀ k i, k ≠ 98 → k ≠ 99 → k ≠ 107 → m' k i = m k i) ∧ ∀ w k, 0 ≤ w → w < rd M 83 1 → 0 ≤ k → k < 16 → rd m' 107 (16 * w + k) = FLL M w k := by
  have a12 : 0 ≤ rd M 83 1 ∧ rd M 83 1 ≤ 12 := ⟨hI.1.1, hI.1.2.1⟩
  intro d
  induction d with
  | zero =>
    intro f c m h0 h1 h2 hr hf
    obtain ⟨f, rfl⟩ : ∃ j, f = j + 1 := ⟨f - 1, by omega⟩
    rw [L11_fillAll_6, if_pos (by omega)]
    exact ⟨m, rfl, fun _ _ _ _ _ => rfl, fun w k a b x y => hf w k a b x (by omega)⟩
  | succ d ih =>
    intro f c m h0 h1 h2 hr hf
    obtain ⟨f, rfl⟩ : ∃ j, f = j + 1 := ⟨f - 1, by omega⟩
    rw [L11_fillAll_6, if_neg (by omega)]
    obtain ⟨m1, x1, y1, z1, w1⟩ := L11_fa14 hI (c := c) ⟨h1, by omega⟩ (kk := fun (m_66 : Mem) => L11_fillAll_6 f (w32 (c + 1)) m_66) (rd M 83 1).toNat FU 0 m (by omega) (by omega) (by rw [FU_eq]; omega) hr
    rw [x1]
    obtain ⟨m', p1, p2, p3⟩ := ih f (c + 1) m1 (by omega) (by omega) (by omega) (RK_s hr y1) (fun w k a b x y => by
      by_cases z : k = c
      · rw [z]; exact w1 w a b
      · rw [rd_eq (z1 _ (fun u _ _ => by omega))]; exact hf w k a b x (by omega))
    refine ⟨m', ?_, fun k i a b d => by rw [p2 k i a b d]; exact y1 k i a b d, p3⟩
    rw [← p1, w32_id (x := c + 1) (by omega) (by omega)]
theorem rfill_e {n : Nat} {M : Mem} (hI : Inv n M) : ∃ m', F11_fillAll M = some m' ∧ (∀ k i, ¬ PL k i → k ≠ 107 → m' k i = M k i) ∧ ∀ w k, 0 ≤ w → w < rd M 83 1 → 0 ≤ k → k < 16 → rd m' 107 (16 * w + k) = FLL M w k := by
  obtain ⟨m1, x1, t1, o1, o2, b1', z1⟩ := rlook hI
  have z1' : ∀ k i, ¬ PL k i → m1 k i = M k i := fun k i h => z1 k i (fun q => h q.1)
  obtain ⟨m2, x2, y2, z2⟩ := L11_fa6 hI 16 FU 0 m1 (by omega) (by omega) (by rw [FU_eq]; omega) ⟨t1, o1, o2, fun i => rd_eq (z1' _ _ (by unfold PL; omega)), fun i => rd_eq (z1' _ _ (by unfold PL; omega)), b1'⟩ (fun w k a b x y => by omega)
  refine ⟨m2, ?_, fun k i a b => by rw [y2 k i (by unfold PL at a; omega) (by unfold PL at a; omega) b]; exact z1' k i a, z2⟩
  unfold F11_fillAll
  rw [x1, b1_v]; exact x2
/-! who lends -/
theorem lends_e {n : Nat} {m : Mem} (hI : Inv n m) {y c : Int} (hy : 0 ≤ y ∧ y < rd m 83 1) (hc : 0 ≤ c ∧ c < rd m 83 1) : ∃ b : Int, (b = 0 ∨ b = 1) ∧ F4_lends m y c = some b ∧ F11_canLend m y c = some b := by
  have a12 : 0 ≤ rd m 83 1 ∧ rd m 83 1 ≤ 12 := ⟨hI.1.1, hI.1.2.1⟩
  obtain ⟨rk0, r0⟩ := (ac_now hI.2.2.2.1 hI.2.2.2.2.1).2
  obtain ⟨hin, -⟩ := ac_now hI.2.2.2.1 hI.2.2.2.2.1
  obtain ⟨rk, r1, r2⟩ := acyc_b a12.2 (ac_now hI.2.2.2.1 hI.2.2.2.2.1)
  obtain ⟨b, b1', b2', b3⟩ := climb hI (v := c) (rk := rk) r1 hin 12 y (by omega) hy.2 (fun z => by have := r2 y z hy.2; omega)
  have u1 : F1_isUnder m y c = some b := b2' FU 0 (by omega) (by omega) (by rw [FU_eq]; omega)
  have u2 : F11_isAbove m c y = some b := b1' FU (by rw [FU_eq]; omega)
  have q5 := (hI.1.2.2.2.1 y hy.1 hy.2).1
  have q6 := (hI.1.2.2.2.1 c hc.1 hc.2).2.1
  have q9 := hI.2.1.2.2 c hc.1 hc.2
  unfold F4_lends F11_canLend
  rw [motherOf_e hc.1 (by omega), b1_v, u1, u2, q9]
  have gy : ∀ {α : Type} (x : Option α), gd (0 ≤ y ∧ y < 12) x = x := fun x => gd_t ⟨hy.1, by omega⟩
  have gc : ∀ {α : Type} (x : Option α), gd (0 ≤ c ∧ c < 12) x = x := fun x => gd_t ⟨hc.1, by omega⟩
  simp only [jn_v, gy, gc, b1_v]
  rw [q5, q6]
  by_cases e : y = c
  · have : b = 1 := by
      obtain ⟨N, hN⟩ : ∃ N, FU = N + 1 := ⟨99999, rfl⟩
      have : F11_isAbove m c y = some 1 := by
        unfold F11_isAbove
        rw [hN, L11_isAbove_2, if_neg (by omega), if_neg (by omega)]
      rw [u2] at this
      exact Option.some.inj this
    rw [if_pos e, if_pos (show b ≠ 0 by omega)]
    by_cases z : y = rd m 88 c
    · rw [if_pos z]; exact ⟨0, Or.inl rfl, rfl, rfl⟩
    · rw [if_neg z]; exact ⟨0, Or.inl rfl, rfl, rfl⟩
  · rw [if_neg e]
    by_cases z : y = rd m 88 c
    · rw [if_pos z]; exact ⟨0, Or.inl rfl, rfl, rfl⟩
    · rw [if_neg z]
      by_cases w : b ≠ 0
      · rw [if_pos w]; exact ⟨0, Or.inl rfl, rfl, rfl⟩
      · rw [if_neg w]
        by_cases l : rd m 85 c ≤ rd m 84 y
        · rw [if_pos l]; exact ⟨0, Or.inl rfl, rfl, rfl⟩
        · rw [if_neg l]; exact ⟨1, Or.inr rfl, rfl, rfl⟩
def canL (m : Mem) (y c : Int) : Bool := F11_canLend m y c == some 1
theorem canL_s {m m' : Mem} (h : Sm m m') (y c : Int) : canL m' y c = canL m y c := by
  unfold canL
  rw [lo_F11_canLend (m := m) (m' := m') (fun i => Sm_r h (by unfold PS; omega)) (fun i => Sm_r h (by unfold PS; omega)) (fun i => Sm_r h (by unfold PS; omega))]
theorem lends_b {n : Nat} {m : Mem} (hI : Inv n m) {y c : Int} (hy : 0 ≤ y ∧ y < rd m 83 1) (hc : 0 ≤ c ∧ c < rd m 83 1) : F4_lends m y c = some (if canL m y c = true then 1 else 0) ∧ F11_canLend m y c = some (if canL m y c = true then 1 else 0) := by
  obtain ⟨b, b0, b1', b2'⟩ := lends_e hI hy hc
  unfold canL
  rw [b1', b2']
  rcases b0 with rfl | rfl
  · exact ⟨rfl, rfl⟩
  · exact ⟨rfl, rfl⟩
/-- the least that lends -/
def LLf (m : Mem) (c k : Int) : Nat → Int → Int
  | 0, _ => -2
  | d + 1, y => if FLL m y k = FLL m c k ∧ canL m y c = true then y else LLf m c k d (y + 1)
theorem LLf_e (m : Mem) (c k : Int) (d : Nat) (y : Int) : LLf m c k (d + 1) y = if FLL m y k = FLL m c k ∧ canL m y c = true then y else LLf m c k d (y + 1) := rfl
theorem LLf_s {m m' : Mem} (h : Sm m m') (c k : Int) : ∀ (d : Nat) (y : Int), LLf m' c k d y = LLf m c k d y
  | 0, _ => rfl
  | d + 1, y => by rw [LLf_e, LLf_e, FLL_s h, FLL_s h, canL_s h, LLf_s h c k d]
def LL (m : Mem) (c k : Int) : Int := LLf m c k (rd m 83 1).toNat 0
theorem LL_s {m m' : Mem} (h : Sm m m') (c k : Int) : LL m' c k = LL m c k := by unfold LL; rw [Sm_r h (show PS 83 1 by unfold PS; omega), LLf_s h]
theorem L4_ll {n : Nat} {M m : Mem} (hI : Inv n M) {c k : Int} (hc : 0 ≤ c ∧ c < rd M 83 1) (hk : 0 ≤ k ∧ k < 16) (ho : ∀ j i, ¬ (14 ≤ j ∧ j ≤ 30) → m j i = M j i) (hf : ∀ w, 0 ≤ w → w < rd M 83 1 → rd m 27 (16 * w + k) = FLL M w k) : ∀ (d f : Nat) (y : Int), y + d = rd M 83 1 → 0 ≤ y → d < f → L4_leastLender_2 m c k f y = some (LLf M c k d y) := by
  have a12 : 0 ≤ rd M 83 1 ∧ rd M 83 1 ≤ 12 := ⟨hI.1.1, hI.1.2.1⟩
  have e4 : rd m 4 0 = rd M 83 1 := by rw [rd_eq (ho 4 0 (by omega))]; exact hI.1.2.2.1
  intro d
  induction d with
  | zero =>
    intro f y h0 h1 h2
    obtain ⟨f, rfl⟩ : ∃ j, f = j + 1 := ⟨f - 1, by omega⟩
    rw [L4_leastLender_2, e4, if_pos (by omega)]; rfl
  | succ d ih =>
    intro f y h0 h1 h2
    obtain ⟨f, rfl⟩ : ∃ j, f = j + 1 := ⟨f - 1, by omega⟩
    have hy : 0 ≤ y ∧ y < rd M 83 1 := ⟨h1, by omega⟩
    have lb : F4_lends m y c = some (if canL M y c = true then 1 else 0) := by
      rw [lo_F4_lends (m := M) (m' := m) (fun i => rd_eq (ho _ _ (by omega))) (fun i => rd_eq (ho _ _ (by omega))) (fun i => rd_eq (ho _ _ (by omega)))]
      exact (lends_b hI hy hc).1
    have ff : ∀ w, 0 ≤ w → w < rd M 83 1 → F4_filledForm m w k = some (FLL M w k) := fun w w0 w1 => by
      unfold F4_filledForm
      rw [formCell_e w0 (by omega) hk.1 (by omega), gd_t (by omega), hf w w0 w1]
    have nx := ih f (y + 1) (by omega) (by omega) (by omega)
    rw [L4_leastLender_2, e4, if_neg (by omega), ff y hy.1 hy.2, ff c hc.1 hc.2, lb, b1_v, b1_v, w32_id (x := y + 1) (by omega) (by omega), nx]
    rw [LLf_e]
    simp only [jn_v, b1_v]
    by_cases a : FLL M y k = FLL M c k
    · rw [if_neg (by omega)]
      by_cases b : canL M y c = true
      · rw [if_pos b, if_neg (by omega), if_pos ⟨a, b⟩]
      · rw [if_neg b, if_pos rfl, if_neg (fun z => b z.2)]
    · rw [if_pos a, if_neg (fun z => a z.1)]
theorem L11_fr {n : Nat} {M m : Mem} (hI : Inv n M) {c k : Int} (hc : 0 ≤ c ∧ c < rd M 83 1) (hk : 0 ≤ k ∧ k < 16) (ho : ∀ j i, ¬ PL j i → ¬ (107 ≤ j ∧ j ≤ 110) → m j i = M j i) (hf : ∀ w, 0 ≤ w → w < rd M 83 1 → rd m 107 (16 * w + k) = FLL M w k) : ∀ (d f : Nat) (y : Int), y + d = rd M 83 1 → 0 ≤ y → d < f → L11_from_53 m c k f y = some (LLf M c k d y, m) ∧ L11_canBorrow_2 m c k f y = some (if 0 ≤ LLf M c k d y then 1 else 0) := by
  have a12 : 0 ≤ rd M 83 1 ∧ rd M 83 1 ≤ 12 := ⟨hI.1.1, hI.1.2.1⟩
  have e1 : rd m 83 1 = rd M 83 1 := rd_eq (ho 83 1 (by unfold PL; omega) (by omega))
  intro d
  induction d with
  | zero =>
    intro f y h0 h1 h2
    obtain ⟨f, rfl⟩ : ∃ j, f = j + 1 := ⟨f - 1, by omega⟩
    rw [L11_from_53, L11_canBorrow_2, e1, if_pos (by omega), if_pos (by omega)]; exact ⟨rfl, rfl⟩
  | succ d ih =>
    intro f y h0 h1 h2
    obtain ⟨f, rfl⟩ : ∃ j, f = j + 1 := ⟨f - 1, by omega⟩
    have hy : 0 ≤ y ∧ y < rd M 83 1 := ⟨h1, by omega⟩
    have lb : F11_canLend m y c = some (if canL M y c = true then 1 else 0) := by
      rw [lo_F11_canLend (m := M) (m' := m) (fun i => rd_eq (ho _ _ (by unfold PL; omega) (by omega))) (fun i => rd_eq (ho _ _ (by unfold PL; omega) (by omega))) (fun i => rd_eq (ho _ _ (by unfold PL; omega) (by omega)))]
      exact (lends_b hI hy hc).2
    have al : F11_isAlike m y c k = some (if FLL M y k = FLL M c k then 1 else 0) := by
      unfold F11_isAlike
      rw [w32_id (x := 16 * y) (by omega) (by omega), w32_id (x := 16 * y + k) (by omega) (by omega), w32_id (x := 16 * c) (by omega) (by omega), w32_id (x := 16 * c + k) (by omega) (by omega), gd_t (by omega), gd_t (by omega), hf y hy.1 hy.2, hf c hc.1 hc.2]
      by_cases a : FLL M y k = FLL M c k
      · rw [if_neg (by omega), if_pos a]
      · rw [if_pos a, if_neg a]
    obtain ⟨nx, ny⟩ := ih f (y + 1) (by omega) (by omega) (by omega)
    rw [L11_from_53, L11_canBorrow_2, e1, if_neg (by omega), if_neg (by omega), lb, al, b1_v, b1_v, w32_id (x := y + 1) (by omega) (by omega), nx, ny]
    rw [LLf_e]
    simp only [jn_v, b1_v]
    have one : ¬ ((1 : Int) = 0) := by omega
    by_cases b : canL M y c = true
    · by_cases a : FLL M y k = FLL M c k
      · have ab : FLL M y k = FLL M c k ∧ canL M y c = true := ⟨a, b⟩
        simp only [if_pos b, if_pos a, if_pos ab, if_neg one, if_pos hy.1]; exact ⟨trivial, trivial⟩
      · have ab : ¬ (FLL M y k = FLL M c k ∧ canL M y c = true) := fun z => a z.1
        simp only [if_pos b, if_neg a, if_neg ab, if_neg one]; exact ⟨rfl, rfl⟩
    · have ab : ¬ (FLL M y k = FLL M c k ∧ canL M y c = true) := fun z => b z.2
      simp only [if_neg b, if_neg ab]; exact ⟨rfl, rfl⟩
