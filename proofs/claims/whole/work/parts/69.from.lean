def stM (m : Mem) (f g : Int) : Int := stp (rd m 90 0) (rd m 90 1) (rd m 90 2) f g
theorem stM_s {m m' : Mem} (h : Sm m m') (f g : Int) : stM m' f g = stM m f g := by
  unfold stM; rw [Sm_r h (show PS 90 0 by unfold PS; omega), Sm_r h (show PS 90 1 by unfold PS; omega), Sm_r h (show PS 90 2 by unfold PS; omega)]
theorem stM_b {n : Nat} {m : Mem} (hI : Inv n m) (f g : Int) : 0 ≤ stM m f g ∧ stM m f g ≤ 99 := by
  have c2 := hI.2.1.2.1
  exact stp_b (c2 0 (by omega) (by omega)).2 (c2 1 (by omega) (by omega)).2 (c2 2 (by omega) (by omega)).2
/-- what a clause costs from the mother -/
def paidV (m : Mem) (c k : Int) : Int := if rd m 88 c < 0 then 0 else stM m (FLL m (rd m 88 c) k) (FLL m c k)
theorem paidV_s {m m' : Mem} (h : Sm m m') (c k : Int) : paidV m' c k = paidV m c k := by
  unfold paidV; rw [Sm_r h (show PS 88 c by unfold PS; omega), stM_s h, FLL_s h, FLL_s h]
theorem mo_in {n : Nat} {m : Mem} (hI : Inv n m) {c : Int} (hc : 0 ≤ c ∧ c < rd m 83 1) : -1 ≤ rd m 88 c ∧ rd m 88 c < rd m 83 1 := (ac_now hI.2.2.2.1 hI.2.2.2.2.1).1 c hc.1 hc.2
theorem ff_e {M m : Mem} {k w : Int} (hC : rd M 83 1 ≤ 12) (hk : 0 ≤ k ∧ k < 16) (hf : ∀ w, 0 ≤ w → w < rd M 83 1 → rd m 27 (16 * w + k) = FLL M w k) (w0 : 0 ≤ w) (w1 : w < rd M 83 1) : F4_filledForm m w k = some (FLL M w k) := by
  unfold F4_filledForm
  rw [formCell_e w0 (by omega) hk.1 (by omega), gd_t (by omega), hf w w0 w1]
theorem paid_e {n : Nat} {M m : Mem} (hI : Inv n M) {c k : Int} (hc : 0 ≤ c ∧ c < rd M 83 1) (hk : 0 ≤ k ∧ k < 16) (hg : Gr M m 14 (rd M 83 1)) (ho : ∀ j i, ¬ (14 ≤ j ∧ j ≤ 30) → m j i = M j i) (hf : ∀ w, 0 ≤ w → w < rd M 83 1 → rd m 27 (16 * w + k) = FLL M w k) : F4_paid m c k = some (paidV M c k) := by
  have a12 : rd M 83 1 ≤ 12 := hI.1.2.1
  have mi := mo_in hI hc
  have c2 := hI.2.1.2.1
  unfold F4_paid paidV
  rw [motherOf_e hc.1 (by omega), rd_eq (ho 9 _ (by omega)), hI.2.1.2.2 c hc.1 hc.2, b1_v]
  by_cases a : rd M 88 c < 0
  · rw [if_neg (by omega), if_pos a]
  · have f1 := FLL_b M (rd M 88 c) k
    have f2 := FLL_b M c k
    rw [if_pos (by omega), if_neg a, ff_e a12 hk hf (by omega) mi.2, b1_v, ff_e a12 hk hf hc.1 hc.2, b1_v]
    unfold F9_stepOf
    rw [w32_id (x := FLL M (rd M 88 c) k * 4) (by omega) (by omega), w32_id (x := FLL M (rd M 88 c) k * 4 + FLL M c k) (by omega) (by omega), gd_t (by omega), b1_v, show FLL M (rd M 88 c) k * 4 + FLL M c k = 4 * FLL M (rd M 88 c) k + FLL M c k by omega, hg.2.2.1 _ _ f1.1 f1.2 f2.1 f2.2]
    unfold stM
    rw [← (c2 0 (by omega) (by omega)).1, ← (c2 1 (by omega) (by omega)).1, ← (c2 2 (by omega) (by omega)).1]
    rfl
theorem baseOf_e {n : Nat} {M m : Mem} (hI : Inv n M) {c k : Int} (hc : 0 ≤ c ∧ c < rd M 83 1) (hp : 0 ≤ rd M 88 c) (hk : 0 ≤ k ∧ k < 16) (ho : ∀ j i, ¬ PL j i → ¬ (107 ≤ j ∧ j ≤ 110) → m j i = M j i) (hf : ∀ w, 0 ≤ w → w < rd M 83 1 → rd m 107 (16 * w + k) = FLL M w k) : F11_baseOf m c k = some (paidV M c k) := by
  have a12 : rd M 83 1 ≤ 12 := hI.1.2.1
  have mi := mo_in hI hc
  have r : ∀ j i, ¬ PL j i → ¬ (107 ≤ j ∧ j ≤ 110) → rd m j i = rd M j i := fun j i a b => rd_eq (ho j i a b)
  unfold F11_baseOf paidV
  rw [gd_t (by omega), r 88 c (by unfold PL; omega) (by omega), w32_id (x := 16 * rd M 88 c) (by omega) (by omega), w32_id (x := 16 * rd M 88 c + k) (by omega) (by omega), w32_id (x := 16 * c) (by omega) (by omega), w32_id (x := 16 * c + k) (by omega) (by omega), gd_t (by omega), gd_t (by omega), hf _ hp mi.2, hf c hc.1 hc.2, priceOf_e, b1_v, r 90 0 (by unfold PL; omega) (by omega), r 90 1 (by unfold PL; omega) (by omega), r 90 2 (by unfold PL; omega) (by omega), if_neg (by omega)]
  rfl
def fromV (m : Mem) (c k : Int) : Int := if 0 ≤ c ∧ c < rd m 83 1 then (if 0 ≤ k ∧ k < 16 then (if paidV m c k ≤ rd m 90 3 then -2 else LL m c k) else -1) else -1
theorem fromV_s {m m' : Mem} (h : Sm m m') (c k : Int) : fromV m' c k = fromV m c k := by
  unfold fromV; rw [Sm_r h (show PS 83 1 by unfold PS; omega), Sm_r h (show PS 90 3 by unfold PS; omega), paidV_s h, LL_s h]
theorem Sm_14 {m m' : Mem} (h : ∀ k i, ¬ (14 ≤ k ∧ k ≤ 30) → m' k i = m k i) : Sm m m' := fun k i q => h k i (by unfold PS at q; omega)
theorem PL_sm7 {m m' : Mem} (h : ∀ k i, ¬ PL k i → k ≠ 107 → m' k i = m k i) : Sm m m' := fun k i q => h k i (by unfold PS at q; unfold PL; omega) (by unfold PS at q; omega)
theorem st_from {n : Nat} {m : Mem} (c k : Int) (hI : Inv n m) : Sq n (fun m => F10_from m c k) (fun m => F11_from m c k) m := by
  refine Sq_sm (v := fun m => fromV m c k) hI ?_ (fun m1 h => ?_) (fun m1 h => fromV_s h c k)
  · unfold F10_from fromV
    simp only [jn_v]
    rw [F1_has_e, hI.1.2.2.1, F10_isClause_e]
    by_cases a : 0 ≤ c ∧ c < rd m 83 1
    · rw [if_pos a, if_neg (by rw [bz_0]; exact fun z => z a)]
      by_cases b : 0 ≤ k ∧ k < 16
      · obtain ⟨m1, x1, y1, z1⟩ := grow14 hI
        obtain ⟨m2, x2, y2, z2, w2, v2⟩ := fillC_e hI b y1 (fun j i q => z1 j i (by omega))
        have c3 : F1_costOf m2 3 = some (rd m 90 3) := by
          rw [costOf_e (by omega) (by omega), rd_eq (z2 9 _ (by omega)), (hI.2.1.2.1 3 (by omega) (by omega)).1]
        have ll : F4_leastLender m2 c k = some (LL m c k) := L4_ll hI a b (fun j i q => z2 j i (by omega)) v2 (rd m 83 1).toNat FU 0 (by have := hI.1.1; omega) (by omega) (by rw [FU_eq]; have := hI.1.2.1; omega)
        have s2 : Sm m m2 := Sm_14 (fun k i q => z2 k i (by omega))
        rw [if_pos b, if_pos (by rw [bz_n]; exact b)]
        unfold F4_lender
        rw [x1, b1_v, x2, b1_v, paid_e hI a b y2 (fun j i q => z2 j i (by omega)) v2, b1_v, c3, b1_v, jn_v]
        by_cases d : paidV m c k ≤ rd m 90 3
        · rw [if_pos d, if_pos d]; dsimp only; rw [if_pos rfl, b2_v]; exact ⟨m2, rfl, s2⟩
        · rw [if_neg d, if_neg d]; dsimp only; rw [if_neg (show ¬ ((1 : Int) = 0) by omega), ll, b1_v, b2_v]; exact ⟨m2, rfl, s2⟩
      · rw [if_neg b, if_neg (by rw [bz_n]; exact b)]
        exact ⟨m, rfl, fun _ _ _ => rfl⟩
    · rw [if_neg a, if_pos (by rw [bz_0]; exact a)]
      exact ⟨m, rfl, fun _ _ _ => rfl⟩
  · unfold F11_from fromV
    rw [F11_isCharter_e m1 c h.1.1, F11_isClause_e]
    by_cases a : 0 ≤ c ∧ c < rd m1 83 1
    · have a12 := h.1.2.1
      rw [if_pos a, if_neg (by rw [bz_0]; exact fun z => z a)]
      by_cases b : 0 ≤ k ∧ k < 16
      · rw [if_pos b, if_pos (by rw [bz_n]; exact b), gd_t (by omega)]
        have p3 := (h.2.1.2.1 3 (by omega) (by omega)).2
        by_cases d : 0 ≤ rd m1 88 c
        · obtain ⟨m2, x2, y2, z2⟩ := rfill_e h
          have hf : ∀ w, 0 ≤ w → w < rd m1 83 1 → rd m2 107 (16 * w + k) = FLL m1 w k := fun w w0 w1 => z2 w k w0 w1 b.1 b.2
          have ll := (L11_fr h a b (fun j i p q => y2 j i p (by omega)) hf (rd m1 83 1).toNat FU 0 (by have := h.1.1; omega) (by omega) (by rw [FU_eq]; have := h.1.2.1; omega)).1
          rw [if_pos d, x2, b1_v, baseOf_e h a d b (fun j i p q => y2 j i p (by omega)) hf, b1_v, gd_t (by omega), rd_eq (y2 90 3 (by unfold PL; omega) (by omega))]
          by_cases e : paidV m1 c k ≤ rd m1 90 3
          · rw [if_neg (by omega), if_pos e]; exact ⟨m2, rfl, PL_sm7 y2⟩
          · rw [if_pos (by omega), if_neg e, ll]; exact ⟨m2, rfl, PL_sm7 y2⟩
        · have : paidV m1 c k = 0 := if_pos (by omega)
          rw [if_neg d, if_pos (by omega)]
          exact ⟨m1, rfl, fun _ _ _ => rfl⟩
      · rw [if_neg b, if_neg (by rw [bz_n]; exact b)]
        exact ⟨m1, rfl, fun _ _ _ => rfl⟩
    · rw [if_neg a, if_pos (by rw [bz_0]; exact a)]
      exact ⟨m1, rfl, fun _ _ _ => rfl⟩
/-! came in -/
def CIf (M : Mem) (k F : Int) : Nat → Int → Int
  | 0, x => x
  | d + 1, x => if rd M 88 x < 0 ∨ FLL M (rd M 88 x) k ≠ F then x else CIf M k F d (rd M 88 x)
theorem CIf_s {m m' : Mem} (h : Sm m m') (k F : Int) : ∀ (d : Nat) (x : Int), CIf m' k F d x = CIf m k F d x
  | 0, _ => rfl
  | d + 1, x => by
    unfold CIf
    rw [Sm_r h (show PS 88 x by unfold PS; omega), FLL_s h, CIf_s h k F d]
theorem CIf_z {M : Mem} {k F x : Int} (h : rd M 88 x < 0) : ∀ d, CIf M k F d x = x
  | 0 => rfl
  | d + 1 => if_pos (Or.inl h)
theorem L4_so {n : Nat} {M m : Mem} (hI : Inv n M) {k F : Int} (hk : 0 ≤ k ∧ k < 16) (ho : ∀ j i, ¬ (14 ≤ j ∧ j ≤ 30) → m j i = M j i) (hf : ∀ w, 0 ≤ w → w < rd M 83 1 → rd m 27 (16 * w + k) = FLL M w k) {rk : Int → Nat} (hr : ∀ c, 0 ≤ c → c < rd M 83 1 → 0 ≤ rd M 88 c → rk (rd M 88 c) < rk c) : ∀ (d f : Nat) (x t : Int), 0 ≤ x → x < rd M 83 1 → rk x ≤ d → 0 ≤ t → t + d < 12 → d < f → L4_source_36 m k F (fun v => some (v, m)) f x t = some (CIf M k F d x, m) := by
  have a12 : rd M 83 1 ≤ 12 := hI.1.2.1
  intro d
  induction d with
  | zero =>
    intro f x t x0 x1 hx t0 t1 hf'
    obtain ⟨f, rfl⟩ : ∃ j, f = j + 1 := ⟨f - 1, by omega⟩
    have : rd M 88 x < 0 := by
      by_cases z : 0 ≤ rd M 88 x
      · have := hr x x0 x1 z; omega
      · omega
    rw [L4_source_36, if_neg (by omega), motherOf_e x0 (by omega), rd_eq (ho 9 _ (by omega)), hI.2.1.2.2 x x0 x1, b1_v, if_pos this]; rfl
  | succ d ih =>
    intro f x t x0 x1 hx t0 t1 hf'
    obtain ⟨f, rfl⟩ : ∃ j, f = j + 1 := ⟨f - 1, by omega⟩
    have mi := mo_in hI ⟨x0, x1⟩
    rw [L4_source_36, if_neg (by omega), motherOf_e x0 (by omega), rd_eq (ho 9 _ (by omega)), hI.2.1.2.2 x x0 x1, b1_v]
    unfold CIf
    by_cases a : rd M 88 x < 0
    · rw [if_pos a, if_pos (Or.inl a)]
    · rw [if_neg a, ff_e a12 hk hf (by omega) mi.2, b1_v]
      by_cases b : FLL M (rd M 88 x) k = F
      · rw [if_pos b, if_neg (by omega), w32_id (x := t + 1) (by omega) (by omega)]
        have := hr x x0 x1 (by omega)
        exact ih f _ (t + 1) (by omega) mi.2 (by omega) (by omega) (by omega) (by omega)
      · rw [if_neg b, if_pos (Or.inr b)]
theorem L11_ci {n : Nat} {M m : Mem} (hI : Inv n M) {c k : Int} (hc : 0 ≤ c ∧ c < rd M 83 1) (hk : 0 ≤ k ∧ k < 16) (ho : ∀ j i, ¬ PL j i → ¬ (107 ≤ j ∧ j ≤ 110) → m j i = M j i) (hf : ∀ w, 0 ≤ w → w < rd M 83 1 → rd m 107 (16 * w + k) = FLL M w k) {rk : Int → Nat} (hr : ∀ c, 0 ≤ c → c < rd M 83 1 → 0 ≤ rd M 88 c → rk (rd M 88 c) < rk c) : ∀ (d f : Nat) (x : Int), 0 ≤ x → x < rd M 83 1 → rk x ≤ d → d < f → L11_cameIn_40 m c k f x = some (CIf M k (FLL M c k) d x, m) := by
  have a12 : rd M 83 1 ≤ 12 := hI.1.2.1
  intro d
  induction d with
  | zero =>
    intro f x x0 x1 hx hf'
    obtain ⟨f, rfl⟩ : ∃ j, f = j + 1 := ⟨f - 1, by omega⟩
    have : rd M 88 x < 0 := by
      by_cases z : 0 ≤ rd M 88 x
      · have := hr x x0 x1 z; omega
      · omega
    rw [L11_cameIn_40, gd_t (by omega), rd_eq (ho 88 x (by unfold PL; omega) (by omega)), if_pos this]; rfl
  | succ d ih =>
    intro f x x0 x1 hx hf'
    obtain ⟨f, rfl⟩ : ∃ j, f = j + 1 := ⟨f - 1, by omega⟩
    have mi := mo_in hI ⟨x0, x1⟩
    rw [L11_cameIn_40, gd_t (by omega), rd_eq (ho 88 x (by unfold PL; omega) (by omega))]
    unfold CIf
    by_cases a : rd M 88 x < 0
    · rw [if_pos a, if_pos (Or.inl a)]
    · have al : F11_isAlike m (rd M 88 x) c k = some (if FLL M (rd M 88 x) k = FLL M c k then 1 else 0) := by
        unfold F11_isAlike
        rw [w32_id (x := 16 * rd M 88 x) (by omega) (by omega), w32_id (x := 16 * rd M 88 x + k) (by omega) (by omega), w32_id (x := 16 * c) (by omega) (by omega), w32_id (x := 16 * c + k) (by omega) (by omega), gd_t (by omega), gd_t (by omega), hf _ (by omega) mi.2, hf c hc.1 hc.2]
        by_cases a : FLL M (rd M 88 x) k = FLL M c k
        · rw [if_neg (by omega), if_pos a]
        · rw [if_pos a, if_neg a]
      rw [if_neg a, gd_t (by omega), al, b1_v, gd_t (by omega)]
      by_cases b : FLL M (rd M 88 x) k = FLL M c k
      · rw [if_pos b, if_neg (show ¬ ((1 : Int) = 0) by omega), if_neg (by omega)]
        have := hr x x0 x1 (by omega)
        exact ih f _ (by omega) mi.2 (by omega) (by omega)
      · rw [if_neg b, if_pos rfl, if_pos (Or.inr b)]
def cameV (m : Mem) (c k : Int) : Int := if 0 ≤ c ∧ c < rd m 83 1 then (if 0 ≤ k ∧ k < 16 then (if FLL m c k = 0 then -2 else CIf m k (FLL m c k) 11 c) else -1) else -1
theorem cameV_s {m m' : Mem} (h : Sm m m') (c k : Int) : cameV m' c k = cameV m c k := by
  unfold cameV; rw [Sm_r h (show PS 83 1 by unfold PS; omega), FLL_s h, CIf_s h]
theorem rk_of {n : Nat} {m : Mem} (hI : Inv n m) : ∃ rk : Int → Nat, (∀ c, 0 ≤ c → c < rd m 83 1 → 0 ≤ rd m 88 c → rk (rd m 88 c) < rk c) ∧ ∀ c, 0 ≤ c → c < rd m 83 1 → rk c < 12 := acyc_b hI.1.2.1 (ac_now hI.2.2.2.1 hI.2.2.2.2.1)
theorem st_cameIn {n : Nat} {m : Mem} (c k : Int) (hI : Inv n m) : Sq n (fun m => F10_cameIn m c k) (fun m => F11_cameIn m c k) m := by
  refine Sq_sm (v := fun m => cameV m c k) hI ?_ (fun m1 h => ?_) (fun m1 h => cameV_s h c k)
  · unfold F10_cameIn cameV
    simp only [jn_v]
    rw [F1_has_e, hI.1.2.2.1, F10_isClause_e]
    by_cases a : 0 ≤ c ∧ c < rd m 83 1
    · rw [if_pos a, if_neg (by rw [bz_0]; exact fun z => z a)]
      by_cases b : 0 ≤ k ∧ k < 16
      · obtain ⟨m1, x1, y1, z1⟩ := grow14 hI
        obtain ⟨m2, x2, y2, z2, w2, v2⟩ := fillC_e hI b y1 (fun j i q => z1 j i (by omega))
        have s2 : Sm m m2 := Sm_14 (fun k i q => z2 k i (by omega))
        obtain ⟨rk, r1, r2⟩ := rk_of hI
        rw [if_pos b, if_pos (by rw [bz_n]; exact b)]
        unfold F4_source
        rw [x1, b1_v, x2, b1_v, ff_e hI.1.2.1 b v2 a.1 a.2, b1_v]
        by_cases d : FLL m c k = 0
        · rw [if_neg (by omega), if_pos d, b2_v]; exact ⟨m2, rfl, s2⟩
        · rw [if_pos d, if_neg d, L4_so hI b (fun j i q => z2 j i (by omega)) v2 r1 11 FU c 0 a.1 a.2 (by have := r2 c a.1 a.2; omega) (by omega) (by omega) (by rw [FU_eq]; omega), b2_v]; exact ⟨m2, rfl, s2⟩
      · rw [if_neg b, if_neg (by rw [bz_n]; exact b)]
        exact ⟨m, rfl, fun _ _ _ => rfl⟩
    · rw [if_neg a, if_pos (by rw [bz_0]; exact a)]
      exact ⟨m, rfl, fun _ _ _ => rfl⟩
  · unfold F11_cameIn cameV
    rw [F11_isCharter_e m1 c h.1.1, F11_isClause_e]
    by_cases a : 0 ≤ c ∧ c < rd m1 83 1
    · have a12 := h.1.2.1
      rw [if_pos a, if_neg (by rw [bz_0]; exact fun z => z a)]
      by_cases b : 0 ≤ k ∧ k < 16
      · obtain ⟨m2, x2, y2, z2⟩ := rfill_e h
        have hf : ∀ w, 0 ≤ w → w < rd m1 83 1 → rd m2 107 (16 * w + k) = FLL m1 w k := fun w w0 w1 => z2 w k w0 w1 b.1 b.2
        obtain ⟨rk, r1, r2⟩ := rk_of h
        rw [if_pos b, if_pos (by rw [bz_n]; exact b), x2, b1_v, w32_id (x := 16 * c) (by omega) (by omega), w32_id (x := 16 * c + k) (by omega) (by omega), gd_t (by omega), hf c a.1 a.2]
        by_cases d : FLL m1 c k = 0
        · rw [if_neg (by omega), if_pos d]; exact ⟨m2, rfl, PL_sm7 y2⟩
        · rw [if_pos d, if_neg d, L11_ci h a b (fun j i p q => y2 j i p (by omega)) hf r1 11 FU c a.1 a.2 (by have := r2 c a.1 a.2; omega) (by rw [FU_eq]; omega)]; exact ⟨m2, rfl, PL_sm7 y2⟩
      · rw [if_neg b, if_neg (by rw [bz_n]; exact b)]
        exact ⟨m1, rfl, fun _ _ _ => rfl⟩
    · rw [if_neg a, if_pos (by rw [bz_0]; exact a)]
      exact ⟨m1, rfl, fun _ _ _ => rfl⟩
