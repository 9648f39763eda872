/-! what the class makes ready for the search: the kinds of clauses, weights, torn clauses, bounds -/
theorem fpB_e {M : Mem} {k v : Int} : ∀ j : Nat, fpB M k v j = true ↔ ∃ i : Nat, i < j ∧ rd M 89 (16 * rd M 103 (i : Int) + k) = v
  | 0 => ⟨fun h => (by cases h), fun ⟨i, h, _⟩ => (by omega)⟩
  | j + 1 => by
    have ih := fpB_e (M := M) (k := k) (v := v) j
    show (fpB M k v j || decide (rd M 89 (16 * rd M 103 (j : Int) + k) = v)) = true ↔ _
    rw [Bool.or_eq_true, decide_eq_true_iff, ih]
    constructor
    · rintro (⟨i, a, b⟩ | h)
      · exact ⟨i, by omega, b⟩
      · exact ⟨j, by omega, h⟩
    · rintro ⟨i, a, b⟩
      by_cases z : i = j
      · rw [z] at b; exact Or.inr b
      · exact Or.inl ⟨i, by omega, b⟩
def n4 (a b c d : Bool) : Int := (if a then 1 else 0) + n3 b c d
theorem pat_n4 : ∀ a b c d : Bool, FJ6_bitCount_0f7a4 (bs (pat a b c d) 4) = n4 a b c d := by decide +kernel
theorem n4_one : ∀ a b c d : Bool, n4 a b c d < 2 → ∃ f : Fin 4, ∀ g : Fin 4, pat a b c d ((g : Nat) : Int) = true → g = f := by decide +kernel
def KD (M : Mem) (N : Nat) (k : Int) : Int := if n4 (fpB M k 0 N) (fpB M k 1 N) (fpB M k 2 N) (fpB M k 3 N) < 2 then 0 else if fpB M k 9 N = true then 1 else 2
def td (M : Mem) (i : Nat) (k : Int) : Int := rd M 89 (16 * rd M 103 (i : Int) + k)
def pq (M : Mem) : Int → Int → Int := stp (rd M 90 0) (rd M 90 1) (rd M 90 2)
def Wt (M : Mem) (N k0 : Nat) (i j : Nat) : Int := sm (fun k => if KD M N k = 2 then pq M (td M i k) (td M j k) else 0) k0
theorem pq_b {n : Nat} {M : Mem} (hI : Inv n M) (f g : Int) : 0 ≤ pq M f g ∧ pq M f g ≤ 99 := stp_b (co_r hI (by omega) (by omega)).2 (co_r hI (by omega) (by omega)).2 (co_r hI (by omega) (by omega)).2
theorem Wt_b {n : Nat} {M : Mem} (hI : Inv n M) (N k0 i j : Nat) : 0 ≤ Wt M N k0 i j ∧ Wt M N k0 i j ≤ 99 * k0 := sm_b k0 (fun k _ => by
  have := pq_b hI (td M i k) (td M j k)
  split <;> omega)
theorem KD_2 {n : Nat} {M : Mem} (hI : Inv n M) {N : Nat} (hN : rd M 31 2 = (N : Int)) {k : Int} (k0 : 0 ≤ k) (k1 : k < 16) (h : KD M N k = 2) {i : Nat} (hi : i < N) : 0 ≤ td M i k ∧ td M i k < 4 := by
  have f := (li_f hI hN (v := (i : Int)) (by omega) (by omega) k0 k1).2
  have : ¬ fpB M k 9 N = true := fun z => by
    unfold KD at h
    rw [if_pos z] at h
    split at h <;> omega
  rcases f with f | f
  · exact f
  · exact absurd ((fpB_e N).mpr ⟨i, hi, f⟩) this
/-- what the making ready reads -/
def HM (M m : Mem) (N : Nat) : Prop := rd m 31 2 = (N : Int) ∧ (∀ i, rd m 44 i = rd M 44 i) ∧ (∀ i, rd m 9 i = rd M 9 i) ∧ ∀ f g, 0 ≤ f → f < 4 → 0 ≤ g → g < 4 → rd m 40 (4 * f + g) = pq M f g
theorem HM_s {M m m' : Mem} {N : Nat} (h : HM M m N) (g2 : rd m' 31 2 = rd m 31 2) (g44 : ∀ i, rd m' 44 i = rd m 44 i) (g9 : ∀ i, rd m' 9 i = rd m 9 i) (g40 : ∀ i, rd m' 40 i = rd m 40 i) : HM M m' N :=
  ⟨by rw [g2]; exact h.1, fun i => by rw [g44]; exact h.2.1 i, fun i => by rw [g9]; exact h.2.2.1 i, fun f g a b c d => by rw [g40]; exact h.2.2.2 f g a b c d⟩
theorem td_e {n : Nat} {M m : Mem} (hI : Inv n M) {N : Nat} (hN : rd M 31 2 = (N : Int)) (h44 : ∀ i, rd m 44 i = rd M 44 i) (h9 : ∀ i, rd m 9 i = rd M 9 i) {k : Int} (k0 : 0 ≤ k) (k1 : k < 16) {i : Nat} (hi : i < N) : F1_told m (rd m 44 (i : Int)) k = some (td M i k) := by
  have l := li_r hI hN (v := (i : Int)) (by omega) (by omega)
  have f := li_f hI hN (v := (i : Int)) (by omega) (by omega) k0 k1
  rw [h44, l.1, told_e l.2.1 (by omega) k0 k1, h9, f.1]; rfl
theorem tf_m {n : Nat} {M m : Mem} (hI : Inv n M) {N : Nat} (hN : rd M 31 2 = (N : Int)) (h2 : rd m 31 2 = (N : Int)) (h44 : ∀ i, rd m 44 i = rd M 44 i) (h9 : ∀ i, rd m 9 i = rd M 9 i) {k : Int} (k0 : 0 ≤ k) (k1 : k < 16) : F0_toldForms m k = some (pk M k N) := by
  rw [lo_F0_toldForms (m := M) (by rw [h2, hN]) h44 h9]
  exact tf_e hI ⟨k0, k1⟩ hN
theorem L0_sc15 {n : Nat} {M m : Mem} (hI : Inv n M) {N : Nat} (hN : rd M 31 2 = (N : Int)) (h6 : N ≤ 6) (hm : HM M m N) {k : Int} (k0 : 0 ≤ k) (k1 : k < 16) {x y : Option Mem} : ∀ (d t j : Nat), j + d = N → d < t → fpB M k 9 j = false → L0_sortClause_15 m k x y t (j : Int) = if fpB M k 9 N = true then y else x := by
  obtain ⟨a2, a44, a9, _⟩ := hm
  intro d
  induction d with
  | zero =>
    intro t j h0 h1 h
    obtain ⟨t, rfl⟩ : ∃ i, t = i + 1 := ⟨t - 1, by omega⟩
    rw [L0_sortClause_15, a2, if_pos (by omega), show N = j by omega, h, if_neg (by decide)]
  | succ d ih =>
    intro t j h0 h1 h
    obtain ⟨t, rfl⟩ : ∃ i, t = i + 1 := ⟨t - 1, by omega⟩
    have e : fpB M k 9 (j + 1) = (fpB M k 9 j || decide (rd M 89 (16 * rd M 103 (j : Int) + k) = 9)) := rfl
    rw [L0_sortClause_15, a2, if_neg (by omega), gd_t (by omega), td_e hI hN a44 a9 k0 k1 (by omega), b1_v, w32_id (x := (j : Int) + 1) (by omega) (by omega), show (j : Int) + 1 = ((j + 1 : Nat) : Int) by omega]
    by_cases z : td M j k = 9
    · rw [if_neg (fun q => q z), if_pos ((fpB_e N).mpr ⟨j, by omega, z⟩)]
    · rw [if_pos z]
      exact ih t (j + 1) (by omega) (by omega) (by rw [e, h, Bool.false_or]; exact decide_eq_false z)
/-- the weights: clauses below k in all, clause k for the pairs ahead of (a, b) -/
def WJ (M m : Mem) (N k a b : Nat) : Prop := ∀ i j : Nat, i < N → j < N → rd m 48 (6 * (i : Int) + (j : Int)) = if i < a ∨ (i = a ∧ j < b) then Wt M N (k + 1) i j else Wt M N k i j
theorem L0_sc81 {n : Nat} {M : Mem} (hI : Inv n M) {N : Nat} (hN : rd M 31 2 = (N : Int)) (h6 : N ≤ 6) {k : Nat} (hk : k < 16) (h2 : KD M N (k : Int) = 2) {a : Nat} (ha : a < N) {kk : Mem → Option Mem} : ∀ (d t b : Nat) (m : Mem), b + d = N → d < t → HM M m N → WJ M m N k a b →
    ∃ m', L0_sortClause_81 (k : Int) (a : Int) kk t (b : Int) m = kk m' ∧ (∀ k i, k ≠ 48 → m' k i = m k i) ∧ WJ M m' N k a N := by
  intro d
  induction d with
  | zero =>
    intro t b m h0 h1 hm hw
    obtain ⟨t, rfl⟩ : ∃ i, t = i + 1 := ⟨t - 1, by omega⟩
    rw [L0_sortClause_81, hm.1, if_pos (by omega)]
    exact ⟨m, rfl, fun _ _ _ => rfl, by rw [show N = b by omega] at hw ⊢; exact hw⟩
  | succ d ih =>
    intro t b m h0 h1 hm hw
    obtain ⟨t, rfl⟩ : ∃ i, t = i + 1 := ⟨t - 1, by omega⟩
    obtain ⟨a2, a44, a9, a40⟩ := hm
    have ta := KD_2 hI hN (k := (k : Int)) (by omega) (by omega) h2 ha
    have tb := KD_2 hI hN (k := (k : Int)) (by omega) (by omega) h2 (i := b) (by omega)
    have w := hw a b ha (by omega)
    rw [if_neg (by omega)] at w
    have wb := Wt_b hI N k a b
    have pb := pq_b hI (td M a k) (td M b k)
    have e1 : w32 (w32 ((a : Int) * 6) + (b : Int)) = 6 * (a : Int) + (b : Int) := by rw [w32_id (x := (a : Int) * 6) (by omega) (by omega), w32_id (by omega) (by omega)]; omega
    have st : F9_stepOf m 32 (td M a k) (td M b k) = some (pq M (td M a k) (td M b k)) := by
      unfold F9_stepOf
      rw [w32_id (x := td M a k * 4) (by omega) (by omega), w32_id (x := td M a k * 4 + td M b k) (by omega) (by omega), gd_t (by omega), show td M a k * 4 + td M b k = 4 * td M a k + td M b k by omega, a40 _ _ ta.1 ta.2 tb.1 tb.2]
    rw [L0_sortClause_81, a2, if_neg (by omega), gd_t (by omega), td_e hI hN a44 a9 (by omega) (by omega) ha, b1_v, gd_t (by omega), td_e hI hN a44 a9 (by omega) (by omega) (show b < N by omega), b1_v, st, b1_v, e1, gd_t (by omega), gd_t (by omega), stw_v, w, w32_id (x := Wt M N k a b + pq M (td M a k) (td M b k)) (by omega) (by omega), w32_id (x := (b : Int) + 1) (by omega) (by omega), show (b : Int) + 1 = ((b + 1 : Nat) : Int) by omega]
    obtain ⟨q, hq⟩ : ∃ q, q = wr m 48 (6 * (a : Int) + (b : Int)) (Wt M N k a b + pq M (td M a k) (td M b k)) := ⟨_, rfl⟩
    rw [← hq]
    have qo : ∀ k' i, k' ≠ 48 → q k' i = m k' i := fun k' i z => by rw [hq, wr_ki (by omega)]
    have ew : Wt M N (k + 1) a b = Wt M N k a b + pq M (td M a k) (td M b k) := by
      show Wt M N k a b + (if KD M N (k : Int) = 2 then pq M (td M a k) (td M b k) else 0) = _
      rw [if_pos h2]
    obtain ⟨m', x, y, z⟩ := ih t (b + 1) q (by omega) (by omega) (HM_s ⟨a2, a44, a9, a40⟩ (rd_eq (qo _ _ (by omega))) (fun i => rd_eq (qo _ _ (by omega))) (fun i => rd_eq (qo _ _ (by omega))) (fun i => rd_eq (qo _ _ (by omega)))) (fun i j hi hj => by
      by_cases u : i = a ∧ j = b
      · rw [u.1, u.2, if_pos (by omega), hq, rd_wr_s, ew]; exact w32_id (by omega) (by omega)
      · rw [hq, rd_wr_i (by omega), hw i j hi hj]
        by_cases v : i < a ∨ (i = a ∧ j < b)
        · rw [if_pos v, if_pos (by omega)]
        · rw [if_neg v, if_neg (by omega)])
    exact ⟨m', x, fun k' i u => by rw [y k' i u]; exact qo k' i u, z⟩
theorem L0_sc71 {n : Nat} {M : Mem} (hI : Inv n M) {N : Nat} (hN : rd M 31 2 = (N : Int)) (h6 : N ≤ 6) {k : Nat} (hk : k < 16) (h2 : KD M N (k : Int) = 2) : ∀ (d t a : Nat) (m : Mem), a + d = N → d < t → HM M m N → WJ M m N k a 0 →
    ∃ m', L0_sortClause_71 (k : Int) t (a : Int) m = some m' ∧ (∀ k i, k ≠ 48 → m' k i = m k i) ∧ WJ M m' N k N 0 := by
  intro d
  induction d with
  | zero =>
    intro t a m h0 h1 hm hw
    obtain ⟨t, rfl⟩ : ∃ i, t = i + 1 := ⟨t - 1, by omega⟩
    rw [L0_sortClause_71, hm.1, if_pos (by omega)]
    exact ⟨m, rfl, fun _ _ _ => rfl, by rw [show N = a by omega] at hw ⊢; exact hw⟩
  | succ d ih =>
    intro t a m h0 h1 hm hw
    obtain ⟨t, rfl⟩ : ∃ i, t = i + 1 := ⟨t - 1, by omega⟩
    rw [L0_sortClause_71, hm.1, if_neg (by omega)]
    obtain ⟨m1, x, y, z⟩ := L0_sc81 hI hN h6 hk h2 (a := a) (by omega) (kk := fun (m_148 : Mem) => L0_sortClause_71 (k : Int) t (w32 ((a : Int) + 1)) m_148) N FU 0 m (by omega) (by rw [FU_eq]; omega) hm hw
    rw [show ((0 : Int)) = ((0 : Nat) : Int) from rfl, x]
    try dsimp only
    rw [w32_id (x := (a : Int) + 1) (by omega) (by omega), show (a : Int) + 1 = ((a + 1 : Nat) : Int) by omega]
    obtain ⟨m', p, q, r⟩ := ih t (a + 1) m1 (by omega) (by omega) (HM_s hm (rd_eq (y _ _ (by omega))) (fun i => rd_eq (y _ _ (by omega))) (fun i => rd_eq (y _ _ (by omega))) (fun i => rd_eq (y _ _ (by omega)))) (fun i j hi hj => by
      rw [z i j hi hj]
      by_cases v : i < a ∨ (i = a ∧ j < N)
      · rw [if_pos v, if_pos (by omega)]
      · rw [if_neg v, if_neg (by omega)])
    exact ⟨m', p, fun k' i u => by rw [q k' i u]; exact y k' i u, r⟩
/-- the torn clauses below k, in a row -/
def TI (M m : Mem) (N k t : Nat) : Prop := rd m 31 12 = (t : Int) ∧ (∀ g : Int → Int, sm (fun i => g (rd m 49 i)) t = sm (fun k => if KD M N k = 1 then g k else 0) k) ∧ ∀ i : Nat, i < t → 0 ≤ rd m 49 (i : Int) ∧ rd m 49 (i : Int) < k ∧ KD M N (rd m 49 (i : Int)) = 1
theorem sm_n : ∀ t : Nat, sm (fun _ => 1) t = (t : Int)
  | 0 => rfl
  | t + 1 => by show sm (fun _ => 1) t + 1 = _; rw [sm_n t]; omega
theorem TI_le {M m : Mem} {N k t : Nat} (h : TI M m N k t) : t ≤ k := by
  have e := h.2.1 (fun _ => 1)
  rw [sm_n] at e
  have := sm_le (g := fun k => if KD M N k = 1 then (1 : Int) else 0) (h := fun _ => 1) k (fun i _ => by split <;> omega)
  rw [sm_n] at this
  omega
theorem TI_s {M m m' : Mem} {N k t : Nat} (h : TI M m N k t) (g12 : rd m' 31 12 = rd m 31 12) (g49 : ∀ i, rd m' 49 i = rd m 49 i) : TI M m' N k t :=
  ⟨by rw [g12]; exact h.1, fun g => by simp only [g49]; exact h.2.1 g, fun i hi => by rw [g49]; exact h.2.2 i hi⟩
def W0 (M m : Mem) (N k : Nat) : Prop := ∀ i j : Nat, i < N → j < N → rd m 48 (6 * (i : Int) + (j : Int)) = Wt M N k i j
theorem sort_e {n : Nat} {M m : Mem} (hI : Inv n M) {N : Nat} (hN : rd M 31 2 = (N : Int)) (h6 : N ≤ 6) {k t : Nat} (hk : k < 16) (hm : HM M m N) (hw : W0 M m N k) (ht : TI M m N k t) :
    ∃ m' t', F0_sortClause m (k : Int) = some m' ∧ (∀ k i, k ≠ 48 → k ≠ 49 → ¬ (k = 31 ∧ i = 12) → m' k i = m k i) ∧ W0 M m' N (k + 1) ∧ TI M m' N (k + 1) t' := by
  have hm' := hm
  obtain ⟨a2, a44, a9, a40⟩ := hm
  have eW : ∀ i j, Wt M N (k + 1) i j = Wt M N k i j + (if KD M N (k : Int) = 2 then pq M (td M i k) (td M j k) else 0) := fun i j => rfl
  have eT : ∀ g : Int → Int, sm (fun k => if KD M N k = 1 then g k else 0) (k + 1) = sm (fun k => if KD M N k = 1 then g k else 0) k + (if KD M N (k : Int) = 1 then g (k : Int) else 0) := fun g => rfl
  have same : KD M N (k : Int) ≠ 2 → W0 M m N (k + 1) := fun z i j hi hj => by rw [hw i j hi hj, eW, if_neg z]; omega
  have sameT : KD M N (k : Int) ≠ 1 → TI M m N (k + 1) t := fun z => ⟨ht.1, fun g => by rw [ht.2.1 g, eT, if_neg z]; omega, fun i hi => by have := ht.2.2 i hi; exact ⟨this.1, by omega, this.2.2⟩⟩
  unfold F0_sortClause
  rw [tf_m hI hN a2 a44 a9 (by omega) (by omega), b1_v]
  rw [show FJ6_bitCount_0f7a4 (pk M (k : Int) N) = n4 (fpB M k 0 N) (fpB M k 1 N) (fpB M k 2 N) (fpB M k 3 N) from pat_n4 _ _ _ _]
  by_cases z : n4 (fpB M k 0 N) (fpB M k 1 N) (fpB M k 2 N) (fpB M k 3 N) < 2
  · have kd : KD M N (k : Int) = 0 := by unfold KD; rw [if_pos z]
    rw [if_neg (by omega)]
    exact ⟨m, t, rfl, fun _ _ _ _ _ => rfl, same (by omega), sameT (by omega)⟩
  · rw [if_pos (by omega), show ((0 : Int)) = ((0 : Nat) : Int) from rfl, L0_sc15 hI hN h6 hm' (by omega) (by omega) N FU 0 (by omega) (by rw [FU_eq]; omega) rfl]
    by_cases y : fpB M (k : Int) 9 N = true
    · have kd : KD M N (k : Int) = 1 := by unfold KD; rw [if_neg z, if_pos y]
      have tl := TI_le ht
      have t12 := ht.1
      rw [if_pos y, t12, gd_t (by omega), stw_v, stw_v, rd_wr_k (by omega), t12, w32_id (by omega) (by omega)]
      refine ⟨_, t + 1, rfl, fun k' i u v w => by rw [wr_ki (by omega), wr_ki (by omega)], fun i j hi hj => ?_, ?_, fun g => ?_, fun i hi => ?_⟩
      · rw [rd_wr_k (by omega), rd_wr_k (by omega)]; exact same (by omega) i j hi hj
      · rw [rd_wr_s]; exact w32_id (by omega) (by omega)
      · rw [eT, if_pos kd, ← ht.2.1 g]
        show sm (fun i => g (rd (wr (wr m 49 t k) 31 12 (t + 1)) 49 i)) t + g (rd (wr (wr m 49 t k) 31 12 (t + 1)) 49 t) = _
        rw [rd_wr_k (by omega), rd_wr_s, w32_id (by omega) (by omega)]
        congr 1
        refine sm_c t (fun i x => ?_)
        rw [rd_wr_k (by omega), rd_wr_i (by omega)]
      · rw [rd_wr_k (by omega)]
        by_cases x : i = t
        · rw [x, rd_wr_s, w32_id (by omega) (by omega)]
          exact ⟨by omega, by omega, kd⟩
        · rw [rd_wr_i (by omega)]
          have := ht.2.2 i (by omega)
          exact ⟨this.1, by omega, this.2.2⟩
    · have kd : KD M N (k : Int) = 2 := by unfold KD; rw [if_neg z, if_neg y]
      rw [if_neg y]
      obtain ⟨m', p, q, r⟩ := L0_sc71 hI hN h6 hk kd N FU 0 m (by omega) (by rw [FU_eq]; omega) hm' (fun i j hi hj => by rw [if_neg (by omega)]; exact hw i j hi hj)
      refine ⟨m', t, p, fun k' i u v w => q k' i u, fun i j hi hj => ?_, TI_s (sameT (by omega)) (rd_eq (q _ _ (by omega))) (fun i => rd_eq (q _ _ (by omega)))⟩
      rw [r i j hi hj, if_pos (by omega)]
/-! what a torn clause costs at least -/
def EVx (a b c d : Bool) (e0 q : Int) : Int := ((if a then e0 else 0) + (if b then q else 0) + (if c then q else 0) + (if d then q else 0)) - max (if a then e0 else 0) (if b || c || d then q else 0)
def EV (M : Mem) (N : Nat) (k : Int) : Int := EVx (fpB M k 0 N) (fpB M k 1 N) (fpB M k 2 N) (fpB M k 3 N) (rd M 90 1) (min (rd M 90 0) (rd M 90 2))
theorem EVx_b (a b c d : Bool) {e0 q : Int} (h0 : 0 ≤ e0 ∧ e0 ≤ 99) (hq : 0 ≤ q ∧ q ≤ 99) : 0 ≤ EVx a b c d e0 q ∧ EVx a b c d e0 q ≤ 396 := by
  unfold EVx; cases a <;> cases b <;> cases c <;> cases d <;> simp <;> omega
theorem ent_e {n : Nat} {M m : Mem} (hI : Inv n M) {N : Nat} (h9 : ∀ i, rd m 9 i = rd M 9 i) (k : Int) : F0_entries m (pk M k N) = some (EV M N k) := by
  have c0 := co_r hI (k := 0) (by omega) (by omega)
  have c1 := co_r hI (k := 1) (by omega) (by omega)
  have c2 := co_r hI (k := 2) (by omega) (by omega)
  obtain ⟨t, ht⟩ : ∃ t, FU = t + 1 + 1 + 1 + 1 + 1 := ⟨99995, rfl⟩
  have st : ∀ (t : Nat) (s x : Int) (g : Fin 4) (kk : Int → Int → Option Int), L0_entries_7 m (pk M k N) kk (t + 1) s x ((g : Nat) : Int) = (if pat (fpB M k 0 N) (fpB M k 1 N) (fpB M k 2 N) (fpB M k 3 N) ((g : Nat) : Int) = true then L0_entries_7 m (pk M k N) kk t (w32 (s + (if ((g : Nat) : Int) = 0 then rd M 90 1 else min (rd M 90 0) (rd M 90 2)))) (max x (if ((g : Nat) : Int) = 0 then rd M 90 1 else min (rd M 90 0) (rd M 90 2))) (((g : Nat) : Int) + 1) else L0_entries_7 m (pk M k N) kk t s x (((g : Nat) : Int) + 1)) := by
    intro t s x g kk
    have gl := g.isLt
    rw [L0_entries_7, if_neg (by omega), costOf_e (by omega) (by omega), costOf_e (by omega) (by omega), costOf_e (by omega) (by omega)]
    simp only [jn_v, b1_v]
    rw [h9, h9, h9, c0.1, c1.1, c2.1, imn_e, w32_id (x := ((g : Nat) : Int) + 1) (by omega) (by omega), show band (shr (pk M k N) ((g : Nat) : Int)) 1 = if pat (fpB M k 0 N) (fpB M k 1 N) (fpB M k 2 N) (fpB M k 3 N) ((g : Nat) : Int) = true then 1 else 0 from bs_bit4 _ _ _ _ g]
    by_cases y : ((g : Nat) : Int) = 0
    · rw [if_neg (fun q => q y), if_pos y]
      by_cases z : pat (fpB M k 0 N) (fpB M k 1 N) (fpB M k 2 N) (fpB M k 3 N) ((g : Nat) : Int) = true
      · rw [if_pos z, if_pos z, if_neg (by omega), imx_e]
      · rw [if_neg z, if_neg z, if_pos rfl]
    · rw [if_pos y, if_neg y]
      by_cases z : pat (fpB M k 0 N) (fpB M k 1 N) (fpB M k 2 N) (fpB M k 3 N) ((g : Nat) : Int) = true
      · rw [if_pos z, if_pos z, if_neg (by omega), imx_e]
      · rw [if_neg z, if_neg z, if_pos rfl]
  have s0 := fun t s x kk => st t s x 0 kk
  have s1 := fun t s x kk => st t s x 1 kk
  have s2 := fun t s x kk => st t s x 2 kk
  have s3 := fun t s x kk => st t s x 3 kk
  have s4 : ∀ (t : Nat) (s x : Int) (kk : Int → Int → Option Int), L0_entries_7 m (pk M k N) kk (t + 1) s x 4 = kk s x := fun t s x kk => by rw [L0_entries_7, if_pos (by omega)]
  change ∀ t s x kk, L0_entries_7 m (pk M k N) kk (t + 1) s x 0 = (if fpB M k 0 N = true then L0_entries_7 m (pk M k N) kk t (w32 (s + rd M 90 1)) (max x (rd M 90 1)) 1 else L0_entries_7 m (pk M k N) kk t s x 1) at s0
  change ∀ t s x kk, L0_entries_7 m (pk M k N) kk (t + 1) s x 1 = (if fpB M k 1 N = true then L0_entries_7 m (pk M k N) kk t (w32 (s + min (rd M 90 0) (rd M 90 2))) (max x (min (rd M 90 0) (rd M 90 2))) 2 else L0_entries_7 m (pk M k N) kk t s x 2) at s1
  change ∀ t s x kk, L0_entries_7 m (pk M k N) kk (t + 1) s x 2 = (if fpB M k 2 N = true then L0_entries_7 m (pk M k N) kk t (w32 (s + min (rd M 90 0) (rd M 90 2))) (max x (min (rd M 90 0) (rd M 90 2))) 3 else L0_entries_7 m (pk M k N) kk t s x 3) at s2
  change ∀ t s x kk, L0_entries_7 m (pk M k N) kk (t + 1) s x 3 = (if fpB M k 3 N = true then L0_entries_7 m (pk M k N) kk t (w32 (s + min (rd M 90 0) (rd M 90 2))) (max x (min (rd M 90 0) (rd M 90 2))) 4 else L0_entries_7 m (pk M k N) kk t s x 4) at s3
  unfold F0_entries EV EVx
  rw [ht]
  generalize rd M 90 1 = e0 at *
  obtain ⟨q, hq⟩ : ∃ q, q = min (rd M 90 0) (rd M 90 2) := ⟨_, rfl⟩
  have qb : 0 ≤ q ∧ q ≤ 99 := by omega
  rw [← hq] at s1 s2 s3 ⊢
  simp only [s0, s1, s2, s3, s4]
  cases fpB M k 0 N <;> cases fpB M k 1 N <;> cases fpB M k 2 N <;> cases fpB M k 3 N <;> simp only [if_true, if_false, Bool.false_eq_true, Bool.or_true, Bool.or_false, Bool.true_or, Bool.false_or] <;> simp (disch := omega) only [w32_id] <;> congr 1 <;> omega
