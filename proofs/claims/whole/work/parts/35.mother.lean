/-! mothers: no ring, and a climb that ends -/
def cnt (p : Nat → Bool) : Nat → Nat
  | 0 => 0
  | k + 1 => cnt p k + if p k then 1 else 0
theorem cnt_le (p : Nat → Bool) : ∀ k, cnt p k ≤ k
  | 0 => Nat.le_refl _
  | k + 1 => by have := cnt_le p k; unfold cnt; split <;> omega
theorem cnt_mono {p q : Nat → Bool} : ∀ k, (∀ i, i < k → p i = true → q i = true) → cnt p k ≤ cnt q k
  | 0, _ => Nat.le_refl _
  | k + 1, h => by
    have := cnt_mono k (fun i x => h i (by omega))
    have h' := h k (by omega)
    unfold cnt
    by_cases a : p k = true
    · rw [if_pos a, if_pos (h' a)]; omega
    · rw [if_neg a]; omega
theorem cnt_lt {p q : Nat → Bool} : ∀ k j, j < k → (∀ i, i < k → p i = true → q i = true) → p j = false → q j = true → cnt p k < cnt q k
  | 0, j, hj, _, _, _ => by omega
  | k + 1, j, hj, h, a, b => by
    have h' := h k (by omega)
    unfold cnt
    by_cases e : j = k
    · subst e
      have := cnt_mono j (fun i x => h i (by omega))
      rw [a, b]
      simp only [Bool.false_eq_true, if_false, if_true]
      omega
    · have := cnt_lt k j (by omega) (fun i x => h i (by omega)) a b
      by_cases c : p k = true
      · rw [if_pos c, if_pos (h' c)]; omega
      · rw [if_neg c]; omega
theorem acyc_b {C : Int} {f : Int → Int} (hC : C ≤ 12) (h : acyc C f) : ∃ rk : Int → Nat, (∀ c, 0 ≤ c → c < C → 0 ≤ f c → rk (f c) < rk c) ∧ ∀ c, 0 ≤ c → c < C → rk c < 12 := by
  obtain ⟨a, rk, b⟩ := h
  refine ⟨fun c => cnt (fun i => decide (rk (i : Int) < rk c)) 12, fun c x y z => ?_, fun c x y => ?_⟩
  · have w := b c x y z
    have u := a c x y
    refine cnt_lt 12 (f c).toNat (by omega) (fun i _ p => ?_) ?_ ?_
    · have := of_decide_eq_true p
      exact decide_eq_true (by omega)
    · rw [show (((f c).toNat : Nat) : Int) = f c by omega]; exact decide_eq_false (by omega)
    · rw [show (((f c).toNat : Nat) : Int) = f c by omega]; exact decide_eq_true w
  · have := cnt_lt (p := fun i => decide (rk (i : Int) < rk c)) (q := fun _ => true) 12 c.toNat (by omega) (fun i _ _ => rfl) (by rw [show ((c.toNat : Nat) : Int) = c by omega]; exact decide_eq_false (by omega)) rfl
    have w := cnt_le (fun _ => true) 12
    dsimp only
    omega
/-- x is v, or a daughter's daughter.. of v -/
def un (f : Int → Int) (v : Int) : Nat → Int → Prop
  | 0, _ => False
  | n + 1, x => 0 ≤ x ∧ (x = v ∨ un f v n (f x))
theorem acyc_set {C v w : Int} {f : Int → Int} (h : acyc C f) (hv : 0 ≤ v) (hw : -1 ≤ w) (hw' : w < C) (hu : ¬ ∃ n, un f v n w) : acyc C (fun c => if c = v then w else f c) := by
  obtain ⟨a, rk, b⟩ := h
  classical
  refine ⟨fun c x y => ?_, fun c => if ∃ n, un f v n c then rk c + (rk w + 1) else rk c, fun c x y => ?_⟩
  · dsimp only; split
    · omega
    · exact a c x y
  · dsimp only
    by_cases e : c = v
    · rw [if_pos e]
      intro z
      rw [if_neg hu, if_pos ⟨1, x, Or.inl e⟩]; omega
    · rw [if_neg e]
      intro z
      have r := b c x y z
      have iff : (∃ n, un f v n (f c)) ↔ ∃ n, un f v n c := by
        constructor
        · rintro ⟨n, q⟩; exact ⟨n + 1, x, Or.inr q⟩
        · rintro ⟨n, q⟩
          cases n with
          | zero => exact absurd q (fun z => z)
          | succ n =>
            rcases q.2 with q | q
            · exact absurd q e
            · exact ⟨n, q⟩
      by_cases s : ∃ n, un f v n c
      · rw [if_pos (iff.mpr s), if_pos s]; omega
      · rw [if_neg (fun t => s (iff.mp t)), if_neg s]; exact r
theorem climb {n : Nat} {m : Mem} (hI : Inv n m) {v : Int} {rk : Int → Nat} (hr : ∀ c, 0 ≤ c → c < rd m 83 1 → 0 ≤ rd m 88 c → rk (rd m 88 c) < rk c) (hin : ∀ c, 0 ≤ c → c < rd m 83 1 → -1 ≤ rd m 88 c ∧ rd m 88 c < rd m 83 1) : ∀ (d : Nat) (x : Int), -1 ≤ x → x < rd m 83 1 → (0 ≤ x → rk x < d) →
    ∃ b : Int, (∀ k, d < k → L11_isAbove_2 m v k x = some b) ∧ (∀ k (t : Int), 0 ≤ t → t + d ≤ 12 → d < k → L1_isUnder_5 m v k x t = some b) ∧ ((b = 0 ∧ ¬ ∃ j, un (fun c => rd m 88 c) v j x) ∨ (b = 1 ∧ 0 ≤ x)) := by
  have hC := hI.1.2.1
  have neg : ∀ x : Int, x < 0 → ¬ ∃ j, un (fun c => rd m 88 c) v j x := by
    rintro x hx ⟨j, q⟩
    cases j with
    | zero => exact q
    | succ j => have := q.1; omega
  intro d
  induction d with
  | zero =>
    intro x h0 h1 h2
    refine ⟨0, fun k hk => ?_, fun k t a b hk => ?_, Or.inl ⟨rfl, neg x (by omega)⟩⟩
    · obtain ⟨k, rfl⟩ : ∃ i, k = i + 1 := ⟨k - 1, by omega⟩
      rw [L11_isAbove_2, if_pos (by omega)]
    · obtain ⟨k, rfl⟩ : ∃ i, k = i + 1 := ⟨k - 1, by omega⟩
      rw [L1_isUnder_5]
      by_cases c : 12 ≤ t
      · rw [if_pos c]
      · rw [if_neg c, if_pos (by omega)]
  | succ d ih =>
    intro x h0 h1 h2
    by_cases hx : x < 0
    · refine ⟨0, fun k hk => ?_, fun k t a b hk => ?_, Or.inl ⟨rfl, neg x hx⟩⟩
      · obtain ⟨k, rfl⟩ : ∃ i, k = i + 1 := ⟨k - 1, by omega⟩
        rw [L11_isAbove_2, if_pos (by omega)]
      · obtain ⟨k, rfl⟩ : ∃ i, k = i + 1 := ⟨k - 1, by omega⟩
        rw [L1_isUnder_5, if_neg (by omega), if_pos (by omega)]
    · by_cases e : x = v
      · refine ⟨1, fun k hk => ?_, fun k t a b hk => ?_, Or.inr ⟨rfl, by omega⟩⟩
        · obtain ⟨k, rfl⟩ : ∃ i, k = i + 1 := ⟨k - 1, by omega⟩
          rw [L11_isAbove_2, if_neg (by omega), if_neg (by omega)]
        · obtain ⟨k, rfl⟩ : ∃ i, k = i + 1 := ⟨k - 1, by omega⟩
          rw [L1_isUnder_5, if_neg (by omega), if_neg (by omega), if_neg (by omega)]
      · obtain ⟨u1, u2⟩ := hin x (by omega) h1
        obtain ⟨b, b1', b2', b3⟩ := ih (rd m 88 x) u1 u2 (fun z => by have := hr x (by omega) h1 z; have := h2 (by omega); omega)
        refine ⟨b, fun k hk => ?_, fun k t a c hk => ?_, ?_⟩
        · obtain ⟨k, rfl⟩ : ∃ i, k = i + 1 := ⟨k - 1, by omega⟩
          rw [L11_isAbove_2, if_neg (by omega), if_pos e, gd_t (by omega)]
          exact b1' k (by omega)
        · obtain ⟨k, rfl⟩ : ∃ i, k = i + 1 := ⟨k - 1, by omega⟩
          rw [L1_isUnder_5, if_neg (by omega), if_neg (by omega), if_pos e, motherOf_e (by omega) (by omega), hI.2.1.2.2 x (by omega) h1, b1_v, w32_id (by omega) (by omega)]
          exact b2' k (t + 1) (by omega) (by omega) (by omega)
        · rcases b3 with ⟨b3, b4⟩ | ⟨b3, b4⟩
          · left
            refine ⟨b3, ?_⟩
            rintro ⟨j, q⟩
            cases j with
            | zero => exact q
            | succ j =>
              rcases q.2 with q | q
              · exact e q
              · exact b4 ⟨j, q⟩
          · exact Or.inr ⟨b3, by omega⟩
theorem st_mother {n : Nat} {m : Mem} (v w : Int) (hI : Inv n m) (hn : n < 100000000) (hv : inR v) (hw : inR w) : Sq n (fun m => F10_mother m v w) (fun m => F11_mother m v w) m := by
  have hI' := hI
  have x4 : rd m 4 12 ≤ 16 * (n : Int) := hI.2.2.2.2.2.2.2.2.2.2.2.2.1
  have i1 := hI.1.1; have i2 := hI.1.2.1; have i3 := hI.1.2.2.1
  have hv1 := hv.1; have hv2 := hv.2
  by_cases a : 0 ≤ v ∧ v < rd m 83 1
  · by_cases b : (w = -1 ∨ (0 ≤ w ∧ w < rd m 83 1)) ∧ w ≠ v
    · have ac := ac_now hI.2.2.2.1 hI.2.2.2.2.1
      obtain ⟨rk, r1, r2⟩ := acyc_b i2 ac
      obtain ⟨z, z1, z2, z3⟩ := climb hI (v := v) r1 ac.1 12 w (by omega) (by omega) (fun q => r2 w q (by omega))
      have zu : F1_isUnder m w v = some z := by unfold F1_isUnder; exact z2 FU 0 (by omega) (by omega) (by rw [FU_eq]; omega)
      have za : F11_isAbove m v w = some z := by unfold F11_isAbove; exact z1 FU (by rw [FU_eq]; omega)
      by_cases y : z = 0
      · have nu : ¬ ∃ j, un (fun c => rd m 88 c) v j w := by
          rcases z3 with q | q
          · exact q.2
          · omega
        obtain ⟨m1, m2, f1, f2, f3⟩ := chg (a := n + 1) (kd := 2) (j := v) (v := w) hI (by omega) (by omega) (by omega) (Or.inr (Or.inr ⟨rfl, a⟩)) hw (fun _ _ => acyc_set ac a.1 (by omega) (by omega) nu)
        have g1 : F1_change m (197 + v) w = some (rd m (ck 2) v, m1) := f1
        have q : rd m1 83 1 = rd m 83 1 := rd_eq (k := 83) (i := 1) (fr_F1_change (by omega) (by omega) (by omega) (by omega) (by omega) (by omega) (by omega) g1)
        have q88 : ∀ i, rd m1 88 i = rd m 88 i := fun i => rd_eq (k := 88) (i := i) (fr_F1_change (by omega) (by omega) (by omega) (by omega) (by omega) (by omega) (by omega) g1)
        have za' : F11_isAbove m1 v w = some z := by rw [lo_F11_isAbove q88]; exact za
        refine ⟨rd m (ck 2) v, m1, m2, ?_, ?_, f3⟩
        · show F10_mother m v w = _
          unfold F10_mother
          rw [F1_has_e, F1_has_e, i3, jn_v, zu, motherCell_e a.1 (by omega)]
          by_cases s : w = -1
          · simp (disch := omega) only [gd_t, stw_v, cpw_v, jn_v, b1_v, b2_v, w32_id, rd_wr_s, rd_wr_k, rd_wr_i, bz_0, bz_n, if_pos, if_neg, if_true, if_false, ne_eq, not_true_eq_false, not_false_eq_true, y, g1]
          · simp (disch := omega) only [gd_t, stw_v, cpw_v, jn_v, b1_v, b2_v, w32_id, rd_wr_s, rd_wr_k, rd_wr_i, bz_0, bz_n, if_pos, if_neg, if_true, if_false, ne_eq, not_true_eq_false, not_false_eq_true, y, g1]
        · show F11_mother m1 v w = _
          unfold F11_mother
          rw [F11_isCharter_e m1 v (by omega), F11_isCharter_e m1 w (by omega), q, jn_v, jn_v, za']
          by_cases s : w = -1
          · simp (disch := omega) only [gd_t, stw_v, cpw_v, jn_v, b1_v, b2_v, w32_id, rd_wr_s, rd_wr_k, rd_wr_i, bz_0, bz_n, if_pos, if_neg, if_true, if_false, ne_eq, not_true_eq_false, not_false_eq_true, y, f2]
          · simp (disch := omega) only [gd_t, stw_v, cpw_v, jn_v, b1_v, b2_v, w32_id, rd_wr_s, rd_wr_k, rd_wr_i, bz_0, bz_n, if_pos, if_neg, if_true, if_false, ne_eq, not_true_eq_false, not_false_eq_true, y, f2]
      · have s : 0 ≤ w := by
          rcases z3 with q | q
          · omega
          · exact q.2
        refine Sq_ro (r := -2) hI' ?_ ?_
        · show F10_mother m v w = _
          unfold F10_mother
          rw [F1_has_e, F1_has_e, i3, jn_v, zu]
          simp (disch := omega) only [gd_t, stw_v, cpw_v, jn_v, b1_v, b2_v, w32_id, rd_wr_s, rd_wr_k, rd_wr_i, bz_0, bz_n, if_pos, if_neg, if_true, if_false, ne_eq, not_true_eq_false, not_false_eq_true]
        · show F11_mother m v w = _
          unfold F11_mother
          rw [F11_isCharter_e m v i1, F11_isCharter_e m w i1, jn_v, jn_v, za]
          simp (disch := omega) only [gd_t, stw_v, cpw_v, jn_v, b1_v, b2_v, w32_id, rd_wr_s, rd_wr_k, rd_wr_i, bz_0, bz_n, if_pos, if_neg, if_true, if_false, ne_eq, not_true_eq_false, not_false_eq_true]
    · refine Sq_ro (r := -2000000000) hI' ?_ ?_
      · show F10_mother m v w = _
        unfold F10_mother
        rw [F1_has_e, F1_has_e, i3, jn_v]
        by_cases s : w = -1
        · simp (disch := omega) only [gd_t, stw_v, cpw_v, jn_v, b1_v, b2_v, w32_id, rd_wr_s, rd_wr_k, rd_wr_i, bz_0, bz_n, if_pos, if_neg, if_true, if_false, ne_eq, not_true_eq_false, not_false_eq_true]
        · by_cases t : 0 ≤ w ∧ w < rd m 83 1
          · simp (disch := omega) only [gd_t, stw_v, cpw_v, jn_v, b1_v, b2_v, w32_id, rd_wr_s, rd_wr_k, rd_wr_i, bz_0, bz_n, if_pos, if_neg, if_true, if_false, ne_eq, not_true_eq_false, not_false_eq_true]
          · simp (disch := omega) only [gd_t, stw_v, cpw_v, jn_v, b1_v, b2_v, w32_id, rd_wr_s, rd_wr_k, rd_wr_i, bz_0, bz_n, if_pos, if_neg, if_true, if_false, ne_eq, not_true_eq_false, not_false_eq_true]
      · show F11_mother m v w = _
        unfold F11_mother
        rw [F11_isCharter_e m v i1, F11_isCharter_e m w i1, jn_v, jn_v]
        by_cases s : w = -1
        · simp (disch := omega) only [gd_t, stw_v, cpw_v, jn_v, b1_v, b2_v, w32_id, rd_wr_s, rd_wr_k, rd_wr_i, bz_0, bz_n, if_pos, if_neg, if_true, if_false, ne_eq, not_true_eq_false, not_false_eq_true]
        · by_cases t : 0 ≤ w ∧ w < rd m 83 1
          · simp (disch := omega) only [gd_t, stw_v, cpw_v, jn_v, b1_v, b2_v, w32_id, rd_wr_s, rd_wr_k, rd_wr_i, bz_0, bz_n, if_pos, if_neg, if_true, if_false, ne_eq, not_true_eq_false, not_false_eq_true]
          · simp (disch := omega) only [gd_t, stw_v, cpw_v, jn_v, b1_v, b2_v, w32_id, rd_wr_s, rd_wr_k, rd_wr_i, bz_0, bz_n, if_pos, if_neg, if_true, if_false, ne_eq, not_true_eq_false, not_false_eq_true]
  · refine Sq_ro (r := -2000000000) hI' ?_ ?_
    · show F10_mother m v w = _
      unfold F10_mother
      rw [F1_has_e, i3]
      simp (disch := omega) only [gd_t, stw_v, cpw_v, jn_v, b1_v, b2_v, w32_id, rd_wr_s, rd_wr_k, rd_wr_i, bz_0, bz_n, if_pos, if_neg, if_true, if_false, ne_eq, not_true_eq_false, not_false_eq_true]
    · show F11_mother m v w = _
      unfold F11_mother
      rw [F11_isCharter_e m v i1]
      simp (disch := omega) only [gd_t, stw_v, cpw_v, jn_v, b1_v, b2_v, w32_id, rd_wr_s, rd_wr_k, rd_wr_i, bz_0, bz_n, if_pos, if_neg, if_true, if_false, ne_eq, not_true_eq_false, not_false_eq_true]
