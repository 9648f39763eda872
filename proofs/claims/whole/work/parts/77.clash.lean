/-! clauses that clash -/
def hasP (m : Mem) (a b : Int) (A B : Bool) : Nat → Bool
  | 0 => false
  | c + 1 => hasP m a b A B c || (decide (rd m 89 (16 * (c : Int) + a) ≠ 9) && decide (rd m 89 (16 * (c : Int) + b) ≠ 9) && (decide (rd m 89 (16 * (c : Int) + a) ≠ 0) == A) && (decide (rd m 89 (16 * (c : Int) + b) ≠ 0) == B))
def clV (m : Mem) (a b : Int) : Bool := hasP m a b false false (rd m 83 1).toNat && hasP m a b true false (rd m 83 1).toNat && hasP m a b false true (rd m 83 1).toNat && hasP m a b true true (rd m 83 1).toNat
theorem clV_s {m m' : Mem} (h : Sm m m') (a b : Int) : clV m' a b = clV m a b := by
  have key : ∀ A B c, hasP m' a b A B c = hasP m a b A B c := by
    intro A B c
    induction c with
    | zero => rfl
    | succ c ih =>
      unfold hasP
      rw [ih, Sm_r h (show PS 89 (16 * (c : Int) + a) by unfold PS; omega), Sm_r h (show PS 89 (16 * (c : Int) + b) by unfold PS; omega)]
  unfold clV
  simp only [key, Sm_r h (show PS 83 1 by unfold PS; omega)]
theorem bor_pat : ∀ a b c d : Bool, bor (bs (pat a b c d) 4) (shl 1 0) = bs (pat true b c d) 4 ∧ bor (bs (pat a b c d) 4) (shl 1 1) = bs (pat a true c d) 4 ∧ bor (bs (pat a b c d) 4) (shl 1 2) = bs (pat a b true d) 4 ∧ bor (bs (pat a b c d) 4) (shl 1 3) = bs (pat a b c true) 4 := by decide +kernel
theorem pat_15 : ∀ a b c d : Bool, (bs (pat a b c d) 4 = 15 ↔ (a && b && c && d) = true) := by decide +kernel
theorem bs_00 : bs (pat false false false false) 4 = 0 := by decide +kernel
theorem hasP_no {m : Mem} {a b : Int} {c : Nat} (h : rd m 89 (16 * (c : Int) + a) = 9 ∨ rd m 89 (16 * (c : Int) + b) = 9) (A B : Bool) : hasP m a b A B (c + 1) = hasP m a b A B c := by
  rw [hasP]
  rcases h with h | h
  · rw [decide_eq_false (show ¬ rd m 89 (16 * (c : Int) + a) ≠ 9 from fun z => z h)]; simp
  · rw [decide_eq_false (show ¬ rd m 89 (16 * (c : Int) + b) ≠ 9 from fun z => z h)]; simp
theorem hasP_at {m : Mem} {a b : Int} {c : Nat} {A0 B0 : Bool} (h1 : rd m 89 (16 * (c : Int) + a) ≠ 9) (h2 : rd m 89 (16 * (c : Int) + b) ≠ 9) (hA : decide (rd m 89 (16 * (c : Int) + a) ≠ 0) = A0) (hB : decide (rd m 89 (16 * (c : Int) + b) ≠ 0) = B0) (A B : Bool) : hasP m a b A B (c + 1) = (hasP m a b A B c || ((A0 == A) && (B0 == B))) := by
  rw [hasP, decide_eq_true h1, decide_eq_true h2, hA, hB]; simp
theorem L3_cl5 {n : Nat} {m : Mem} (hI : Inv n m) {a b : Int} (ha : 0 ≤ a ∧ a < 16) (hb : 0 ≤ b ∧ b < 16) {kk : Int → Option Int} : ∀ (d t c : Nat), (c : Int) + d = rd m 83 1 → d < t → L3_clash_5 m a b kk t (bs (pat (hasP m a b false false c) (hasP m a b true false c) (hasP m a b false true c) (hasP m a b true true c)) 4) (c : Int) = kk (bs (pat (hasP m a b false false (rd m 83 1).toNat) (hasP m a b true false (rd m 83 1).toNat) (hasP m a b false true (rd m 83 1).toNat) (hasP m a b true true (rd m 83 1).toNat)) 4) := by
  have a12 := hI.1.2.1
  intro d
  induction d with
  | zero =>
    intro t c h0 h1
    obtain ⟨t, rfl⟩ : ∃ i, t = i + 1 := ⟨t - 1, by omega⟩
    have : c = (rd m 83 1).toNat := by omega
    rw [L3_clash_5, hI.1.2.2.1, if_pos (by omega), this]
  | succ d ih =>
    intro t c h0 h1
    obtain ⟨t, rfl⟩ : ∃ i, t = i + 1 := ⟨t - 1, by omega⟩
    have nx := ih t (c + 1) (by omega) (by omega)
    rw [L3_clash_5, hI.1.2.2.1, if_neg (by omega), told_e (by omega) (by omega) ha.1 ha.2, b1_v, told_e (by omega) (by omega) hb.1 hb.2, b1_v, (hI.2.1.1 (c : Int) a (by omega) (by omega) ha.1 ha.2).1, (hI.2.1.1 (c : Int) b (by omega) (by omega) hb.1 hb.2).1, w32_id (x := (c : Int) + 1) (by omega) (by omega), show (c : Int) + 1 = ((c + 1 : Nat) : Int) by omega]
    simp only [jn_v]
    have bp := bor_pat (hasP m a b false false c) (hasP m a b true false c) (hasP m a b false true c) (hasP m a b true true c)
    by_cases p : rd m 89 (16 * (c : Int) + a) = 9
    · rw [if_pos p]
      simp only [hasP_no (Or.inl p)] at nx
      exact nx
    · rw [if_neg p]
      by_cases q : rd m 89 (16 * (c : Int) + b) = 9
      · rw [if_pos q]
        simp only [hasP_no (Or.inr q)] at nx
        exact nx
      · rw [if_neg q]
        by_cases x : rd m 89 (16 * (c : Int) + a) = 0
        · rw [if_neg (show ¬ (rd m 89 (16 * (c : Int) + a) ≠ 0) by omega)]
          by_cases y : rd m 89 (16 * (c : Int) + b) = 0
          · rw [if_neg (show ¬ (rd m 89 (16 * (c : Int) + b) ≠ 0) by omega), show w32 (0 + 0) = 0 from w32_id (by omega) (by omega), bp.1]
            simp only [hasP_at p q (decide_eq_false (fun z => z x)) (decide_eq_false (fun z => z y))] at nx
            simpa using nx
          · rw [if_pos y, show w32 (0 + 2) = 2 from w32_id (by omega) (by omega), bp.2.2.1]
            simp only [hasP_at p q (decide_eq_false (fun z => z x)) (decide_eq_true y)] at nx
            simpa using nx
        · rw [if_pos x]
          by_cases y : rd m 89 (16 * (c : Int) + b) = 0
          · rw [if_neg (show ¬ (rd m 89 (16 * (c : Int) + b) ≠ 0) by omega), show w32 (1 + 0) = 1 from w32_id (by omega) (by omega), bp.2.1]
            simp only [hasP_at p q (decide_eq_true x) (decide_eq_false (fun z => z y))] at nx
            simpa using nx
          · rw [if_pos y, show w32 (1 + 2) = 3 from w32_id (by omega) (by omega), bp.2.2.2]
            simp only [hasP_at p q (decide_eq_true x) (decide_eq_true y)] at nx
            simpa using nx
theorem clash_e {n : Nat} {m : Mem} (hI : Inv n m) {a b : Int} (ha : 0 ≤ a ∧ a < 16) (hb : 0 ≤ b ∧ b < 16) : F3_clash m a b = some (if clV m a b = true then 1 else 0) := by
  have x := L3_cl5 hI ha hb (kk := fun (v3_87 : Int) => if v3_87 ≠ 15 then some 0 else some 1) (rd m 83 1).toNat FU 0 (by have := hI.1.1; omega) (by rw [FU_eq]; have := hI.1.2.1; omega)
  have e0 : bs (pat (hasP m a b false false 0) (hasP m a b true false 0) (hasP m a b false true 0) (hasP m a b true true 0)) 4 = 0 := bs_00
  rw [e0] at x
  have p := pat_15 (hasP m a b false false (rd m 83 1).toNat) (hasP m a b true false (rd m 83 1).toNat) (hasP m a b false true (rd m 83 1).toNat) (hasP m a b true true (rd m 83 1).toNat)
  unfold F3_clash
  refine Eq.trans x ?_
  unfold clV
  by_cases z : (hasP m a b false false (rd m 83 1).toNat && hasP m a b true false (rd m 83 1).toNat && hasP m a b false true (rd m 83 1).toNat && hasP m a b true true (rd m 83 1).toNat) = true
  · rw [if_pos z, if_neg (fun w => w (p.mpr z))]
  · rw [if_neg z, if_pos (fun w => z (p.mp w))]
theorem L11_cl5 {n : Nat} {m : Mem} (hI : Inv n m) {a b : Int} (ha : 0 ≤ a ∧ a < 16) (hb : 0 ≤ b ∧ b < 16) {kk : Int → Option Int} : ∀ (d t c : Nat), (c : Int) + d = rd m 83 1 → d < t → L11_doClash_5 m a b kk t (bs (pat (hasP m a b false false c) (hasP m a b false true c) (hasP m a b true false c) (hasP m a b true true c)) 4) (c : Int) = kk (bs (pat (hasP m a b false false (rd m 83 1).toNat) (hasP m a b false true (rd m 83 1).toNat) (hasP m a b true false (rd m 83 1).toNat) (hasP m a b true true (rd m 83 1).toNat)) 4) := by
  have a12 := hI.1.2.1
  intro d
  induction d with
  | zero =>
    intro t c h0 h1
    obtain ⟨t, rfl⟩ : ∃ i, t = i + 1 := ⟨t - 1, by omega⟩
    have : c = (rd m 83 1).toNat := by omega
    rw [L11_doClash_5, if_pos (by omega), this]
  | succ d ih =>
    intro t c h0 h1
    obtain ⟨t, rfl⟩ : ∃ i, t = i + 1 := ⟨t - 1, by omega⟩
    have nx := ih t (c + 1) (by omega) (by omega)
    have fa := (hI.2.1.1 (c : Int) a (by omega) (by omega) ha.1 ha.2).2
    have fb := (hI.2.1.1 (c : Int) b (by omega) (by omega) hb.1 hb.2).2
    have g1 : ∀ {α : Type} (y : Option α), gd (0 ≤ 16 * (c : Int) + a ∧ 16 * (c : Int) + a < 192) y = y := fun y => gd_t ⟨by omega, by omega⟩
    have g2 : ∀ {α : Type} (y : Option α), gd (0 ≤ 16 * (c : Int) + b ∧ 16 * (c : Int) + b < 192) y = y := fun y => gd_t ⟨by omega, by omega⟩
    rw [L11_doClash_5, if_neg (by omega), w32_id (x := 16 * (c : Int)) (by omega) (by omega), w32_id (x := 16 * (c : Int) + a) (by omega) (by omega), w32_id (x := 16 * (c : Int) + b) (by omega) (by omega), w32_id (x := (c : Int) + 1) (by omega) (by omega), show (c : Int) + 1 = ((c + 1 : Nat) : Int) by omega]
    simp only [jn_v, g1, g2]
    have bp := bor_pat (hasP m a b false false c) (hasP m a b false true c) (hasP m a b true false c) (hasP m a b true true c)
    by_cases p : rd m 89 (16 * (c : Int) + a) = 9
    · rw [if_pos p]
      simp only [hasP_no (Or.inl p)] at nx
      exact nx
    · rw [if_neg p]
      by_cases q : rd m 89 (16 * (c : Int) + b) = 9
      · rw [if_pos q]
        simp only [hasP_no (Or.inr q)] at nx
        exact nx
      · rw [if_neg q]
        unfold isF at fa fb
        by_cases x : rd m 89 (16 * (c : Int) + a) = 0
        · rw [if_pos (show rd m 89 (16 * (c : Int) + a) ≤ 0 by omega)]
          by_cases y : rd m 89 (16 * (c : Int) + b) = 0
          · rw [if_pos (show rd m 89 (16 * (c : Int) + b) ≤ 0 by omega), show w32 (0 + 0) = 0 from w32_id (by omega) (by omega), bp.1]
            simp only [hasP_at p q (decide_eq_false (fun z => z x)) (decide_eq_false (fun z => z y))] at nx
            simpa using nx
          · rw [if_neg (show ¬ rd m 89 (16 * (c : Int) + b) ≤ 0 by omega), show w32 (0 + 1) = 1 from w32_id (by omega) (by omega), bp.2.1]
            simp only [hasP_at p q (decide_eq_false (fun z => z x)) (decide_eq_true y)] at nx
            simpa using nx
        · rw [if_neg (show ¬ rd m 89 (16 * (c : Int) + a) ≤ 0 by omega)]
          by_cases y : rd m 89 (16 * (c : Int) + b) = 0
          · rw [if_pos (show rd m 89 (16 * (c : Int) + b) ≤ 0 by omega), show w32 (2 + 0) = 2 from w32_id (by omega) (by omega), bp.2.2.1]
            simp only [hasP_at p q (decide_eq_true x) (decide_eq_false (fun z => z y))] at nx
            simpa using nx
          · rw [if_neg (show ¬ rd m 89 (16 * (c : Int) + b) ≤ 0 by omega), show w32 (2 + 1) = 3 from w32_id (by omega) (by omega), bp.2.2.2]
            simp only [hasP_at p q (decide_eq_true x) (decide_eq_true y)] at nx
            simpa using nx
theorem doClash_e {n : Nat} {m : Mem} (hI : Inv n m) {a b : Int} (ha : 0 ≤ a ∧ a < 16) (hb : 0 ≤ b ∧ b < 16) : F11_doClash m a b = some (if clV m a b = true then 1 else 0) := by
  have x := L11_cl5 hI ha hb (kk := fun (v3_88 : Int) => if v3_88 ≠ 15 then some 0 else some 1) (rd m 83 1).toNat FU 0 (by have := hI.1.1; omega) (by rw [FU_eq]; have := hI.1.2.1; omega)
  have e0 : bs (pat (hasP m a b false false 0) (hasP m a b false true 0) (hasP m a b true false 0) (hasP m a b true true 0)) 4 = 0 := bs_00
  rw [e0] at x
  have p := pat_15 (hasP m a b false false (rd m 83 1).toNat) (hasP m a b false true (rd m 83 1).toNat) (hasP m a b true false (rd m 83 1).toNat) (hasP m a b true true (rd m 83 1).toNat)
  have sw : ∀ x y z w : Bool, (x && y && z && w) = (x && z && y && w) := by decide
  rw [sw] at p
  unfold F11_doClash
  refine Eq.trans x ?_
  unfold clV
  by_cases z : (hasP m a b false false (rd m 83 1).toNat && hasP m a b true false (rd m 83 1).toNat && hasP m a b false true (rd m 83 1).toNat && hasP m a b true true (rd m 83 1).toNat) = true
  · rw [if_pos z, if_neg (fun w => w (p.mpr z))]
  · rw [if_neg z, if_pos (fun w => z (p.mp w))]
