/-! a tree's digits; which mothers never come; whether a claim is borne out -/
theorem L11_t70 {p : Nat} {kk : Int → Option (Int × Mem)} : ∀ (d t : Nat) (x : Int), 0 ≤ x → x < 2147483648 → p + d ≤ 6 → d < t → L11_tree_70 (p : Int) kk t x ((p + d : Nat) : Int) = kk (x / 10 ^ d) := by
  intro d
  induction d with
  | zero =>
    intro t x h0 h1 h2 h3
    obtain ⟨t, rfl⟩ : ∃ i, t = i + 1 := ⟨t - 1, by omega⟩
    rw [L11_tree_70, if_pos (by omega), Int.pow_zero, Int.ediv_one]
  | succ d ih =>
    intro t x h0 h1 h2 h3
    obtain ⟨t, rfl⟩ : ∃ i, t = i + 1 := ⟨t - 1, by omega⟩
    rw [L11_tree_70, if_neg (by omega), idv_e h0 h1 (by omega) (by omega), w32_id (by omega) (by omega), show ((p + (d + 1) : Nat) : Int) + (-1) = ((p + d : Nat) : Int) by omega, ih t (x / 10) (by omega) (by omega) (by omega) (by omega), Int.ediv_ediv, if_neg (fun q => absurd q.1 (by decide)), Int.sub_zero, Int.pow_succ, Int.mul_comm]
theorem tree_e {m : Mem} (h : bestR m) (hl : iLi m) {i p : Int} (hi : 0 ≤ i) (hi' : i < rd m 31 3) (hp : 0 ≤ p) (hp' : p < rd m 31 2) : ∃ r, F0_motherPlace m i p = some r ∧ L11_tree_70 p (fun (v3_87 : Int) => some (irm v3_87 10, m)) FU (rd m 105 i) (w32 ((rd m 83 28) - 1)) = some (r, m) := by
  obtain ⟨l1, l2, l3, _⟩ := hl
  obtain ⟨b1', b2', b3', b4', b5', b6', b7'⟩ := h
  obtain ⟨x, y⟩ := b6' i p hi hi' hp hp'
  have g := rd_in m 105 i
  have g2 : rd m 105 i < 2147483648 := g.2
  unfold F0_motherPlace
  rw [gd_t (by omega), y, b1_v]
  refine ⟨_, rfl, ?_⟩
  obtain ⟨P, rfl⟩ : ∃ P : Nat, p = (P : Int) := ⟨p.toNat, by omega⟩
  obtain ⟨d, hd⟩ : ∃ d : Nat, rd m 31 2 - 1 - (P : Int) = (d : Int) := ⟨(rd m 31 2 - 1 - (P : Int)).toNat, by omega⟩
  rw [w32_id (by omega) (by omega), show rd m 83 28 - 1 = ((P + d : Nat) : Int) by omega, L11_t70 d FU (rd m 105 i) x g.2 (by omega) (by rw [FU_eq]; omega), hd]
  have q0 : 0 ≤ rd m 105 i / 10 ^ d := Int.ediv_nonneg x (Int.pow_nonneg (by omega))
  have q1 : rd m 105 i / 10 ^ d ≤ rd m 105 i := Int.ediv_le_self _ x
  rw [irm_e q0 (by omega) (by omega) (by omega)]
  rfl
theorem nev_e {S : Int} {N : Nat} (hS : BM S) (hN : N ≤ 6) : BM (band (bxor S (-1)) (w32 (shl 1 (N : Int) - 1))) ∧ ∀ i : Nat, i < 16 → mb (band (bxor S (-1)) (w32 (shl 1 (N : Int) - 1))) i = (!(mb S i) && decide (i < N)) := by
  obtain ⟨n, n1, rfl⟩ := BM_n hS
  have s := shl_t ⟨N, by omega⟩
  dsimp only at s
  have pl : 2 ^ N ≤ 2 ^ 6 := Nat.pow_le_pow_right (by omega) hN
  have pp : 0 < 2 ^ N := Nat.pow_pos (by omega)
  have e1 : w32 (shl 1 (N : Int) - 1) = ((2 ^ N - 1 : Nat) : Int) := by
    rw [s]
    obtain ⟨q, hq⟩ : ∃ q : Nat, q = 2 ^ N := ⟨_, rfl⟩
    rw [← hq] at pl pp ⊢
    rw [w32_id (by omega) (by omega)]; omega
  obtain ⟨a, ha⟩ : ∃ a : BitVec 32, a = (Int32.ofInt (n : Int)).toBitVec ^^^ BitVec.allOnes 32 := ⟨_, rfl⟩
  have bl := bvN (n := 2 ^ N - 1) (by omega)
  have e2 : band (bxor (n : Int) (-1)) ((2 ^ N - 1 : Nat) : Int) = (Int32.ofBitVec (a &&& (Int32.ofInt ((2 ^ N - 1 : Nat) : Int)).toBitVec)).toInt := by
    unfold band bxor
    rw [Int32.ofInt_toInt, ha]; rfl
  have wl : a.toNat &&& (2 ^ N - 1) ≤ 2 ^ N - 1 := Nat.and_le_right
  have e3 : band (bxor (n : Int) (-1)) ((2 ^ N - 1 : Nat) : Int) = ((a.toNat &&& (2 ^ N - 1) : Nat) : Int) := by
    rw [e2]
    exact toIntN (by rw [BitVec.toNat_and, bl]) (by omega)
  rw [e1, e3]
  refine ⟨⟨by omega, by omega⟩, fun i hi => ?_⟩
  rw [btN (by omega), btN (by omega), Nat.testBit_and, Nat.testBit_two_pow_sub_one]
  congr 1
  show a.getLsbD i = _
  rw [ha, BitVec.getLsbD_xor, BitVec.getLsbD_allOnes, BitVec.getLsbD, bvN (by omega), decide_eq_true (show i < 32 by omega), Bool.xor_true]
def nV (m : Mem) (p : Nat) : Nat → Int
  | 0 => 0
  | k + 1 => if T6 m p k = 0 then bor (nV m p k) (shl 1 (k : Int)) else nV m p k
theorem BM_nV (m : Mem) (p : Nat) : ∀ k, k ≤ 6 → BM (nV m p k)
  | 0, _ => ⟨by show (0 : Int) ≤ 0; omega, by show (0 : Int) < 65536; omega⟩
  | k + 1, h => by
    have i := BM_nV m p k (by omega)
    unfold nV; split
    · exact BM_or i (BM_shl (by omega) (by omega))
    · exact i
theorem mb_nV {m : Mem} {p : Nat} (h : ST6 m p) : ∀ k, k ≤ 6 → ∀ i, i < 16 → mb (nV m p k) i = (!(mb (rd m 46 (p : Int)) i) && decide (i < k))
  | 0, _, i, hi => by
    show mb 0 i = _
    have := btN (n := 0) (i := i) (by omega)
    rw [show ((0 : Nat) : Int) = 0 from rfl] at this
    rw [this, Nat.zero_testBit, decide_eq_false (by omega), Bool.and_false]
  | k + 1, hk, i, hi => by
    have ih := mb_nV h k (by omega) i hi
    have b := h.2.1 k (by omega)
    have e : nV m p (k + 1) = if T6 m p k = 0 then bor (nV m p k) (shl 1 (k : Int)) else nV m p k := rfl
    rw [e]
    by_cases z : T6 m p k = 0
    · rw [if_pos z, mb_or (by omega) hi, ih]
      by_cases w : i = k
      · have : mb (rd m 46 (p : Int)) k = false := by
          cases q : mb (rd m 46 (p : Int)) k with
          | false => rfl
          | true => have := b.2.mp q; omega
        rw [if_pos w, w, this, decide_eq_true (by omega)]; rfl
      · rw [if_neg w]
        by_cases v : i < k
        · rw [decide_eq_true v, decide_eq_true (by omega)]
        · rw [decide_eq_false v, decide_eq_false (by omega)]
    · rw [if_neg z, ih]
      by_cases w : i = k
      · have : mb (rd m 46 (p : Int)) k = true := b.2.mpr (by have := b.1; omega)
        rw [w, this]; rfl
      · by_cases v : i < k
        · rw [decide_eq_true v, decide_eq_true (by omega)]
        · rw [decide_eq_false v, decide_eq_false (by omega)]
theorem L11_n45 {m : Mem} {N p : Nat} (hN : rd m 83 28 = (N : Int)) (h6 : N ≤ 6) (hp : p < 6) : ∀ (d t k : Nat), k + d = N → d < t → L11_never_45 m (p : Int) t (nV m p k) (k : Int) = some (nV m p N, m) := by
  intro d
  induction d with
  | zero =>
    intro t k h0 h1
    obtain ⟨t, rfl⟩ : ∃ i, t = i + 1 := ⟨t - 1, by omega⟩
    rw [L11_never_45, hN, if_pos (by omega), show k = N by omega]
  | succ d ih =>
    intro t k h0 h1
    obtain ⟨t, rfl⟩ : ∃ i, t = i + 1 := ⟨t - 1, by omega⟩
    have e : w32 ((w32 (10 * (p : Int))) + (k : Int)) = 10 * (p : Int) + (k : Int) := by rw [w32_id (x := 10 * (p : Int)) (by omega) (by omega), w32_id (by omega) (by omega)]
    rw [L11_never_45, hN, if_neg (by omega), e, gd_t (by omega), w32_id (x := (k : Int) + 1) (by omega) (by omega), show (k : Int) + 1 = ((k + 1 : Nat) : Int) by omega]
    simp only [jn_v]
    have ih' := ih t (k + 1) (by omega) (by omega)
    have e : nV m p (k + 1) = if T6 m p k = 0 then bor (nV m p k) (shl 1 (k : Int)) else nV m p k := rfl
    rw [e] at ih'
    by_cases z : T6 m p k = 0
    · rw [if_pos z] at ih'
      rw [if_neg (show ¬ (rd m 106 (10 * (p : Int) + (k : Int)) ≠ 0) from fun q => q z)]; exact ih'
    · rw [if_neg z] at ih'
      rw [if_pos (show rd m 106 (10 * (p : Int) + (k : Int)) ≠ 0 from z)]; exact ih'
theorem never_e {m : Mem} (h : bestR m) (hl : iLi m) (h0 : 0 < rd m 31 3) {p : Int} (hp : 0 ≤ p) (hp' : p < rd m 31 2) : ∃ r, F0_neverMothers m p = some r ∧ L11_never_45 m p FU 0 0 = some (r, m) := by
  obtain ⟨l1, l2, l3, _⟩ := hl
  obtain ⟨P, rfl⟩ : ∃ P : Nat, p = (P : Int) := ⟨p.toNat, by omega⟩
  obtain ⟨N, hN⟩ : ∃ N : Nat, rd m 31 2 = (N : Int) := ⟨(rd m 31 2).toNat, by omega⟩
  have s := st6_of h h0 hp'
  have n := nev_e s.1 (N := N) (by omega)
  refine ⟨_, ?_, L11_n45 (N := N) (by omega) (by omega) (by omega) N FU 0 (by omega) (by rw [FU_eq]; omega)⟩
  unfold F0_neverMothers
  rw [gd_t (by omega), hN]
  congr 1
  exact BM_ext n.1 (BM_nV m P N (by omega)) (fun i hi => by rw [n.2 i hi, mb_nV s N (by omega) i hi])
/-- a claim: not borne out, by some, by all -/
theorem borne_e {m : Mem} (h : bestR m) (hl : iLi m) (h0 : 0 < rd m 31 3) {p q : Int} (hp : 0 ≤ p) (hp' : p < rd m 31 2) (hq : 0 ≤ q) (hq' : q < rd m 31 2) : ∃ r, F0_borneOut m p q = some r ∧ (if rd m 106 (10 * p + q) ≠ rd m 83 33 then (if rd m 106 (10 * p + q) ≤ 0 then some ((0 : Int), m) else some (1, m)) else some (2, m)) = some (r, m) := by
  obtain ⟨l1, l2, l3, _⟩ := hl
  obtain ⟨P, rfl⟩ : ∃ P : Nat, p = (P : Int) := ⟨p.toNat, by omega⟩
  obtain ⟨Q, rfl⟩ : ∃ Q : Nat, q = (Q : Int) := ⟨q.toNat, by omega⟩
  have s := st6_of h h0 hp'
  have su := sure_1 s h0
  have b := s.2.1 Q (by omega)
  have tq : T6 m P Q = rd m 106 (10 * (P : Int) + (Q : Int)) := rfl
  have f33 := h.2.2.2.1
  have bi : band (shr (rd m 46 (P : Int)) (Q : Int)) 1 ≠ 0 ↔ mb (rd m 46 (P : Int)) Q = true := by
    have e := bit_e (v := rd m 46 (P : Int)) (k := (Q : Int)) (by omega) (by omega)
    show _ ↔ bt (rd m 46 (P : Int)) (Q : Int) = true
    rw [e]
    cases bt (rd m 46 (P : Int)) (Q : Int) with
    | true => exact ⟨fun _ => rfl, fun _ => by decide⟩
    | false => exact ⟨fun x => absurd rfl x, fun x => (by cases x)⟩
  unfold F0_borneOut
  rw [gd_t (by omega), gd_t (by omega), bitCount_e s.1]
  rw [← tq, f33]
  by_cases z : mb (rd m 46 (P : Int)) Q = true
  · rw [if_pos (bi.mpr z)]
    have pos := b.2.mp z
    by_cases w : T6 m P Q = rd m 31 3
    · rw [if_neg (fun x => x (su.mpr ⟨Q, by omega, w⟩)), if_neg (fun x => x w)]; exact ⟨2, rfl, rfl⟩
    · have : pcv (rd m 46 (P : Int)) ≠ 1 := fun x => by
        obtain ⟨d, d1, d2⟩ := su.mp x
        have e := s.2.2.2
        have g := fun d hd => (s.2.1 d hd).1
        have g0 := g 0 (by omega); have g1 := g 1 (by omega); have g2 := g 2 (by omega); have g3 := g 3 (by omega); have g4 := g 4 (by omega)
        have g5 := g 5 (by omega); have g6 := g 6 (by omega); have g7 := g 7 (by omega); have g8 := g 8 (by omega); have g9 := g 9 (by omega)
        have i1 : d = 0 ∨ d = 1 ∨ d = 2 ∨ d = 3 ∨ d = 4 ∨ d = 5 ∨ d = 6 ∨ d = 7 ∨ d = 8 ∨ d = 9 := by omega
        have i2 : Q = 0 ∨ Q = 1 ∨ Q = 2 ∨ Q = 3 ∨ Q = 4 ∨ Q = 5 := by omega
        rcases i2 with rfl | rfl | rfl | rfl | rfl | rfl <;> rcases i1 with rfl | rfl | rfl | rfl | rfl | rfl | rfl | rfl | rfl | rfl <;> first | exact w d2 | omega
      rw [if_pos this, if_pos w, if_neg (by omega)]; exact ⟨1, rfl, rfl⟩
  · rw [if_neg (fun x => z (bi.mp x))]
    have zz : ¬ 0 < T6 m P Q := fun x => z (b.2.mpr x)
    rw [if_pos (by omega), if_pos (by omega)]; exact ⟨0, rfl, rfl⟩
