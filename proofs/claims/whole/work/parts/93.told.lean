/-! what both sides tell of the best trees, once they are found: which charters are sure -/
theorem cnt_one {p : Nat → Bool} : ∀ n, cnt p n = 1 → ∃ k, k < n ∧ p k = true ∧ ∀ i, i < n → i ≠ k → p i = false
  | 0, h => by have : cnt p 0 = 0 := rfl; omega
  | n + 1, h => by
    have e : cnt p (n + 1) = cnt p n + if p n then 1 else 0 := rfl
    rw [e] at h
    cases q : p n with
    | true =>
      rw [q, if_pos rfl] at h
      have z := cnt_0 n (show cnt p n = 0 by omega)
      exact ⟨n, by omega, q, fun i x y => z i (by omega)⟩
    | false =>
      rw [q, if_neg (by decide)] at h
      obtain ⟨k, a, b, c⟩ := cnt_one n h
      refine ⟨k, by omega, b, fun i x y => ?_⟩
      by_cases w : i = n
      · rw [w]; exact q
      · exact c i (by omega) y
theorem bor_0 {v : Int} (h : BM v) : bor v 0 = v := by
  obtain ⟨n, n1, rfl⟩ := BM_n h
  have := (borN n1 (show 0 < 65536 by omega)).1
  rw [show ((0 : Nat) : Int) = 0 from rfl] at this
  rw [this]
  congr 1
  exact Nat.or_zero n
theorem bor_ss {v : Int} (h : BM v) {i : Nat} (hi : i < 16) : bor (bor v (shl 1 (i : Int))) (shl 1 (i : Int)) = bor v (shl 1 (i : Int)) := by
  have s := BM_shl (i := (i : Int)) (by omega) (by omega)
  refine BM_ext (BM_or (BM_or h s) s) (BM_or h s) (fun k hk => ?_)
  rw [mb_or hi hk, mb_or hi hk]
  by_cases z : k = i
  · rw [if_pos z, if_pos z]
  · rw [if_neg z, if_neg z]
def T6 (m : Mem) (p d : Nat) : Int := rd m 106 (10 * (p : Int) + (d : Int))
/-- a place of the list: the set of its mothers and how often each -/
def ST6 (m : Mem) (p : Nat) : Prop := BM (rd m 46 (p : Int)) ∧ (∀ d : Nat, d < 10 → 0 ≤ T6 m p d ∧ (mb (rd m 46 (p : Int)) d = true ↔ 0 < T6 m p d)) ∧ (∀ d : Nat, 10 ≤ d → d < 16 → mb (rd m 46 (p : Int)) d = false) ∧
  T6 m p 0 + T6 m p 1 + T6 m p 2 + T6 m p 3 + T6 m p 4 + T6 m p 5 + T6 m p 6 + T6 m p 7 + T6 m p 8 + T6 m p 9 = rd m 31 3
theorem st6_of {m : Mem} (h : bestR m) (h0 : 0 < rd m 31 3) {p : Nat} (hp : (p : Int) < rd m 31 2) : ST6 m p := by
  obtain ⟨_, _, _, _, _, _, h7⟩ := h
  obtain ⟨a, b, c, e⟩ := h7 (p : Int) h0 (by omega) hp
  have B : BM (rd m 46 (p : Int)) := ⟨a, by omega⟩
  obtain ⟨v, v1, v2⟩ := BM_n B
  have vb : v < 1024 := by omega
  have tb' : ∀ d : Nat, mb (rd m 46 (p : Int)) d = (rd m 46 (p : Int)).toNat.testBit d := fun d => by
    rw [v2, btN (by omega)]; rfl
  refine ⟨B, fun d hd => ?_, fun d h0 h1 => ?_, ?_⟩
  · obtain ⟨x, y⟩ := c (d : Int) (by omega) (by omega)
    rw [tb' d]
    exact ⟨x, y⟩
  · rw [v2, btN (by omega)]
    have q : 2 ^ 10 ≤ 2 ^ d := Nat.pow_le_pow_right (by omega) h0
    exact Nat.testBit_lt_two_pow (by omega)
  · unfold T6
    rw [← e]
    simp only [Int.natCast_zero, Int.add_zero]
    rfl
theorem sure_1 {m : Mem} {p : Nat} (h : ST6 m p) (h0 : 0 < rd m 31 3) : pcv (rd m 46 (p : Int)) = 1 ↔ ∃ d : Nat, d < 10 ∧ T6 m p d = rd m 31 3 := by
  obtain ⟨a, b, c, e⟩ := h
  have g := fun d hd => (b d hd).1
  have g0 := g 0 (by omega); have g1 := g 1 (by omega); have g2 := g 2 (by omega); have g3 := g 3 (by omega); have g4 := g 4 (by omega)
  have g5 := g 5 (by omega); have g6 := g 6 (by omega); have g7 := g 7 (by omega); have g8 := g 8 (by omega); have g9 := g 9 (by omega)
  constructor
  · intro hp
    have hc : cnt (mb (rd m 46 (p : Int))) 16 = 1 := by unfold pcv at hp; omega
    obtain ⟨k, k1, k2, k3⟩ := cnt_one 16 hc
    have k10 : k < 10 := by
      by_cases q : k < 10
      · exact q
      · rw [c k (by omega) k1] at k2; cases k2
    have z : ∀ d : Nat, d < 10 → d ≠ k → T6 m p d = 0 := fun d hd hn => by
      have x := (b d hd)
      by_cases q : 0 < T6 m p d
      · have := x.2.mpr q
        rw [k3 d (by omega) hn] at this; cases this
      · have := x.1; omega
    refine ⟨k, k10, ?_⟩
    have : k = 0 ∨ k = 1 ∨ k = 2 ∨ k = 3 ∨ k = 4 ∨ k = 5 ∨ k = 6 ∨ k = 7 ∨ k = 8 ∨ k = 9 := by omega
    have z0 := z 0 (by omega); have z1 := z 1 (by omega); have z2 := z 2 (by omega); have z3 := z 3 (by omega); have z4 := z 4 (by omega)
    have z5 := z 5 (by omega); have z6 := z 6 (by omega); have z7 := z 7 (by omega); have z8 := z 8 (by omega); have z9 := z 9 (by omega)
    rcases this with rfl | rfl | rfl | rfl | rfl | rfl | rfl | rfl | rfl | rfl <;> omega
  · rintro ⟨k, k1, k2⟩
    have z : ∀ d : Nat, d < 10 → d ≠ k → T6 m p d = 0 := fun d hd hn => by
      have i1 : k = 0 ∨ k = 1 ∨ k = 2 ∨ k = 3 ∨ k = 4 ∨ k = 5 ∨ k = 6 ∨ k = 7 ∨ k = 8 ∨ k = 9 := by omega
      have i2 : d = 0 ∨ d = 1 ∨ d = 2 ∨ d = 3 ∨ d = 4 ∨ d = 5 ∨ d = 6 ∨ d = 7 ∨ d = 8 ∨ d = 9 := by omega
      rcases i1 with rfl | rfl | rfl | rfl | rfl | rfl | rfl | rfl | rfl | rfl <;> rcases i2 with rfl | rfl | rfl | rfl | rfl | rfl | rfl | rfl | rfl | rfl <;> omega
    have := cnt_only (p := mb (rd m 46 (p : Int))) (n := 16) (k := k) (by omega) ((b k k1).2.mpr (by omega)) (fun i hi hn => by
      by_cases q : i < 10
      · cases w : mb (rd m 46 (p : Int)) i with
        | false => rfl
        | true => have := (b i q).2.mp w; rw [z i q hn] at this; omega
      · exact c i (by omega) hi)
    unfold pcv; omega
/-- the set of the sure ones among the first k -/
def sV (m : Mem) : Nat → Int
  | 0 => 0
  | k + 1 => if pcv (rd m 46 (k : Int)) = 1 then bor (sV m k) (shl 1 (k : Int)) else sV m k
theorem BM_sV (m : Mem) : ∀ k, k ≤ 6 → BM (sV m k)
  | 0, _ => ⟨by show (0 : Int) ≤ 0; omega, by show (0 : Int) < 65536; omega⟩
  | k + 1, h => by
    have i := BM_sV m k (by omega)
    unfold sV; split
    · exact BM_or i (BM_shl (by omega) (by omega))
    · exact i
theorem L0_s4 {m : Mem} {N : Nat} (hN : rd m 31 2 = (N : Int)) (h6 : N ≤ 6) (hs : ∀ p, p < N → ST6 m p) : ∀ (d t k : Nat), k + d = N → d < t → L0_sure_4 m t (sV m k) (k : Int) = some (sV m N) := by
  intro d
  induction d with
  | zero =>
    intro t k h0 h1
    obtain ⟨t, rfl⟩ : ∃ i, t = i + 1 := ⟨t - 1, by omega⟩
    rw [L0_sure_4, hN, if_pos (by omega), show k = N by omega]
  | succ d ih =>
    intro t k h0 h1
    obtain ⟨t, rfl⟩ : ∃ i, t = i + 1 := ⟨t - 1, by omega⟩
    have B := (hs k (by omega)).1
    rw [L0_sure_4, hN, if_neg (by omega), gd_t (by omega), bitCount_e B, w32_id (x := (k : Int) + 1) (by omega) (by omega), show (k : Int) + 1 = ((k + 1 : Nat) : Int) by omega]
    simp only [jn_v]
    have ih' := ih t (k + 1) (by omega) (by omega)
    have e : sV m (k + 1) = if pcv (rd m 46 (k : Int)) = 1 then bor (sV m k) (shl 1 (k : Int)) else sV m k := rfl
    rw [e] at ih'
    by_cases z : pcv (rd m 46 (k : Int)) = 1
    · rw [if_pos z] at ih'
      rw [if_neg (fun q => q z)]; exact ih'
    · rw [if_neg z] at ih'
      rw [if_pos z, bor_0 (BM_sV m k (by omega))]; exact ih'
theorem L11_b95 {m : Mem} {p : Nat} (hp : p < 6) {kk : Int → Option (Int × Mem)} : ∀ (d t j : Nat) (v : Int), BM v → j + d = 10 → d < t → ∃ v', L11_best_95 m (p : Int) kk t v (j : Int) = kk v' ∧ (((∃ i, j ≤ i ∧ i < 10 ∧ T6 m p i = rd m 83 33) ∧ v' = bor v (shl 1 (p : Int))) ∨ ((¬ ∃ i, j ≤ i ∧ i < 10 ∧ T6 m p i = rd m 83 33) ∧ v' = v)) := by
  intro d
  induction d with
  | zero =>
    intro t j v hv h0 h1
    obtain ⟨t, rfl⟩ : ∃ i, t = i + 1 := ⟨t - 1, by omega⟩
    rw [L11_best_95, if_pos (by omega)]
    exact ⟨v, rfl, Or.inr ⟨fun ⟨i, a, b, _⟩ => by omega, rfl⟩⟩
  | succ d ih =>
    intro t j v hv h0 h1
    obtain ⟨t, rfl⟩ : ∃ i, t = i + 1 := ⟨t - 1, by omega⟩
    have e : w32 ((w32 (10 * (p : Int))) + (j : Int)) = 10 * (p : Int) + (j : Int) := by rw [w32_id (x := 10 * (p : Int)) (by omega) (by omega), w32_id (by omega) (by omega)]
    rw [L11_best_95, if_neg (by omega), e, gd_t (by omega), w32_id (x := (j : Int) + 1) (by omega) (by omega), show (j : Int) + 1 = ((j + 1 : Nat) : Int) by omega]
    simp only [jn_v]
    have s := BM_shl (i := (p : Int)) (by omega) (by omega)
    by_cases z : T6 m p j = rd m 83 33
    · rw [if_neg (show ¬ (rd m 106 (10 * (p : Int) + (j : Int)) ≠ rd m 83 33) from fun q => q z)]
      obtain ⟨v', a, b⟩ := ih t (j + 1) (bor v (shl 1 (p : Int))) (BM_or hv s) (by omega) (by omega)
      refine ⟨v', a, Or.inl ⟨⟨j, Nat.le_refl _, by omega, z⟩, ?_⟩⟩
      rcases b with ⟨_, b⟩ | ⟨_, b⟩
      · rw [b, bor_ss hv (by omega)]
      · exact b
    · rw [if_pos (show rd m 106 (10 * (p : Int) + (j : Int)) ≠ rd m 83 33 from z)]
      obtain ⟨v', a, b⟩ := ih t (j + 1) v hv (by omega) (by omega)
      refine ⟨v', a, ?_⟩
      rcases b with ⟨⟨i, x, y, w⟩, b⟩ | ⟨c, b⟩
      · exact Or.inl ⟨⟨i, by omega, y, w⟩, b⟩
      · exact Or.inr ⟨fun ⟨i, x, y, w⟩ => by
          by_cases q : i = j
          · rw [q] at w; exact z w
          · exact c ⟨i, by omega, y, w⟩, b⟩
theorem L11_b84 {m : Mem} {N : Nat} (hN : rd m 83 28 = (N : Int)) (h6 : N ≤ 6) (hs : ∀ p, p < N → ST6 m p) (hf : rd m 83 33 = rd m 31 3) (hp : 0 < rd m 31 3) : ∀ (d t k : Nat), k + d = N → d < t → L11_best_84 m t (sV m k) (k : Int) = some (sV m N, m) := by
  intro d
  induction d with
  | zero =>
    intro t k h0 h1
    obtain ⟨t, rfl⟩ : ∃ i, t = i + 1 := ⟨t - 1, by omega⟩
    rw [L11_best_84, hN, if_pos (by omega), show k = N by omega]
  | succ d ih =>
    intro t k h0 h1
    obtain ⟨t, rfl⟩ : ∃ i, t = i + 1 := ⟨t - 1, by omega⟩
    obtain ⟨v', a, b⟩ := L11_b95 (m := m) (p := k) (by omega) (kk := fun (v2_133 : Int) => L11_best_84 m t v2_133 ((k + 1 : Nat) : Int)) 10 FU 0 (sV m k) (BM_sV m k (by omega)) (by omega) (by rw [FU_eq]; omega)
    rw [L11_best_84, hN, if_neg (by omega), w32_id (x := (k : Int) + 1) (by omega) (by omega), show (k : Int) + 1 = ((k + 1 : Nat) : Int) by omega]
    refine Eq.trans a ?_
    have e : sV m (k + 1) = if pcv (rd m 46 (k : Int)) = 1 then bor (sV m k) (shl 1 (k : Int)) else sV m k := rfl
    have s := sure_1 (hs k (by omega)) hp
    have ve : v' = sV m (k + 1) := by
      rw [e]
      rcases b with ⟨⟨i, _, y, w⟩, b⟩ | ⟨c, b⟩
      · rw [if_pos (s.mpr ⟨i, y, by rw [w]; exact hf⟩)]; exact b
      · rw [if_neg (fun q => by obtain ⟨i, y, w⟩ := s.mp q; exact c ⟨i, Nat.zero_le _, y, by rw [w, hf]⟩)]; exact b
    rw [ve]
    exact ih t (k + 1) (by omega) (by omega)
theorem sure_e {m : Mem} (h : bestR m) (hl : iLi m) (hp : 0 < rd m 31 3) : ∃ r, F0_sure m = some r ∧ L11_best_84 m FU 0 0 = some (r, m) := by
  obtain ⟨l1, l2, l3, _⟩ := hl
  obtain ⟨N, hN⟩ : ∃ N : Nat, rd m 31 2 = (N : Int) := ⟨(rd m 31 2).toNat, by omega⟩
  have hs : ∀ p, p < N → ST6 m p := fun p q => st6_of h hp (by omega)
  exact ⟨_, L0_s4 hN (by omega) hs N FU 0 (by omega) (by rw [FU_eq]; omega), L11_b84 (by omega) (by omega) hs h.2.2.2.1 hp N FU 0 (by omega) (by rw [FU_eq]; omega)⟩
