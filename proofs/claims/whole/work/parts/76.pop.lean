/-! how many bits: all by whole numbers, so that the kernel counts fast -/
theorem bvN {n : Nat} (h : n < 2147483648) : (Int32.ofInt (n : Int)).toBitVec.toNat = n := by
  have e : (Int32.ofInt (n : Int)).toInt = (n : Int) := oi_ti ⟨by omega, by omega⟩
  have : (Int32.ofInt (n : Int)).toBitVec.toInt = (n : Int) := e
  rw [BitVec.toInt_eq_toNat_cond] at this
  have l := (Int32.ofInt (n : Int)).toBitVec.isLt
  split at this <;> omega
theorem toIntN {b : BitVec 32} {n : Nat} (h : b.toNat = n) (hn : n < 2147483648) : (Int32.ofBitVec b).toInt = (n : Int) := by
  show b.toInt = (n : Int)
  rw [BitVec.toInt_eq_toNat_of_lt (by omega), h]
theorem bandN {a b : Nat} (ha : a < 2147483648) (hb : b < 2147483648) : band (a : Int) (b : Int) = ((a &&& b : Nat) : Int) := by
  have : (Int32.ofInt (a : Int) &&& Int32.ofInt (b : Int)).toBitVec.toNat = a &&& b := by
    show ((Int32.ofInt (a : Int)).toBitVec &&& (Int32.ofInt (b : Int)).toBitVec).toNat = _
    rw [BitVec.toNat_and, bvN ha, bvN hb]
  exact toIntN (b := (Int32.ofInt (a : Int) &&& Int32.ofInt (b : Int)).toBitVec) this (Nat.lt_of_le_of_lt Nat.and_le_left ha)
theorem borN {a b : Nat} (ha : a < 65536) (hb : b < 65536) : bor (a : Int) (b : Int) = ((a ||| b : Nat) : Int) ∧ a ||| b < 65536 := by
  have l : a ||| b < 2 ^ 16 := Nat.or_lt_two_pow (by omega) (by omega)
  have : (Int32.ofInt (a : Int) ||| Int32.ofInt (b : Int)).toBitVec.toNat = a ||| b := by
    show ((Int32.ofInt (a : Int)).toBitVec ||| (Int32.ofInt (b : Int)).toBitVec).toNat = _
    rw [BitVec.toNat_or, bvN (by omega), bvN (by omega)]
  exact ⟨toIntN (b := (Int32.ofInt (a : Int) ||| Int32.ofInt (b : Int)).toBitVec) this (by omega), l⟩
theorem ushN {a k : Nat} (ha : a < 2147483648) (hk : k = 1 ∨ k = 2 ∨ k = 4 ∨ k = 8 ∨ k = 16) : ush (a : Int) (k : Int) = ((a >>> k : Nat) : Int) := by
  have l : a >>> k ≤ a := Nat.shiftRight_le a k
  have : ((Int32.ofInt (a : Int)).toUInt32 >>> ((Int32.ofInt (k : Int)).toUInt32 &&& Int32.toUInt32 31)).toInt32.toBitVec.toNat = a >>> k := by
    have e : ((Int32.ofInt (k : Int)).toUInt32 &&& Int32.toUInt32 31).toBitVec.toNat % 32 = k := by rcases hk with rfl | rfl | rfl | rfl | rfl <;> decide +kernel
    show ((Int32.ofInt (a : Int)).toBitVec >>> (((Int32.ofInt (k : Int)).toUInt32 &&& Int32.toUInt32 31).toBitVec % 32#32)).toNat = _
    rw [BitVec.ushiftRight_eq', BitVec.toNat_ushiftRight, bvN ha]
    have : ((((Int32.ofInt (k : Int)).toUInt32 &&& Int32.toUInt32 31).toBitVec % 32#32)).toNat = k := by
      rw [BitVec.toNat_umod]; exact e
    rw [this]
  exact toIntN (b := ((Int32.ofInt (a : Int)).toUInt32 >>> ((Int32.ofInt (k : Int)).toUInt32 &&& Int32.toUInt32 31)).toInt32.toBitVec) this (by omega)
def pA (n : Nat) : Nat := n - ((n >>> 1) &&& 1431655765)
def pB (n : Nat) : Nat := (pA n &&& 858993459) + ((pA n >>> 2) &&& 858993459)
def pC (n : Nat) : Nat := (pB n + (pB n >>> 4)) &&& 252645135
def pD (n : Nat) : Nat := pC n + (pC n >>> 8)
def pE (n : Nat) : Nat := (pD n + (pD n >>> 16)) &&& 63
theorem andle {a b : Nat} : a &&& b ≤ b := Nat.and_le_right
theorem FJ6_N {n : Nat} (h : n < 65536) : FJ6_bitCount_0f7a4 (n : Int) = ((pE n : Nat) : Int) := by
  have l1 : (n >>> 1) ≤ n := Nat.shiftRight_le n 1
  have l2 : (n >>> 1) &&& 1431655765 ≤ n >>> 1 := Nat.and_le_left
  have eA : w32 ((n : Int) - (band (ush (n : Int) 1) 1431655765)) = ((pA n : Nat) : Int) := by
    have u := ushN (a := n) (k := 1) (by omega) (by omega)
    have b := bandN (a := n >>> 1) (b := 1431655765) (by omega) (by omega)
    have u' : ush (n : Int) 1 = ((n >>> 1 : Nat) : Int) := u
    have b' : band ((n >>> 1 : Nat) : Int) 1431655765 = (((n >>> 1) &&& 1431655765 : Nat) : Int) := b
    rw [u', b', w32_id (by omega) (by omega)]
    unfold pA; omega
  have lA : pA n ≤ n := by unfold pA; omega
  have lA2 : (pA n >>> 2) ≤ pA n := Nat.shiftRight_le _ 2
  have a1 : pA n &&& 858993459 ≤ pA n := Nat.and_le_left
  have a2 : (pA n >>> 2) &&& 858993459 ≤ pA n >>> 2 := Nat.and_le_left
  have eB : w32 ((band ((pA n : Nat) : Int) 858993459) + (band (ush ((pA n : Nat) : Int) 2) 858993459)) = ((pB n : Nat) : Int) := by
    have u : ush ((pA n : Nat) : Int) 2 = ((pA n >>> 2 : Nat) : Int) := ushN (k := 2) (by omega) (by omega)
    have b : band ((pA n : Nat) : Int) 858993459 = ((pA n &&& 858993459 : Nat) : Int) := bandN (b := 858993459) (by omega) (by omega)
    have b' : band ((pA n >>> 2 : Nat) : Int) 858993459 = (((pA n >>> 2) &&& 858993459 : Nat) : Int) := bandN (b := 858993459) (by omega) (by omega)
    rw [u, b, b', w32_id (by omega) (by omega)]
    unfold pB; omega
  have lB : pB n ≤ 131072 := by unfold pB; omega
  have lB2 : (pB n >>> 4) ≤ pB n := Nat.shiftRight_le _ 4
  have c1 : (pB n + (pB n >>> 4)) &&& 252645135 ≤ pB n + (pB n >>> 4) := Nat.and_le_left
  have eC : band (w32 (((pB n : Nat) : Int) + (ush ((pB n : Nat) : Int) 4))) 252645135 = ((pC n : Nat) : Int) := by
    have u : ush ((pB n : Nat) : Int) 4 = ((pB n >>> 4 : Nat) : Int) := ushN (k := 4) (by omega) (by omega)
    have b : band ((pB n + (pB n >>> 4) : Nat) : Int) 252645135 = (((pB n + (pB n >>> 4)) &&& 252645135 : Nat) : Int) := bandN (b := 252645135) (by omega) (by omega)
    rw [u, w32_id (by omega) (by omega), show ((pB n : Nat) : Int) + ((pB n >>> 4 : Nat) : Int) = ((pB n + (pB n >>> 4) : Nat) : Int) by omega, b]
    rfl
  have lC : pC n ≤ 262144 := by unfold pC; omega
  have lC2 : (pC n >>> 8) ≤ pC n := Nat.shiftRight_le _ 8
  have eD : w32 (((pC n : Nat) : Int) + (ush ((pC n : Nat) : Int) 8)) = ((pD n : Nat) : Int) := by
    have u : ush ((pC n : Nat) : Int) 8 = ((pC n >>> 8 : Nat) : Int) := ushN (k := 8) (by omega) (by omega)
    rw [u, w32_id (by omega) (by omega)]
    unfold pD; omega
  have lD : pD n ≤ 524288 := by unfold pD; omega
  have lD2 : (pD n >>> 16) ≤ pD n := Nat.shiftRight_le _ 16
  have eE : band (w32 (((pD n : Nat) : Int) + (ush ((pD n : Nat) : Int) 16))) 63 = ((pE n : Nat) : Int) := by
    have u : ush ((pD n : Nat) : Int) 16 = ((pD n >>> 16 : Nat) : Int) := ushN (k := 16) (by omega) (by omega)
    have b : band ((pD n + (pD n >>> 16) : Nat) : Int) 63 = (((pD n + (pD n >>> 16)) &&& 63 : Nat) : Int) := bandN (b := 63) (by omega) (by omega)
    rw [u, w32_id (by omega) (by omega), show ((pD n : Nat) : Int) + ((pD n >>> 16 : Nat) : Int) = ((pD n + (pD n >>> 16) : Nat) : Int) by omega, b]
    rfl
  unfold FJ6_bitCount_0f7a4
  simp only [eA, eB, eC, eD, eE]
def pN (n : Nat) : Nat → Nat
  | 0 => 0
  | k + 1 => pN n k + (if n.testBit k then 1 else 0)
def pOk (n : Nat) : Bool := pE n == pN n 16 && (n == 0 || pN (n &&& (n - 1)) 16 + 1 == pN n 16)
def pChk (b : Nat) : Nat → Bool
  | 0 => true
  | k + 1 => pOk (b + k) && pChk b k
theorem pChk_e {b : Nat} : ∀ k, pChk b k = true → ∀ i, i < k → pOk (b + i) = true
  | 0, _, i, h => by omega
  | k + 1, h, i, hi => by
    have h' : (pOk (b + k) && pChk b k) = true := h
    rw [Bool.and_eq_true] at h'
    by_cases z : i = k
    · rw [z]; exact h'.1
    · exact pChk_e k h'.2 i (by omega)
theorem pop_0 : pChk 0 2048 = true := by decide +kernel
theorem pop_1 : pChk 2048 2048 = true := by decide +kernel
theorem pop_2 : pChk 4096 2048 = true := by decide +kernel
theorem pop_3 : pChk 6144 2048 = true := by decide +kernel
theorem pop_4 : pChk 8192 2048 = true := by decide +kernel
theorem pop_5 : pChk 10240 2048 = true := by decide +kernel
theorem pop_6 : pChk 12288 2048 = true := by decide +kernel
theorem pop_7 : pChk 14336 2048 = true := by decide +kernel
theorem pop_8 : pChk 16384 2048 = true := by decide +kernel
theorem pop_9 : pChk 18432 2048 = true := by decide +kernel
theorem pop_10 : pChk 20480 2048 = true := by decide +kernel
theorem pop_11 : pChk 22528 2048 = true := by decide +kernel
theorem pop_12 : pChk 24576 2048 = true := by decide +kernel
theorem pop_13 : pChk 26624 2048 = true := by decide +kernel
theorem pop_14 : pChk 28672 2048 = true := by decide +kernel
theorem pop_15 : pChk 30720 2048 = true := by decide +kernel
theorem pop_16 : pChk 32768 2048 = true := by decide +kernel
theorem pop_17 : pChk 34816 2048 = true := by decide +kernel
theorem pop_18 : pChk 36864 2048 = true := by decide +kernel
theorem pop_19 : pChk 38912 2048 = true := by decide +kernel
theorem pop_20 : pChk 40960 2048 = true := by decide +kernel
theorem pop_21 : pChk 43008 2048 = true := by decide +kernel
theorem pop_22 : pChk 45056 2048 = true := by decide +kernel
theorem pop_23 : pChk 47104 2048 = true := by decide +kernel
theorem pop_24 : pChk 49152 2048 = true := by decide +kernel
theorem pop_25 : pChk 51200 2048 = true := by decide +kernel
theorem pop_26 : pChk 53248 2048 = true := by decide +kernel
theorem pop_27 : pChk 55296 2048 = true := by decide +kernel
theorem pop_28 : pChk 57344 2048 = true := by decide +kernel
theorem pop_29 : pChk 59392 2048 = true := by decide +kernel
theorem pop_30 : pChk 61440 2048 = true := by decide +kernel
theorem pop_31 : pChk 63488 2048 = true := by decide +kernel
theorem pop_all {n : Nat} (h : n < 65536) : pOk n = true := by
  have key : ∀ j, pChk (2048 * j) 2048 = true → n / 2048 = j → pOk n = true := fun j hj e => by
    have := pChk_e 2048 hj (n % 2048) (by omega)
    rw [show 2048 * j + n % 2048 = n by omega] at this
    exact this
  have : n / 2048 < 32 := by omega
  match hj : n / 2048 with
  | 0 => exact key 0 pop_0 hj
  | 1 => exact key 1 pop_1 hj
  | 2 => exact key 2 pop_2 hj
  | 3 => exact key 3 pop_3 hj
  | 4 => exact key 4 pop_4 hj
  | 5 => exact key 5 pop_5 hj
  | 6 => exact key 6 pop_6 hj
  | 7 => exact key 7 pop_7 hj
  | 8 => exact key 8 pop_8 hj
  | 9 => exact key 9 pop_9 hj
  | 10 => exact key 10 pop_10 hj
  | 11 => exact key 11 pop_11 hj
  | 12 => exact key 12 pop_12 hj
  | 13 => exact key 13 pop_13 hj
  | 14 => exact key 14 pop_14 hj
  | 15 => exact key 15 pop_15 hj
  | 16 => exact key 16 pop_16 hj
  | 17 => exact key 17 pop_17 hj
  | 18 => exact key 18 pop_18 hj
  | 19 => exact key 19 pop_19 hj
  | 20 => exact key 20 pop_20 hj
  | 21 => exact key 21 pop_21 hj
  | 22 => exact key 22 pop_22 hj
  | 23 => exact key 23 pop_23 hj
  | 24 => exact key 24 pop_24 hj
  | 25 => exact key 25 pop_25 hj
  | 26 => exact key 26 pop_26 hj
  | 27 => exact key 27 pop_27 hj
  | 28 => exact key 28 pop_28 hj
  | 29 => exact key 29 pop_29 hj
  | 30 => exact key 30 pop_30 hj
  | 31 => exact key 31 pop_31 hj
  | j + 32 => omega
theorem btN {n i : Nat} (h : n < 2147483648) : mb (n : Int) i = n.testBit i := by
  show (Int32.ofInt (n : Int)).toBitVec.getLsbD ((i : Int)).toNat = _
  rw [show ((i : Int)).toNat = i by omega, BitVec.getLsbD, bvN h]
def pcv (v : Int) : Int := (cnt (mb v) 16 : Nat)
theorem pcN {n : Nat} (h : n < 65536) : ∀ k, cnt (mb (n : Int)) k = pN n k
  | 0 => rfl
  | k + 1 => by
    show cnt (mb (n : Int)) k + (if mb (n : Int) k then 1 else 0) = pN n k + (if n.testBit k then 1 else 0)
    rw [pcN h k, btN (by omega)]
theorem pop_n {n : Nat} (h : n < 65536) : pE n = pN n 16 ∧ (n = 0 ∨ pN (n &&& (n - 1)) 16 + 1 = pN n 16) := by
  have := pop_all h
  unfold pOk at this
  simp only [Bool.and_eq_true, Bool.or_eq_true, beq_iff_eq] at this
  exact this
def BM (v : Int) : Prop := 0 ≤ v ∧ v < 65536
theorem BM_n {v : Int} (h : BM v) : ∃ n : Nat, n < 65536 ∧ v = (n : Int) := ⟨v.toNat, by have := h.1; have := h.2; omega, by have := h.1; omega⟩
theorem bitCount_e {v : Int} (h : BM v) : FJ6_bitCount_0f7a4 v = pcv v := by
  obtain ⟨n, n1, rfl⟩ := BM_n h
  rw [FJ6_N n1, (pop_n n1).1]
  unfold pcv
  rw [pcN n1 16]
theorem L11_bo : ∀ (d f : Nat) (s v : Int), BM v → pcv v = (d : Int) → d < f → 0 ≤ s → s + d < 1000 → L11_bitsOf_4 f s v = some (s + d) := by
  intro d
  induction d with
  | zero =>
    intro f s v hv hd hf h0 h1
    obtain ⟨f, rfl⟩ : ∃ i, f = i + 1 := ⟨f - 1, by omega⟩
    obtain ⟨n, n1, rfl⟩ := BM_n hv
    have : n = 0 := by
      rcases (pop_n n1).2 with z | z
      · exact z
      · unfold pcv at hd; rw [pcN n1 16] at hd; omega
    subst this
    rw [L11_bitsOf_4, if_pos (show ((0 : Nat) : Int) = 0 from rfl)]; congr 1; omega
  | succ d ih =>
    intro f s v hv hd hf h0 h1
    obtain ⟨f, rfl⟩ : ∃ i, f = i + 1 := ⟨f - 1, by omega⟩
    obtain ⟨n, n1, rfl⟩ := BM_n hv
    have nz : n ≠ 0 := by
      intro z; subst z
      have : pcv ((0 : Nat) : Int) = 0 := by decide +kernel
      omega
    have l : n &&& (n - 1) ≤ n := Nat.and_le_left
    have e : band (n : Int) (w32 ((n : Int) - 1)) = ((n &&& (n - 1) : Nat) : Int) := by
      rw [w32_id (by omega) (by omega), show (n : Int) - 1 = ((n - 1 : Nat) : Int) by omega]
      exact bandN (by omega) (by omega)
    rw [L11_bitsOf_4, if_neg (by omega), e, w32_id (x := s + 1) (by omega) (by omega), ih f (s + 1) _ ⟨by omega, by omega⟩ ?_ (by omega) (by omega) (by omega)]
    · congr 1; omega
    · unfold pcv at hd ⊢
      rw [pcN n1 16] at hd
      rw [pcN (by omega) 16]
      rcases (pop_n n1).2 with z | z
      · exact absurd z nz
      · omega
theorem pcv_b (v : Int) : 0 ≤ pcv v ∧ pcv v ≤ 16 := by
  have := cnt_le (mb v) 16
  unfold pcv; omega
theorem bitsOf_e {v : Int} (h : BM v) : F11_bitsOf v = some (pcv v) := by
  have b := pcv_b v
  unfold F11_bitsOf
  have := L11_bo (pcv v).toNat FU 0 v h (by omega) (by rw [FU_eq]; omega) (by omega) (by omega)
  rw [this]; congr 1; omega
/-! masks below 65536 -/
theorem BM_or {a b : Int} (ha : BM a) (hb : BM b) : BM (bor a b) := by
  obtain ⟨m, m1, rfl⟩ := BM_n ha
  obtain ⟨n, n1, rfl⟩ := BM_n hb
  have := borN m1 n1
  rw [this.1]
  exact ⟨by omega, by omega⟩
theorem shl_t : ∀ i : Fin 16, shl 1 ((i : Nat) : Int) = ((2 ^ (i : Nat) : Nat) : Int) := by decide +kernel
theorem BM_shl {i : Int} (h0 : 0 ≤ i) (h1 : i < 16) : BM (shl 1 i) := by
  have := shl_t ⟨i.toNat, by omega⟩
  dsimp only at this
  rw [show ((i.toNat : Nat) : Int) = i by omega] at this
  rw [this]
  have l : 2 ^ i.toNat < 2 ^ 16 := Nat.pow_lt_pow_right (by omega) (by omega)
  obtain ⟨p, hp⟩ : ∃ p : Nat, p = 2 ^ i.toNat := ⟨_, rfl⟩
  rw [← hp] at l ⊢
  exact ⟨by omega, by omega⟩
theorem BM_ext {a b : Int} (ha : BM a) (hb : BM b) (h : ∀ i : Nat, i < 16 → mb a i = mb b i) : a = b := by
  obtain ⟨m, m1, rfl⟩ := BM_n ha
  obtain ⟨n, n1, rfl⟩ := BM_n hb
  have : m = n := Nat.eq_of_testBit_eq (fun i => by
    by_cases z : i < 16
    · rw [← btN (n := m) (by omega), ← btN (n := n) (by omega)]; exact h i z
    · have p : 2 ^ 16 ≤ 2 ^ i := Nat.pow_le_pow_right (by omega) (by omega)
      rw [Nat.testBit_lt_two_pow (by omega), Nat.testBit_lt_two_pow (by omega)])
  rw [this]
/-- a set within another one, by the machine's way of asking -/
theorem sub_e {a b : Int} (ha : BM a) (hb : BM b) : band a (bxor b (-1)) = 0 ↔ ∀ i : Nat, i < 16 → mb a i = true → mb b i = true := by
  obtain ⟨m, m1, rfl⟩ := BM_n ha
  obtain ⟨n, n1, rfl⟩ := BM_n hb
  have e : (Int32.ofInt (m : Int) &&& Int32.ofInt (bxor (n : Int) (-1))).toBitVec = (Int32.ofInt (m : Int)).toBitVec &&& ((Int32.ofInt (n : Int)).toBitVec ^^^ BitVec.allOnes 32) := by
    unfold bxor
    rw [Int32.ofInt_toInt]; rfl
  have bit : ∀ i : Nat, i < 32 → (((Int32.ofInt (m : Int)).toBitVec &&& ((Int32.ofInt (n : Int)).toBitVec ^^^ BitVec.allOnes 32)).getLsbD i = (m.testBit i && !(n.testBit i))) := fun i hi => by
    rw [BitVec.getLsbD_and, BitVec.getLsbD_xor, BitVec.getLsbD_allOnes, BitVec.getLsbD, BitVec.getLsbD, bvN (by omega), bvN (by omega), decide_eq_true hi, Bool.xor_true]
  have z : band (m : Int) (bxor (n : Int) (-1)) = 0 ↔ ((Int32.ofInt (m : Int)).toBitVec &&& ((Int32.ofInt (n : Int)).toBitVec ^^^ BitVec.allOnes 32)) = 0#32 := by
    rw [← e]
    show (Int32.ofInt (m : Int) &&& Int32.ofInt (bxor (n : Int) (-1))).toBitVec.toInt = 0 ↔ _
    constructor
    · intro h; exact BitVec.eq_of_toInt_eq (by rw [h]; rfl)
    · intro h; rw [h]; rfl
  rw [z]
  constructor
  · intro h i hi hm
    have := bit i (by omega)
    rw [h, BitVec.getLsbD_zero] at this
    rw [btN (by omega)] at hm ⊢
    rw [hm] at this
    cases q : n.testBit i with
    | true => rfl
    | false => rw [q] at this; cases this
  · intro h
    refine BitVec.eq_of_getLsbD_eq (fun i hi => ?_)
    rw [bit i hi, BitVec.getLsbD_zero]
    by_cases y : i < 16
    · have := h i y
      rw [btN (by omega), btN (by omega)] at this
      cases p : m.testBit i with
      | false => rfl
      | true => rw [this p]; rfl
    · have p : 2 ^ 16 ≤ 2 ^ i := Nat.pow_le_pow_right (by omega) (by omega)
      rw [Nat.testBit_lt_two_pow (by omega)]; rfl
