/-! a mask's bits -/
def bt (v k : Int) : Bool := (Int32.ofInt v).toBitVec.getLsbD k.toNat
theorem and1 (y : BitVec 32) : (y &&& 1#32).toInt = if y.getLsbD 0 then 1 else 0 := by
  have e : (y &&& 1#32).toNat = if y.getLsbD 0 then 1 else 0 := by
    rw [BitVec.toNat_and, BitVec.getLsbD]
    show y.toNat &&& 1 = _
    rw [Nat.and_one_is_mod, Nat.testBit_zero]
    by_cases h : y.toNat % 2 = 1
    · rw [h]; simp
    · rw [if_neg (by simpa using h)]; omega
  have h : (y &&& 1#32).toNat ≤ 1 := by rw [e]; split <;> omega
  rw [BitVec.toInt_eq_toNat_of_lt (by omega), e]
  split <;> rfl
theorem bit_e {v k : Int} (h0 : 0 ≤ k) (h1 : k < 16) : band (shr v k) 1 = if bt v k then 1 else 0 := by
  unfold band shr bt
  rw [Int32.ofInt_toInt]
  rcases (show k = 0 ∨ k = 1 ∨ k = 2 ∨ k = 3 ∨ k = 4 ∨ k = 5 ∨ k = 6 ∨ k = 7 ∨ k = 8 ∨ k = 9 ∨ k = 10 ∨ k = 11 ∨ k = 12 ∨ k = 13 ∨ k = 14 ∨ k = 15 by omega) with rfl | rfl | rfl | rfl | rfl | rfl | rfl | rfl | rfl | rfl | rfl | rfl | rfl | rfl | rfl | rfl
  · rw [show (Int32.ofInt v >>> (Int32.ofInt 0 &&& 31)) = Int32.ofBitVec ((Int32.ofInt v).toBitVec.sshiftRight 0) from rfl]
    refine (and1 _).trans ?_
    rw [show (Int32.ofBitVec ((Int32.ofInt v).toBitVec.sshiftRight 0)).toBitVec = (Int32.ofInt v).toBitVec.sshiftRight 0 from rfl, BitVec.getLsbD_sshiftRight]
    rfl
  · rw [show (Int32.ofInt v >>> (Int32.ofInt 1 &&& 31)) = Int32.ofBitVec ((Int32.ofInt v).toBitVec.sshiftRight 1) from rfl]
    refine (and1 _).trans ?_
    rw [show (Int32.ofBitVec ((Int32.ofInt v).toBitVec.sshiftRight 1)).toBitVec = (Int32.ofInt v).toBitVec.sshiftRight 1 from rfl, BitVec.getLsbD_sshiftRight]
    rfl
  · rw [show (Int32.ofInt v >>> (Int32.ofInt 2 &&& 31)) = Int32.ofBitVec ((Int32.ofInt v).toBitVec.sshiftRight 2) from rfl]
    refine (and1 _).trans ?_
    rw [show (Int32.ofBitVec ((Int32.ofInt v).toBitVec.sshiftRight 2)).toBitVec = (Int32.ofInt v).toBitVec.sshiftRight 2 from rfl, BitVec.getLsbD_sshiftRight]
    rfl
  · rw [show (Int32.ofInt v >>> (Int32.ofInt 3 &&& 31)) = Int32.ofBitVec ((Int32.ofInt v).toBitVec.sshiftRight 3) from rfl]
    refine (and1 _).trans ?_
    rw [show (Int32.ofBitVec ((Int32.ofInt v).toBitVec.sshiftRight 3)).toBitVec = (Int32.ofInt v).toBitVec.sshiftRight 3 from rfl, BitVec.getLsbD_sshiftRight]
    rfl
  · rw [show (Int32.ofInt v >>> (Int32.ofInt 4 &&& 31)) = Int32.ofBitVec ((Int32.ofInt v).toBitVec.sshiftRight 4) from rfl]
    refine (and1 _).trans ?_
    rw [show (Int32.ofBitVec ((Int32.ofInt v).toBitVec.sshiftRight 4)).toBitVec = (Int32.ofInt v).toBitVec.sshiftRight 4 from rfl, BitVec.getLsbD_sshiftRight]
    rfl
  · rw [show (Int32.ofInt v >>> (Int32.ofInt 5 &&& 31)) = Int32.ofBitVec ((Int32.ofInt v).toBitVec.sshiftRight 5) from rfl]
    refine (and1 _).trans ?_
    rw [show (Int32.ofBitVec ((Int32.ofInt v).toBitVec.sshiftRight 5)).toBitVec = (Int32.ofInt v).toBitVec.sshiftRight 5 from rfl, BitVec.getLsbD_sshiftRight]
    rfl
  · rw [show (Int32.ofInt v >>> (Int32.ofInt 6 &&& 31)) = Int32.ofBitVec ((Int32.ofInt v).toBitVec.sshiftRight 6) from rfl]
    refine (and1 _).trans ?_
    rw [show (Int32.ofBitVec ((Int32.ofInt v).toBitVec.sshiftRight 6)).toBitVec = (Int32.ofInt v).toBitVec.sshiftRight 6 from rfl, BitVec.getLsbD_sshiftRight]
    rfl
  · rw [show (Int32.ofInt v >>> (Int32.ofInt 7 &&& 31)) = Int32.ofBitVec ((Int32.ofInt v).toBitVec.sshiftRight 7) from rfl]
    refine (and1 _).trans ?_
    rw [show (Int32.ofBitVec ((Int32.ofInt v).toBitVec.sshiftRight 7)).toBitVec = (Int32.ofInt v).toBitVec.sshiftRight 7 from rfl, BitVec.getLsbD_sshiftRight]
    rfl
  · rw [show (Int32.ofInt v >>> (Int32.ofInt 8 &&& 31)) = Int32.ofBitVec ((Int32.ofInt v).toBitVec.sshiftRight 8) from rfl]
    refine (and1 _).trans ?_
    rw [show (Int32.ofBitVec ((Int32.ofInt v).toBitVec.sshiftRight 8)).toBitVec = (Int32.ofInt v).toBitVec.sshiftRight 8 from rfl, BitVec.getLsbD_sshiftRight]
    rfl
  · rw [show (Int32.ofInt v >>> (Int32.ofInt 9 &&& 31)) = Int32.ofBitVec ((Int32.ofInt v).toBitVec.sshiftRight 9) from rfl]
    refine (and1 _).trans ?_
    rw [show (Int32.ofBitVec ((Int32.ofInt v).toBitVec.sshiftRight 9)).toBitVec = (Int32.ofInt v).toBitVec.sshiftRight 9 from rfl, BitVec.getLsbD_sshiftRight]
    rfl
  · rw [show (Int32.ofInt v >>> (Int32.ofInt 10 &&& 31)) = Int32.ofBitVec ((Int32.ofInt v).toBitVec.sshiftRight 10) from rfl]
    refine (and1 _).trans ?_
    rw [show (Int32.ofBitVec ((Int32.ofInt v).toBitVec.sshiftRight 10)).toBitVec = (Int32.ofInt v).toBitVec.sshiftRight 10 from rfl, BitVec.getLsbD_sshiftRight]
    rfl
  · rw [show (Int32.ofInt v >>> (Int32.ofInt 11 &&& 31)) = Int32.ofBitVec ((Int32.ofInt v).toBitVec.sshiftRight 11) from rfl]
    refine (and1 _).trans ?_
    rw [show (Int32.ofBitVec ((Int32.ofInt v).toBitVec.sshiftRight 11)).toBitVec = (Int32.ofInt v).toBitVec.sshiftRight 11 from rfl, BitVec.getLsbD_sshiftRight]
    rfl
  · rw [show (Int32.ofInt v >>> (Int32.ofInt 12 &&& 31)) = Int32.ofBitVec ((Int32.ofInt v).toBitVec.sshiftRight 12) from rfl]
    refine (and1 _).trans ?_
    rw [show (Int32.ofBitVec ((Int32.ofInt v).toBitVec.sshiftRight 12)).toBitVec = (Int32.ofInt v).toBitVec.sshiftRight 12 from rfl, BitVec.getLsbD_sshiftRight]
    rfl
  · rw [show (Int32.ofInt v >>> (Int32.ofInt 13 &&& 31)) = Int32.ofBitVec ((Int32.ofInt v).toBitVec.sshiftRight 13) from rfl]
    refine (and1 _).trans ?_
    rw [show (Int32.ofBitVec ((Int32.ofInt v).toBitVec.sshiftRight 13)).toBitVec = (Int32.ofInt v).toBitVec.sshiftRight 13 from rfl, BitVec.getLsbD_sshiftRight]
    rfl
  · rw [show (Int32.ofInt v >>> (Int32.ofInt 14 &&& 31)) = Int32.ofBitVec ((Int32.ofInt v).toBitVec.sshiftRight 14) from rfl]
    refine (and1 _).trans ?_
    rw [show (Int32.ofBitVec ((Int32.ofInt v).toBitVec.sshiftRight 14)).toBitVec = (Int32.ofInt v).toBitVec.sshiftRight 14 from rfl, BitVec.getLsbD_sshiftRight]
    rfl
  · rw [show (Int32.ofInt v >>> (Int32.ofInt 15 &&& 31)) = Int32.ofBitVec ((Int32.ofInt v).toBitVec.sshiftRight 15) from rfl]
    refine (and1 _).trans ?_
    rw [show (Int32.ofBitVec ((Int32.ofInt v).toBitVec.sshiftRight 15)).toBitVec = (Int32.ofInt v).toBitVec.sshiftRight 15 from rfl, BitVec.getLsbD_sshiftRight]
    rfl
theorem bt_or {v i k : Int} (h0 : 0 ≤ i) (h1 : i < 16) (h2 : 0 ≤ k) (h3 : k < 16) : bt (bor v (shl 1 i)) k = if k = i then true else bt v k := by
  unfold bt bor shl
  rw [Int32.ofInt_toInt, Int32.ofInt_toInt]
  show ((Int32.ofInt v).toBitVec ||| (Int32.ofInt 1 <<< (Int32.ofInt i &&& 31)).toBitVec).getLsbD k.toNat = _
  rw [BitVec.getLsbD_or]
  have : ∀ (a b : Fin 16), (Int32.ofInt 1 <<< (Int32.ofInt ((a : Nat) : Int) &&& 31)).toBitVec.getLsbD (b : Nat) = decide ((b : Nat) = (a : Nat)) := by decide +kernel
  have q := this ⟨i.toNat, by omega⟩ ⟨k.toNat, by omega⟩
  dsimp only at q
  rw [show ((i.toNat : Nat) : Int) = i by omega] at q
  rw [q]
  by_cases e : k = i
  · rw [if_pos e, decide_eq_true (by omega), Bool.or_true]
  · rw [if_neg e, decide_eq_false (by omega), Bool.or_false]
