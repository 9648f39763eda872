/-! what the functions of the methods are made of -/
def FU : Nat := 100000
theorem FU_eq : FU = 100000 := rfl
def stw {α : Type} (m : Mem) (k : Nat) (i v : Int) (f : Mem → α) : α := f (wr m k i v)
theorem stw_e {α : Type} {m : Mem} {k : Nat} {i v : Int} {f : Mem → α} {r : α} (h : stw m k i v f = r) : f (wr m k i v) = r := h
def cpw {α : Type} (m : Mem) (k1 : Nat) (i : Int) (k2 : Nat) (j n : Int) (f : Mem → α) : α := f (cpy m k1 i k2 j n)
theorem cpw_e {α : Type} {m : Mem} {k1 : Nat} {i : Int} {k2 : Nat} {j n : Int} {f : Mem → α} {r : α} (h : cpw m k1 i k2 j n f = r) : f (cpy m k1 i k2 j n) = r := h
def stv (j : Nat) (i : Int) : Int := ((stT.getD j ("", "", [])).2.2).getD i.toNat 0
theorem stv_in (j : Nat) (i : Int) : inR (stv j i) := by
  have key : ∀ (l : List Int), (∀ x ∈ l, inR x) → ∀ n, inR (l.getD n 0) := by
    intro l hl n
    rw [List.getD_eq_getElem?_getD]
    cases h : l[n]? with
    | none => exact rg_c rfl
    | some x => exact hl x (List.mem_of_getElem? h)
  refine key _ ?_ _
  match j with
  | 0 => exact fun x hx => by revert x; exact (by decide : ∀ x ∈ ([1, 10, 100, 1000, 10000, 100000] : List Int), -2147483648 ≤ x ∧ x < 2147483648)
  | 1 => exact fun x hx => by revert x; exact (by decide : ∀ x ∈ ([6, 7, -1, 8, -1, 6, 5, 1, 3, -1] : List Int), -2147483648 ≤ x ∧ x < 2147483648)
  | 2 => exact fun x hx => by revert x; exact (by decide : ∀ x ∈ ([-1, -1, -1, -1, -1, -1, 0, -1, -1, -1] : List Int), -2147483648 ≤ x ∧ x < 2147483648)
  | 3 => exact fun x hx => by revert x; exact (by decide : ∀ x ∈ ([-1, 0, 0, 1, 0, 4, 1] : List Int), -2147483648 ≤ x ∧ x < 2147483648)
  | k + 4 => exact fun x hx => by simp [stT] at hx
theorem R_L {x : Int} (h : inR x) : inL x := ⟨by have := h.1; omega, by have := h.2; omega⟩
theorem narZ {v : Int} (h : inZ v) : narrow .boolean (iv v) = iv v := by rcases h with rfl | rfl <;> rfl
theorem nat_in {n : Nat} (h : n < 2147483648) : inR (n : Int) := ⟨by omega, by omega⟩
theorem st_0 : stT[0]? = some ("MotherTowns$Slips", "TEN", [1, 10, 100, 1000, 10000, 100000]) := rfl
theorem st_1 : stT[1]? = some ("MotherTowns$Slips", "ALIKE", [6, 7, -1, 8, -1, 6, 5, 1, 3, -1]) := rfl
theorem st_2 : stT[2]? = some ("MotherTowns$Slips", "ALSO_ALIKE", [-1, -1, -1, -1, -1, -1, 0, -1, -1, -1]) := rfl
theorem st_3 : stT[3]? = some ("MotherTowns$Paths", "KIND_ABOVE", [-1, 0, 0, 1, 0, 4, 1]) := rfl
def isTr (o : Nat) : Prop := tab[o]? = some (.inr (8, none :: arD o 11)) ∧ tab[o + 1]? = some (.inl (0, 12)) ∧ tab[o + 2]? = some (.inl (0, 12)) ∧ tab[o + 3]? = some (.inl (0, 12)) ∧ tab[o + 4]? = some (.inl (0, 12)) ∧ tab[o + 5]? = some (.inl (0, 12)) ∧ tab[o + 6]? = some (.inl (0, 12)) ∧ tab[o + 7]? = some (.inl (0, 12)) ∧ tab[o + 8]? = some (.inl (0, 16)) ∧ tab[o + 9]? = some (.inl (0, 48)) ∧ tab[o + 10]? = some (.inl (0, 48)) ∧ tab[o + 11]? = some (.inl (0, 48))
def isSh (o : Nat) : Prop := tab[o]? = some (.inr (6, [none, none, none, none, some (o + 1)])) ∧ tab[o + 1]? = some (.inl (1, 60))
theorem tr_1 {o : Nat} (h : isTr o) : tab[o + 1]? = some (.inl (0, 12)) := h.2.1
theorem tr_2 {o : Nat} (h : isTr o) : tab[o + 2]? = some (.inl (0, 12)) := h.2.2.1
theorem tr_3 {o : Nat} (h : isTr o) : tab[o + 3]? = some (.inl (0, 12)) := h.2.2.2.1
theorem tr_4 {o : Nat} (h : isTr o) : tab[o + 4]? = some (.inl (0, 12)) := h.2.2.2.2.1
theorem tr_5 {o : Nat} (h : isTr o) : tab[o + 5]? = some (.inl (0, 12)) := h.2.2.2.2.2.1
theorem tr_6 {o : Nat} (h : isTr o) : tab[o + 6]? = some (.inl (0, 12)) := h.2.2.2.2.2.2.1
theorem tr_7 {o : Nat} (h : isTr o) : tab[o + 7]? = some (.inl (0, 12)) := h.2.2.2.2.2.2.2.1
theorem tr_8 {o : Nat} (h : isTr o) : tab[o + 8]? = some (.inl (0, 16)) := h.2.2.2.2.2.2.2.2.1
theorem tr_9 {o : Nat} (h : isTr o) : tab[o + 9]? = some (.inl (0, 48)) := h.2.2.2.2.2.2.2.2.2.1
theorem tr_10 {o : Nat} (h : isTr o) : tab[o + 10]? = some (.inl (0, 48)) := h.2.2.2.2.2.2.2.2.2.2.1
theorem tr_11 {o : Nat} (h : isTr o) : tab[o + 11]? = some (.inl (0, 48)) := h.2.2.2.2.2.2.2.2.2.2.2
theorem tr_c14 : isTr 14 := ⟨rfl, rfl, rfl, rfl, rfl, rfl, rfl, rfl, rfl, rfl, rfl, rfl⟩
theorem tr_c32 : isTr 32 := ⟨rfl, rfl, rfl, rfl, rfl, rfl, rfl, rfl, rfl, rfl, rfl, rfl⟩
theorem tr_c54 : isTr 54 := ⟨rfl, rfl, rfl, rfl, rfl, rfl, rfl, rfl, rfl, rfl, rfl, rfl⟩
theorem sh_of {i : Int} (h0 : 0 ≤ i) (h1 : i < 6) : isSh (71 + 2 * i.toNat) := by
  rcases (show i = 0 ∨ i = 1 ∨ i = 2 ∨ i = 3 ∨ i = 4 ∨ i = 5 by omega) with rfl | rfl | rfl | rfl | rfl | rfl <;> exact ⟨rfl, rfl⟩
theorem dc {cc : ByteArray} {tb : List (Nat × (Instr × Nat))} (h : (tb.all fun q => decide (decode cc q.1 = .ok q.2)) = true) (k : Nat) {pc n : Nat} {i : Instr} (hk : tb[k]? = some (pc, (i, n))) : decode cc pc = .ok (i, n) := by
  have := List.all_eq_true.mp h _ (List.mem_of_getElem? hk)
  exact of_decide_eq_true this
theorem tc_2 : tab[2]? = some (.inl (0, 120)) := rfl
theorem tc_3 : tab[3]? = some (.inl (0, 16)) := rfl
theorem tc_5 : tab[5]? = some (.inl (0, 12)) := rfl
theorem tc_6 : tab[6]? = some (.inl (0, 12)) := rfl
theorem tc_7 : tab[7]? = some (.inl (0, 12)) := rfl
theorem tc_8 : tab[8]? = some (.inl (0, 12)) := rfl
theorem tc_9 : tab[9]? = some (.inl (0, 209)) := rfl
theorem tc_10 : tab[10]? = some (.inl (0, 40)) := rfl
theorem tc_11 : tab[11]? = some (.inl (0, 40)) := rfl
theorem tc_12 : tab[12]? = some (.inl (0, 40)) := rfl
theorem tc_13 : tab[13]? = some (.inl (0, 16)) := rfl
theorem tc_15 : tab[15]? = some (.inl (0, 12)) := rfl
theorem tc_16 : tab[16]? = some (.inl (0, 12)) := rfl
theorem tc_17 : tab[17]? = some (.inl (0, 12)) := rfl
theorem tc_18 : tab[18]? = some (.inl (0, 12)) := rfl
theorem tc_19 : tab[19]? = some (.inl (0, 12)) := rfl
theorem tc_20 : tab[20]? = some (.inl (0, 12)) := rfl
theorem tc_21 : tab[21]? = some (.inl (0, 12)) := rfl
theorem tc_22 : tab[22]? = some (.inl (0, 16)) := rfl
theorem tc_23 : tab[23]? = some (.inl (0, 48)) := rfl
theorem tc_24 : tab[24]? = some (.inl (0, 48)) := rfl
theorem tc_25 : tab[25]? = some (.inl (0, 48)) := rfl
theorem tc_27 : tab[27]? = some (.inl (0, 192)) := rfl
theorem tc_28 : tab[28]? = some (.inl (0, 6)) := rfl
theorem tc_29 : tab[29]? = some (.inl (0, 21)) := rfl
theorem tc_30 : tab[30]? = some (.inl (0, 4)) := rfl
theorem tc_33 : tab[33]? = some (.inl (0, 12)) := rfl
theorem tc_34 : tab[34]? = some (.inl (0, 12)) := rfl
theorem tc_35 : tab[35]? = some (.inl (0, 12)) := rfl
theorem tc_36 : tab[36]? = some (.inl (0, 12)) := rfl
theorem tc_37 : tab[37]? = some (.inl (0, 12)) := rfl
theorem tc_38 : tab[38]? = some (.inl (0, 12)) := rfl
theorem tc_39 : tab[39]? = some (.inl (0, 12)) := rfl
theorem tc_40 : tab[40]? = some (.inl (0, 16)) := rfl
theorem tc_41 : tab[41]? = some (.inl (0, 48)) := rfl
theorem tc_42 : tab[42]? = some (.inl (0, 48)) := rfl
theorem tc_43 : tab[43]? = some (.inl (0, 48)) := rfl
theorem tc_44 : tab[44]? = some (.inl (0, 6)) := rfl
theorem tc_45 : tab[45]? = some (.inl (0, 7776)) := rfl
theorem tc_46 : tab[46]? = some (.inl (0, 6)) := rfl
theorem tc_47 : tab[47]? = some (.inl (0, 7)) := rfl
theorem tc_48 : tab[48]? = some (.inl (0, 36)) := rfl
theorem tc_49 : tab[49]? = some (.inl (0, 16)) := rfl
theorem tc_50 : tab[50]? = some (.inl (0, 17)) := rfl
theorem tc_52 : tab[52]? = some (.inl (0, 16)) := rfl
theorem tc_55 : tab[55]? = some (.inl (0, 12)) := rfl
theorem tc_56 : tab[56]? = some (.inl (0, 12)) := rfl
theorem tc_57 : tab[57]? = some (.inl (0, 12)) := rfl
theorem tc_58 : tab[58]? = some (.inl (0, 12)) := rfl
theorem tc_59 : tab[59]? = some (.inl (0, 12)) := rfl
theorem tc_60 : tab[60]? = some (.inl (0, 12)) := rfl
theorem tc_61 : tab[61]? = some (.inl (0, 12)) := rfl
theorem tc_62 : tab[62]? = some (.inl (0, 16)) := rfl
theorem tc_63 : tab[63]? = some (.inl (0, 48)) := rfl
theorem tc_64 : tab[64]? = some (.inl (0, 48)) := rfl
theorem tc_65 : tab[65]? = some (.inl (0, 48)) := rfl
theorem tc_67 : tab[67]? = some (.inl (0, 100)) := rfl
theorem tc_68 : tab[68]? = some (.inl (0, 24)) := rfl
theorem tc_69 : tab[69]? = some (.inl (0, 100)) := rfl
theorem tc_70 : tab[70]? = some (.inl (4, 6)) := rfl
theorem tc_72 : tab[72]? = some (.inl (1, 60)) := rfl
theorem tc_74 : tab[74]? = some (.inl (1, 60)) := rfl
theorem tc_76 : tab[76]? = some (.inl (1, 60)) := rfl
theorem tc_78 : tab[78]? = some (.inl (1, 60)) := rfl
theorem tc_80 : tab[80]? = some (.inl (1, 60)) := rfl
theorem tc_82 : tab[82]? = some (.inl (1, 60)) := rfl
theorem tc_84 : tab[84]? = some (.inl (0, 12)) := rfl
theorem tc_85 : tab[85]? = some (.inl (0, 12)) := rfl
theorem tc_86 : tab[86]? = some (.inl (0, 12)) := rfl
theorem tc_87 : tab[87]? = some (.inl (3, 12)) := rfl
theorem tc_88 : tab[88]? = some (.inl (0, 12)) := rfl
theorem tc_89 : tab[89]? = some (.inl (0, 192)) := rfl
theorem tc_90 : tab[90]? = some (.inl (0, 5)) := rfl
theorem tc_91 : tab[91]? = some (.inl (2, 120)) := rfl
theorem tc_92 : tab[92]? = some (.inl (0, 40)) := rfl
theorem tc_93 : tab[93]? = some (.inl (0, 40)) := rfl
theorem tc_94 : tab[94]? = some (.inl (0, 40)) := rfl
theorem tc_95 : tab[95]? = some (.inl (0, 40)) := rfl
theorem tc_96 : tab[96]? = some (.inl (0, 12)) := rfl
theorem tc_97 : tab[97]? = some (.inl (3, 12)) := rfl
theorem tc_98 : tab[98]? = some (.inl (0, 48)) := rfl
theorem tc_99 : tab[99]? = some (.inl (0, 48)) := rfl
theorem tc_100 : tab[100]? = some (.inl (0, 12)) := rfl
theorem tc_101 : tab[101]? = some (.inl (0, 12)) := rfl
theorem tc_102 : tab[102]? = some (.inl (0, 12)) := rfl
theorem tc_103 : tab[103]? = some (.inl (0, 6)) := rfl
theorem tc_104 : tab[104]? = some (.inl (0, 6)) := rfl
theorem tc_105 : tab[105]? = some (.inl (0, 7776)) := rfl
theorem tc_106 : tab[106]? = some (.inl (0, 60)) := rfl
theorem tc_107 : tab[107]? = some (.inl (0, 192)) := rfl
theorem tc_108 : tab[108]? = some (.inl (0, 4)) := rfl
theorem tc_109 : tab[109]? = some (.inl (0, 6)) := rfl
theorem tc_110 : tab[110]? = some (.inl (0, 21)) := rfl
theorem tc_111 : tab[111]? = some (.inl (0, 120)) := rfl
theorem tc_112 : tab[112]? = some (.inl (0, 6)) := rfl
theorem tc_113 : tab[113]? = some (.inl (0, 6)) := rfl
theorem tc_114 : tab[114]? = some (.inl (0, 24)) := rfl
theorem tc_115 : tab[115]? = some (.inl (0, 4)) := rfl
theorem tc_116 : tab[116]? = some (.inl (0, 100)) := rfl
theorem tc_117 : tab[117]? = some (.inl (0, 100)) := rfl
theorem tc_118 : tab[118]? = some (.inl (0, 24)) := rfl
theorem tc_119 : tab[119]? = some (.inl (0, 6)) := rfl
theorem tc_120 : tab[120]? = some (.inl (0, 6)) := rfl
theorem tc_121 : tab[121]? = some (.inl (1, 360)) := rfl
theorem tc_122 : tab[122]? = some (.inl (1, 60)) := rfl
theorem tc_0 : tab[0]? = some (.inr (9, [some 1, some 4, some 14, some 26, some 31, some 51, some 53, some 66, some 70])) := rfl
theorem tc_1 : tab[1]? = some (.inr (7, [some 2, none, none, none, none, some 3, none])) := rfl
theorem tc_4 : tab[4]? = some (.inr (1, [none, some 5, some 6, some 7, some 8, some 9, some 10, some 11, some 12, some 13, none, none, none])) := rfl
theorem tc_26 : tab[26]? = some (.inr (4, [some 4, some 14, some 27, some 28, some 29, some 30])) := rfl
theorem tc_31 : tab[31]? = some (.inr (0, [some 4, some 32, none, none, none, some 44, some 45, some 46, some 47, some 48, some 49, some 50, none, none, none])) := rfl
theorem tc_51 : tab[51]? = some (.inr (3, [some 4, some 52])) := rfl
theorem tc_53 : tab[53]? = some (.inr (2, [some 4, some 54])) := rfl
theorem tc_66 : tab[66]? = some (.inr (5, [none, none, some 67, some 68, some 69, none, none, none])) := rfl
theorem tc_83 : tab[83]? = some (.inr (10, [none, none, some 84, some 85, some 86, some 87, some 88, some 89, some 90, some 91, none, none, none, none, none, some 92, some 93, some 94, some 95, some 96, some 97, some 98, some 99, some 100, none, none, some 101, some 102, none, some 103, some 104, none, none, none, some 105, some 106, some 107, some 108, some 109, some 110, none, some 111, some 112, some 113, some 114, some 115, none, some 116, some 117, none, some 118, some 119, some 120, some 121, some 122])) := rfl
theorem tc_14 : tab[14]? = some (.inr (8, none :: arD 14 11)) := rfl
theorem tc_32 : tab[32]? = some (.inr (8, none :: arD 32 11)) := rfl
theorem tc_54 : tab[54]? = some (.inr (8, none :: arD 54 11)) := rfl
theorem ite_or {α : Sort _} {c : Prop} [Decidable c] {a b r : α} (h : (if c then a else b) = r) : (c ∧ a = r) ∨ (¬ c ∧ b = r) := by
  by_cases hc : c
  · exact Or.inl ⟨hc, ite_t hc h⟩
  · exact Or.inr ⟨hc, ite_f hc h⟩
theorem cpy_ki {m : Mem} {k1 k2 k : Nat} {i j n x : Int} (h : k ≠ k2) : cpy m k1 i k2 j n k x = m k x := by rw [← cpy_o k h]
theorem wr_ka {m : Mem} {k k' : Nat} {i v x : Int} (h : k' ≠ k) : wr m k i v k' x = m k' x := by rw [wr_k h]
theorem wr_ki {m : Mem} {k k' : Nat} {i v x : Int} (h : ¬ (k' = k ∧ x = i)) : wr m k i v k' x = m k' x := if_neg h
