/-! what holds between the calls: the class's cells and the reference's say the same -/
def isF (v : Int) : Prop := (0 ≤ v ∧ v < 4) ∨ v = 9
def iCh (m : Mem) : Prop := 0 ≤ rd m 83 1 ∧ rd m 83 1 ≤ 12 ∧ rd m 4 0 = rd m 83 1 ∧
  (∀ c, 0 ≤ c → c < rd m 83 1 → rd m 5 c = rd m 84 c ∧ rd m 6 c = rd m 85 c ∧ rd m 7 c = rd m 86 c ∧ rd m 8 c = rd m 87 c ∧ 0 ≤ rd m 84 c ∧ rd m 84 c ≤ rd m 85 c ∧ rd m 85 c ≤ 999 ∧ -1 ≤ rd m 86 c ∧ rd m 86 c < c ∧ inZ (rd m 87 c)) ∧
  (∀ c, rd m 83 1 ≤ c → c < 12 → rd m 8 c = 0)
def iCe (m : Mem) : Prop :=
  (∀ c k, 0 ≤ c → c < rd m 83 1 → 0 ≤ k → k < 16 → rd m 9 (16 * c + k) = rd m 89 (16 * c + k) ∧ isF (rd m 89 (16 * c + k))) ∧
  (∀ k, 0 ≤ k → k < 5 → rd m 9 (192 + k) = rd m 90 k ∧ 0 ≤ rd m 90 k ∧ rd m 90 k ≤ 99) ∧
  (∀ c, 0 ≤ c → c < rd m 83 1 → rd m 9 (197 + c) = rd m 88 c)
def iTo (m : Mem) : Prop := ∀ k, 0 ≤ k → k < 16 → rd m 13 k = 9
/-- a change that is kept: which cell, by both sides -/
def logC (m : Mem) (i : Int) : Prop :=
  (rd m 92 i = 0 ∧ 0 ≤ rd m 93 i ∧ rd m 93 i < 16 * rd m 83 1 ∧ rd m 10 i = rd m 93 i ∧ isF (rd m 94 i) ∧ isF (rd m 95 i)) ∨
  (rd m 92 i = 1 ∧ 0 ≤ rd m 93 i ∧ rd m 93 i < 5 ∧ rd m 10 i = 192 + rd m 93 i ∧ 0 ≤ rd m 94 i ∧ rd m 94 i ≤ 99 ∧ 0 ≤ rd m 95 i ∧ rd m 95 i ≤ 99) ∨
  (rd m 92 i = 2 ∧ 0 ≤ rd m 93 i ∧ rd m 93 i < rd m 83 1 ∧ rd m 10 i = 197 + rd m 93 i)
def iLo (m : Mem) : Prop := 0 ≤ rd m 83 13 ∧ 0 ≤ rd m 83 14 ∧ rd m 83 13 + rd m 83 14 ≤ 40 ∧ rd m 4 10 = rd m 83 13 ∧ rd m 4 11 = rd m 83 14 ∧
  ∀ i, 0 ≤ i → i < rd m 83 13 + rd m 83 14 → rd m 11 i = rd m 94 i ∧ rd m 12 i = rd m 95 i ∧ logC m i
/-- mothers: within, and no ring (a rank) -/
def acyc (C : Int) (f : Int → Int) : Prop := (∀ c, 0 ≤ c → c < C → -1 ≤ f c ∧ f c < C) ∧ ∃ rk : Int → Nat, ∀ c, 0 ≤ c → c < C → 0 ≤ f c → rk (f c) < rk c
/-- the mothers at each place of the kept changes -/
def iHi (m : Mem) : Prop := ∃ h : Int → Int → Int,
  (∀ j, 0 ≤ j → j ≤ rd m 83 13 + rd m 83 14 → acyc (rd m 83 1) (h j)) ∧
  (∀ c, 0 ≤ c → c < rd m 83 1 → h (rd m 83 13) c = rd m 88 c) ∧
  (∀ j, 0 ≤ j → j < rd m 83 13 + rd m 83 14 → rd m 92 j = 2 → h j (rd m 93 j) = rd m 94 j ∧ h (j + 1) (rd m 93 j) = rd m 95 j) ∧
  (∀ j c, 0 ≤ j → j < rd m 83 13 + rd m 83 14 → 0 ≤ c → c < rd m 83 1 → ¬ (rd m 92 j = 2 ∧ rd m 93 j = c) → h (j + 1) c = h j c)
def iTp (m : Mem) : Prop := 0 ≤ rd m 1 1 ∧ rd m 1 1 ≤ 120 ∧ rd m 83 10 = rd m 1 1 ∧ ∀ i, 0 ≤ i → i < rd m 1 1 → 0 ≤ rd m 2 i ∧ rd m 2 i ≤ 255 ∧ rd m 91 i = i8 (rd m 2 i)
def iPa (m : Mem) : Prop := 0 ≤ rd m 66 0 ∧ rd m 66 0 ≤ 100 ∧ rd m 83 46 = rd m 66 0 ∧
  (∀ i, 0 ≤ i → i < rd m 66 0 → 0 ≤ rd m 67 i ∧ rd m 67 i ≤ 6 ∧ rd m 116 i = rd m 67 i ∧ rd m 117 i = rd m 69 i ∧ 0 ≤ rd m 69 i ∧ rd m 69 i < 12) ∧
  0 ≤ rd m 66 1 ∧ rd m 66 1 ≤ 100 ∧ rd m 83 49 = rd m 66 1 ∧ (∀ i, 0 ≤ i → i < 24 → i < rd m 66 1 → rd m 68 i = rd m 118 i)
def shH (m : Mem) (s : Int) : Prop :=
  (rd m (71 + 2 * s.toNat) 0 = 0 ∧ rd m 119 s = -1) ∨
  (rd m (71 + 2 * s.toNat) 0 = 1 ∧ 0 ≤ rd m 119 s ∧ rd m 119 s < rd m 66 0 ∧ rd m (71 + 2 * s.toNat) 1 = rd m 119 s) ∨
  (rd m (71 + 2 * s.toNat) 0 = 2 ∧ 0 ≤ rd m (71 + 2 * s.toNat) 2 ∧ rd m (71 + 2 * s.toNat) 2 ≤ 4 ∧ rd m 119 s = -2 - rd m (71 + 2 * s.toNat) 2)
def iSh (m : Mem) : Prop := (∀ s, 0 ≤ s → s < 6 → shH m s ∧ rd m (71 + 2 * s.toNat) 3 = rd m 120 s ∧ 0 ≤ rd m 120 s ∧ rd m 120 s ≤ 60) ∧
  ∀ s j, 0 ≤ s → s < 6 → 0 ≤ j → j < 60 → rl m (71 + 2 * s.toNat + 1) j = rl m 121 (60 * s + j)
def iLi (m : Mem) : Prop := 0 ≤ rd m 31 2 ∧ rd m 31 2 ≤ 6 ∧ rd m 83 28 = rd m 31 2 ∧
  (∀ i, 0 ≤ i → i < rd m 31 2 → rd m 44 i = rd m 103 i ∧ 0 ≤ rd m 103 i ∧ rd m 103 i < rd m 83 1) ∧
  (∀ i j, 0 ≤ i → i < rd m 31 2 → 0 ≤ j → j < rd m 31 2 → rd m 103 i = rd m 103 j → i = j)
/-- what is kept of the best trees, by both sides -/
def bestR (m : Mem) : Prop := 2 ≤ rd m 31 2 ∧ 0 ≤ rd m 31 3 ∧ rd m 31 3 ≤ 7776 ∧ rd m 83 33 = rd m 31 3 ∧ (0 < rd m 31 3 → rd m 31 4 = rd m 83 32) ∧
  (∀ i p, 0 ≤ i → i < rd m 31 3 → 0 ≤ p → p < rd m 31 2 → 0 ≤ rd m 105 i ∧ F0_chosen m (rd m 45 i) p = some (rd m 105 i / 10 ^ (rd m 31 2 - 1 - p).toNat % 10)) ∧
  (∀ p, 0 < rd m 31 3 → 0 ≤ p → p < rd m 31 2 → 0 ≤ rd m 46 p ∧ rd m 46 p < 1024 ∧
    (∀ d, 0 ≤ d → d < 10 → 0 ≤ rd m 106 (10 * p + d) ∧ ((rd m 46 p).toNat.testBit d.toNat = true ↔ 0 < rd m 106 (10 * p + d))) ∧
    rd m 106 (10 * p) + rd m 106 (10 * p + 1) + rd m 106 (10 * p + 2) + rd m 106 (10 * p + 3) + rd m 106 (10 * p + 4) + rd m 106 (10 * p + 5) + rd m 106 (10 * p + 6) + rd m 106 (10 * p + 7) + rd m 106 (10 * p + 8) + rd m 106 (10 * p + 9) = rd m 31 3)
def iBt (n : Nat) (m : Mem) : Prop := -1 ≤ rd m 31 14 ∧ rd m 31 14 ≤ rd m 4 12 ∧ 0 ≤ rd m 4 12 ∧ rd m 4 12 ≤ 16 * (n : Int) ∧ inZ (rd m 83 31) ∧ (rd m 83 31 = 1 ↔ rd m 31 14 = rd m 4 12) ∧ (rd m 31 14 = rd m 4 12 → bestR m)
def Inv (n : Nat) (m : Mem) : Prop := iCh m ∧ iCe m ∧ iTo m ∧ iLo m ∧ iHi m ∧ iTp m ∧ iPa m ∧ iSh m ∧ iLi m ∧ iBt n m
/-- the places that live between calls -/
def PS (k : Nat) (i : Int) : Prop := (k = 1 ∧ i = 1) ∨ k = 2 ∨ k = 4 ∨ (5 ≤ k ∧ k ≤ 13) ∨ (k = 31 ∧ (i = 2 ∨ i = 3 ∨ i = 4 ∨ i = 14)) ∨ (44 ≤ k ∧ k ≤ 47) ∨ (66 ≤ k ∧ k ≤ 69 ∧ ¬ (k = 66 ∧ 5 ≤ i)) ∨ (71 ≤ k ∧ k ≤ 82) ∨
  (k = 83 ∧ (i = 1 ∨ i = 10 ∨ i = 13 ∨ i = 14 ∨ i = 28 ∨ i = 31 ∨ i = 32 ∨ i = 33 ∨ i = 46 ∨ i = 49)) ∨ (84 ≤ k ∧ k ≤ 95) ∨ k = 103 ∨ k = 105 ∨ k = 106 ∨ (116 ≤ k ∧ k ≤ 121)
theorem rd_eq {m m' : Mem} {k : Nat} {i : Int} (h : m' k i = m k i) : rd m' k i = rd m k i := by unfold rd; rw [h]
theorem rl_eq {m m' : Mem} {k : Nat} {i : Int} (h : m' k i = m k i) : rl m' k i = rl m k i := by unfold rl; rw [h]
/-- the same at the places that live: as far as Inv goes the same memory -/
theorem Inv_same {n : Nat} {m m' : Mem} (h : ∀ k i, PS k i → m' k i = m k i) (hI : Inv n m) : Inv n m' := by
  have g : ∀ k i, PS k i → rd m' k i = rd m k i := fun k i q => rd_eq (h k i q)
  have e1 : ∀ i, i = 1 → rd m' 1 i = rd m 1 i := fun i q => g 1 i (Or.inl ⟨rfl, q⟩)
  have c2 : ∀ i, rd m' 2 i = rd m 2 i := fun i => g 2 i (by unfold PS; omega)
  have c4 : ∀ i, rd m' 4 i = rd m 4 i := fun i => g 4 i (by unfold PS; omega)
  have c5 : ∀ i, rd m' 5 i = rd m 5 i := fun i => g 5 i (by unfold PS; omega)
  have c6 : ∀ i, rd m' 6 i = rd m 6 i := fun i => g 6 i (by unfold PS; omega)
  have c7 : ∀ i, rd m' 7 i = rd m 7 i := fun i => g 7 i (by unfold PS; omega)
  have c8 : ∀ i, rd m' 8 i = rd m 8 i := fun i => g 8 i (by unfold PS; omega)
  have c9 : ∀ i, rd m' 9 i = rd m 9 i := fun i => g 9 i (by unfold PS; omega)
  have c10 : ∀ i, rd m' 10 i = rd m 10 i := fun i => g 10 i (by unfold PS; omega)
  have c11 : ∀ i, rd m' 11 i = rd m 11 i := fun i => g 11 i (by unfold PS; omega)
  have c12 : ∀ i, rd m' 12 i = rd m 12 i := fun i => g 12 i (by unfold PS; omega)
  have c13 : ∀ i, rd m' 13 i = rd m 13 i := fun i => g 13 i (by unfold PS; omega)
  have a2 : rd m' 31 2 = rd m 31 2 := g 31 2 (by unfold PS; omega)
  have a3 : rd m' 31 3 = rd m 31 3 := g 31 3 (by unfold PS; omega)
  have a4 : rd m' 31 4 = rd m 31 4 := g 31 4 (by unfold PS; omega)
  have a14 : rd m' 31 14 = rd m 31 14 := g 31 14 (by unfold PS; omega)
  have c44 : ∀ i, rd m' 44 i = rd m 44 i := fun i => g 44 i (by unfold PS; omega)
  have c45 : ∀ i, rd m' 45 i = rd m 45 i := fun i => g 45 i (by unfold PS; omega)
  have c46 : ∀ i, rd m' 46 i = rd m 46 i := fun i => g 46 i (by unfold PS; omega)
  have c47 : ∀ i, rd m' 47 i = rd m 47 i := fun i => g 47 i (by unfold PS; omega)
  have b0 : rd m' 66 0 = rd m 66 0 := g 66 0 (by unfold PS; omega)
  have b1' : rd m' 66 1 = rd m 66 1 := g 66 1 (by unfold PS; omega)
  have c67 : ∀ i, rd m' 67 i = rd m 67 i := fun i => g 67 i (by unfold PS; omega)
  have c68 : ∀ i, rd m' 68 i = rd m 68 i := fun i => g 68 i (by unfold PS; omega)
  have c69 : ∀ i, rd m' 69 i = rd m 69 i := fun i => g 69 i (by unfold PS; omega)
  have d1 : rd m' 83 1 = rd m 83 1 := g 83 1 (by unfold PS; omega)
  have d10 : rd m' 83 10 = rd m 83 10 := g 83 10 (by unfold PS; omega)
  have d13 : rd m' 83 13 = rd m 83 13 := g 83 13 (by unfold PS; omega)
  have d14 : rd m' 83 14 = rd m 83 14 := g 83 14 (by unfold PS; omega)
  have d28 : rd m' 83 28 = rd m 83 28 := g 83 28 (by unfold PS; omega)
  have d31 : rd m' 83 31 = rd m 83 31 := g 83 31 (by unfold PS; omega)
  have d32 : rd m' 83 32 = rd m 83 32 := g 83 32 (by unfold PS; omega)
  have d33 : rd m' 83 33 = rd m 83 33 := g 83 33 (by unfold PS; omega)
  have d46 : rd m' 83 46 = rd m 83 46 := g 83 46 (by unfold PS; omega)
  have d49 : rd m' 83 49 = rd m 83 49 := g 83 49 (by unfold PS; omega)
  have c84 : ∀ i, rd m' 84 i = rd m 84 i := fun i => g 84 i (by unfold PS; omega)
  have c85 : ∀ i, rd m' 85 i = rd m 85 i := fun i => g 85 i (by unfold PS; omega)
  have c86 : ∀ i, rd m' 86 i = rd m 86 i := fun i => g 86 i (by unfold PS; omega)
  have c87 : ∀ i, rd m' 87 i = rd m 87 i := fun i => g 87 i (by unfold PS; omega)
  have c88 : ∀ i, rd m' 88 i = rd m 88 i := fun i => g 88 i (by unfold PS; omega)
  have c89 : ∀ i, rd m' 89 i = rd m 89 i := fun i => g 89 i (by unfold PS; omega)
  have c90 : ∀ i, rd m' 90 i = rd m 90 i := fun i => g 90 i (by unfold PS; omega)
  have c91 : ∀ i, rd m' 91 i = rd m 91 i := fun i => g 91 i (by unfold PS; omega)
  have c92 : ∀ i, rd m' 92 i = rd m 92 i := fun i => g 92 i (by unfold PS; omega)
  have c93 : ∀ i, rd m' 93 i = rd m 93 i := fun i => g 93 i (by unfold PS; omega)
  have c94 : ∀ i, rd m' 94 i = rd m 94 i := fun i => g 94 i (by unfold PS; omega)
  have c95 : ∀ i, rd m' 95 i = rd m 95 i := fun i => g 95 i (by unfold PS; omega)
  have c103 : ∀ i, rd m' 103 i = rd m 103 i := fun i => g 103 i (by unfold PS; omega)
  have c105 : ∀ i, rd m' 105 i = rd m 105 i := fun i => g 105 i (by unfold PS; omega)
  have c106 : ∀ i, rd m' 106 i = rd m 106 i := fun i => g 106 i (by unfold PS; omega)
  have c116 : ∀ i, rd m' 116 i = rd m 116 i := fun i => g 116 i (by unfold PS; omega)
  have c117 : ∀ i, rd m' 117 i = rd m 117 i := fun i => g 117 i (by unfold PS; omega)
  have c118 : ∀ i, rd m' 118 i = rd m 118 i := fun i => g 118 i (by unfold PS; omega)
  have c119 : ∀ i, rd m' 119 i = rd m 119 i := fun i => g 119 i (by unfold PS; omega)
  have c120 : ∀ i, rd m' 120 i = rd m 120 i := fun i => g 120 i (by unfold PS; omega)
  have cs : ∀ (s i : Int), 0 ≤ s → s < 6 → rd m' (71 + 2 * s.toNat) i = rd m (71 + 2 * s.toNat) i := fun s i h0 h1 => g _ i (by unfold PS; omega)
  have cl : ∀ (s i : Int), 0 ≤ s → s < 6 → rl m' (71 + 2 * s.toNat + 1) i = rl m (71 + 2 * s.toNat + 1) i := fun s i h0 h1 => rl_eq (h _ i (by unfold PS; omega))
  have c121 : ∀ i, rl m' 121 i = rl m 121 i := fun i => rl_eq (h 121 i (by unfold PS; omega))
  obtain ⟨h1, h2, h3, h4, h5, h6, h7, h8, h9, h10⟩ := hI
  refine ⟨?_, ?_, ?_, ?_, ?_, ?_, ?_, ?_, ?_, ?_⟩
  · unfold iCh; simp only [d1, c4, c5, c6, c7, c8, c84, c85, c86, c87]; exact h1
  · unfold iCe; simp only [d1, c9, c88, c89, c90]; exact h2
  · unfold iTo; simp only [c13]; exact h3
  · unfold iLo logC; simp only [d1, d13, d14, c4, c10, c11, c12, c92, c93, c94, c95]; exact h4
  · unfold iHi; simp only [d1, d13, d14, c88, c92, c93, c94, c95]; exact h5
  · unfold iTp; simp only [e1 1 rfl, d10, c2, c91]; exact h6
  · unfold iPa; simp only [b0, b1', d46, d49, c67, c68, c69, c116, c117, c118]; exact h7
  · refine ⟨fun s q1 q2 => ?_, fun s j q1 q2 q3 q4 => ?_⟩
    · unfold shH; simp only [cs s _ q1 q2, b0, c119, c120]; exact h8.1 s q1 q2
    · rw [cl s j q1 q2, c121]; exact h8.2 s j q1 q2 q3 q4
  · unfold iLi; simp only [a2, d1, d28, c44, c103]; exact h9
  · unfold iBt bestR F0_chosen; simp only [a2, a3, a4, a14, c4, d31, d32, d33, c45, c46, c47, c105, c106]; exact h10
theorem Inv_mono {n n' : Nat} {m : Mem} (h : n ≤ n') (hI : Inv n m) : Inv n' m := by
  obtain ⟨h1, h2, h3, h4, h5, h6, h7, h8, h9, a, b, c, d, e⟩ := hI
  exact ⟨h1, h2, h3, h4, h5, h6, h7, h8, h9, a, b, c, by omega, e⟩
theorem fu_pos {k : Nat} (h : k < 100000) : ∃ j, FU = j + 1 ∧ k ≤ j := ⟨99999, rfl, by omega⟩
