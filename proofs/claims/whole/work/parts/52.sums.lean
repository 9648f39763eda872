/-! sums over the numbers below k -/
def sm (g : Int → Int) : Nat → Int
  | 0 => 0
  | k + 1 => sm g k + g (k : Int)
theorem sm_c {g h : Int → Int} : ∀ k : Nat, (∀ i : Nat, i < k → g i = h i) → sm g k = sm h k
  | 0, _ => rfl
  | k + 1, e => by
    show sm g k + g k = sm h k + h k
    rw [sm_c k (fun i x => e i (by omega)), e k (by omega)]
theorem sm_0 {g : Int → Int} : ∀ k : Nat, (∀ i : Nat, i < k → g i = 0) → sm g k = 0
  | 0, _ => rfl
  | k + 1, e => by
    show sm g k + g k = 0
    rw [sm_0 k (fun i x => e i (by omega)), e k (by omega)]; rfl
theorem sm_le {g h : Int → Int} : ∀ k : Nat, (∀ i : Nat, i < k → g i ≤ h i) → sm g k ≤ sm h k
  | 0, _ => Int.le_refl _
  | k + 1, e => by
    show sm g k + g k ≤ sm h k + h k
    have := sm_le k (fun i x => e i (by omega)); have := e k (by omega); omega
theorem sm_nn {g : Int → Int} : ∀ k : Nat, (∀ i : Nat, i < k → 0 ≤ g i) → 0 ≤ sm g k
  | 0, _ => Int.le_refl _
  | k + 1, e => by
    show 0 ≤ sm g k + g k
    have := sm_nn k (fun i x => e i (by omega)); have := e k (by omega); omega
/-- one term more -/
theorem sm_add {g h : Int → Int} {x : Int} : ∀ (k j : Nat), j < k → (∀ i : Nat, i < k → i ≠ j → h i = g i) → h j = g j + x → sm h k = sm g k + x
  | 0, j, hj, _, _ => by omega
  | k + 1, j, hj, e, a => by
    show sm h k + h k = sm g k + g k + x
    by_cases z : j = k
    · subst z
      rw [sm_c j (g := h) (h := g) (fun i y => e i (by omega) (by omega)), a]; omega
    · rw [sm_add k j (by omega) (fun i y w => e i (by omega) w) a, e k (by omega) (by omega)]; omega
theorem sm_term {g : Int → Int} (k j : Nat) (hj : j < k) (h : ∀ i : Nat, i < k → 0 ≤ g i) : g j ≤ sm g k := by
  have := sm_add (g := fun i => if i = (j : Int) then 0 else g i) (h := g) (x := g j) k j hj (fun i x y => by rw [if_neg (by omega)]) (by rw [if_pos rfl]; omega)
  have z := sm_nn (g := fun i => if i = (j : Int) then 0 else g i) k (fun i x => by split; exact Int.le_refl _; exact h i x)
  omega
theorem sm_plus (g h : Int → Int) : ∀ k : Nat, sm (fun i => g i + h i) k = sm g k + sm h k
  | 0 => rfl
  | k + 1 => by
    show sm (fun i => g i + h i) k + (g k + h k) = sm g k + g k + (sm h k + h k)
    rw [sm_plus g h k]; omega
theorem sm_swap (h : Int → Int → Int) (l : Nat) : ∀ k : Nat, sm (fun a => sm (fun b => h a b) l) k = sm (fun b => sm (fun a => h a b) k) l
  | 0 => (sm_0 l (fun _ _ => rfl)).symm
  | k + 1 => by
    show sm (fun a => sm (fun b => h a b) l) k + sm (fun b => h k b) l = _
    rw [sm_swap h l k, ← sm_plus]; rfl
theorem sm_if {c : Prop} [Decidable c] {g : Int → Int} {k : Nat} : (if c then sm g k else 0) = sm (fun i => if c then g i else 0) k := by
  by_cases h : c
  · simp only [if_pos h]
  · simp only [if_neg h]; exact (sm_0 k (fun _ _ => rfl)).symm
theorem sm_sh (g : Int → Int) : ∀ k : Nat, sm g (k + 1) = g 0 + sm (fun i => g (i + 1)) k
  | 0 => by show (0 : Int) + g 0 = g 0 + 0; omega
  | k + 1 => by
    show sm g (k + 1) + g ((k + 1 : Nat) : Int) = g 0 + (sm (fun i => g (i + 1)) k + g ((k : Int) + 1))
    rw [sm_sh g k, show ((k + 1 : Nat) : Int) = (k : Int) + 1 by omega]; omega
/-- at most one term that is 1 -/
theorem sm_one {g : Int → Int} : ∀ k : Nat, (∀ i : Nat, i < k → g i = 0 ∨ g i = 1) → (∀ i j : Nat, i < k → j < k → g i = 1 → g j = 1 → i = j) → sm g k ≤ 1
  | 0, _, _ => by show (0 : Int) ≤ 1; omega
  | k + 1, a, b => by
    show sm g k + g k ≤ 1
    rcases a k (by omega) with h | h
    · have := sm_one k (fun i x => a i (by omega)) (fun i j x y => b i j (by omega) (by omega)); omega
    · have : sm g k = 0 := sm_0 k (fun i x => by
        rcases a i (by omega) with h' | h'
        · exact h'
        · have := b i k (by omega) (by omega) h' h; omega)
      omega
/-- the one term of a number -/
theorem sm_at {x : Int} {y : Int} : ∀ k : Nat, 0 ≤ x → x < k → sm (fun d => if x = d then y else 0) k = y
  | 0, h0, h1 => by omega
  | k + 1, h0, h1 => by
    show sm (fun d => if x = d then y else 0) k + (if x = (k : Int) then y else 0) = y
    by_cases z : x = k
    · rw [if_pos z, sm_0 k (fun i u => by rw [if_neg (by omega)])]; omega
    · rw [if_neg z, sm_at k h0 (by omega)]; omega
/-! the least of four -/
def mn1 (a : Int → Bool) (h : Int → Int) (s g : Int) : Int := if a g = true then (if h g < s then h g else s) else s
def mn4 (a : Int → Bool) (h : Int → Int) : Int := mn1 a h (mn1 a h (mn1 a h (mn1 a h 1000000 0) 1) 2) 3
theorem mn1_le (a : Int → Bool) (h : Int → Int) (s g : Int) : mn1 a h s g ≤ s := by unfold mn1; split; split; omega; omega; omega
theorem mn1_at {a : Int → Bool} {h : Int → Int} {s g : Int} (x : a g = true) : mn1 a h s g ≤ h g := by unfold mn1; rw [if_pos x]; split <;> omega
theorem mn1_or (a : Int → Bool) (h : Int → Int) (s g : Int) : mn1 a h s g = s ∨ (a g = true ∧ mn1 a h s g = h g) := by
  unfold mn1
  by_cases x : a g = true
  · rw [if_pos x]; split
    · exact Or.inr ⟨x, rfl⟩
    · exact Or.inl rfl
  · rw [if_neg x]; exact Or.inl rfl
theorem four {g : Int} (h0 : 0 ≤ g) (h1 : g < 4) : g = 0 ∨ g = 1 ∨ g = 2 ∨ g = 3 := by omega
theorem mn4_le {a : Int → Bool} {h : Int → Int} {g : Int} (h0 : 0 ≤ g) (h1 : g < 4) (x : a g = true) : mn4 a h ≤ h g := by
  unfold mn4
  have e1 := mn1_le a h (mn1 a h (mn1 a h (mn1 a h 1000000 0) 1) 2) 3
  have e2 := mn1_le a h (mn1 a h (mn1 a h 1000000 0) 1) 2
  have e3 := mn1_le a h (mn1 a h 1000000 0) 1
  rcases four h0 h1 with rfl | rfl | rfl | rfl
  · have := mn1_at (s := 1000000) (h := h) x; omega
  · have := mn1_at (s := mn1 a h 1000000 0) (h := h) x; omega
  · have := mn1_at (s := mn1 a h (mn1 a h 1000000 0) 1) (h := h) x; omega
  · exact mn1_at x
theorem mn4_or (a : Int → Bool) (h : Int → Int) : mn4 a h = 1000000 ∨ ∃ g, 0 ≤ g ∧ g < 4 ∧ a g = true ∧ mn4 a h = h g := by
  unfold mn4
  rcases mn1_or a h (mn1 a h (mn1 a h (mn1 a h 1000000 0) 1) 2) 3 with e | ⟨x, e⟩
  · rw [e]
    rcases mn1_or a h (mn1 a h (mn1 a h 1000000 0) 1) 2 with e | ⟨x, e⟩
    · rw [e]
      rcases mn1_or a h (mn1 a h 1000000 0) 1 with e | ⟨x, e⟩
      · rw [e]
        rcases mn1_or a h 1000000 0 with e | ⟨x, e⟩
        · exact Or.inl e
        · exact Or.inr ⟨0, by omega, by omega, x, e⟩
      · exact Or.inr ⟨1, by omega, by omega, x, e⟩
    · exact Or.inr ⟨2, by omega, by omega, x, e⟩
  · exact Or.inr ⟨3, by omega, by omega, x, e⟩
theorem mn4_lt {a : Int → Bool} {h : Int → Int} {g B : Int} (h0 : 0 ≤ g) (h1 : g < 4) (x : a g = true) (hB : h g ≤ B) (hB' : B < 1000000) : mn4 a h ≤ B ∧ ∃ g, 0 ≤ g ∧ g < 4 ∧ a g = true ∧ mn4 a h = h g := by
  have := mn4_le (h := h) h0 h1 x
  refine ⟨by omega, ?_⟩
  rcases mn4_or a h with e | e
  · omega
  · exact e
theorem mn1_c {a b : Int → Bool} {h k : Int → Int} {s t g : Int} (e : s = t) (x : a g = b g) (y : a g = true → h g = k g) : mn1 a h s g = mn1 b k t g := by
  unfold mn1
  rw [← x, e]
  by_cases z : a g = true
  · rw [if_pos z, if_pos z, y z]
  · rw [if_neg z, if_neg z]
theorem mn4_c {a b : Int → Bool} {h k : Int → Int} (x : ∀ g, 0 ≤ g → g < 4 → a g = b g) (y : ∀ g, 0 ≤ g → g < 4 → a g = true → h g = k g) : mn4 a h = mn4 b k :=
  mn1_c (mn1_c (mn1_c (mn1_c rfl (x 0 (by omega) (by omega)) (y 0 (by omega) (by omega))) (x 1 (by omega) (by omega)) (y 1 (by omega) (by omega))) (x 2 (by omega) (by omega)) (y 2 (by omega) (by omega))) (x 3 (by omega) (by omega)) (y 3 (by omega) (by omega))
theorem mn4_nn {a : Int → Bool} {h : Int → Int} (y : ∀ g, 0 ≤ g → g < 4 → a g = true → 0 ≤ h g) : 0 ≤ mn4 a h := by
  rcases mn4_or a h with e | ⟨g, g0, g1, g2, e⟩
  · omega
  · rw [e]; exact y g g0 g1 g2
