/-! the most that at most j of k things gain -/
def tk (a : Nat → Int) : Nat → Nat → Int
  | 0, _ => 0
  | _ + 1, 0 => 0
  | k + 1, j + 1 => max (tk a k (j + 1)) (tk a k j + a k)
def ss (a : Nat → Int) (s : Nat → Bool) : Nat → Int
  | 0 => 0
  | k + 1 => ss a s k + if s k = true then a k else 0
theorem tk_0 (a : Nat → Int) : ∀ k, tk a k 0 = 0
  | 0 => rfl
  | _ + 1 => rfl
theorem tk_s (a : Nat → Int) (k j : Nat) : tk a (k + 1) (j + 1) = max (tk a k (j + 1)) (tk a k j + a k) := rfl
theorem tk_m {a : Nat → Int} (ha : ∀ i, 0 ≤ a i) : ∀ (k j : Nat), 0 ≤ tk a k j ∧ tk a k j ≤ tk a k (j + 1)
  | 0, j => ⟨Int.le_refl _, Int.le_refl _⟩
  | k + 1, 0 => by
    have := tk_m ha k 0
    rw [tk_0, tk_s, tk_0] at *
    have := ha k
    have := tk_m ha k 1
    omega
  | k + 1, j + 1 => by
    have h1 := tk_m ha k j
    have h2 := tk_m ha k (j + 1)
    rw [tk_s, tk_s]
    have := ha k
    omega
theorem tk_c {a b : Nat → Int} : ∀ (k j : Nat), (∀ i, i < k → a i = b i) → tk a k j = tk b k j
  | 0, _, _ => rfl
  | _ + 1, 0, _ => rfl
  | k + 1, j + 1, h => by
    rw [tk_s, tk_s, tk_c k (j + 1) (fun i x => h i (by omega)), tk_c k j (fun i x => h i (by omega)), h k (by omega)]
theorem tk_le {a : Nat → Int} (ha : ∀ i, 0 ≤ a i) {B : Int} (hB : ∀ i, a i ≤ B) : ∀ (k j : Nat), tk a k j ≤ B * k
  | 0, _ => by show (0 : Int) ≤ B * ((0 : Nat) : Int); omega
  | k + 1, 0 => by
    have := ha 0; have := hB 0
    show (0 : Int) ≤ B * ((k + 1 : Nat) : Int)
    exact Int.mul_nonneg (by omega) (by omega)
  | k + 1, j + 1 => by
    have h1 := tk_le ha hB k (j + 1)
    have h2 := tk_le ha hB k j
    have := ha k; have := hB k
    have e2 : B * ((k + 1 : Nat) : Int) = B * (k : Int) + B := by rw [show ((k + 1 : Nat) : Int) = (k : Int) + 1 by omega, Int.mul_add, Int.mul_one]
    rw [tk_s, e2]; omega
theorem tk_ge {a : Nat → Int} (s : Nat → Bool) : ∀ (k j : Nat), cnt s k ≤ j → ss a s k ≤ tk a k j
  | 0, _, _ => Int.le_refl _
  | k + 1, 0, h => by
    have e : cnt s (k + 1) = cnt s k + if s k then 1 else 0 := rfl
    have ih := tk_ge (a := a) s k 0 (by omega)
    have e2 : ss a s (k + 1) = ss a s k + if s k = true then a k else 0 := rfl
    rw [tk_0] at ih ⊢
    cases hs : s k with
    | true => rw [hs] at e; simp at e; omega
    | false => rw [e2, hs, if_neg (by intro z; cases z)]; omega
  | k + 1, j + 1, h => by
    have e : cnt s (k + 1) = cnt s k + if s k then 1 else 0 := rfl
    have e2 : ss a s (k + 1) = ss a s k + if s k = true then a k else 0 := rfl
    rw [tk_s, e2]
    cases hs : s k with
    | true =>
      rw [hs] at e
      simp at e
      have ih := tk_ge (a := a) s k j (by omega)
      rw [if_pos rfl]; omega
    | false =>
      rw [hs] at e
      simp at e
      have ih := tk_ge (a := a) s k (j + 1) (by omega)
      rw [if_neg (by intro z; cases z)]; omega
theorem ss_c {a : Nat → Int} {s t : Nat → Bool} : ∀ k, (∀ i, i < k → s i = t i) → ss a s k = ss a t k
  | 0, _ => rfl
  | k + 1, h => by
    show ss a s k + (if s k = true then a k else 0) = ss a t k + (if t k = true then a k else 0)
    rw [ss_c k (fun i x => h i (by omega)), h k (by omega)]
theorem tk_ex {a : Nat → Int} (ha : ∀ i, 0 ≤ a i) : ∀ (k j : Nat), ∃ s : Nat → Bool, cnt s k ≤ j ∧ ss a s k = tk a k j ∧ ∀ i, s i = true → 0 < a i
  | 0, _ => ⟨fun _ => false, Nat.zero_le _, rfl, fun _ h => by cases h⟩
  | k + 1, 0 => by
    refine ⟨fun _ => false, ?_, ?_, fun _ h => by cases h⟩
    · have : ∀ n, cnt (fun _ => false) n = 0 := by
        intro n
        induction n with
        | zero => rfl
        | succ n ih => show cnt (fun _ => false) n + 0 = 0; rw [ih]
      rw [this]; omega
    · have : ∀ n, ss a (fun _ => false) n = 0 := by
        intro n
        induction n with
        | zero => rfl
        | succ n ih => show ss a (fun _ => false) n + 0 = 0; rw [ih]; rfl
      rw [this]; rfl
  | k + 1, j + 1 => by
    have m1 := tk_m ha k j
    by_cases z : 0 < a k ∧ tk a k (j + 1) ≤ tk a k j + a k
    · obtain ⟨s, s1, s2, s3⟩ := tk_ex ha k j
      refine ⟨fun i => if i = k then true else s i, ?_, ?_, fun i hi => ?_⟩
      · show cnt (fun i => if i = k then true else s i) k + (if (if k = k then true else s k) then 1 else 0) ≤ j + 1
        rw [cnt_c (p := s) (q := fun i => if i = k then true else s i) k (fun i x => if_neg (by omega)), if_pos (if_pos rfl)]; omega
      · show ss a (fun i => if i = k then true else s i) k + (if (if k = k then true else s k) = true then a k else 0) = _
        rw [ss_c (t := s) k (fun i x => if_neg (by omega)), if_pos (if_pos rfl), s2, tk_s]; omega
      · dsimp only at hi
        by_cases e : i = k
        · rw [e]; exact z.1
        · rw [if_neg e] at hi; exact s3 i hi
    · obtain ⟨s, s1, s2, s3⟩ := tk_ex ha k (j + 1)
      refine ⟨fun i => if i = k then false else s i, ?_, ?_, fun i hi => ?_⟩
      · show cnt (fun i => if i = k then false else s i) k + (if (if k = k then false else s k) then 1 else 0) ≤ j + 1
        rw [cnt_c (p := s) (q := fun i => if i = k then false else s i) k (fun i x => if_neg (by omega)), if_neg (by rw [if_pos rfl]; intro q; cases q)]; omega
      · show ss a (fun i => if i = k then false else s i) k + (if (if k = k then false else s k) = true then a k else 0) = _
        rw [ss_c (t := s) k (fun i x => if_neg (by omega)), if_neg (by rw [if_pos rfl]; intro q; cases q), s2, tk_s]
        have := ha k
        omega
      · dsimp only at hi
        by_cases e : i = k
        · rw [if_pos e] at hi; cases hi
        · rw [if_neg e] at hi; exact s3 i hi
/-! the sums: of at most a borrowings, with R for one chapter more -/
def mxs (f R : Nat → Int) (a : Nat) : Nat → Int
  | 0 => f a + R 0
  | b + 1 => max (mxs f R a b) (f (a - (b + 1)) + R (b + 1))
def svn (f R : Nat → Int) (a : Nat) : Int := mxs f R a (min 5 a)
theorem mxs_ge (f R : Nat → Int) (a : Nat) : ∀ n b, b ≤ n → f (a - b) + R b ≤ mxs f R a n
  | 0, b, h => by
    have : b = 0 := by omega
    subst this; exact Int.le_refl _
  | n + 1, b, h => by
    show _ ≤ max (mxs f R a n) _
    by_cases e : b = n + 1
    · subst e; omega
    · have := mxs_ge f R a n b (by omega); omega
theorem mxs_ex (f R : Nat → Int) (a : Nat) : ∀ n, ∃ b, b ≤ n ∧ mxs f R a n = f (a - b) + R b
  | 0 => ⟨0, Nat.le_refl _, rfl⟩
  | n + 1 => by
    obtain ⟨b, b1, b2⟩ := mxs_ex f R a n
    by_cases e : mxs f R a n ≤ f (a - (n + 1)) + R (n + 1)
    · exact ⟨n + 1, Nat.le_refl _, by show max _ _ = _; omega⟩
    · exact ⟨b, by omega, by show max _ _ = _; rw [b2] at *; omega⟩
/-- R is the running most of g -/
def rmx (g R : Nat → Int) : Prop := ∀ j, j ≤ 5 → (∀ b, b ≤ j → g b ≤ R j) ∧ ∃ b, b ≤ j ∧ g b = R j
theorem svn_g {f g R : Nat → Int} (hf : ∀ x y, x ≤ y → f x ≤ f y) (hr : rmx g R) (a : Nat) : svn f g a = svn f R a := by
  unfold svn
  apply Int.le_antisymm
  · obtain ⟨b, b1, b2⟩ := mxs_ex f g a (min 5 a)
    have := mxs_ge f R a (min 5 a) b b1
    have := (hr b (by omega)).1 b (Nat.le_refl _)
    omega
  · obtain ⟨j, j1, j2⟩ := mxs_ex f R a (min 5 a)
    obtain ⟨b, b1, b2⟩ := (hr j (by omega)).2
    have := mxs_ge f g a (min 5 a) b (by omega)
    have := hf (a - j) (a - b) (by omega)
    omega
theorem svn_m {f R : Nat → Int} (hf : ∀ x y, x ≤ y → f x ≤ f y) : ∀ x y, x ≤ y → svn f R x ≤ svn f R y := fun x y h => by
  unfold svn
  obtain ⟨b, b1, b2⟩ := mxs_ex f R x (min 5 x)
  have := mxs_ge f R y (min 5 y) b (by omega)
  have := hf (x - b) (y - b) (by omega)
  omega
theorem svn_b {f R : Nat → Int} {A B : Int} (hf : ∀ x, 0 ≤ f x ∧ f x ≤ A) (hR : ∀ b, b ≤ 5 → 0 ≤ R b ∧ R b ≤ B) : ∀ x, 0 ≤ svn f R x ∧ svn f R x ≤ A + B := fun x => by
  unfold svn
  obtain ⟨b, b1, b2⟩ := mxs_ex f R x (min 5 x)
  have := hf (x - b)
  have := hR b (by omega)
  omega
