/-! the fewest slips of the class -/
def RC : Nat → List Int → List Int → Prop
  | 0, ds, es => ds = es
  | k + 1, ds, es => ∃ i, i < 24 ∧ vd (gro ds i) = true ∧ RC k (gro ds i) es
def FW (ds es : List Int) (r : Int) : Prop := (r = 0 ∧ RC 0 ds es) ∨ (r = 1 ∧ ¬ RC 0 ds es ∧ RC 1 ds es) ∨ (r = 2 ∧ ¬ RC 0 ds es ∧ ¬ RC 1 ds es ∧ RC 2 ds es) ∨ (r = 3 ∧ ¬ RC 0 ds es ∧ ¬ RC 1 ds es ∧ ¬ RC 2 ds es ∧ RC 3 ds es) ∨ (r = -2 ∧ ¬ RC 0 ds es ∧ ¬ RC 1 ds es ∧ ¬ RC 2 ds es ∧ ¬ RC 3 ds es)
theorem slV_rc {ds es : List Int} (h' : vd es = true) : 0 ≤ slV ds es ↔ RC 0 ds es ∨ RC 1 ds es := by
  rw [slV_0]
  constructor
  · rintro (h | ⟨i, hi, h⟩)
    · exact Or.inl h
    · exact Or.inr ⟨i, hi, by rw [h]; exact h', h⟩
  · rintro (h | ⟨i, hi, _, h⟩)
    · exact Or.inl h
    · exact Or.inr ⟨i, hi, h⟩
theorem grown_n {ds : List Int} (h : vd ds = true) (hd : dgs ds) {i : Nat} (hi : i < 24) : ∃ r, F7_grown (vl ds) (i : Int) = some r ∧ ((vd (gro ds i) = true ∧ r = vl (gro ds i) ∧ ¬ r ≤ 0) ∨ (¬ vd (gro ds i) = true ∧ r ≤ 0)) := by
  refine ⟨_, grown_e h hd hi, ?_⟩
  by_cases z : vd (gro ds i) = true
  · rw [if_pos z]; have := vl_b z (gro_dg hd i); exact Or.inl ⟨z, rfl, by omega⟩
  · rw [if_neg z]; exact Or.inr ⟨z, by omega⟩
def P2 (ds es : List Int) (j : Nat) : Prop := vd (gro ds j) = true ∧ 0 ≤ slV (gro ds j) es
theorem L7_in2 {ds es : List Int} (h : vd ds = true) (hd : dgs ds) (h' : vd es = true) (hd' : dgs es) : ∀ (d n i : Nat), i + d = 24 → d < n → ∃ r, L7_inTwo_2 (vl ds) (vl es) n (i : Int) = some r ∧ ((r = 1 ∧ ∃ j, i ≤ j ∧ j < 24 ∧ P2 ds es j) ∨ (r = 0 ∧ ¬ ∃ j, i ≤ j ∧ j < 24 ∧ P2 ds es j)) := by
  intro d
  induction d with
  | zero =>
    intro n i h0 h1
    obtain ⟨n, rfl⟩ : ∃ j, n = j + 1 := ⟨n - 1, by omega⟩
    rw [L7_inTwo_2, if_pos (by omega)]
    exact ⟨0, rfl, Or.inr ⟨rfl, fun ⟨j, a, b, _⟩ => by omega⟩⟩
  | succ d ih =>
    intro n i h0 h1
    obtain ⟨n, rfl⟩ : ∃ j, n = j + 1 := ⟨n - 1, by omega⟩
    obtain ⟨g, g1, g2⟩ := grown_n h hd (i := i) (by omega)
    obtain ⟨r, r1, r2⟩ := ih n (i + 1) (by omega) (by omega)
    have no : ¬ P2 ds es i → ((r = 1 ∧ ∃ j, i ≤ j ∧ j < 24 ∧ P2 ds es j) ∨ (r = 0 ∧ ¬ ∃ j, i ≤ j ∧ j < 24 ∧ P2 ds es j)) := fun hn => by
      rcases r2 with ⟨a, j, b, c, e⟩ | ⟨a, b⟩
      · exact Or.inl ⟨a, j, by omega, c, e⟩
      · refine Or.inr ⟨a, fun ⟨j, x, y, z⟩ => ?_⟩
        by_cases q : j = i
        · rw [q] at z; exact hn z
        · exact b ⟨j, by omega, y, z⟩
    rw [L7_inTwo_2, if_neg (by omega), g1, b1_v, w32_id (x := (i : Int) + 1) (by omega) (by omega), show (i : Int) + 1 = ((i + 1 : Nat) : Int) by omega, r1]
    simp only [jn_v]
    rcases g2 with ⟨v, rfl, w⟩ | ⟨v, w⟩
    · rw [if_neg w, kind_e v (gro_dg hd i) h' hd', b1_v]
      by_cases z : slV (gro ds i) es < 0
      · rw [if_pos z]; exact ⟨r, rfl, no (fun q => by have := q.2; omega)⟩
      · rw [if_neg z]; exact ⟨1, rfl, Or.inl ⟨rfl, i, Nat.le_refl _, by omega, v, by omega⟩⟩
    · rw [if_pos w]; exact ⟨r, rfl, no (fun q => v q.1)⟩
theorem in2_e {ds es : List Int} (h : vd ds = true) (hd : dgs ds) (h' : vd es = true) (hd' : dgs es) : ∃ r, F7_inTwo (vl ds) (vl es) = some r ∧ (r ≠ 0 ↔ ∃ j, j < 24 ∧ P2 ds es j) := by
  obtain ⟨r, r1, r2⟩ := L7_in2 h hd h' hd' 24 FU 0 (by omega) (by rw [FU_eq]; omega)
  refine ⟨r, r1, ?_⟩
  rcases r2 with ⟨rfl, j, _, b, c⟩ | ⟨rfl, b⟩
  · exact ⟨fun _ => ⟨j, b, c⟩, fun _ => by omega⟩
  · exact ⟨fun q => absurd rfl q, fun ⟨j, x, y⟩ => absurd ⟨j, Nat.zero_le _, x, y⟩ b⟩
def P3 (ds es : List Int) (j : Nat) : Prop := vd (gro ds j) = true ∧ ∃ k, k < 24 ∧ P2 (gro ds j) es k
theorem L7_few25 {ds es : List Int} (h : vd ds = true) (hd : dgs ds) (h' : vd es = true) (hd' : dgs es) : ∀ (d n i : Nat) (v3 : Int), i + d = 24 → d < n → ∃ r, L7_fewest_25 (vl ds) (vl es) (fun (v3_86 : Int) => if v3_86 = 0 then some ((-2)) else some 3) n v3 (i : Int) = some r ∧ ((∃ j, i ≤ j ∧ j < 24 ∧ P2 ds es j) → r = 2) ∧ ((¬ ∃ j, i ≤ j ∧ j < 24 ∧ P2 ds es j) → (v3 ≠ 0 ∨ ∃ j, i ≤ j ∧ j < 24 ∧ P3 ds es j) → r = 3) ∧ ((¬ ∃ j, i ≤ j ∧ j < 24 ∧ P2 ds es j) → ¬ (v3 ≠ 0 ∨ ∃ j, i ≤ j ∧ j < 24 ∧ P3 ds es j) → r = -2) := by
  intro d
  induction d with
  | zero =>
    intro n i v3 h0 h1
    obtain ⟨n, rfl⟩ : ∃ j, n = j + 1 := ⟨n - 1, by omega⟩
    rw [L7_fewest_25, if_pos (by omega)]
    by_cases z : v3 = 0
    · rw [if_pos z]
      refine ⟨-2, rfl, fun ⟨j, a, b, _⟩ => by omega, fun _ q => ?_, fun _ _ => rfl⟩
      rcases q with q | ⟨j, a, b, _⟩
      · exact absurd z q
      · omega
    · rw [if_neg z]
      exact ⟨3, rfl, fun ⟨j, a, b, _⟩ => by omega, fun _ _ => rfl, fun _ q => absurd (Or.inl z) q⟩
  | succ d ih =>
    intro n i v3 h0 h1
    obtain ⟨n, rfl⟩ : ∃ j, n = j + 1 := ⟨n - 1, by omega⟩
    obtain ⟨g, g1, g2⟩ := grown_n h hd (i := i) (by omega)
    rw [L7_fewest_25, if_neg (by omega), g1, b1_v, w32_id (x := (i : Int) + 1) (by omega) (by omega), show (i : Int) + 1 = ((i + 1 : Nat) : Int) by omega]
    simp only [jn_v]
    have fin : ∀ x : Int, ¬ P2 ds es i → (x ≠ 0 ↔ v3 ≠ 0 ∨ P3 ds es i) → ∃ r, L7_fewest_25 (vl ds) (vl es) (fun (v3_86 : Int) => if v3_86 = 0 then some ((-2)) else some 3) n x ((i + 1 : Nat) : Int) = some r ∧ ((∃ j, i ≤ j ∧ j < 24 ∧ P2 ds es j) → r = 2) ∧ ((¬ ∃ j, i ≤ j ∧ j < 24 ∧ P2 ds es j) → (v3 ≠ 0 ∨ ∃ j, i ≤ j ∧ j < 24 ∧ P3 ds es j) → r = 3) ∧ ((¬ ∃ j, i ≤ j ∧ j < 24 ∧ P2 ds es j) → ¬ (v3 ≠ 0 ∨ ∃ j, i ≤ j ∧ j < 24 ∧ P3 ds es j) → r = -2) := fun x hn hx => by
      obtain ⟨r, r1, r2, r3, r4⟩ := ih n (i + 1) x (by omega) (by omega)
      have e2 : (∃ j, i ≤ j ∧ j < 24 ∧ P2 ds es j) ↔ ∃ j, i + 1 ≤ j ∧ j < 24 ∧ P2 ds es j := ⟨fun ⟨j, a, b, c⟩ => by
        by_cases q : j = i
        · rw [q] at c; exact absurd c hn
        · exact ⟨j, by omega, b, c⟩, fun ⟨j, a, b, c⟩ => ⟨j, by omega, b, c⟩⟩
      have e3 : (v3 ≠ 0 ∨ ∃ j, i ≤ j ∧ j < 24 ∧ P3 ds es j) ↔ (x ≠ 0 ∨ ∃ j, i + 1 ≤ j ∧ j < 24 ∧ P3 ds es j) := by
        rw [hx]
        constructor
        · rintro (a | ⟨j, a, b, c⟩)
          · exact Or.inl (Or.inl a)
          · by_cases q : j = i
            · rw [q] at c; exact Or.inl (Or.inr c)
            · exact Or.inr ⟨j, by omega, b, c⟩
        · rintro ((a | a) | ⟨j, a, b, c⟩)
          · exact Or.inl a
          · exact Or.inr ⟨i, Nat.le_refl _, by omega, a⟩
          · exact Or.inr ⟨j, by omega, b, c⟩
      rw [e2, e3]
      exact ⟨r, r1, r2, r3, r4⟩
    rcases g2 with ⟨v, rfl, w⟩ | ⟨v, w⟩
    · obtain ⟨t, t1, t2⟩ := in2_e v (gro_dg hd i) h' hd'
      rw [if_neg w, kind_e v (gro_dg hd i) h' hd', b1_v]
      by_cases z : slV (gro ds i) es < 0
      · have nP : ¬ P2 ds es i := fun q => by have := q.2; omega
        rw [if_pos z]
        by_cases y : v3 = 0
        · rw [if_neg (fun q => q y), if_neg w, t1, b1_v]
          by_cases u : t = 0
          · rw [if_pos u]
            exact fin 0 nP ⟨fun q => absurd rfl q, fun q => by
              rcases q with q | q
              · exact absurd y q
              · exact absurd u (t2.mpr q.2)⟩
          · rw [if_neg u]
            exact fin 1 nP ⟨fun _ => Or.inr ⟨v, t2.mp u⟩, fun _ => by omega⟩
        · rw [if_pos y]
          exact fin 1 nP ⟨fun _ => Or.inl y, fun _ => by omega⟩
      · rw [if_neg z]
        have P : ∃ j, i ≤ j ∧ j < 24 ∧ P2 ds es j := ⟨i, Nat.le_refl _, by omega, v, by omega⟩
        exact ⟨2, rfl, fun _ => rfl, fun q => absurd P q, fun q => absurd P q⟩
    · have nP : ¬ P2 ds es i := fun q => v q.1
      rw [if_pos w]
      by_cases y : v3 = 0
      · rw [if_neg (fun q => q y), if_pos w]
        exact fin 0 nP ⟨fun q => absurd rfl q, fun q => by
          rcases q with q | q
          · exact absurd y q
          · exact absurd q.1 v⟩
      · rw [if_pos y]
        exact fin 1 nP ⟨fun _ => Or.inl y, fun _ => by omega⟩
theorem P2_rc {ds es : List Int} (h' : vd es = true) : (∃ j, j < 24 ∧ P2 ds es j) ↔ RC 1 ds es ∨ RC 2 ds es := by
  constructor
  · rintro ⟨j, a, b, c⟩
    rcases (slV_rc h').mp c with c | c
    · exact Or.inl ⟨j, a, b, c⟩
    · exact Or.inr ⟨j, a, b, c⟩
  · rintro (⟨j, a, b, c⟩ | ⟨j, a, b, c⟩)
    · exact ⟨j, a, b, (slV_rc h').mpr (Or.inl c)⟩
    · exact ⟨j, a, b, (slV_rc h').mpr (Or.inr c)⟩
theorem P3_rc {ds es : List Int} (h' : vd es = true) : (∃ j, j < 24 ∧ P3 ds es j) ↔ RC 2 ds es ∨ RC 3 ds es := by
  constructor
  · rintro ⟨j, a, b, c⟩
    rcases (P2_rc h').mp c with c | c
    · exact Or.inl ⟨j, a, b, c⟩
    · exact Or.inr ⟨j, a, b, c⟩
  · rintro (⟨j, a, b, c⟩ | ⟨j, a, b, c⟩)
    · exact ⟨j, a, b, (P2_rc h').mpr (Or.inl c)⟩
    · exact ⟨j, a, b, (P2_rc h').mpr (Or.inr c)⟩
theorem fewest_e {ds es : List Int} (h : vd ds = true) (hd : dgs ds) (h' : vd es = true) (hd' : dgs es) : ∃ r, F7_fewest (vl ds) (vl es) = some r ∧ FW ds es r := by
  unfold F7_fewest
  rw [kind_e h hd h' hd', b1_v]
  have k := slV_rc (ds := ds) h'
  by_cases z : slV ds es < 0
  · rw [if_pos z]
    have n0 : ¬ RC 0 ds es := fun q => by have := k.mpr (Or.inl q); omega
    have n1 : ¬ RC 1 ds es := fun q => by have := k.mpr (Or.inr q); omega
    obtain ⟨r, r1, r2, r3, r4⟩ := L7_few25 h hd h' hd' 24 FU 0 0 (by omega) (by rw [FU_eq]; omega)
    refine ⟨r, r1, ?_⟩
    have p2 := P2_rc (ds := ds) h'
    have p3 := P3_rc (ds := ds) h'
    by_cases c2 : RC 2 ds es
    · obtain ⟨j, a, b⟩ := p2.mpr (Or.inr c2)
      exact Or.inr (Or.inr (Or.inl ⟨r2 ⟨j, Nat.zero_le _, a, b⟩, n0, n1, c2⟩))
    · have q2 : ¬ ∃ j, 0 ≤ j ∧ j < 24 ∧ P2 ds es j := fun ⟨j, _, a, b⟩ => by
        rcases p2.mp ⟨j, a, b⟩ with q | q
        · exact n1 q
        · exact c2 q
      by_cases c3 : RC 3 ds es
      · obtain ⟨j, a, b⟩ := p3.mpr (Or.inr c3)
        exact Or.inr (Or.inr (Or.inr (Or.inl ⟨r3 q2 (Or.inr ⟨j, Nat.zero_le _, a, b⟩), n0, n1, c2, c3⟩)))
      · refine Or.inr (Or.inr (Or.inr (Or.inr ⟨r4 q2 ?_, n0, n1, c2, c3⟩)))
        rintro (q | ⟨j, _, a, b⟩)
        · exact q rfl
        · rcases p3.mp ⟨j, a, b⟩ with q | q
          · exact c2 q
          · exact c3 q
  · rw [if_neg z]
    unfold slV at *
    by_cases e : ds = es
    · rw [if_pos e, if_neg (fun q => q rfl)]
      exact ⟨0, rfl, Or.inl ⟨rfl, e⟩⟩
    · rcases k.mp (by omega) with q | q
      · exact absurd q e
      · refine ⟨1, if_pos ?_, Or.inr (Or.inl ⟨rfl, e, q⟩)⟩
        rw [if_neg e] at z ⊢
        repeat' split
        all_goals omega
