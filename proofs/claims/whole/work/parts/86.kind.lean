/-! the class's slip, by digits -/
theorem gro_dg {ds : List Int} (hd : dgs ds) (i : Nat) : dgs (gro ds i) := by
  have no : dgs [] := fun d h => by cases h
  have gD : ∀ k, 0 ≤ ds.getD k 0 ∧ ds.getD k 0 < 10 := fun k => by
    by_cases h : k < ds.length
    · rw [List.getD_eq_getElem?_getD, List.getElem?_eq_getElem h]; exact hd _ (List.getElem_mem h)
    · rw [List.getD_eq_getElem?_getD, List.getElem?_eq_none (by omega)]; exact ⟨Int.le_refl _, by decide⟩
  have mis : ∀ (k : Nat) (w : Int), dgs (misL ds k w) := fun k w d h => by
    unfold misL at h
    by_cases z : tb w (ds.getD k 0) < 0
    · rw [if_pos z] at h; cases h
    · rw [if_neg z] at h
      rcases List.mem_or_eq_of_mem_set h with h | h
      · exact hd d h
      · have g := gD k
        have := tb_b (w := w) g.1 g.2
        rw [h]; exact ⟨by omega, this.2⟩
  unfold gro
  split
  · split
    · exact fun d h => hd d (List.mem_of_mem_eraseIdx h)
    · exact no
  · split
    · split
      · intro d h
        unfold dupL at h
        rcases List.mem_append.mp h with h | h
        · exact hd d (List.mem_of_mem_take h)
        · exact hd d (List.mem_of_mem_drop h)
      · exact no
    · split
      · split
        · intro d h
          unfold swpL at h
          rcases List.mem_append.mp h with h | h
          · exact hd d (List.mem_of_mem_take h)
          · rcases List.mem_cons.mp h with rfl | h
            · exact gD _
            · rcases List.mem_cons.mp h with rfl | h
              · exact gD _
              · exact hd d (List.mem_of_mem_drop h)
        · exact no
      · split
        · exact mis _ _
        · exact no
theorem grow_eq {ds es : List Int} (h : vd ds = true) (hd : dgs ds) (h' : vd es = true) (hd' : dgs es) {i : Nat} (hi : i < 24) : (∃ r, F7_grown (vl ds) (i : Int) = some r ∧ (r = vl es ↔ gro ds i = es)) := by
  refine ⟨_, grown_e h hd hi, ?_⟩
  have b := vl_b h' hd'
  by_cases z : vd (gro ds i) = true
  · rw [if_pos z]
    exact ⟨fun e => vl_inj z (gro_dg hd i) h' hd' e, fun e => by rw [e]⟩
  · rw [if_neg z]
    exact ⟨fun e => by omega, fun e => absurd (by rw [e]; exact h') z⟩
def anyI (ds es : List Int) : Nat → Nat → Bool
  | _, 0 => false
  | s, d + 1 => decide (gro ds s = es) || anyI ds es (s + 1) d
def kd2 (ds es : List Int) : Nat → Nat → Int
  | 0, _ => -2
  | d + 1, i => if gro ds i = es then F7_kindOf (i : Int) else kd2 ds es d (i + 1)
theorem anyI_e {ds es : List Int} : ∀ (d s : Nat), anyI ds es s d = true ↔ ∃ i, s ≤ i ∧ i < s + d ∧ gro ds i = es
  | 0, s => ⟨fun h => (by cases h), fun ⟨i, a, b, _⟩ => (by omega)⟩
  | d + 1, s => by
    have ih := anyI_e (ds := ds) (es := es) d (s + 1)
    show (decide (gro ds s = es) || anyI ds es (s + 1) d) = true ↔ _
    rw [Bool.or_eq_true, decide_eq_true_iff, ih]
    constructor
    · rintro (h | ⟨i, a, b, c⟩)
      · exact ⟨s, Nat.le_refl _, by omega, h⟩
      · exact ⟨i, by omega, by omega, c⟩
    · rintro ⟨i, a, b, c⟩
      by_cases e : i = s
      · rw [e] at c; exact Or.inl c
      · exact Or.inr ⟨i, by omega, by omega, c⟩
theorem kd2_any {ds es : List Int} {κ : Int} : ∀ (d d' i : Nat), (∀ j, i ≤ j → j < i + d → F7_kindOf (j : Int) = κ) → kd2 ds es (d + d') i = if anyI ds es i d = true then κ else kd2 ds es d' (i + d)
  | 0, d', i, _ => by rw [show 0 + d' = d' by omega]; rfl
  | d + 1, d', i, h => by
    rw [show d + 1 + d' = (d + d') + 1 by omega]
    show (if gro ds i = es then F7_kindOf (i : Int) else kd2 ds es (d + d') (i + 1)) = if (decide (gro ds i = es) || anyI ds es (i + 1) d) = true then κ else _
    by_cases e : gro ds i = es
    · rw [if_pos e, decide_eq_true e, h i (Nat.le_refl _) (by omega)]; rfl
    · rw [if_neg e, decide_eq_false e, Bool.false_or, kd2_any d d' (i + 1) (fun j a b => h j (by omega) (by omega)), show i + 1 + d = i + (d + 1) by omega]
def slV (ds es : List Int) : Int := if ds = es then 0 else if anyI ds es 0 5 = true then 1 else if anyI ds es 5 5 = true then 2 else if anyI ds es 10 4 = true then 3 else if anyI ds es 14 10 = true then 4 else -2
theorem kindOf_1 : ∀ j : Fin 5, F7_kindOf ((j : Nat) : Int) = 1 := by decide
theorem kindOf_2 : ∀ j : Fin 5, F7_kindOf (((j : Nat) + 5 : Nat) : Int) = 2 := by decide
theorem kindOf_3 : ∀ j : Fin 4, F7_kindOf (((j : Nat) + 10 : Nat) : Int) = 3 := by decide
theorem kindOf_4 : ∀ j : Fin 10, F7_kindOf (((j : Nat) + 14 : Nat) : Int) = 4 := by decide
theorem kd2_sl {ds es : List Int} (hne : ds ≠ es) : kd2 ds es 24 0 = slV ds es := by
  unfold slV
  rw [if_neg hne, show (24 : Nat) = 5 + 19 from rfl, kd2_any (κ := 1) 5 19 0 (fun j a b => kindOf_1 ⟨j, by omega⟩), show (19 : Nat) = 5 + 14 from rfl, kd2_any (κ := 2) 5 14 (0 + 5) (fun j a b => by have := kindOf_2 ⟨j - 5, by omega⟩; dsimp only at this; rw [show j - 5 + 5 = j by omega] at this; exact this), show (14 : Nat) = 4 + 10 from rfl, kd2_any (κ := 3) 4 10 (0 + 5 + 5) (fun j a b => by have := kindOf_3 ⟨j - 10, by omega⟩; dsimp only at this; rw [show j - 10 + 10 = j by omega] at this; exact this), show (10 : Nat) = 10 + 0 from rfl, kd2_any (κ := 4) 10 0 (0 + 5 + 5 + 4) (fun j a b => by have := kindOf_4 ⟨j - 14, by omega⟩; dsimp only at this; rw [show j - 14 + 14 = j by omega] at this; exact this)]
  rfl
theorem L7_k9 {ds es : List Int} (h : vd ds = true) (hd : dgs ds) (h' : vd es = true) (hd' : dgs es) : ∀ (d n i : Nat), i + d = 24 → d < n → L7_kind_9 (vl ds) (vl es) (fun v => some (F7_kindOf v)) n (i : Int) = some (kd2 ds es d i) := by
  intro d
  induction d with
  | zero =>
    intro n i h0 h1
    obtain ⟨n, rfl⟩ : ∃ j, n = j + 1 := ⟨n - 1, by omega⟩
    rw [L7_kind_9, if_pos (by omega)]; rfl
  | succ d ih =>
    intro n i h0 h1
    obtain ⟨n, rfl⟩ : ∃ j, n = j + 1 := ⟨n - 1, by omega⟩
    obtain ⟨r, r1, r2⟩ := grow_eq h hd h' hd' (i := i) (by omega)
    have e : kd2 ds es (d + 1) i = if gro ds i = es then F7_kindOf (i : Int) else kd2 ds es d (i + 1) := rfl
    rw [L7_kind_9, if_neg (by omega), r1, b1_v, e, w32_id (x := (i : Int) + 1) (by omega) (by omega), show (i : Int) + 1 = ((i + 1 : Nat) : Int) by omega]
    by_cases z : gro ds i = es
    · rw [if_pos z, if_neg (fun q => q (r2.mpr z))]
    · rw [if_neg z, if_pos (fun q => z (r2.mp q))]
      exact ih n (i + 1) (by omega) (by omega)
theorem kind_e {ds es : List Int} (h : vd ds = true) (hd : dgs ds) (h' : vd es = true) (hd' : dgs es) : F7_kind (vl ds) (vl es) = some (slV ds es) := by
  unfold F7_kind
  by_cases z : ds = es
  · rw [if_neg (by rw [z]; exact fun q => q rfl)]
    unfold slV; rw [if_pos z]
  · rw [if_pos (fun q => z (vl_inj h hd h' hd' q)), ← kd2_sl z]
    exact L7_k9 h hd h' hd' 24 FU 0 (by omega) (by rw [FU_eq]; omega)
theorem slV_0 {ds es : List Int} : 0 ≤ slV ds es ↔ ds = es ∨ ∃ i, i < 24 ∧ gro ds i = es := by
  unfold slV
  by_cases a : ds = es
  · rw [if_pos a]; exact ⟨fun _ => Or.inl a, fun _ => Int.le_refl _⟩
  · rw [if_neg a]
    constructor
    · intro h
      right
      by_cases b : anyI ds es 0 5 = true
      · obtain ⟨i, x, y, z⟩ := (anyI_e 5 0).mp b; exact ⟨i, by omega, z⟩
      · rw [if_neg b] at h
        by_cases c : anyI ds es 5 5 = true
        · obtain ⟨i, x, y, z⟩ := (anyI_e 5 5).mp c; exact ⟨i, by omega, z⟩
        · rw [if_neg c] at h
          by_cases d : anyI ds es 10 4 = true
          · obtain ⟨i, x, y, z⟩ := (anyI_e 4 10).mp d; exact ⟨i, by omega, z⟩
          · rw [if_neg d] at h
            by_cases e : anyI ds es 14 10 = true
            · obtain ⟨i, x, y, z⟩ := (anyI_e 10 14).mp e; exact ⟨i, by omega, z⟩
            · rw [if_neg e] at h; omega
    · rintro (h | ⟨i, hi, h⟩)
      · exact absurd h a
      · by_cases b : anyI ds es 0 5 = true
        · rw [if_pos b]; omega
        · rw [if_neg b]
          by_cases c : anyI ds es 5 5 = true
          · rw [if_pos c]; omega
          · rw [if_neg c]
            by_cases d : anyI ds es 10 4 = true
            · rw [if_pos d]; omega
            · rw [if_neg d]
              have : anyI ds es 14 10 = true := (anyI_e 10 14).mpr (by
                refine ⟨i, ?_, by omega, h⟩
                have n1 : ¬ i < 5 := fun q => b ((anyI_e 5 0).mpr ⟨i, by omega, by omega, h⟩)
                have n2 : ¬ i < 10 := fun q => c ((anyI_e 5 5).mpr ⟨i, by omega, by omega, h⟩)
                have n3 : ¬ i < 14 := fun q => d ((anyI_e 4 10).mpr ⟨i, by omega, by omega, h⟩)
                omega)
              rw [if_pos this]; omega
