/-! the reference's digits -/
def rowM (m : Mem) (a : Nat) (o : Int) (ds : List Int) : Prop := ∀ k : Nat, k < ds.length → rd m a (o + (k : Int)) = ds.getD k 0
theorem vla_snoc : ∀ (l : List Int) (v d : Int), vla v (l ++ [d]) = 10 * vla v l + d
  | [], v, d => rfl
  | x :: l, v, d => vla_snoc l (10 * v + x) d
theorem vl_take {ds : List Int} {k : Nat} (h : k < ds.length) : vl (ds.take (k + 1)) = 10 * vl (ds.take k) + ds.getD k 0 := by
  rw [List.take_succ, List.getElem?_eq_getElem h, List.getD_eq_getElem?_getD, List.getElem?_eq_getElem h]
  exact vla_snoc _ _ _
theorem vd_len {ds : List Int} (h : vd ds = true) : 1 ≤ ds.length ∧ ds.length ≤ 5 ∧ ds.getD 0 0 ≠ 0 := by
  unfold vd at h
  rw [Bool.and_eq_true, Bool.and_eq_true, decide_eq_true_iff, decide_eq_true_iff, decide_eq_true_iff] at h
  refine ⟨h.1.1, h.1.2, ?_⟩
  have := h.2
  cases ds with
  | nil => exact this
  | cons a l => exact this
theorem dgD {ds : List Int} (hd : dgs ds) (k : Nat) : 0 ≤ ds.getD k 0 ∧ ds.getD k 0 < 10 := by
  by_cases h : k < ds.length
  · rw [List.getD_eq_getElem?_getD, List.getElem?_eq_getElem h]; exact hd _ (List.getElem_mem h)
  · rw [List.getD_eq_getElem?_getD, List.getElem?_eq_none (by omega)]; exact ⟨Int.le_refl _, by decide⟩
theorem vl_tb {ds : List Int} (h : vd ds = true) (hd : dgs ds) : ∀ k, k ≤ ds.length → (k = 0 → vl (ds.take k) = 0) ∧ (0 < k → 1 ≤ vl (ds.take k)) ∧ vl (ds.take k) < 10 ^ k
  | 0, _ => ⟨fun _ => rfl, fun q => by omega, by show (0 : Int) < 1; omega⟩
  | k + 1, hk => by
    have l := vd_len h
    have g := dgD hd k
    obtain ⟨i1, i2, i3⟩ := vl_tb h hd k (by omega)
    have e : (10 : Int) ^ (k + 1) = 10 ^ k * 10 := Int.pow_succ 10 k
    rw [vl_take (by omega), e]
    refine ⟨fun q => by omega, fun _ => ?_, by omega⟩
    by_cases z : k = 0
    · subst z
      have := l.2.2
      have := i1 rfl
      omega
    · have := i2 (by omega); omega
theorem vl_tm {ds : List Int} (h : vd ds = true) (hd : dgs ds) {k : Nat} (hk : k ≤ ds.length) : 0 ≤ vl (ds.take k) ∧ vl (ds.take k) < 100000 := by
  have l := vd_len h
  obtain ⟨i1, i2, i3⟩ := vl_tb h hd k hk
  have : k = 0 ∨ k = 1 ∨ k = 2 ∨ k = 3 ∨ k = 4 ∨ k = 5 := by omega
  rcases this with rfl | rfl | rfl | rfl | rfl | rfl
  · have := i1 rfl; omega
  · have := i2 (by omega); exact ⟨by omega, by have : (10 : Int) ^ 1 = 10 := rfl; omega⟩
  · have := i2 (by omega); exact ⟨by omega, by have : (10 : Int) ^ 2 = 100 := rfl; omega⟩
  · have := i2 (by omega); exact ⟨by omega, by have : (10 : Int) ^ 3 = 1000 := rfl; omega⟩
  · have := i2 (by omega); exact ⟨by omega, by have : (10 : Int) ^ 4 = 10000 := rfl; omega⟩
  · have := i2 (by omega); exact ⟨by omega, by have : (10 : Int) ^ 5 = 100000 := rfl; omega⟩
theorem L11_do4 {ds : List Int} (h : vd ds = true) (hd : dgs ds) {kk : Int → Option (Int × Mem)} : ∀ (k t : Nat), k ≤ ds.length → k < t → L11_digitsOf_4 kk t ((ds.length - k : Nat) : Int) (vl (ds.take k)) = kk (ds.length : Int) := by
  have l := vd_len h
  intro k
  induction k with
  | zero =>
    intro t hk ht
    obtain ⟨t, rfl⟩ : ∃ i, t = i + 1 := ⟨t - 1, by omega⟩
    rw [L11_digitsOf_4, if_pos (by rw [(vl_tb h hd 0 hk).1 rfl]; omega)]
    rfl
  | succ k ih =>
    intro t hk ht
    obtain ⟨t, rfl⟩ : ∃ i, t = i + 1 := ⟨t - 1, by omega⟩
    have a := (vl_tb h hd (k + 1) hk).2.1 (by omega)
    have b := vl_tm h hd hk
    have g := dgD hd k
    have e := vl_take (ds := ds) (k := k) (by omega)
    rw [L11_digitsOf_4, if_neg (by omega), idv_e (by omega) (by omega) (by omega) (by omega), w32_id (by omega) (by omega), show vl (ds.take (k + 1)) / 10 = vl (ds.take k) by omega, show ((ds.length - (k + 1) : Nat) : Int) + 1 = ((ds.length - k : Nat) : Int) by omega]
    exact ih t (by omega) (by omega)
theorem L11_do26 {ds : List Int} (h : vd ds = true) (hd : dgs ds) {a : Nat} : ∀ (k t : Nat) (m : Mem), k ≤ ds.length → k < t → (∀ j : Nat, k ≤ j → j < ds.length → rd m a (j : Int) = ds.getD j 0) →
    ∃ m', L11_digitsOf_26 a (ds.length : Int) t (vl (ds.take k)) ((k : Int) - 1) m = some ((ds.length : Int), m') ∧ (∀ c i, c ≠ a → m' c i = m c i) ∧ ∀ j : Nat, j < ds.length → rd m' a (j : Int) = ds.getD j 0 := by
  have l := vd_len h
  intro k
  induction k with
  | zero =>
    intro t m hk ht hm
    obtain ⟨t, rfl⟩ : ∃ i, t = i + 1 := ⟨t - 1, by omega⟩
    rw [L11_digitsOf_26, if_pos (by omega)]
    exact ⟨m, rfl, fun _ _ _ => rfl, fun j hj => hm j (Nat.zero_le _) hj⟩
  | succ k ih =>
    intro t m hk ht hm
    obtain ⟨t, rfl⟩ : ∃ i, t = i + 1 := ⟨t - 1, by omega⟩
    have b := vl_tm h hd hk
    have g := dgD hd k
    have e := vl_take (ds := ds) (k := k) (by omega)
    rw [L11_digitsOf_26, if_neg (by omega), gd_t (by omega), stw_v, idv_e (by omega) (by omega) (by omega) (by omega), irm_e (by omega) (by omega) (by omega) (by omega), w32_id (by omega) (by omega), show vl (ds.take (k + 1)) / 10 = vl (ds.take k) by omega, show vl (ds.take (k + 1)) % 10 = ds.getD k 0 by omega, show ((k + 1 : Nat) : Int) - 1 + (-1) = (k : Int) - 1 by omega, show ((k + 1 : Nat) : Int) - 1 = (k : Int) by omega]
    obtain ⟨m', p1, p2, p3⟩ := ih t (wr m a (k : Int) (ds.getD k 0)) (by omega) (by omega) (fun j hj hj' => by
      by_cases z : j = k
      · rw [z, rd_wr_s]; exact w32_id (by omega) (by omega)
      · rw [rd_wr_i (by omega)]; exact hm j (by omega) hj')
    exact ⟨m', p1, fun c i x => by rw [p2 c i x, wr_ka x], p3⟩
theorem digits_e {ds : List Int} (h : vd ds = true) (hd : dgs ds) (a : Nat) (m : Mem) : ∃ m', F11_digitsOf m a (vl ds) = some ((ds.length : Int), m') ∧ (∀ c i, c ≠ a → m' c i = m c i) ∧ ∀ j : Nat, j < ds.length → rd m' a (j : Int) = ds.getD j 0 := by
  have l := vd_len h
  obtain ⟨m', p1, p2, p3⟩ := L11_do26 h hd (a := a) ds.length FU m (Nat.le_refl _) (by rw [FU_eq]; omega) (fun j a b => by omega)
  refine ⟨m', ?_, p2, p3⟩
  unfold F11_digitsOf
  have x := L11_do4 h hd (kk := fun (v2_19 : Int) => L11_digitsOf_26 a v2_19 FU (vl ds) (w32 (v2_19 - 1)) m) ds.length FU (Nat.le_refl _) (by rw [FU_eq]; omega)
  rw [List.take_length, show ds.length - ds.length = 0 by omega] at x
  rw [show L11_digitsOf_4 _ FU 0 (vl ds) = _ from x, w32_id (by omega) (by omega)]
  rw [List.take_length] at p1
  exact p1
/-! one digit left out -/
theorem getD_er {ds : List Int} {a j : Nat} (hj : j < ds.length - 1) : (ds.eraseIdx a).getD j 0 = ds.getD (if j < a then j else j + 1) 0 := by
  rw [List.getD_eq_getElem?_getD, List.getD_eq_getElem?_getD, List.getElem?_eraseIdx]
  by_cases z : j < a
  · rw [if_pos z, if_pos z]
  · rw [if_neg z, if_neg z]
theorem list_ext {ds es : List Int} (hl : ds.length = es.length) (h : ∀ j, j < ds.length → ds.getD j 0 = es.getD j 0) : ds = es := by
  refine List.ext_getElem hl (fun j a b => ?_)
  have := h j a
  rw [List.getD_eq_getElem?_getD, List.getD_eq_getElem?_getD, List.getElem?_eq_getElem a, List.getElem?_eq_getElem b] at this
  exact this
theorem L11_iw {m : Mem} {a b : Nat} {ds es : List Int} (ha : ∀ j : Nat, j < ds.length → rd m a (j : Int) = ds.getD j 0) (hb : ∀ j : Nat, j < es.length → rd m b (j : Int) = es.getD j 0) (hl : es.length + 1 = ds.length) (hl' : ds.length ≤ 6) {k : Nat} : ∀ (d t j : Nat), j + d = es.length → d < t → ∃ r : Int, L11_isWithout_13 m a b (k : Int) (es.length : Int) t (j : Int) = some r ∧ (r = 0 ∨ r = 1) ∧ (r = 1 ↔ ∀ i, j ≤ i → i < es.length → ds.getD (if i < k then i else i + 1) 0 = es.getD i 0) := by
  intro d
  induction d with
  | zero =>
    intro t j h0 h1
    obtain ⟨t, rfl⟩ : ∃ i, t = i + 1 := ⟨t - 1, by omega⟩
    rw [L11_isWithout_13, if_pos (by omega)]
    exact ⟨1, rfl, Or.inr rfl, ⟨fun _ i a b => (by omega), fun _ => rfl⟩⟩
  | succ d ih =>
    intro t j h0 h1
    obtain ⟨t, rfl⟩ : ∃ i, t = i + 1 := ⟨t - 1, by omega⟩
    obtain ⟨r, r1, r2, r3⟩ := ih t (j + 1) (by omega) (by omega)
    have fin : ∀ x : Nat, x = (if j < k then j else j + 1) → ∃ r : Int, (gd (0 ≤ (x : Int) ∧ (x : Int) < 6) <| gd (0 ≤ (j : Int) ∧ (j : Int) < 6) <| if (rd m a (x : Int)) = (rd m b (j : Int)) then L11_isWithout_13 m a b (k : Int) (es.length : Int) t ((j + 1 : Nat) : Int) else some 0) = some r ∧ (r = 0 ∨ r = 1) ∧ (r = 1 ↔ ∀ i, j ≤ i → i < es.length → ds.getD (if i < k then i else i + 1) 0 = es.getD i 0) := by
      intro x hx
      have xb : x < ds.length := by rw [hx]; split <;> omega
      rw [gd_t (by omega), gd_t (by omega), ha x xb, hb j (by omega), r1]
      by_cases z : ds.getD x 0 = es.getD j 0
      · rw [if_pos z]
        refine ⟨r, rfl, r2, ?_⟩
        rw [r3]
        constructor
        · intro h i p q
          by_cases e : i = j
          · rw [e, ← hx]; exact z
          · exact h i (by omega) q
        · intro h i p q; exact h i (by omega) q
      · rw [if_neg z]
        refine ⟨0, rfl, Or.inl rfl, ⟨fun h => (by omega), fun h => ?_⟩⟩
        have := h j (Nat.le_refl _) (by omega)
        rw [← hx] at this; exact absurd this z
    rw [L11_isWithout_13, if_neg (by omega), w32_id (x := (j : Int) + 1) (by omega) (by omega), show (j : Int) + 1 = ((j + 1 : Nat) : Int) by omega]
    simp only [jn_v]
    by_cases z : (k : Int) ≤ (j : Int)
    · rw [if_pos z]; exact fin (j + 1) (by rw [if_neg (by omega)])
    · rw [if_neg z]; exact fin j (by rw [if_pos (by omega)])
theorem iw_e {m : Mem} {a b : Nat} {ds es : List Int} (ha : ∀ j : Nat, j < ds.length → rd m a (j : Int) = ds.getD j 0) (hb : ∀ j : Nat, j < es.length → rd m b (j : Int) = es.getD j 0) (hl' : 1 ≤ ds.length ∧ ds.length ≤ 5) {k : Nat} (hk : k < ds.length) : F11_isWithout m a b (ds.length : Int) (k : Int) (es.length : Int) = some (if ds.eraseIdx k = es then 1 else 0) := by
  have el : (ds.eraseIdx k).length = ds.length - 1 := List.length_eraseIdx_of_lt hk
  unfold F11_isWithout
  rw [w32_id (by omega) (by omega)]
  by_cases z : (es.length : Int) = (ds.length : Int) - 1
  · rw [if_pos z]
    obtain ⟨r, r1, r2, r3⟩ := L11_iw (k := k) ha hb (by omega) (by omega) es.length FU 0 (by omega) (by rw [FU_eq]; omega)
    have e : r = 1 ↔ ds.eraseIdx k = es := by
      rw [r3]
      constructor
      · intro h
        refine list_ext (by omega) (fun j hj => ?_)
        rw [getD_er (by omega)]; exact h j (Nat.zero_le _) (by omega)
      · intro h i _ hi
        rw [← h, getD_er (by omega)]
    rw [show L11_isWithout_13 m a b (k : Int) (es.length : Int) FU 0 = _ from r1]
    by_cases y : ds.eraseIdx k = es
    · rw [if_pos y, e.mpr y]
    · rw [if_neg y]
      have : r ≠ 1 := fun q => y (e.mp q)
      congr 1; omega
  · rw [if_neg z, if_neg (fun q => by rw [← q, el] at z; omega)]
/-! what the lists of the slips hold -/
theorem gro_1 {ds es : List Int} (h1 : 1 ≤ es.length) : (∃ i, 0 ≤ i ∧ i < 0 + 5 ∧ gro ds i = es) ∧ ds.length ≤ 5 → ∃ k, k < ds.length ∧ ds.eraseIdx k = es := by
  rintro ⟨⟨i, _, hi, h⟩, h5⟩
  unfold gro at h
  rw [if_pos (by omega)] at h
  split at h
  · exact ⟨_, by omega, h⟩
  · rw [← h] at h1; exact absurd h1 (by decide)
theorem any_1 {ds es : List Int} (hl : ds.length ≤ 5) (h1 : 1 ≤ es.length) : anyI ds es 0 5 = true ↔ ∃ k, k < ds.length ∧ ds.eraseIdx k = es := by
  rw [anyI_e]
  constructor
  · intro h; exact gro_1 h1 ⟨h, hl⟩
  · rintro ⟨k, hk, h⟩
    refine ⟨ds.length - 1 - k, Nat.zero_le _, by omega, ?_⟩
    unfold gro
    rw [if_pos (by omega), if_pos (by omega), show ds.length - 1 - (ds.length - 1 - k) = k by omega]; exact h
theorem getD_dup {ds : List Int} {k j : Nat} (hk : k < ds.length) : (dupL ds k).getD j 0 = ds.getD (if j ≤ k then j else j - 1) 0 := by
  have tl : (ds.take (k + 1)).length = k + 1 := by rw [List.length_take]; omega
  unfold dupL
  rw [getD_app, tl]
  by_cases z : j < k + 1
  · rw [if_pos z, if_pos (by omega), List.getD_eq_getElem?_getD, List.getD_eq_getElem?_getD, List.getElem?_take, if_pos z]
  · rw [if_neg z, if_neg (by omega), List.getD_eq_getElem?_getD, List.getD_eq_getElem?_getD, List.getElem?_drop, show k + (j - (k + 1)) = j - 1 by omega]
theorem len_dup {ds : List Int} {k : Nat} (hk : k < ds.length) : (dupL ds k).length = ds.length + 1 := by
  unfold dupL
  rw [List.length_append, List.length_take, List.length_drop]; omega
theorem dup_er {ds es : List Int} {k : Nat} (h0 : 1 ≤ k) (hk : k < es.length) : (es.getD k 0 = es.getD (k - 1) 0 ∧ es.eraseIdx k = ds) ↔ (k - 1 < ds.length ∧ dupL ds (k - 1) = es) := by
  have el : (es.eraseIdx k).length = es.length - 1 := List.length_eraseIdx_of_lt hk
  constructor
  · rintro ⟨a, b⟩
    have dl : ds.length = es.length - 1 := by rw [← b]; exact el
    have kd : k - 1 < ds.length := by omega
    refine ⟨kd, list_ext (by rw [len_dup kd]; omega) (fun j hj => ?_)⟩
    rw [len_dup kd] at hj
    rw [getD_dup kd, ← b]
    by_cases z : j ≤ k - 1
    · rw [if_pos z, getD_er (by omega), if_pos (by omega)]
    · rw [if_neg z, getD_er (by omega)]
      by_cases y : j = k
      · rw [if_pos (by omega), y, a]
      · rw [if_neg (by omega), show j - 1 + 1 = j by omega]
  · rintro ⟨a, b⟩
    have dl := len_dup a
    rw [b] at dl
    constructor
    · rw [← b, getD_dup a, getD_dup a, if_neg (by omega), if_pos (by omega)]
    · refine list_ext (by omega) (fun j hj => ?_)
      rw [getD_er (by omega), ← b, getD_dup a]
      by_cases z : j < k
      · rw [if_pos z, if_pos (by omega)]
      · rw [if_neg z, if_neg (by omega), show j + 1 - 1 = j by omega]
theorem any_2 {ds es : List Int} (hl : ds.length ≤ 5) (h1 : 1 ≤ es.length) : anyI ds es 5 5 = true ↔ ∃ k, 1 ≤ k ∧ k < es.length ∧ es.getD k 0 = es.getD (k - 1) 0 ∧ es.eraseIdx k = ds := by
  rw [anyI_e]
  constructor
  · rintro ⟨i, h0, hi, h⟩
    unfold gro at h
    rw [if_neg (by omega), if_pos (by omega)] at h
    split at h
    · rename_i z
      have kd : ds.length - 1 - (i - 5) < ds.length := by omega
      have dl := len_dup kd
      rw [h] at dl
      refine ⟨ds.length - 1 - (i - 5) + 1, by omega, by omega, (dup_er (by omega) (by omega)).mpr ?_⟩
      rw [show ds.length - 1 - (i - 5) + 1 - 1 = ds.length - 1 - (i - 5) by omega]
      exact ⟨kd, h⟩
    · rw [← h] at h1; exact absurd h1 (by decide)
  · rintro ⟨k, k0, hk, h⟩
    obtain ⟨a, b⟩ := (dup_er k0 hk).mp h
    refine ⟨ds.length - 1 - (k - 1) + 5, by omega, by omega, ?_⟩
    unfold gro
    rw [if_neg (by omega), if_pos (by omega), if_pos (by omega), show ds.length - 1 - (ds.length - 1 - (k - 1) + 5 - 5) = k - 1 by omega]; exact b
