/-! two changed about, one misread -/
theorem len_swp {ds : List Int} {k : Nat} (hk : k + 1 < ds.length) : (swpL ds k).length = ds.length := by
  unfold swpL
  rw [List.length_append, List.length_take, List.length_cons, List.length_cons, List.length_drop]; omega
theorem getD_swp {ds : List Int} {k j : Nat} (hk : k + 1 < ds.length) : (swpL ds k).getD j 0 = if j = k then ds.getD (k + 1) 0 else if j = k + 1 then ds.getD k 0 else ds.getD j 0 := by
  have tl : (ds.take k).length = k := by rw [List.length_take]; omega
  unfold swpL
  rw [getD_app, tl]
  by_cases z : j < k
  · rw [if_pos z, if_neg (by omega), if_neg (by omega), List.getD_eq_getElem?_getD, List.getD_eq_getElem?_getD, List.getElem?_take, if_pos z]
  · rw [if_neg z]
    by_cases y : j = k
    · rw [if_pos y, y, show k - k = 0 by omega]; rfl
    · rw [if_neg y]
      by_cases x : j = k + 1
      · rw [if_pos x, x, show k + 1 - k = 0 + 1 by omega]; rfl
      · rw [if_neg x, show j - k = (j - (k + 2)) + 1 + 1 by omega, List.getD_cons_succ, List.getD_cons_succ, List.getD_eq_getElem?_getD, List.getD_eq_getElem?_getD, List.getElem?_drop, show k + 2 + (j - (k + 2)) = j by omega]
theorem any_3 {ds es : List Int} (hl : ds.length ≤ 5) (h1 : 1 ≤ es.length) : anyI ds es 10 4 = true ↔ ∃ k, k + 1 < ds.length ∧ swpL ds k = es := by
  rw [anyI_e]
  constructor
  · rintro ⟨i, h0, hi, h⟩
    unfold gro at h
    rw [if_neg (by omega), if_neg (by omega), if_pos (by omega)] at h
    split at h
    · exact ⟨_, by omega, h⟩
    · rw [← h] at h1; exact absurd h1 (by decide)
  · rintro ⟨k, hk, h⟩
    refine ⟨ds.length - 2 - k + 10, by omega, by omega, ?_⟩
    unfold gro
    rw [if_neg (by omega), if_neg (by omega), if_pos (by omega), if_pos (by omega), show ds.length - 2 - (ds.length - 2 - k + 10 - 10) = k by omega]; exact h
theorem any_4 {ds es : List Int} (hl : ds.length ≤ 5) (h1 : 1 ≤ es.length) : anyI ds es 14 10 = true ↔ ∃ k, k < ds.length ∧ ∃ w : Int, (w = 0 ∨ w = 1) ∧ misL ds k w = es := by
  rw [anyI_e]
  constructor
  · rintro ⟨i, h0, hi, h⟩
    unfold gro at h
    rw [if_neg (by omega), if_neg (by omega), if_neg (by omega)] at h
    split at h
    · refine ⟨_, by omega, _, ?_, h⟩
      split
      · exact Or.inl rfl
      · exact Or.inr rfl
    · rw [← h] at h1; exact absurd h1 (by decide)
  · rintro ⟨k, hk, w, hw, h⟩
    rcases hw with rfl | rfl
    · refine ⟨2 * (ds.length - 1 - k) + 14, by omega, by omega, ?_⟩
      unfold gro
      rw [if_neg (by omega), if_neg (by omega), if_neg (by omega), if_pos (by omega), show ds.length - 1 - (2 * (ds.length - 1 - k) + 14 - 14) / 2 = k by omega, if_pos (by omega)]; exact h
    · refine ⟨2 * (ds.length - 1 - k) + 15, by omega, by omega, ?_⟩
      unfold gro
      rw [if_neg (by omega), if_neg (by omega), if_neg (by omega), if_pos (by omega), show ds.length - 1 - (2 * (ds.length - 1 - k) + 15 - 14) / 2 = k by omega, if_neg (by omega)]; exact h
theorem looks_t : ∀ a b : Fin 10, (F11_looksLike ((a : Nat) : Int) ((b : Nat) : Int) ≠ 0 ↔ (tb 0 ((a : Nat) : Int) = ((b : Nat) : Int) ∨ tb 1 ((a : Nat) : Int) = ((b : Nat) : Int))) := by decide +kernel
theorem looks_e {a b : Int} (ha : 0 ≤ a ∧ a < 10) (hb : 0 ≤ b ∧ b < 10) : F11_looksLike a b ≠ 0 ↔ (tb 0 a = b ∨ tb 1 a = b) := by
  have := looks_t ⟨a.toNat, by omega⟩ ⟨b.toNat, by omega⟩
  dsimp only at this
  rw [show ((a.toNat : Nat) : Int) = a by omega, show ((b.toNat : Nat) : Int) = b by omega] at this
  exact this
theorem tb_ne : ∀ a : Fin 10, tb 0 ((a : Nat) : Int) ≠ ((a : Nat) : Int) ∧ tb 1 ((a : Nat) : Int) ≠ ((a : Nat) : Int) := by decide +kernel
theorem tb_n {a w : Int} (ha : 0 ≤ a ∧ a < 10) (hw : w = 0 ∨ w = 1) : tb w a ≠ a := by
  have := tb_ne ⟨a.toNat, by omega⟩
  dsimp only at this
  rw [show ((a.toNat : Nat) : Int) = a by omega] at this
  rcases hw with rfl | rfl
  · exact this.1
  · exact this.2
/-! where two rows differ -/
def df (ds es : List Int) : Nat → Bool := fun i => decide (ds.getD i 0 ≠ es.getD i 0)
def dfI (ds es : List Int) (j : Nat) (u f l : Int) : Prop := u = (cnt (df ds es) j : Nat) ∧ ((u = 0 ∧ f = -1 ∧ l = -1) ∨ (0 < u ∧ ∃ f' l' : Nat, f = (f' : Int) ∧ l = (l' : Int) ∧ f' < j ∧ l' < j ∧ df ds es f' = true ∧ df ds es l' = true ∧ (∀ i, i < f' → df ds es i = false) ∧ ∀ i, l' < i → i < j → df ds es i = false))
theorem cnt_0 {p : Nat → Bool} : ∀ k, cnt p k = 0 → ∀ i, i < k → p i = false
  | 0, _, i, hi => by omega
  | k + 1, h, i, hi => by
    have e : cnt p (k + 1) = cnt p k + if p k then 1 else 0 := rfl
    cases q : p k with
    | true => rw [q] at e; simp at e; omega
    | false =>
      rw [q] at e; simp at e
      by_cases z : i = k
      · rw [z]; exact q
      · exact cnt_0 k (by omega) i (by omega)
theorem L11_s139 {m : Mem} {ds es : List Int} (ha : ∀ j : Nat, j < ds.length → rd m 112 (j : Int) = ds.getD j 0) (hb : ∀ j : Nat, j < ds.length → rd m 113 (j : Int) = es.getD j 0) (hl : ds.length ≤ 5) {kk : Int → Int → Int → Option (Int × Mem)} : ∀ (d t j : Nat) (u f l : Int), j + d = ds.length → d < t → dfI ds es j u f l → ∃ u' f' l', L11_slipOf_139 m (ds.length : Int) kk t u f l (j : Int) = kk u' f' l' ∧ dfI ds es ds.length u' f' l' := by
  intro d
  induction d with
  | zero =>
    intro t j u f l h0 h1 hi
    obtain ⟨t, rfl⟩ : ∃ i, t = i + 1 := ⟨t - 1, by omega⟩
    have : j = ds.length := by omega
    subst this
    rw [L11_slipOf_139, if_pos (by omega)]
    exact ⟨u, f, l, rfl, hi⟩
  | succ d ih =>
    intro t j u f l h0 h1 hi
    obtain ⟨t, rfl⟩ : ∃ i, t = i + 1 := ⟨t - 1, by omega⟩
    have ub := cnt_le (df ds es) j
    have ec : cnt (df ds es) (j + 1) = cnt (df ds es) j + if df ds es j then 1 else 0 := rfl
    rw [L11_slipOf_139, if_neg (by omega), gd_t (by omega), gd_t (by omega), ha j (by omega), hb j (by omega), w32_id (x := (j : Int) + 1) (by omega) (by omega), show (j : Int) + 1 = ((j + 1 : Nat) : Int) by omega]
    simp only [jn_v]
    obtain ⟨i1, i2⟩ := hi
    by_cases z : ds.getD j 0 = es.getD j 0
    · have dj : df ds es j = false := decide_eq_false (fun q => q z)
      rw [dj] at ec
      rw [if_neg (fun q => q z)]
      refine ih t (j + 1) u f l (by omega) (by omega) ⟨by rw [ec]; exact i1, ?_⟩
      rcases i2 with i2 | ⟨a, f', l', b1', b2', b3, b4, b5, b6, b7, b8⟩
      · exact Or.inl i2
      · refine Or.inr ⟨a, f', l', b1', b2', by omega, by omega, b5, b6, b7, fun i x y => ?_⟩
        by_cases w : i = j
        · rw [w]; exact dj
        · exact b8 i x (by omega)
    · have dj : df ds es j = true := decide_eq_true z
      rw [dj, if_pos rfl] at ec
      rw [if_pos z, w32_id (x := u + 1) (by omega) (by omega)]
      rcases i2 with ⟨a1, a2, a3⟩ | ⟨a, f', l', b1', b2', b3, b4, b5, b6, b7, b8⟩
      · rw [if_neg (by omega)]
        have z0 := cnt_0 j (show cnt (df ds es) j = 0 by omega)
        exact ih t (j + 1) (u + 1) (j : Int) (j : Int) (by omega) (by omega) ⟨by rw [ec]; omega, Or.inr ⟨by omega, j, j, rfl, rfl, by omega, by omega, dj, dj, z0, fun i x y => by omega⟩⟩
      · rw [if_pos (by omega)]
        exact ih t (j + 1) (u + 1) f (j : Int) (by omega) (by omega) ⟨by rw [ec]; omega, Or.inr ⟨by omega, f', j, b1', rfl, by omega, by omega, b5, dj, b7, fun i x y => by omega⟩⟩
theorem df_f {ds es : List Int} {i : Nat} : df ds es i = false ↔ ds.getD i 0 = es.getD i 0 := by
  unfold df
  rw [decide_eq_false_iff_not]
  exact ⟨fun h => Classical.not_not.mp h, fun h q => q h⟩
theorem cnt_only {p : Nat → Bool} {n k : Nat} (hk : k < n) (hp : p k = true) (ho : ∀ i, i < n → i ≠ k → p i = false) : cnt p n = 1 := by
  have := cnt_add (p := fun _ => false) (q := p) n k hk (fun i a b => ho i a b) rfl hp
  have z : ∀ n, cnt (fun _ => false) n = 0 := by
    intro n
    induction n with
    | zero => rfl
    | succ n ih => show cnt (fun _ => false) n + 0 = 0; rw [ih]
  rw [z] at this; exact this
theorem slip_3 {ds es : List Int} (hl : ds.length = es.length) (hne : ds ≠ es) {u : Int} {f l : Nat} (hu : u = (cnt (df ds es) ds.length : Nat)) (f1 : f < ds.length) (l1 : l < ds.length) (f2 : df ds es f = true) (l2 : df ds es l = true) (f3 : ∀ i, i < f → df ds es i = false) (l3 : ∀ i, l < i → i < ds.length → df ds es i = false) : (u = 2 ∧ l = f + 1 ∧ ds.getD f 0 = es.getD l 0 ∧ ds.getD l 0 = es.getD f 0) ↔ ∃ k, k + 1 < ds.length ∧ swpL ds k = es := by
  constructor
  · rintro ⟨_, rfl, a, b⟩
    refine ⟨f, l1, list_ext (by rw [len_swp l1]; exact hl) (fun j hj => ?_)⟩
    rw [len_swp l1] at hj
    rw [getD_swp l1]
    by_cases x : j = f
    · rw [if_pos x, x]; exact b
    · rw [if_neg x]
      by_cases y : j = f + 1
      · rw [if_pos y, y]; exact a
      · rw [if_neg y]
        refine df_f.mp ?_
        by_cases w : j < f
        · exact f3 j w
        · exact l3 j (by omega) hj
  · rintro ⟨k, hk, h⟩
    have g : ∀ j, es.getD j 0 = if j = k then ds.getD (k + 1) 0 else if j = k + 1 then ds.getD k 0 else ds.getD j 0 := fun j => by rw [← h]; exact getD_swp hk
    have gk : es.getD k 0 = ds.getD (k + 1) 0 := by rw [g k, if_pos rfl]
    have gk1 : es.getD (k + 1) 0 = ds.getD k 0 := by rw [g (k + 1), if_neg (by omega), if_pos rfl]
    have go : ∀ j, j ≠ k → j ≠ k + 1 → df ds es j = false := fun j x y => df_f.mpr (by rw [g j, if_neg x, if_neg y])
    have dn : ds.getD k 0 ≠ ds.getD (k + 1) 0 := fun q => hne (list_ext hl (fun j hj => by
      rw [g j]
      by_cases x : j = k
      · rw [if_pos x, x]; exact q
      · rw [if_neg x]
        by_cases y : j = k + 1
        · rw [if_pos y, y]; exact q.symm
        · rw [if_neg y]))
    have dk : df ds es k = true := decide_eq_true (by rw [gk]; exact dn)
    have dk1 : df ds es (k + 1) = true := decide_eq_true (by rw [gk1]; exact fun q => dn q.symm)
    have fk : f = k := by
      have a : ¬ k < f := fun q => by rw [f3 k q] at dk; cases dk
      by_cases x : f = k
      · exact x
      · by_cases y : f = k + 1
        · omega
        · rw [go f x y] at f2; cases f2
    have lk : l = k + 1 := by
      have a : ¬ l < k + 1 := fun q => by rw [l3 (k + 1) q hk] at dk1; cases dk1
      by_cases x : l = k + 1
      · exact x
      · rw [go l (by omega) x] at l2; cases l2
    have c1 := cnt_only (p := fun i => decide (i = k)) (n := ds.length) (k := k) (by omega) (decide_eq_true rfl) (fun i _ x => decide_eq_false x)
    have c2 := cnt_add (p := fun i => decide (i = k)) (q := df ds es) ds.length (k + 1) hk (fun i x y => by
      by_cases w : i = k
      · rw [w, dk, decide_eq_true rfl]
      · rw [go i w y, decide_eq_false w]) (decide_eq_false (by omega)) dk1
    rw [fk, lk]
    exact ⟨by omega, rfl, gk1.symm, gk.symm⟩
theorem slip_4 {ds es : List Int} (hd : dgs ds) (he : dgs es) (hl : ds.length = es.length) {u : Int} {f l : Nat} (hu : u = (cnt (df ds es) ds.length : Nat)) (f1 : f < ds.length) (f2 : df ds es f = true) (f3 : ∀ i, i < f → df ds es i = false) : (u = 1 ∧ F11_looksLike (ds.getD f 0) (es.getD f 0) ≠ 0) ↔ ∃ k, k < ds.length ∧ ∃ w : Int, (w = 0 ∨ w = 1) ∧ misL ds k w = es := by
  have gset : ∀ (k : Nat) (x : Int) (j : Nat), k < ds.length → (ds.set k x).getD j 0 = if j = k then x else ds.getD j 0 := fun k x j hk => by
    rw [List.getD_eq_getElem?_getD, List.getD_eq_getElem?_getD, List.getElem?_set]
    by_cases z : k = j
    · rw [if_pos z, if_pos z.symm, if_pos hk]; rfl
    · rw [if_neg z, if_neg (fun q => z q.symm)]
  constructor
  · rintro ⟨a, b⟩
    have only : ∀ j, j < ds.length → j ≠ f → df ds es j = false := fun j hj hn => by
      cases q : df ds es j with
      | false => rfl
      | true =>
        have c1 := cnt_only (p := fun i => decide (i = f)) (n := ds.length) (k := f) f1 (decide_eq_true rfl) (fun i _ x => decide_eq_false x)
        have c2 := cnt_lt (p := fun i => decide (i = f)) (q := df ds es) ds.length j hj (fun i x y => by rw [of_decide_eq_true y]; exact f2) (decide_eq_false hn) q
        omega
    have key : ∀ w : Int, tb w (ds.getD f 0) = es.getD f 0 → misL ds f w = es := fun w hw => by
      have eb := dgD he f
      unfold misL
      rw [if_neg (by omega), hw]
      refine list_ext (by rw [List.length_set]; exact hl) (fun j hj => ?_)
      rw [List.length_set] at hj
      rw [gset f _ j f1]
      by_cases x : j = f
      · rw [if_pos x, x]
      · rw [if_neg x]; exact df_f.mp (only j hj x)
    rcases (looks_e (dgD hd f) (dgD he f)).mp b with c | c
    · exact ⟨f, f1, 0, Or.inl rfl, key 0 c⟩
    · exact ⟨f, f1, 1, Or.inr rfl, key 1 c⟩
  · rintro ⟨k, hk, w, hw, h⟩
    unfold misL at h
    by_cases z : tb w (ds.getD k 0) < 0
    · rw [if_pos z] at h
      rw [← h] at hl
      have : ([] : List Int).length = 0 := rfl
      omega
    · rw [if_neg z] at h
      have g : ∀ j, es.getD j 0 = if j = k then tb w (ds.getD k 0) else ds.getD j 0 := fun j => by rw [← h]; exact gset k _ j hk
      have gk : es.getD k 0 = tb w (ds.getD k 0) := by rw [g k, if_pos rfl]
      have go : ∀ j, j ≠ k → df ds es j = false := fun j x => df_f.mpr (by rw [g j, if_neg x])
      have dk : df ds es k = true := decide_eq_true (by rw [gk]; exact fun q => tb_n (dgD hd k) hw q.symm)
      have fk : f = k := by
        by_cases x : f = k
        · exact x
        · rw [go f x] at f2; cases f2
      have c1 := cnt_only (p := df ds es) (n := ds.length) (k := k) hk dk (fun i _ x => go i x)
      rw [fk]
      refine ⟨by omega, (looks_e (dgD hd k) (dgD he k)).mpr ?_⟩
      rw [gk]
      rcases hw with rfl | rfl
      · exact Or.inl rfl
      · exact Or.inr rfl
theorem L11_s29 {m : Mem} {ds es : List Int} (ha : ∀ j : Nat, j < ds.length → rd m 112 (j : Int) = ds.getD j 0) (hb : ∀ j : Nat, j < es.length → rd m 113 (j : Int) = es.getD j 0) (hl : 1 ≤ ds.length ∧ ds.length ≤ 5) {kk : Option (Int × Mem)} : ∀ (d t j : Nat), j + d = ds.length → d < t → ((∃ k, j ≤ k ∧ k < ds.length ∧ ds.eraseIdx k = es) → L11_slipOf_29 m (ds.length : Int) (es.length : Int) kk t (j : Int) = some (1, m)) ∧ ((¬ ∃ k, j ≤ k ∧ k < ds.length ∧ ds.eraseIdx k = es) → L11_slipOf_29 m (ds.length : Int) (es.length : Int) kk t (j : Int) = kk) := by
  intro d
  induction d with
  | zero =>
    intro t j h0 h1
    obtain ⟨t, rfl⟩ : ∃ i, t = i + 1 := ⟨t - 1, by omega⟩
    rw [L11_slipOf_29, if_pos (by omega)]
    exact ⟨fun ⟨k, a, b, _⟩ => by omega, fun _ => rfl⟩
  | succ d ih =>
    intro t j h0 h1
    obtain ⟨t, rfl⟩ : ∃ i, t = i + 1 := ⟨t - 1, by omega⟩
    obtain ⟨i1, i2⟩ := ih t (j + 1) (by omega) (by omega)
    rw [L11_slipOf_29, if_neg (by omega), iw_e ha hb hl (by omega), b1_v, w32_id (x := (j : Int) + 1) (by omega) (by omega), show (j : Int) + 1 = ((j + 1 : Nat) : Int) by omega]
    by_cases z : ds.eraseIdx j = es
    · rw [if_pos z, if_neg (by omega)]
      exact ⟨fun _ => rfl, fun h => absurd ⟨j, Nat.le_refl _, by omega, z⟩ h⟩
    · rw [if_neg z, if_pos rfl]
      refine ⟨fun ⟨k, a, b, c⟩ => i1 ⟨k, ?_, b, c⟩, fun h => i2 (fun ⟨k, a, b, c⟩ => h ⟨k, by omega, b, c⟩)⟩
      by_cases e : k = j
      · rw [e] at c; exact absurd c z
      · omega
theorem L11_s65 {m : Mem} {ds es : List Int} (ha : ∀ j : Nat, j < ds.length → rd m 112 (j : Int) = ds.getD j 0) (hb : ∀ j : Nat, j < es.length → rd m 113 (j : Int) = es.getD j 0) (hl : 1 ≤ es.length ∧ es.length ≤ 5) {kk : Option (Int × Mem)} : ∀ (d t j : Nat), j + d = es.length → 1 ≤ j → d < t → ((∃ k, j ≤ k ∧ k < es.length ∧ es.getD k 0 = es.getD (k - 1) 0 ∧ es.eraseIdx k = ds) → L11_slipOf_65 m (ds.length : Int) (es.length : Int) kk t (j : Int) = some (2, m)) ∧ ((¬ ∃ k, j ≤ k ∧ k < es.length ∧ es.getD k 0 = es.getD (k - 1) 0 ∧ es.eraseIdx k = ds) → L11_slipOf_65 m (ds.length : Int) (es.length : Int) kk t (j : Int) = kk) := by
  intro d
  induction d with
  | zero =>
    intro t j h0 hj h1
    obtain ⟨t, rfl⟩ : ∃ i, t = i + 1 := ⟨t - 1, by omega⟩
    rw [L11_slipOf_65, if_pos (by omega)]
    exact ⟨fun ⟨k, a, b, _⟩ => by omega, fun _ => rfl⟩
  | succ d ih =>
    intro t j h0 hj h1
    obtain ⟨t, rfl⟩ : ∃ i, t = i + 1 := ⟨t - 1, by omega⟩
    obtain ⟨i1, i2⟩ := ih t (j + 1) (by omega) (by omega) (by omega)
    rw [L11_slipOf_65, if_neg (by omega), w32_id (x := (j : Int) - 1) (by omega) (by omega), gd_t (by omega), gd_t (by omega), show (j : Int) - 1 = ((j - 1 : Nat) : Int) by omega, hb j (by omega), hb (j - 1) (by omega), iw_e hb ha hl (by omega), w32_id (x := (j : Int) + 1) (by omega) (by omega), show (j : Int) + 1 = ((j + 1 : Nat) : Int) by omega]
    simp only [jn_v, b1_v]
    have no : ¬ (es.getD j 0 = es.getD (j - 1) 0 ∧ es.eraseIdx j = ds) → ((∃ k, j ≤ k ∧ k < es.length ∧ es.getD k 0 = es.getD (k - 1) 0 ∧ es.eraseIdx k = ds) → L11_slipOf_65 m (ds.length : Int) (es.length : Int) kk t ((j + 1 : Nat) : Int) = some (2, m)) ∧ ((¬ ∃ k, j ≤ k ∧ k < es.length ∧ es.getD k 0 = es.getD (k - 1) 0 ∧ es.eraseIdx k = ds) → L11_slipOf_65 m (ds.length : Int) (es.length : Int) kk t ((j + 1 : Nat) : Int) = kk) := fun hn => by
      refine ⟨fun ⟨k, a, b, c⟩ => i1 ⟨k, ?_, b, c⟩, fun h => i2 (fun ⟨k, a, b, c⟩ => h ⟨k, by omega, b, c⟩)⟩
      by_cases e : k = j
      · rw [e] at c; exact absurd c hn
      · omega
    by_cases y : es.getD j 0 = es.getD (j - 1) 0
    · rw [if_neg (fun q => q y)]
      by_cases z : es.eraseIdx j = ds
      · rw [if_pos z, if_neg (show ¬ ((1 : Int) = 0) by omega)]
        exact ⟨fun _ => rfl, fun h => absurd ⟨j, Nat.le_refl _, by omega, y, z⟩ h⟩
      · rw [if_neg z, if_pos rfl]; exact no (fun q => z q.2)
    · rw [if_pos y]; exact no (fun q => y q.1)
theorem slipOf_e {ds es : List Int} (h : vd ds = true) (hd : dgs ds) (h' : vd es = true) (he : dgs es) (m : Mem) : ∃ m', F11_slipOf m (vl ds) (vl es) = some (slV ds es, m') ∧ ∀ c i, c ≠ 112 → c ≠ 113 → m' c i = m c i := by
  have l := vd_len h
  have l' := vd_len h'
  unfold F11_slipOf slV
  by_cases z : ds = es
  · rw [if_pos z, if_neg (by rw [z]; exact fun q => q rfl)]
    exact ⟨m, rfl, fun _ _ _ _ => rfl⟩
  · obtain ⟨m1, x1, y1, z1⟩ := digits_e h hd 112 m
    obtain ⟨m2, x2, y2, z2⟩ := digits_e h' he 113 m1
    have z1' : ∀ j : Nat, j < ds.length → rd m2 112 (j : Int) = ds.getD j 0 := fun j hj => by rw [rd_eq (y2 112 _ (by omega))]; exact z1 j hj
    have fr : ∀ c i, c ≠ 112 → c ≠ 113 → m2 c i = m c i := fun c i a b => by rw [y2 c i b]; exact y1 c i a
    have a1 := any_1 (es := es) l.2.1 l'.1
    have a2 := any_2 (es := es) l.2.1 l'.1
    have a3 := any_3 (es := es) l.2.1 l'.1
    have a4 := any_4 (es := es) l.2.1 l'.1
    rw [if_neg z, if_pos (fun q => z (vl_inj h hd h' he q)), x1, b2_v, x2, b2_v]
    refine ⟨m2, ?_, fr⟩
    obtain ⟨s1, s2⟩ := L11_s29 (kk := L11_slipOf_65 m2 (ds.length : Int) (es.length : Int) (if (ds.length : Int) = (es.length : Int) then L11_slipOf_139 m2 (ds.length : Int) (fun (v5_187 : Int) (v6_187 : Int) (v7_187 : Int) => jn (fun (K238 : Option (Int × Mem)) => if v5_187 ≠ 2 then K238 else if v7_187 ≠ (w32 (v6_187 + 1)) then K238 else gd (0 ≤ v6_187 ∧ v6_187 < 6) <| gd (0 ≤ v7_187 ∧ v7_187 < 6) <| if (rd m2 112 v6_187) ≠ (rd m2 113 v7_187) then K238 else gd (0 ≤ v7_187 ∧ v7_187 < 6) <| gd (0 ≤ v6_187 ∧ v6_187 < 6) <| if (rd m2 112 v7_187) ≠ (rd m2 113 v6_187) then K238 else some (3, m2)) (jn (fun (K268 : Option (Int × Mem)) => if v5_187 ≠ 1 then K268 else gd (0 ≤ v6_187 ∧ v6_187 < 6) <| gd (0 ≤ v6_187 ∧ v6_187 < 6) <| if (F11_looksLike (rd m2 112 v6_187) (rd m2 113 v6_187)) = 0 then K268 else some (4, m2)) (some ((-2), m2)))) FU 0 (-1) (-1) 0 else some ((-2), m2)) FU 1) z1' z2 ⟨l.1, l.2.1⟩ ds.length FU 0 (by omega) (by rw [FU_eq]; omega)
    by_cases c1 : anyI ds es 0 5 = true
    · rw [if_pos c1]
      obtain ⟨k, k1, k2⟩ := a1.mp c1
      exact s1 ⟨k, Nat.zero_le _, k1, k2⟩
    · rw [if_neg c1]
      refine Eq.trans (s2 (fun ⟨k, _, k1, k2⟩ => c1 (a1.mpr ⟨k, k1, k2⟩))) ?_
      obtain ⟨t1, t2⟩ := L11_s65 (kk := (if (ds.length : Int) = (es.length : Int) then L11_slipOf_139 m2 (ds.length : Int) (fun (v5_187 : Int) (v6_187 : Int) (v7_187 : Int) => jn (fun (K238 : Option (Int × Mem)) => if v5_187 ≠ 2 then K238 else if v7_187 ≠ (w32 (v6_187 + 1)) then K238 else gd (0 ≤ v6_187 ∧ v6_187 < 6) <| gd (0 ≤ v7_187 ∧ v7_187 < 6) <| if (rd m2 112 v6_187) ≠ (rd m2 113 v7_187) then K238 else gd (0 ≤ v7_187 ∧ v7_187 < 6) <| gd (0 ≤ v6_187 ∧ v6_187 < 6) <| if (rd m2 112 v7_187) ≠ (rd m2 113 v6_187) then K238 else some (3, m2)) (jn (fun (K268 : Option (Int × Mem)) => if v5_187 ≠ 1 then K268 else gd (0 ≤ v6_187 ∧ v6_187 < 6) <| gd (0 ≤ v6_187 ∧ v6_187 < 6) <| if (F11_looksLike (rd m2 112 v6_187) (rd m2 113 v6_187)) = 0 then K268 else some (4, m2)) (some ((-2), m2)))) FU 0 (-1) (-1) 0 else some ((-2), m2))) z1' z2 ⟨l'.1, l'.2.1⟩ (es.length - 1) FU 1 (by omega) (by omega) (by rw [FU_eq]; omega)
      by_cases c2 : anyI ds es 5 5 = true
      · rw [if_pos c2]
        obtain ⟨k, k0, k1, k2⟩ := a2.mp c2
        exact t1 ⟨k, k0, k1, k2⟩
      · rw [if_neg c2]
        refine Eq.trans (t2 (fun ⟨k, k0, k1, k2⟩ => c2 (a2.mpr ⟨k, k0, k1, k2⟩))) ?_
        by_cases hl : ds.length = es.length
        · rw [if_pos (by omega)]
          obtain ⟨u, f, g, e1, e2, e3⟩ := L11_s139 (m := m2) (ds := ds) (es := es) z1' (fun j hj => z2 j (by omega)) l.2.1 (kk := fun (v5_187 : Int) (v6_187 : Int) (v7_187 : Int) => jn (fun (K238 : Option (Int × Mem)) => if v5_187 ≠ 2 then K238 else if v7_187 ≠ (w32 (v6_187 + 1)) then K238 else gd (0 ≤ v6_187 ∧ v6_187 < 6) <| gd (0 ≤ v7_187 ∧ v7_187 < 6) <| if (rd m2 112 v6_187) ≠ (rd m2 113 v7_187) then K238 else gd (0 ≤ v7_187 ∧ v7_187 < 6) <| gd (0 ≤ v6_187 ∧ v6_187 < 6) <| if (rd m2 112 v7_187) ≠ (rd m2 113 v6_187) then K238 else some (3, m2)) (jn (fun (K268 : Option (Int × Mem)) => if v5_187 ≠ 1 then K268 else gd (0 ≤ v6_187 ∧ v6_187 < 6) <| gd (0 ≤ v6_187 ∧ v6_187 < 6) <| if (F11_looksLike (rd m2 112 v6_187) (rd m2 113 v6_187)) = 0 then K268 else some (4, m2)) (some ((-2), m2)))) ds.length FU 0 0 (-1) (-1) (by omega) (by rw [FU_eq]; omega) ⟨rfl, Or.inl ⟨rfl, rfl, rfl⟩⟩
          refine Eq.trans e1 ?_
          rcases e3 with ⟨b1', -, -⟩ | ⟨b0, f', l', rfl, rfl, b3, b4, b5, b6, b7, b8⟩
          · exfalso
            have z0 := cnt_0 ds.length (show cnt (df ds es) ds.length = 0 by omega)
            exact z (list_ext hl (fun j hj => df_f.mp (z0 j hj)))
          · have p3 := slip_3 hl z e2 b3 b4 b5 b6 b7 b8
            have p4 := slip_4 (l := l') hd he hl e2 b3 b5 b7
            have g1 : ∀ {α : Type} (y : Option α), gd (0 ≤ (f' : Int) ∧ (f' : Int) < 6) y = y := fun y => gd_t ⟨by omega, by omega⟩
            have g2 : ∀ {α : Type} (y : Option α), gd (0 ≤ (l' : Int) ∧ (l' : Int) < 6) y = y := fun y => gd_t ⟨by omega, by omega⟩
            simp only [jn_v, g1, g2]
            rw [z1' f' b3, z1' l' b4, z2 f' (by omega), z2 l' (by omega), w32_id (x := (f' : Int) + 1) (by omega) (by omega)]
            have four : (if u ≠ 1 then some (-2, m2) else if F11_looksLike (ds.getD f' 0) (es.getD f' 0) = 0 then some (-2, m2) else some (4, m2)) = some (if anyI ds es 14 10 = true then (4 : Int) else -2, m2) := by
              by_cases c4 : anyI ds es 14 10 = true
              · obtain ⟨q1, q2⟩ := p4.mpr (a4.mp c4)
                rw [if_pos c4, if_neg (by omega), if_neg q2]
              · rw [if_neg c4]
                by_cases w : u = 1
                · rw [if_neg (by omega), if_pos (Classical.byContradiction fun q => c4 (a4.mpr (p4.mp ⟨w, q⟩)))]
                · rw [if_pos w]
            by_cases c3 : anyI ds es 10 4 = true
            · obtain ⟨q1, q2, q3, q4⟩ := p3.mpr (a3.mp c3)
              rw [if_pos c3, if_neg (by omega), if_neg (by omega), if_neg (fun q => q q3), if_neg (fun q => q q4)]
            · rw [if_neg c3, four]
              have nt : ¬ (u = 2 ∧ l' = f' + 1 ∧ ds.getD f' 0 = es.getD l' 0 ∧ ds.getD l' 0 = es.getD f' 0) := fun q => c3 (a3.mpr (p3.mp q))
              by_cases w1 : u = 2
              · rw [if_neg (by omega)]
                by_cases w2 : l' = f' + 1
                · rw [if_neg (by omega)]
                  by_cases w3 : ds.getD f' 0 = es.getD l' 0
                  · rw [if_neg (fun q => q w3), if_pos (fun q => nt ⟨w1, w2, w3, q⟩)]
                  · rw [if_pos w3]
                · rw [if_pos (by omega)]
              · rw [if_pos w1]
        · have c3 : ¬ anyI ds es 10 4 = true := fun q => by
            obtain ⟨k, k1, k2⟩ := a3.mp q
            rw [← k2, len_swp k1] at hl; exact hl rfl
          have c4 : ¬ anyI ds es 14 10 = true := fun q => by
            obtain ⟨k, k1, w, _, k2⟩ := a4.mp q
            unfold misL at k2
            by_cases w0 : tb w (ds.getD k 0) < 0
            · rw [if_pos w0] at k2; rw [← k2] at l'; exact absurd l'.1 (by decide)
            · rw [if_neg w0] at k2; rw [← k2, List.length_set] at hl; exact hl rfl
          rw [if_neg c3, if_neg c4, if_neg (by omega)]
theorem st_slip {n : Nat} {m : Mem} (v w : Int) (hI : Inv n m) : ∃ r m2, F10_slip v w = some r ∧ F11_slip m v w = some (r, m2) ∧ Inv (n + 1) m2 := by
  unfold F10_slip F11_slip
  simp only [jn_v]
  rw [F7_isNumber_e, F7_isNumber_e, F11_isNumber_e, F11_isNumber_e]
  by_cases a : 1 ≤ v ∧ v ≤ 99999
  · rw [if_neg (show ¬ (bz (1 ≤ v ∧ v ≤ 99999) = 0) by rw [bz_0]; exact fun z => z a), if_neg (show ¬ (bz (1 ≤ v ∧ v ≤ 99999) = 0) by rw [bz_0]; exact fun z => z a)]
    by_cases b : 1 ≤ w ∧ w ≤ 99999
    · obtain ⟨p1, p2, p3⟩ := dgt_ok a.1 a.2
      obtain ⟨q1, q2, q3⟩ := dgt_ok b.1 b.2
      obtain ⟨m', x, y⟩ := slipOf_e p1 p2 q1 q2 m
      have k := kind_e p1 p2 q1 q2
      rw [p3, q3] at x k
      rw [if_pos (show bz (1 ≤ w ∧ w ≤ 99999) ≠ 0 by rw [bz_n]; exact b), if_neg (show ¬ (bz (1 ≤ w ∧ w ≤ 99999) = 0) by rw [bz_0]; exact fun z => z b), k, b1_v, x, b2_v]
      exact ⟨_, m', rfl, rfl, Inv_mono (by omega) (Inv_same (fun c i q => y c i (by unfold PS at q; omega) (by unfold PS at q; omega)) hI)⟩
    · rw [if_neg (show ¬ (bz (1 ≤ w ∧ w ≤ 99999) ≠ 0) by rw [bz_n]; exact b), if_pos (show bz (1 ≤ w ∧ w ≤ 99999) = 0 by rw [bz_0]; exact b)]
      exact ⟨_, m, rfl, rfl, Inv_mono (by omega) hI⟩
  · rw [if_pos (show bz (1 ≤ v ∧ v ≤ 99999) = 0 by rw [bz_0]; exact a), if_pos (show bz (1 ≤ v ∧ v ≤ 99999) = 0 by rw [bz_0]; exact a)]
    exact ⟨_, m, rfl, rfl, Inv_mono (by omega) hI⟩
