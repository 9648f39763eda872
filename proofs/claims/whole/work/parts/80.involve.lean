/-! the class: who is against whom -/
def ag (m : Mem) (a b : Nat) (k j : Nat) : Prop := (k < j ∧ (k < a ∨ (k = a ∧ j < b)) ∧ clV m (k : Int) (j : Int) = true) ∨ (j < k ∧ (j < a ∨ (j = a ∧ k < b)) ∧ clV m (j : Int) (k : Int) = true)
def AG (M m : Mem) (a b : Nat) (inv : Int) : Prop := (∀ k : Nat, k < 16 → BM (rd m 52 (k : Int)) ∧ ∀ j : Nat, j < 16 → (mb (rd m 52 (k : Int)) j = true ↔ ag M a b k j)) ∧ BM inv ∧ ∀ k : Nat, k < 16 → (mb inv k = true ↔ ∃ j, j < 16 ∧ ag M a b k j)
theorem mb_or {v : Int} {i k : Nat} (hi : i < 16) (hk : k < 16) : mb (bor v (shl 1 (i : Int))) k = if k = i then true else mb v k := by
  show bt _ (k : Int) = _
  rw [bt_or (by omega) (by omega) (by omega) (by omega)]
  by_cases z : k = i
  · rw [if_pos z, if_pos (by omega)]
  · rw [if_neg z, if_neg (by omega)]; rfl
theorem bor_as {x a b : Int} (hx : BM x) (ha : BM a) (hb : BM b) : bor x (bor a b) = bor (bor x a) b := by
  obtain ⟨x, x1, rfl⟩ := BM_n hx
  obtain ⟨a, a1, rfl⟩ := BM_n ha
  obtain ⟨b, b1, rfl⟩ := BM_n hb
  rw [(borN a1 b1).1, (borN x1 a1).1, (borN x1 (borN a1 b1).2).1, (borN (borN x1 a1).2 b1).1, Nat.or_assoc]
theorem L3_iv22 {n : Nat} {M : Mem} (hI : Inv n M) {a : Nat} (ha : a < 16) {kk : Int → Mem → Option (Int × Mem)} : ∀ (d t b : Nat) (v1 : Int) (m : Mem), b + d = 16 → a < b → d < t → (∀ k i, k ≠ 52 → m k i = M k i) → AG M m a b v1 →
    ∃ v' m', L3_involve_22 (a : Int) kk t v1 (b : Int) m = kk v' m' ∧ (∀ k i, k ≠ 52 → m' k i = M k i) ∧ AG M m' a 16 v' := by
  intro d
  induction d with
  | zero =>
    intro t b v1 m h0 h1 h2 ho hg
    obtain ⟨t, rfl⟩ : ∃ i, t = i + 1 := ⟨t - 1, by omega⟩
    have : b = 16 := by omega
    subst this
    rw [L3_involve_22, if_pos (by omega)]
    exact ⟨v1, m, rfl, ho, hg⟩
  | succ d ih =>
    intro t b v1 m h0 h1 h2 ho hg
    obtain ⟨t, rfl⟩ : ∃ i, t = i + 1 := ⟨t - 1, by omega⟩
    have cl : F3_clash m (a : Int) (b : Int) = some (if clV M (a : Int) (b : Int) = true then 1 else 0) := by
      rw [lo_F3_clash (m := M) (m' := m) (rd_eq (ho _ _ (by omega))) (fun i => rd_eq (ho _ _ (by omega)))]
      exact clash_e hI ⟨by omega, by omega⟩ ⟨by omega, by omega⟩
    have ga : ∀ {α : Type} (y : Option α), gd (0 ≤ (a : Int) ∧ (a : Int) < 16) y = y := fun y => gd_t ⟨by omega, by omega⟩
    have gb : ∀ {α : Type} (y : Option α), gd (0 ≤ (b : Int) ∧ (b : Int) < 16) y = y := fun y => gd_t ⟨by omega, by omega⟩
    rw [L3_involve_22, if_neg (by omega), cl, b1_v, w32_id (x := (b : Int) + 1) (by omega) (by omega), show (b : Int) + 1 = ((b + 1 : Nat) : Int) by omega]
    simp only [jn_v, ga, gb, stw_v]
    obtain ⟨g1, g2, g3⟩ := hg
    by_cases z : clV M (a : Int) (b : Int) = true
    · rw [if_pos z, if_neg (by omega)]
      have sa := BM_shl (i := (a : Int)) (by omega) (by omega)
      have sb := BM_shl (i := (b : Int)) (by omega) (by omega)
      have ba := BM_or (g1 a ha).1 sb
      have bb := BM_or (g1 b (by omega)).1 sa
      have ba' := ba.1; have ba'' := ba.2; have bb' := bb.1; have bb'' := bb.2
      rw [rd_wr_i (m := m) (k := 52) (show (b : Int) ≠ (a : Int) by omega)]
      obtain ⟨q, hq⟩ : ∃ q, q = wr (wr m 52 (a : Int) (bor (rd m 52 (a : Int)) (shl 1 (b : Int)))) 52 (b : Int) (bor (rd m 52 (b : Int)) (shl 1 (a : Int))) := ⟨_, rfl⟩
      rw [← hq, bor_as g2 sa sb]
      have qa : rd q 52 (a : Int) = bor (rd m 52 (a : Int)) (shl 1 (b : Int)) := by
        rw [hq, rd_wr_i (by omega), rd_wr_s]; exact w32_id (by omega) (by omega)
      have qb : rd q 52 (b : Int) = bor (rd m 52 (b : Int)) (shl 1 (a : Int)) := by
        rw [hq, rd_wr_s]; exact w32_id (by omega) (by omega)
      have qo : ∀ k : Nat, k ≠ a → k ≠ b → rd q 52 (k : Int) = rd m 52 (k : Int) := fun k x y => by rw [hq, rd_wr_i (by omega), rd_wr_i (by omega)]
      -- one pair more
      have st : ∀ k j : Nat, ag M a (b + 1) k j ↔ ((k = a ∧ j = b) ∨ (k = b ∧ j = a) ∨ ag M a b k j) := by
        intro k j
        unfold ag
        constructor
        · rintro (⟨x, y, w⟩ | ⟨x, y, w⟩)
          · by_cases e : k = a ∧ j = b
            · exact Or.inl e
            · exact Or.inr (Or.inr (Or.inl ⟨x, by omega, w⟩))
          · by_cases e : k = b ∧ j = a
            · exact Or.inr (Or.inl e)
            · exact Or.inr (Or.inr (Or.inr ⟨x, by omega, w⟩))
        · rintro (⟨rfl, rfl⟩ | ⟨rfl, rfl⟩ | ⟨x, y, w⟩ | ⟨x, y, w⟩)
          · exact Or.inl ⟨h1, by omega, z⟩
          · exact Or.inr ⟨h1, by omega, z⟩
          · exact Or.inl ⟨x, by omega, w⟩
          · exact Or.inr ⟨x, by omega, w⟩
      refine ih t (b + 1) _ q (by omega) (by omega) (by omega) (fun k i x => by rw [hq, wr_ka x, wr_ka x]; exact ho k i x) ⟨fun k hk => ?_, BM_or (BM_or g2 sa) sb, fun k hk => ?_⟩
      · by_cases ea : k = a
        · subst ea
          rw [qa]
          refine ⟨ba, fun j hj => ?_⟩
          rw [mb_or (by omega) hj, st]
          by_cases ej : j = b
          · rw [if_pos ej]; exact ⟨fun _ => Or.inl ⟨rfl, ej⟩, fun _ => rfl⟩
          · rw [if_neg ej, (g1 k hk).2 j hj]
            exact ⟨fun x => Or.inr (Or.inr x), fun x => by rcases x with x | x | x; exact absurd x.2 ej; omega; exact x⟩
        · by_cases eb : k = b
          · subst eb
            rw [qb]
            refine ⟨bb, fun j hj => ?_⟩
            rw [mb_or ha hj, st]
            by_cases ej : j = a
            · rw [if_pos ej]; exact ⟨fun _ => Or.inr (Or.inl ⟨rfl, ej⟩), fun _ => rfl⟩
            · rw [if_neg ej, (g1 k hk).2 j hj]
              exact ⟨fun x => Or.inr (Or.inr x), fun x => by rcases x with x | x | x; omega; exact absurd x.2 ej; exact x⟩
          · rw [qo k ea eb]
            refine ⟨(g1 k hk).1, fun j hj => ?_⟩
            rw [st, (g1 k hk).2 j hj]
            exact ⟨fun x => Or.inr (Or.inr x), fun x => by rcases x with x | x | x; exact absurd x.1 ea; exact absurd x.1 eb; exact x⟩
      · rw [mb_or (by omega) hk, mb_or ha hk]
        by_cases eb : k = b
        · rw [if_pos eb]
          exact ⟨fun _ => ⟨a, ha, (st k a).mpr (Or.inr (Or.inl ⟨eb, rfl⟩))⟩, fun _ => rfl⟩
        · rw [if_neg eb]
          by_cases ea : k = a
          · rw [if_pos ea]
            exact ⟨fun _ => ⟨b, by omega, (st k b).mpr (Or.inl ⟨ea, rfl⟩)⟩, fun _ => rfl⟩
          · rw [if_neg ea, g3 k hk]
            constructor
            · rintro ⟨j, j1, j2⟩; exact ⟨j, j1, (st k j).mpr (Or.inr (Or.inr j2))⟩
            · rintro ⟨j, j1, j2⟩
              rcases (st k j).mp j2 with x | x | x
              · exact absurd x.1 ea
              · exact absurd x.1 eb
              · exact ⟨j, j1, x⟩
    · rw [if_neg z, if_pos rfl]
      have st : ∀ k j : Nat, ag M a (b + 1) k j ↔ ag M a b k j := by
        intro k j
        unfold ag
        constructor
        · rintro (⟨x, y, w⟩ | ⟨x, y, w⟩)
          · refine Or.inl ⟨x, ?_, w⟩
            by_cases e : k = a ∧ j = b
            · rw [e.1, e.2] at w; exact absurd w z
            · omega
          · refine Or.inr ⟨x, ?_, w⟩
            by_cases e : j = a ∧ k = b
            · rw [e.1, e.2] at w; exact absurd w z
            · omega
        · rintro (⟨x, y, w⟩ | ⟨x, y, w⟩)
          · exact Or.inl ⟨x, by omega, w⟩
          · exact Or.inr ⟨x, by omega, w⟩
      exact ih t (b + 1) v1 m (by omega) (by omega) (by omega) ho ⟨fun k hk => ⟨(g1 k hk).1, fun j hj => by rw [st]; exact (g1 k hk).2 j hj⟩, g2, fun k hk => by simp only [st]; exact g3 k hk⟩
theorem L3_iv12 {n : Nat} {M : Mem} (hI : Inv n M) : ∀ (d t a : Nat) (v1 : Int) (m : Mem), a + d = 16 → d < t → (∀ k i, k ≠ 52 → m k i = M k i) → AG M m a (a + 1) v1 →
    ∃ v' m', L3_involve_12 t v1 (a : Int) m = some (v', m') ∧ (∀ k i, k ≠ 52 → m' k i = M k i) ∧ AG M m' 16 17 v' := by
  intro d
  induction d with
  | zero =>
    intro t a v1 m h0 h1 ho hg
    obtain ⟨t, rfl⟩ : ∃ i, t = i + 1 := ⟨t - 1, by omega⟩
    have : a = 16 := by omega
    subst this
    rw [L3_involve_12, if_pos (by omega)]
    exact ⟨v1, m, rfl, ho, hg⟩
  | succ d ih =>
    intro t a v1 m h0 h1 ho hg
    obtain ⟨t, rfl⟩ : ∃ i, t = i + 1 := ⟨t - 1, by omega⟩
    obtain ⟨v', m1, x1, y1, z1⟩ := L3_iv22 hI (a := a) (by omega) (kk := fun (v1_77 : Int) (m_77 : Mem) => L3_involve_12 t v1_77 ((a + 1 : Nat) : Int) m_77) (16 - (a + 1)) FU (a + 1) v1 m (by omega) (by omega) (by rw [FU_eq]; omega) ho hg
    have st : ∀ k j : Nat, k < 16 → j < 16 → (ag M a 16 k j ↔ ag M (a + 1) (a + 1 + 1) k j) := by
      intro k j hk hj
      unfold ag
      constructor
      · rintro (⟨x, y, w⟩ | ⟨x, y, w⟩)
        · exact Or.inl ⟨x, by omega, w⟩
        · exact Or.inr ⟨x, by omega, w⟩
      · rintro (⟨x, y, w⟩ | ⟨x, y, w⟩)
        · exact Or.inl ⟨x, by omega, w⟩
        · exact Or.inr ⟨x, by omega, w⟩
    rw [L3_involve_12, if_neg (by omega), w32_id (x := (a : Int) + 1) (by omega) (by omega)]
    have x1' : L3_involve_22 (a : Int) (fun (v1_77 : Int) (m_77 : Mem) => L3_involve_12 t v1_77 ((a : Int) + 1) m_77) FU v1 ((a : Int) + 1) m = L3_involve_12 t v' ((a + 1 : Nat) : Int) m1 := x1
    rw [x1']
    exact ih t (a + 1) v' m1 (by omega) (by omega) y1 ⟨fun k hk => ⟨(z1.1 k hk).1, fun j hj => by rw [← st k j hk hj]; exact (z1.1 k hk).2 j hj⟩, z1.2.1, fun k hk => by
      rw [z1.2.2 k hk]
      constructor
      · rintro ⟨j, j1, j2⟩; exact ⟨j, j1, (st k j hk j1).mp j2⟩
      · rintro ⟨j, j1, j2⟩; exact ⟨j, j1, (st k j hk j1).mpr j2⟩⟩
theorem mb0 (j : Nat) : mb 0 j = false := mb_00 j
theorem involve_e {n : Nat} {m : Mem} (hI : Inv n m) : ∃ v' m', F3_involve m = some (v', m') ∧ (∀ k i, k ≠ 52 → m' k i = m k i) ∧ AG m m' 16 17 v' := by
  obtain ⟨q, hq⟩ : ∃ q, q = fil m 52 0 ((16 : Nat) : Int) 0 := ⟨_, rfl⟩
  have z : ∀ k : Nat, k < 16 → rd q 52 (k : Int) = 0 := fun k hk => by
    show w32 (q 52 (k : Int)) = 0
    rw [hq, fil_i (by omega) (by omega)]; exact w32_id (by omega) (by omega)
  have no : ∀ k j : Nat, ¬ ag m 0 (0 + 1) k j := by
    intro k j h
    unfold ag at h
    rcases h with ⟨x, y, _⟩ | ⟨x, y, _⟩ <;> omega
  have b0 : BM 0 := ⟨by omega, by omega⟩
  obtain ⟨v', m', p1, p2, p3⟩ := L3_iv12 hI 16 FU 0 0 q (by omega) (by rw [FU_eq]; omega) (fun k i x => by rw [hq, fil_k x]) ⟨fun k hk => by
    rw [z k hk]
    exact ⟨b0, fun j hj => ⟨fun h => (by rw [mb0] at h; cases h), fun h => absurd h (no k j)⟩⟩, b0, fun k hk => ⟨fun h => (by rw [mb0] at h; cases h), fun ⟨j, _, h⟩ => absurd h (no k j)⟩⟩
  refine ⟨v', m', ?_, p2, p3⟩
  unfold F3_involve
  rw [fillI_e (len := 16) _ (by omega), b1_v, ← hq]; exact p1
theorem L3_frs {M m : Mem} {inv s : Int} (hg : AG M m 16 17 inv) (hs : BM s) : ∀ (d t k : Nat), k + d = 16 → d < t → ∃ r : Int, L3_frees_2 m s t (k : Int) = some r ∧ (r = 0 ∨ r = 1) ∧ (r = 1 ↔ ∀ i, k ≤ i → i < 16 → mb s i = false → ∀ j, j < 16 → ag M 16 17 i j → mb s j = true) := by
  intro d
  induction d with
  | zero =>
    intro t k h0 h1
    obtain ⟨t, rfl⟩ : ∃ i, t = i + 1 := ⟨t - 1, by omega⟩
    rw [L3_frees_2, if_pos (by omega)]
    exact ⟨1, rfl, Or.inr rfl, ⟨fun _ i a b => (by omega), fun _ => rfl⟩⟩
  | succ d ih =>
    intro t k h0 h1
    obtain ⟨t, rfl⟩ : ∃ i, t = i + 1 := ⟨t - 1, by omega⟩
    obtain ⟨r, r1, r2, r3⟩ := ih t (k + 1) (by omega) (by omega)
    obtain ⟨bk, gk⟩ := hg.1 k (by omega)
    have gt : ∀ {α : Type} (y : Option α), gd (0 ≤ (k : Int) ∧ (k : Int) < 16) y = y := fun y => gd_t ⟨by omega, by omega⟩
    rw [L3_frees_2, if_neg (by omega), bitm (by omega) (by omega), w32_id (x := (k : Int) + 1) (by omega) (by omega), show (k : Int) + 1 = ((k + 1 : Nat) : Int) by omega, r1, show ((k : Int)).toNat = k by omega]
    simp only [jn_v, gt]
    have all : (mb s k = false → ∀ j, j < 16 → ag M 16 17 k j → mb s j = true) → (r = 1 ↔ ∀ i, k ≤ i → i < 16 → mb s i = false → ∀ j, j < 16 → ag M 16 17 i j → mb s j = true) := by
      intro hk
      rw [r3]
      constructor
      · intro h i a b
        by_cases z : i = k
        · rw [z]; exact hk
        · exact h i (by omega) b
      · intro h i a b; exact h i (by omega) b
    cases a : mb s k with
    | true =>
      rw [if_pos rfl, if_pos (show (1 : Int) ≠ 0 by omega)]
      exact ⟨r, rfl, r2, all (fun z => by rw [a] at z; cases z)⟩
    | false =>
      rw [if_neg (show ¬ (false = true) by intro z; cases z), if_neg (show ¬ ((0 : Int) ≠ 0) by omega)]
      have sub := sub_e bk hs
      by_cases b : band (rd m 52 (k : Int)) (bxor s (-1)) = 0
      · rw [if_pos b]
        exact ⟨r, rfl, r2, all (fun _ j hj hag => sub.mp b j hj ((gk j hj).mpr hag))⟩
      · rw [if_neg b]
        refine ⟨0, rfl, Or.inl rfl, ⟨fun h => (by omega), fun h => ?_⟩⟩
        exact absurd (sub.mpr (fun j hj hm => h k (Nat.le_refl _) (by omega) a j hj ((gk j hj).mp hm))) b
theorem freesD {M m : Mem} {inv s : Int} (hg : AG M m 16 17 inv) (hs : BM s) : ∃ r : Int, F3_frees m s = some r ∧ (r = 0 ∨ r = 1) ∧ (r = 1 ↔ FRp M s) := by
  obtain ⟨r, r1, r2, r3⟩ := L3_frs hg hs 16 FU 0 (by omega) (by rw [FU_eq]; omega)
  refine ⟨r, r1, r2, ?_⟩
  rw [r3]
  constructor
  · intro h a b ab b16 hc
    cases x : mb s a with
    | true => exact Or.inl rfl
    | false => exact Or.inr (h a (Nat.zero_le _) (by omega) x b b16 (Or.inl ⟨ab, by omega, hc⟩))
  · intro h i _ hi hm j hj hag
    rcases hag with ⟨x, y, w⟩ | ⟨x, y, w⟩
    · rcases h i j x hj w with z | z
      · rw [hm] at z; cases z
      · exact z
    · rcases h j i x hi w with z | z
      · exact z
      · rw [hm] at z; cases z
/-- sets within u alone looked at -/
theorem L3_fo9 {P : Int → Prop} {m : Mem} {u : Int} (hu : BM u) (hfr : ∀ s, BM s → ∃ r : Int, F3_frees m s = some r ∧ (r = 0 ∨ r = 1) ∧ (r = 1 ↔ P s)) : ∀ (d t : Nat) (v2 v3 : Int), v3 + d = u + 1 → 0 ≤ v3 → d < t → BM v2 → P v2 → (∀ i : Nat, i < 16 → mb v2 i = true → mb u i = true) → (v2 < v3 ∨ v2 = u) → (∀ s, BM s → s < v3 → (∀ i : Nat, i < 16 → mb s i = true → mb u i = true) → P s → pcv v2 < pcv s ∨ (pcv v2 = pcv s ∧ v2 ≤ s)) → ∃ r, L3_fewestOut_9 m u t v2 v3 = some (r, m) ∧ BM r ∧ P r ∧ (∀ i : Nat, i < 16 → mb r i = true → mb u i = true) ∧ ∀ s, BM s → (∀ i : Nat, i < 16 → mb s i = true → mb u i = true) → P s → pcv r < pcv s ∨ (pcv r = pcv s ∧ r ≤ s) := by
  intro d
  induction d with
  | zero =>
    intro t v2 v3 h0 h1 h2 h3 h4 h4' h5 h6
    obtain ⟨t, rfl⟩ : ∃ i, t = i + 1 := ⟨t - 1, by omega⟩
    rw [L3_fewestOut_9, if_pos (by omega)]
    exact ⟨v2, rfl, h3, h4, h4', fun s hs hsu hp => h6 s hs (by have := sub_le hs hu hsu; omega) hsu hp⟩
  | succ d ih =>
    intro t v2 v3 h0 h1 h2 h3 h4 h4' h5 h6
    obtain ⟨t, rfl⟩ : ∃ i, t = i + 1 := ⟨t - 1, by omega⟩
    have ub := hu.2
    have b2 : BM v3 := ⟨h1, by omega⟩
    obtain ⟨r, r1, r2, r3⟩ := hfr v3 b2
    have sub := sub_e b2 hu
    have keep : ((∀ i : Nat, i < 16 → mb v3 i = true → mb u i = true) → P v3 → pcv v2 ≤ pcv v3) → ∃ r, L3_fewestOut_9 m u t v2 (w32 (v3 + 1)) = some (r, m) ∧ BM r ∧ P r ∧ (∀ i : Nat, i < 16 → mb r i = true → mb u i = true) ∧ ∀ s, BM s → (∀ i : Nat, i < 16 → mb s i = true → mb u i = true) → P s → pcv r < pcv s ∨ (pcv r = pcv s ∧ r ≤ s) := by
      intro hk
      rw [w32_id (by omega) (by omega)]
      refine ih t v2 (v3 + 1) (by omega) (by omega) (by omega) h3 h4 h4' (by omega) (fun s hs hl hsu hp => ?_)
      by_cases z : s = v3
      · rw [z] at hp hsu ⊢
        have := hk hsu hp
        by_cases e : pcv v2 = pcv v3
        · refine Or.inr ⟨e, ?_⟩
          rcases h5 with h5 | h5
          · omega
          · have : v3 = v2 := sub_eq b2 h3 (by rw [h5]; exact hsu) e.symm
            omega
        · exact Or.inl (by omega)
      · exact h6 s hs (by omega) hsu hp
    rw [L3_fewestOut_9, if_neg (by omega), bitCount_e h3, bitCount_e b2, r1]
    simp only [jn_v, b1_v]
    by_cases a : pcv v2 ≤ pcv v3
    · rw [if_pos a]
      by_cases e : band v3 (bxor u (-1)) ≠ 0
      · rw [if_pos e]; exact keep (fun _ _ => a)
      · rw [if_neg e, if_pos trivial]; exact keep (fun _ _ => a)
    · rw [if_neg a]
      by_cases e : band v3 (bxor u (-1)) ≠ 0
      · rw [if_pos e]; exact keep (fun hsu => absurd (sub.mpr hsu) e)
      · have hsu := sub.mp (by omega)
        rw [if_neg e, if_neg (show ¬ ((1 : Int) = 0) by omega)]
        by_cases c : r = 0
        · rw [if_pos c]; exact keep (fun _ hp => by have := r3.mpr hp; omega)
        · rw [if_neg c, w32_id (by omega) (by omega)]
          have hp := r3.mp (by omega)
          refine ih t v3 (v3 + 1) (by omega) (by omega) (by omega) b2 hp hsu (by omega) (fun s hs hl hss hps => ?_)
          by_cases z : s = v3
          · rw [z]; exact Or.inr ⟨rfl, Int.le_refl _⟩
          · have := h6 s hs (by omega) hss hps
            exact Or.inl (by omega)
theorem dfreed {n : Nat} {m : Mem} (hI : Inv n m) : ∃ r m', F10_freed m = some (r, m') ∧ Sm m m' ∧ FM (FRp m) r := by
  obtain ⟨u, m1, x1, y1, z1⟩ := involve_e hI
  have s1 : Sm m m1 := fun k j q => y1 k j (by unfold PS at q; omega)
  have hu := z1.2.1
  -- all that clash left out frees
  have inI : ∀ a b : Nat, a < b → b < 16 → clV m (a : Int) (b : Int) = true → mb u a = true ∧ mb u b = true := fun a b ab b16 hc =>
    ⟨(z1.2.2 a (by omega)).mpr ⟨b, b16, Or.inl ⟨ab, by omega, hc⟩⟩, (z1.2.2 b b16).mpr ⟨a, by omega, Or.inr ⟨ab, by omega, hc⟩⟩⟩
  obtain ⟨r, r1, r2, r3, r4, r5⟩ := L3_fo9 (P := FRp m) (m := m1) hu (fun s hs => freesD z1 hs) (u + 1).toNat FU u 0 (by have := hu.1; omega) (by omega) (by rw [FU_eq]; have := hu.2; omega) hu (fun a b ab b16 hc => Or.inl (inI a b ab b16 hc).1) (fun _ _ h => h) (Or.inr rfl) (fun s hs hl => by have := hs.1; omega)
  refine ⟨r, m1, ?_, s1, r2, r3, fun s hs hp => ?_⟩
  · unfold F10_freed F3_fewestOut
    rw [x1, b2_v, r1, b2_v]
  · obtain ⟨t, t1, t2, t3⟩ := and_b hs hu
    have tsub : ∀ i : Nat, i < 16 → mb t i = true → mb s i = true := fun i hi h => by
      rw [t3 i hi, Bool.and_eq_true] at h; exact h.1
    have tu : ∀ i : Nat, i < 16 → mb t i = true → mb u i = true := fun i hi h => by
      rw [t3 i hi, Bool.and_eq_true] at h; exact h.2
    have tp : FRp m t := fun a b ab b16 hc => by
      have := inI a b ab b16 hc
      rw [t3 a (by omega), t3 b b16, this.1, this.2, Bool.and_true, Bool.and_true]
      exact hp a b ab b16 hc
    have c1 := r5 t t1 tu tp
    have c2 := pcv_sub tsub
    by_cases e : pcv t = pcv s
    · have : t = s := sub_eq t1 hs tsub e
      rw [this] at c1; exact c1
    · exact Or.inl (by omega)
theorem st_freed {n : Nat} {m : Mem} (hI : Inv n m) : Sq n (fun m => F10_freed m) (fun m => F11_freed m) m := by
  refine Sq_rel (R := fun m x => FM (FRp m) x) hI (dfreed hI) (fun m1 h => rfreed h) (fun m1 x h q => ?_) (fun x y => FM_u)
  have e : FRp m1 = FRp m := by funext s; exact propext (FRp_s h s)
  rw [e] at q; exact q
