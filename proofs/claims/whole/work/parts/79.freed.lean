/-! the fewest to leave out: the first of the least sets -/
def FM (P : Int → Prop) (r : Int) : Prop := BM r ∧ P r ∧ ∀ s, BM s → P s → pcv r < pcv s ∨ (pcv r = pcv s ∧ r ≤ s)
theorem FM_u {P : Int → Prop} {r t : Int} (h : FM P r) (h' : FM P t) : r = t := by
  have a := h.2.2 t h'.1 h'.2.1
  have b := h'.2.2 r h.1 h.2.1
  omega
theorem pcv_sub {s t : Int} (h : ∀ i : Nat, i < 16 → mb s i = true → mb t i = true) : pcv s ≤ pcv t := by
  have := cnt_mono (p := mb s) (q := mb t) 16 h
  unfold pcv; omega
theorem pcv_lt {s t : Int} (h : ∀ i : Nat, i < 16 → mb s i = true → mb t i = true) {j : Nat} (hj : j < 16) (h1 : mb s j = false) (h2 : mb t j = true) : pcv s < pcv t := by
  have := cnt_lt (p := mb s) (q := mb t) 16 j hj h h1 h2
  unfold pcv; omega
theorem sub_eq {s t : Int} (hs : BM s) (ht : BM t) (h : ∀ i : Nat, i < 16 → mb s i = true → mb t i = true) (e : pcv s = pcv t) : s = t := by
  refine BM_ext hs ht (fun i hi => ?_)
  cases a : mb s i with
  | true => exact (h i hi a).symm
  | false =>
    cases b : mb t i with
    | false => rfl
    | true => have := pcv_lt h hi a b; omega
theorem full_b : ∀ i : Fin 16, mb 65535 i = true := by decide +kernel
theorem BM_full : BM 65535 := ⟨by omega, by omega⟩
theorem and_b {s t : Int} (hs : BM s) (ht : BM t) : ∃ r, BM r ∧ r ≤ s ∧ ∀ i : Nat, i < 16 → mb r i = (mb s i && mb t i) := by
  obtain ⟨m, m1, rfl⟩ := BM_n hs
  obtain ⟨n, n1, rfl⟩ := BM_n ht
  have l : m &&& n ≤ m := Nat.and_le_left
  refine ⟨((m &&& n : Nat) : Int), ⟨by omega, by omega⟩, by omega, fun i _ => ?_⟩
  rw [btN (by omega), btN (by omega), btN (by omega), Nat.testBit_and]
theorem sub_le {s t : Int} (hs : BM s) (ht : BM t) (h : ∀ i : Nat, i < 16 → mb s i = true → mb t i = true) : s ≤ t := by
  obtain ⟨r, r1, r2, r3⟩ := and_b ht hs
  have : r = s := BM_ext r1 hs (fun i hi => by
    rw [r3 i hi]
    cases a : mb s i with
    | false => rw [Bool.and_false]
    | true => rw [h i hi a]; rfl)
  omega
def FRp (m : Mem) (s : Int) : Prop := ∀ a b : Nat, a < b → b < 16 → clV m (a : Int) (b : Int) = true → mb s a = true ∨ mb s b = true
theorem FRp_s {m m' : Mem} (h : Sm m m') (s : Int) : FRp m' s ↔ FRp m s := by unfold FRp; simp only [clV_s h]
theorem prO_in {m : Mem} : ∀ (d a : Nat) (x : Int), a + d = 16 → x ∈ prO m d (a : Int) → ∃ p q : Nat, p < q ∧ q < 16 ∧ clV m (p : Int) (q : Int) = true ∧ x = 16 * (p : Int) + (q : Int)
  | 0, a, x, _, h => by cases h
  | d + 1, a, x, hd, h => by
    rw [prO_e] at h
    rcases List.mem_append.mp h with h | h
    · have r := prI_in _ _ _ h
      refine ⟨a, (x - 16 * (a : Int)).toNat, by omega, by omega, ?_, by omega⟩
      rw [show (((x - 16 * (a : Int)).toNat : Nat) : Int) = x - 16 * (a : Int) by omega]; exact r.2.2
    · rw [show (a : Int) + 1 = ((a + 1 : Nat) : Int) by omega] at h
      exact prO_in d (a + 1) x (by omega) h
theorem prO_mem {m : Mem} : ∀ (d a p q : Nat), a + d = 16 → a ≤ p → p < q → q < 16 → clV m (p : Int) (q : Int) = true → 16 * (p : Int) + (q : Int) ∈ prO m d (a : Int)
  | 0, a, p, q, h, h1, h2, h3, _ => by omega
  | d + 1, a, p, q, h, h1, h2, h3, hc => by
    rw [prO_e]
    by_cases e : p = a
    · subst e
      exact List.mem_append_left _ (prI_mem _ _ _ (by omega) (by omega) hc)
    · rw [show (a : Int) + 1 = ((a + 1 : Nat) : Int) by omega]
      exact List.mem_append_right _ (prO_mem d (a + 1) p q (by omega) (by omega) h2 h3 hc)
theorem bitm {v : Int} {i : Int} (h0 : 0 ≤ i) (h1 : i < 16) : band (shr v i) 1 = if mb v i.toNat = true then 1 else 0 := by
  rw [bit_e h0 h1]
  show _ = if bt v ((i.toNat : Nat) : Int) = true then (1 : Int) else 0
  rw [show ((i.toNat : Nat) : Int) = i by omega]
theorem idv16 : ∀ a : Fin 256, idv ((a : Nat) : Int) 16 = (((a : Nat) / 16 : Nat) : Int) ∧ irm ((a : Nat) : Int) 16 = (((a : Nat) % 16 : Nat) : Int) := by decide +kernel
/-- does a set free, by the reference -/
theorem L11_frs {M m : Mem} {s : Int} (h40 : rd m 83 40 = ((PR M).length : Int)) (h111 : ∀ i : Nat, i < (PR M).length → rd m 111 (i : Int) = (PR M).getD i 0) : ∀ (d t k : Nat), k + d = (PR M).length → d < t → ∃ r : Int, L11_frees_2 m s t (k : Int) = some r ∧ (r = 0 ∨ r = 1) ∧ (r = 1 ↔ ∀ i, k ≤ i → i < (PR M).length → mb s ((PR M).getD i 0 / 16).toNat = true ∨ mb s ((PR M).getD i 0 % 16).toNat = true) := by
  have pl := PR_len (m := M)
  intro d
  induction d with
  | zero =>
    intro t k h0 h1
    obtain ⟨t, rfl⟩ : ∃ i, t = i + 1 := ⟨t - 1, by omega⟩
    rw [L11_frees_2, h40, if_pos (by omega)]
    exact ⟨1, rfl, Or.inr rfl, ⟨fun _ i a b => (by omega), fun _ => rfl⟩⟩
  | succ d ih =>
    intro t k h0 h1
    obtain ⟨t, rfl⟩ : ∃ i, t = i + 1 := ⟨t - 1, by omega⟩
    obtain ⟨x, hx⟩ : ∃ x, x = (PR M).getD k 0 := ⟨_, rfl⟩
    have xm : x ∈ prO M 16 ((0 : Nat) : Int) := by rw [hx]; exact getD_mem (L := PR M) (by omega)
    obtain ⟨p, q, p1, p2, p3, p4⟩ := prO_in 16 0 x (by omega) xm
    have xk := h111 k (by omega)
    rw [← hx] at xk
    have e16 := idv16 ⟨x.toNat, by omega⟩
    dsimp only at e16
    rw [show ((x.toNat : Nat) : Int) = x by omega, show x.toNat / 16 = p by omega, show x.toNat % 16 = q by omega] at e16
    obtain ⟨r, r1, r2, r3⟩ := ih t (k + 1) (by omega) (by omega)
    have gt : ∀ {α : Type} (y : Option α), gd (0 ≤ (k : Int) ∧ (k : Int) < 120) y = y := fun y => gd_t ⟨by omega, by omega⟩
    rw [L11_frees_2, h40, if_neg (by omega), gt, xk, e16.1, e16.2, bitm (by omega) (by omega), bitm (by omega) (by omega), w32_id (x := (k : Int) + 1) (by omega) (by omega), show (k : Int) + 1 = ((k + 1 : Nat) : Int) by omega, r1]
    simp only [jn_v, gt]
    have i1 : (x / 16).toNat = p := by omega
    have i2 : (x % 16).toNat = q := by omega
    have c1 : ((p : Int)).toNat = p := by omega
    have c2 : ((q : Int)).toNat = q := by omega
    rw [c1, c2]
    have all : (mb s p = true ∨ mb s q = true) → (r = 1 ↔ ∀ i, k ≤ i → i < (PR M).length → mb s ((PR M).getD i 0 / 16).toNat = true ∨ mb s ((PR M).getD i 0 % 16).toNat = true) := by
      intro hpq
      rw [r3]
      constructor
      · intro h i a b
        by_cases z : i = k
        · rw [z, ← hx, i1, i2]; exact hpq
        · exact h i (by omega) b
      · intro h i a b; exact h i (by omega) b
    by_cases a : mb s p = true
    · rw [if_pos a, if_pos (show (1 : Int) ≠ 0 by omega)]
      exact ⟨r, rfl, r2, all (Or.inl a)⟩
    · rw [if_neg a, if_neg (show ¬ ((0 : Int) ≠ 0) by omega)]
      by_cases b : mb s q = true
      · rw [if_pos b, if_pos (show (1 : Int) ≠ 0 by omega)]
        exact ⟨r, rfl, r2, all (Or.inr b)⟩
      · rw [if_neg b, if_neg (show ¬ ((0 : Int) ≠ 0) by omega)]
        refine ⟨0, rfl, Or.inl rfl, ⟨fun h => (by omega), fun h => ?_⟩⟩
        have := h k (Nat.le_refl _) (by omega)
        rw [← hx, i1, i2] at this
        rcases this with z | z
        · exact absurd z a
        · exact absurd z b
theorem freesR {M m : Mem} {s : Int} (h40 : rd m 83 40 = ((PR M).length : Int)) (h111 : ∀ i : Nat, i < (PR M).length → rd m 111 (i : Int) = (PR M).getD i 0) : ∃ r : Int, F11_frees m s = some r ∧ (r = 0 ∨ r = 1) ∧ (r = 1 ↔ FRp M s) := by
  have pl := PR_len (m := M)
  obtain ⟨r, r1, r2, r3⟩ := L11_frs (s := s) h40 h111 (PR M).length FU 0 (by omega) (by rw [FU_eq]; omega)
  refine ⟨r, r1, r2, ?_⟩
  rw [r3]
  constructor
  · intro h a b ab b16 hc
    have mm := prO_mem (m := M) 16 0 a b (by omega) (by omega) ab b16 hc
    have mm' : 16 * (a : Int) + (b : Int) ∈ PR M := mm
    obtain ⟨i, hi, he⟩ := List.mem_iff_getElem.mp mm'
    have e : (PR M).getD i 0 = 16 * (a : Int) + (b : Int) := by
      rw [List.getD_eq_getElem?_getD, List.getElem?_eq_getElem hi]; exact he
    have := h i (by omega) hi
    rw [e, show ((16 * (a : Int) + (b : Int)) / 16).toNat = a by omega, show ((16 * (a : Int) + (b : Int)) % 16).toNat = b by omega] at this
    exact this
  · intro h i _ hi
    obtain ⟨p, q, p1, p2, p3, p4⟩ := prO_in 16 0 _ (by omega) (getD_mem (L := prO M 16 ((0 : Nat) : Int)) hi)
    have e : (PR M).getD i 0 = 16 * (p : Int) + (q : Int) := p4
    rw [e, show ((16 * (p : Int) + (q : Int)) / 16).toNat = p by omega, show ((16 * (p : Int) + (q : Int)) % 16).toNat = q by omega]
    exact h p q p1 p2 p3
theorem L11_fr10 {P : Int → Prop} {m : Mem} (hfr : ∀ s, BM s → ∃ r : Int, F11_frees m s = some r ∧ (r = 0 ∨ r = 1) ∧ (r = 1 ↔ P s)) : ∀ (d t : Nat) (v1 v2 : Int), v2 + d = 65536 → 0 ≤ v2 → d < t → BM v1 → P v1 → (v1 < v2 ∨ v1 = 65535) → (∀ s, BM s → s < v2 → P s → pcv v1 < pcv s ∨ (pcv v1 = pcv s ∧ v1 ≤ s)) → ∃ r, L11_freed_10 m t v1 v2 = some (r, m) ∧ FM P r := by
  intro d
  induction d with
  | zero =>
    intro t v1 v2 h0 h1 h2 h3 h4 h5 h6
    obtain ⟨t, rfl⟩ : ∃ i, t = i + 1 := ⟨t - 1, by omega⟩
    rw [L11_freed_10, if_pos (by omega)]
    exact ⟨v1, rfl, h3, h4, fun s hs hp => h6 s hs (by have := hs.2; omega) hp⟩
  | succ d ih =>
    intro t v1 v2 h0 h1 h2 h3 h4 h5 h6
    obtain ⟨t, rfl⟩ : ∃ i, t = i + 1 := ⟨t - 1, by omega⟩
    have b2 : BM v2 := ⟨h1, by omega⟩
    obtain ⟨r, r1, r2, r3⟩ := hfr v2 b2
    have keep : (P v2 → pcv v1 ≤ pcv v2) → ∃ r, L11_freed_10 m t v1 (w32 (v2 + 1)) = some (r, m) ∧ FM P r := by
      intro hk
      rw [w32_id (by omega) (by omega)]
      refine ih t v1 (v2 + 1) (by omega) (by omega) (by omega) h3 h4 (by omega) (fun s hs hl hp => ?_)
      by_cases z : s = v2
      · rw [z] at hp ⊢
        have := hk hp
        by_cases e : pcv v1 = pcv v2
        · refine Or.inr ⟨e, ?_⟩
          rcases h5 with h5 | h5
          · omega
          · have : v2 = v1 := sub_eq b2 h3 (fun i hi _ => by rw [h5]; exact full_b ⟨i, hi⟩) e.symm
            omega
        · exact Or.inl (by omega)
      · exact h6 s hs (by omega) hp
    rw [L11_freed_10, if_neg (by omega), bitsOf_e b2, b1_v, bitsOf_e h3, b1_v, r1]
    simp only [jn_v, b1_v]
    by_cases a : pcv v1 ≤ pcv v2
    · rw [if_pos a]; exact keep (fun _ => a)
    · rw [if_neg a]
      by_cases c : r = 0
      · rw [if_pos c]; exact keep (fun hp => by have := r3.mpr hp; omega)
      · rw [if_neg c, w32_id (by omega) (by omega)]
        have hp := r3.mp (by omega)
        refine ih t v2 (v2 + 1) (by omega) (by omega) (by omega) b2 hp (by omega) (fun s hs hl hps => ?_)
        by_cases z : s = v2
        · rw [z]; exact Or.inr ⟨rfl, Int.le_refl _⟩
        · have := h6 s hs (by omega) hps
          exact Or.inl (by omega)
theorem rfreed {n : Nat} {m : Mem} (hI : Inv n m) : ∃ r m', F11_freed m = some (r, m') ∧ Sm m m' ∧ FM (FRp m) r := by
  obtain ⟨m', x1, y1, z1, w1⟩ := findPairs_e hI
  have s1 : Sm m m' := fun k j q => y1 k j (by unfold PS at q; omega) (by unfold PS at q; omega)
  obtain ⟨r, r1, r2⟩ := L11_fr10 (P := FRp m) (m := m') (fun s _ => freesR z1 w1) 65536 FU 65535 0 (by omega) (by omega) (by rw [FU_eq]; omega) BM_full (fun a b ab b16 _ => Or.inl (full_b ⟨a, by omega⟩)) (Or.inr rfl) (fun s hs hl => by have := hs.1; omega)
  refine ⟨r, m', ?_, s1, r2⟩
  unfold F11_freed
  rw [x1, b1_v]; exact r1
