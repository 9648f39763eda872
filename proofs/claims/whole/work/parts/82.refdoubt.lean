/-! the reference's doubt -/
theorem L11_da2 {M : Mem} {s C : Int} {kk : Mem → Option (Int × Mem)} (hC : 0 ≤ C ∧ C ≤ 12) : ∀ (d n : Nat) (v : Int) (m : Mem), v + d = 12 → 0 ≤ v → d < n → rd m 83 1 = C → (∀ i, rd m 86 i = rd M 86 i) →
    ∃ m', L11_doAgree_2 s kk n v m = kk m' ∧ (∀ k i, k ≠ 96 → k ≠ 97 → m' k i = m k i) ∧ (∀ k i, i < v → m' k i = m k i) ∧ ∀ c, v ≤ c → c < 12 → rd m' 97 c = (if c < C then 1 else 0) ∧ (c < C → rd m' 96 c = sayP M s c) := by
  intro d
  induction d with
  | zero =>
    intro n v m h0 h1 h2 e1 e8
    obtain ⟨n, rfl⟩ : ∃ j, n = j + 1 := ⟨n - 1, by omega⟩
    rw [L11_doAgree_2, if_pos (by omega)]
    exact ⟨m, rfl, fun _ _ _ _ => rfl, fun _ _ _ => rfl, fun c a b => by omega⟩
  | succ d ih =>
    intro n v m h0 h1 h2 e1 e8
    obtain ⟨n, rfl⟩ : ∃ j, n = j + 1 := ⟨n - 1, by omega⟩
    have gt : ∀ {α : Type} (y : Option α), gd (0 ≤ v ∧ v < 12) y = y := fun y => gd_t ⟨h1, by omega⟩
    have key : ∀ x y : Int, x = (if v < C then 1 else 0) → (v < C → y = sayP M s v) → ∃ m', L11_doAgree_2 s kk n (v + 1) (wr (wr m 97 v x) 96 v y) = kk m' ∧ (∀ k i, k ≠ 96 → k ≠ 97 → m' k i = m k i) ∧ (∀ k i, i < v → m' k i = m k i) ∧ ∀ c, v ≤ c → c < 12 → rd m' 97 c = (if c < C then 1 else 0) ∧ (c < C → rd m' 96 c = sayP M s c) := by
      intro x y hx hy
      have xb : 0 ≤ x ∧ x ≤ 1 := by rw [hx]; split <;> omega
      obtain ⟨q, hq⟩ : ∃ q, q = wr (wr m 97 v x) 96 v y := ⟨_, rfl⟩
      rw [← hq]
      have qo : ∀ k i, k ≠ 96 → k ≠ 97 → q k i = m k i := fun k i a b => by rw [hq, wr_ka a, wr_ka b]
      have qi : ∀ k i, i ≠ v → q k i = m k i := fun k i a => by rw [hq, wr_ki (by omega), wr_ki (by omega)]
      obtain ⟨m', p1, p2, p3, p4⟩ := ih n (v + 1) q (by omega) (by omega) (by omega) (by rw [rd_eq (qo _ _ (by omega) (by omega))]; exact e1) (fun i => by rw [rd_eq (qo _ _ (by omega) (by omega))]; exact e8 i)
      refine ⟨m', p1, fun k i a b => by rw [p2 k i a b]; exact qo k i a b, fun k i a => by rw [p3 k i (by omega)]; exact qi k i (by omega), fun c a b => ?_⟩
      by_cases z : c = v
      · subst z
        rw [rd_eq (p3 97 c (by omega)), rd_eq (p3 96 c (by omega)), hq, rd_wr_k (by omega), rd_wr_s, rd_wr_s, w32_id (by omega) (by omega)]
        refine ⟨hx, fun h => ?_⟩
        rw [hy h]
        have r := rd_in M 86 c
        unfold sayP
        split
        · exact w32_id (by omega) (by omega)
        · exact w32_id r.1 r.2
      · exact p4 c (by omega) b
    rw [L11_doAgree_2, if_neg (by omega), e1, bitm h1 (by omega), w32_id (x := v + 1) (by omega) (by omega)]
    simp only [jn_v, gt, stw_v]
    by_cases a : C ≤ v
    · have k0 := key 0 (-1) (by rw [if_neg (by omega)]) (fun h => by omega)
      rw [if_pos a, rd_wr_k (m := m) (k := 97) (k' := 83) (by omega), e1, if_pos a]
      exact k0
    · have k1 := fun y hy => key 1 y (by rw [if_pos (by omega)]) hy
      rw [if_neg a, rd_wr_k (m := m) (k := 97) (k' := 83) (by omega), e1, if_neg a]
      by_cases z : mb s v.toNat = true
      · rw [if_pos z, if_pos (show (1 : Int) ≠ 0 by omega)]
        exact k1 _ (fun _ => (if_pos z).symm)
      · rw [if_neg z, if_neg (show ¬ ((0 : Int) ≠ 0) by omega), rd_wr_k (m := m) (k := 97) (k' := 86) (by omega), e8]
        exact k1 _ (fun _ => (if_neg z).symm)
/-- the reference keeps what is told -/
def RA (M m : Mem) : Prop := ∀ k i, ¬ PL k i → m k i = M k i
theorem agree_e {n : Nat} {M m : Mem} (hI : Inv n M) (hr : RA M m) (s : Int) : ∃ (r : Int) (m' : Mem), F11_doAgree m s = some (r, m') ∧ RA M m' ∧ (r = 0 ∨ r = 1) ∧ (r = 1 ↔ DAp M s) := by
  have a12 : 0 ≤ rd M 83 1 ∧ rd M 83 1 ≤ 12 := ⟨hI.1.1, hI.1.2.1⟩
  have hac := say_acy hI s
  obtain ⟨m1, x1, y1, z1, w1⟩ := L11_da2 (M := M) (s := s) (C := rd M 83 1) (kk := fun (m_65 : Mem) => b1 (F11_findOrder m_65) fun m66 => b2 (F11_findDays m66) fun r70 m70 => if r70 ≠ (-2) then some (0, m70) else some (1, m70)) a12 12 FU 0 m (by omega) (by omega) (by rw [FU_eq]; omega) (rd_eq (hr _ _ (by unfold PL; omega))) (fun i => rd_eq (hr _ _ (by unfold PL; omega)))
  have tr : TR m1 (rd M 83 1) (inN (rd M 83 1)) (sayP M s) := by
    refine ⟨by rw [rd_eq (y1 83 1 (by omega) (by omega)), rd_eq (hr _ _ (by unfold PL; omega))], a12, fun c h => inN_e.mp h, fun c x y => ?_, fun c h => ?_⟩
    · rw [(w1 c x (by omega)).1, if_pos y]
      refine ⟨fun h => (by omega), fun h => ?_⟩
      have := inN_e.mpr ⟨x, y⟩
      rw [h] at this; cases this
    · have := inN_e.mp h
      exact (w1 c this.1 (by omega)).2 this.2
  obtain ⟨m2, x2, y2, z2, w2⟩ := fo_e hac tr
  have o2 : ∀ k i, ¬ PL k i → m2 k i = M k i := fun k i h => by
    rw [w2 k i (by unfold PL at h; omega) (by unfold PL at h; omega), y1 k i (by unfold PL at h; omega) (by unfold PL at h; omega)]; exact hr k i h
  obtain ⟨r, m3, x3, y3, z3, v3, w3⟩ := findDays_e (a := fun v => rd M 84 v) (b := fun v => rd M 85 v) hac (day_ab hI) ⟨TR_s tr (rd_eq (w2 _ _ (by omega) (by omega))) (fun c => rd_eq (w2 _ _ (by omega) (by omega))) (fun c => rd_eq (w2 _ _ (by omega) (by omega))), y2, z2, fun u _ => ⟨rd_eq (o2 _ _ (by unfold PL; omega)), rd_eq (o2 _ _ (by unfold PL; omega))⟩⟩
  have o3 : RA M m3 := fun k i h => by rw [y3 k i (by unfold PL at h; omega) (by unfold PL at h; omega)]; exact o2 k i h
  have pre : F11_doAgree m s = if r ≠ (-2) then some (0, m3) else some (1, m3) := by
    unfold F11_doAgree
    rw [x1, x2, b1_v, x3, b2_v]
  rw [pre]
  rcases w3 with ⟨w, w'⟩ | ⟨w, w', w'', _⟩
  · rw [if_neg (by omega)]
    exact ⟨1, m3, rfl, o3, Or.inr rfl, ⟨fun _ => w', fun _ => rfl⟩⟩
  · rw [if_pos (by omega)]
    exact ⟨0, m3, rfl, o3, Or.inl rfl, ⟨fun h => (by omega), fun h => absurd w'' (h r w')⟩⟩
theorem L11_d49 {P : Int → Prop} {D : Mem → Prop} {u : Int} {kk : Int → Mem → Option (Int × Mem)} (hu : BM u) (hPu : P u) (hfr : ∀ s m, BM s → D m → ∃ (r : Int) (m' : Mem), F11_doAgree m s = some (r, m') ∧ D m' ∧ (r = 0 ∨ r = 1) ∧ (r = 1 ↔ P s)) : ∀ (d t : Nat) (v3 v4 : Int) (m : Mem), D m → v4 + d = u + 1 → 0 ≤ v4 → d < t → ((v3 = -1 ∧ ∀ s, BM s → s < v4 → (∀ i : Nat, i < 16 → mb s i = true → mb u i = true) → ¬ P s) ∨ (BM v3 ∧ P v3 ∧ v3 < v4 ∧ (∀ i : Nat, i < 16 → mb v3 i = true → mb u i = true) ∧ ∀ s, BM s → s < v4 → (∀ i : Nat, i < 16 → mb s i = true → mb u i = true) → P s → pcv v3 < pcv s ∨ (pcv v3 = pcv s ∧ v3 ≤ s))) → ∃ r m', L11_doubt_49 u kk t v3 v4 m = kk r m' ∧ D m' ∧ FMu u P r := by
  intro d
  induction d with
  | zero =>
    intro t v3 v4 m hD h0 h1 h2 h3
    obtain ⟨t, rfl⟩ : ∃ i, t = i + 1 := ⟨t - 1, by omega⟩
    rw [L11_doubt_49, if_pos (by omega)]
    rcases h3 with ⟨a, b⟩ | ⟨a, b, c, e, f⟩
    · exact absurd hPu (b u hu (by omega) (fun _ _ h => h))
    · exact ⟨v3, m, rfl, hD, a, b, e, fun s hs hsu hp => f s hs (by have := sub_le hs hu hsu; omega) hsu hp⟩
  | succ d ih =>
    intro t v3 v4 m hD h0 h1 h2 h3
    obtain ⟨t, rfl⟩ : ∃ i, t = i + 1 := ⟨t - 1, by omega⟩
    have ub := hu.2
    have b2 : BM v4 := ⟨h1, by omega⟩
    obtain ⟨r, m1, r1, D1, r2, r3⟩ := hfr v4 m b2 hD
    have sub := sub_e b2 hu
    -- passing v4 by
    have keep : ∀ q : Mem, D q → ((∀ i : Nat, i < 16 → mb v4 i = true → mb u i = true) → P v4 → 0 ≤ v3 ∧ pcv v3 ≤ pcv v4) → ∃ r m', L11_doubt_49 u kk t v3 (w32 (v4 + 1)) q = kk r m' ∧ D m' ∧ FMu u P r := by
      intro q hq hk
      rw [w32_id (by omega) (by omega)]
      refine ih t v3 (v4 + 1) q hq (by omega) (by omega) (by omega) ?_
      rcases h3 with ⟨a, b⟩ | ⟨a, b, c, e, f⟩
      · refine Or.inl ⟨a, fun s hs hl hsu hp => ?_⟩
        by_cases z : s = v4
        · rw [z] at hsu hp; have := hk hsu hp; omega
        · exact b s hs (by omega) hsu hp
      · refine Or.inr ⟨a, b, by omega, e, fun s hs hl hsu hp => ?_⟩
        by_cases z : s = v4
        · rw [z] at hp hsu ⊢
          have := hk hsu hp
          by_cases y : pcv v3 = pcv v4
          · exact Or.inr ⟨y, by omega⟩
          · exact Or.inl (by omega)
        · exact f s hs (by omega) hsu hp
    have take : P v4 → (∀ i : Nat, i < 16 → mb v4 i = true → mb u i = true) → (v3 < 0 ∨ pcv v4 < pcv v3) → ∃ r m', L11_doubt_49 u kk t v4 (w32 (v4 + 1)) m1 = kk r m' ∧ D m' ∧ FMu u P r := by
      intro hp hsu hlt
      rw [w32_id (by omega) (by omega)]
      refine ih t v4 (v4 + 1) m1 D1 (by omega) (by omega) (by omega) (Or.inr ⟨b2, hp, by omega, hsu, fun s hs hl hss hps => ?_⟩)
      by_cases z : s = v4
      · rw [z]; exact Or.inr ⟨rfl, Int.le_refl _⟩
      · rcases h3 with ⟨a, b⟩ | ⟨a, b, c, e, f⟩
        · exact absurd hps (b s hs (by omega) hss)
        · have := f s hs (by omega) hss hps
          have := a.1
          exact Or.inl (by omega)
    rw [L11_doubt_49, if_neg (by omega), r1, bitsOf_e b2]
    simp only [jn_v, b1_v, b2_v]
    by_cases e : band v4 (bxor u (-1)) ≠ 0
    · rw [if_pos e]; exact keep m hD (fun hsu => absurd (sub.mpr hsu) e)
    · have hsu := sub.mp (by omega)
      rw [if_neg e]
      have last : (v3 < 0 ∨ pcv v4 < pcv v3) → ∃ r' m', (if r ≠ 0 then L11_doubt_49 u kk t v4 (w32 (v4 + 1)) m1 else L11_doubt_49 u kk t v3 (w32 (v4 + 1)) m1) = kk r' m' ∧ D m' ∧ FMu u P r' := by
        intro hlt
        by_cases c : r = 0
        · rw [if_neg (by omega)]; exact keep m1 D1 (fun _ hp => by have := r3.mpr hp; omega)
        · rw [if_pos c]; exact take (r3.mp (by omega)) hsu hlt
      by_cases a : v3 < 0
      · rw [if_pos a]; exact last (Or.inl a)
      · have b3 : BM v3 := by
          rcases h3 with ⟨x, y⟩ | ⟨x, y⟩
          · omega
          · exact x
        rw [if_neg a, bitsOf_e b3, b1_v]
        by_cases c : pcv v3 ≤ pcv v4
        · rw [if_pos c]; exact keep m hD (fun _ _ => ⟨by omega, c⟩)
        · rw [if_neg c]; exact last (Or.inr (by omega))
theorem L11_d15 {n : Nat} {M : Mem} (hI : Inv n M) {kk : Int → Option (Int × Mem)} : ∀ (d t v : Nat), (v : Int) + d = rd M 83 1 → d < t → L11_doubt_15 M kk t (saysM M v) (v : Int) = kk (saysM M (rd M 83 1).toNat) := by
  have a12 := hI.1.2.1
  intro d
  induction d with
  | zero =>
    intro t v h0 h1
    obtain ⟨t, rfl⟩ : ∃ j, t = j + 1 := ⟨t - 1, by omega⟩
    have : v = (rd M 83 1).toNat := by omega
    rw [L11_doubt_15, if_pos (by omega), ← this]
  | succ d ih =>
    intro t v h0 h1
    obtain ⟨t, rfl⟩ : ∃ j, t = j + 1 := ⟨t - 1, by omega⟩
    have nx := ih t (v + 1) (by omega) (by omega)
    have e : saysM M (v + 1) = if rd M 86 (v : Int) < 0 then saysM M v else bor (saysM M v) (shl 1 (v : Int)) := rfl
    rw [L11_doubt_15, if_neg (by omega), gd_t (by omega), w32_id (x := (v : Int) + 1) (by omega) (by omega), show (v : Int) + 1 = ((v + 1 : Nat) : Int) by omega, jn_v]
    by_cases z : rd M 86 (v : Int) < 0
    · rw [if_pos z] at e
      rw [if_pos z, ← e]; exact nx
    · rw [if_neg z] at e
      rw [if_neg z, ← e]; exact nx
theorem rdoubt {n : Nat} {m : Mem} (hI : Inv n m) (w : Int) : ∃ x m1, F11_doubt m w = some (x, m1) ∧ Sm m m1 ∧ doubtR m w x := by
  have a12 : 0 ≤ rd m 83 1 ∧ rd m 83 1 ≤ 12 := ⟨hI.1.1, hI.1.2.1⟩
  unfold F11_doubt doubtR
  rw [F11_in_e]
  by_cases a : 0 ≤ w ∧ w ≤ 1
  · simp only [if_pos a]
    rw [if_pos (by rw [bz_n]; exact a)]
    obtain ⟨ub, um⟩ := saysM_b m (rd m 83 1).toNat (by omega)
    obtain ⟨u, hu⟩ : ∃ u, u = saysM m (rd m 83 1).toNat := ⟨_, rfl⟩
    rw [← hu] at ub um ⊢
    have x0 := L11_d15 hI (kk := fun (v2_44 : Int) => L11_doubt_49 v2_44 (fun (v3_101 : Int) (m_101 : Mem) => if w ≠ 0 then some (v3_101, m_101) else b1 (F11_bitsOf v3_101) fun r106 => some (r106, m_101)) FU (-1) 0 m) (rd m 83 1).toNat FU 0 (by omega) (by rw [FU_eq]; omega)
    rw [← hu] at x0
    obtain ⟨r, m2, x2, y2, z2⟩ := L11_d49 (P := DAp m) (D := RA m) (kk := fun (v3_101 : Int) (m_101 : Mem) => if w ≠ 0 then some (v3_101, m_101) else b1 (F11_bitsOf v3_101) fun r106 => some (r106, m_101)) ub (by rw [hu]; exact DAp_all hI) (fun s q _ hD => agree_e hI hD s) (u + 1).toNat FU (-1) 0 m (fun _ _ _ => rfl) (by have := ub.1; omega) (by omega) (by rw [FU_eq]; have := ub.2; omega) (Or.inl ⟨rfl, fun s hs hl => by have := hs.1; omega⟩)
    have s2 : Sm m m2 := PL_sm y2
    have x0' : L11_doubt_15 m _ FU 0 0 = _ := x0
    rw [x0', x2]
    by_cases b : w = 0
    · rw [if_neg (by omega), bitsOf_e z2.1, b1_v]
      exact ⟨_, m2, rfl, s2, r, z2, by rw [if_pos b]⟩
    · rw [if_pos b]
      exact ⟨_, m2, rfl, s2, r, z2, by rw [if_neg b]⟩
  · rw [if_neg (by rw [bz_n]; exact a)]
    simp only [if_neg a]
    exact ⟨_, m, rfl, fun _ _ _ => rfl, rfl⟩
theorem st_doubt {n : Nat} {m : Mem} (w : Int) (hI : Inv n m) : Sq n (fun m => F10_doubt m w) (fun m => F11_doubt m w) m :=
  Sq_rel (R := fun m x => doubtR m w x) hI (ddoubt hI w) (fun m1 h => rdoubt h w) (fun m1 x h q => doubtR_s h w x q) (fun x y => doubtR_u)
