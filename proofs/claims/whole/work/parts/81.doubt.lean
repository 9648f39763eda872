/-! claims: the fewest to leave out -/
def FMu (u : Int) (P : Int → Prop) (r : Int) : Prop := BM r ∧ P r ∧ (∀ i : Nat, i < 16 → mb r i = true → mb u i = true) ∧ ∀ s, BM s → (∀ i : Nat, i < 16 → mb s i = true → mb u i = true) → P s → pcv r < pcv s ∨ (pcv r = pcv s ∧ r ≤ s)
theorem FMu_u {u : Int} {P : Int → Prop} {r t : Int} (h : FMu u P r) (h' : FMu u P t) : r = t := by
  have a := h.2.2.2 t h'.1 h'.2.2.1 h'.2.1
  have b := h'.2.2.2 r h.1 h.2.2.1 h.2.1
  omega
def sayP (m : Mem) (s : Int) : Int → Int := fun v => if mb s v.toNat = true then -1 else rd m 86 v
def DAp (m : Mem) (s : Int) : Prop := ∀ v, inN (rd m 83 1) v = true → ¬ lt1 (sayP m s) (fun v => rd m 84 v) (fun v => rd m 85 v) v
theorem DAp_s {m m' : Mem} (h : Sm m m') (s : Int) : DAp m' s ↔ DAp m s := by
  have e1 : rd m' 83 1 = rd m 83 1 := Sm_r h (by unfold PS; omega)
  have e86 : ∀ i, rd m' 86 i = rd m 86 i := fun i => Sm_r h (by unfold PS; omega)
  have e84 : ∀ i, rd m' 84 i = rd m 84 i := fun i => Sm_r h (by unfold PS; omega)
  have e85 : ∀ i, rd m' 85 i = rd m 85 i := fun i => Sm_r h (by unfold PS; omega)
  unfold DAp sayP; simp only [e1, e86, e84, e85]
theorem say_acy {n : Nat} {m : Mem} (hI : Inv n m) (s : Int) : Acy (inN (rd m 83 1)) (sayP m s) := by
  have a12 := hI.1.2.1
  refine ⟨fun c hc => ?_, fun c hc h0 => ?_, fun c => c.toNat, fun c hc h0 => ?_, fun c hc => ?_⟩
  · have := inN_e.mp hc; omega
  · have h := inN_e.mp hc
    have := (hI.1.2.2.2.1 c h.1 h.2).2.2.2.2.2.2.2.2.1
    unfold sayP at h0 ⊢
    split at h0
    · omega
    · rename_i z; rw [if_neg z]; exact inN_e.mpr ⟨h0, by omega⟩
  · have h := inN_e.mp hc
    have := (hI.1.2.2.2.1 c h.1 h.2).2.2.2.2.2.2.2.2.1
    unfold sayP at h0 ⊢
    dsimp only at h0 ⊢
    split at h0
    · omega
    · rename_i z; rw [if_neg z]; omega
  · have := inN_e.mp hc
    show c.toNat < 12
    omega
theorem say_in {n : Nat} {m : Mem} (hI : Inv n m) {v : Int} (hv : 0 ≤ v ∧ v < rd m 83 1) : -1 ≤ rd m 86 v ∧ rd m 86 v < v ∧ rd m 7 v = rd m 86 v := by
  have h := hI.1.2.2.2.1 v hv.1 hv.2
  exact ⟨h.2.2.2.2.2.2.2.1, h.2.2.2.2.2.2.2.2.1, h.2.2.1⟩
/-- the class's tree of what is said -/
def DS (M m : Mem) : Prop := (∀ k i, ¬ (54 ≤ k ∧ k ≤ 65) → m k i = M k i) ∧ rd m 54 0 = rd M 83 1 ∧ ∀ v, 0 ≤ v → v < rd M 83 1 → rd m 56 v = rd M 84 v ∧ rd m 57 v = rd M 85 v
theorem L2_hw {M : Mem} {s N : Int} {kk : Mem → Option (Int × Mem)} (hN : N ≤ 12) : ∀ (d t : Nat) (v : Int) (m : Mem), v + d = N → 0 ≤ v → d < t → rd m 54 0 = N → (∀ i, rd m 7 i = rd M 7 i) → L2_holdWithout_2 s kk t v m = kk (fw m 55 v N (fun i => if mb s i.toNat = true then -1 else rd M 7 i)) := by
  intro d
  induction d with
  | zero =>
    intro t v m h0 h1 h2 e e7
    obtain ⟨t, rfl⟩ : ∃ j, t = j + 1 := ⟨t - 1, by omega⟩
    rw [L2_holdWithout_2, if_pos (by omega), fw_0 (by omega)]
  | succ d ih =>
    intro t v m h0 h1 h2 e e7
    obtain ⟨t, rfl⟩ : ∃ j, t = j + 1 := ⟨t - 1, by omega⟩
    have gt : ∀ {α : Type} (y : Option α), gd (0 ≤ v ∧ v < 12) y = y := fun y => gd_t ⟨h1, by omega⟩
    rw [L2_holdWithout_2, if_neg (by omega), bitm h1 (by omega), w32_id (x := v + 1) (by omega) (by omega)]
    simp only [jn_v, gt, stw_v]
    have fin : ∀ x : Int, x = (if mb s v.toNat = true then -1 else rd M 7 v) → L2_holdWithout_2 s kk t (v + 1) (wr m 55 v x) = kk (fw m 55 v N (fun i => if mb s i.toNat = true then -1 else rd M 7 i)) := by
      intro x hx
      rw [ih t (v + 1) _ (by omega) (by omega) (by omega) (by rw [rd_wr_k (by omega)]; exact e) (fun i => by rw [rd_wr_k (by omega)]; exact e7 i), hx]
      have := fw_s (m := m) (k := 55) (a := v) (b := N) (F := fun i => if mb s i.toNat = true then -1 else rd M 7 i) (by omega)
      rw [← this]
    by_cases z : mb s v.toNat = true
    · rw [if_pos z] at fin
      rw [if_pos z, if_neg (by omega)]; exact fin _ rfl
    · rw [if_neg z] at fin
      rw [if_neg z, if_pos rfl, e7]; exact fin _ rfl
theorem hold_e {n : Nat} {M m : Mem} (hI : Inv n M) (hd : DS M m) (s : Int) : ∃ (r : Int) (m' : Mem), F2_holdWithout m s = some (r, m') ∧ DS M m' ∧ (r = 0 ∨ r = 1) ∧ (r = 1 ↔ DAp M s) := by
  have a12 : 0 ≤ rd M 83 1 ∧ rd M 83 1 ≤ 12 := ⟨hI.1.1, hI.1.2.1⟩
  have ab := day_ab hI
  obtain ⟨d1, d2, d3⟩ := hd
  obtain ⟨q, hq⟩ : ∃ q, q = fw m 55 0 (rd M 83 1) (fun i => if mb s i.toNat = true then -1 else rd M 7 i) := ⟨_, rfl⟩
  have qo : ∀ k i, k ≠ 55 → q k i = m k i := fun k i x => by rw [hq, fw_o (by omega)]
  have q5 : ∀ v, 0 ≤ v → v < rd M 83 1 → rd q 55 v = sayP M s v := fun v x y => by
    have := say_in hI ⟨x, y⟩
    have r7 := rd_in M 7 v
    rw [hq, rd_fw_i x y]
    unfold sayP
    split
    · exact w32_id (by omega) (by omega)
    · rw [w32_id r7.1 r7.2]; exact this.2.2
  have hac := say_acy hI s
  obtain ⟨m1, x1, y1, z1⟩ := arr_e (m := q) (o := 54) a12 hac (by rw [rd_eq (qo 54 0 (by omega))]; exact d2) q5
  have dd : DD m1 54 (rd M 83 1) (sayP M s) (fun v => rd M 84 v) (fun v => rd M 85 v) := by
    refine ⟨by rw [rd_eq (z1 54 0 (by omega)), rd_eq (qo 54 0 (by omega))]; exact d2, fun v x y => ?_, y1⟩
    have := d3 v x y
    rw [rd_eq (z1 (54 + 1) v (by omega)), rd_eq (z1 (54 + 2) v (by omega)), rd_eq (z1 (54 + 3) v (by omega)), rd_eq (qo (54 + 2) v (by omega)), rd_eq (qo (54 + 3) v (by omega))]
    exact ⟨q5 v x y, this.1, this.2⟩
  obtain ⟨r, m2, x2, y2, z2, w2⟩ := firstLate_e (o := 54) a12 hac (fun v x y => by have := ab v (inN_e.mpr ⟨x, y⟩); omega) dd
  have o2 : ∀ k i, ¬ (k = 55 ∨ k = 58 ∨ k = 61) → m2 k i = m k i := fun k i x => by rw [y2 k i (by omega), z1 k i (by omega), qo k i (by omega)]
  have ds2 : DS M m2 := ⟨fun k i x => by rw [o2 k i (by omega)]; exact d1 k i x, by rw [rd_eq (o2 54 0 (by omega))]; exact d2, fun v x y => by rw [rd_eq (o2 56 v (by omega)), rd_eq (o2 57 v (by omega))]; exact d3 v x y⟩
  have pre : F2_holdWithout m s = (if 0 ≤ r then some (0, m2) else some (1, m2)) := by
    unfold F2_holdWithout
    rw [L2_hw (M := M) a12.2 (rd M 83 1).toNat FU 0 m (by omega) (by omega) (by rw [FU_eq]; omega) d2 (fun i => rd_eq (d1 _ _ (by omega))), ← hq, x1, b2_v, jn_v, if_neg (show ¬ ((1 : Int) = 0) by omega), x2, b2_v]
  rw [pre]
  rcases w2 with ⟨w, w'⟩ | ⟨w, w', w'', _⟩
  · rw [if_neg (by omega)]
    exact ⟨1, m2, rfl, ds2, Or.inr rfl, ⟨fun _ => w', fun _ => rfl⟩⟩
  · rw [if_pos w]
    exact ⟨0, m2, rfl, ds2, Or.inl rfl, ⟨fun h => (by omega), fun h => absurd w'' (h r w')⟩⟩
theorem L2_fo97 {P : Int → Prop} {D : Mem → Prop} {u : Int} (hu : BM u) (hfr : ∀ s m, BM s → D m → ∃ (r : Int) (m' : Mem), F2_holdWithout m s = some (r, m') ∧ D m' ∧ (r = 0 ∨ r = 1) ∧ (r = 1 ↔ P s)) : ∀ (d t : Nat) (v2 v3 : Int) (m : Mem), D m → v3 + d = u + 1 → 0 ≤ v3 → d < t → BM v2 → P v2 → (∀ i : Nat, i < 16 → mb v2 i = true → mb u i = true) → (v2 < v3 ∨ v2 = u) → (∀ s, BM s → s < v3 → (∀ i : Nat, i < 16 → mb s i = true → mb u i = true) → P s → pcv v2 < pcv s ∨ (pcv v2 = pcv s ∧ v2 ≤ s)) → ∃ r m', L2_fewestOut_97 u t v2 v3 m = some (r, m') ∧ D m' ∧ FMu u P r := by
  intro d
  induction d with
  | zero =>
    intro t v2 v3 m hD h0 h1 h2 h3 h4 h4' h5 h6
    obtain ⟨t, rfl⟩ : ∃ i, t = i + 1 := ⟨t - 1, by omega⟩
    rw [L2_fewestOut_97, if_pos (by omega)]
    exact ⟨v2, m, rfl, hD, h3, h4, h4', fun s hs hsu hp => h6 s hs (by have := sub_le hs hu hsu; omega) hsu hp⟩
  | succ d ih =>
    intro t v2 v3 m hD h0 h1 h2 h3 h4 h4' h5 h6
    obtain ⟨t, rfl⟩ : ∃ i, t = i + 1 := ⟨t - 1, by omega⟩
    have ub := hu.2
    have b2 : BM v3 := ⟨h1, by omega⟩
    obtain ⟨r, m1, r1, D1, r2, r3⟩ := hfr v3 m b2 hD
    have sub := sub_e b2 hu
    have keep : ∀ q : Mem, D q → ((∀ i : Nat, i < 16 → mb v3 i = true → mb u i = true) → P v3 → pcv v2 ≤ pcv v3) → ∃ r m', L2_fewestOut_97 u t v2 (w32 (v3 + 1)) q = some (r, m') ∧ D m' ∧ FMu u P r := by
      intro q hq hk
      rw [w32_id (by omega) (by omega)]
      refine ih t v2 (v3 + 1) q hq (by omega) (by omega) (by omega) h3 h4 h4' (by omega) (fun s hs hl hsu hp => ?_)
      by_cases z : s = v3
      · rw [z] at hp hsu ⊢
        have := hk hsu hp
        by_cases e : pcv v2 = pcv v3
        · refine Or.inr ⟨e, ?_⟩
          rcases h5 with h5 | h5
          · omega
          · have : v3 = v2 := sub_eq b2 h3 (by rw [h5]; exact hsu) e.symm
            omega
        · exact Or.inl (by omega)
      · exact h6 s hs (by omega) hsu hp
    rw [L2_fewestOut_97, if_neg (by omega), bitCount_e h3, bitCount_e b2, r1]
    simp only [jn_v, b2_v]
    by_cases a : pcv v2 ≤ pcv v3
    · rw [if_pos a]
      by_cases e : band v3 (bxor u (-1)) ≠ 0
      · rw [if_pos e]; exact keep m hD (fun _ _ => a)
      · rw [if_neg e, if_pos trivial]; exact keep m hD (fun _ _ => a)
    · rw [if_neg a]
      by_cases e : band v3 (bxor u (-1)) ≠ 0
      · rw [if_pos e]; exact keep m hD (fun hsu => absurd (sub.mpr hsu) e)
      · have hsu := sub.mp (by omega)
        rw [if_neg e, if_neg (show ¬ ((1 : Int) = 0) by omega)]
        by_cases c : r = 0
        · rw [if_pos c]; exact keep m1 D1 (fun _ hp => by have := r3.mpr hp; omega)
        · rw [if_neg c, w32_id (by omega) (by omega)]
          have hp := r3.mp (by omega)
          refine ih t v3 (v3 + 1) m1 D1 (by omega) (by omega) (by omega) b2 hp hsu (by omega) (fun s hs hl hss hps => ?_)
          by_cases z : s = v3
          · rw [z]; exact Or.inr ⟨rfl, Int.le_refl _⟩
          · have := h6 s hs (by omega) hss hps
            exact Or.inl (by omega)
/-- who says -/
def saysM (m : Mem) : Nat → Int
  | 0 => 0
  | v + 1 => if rd m 86 (v : Int) < 0 then saysM m v else bor (saysM m v) (shl 1 (v : Int))
theorem saysM_b (m : Mem) : ∀ v, v ≤ 12 → BM (saysM m v) ∧ ∀ k : Nat, k < 16 → (mb (saysM m v) k = true ↔ k < v ∧ 0 ≤ rd m 86 (k : Int))
  | 0, _ => ⟨⟨by show (0 : Int) ≤ 0; omega, by show (0 : Int) < 65536; omega⟩, fun k hk => ⟨fun h => (by rw [show saysM m 0 = 0 from rfl, mb0] at h; cases h), fun h => (by omega)⟩⟩
  | v + 1, h => by
    obtain ⟨a, b⟩ := saysM_b m v (by omega)
    have e : saysM m (v + 1) = if rd m 86 (v : Int) < 0 then saysM m v else bor (saysM m v) (shl 1 (v : Int)) := rfl
    rw [e]
    by_cases z : rd m 86 (v : Int) < 0
    · rw [if_pos z]
      refine ⟨a, fun k hk => ?_⟩
      rw [b k hk]
      constructor
      · intro q; exact ⟨by omega, q.2⟩
      · intro q
        refine ⟨?_, q.2⟩
        by_cases y : k = v
        · rw [y] at q; omega
        · omega
    · rw [if_neg z]
      refine ⟨BM_or a (BM_shl (by omega) (by omega)), fun k hk => ?_⟩
      rw [mb_or (by omega) hk]
      by_cases y : k = v
      · rw [if_pos y, y]; exact ⟨fun _ => ⟨by omega, by omega⟩, fun _ => rfl⟩
      · rw [if_neg y, b k hk]; exact ⟨fun q => ⟨by omega, q.2⟩, fun q => ⟨by omega, q.2⟩⟩
theorem saysM_s {m m' : Mem} (h : Sm m m') : ∀ v, saysM m' v = saysM m v
  | 0 => rfl
  | v + 1 => by
    show (if rd m' 86 (v : Int) < 0 then saysM m' v else bor (saysM m' v) (shl 1 (v : Int))) = (if rd m 86 (v : Int) < 0 then saysM m v else bor (saysM m v) (shl 1 (v : Int)))
    rw [Sm_r h (show PS 86 (v : Int) by unfold PS; omega), saysM_s h v]
/-- all claims left out: nothing is late -/
theorem DAp_all {n : Nat} {m : Mem} (hI : Inv n m) : DAp m (saysM m (rd m 83 1).toNat) := by
  have a12 := hI.1.2.1
  obtain ⟨a, b⟩ := saysM_b m (rd m 83 1).toNat (by omega)
  intro v hv h
  have hv' := inN_e.mp hv
  have h1 := h.1
  unfold sayP at h1
  split at h1
  · omega
  · rename_i z
    refine z ((b v.toNat (by omega)).mpr ⟨by omega, ?_⟩)
    rw [show ((v.toNat : Nat) : Int) = v by omega]; exact h1
theorem L2_fo18 {n : Nat} {M : Mem} (hI : Inv n M) {kk : Int → Mem → Option (Int × Mem)} : ∀ (d t v : Nat) (m : Mem), (v : Int) + d = rd M 83 1 → d < t → (∀ k i, ¬ (54 ≤ k ∧ k ≤ 65) → m k i = M k i) → rd m 54 0 = rd M 83 1 → (∀ w, 0 ≤ w → w < (v : Int) → rd m 56 w = rd M 84 w ∧ rd m 57 w = rd M 85 w) →
    ∃ m', L2_fewestOut_18 kk t (saysM M v) (v : Int) m = kk (saysM M (rd M 83 1).toNat) m' ∧ DS M m' := by
  have a12 := hI.1.2.1
  intro d
  induction d with
  | zero =>
    intro t v m h0 h1 ho h54 hw
    obtain ⟨t, rfl⟩ : ∃ j, t = j + 1 := ⟨t - 1, by omega⟩
    have : v = (rd M 83 1).toNat := by omega
    rw [L2_fewestOut_18, rd_eq (ho 4 0 (by omega)), hI.1.2.2.1, if_pos (by omega), ← this]
    exact ⟨m, rfl, ho, h54, fun w x y => hw w x (by omega)⟩
  | succ d ih =>
    intro t v m h0 h1 ho h54 hw
    obtain ⟨t, rfl⟩ : ∃ j, t = j + 1 := ⟨t - 1, by omega⟩
    have gt : ∀ {α : Type} (y : Option α), gd (0 ≤ (v : Int) ∧ (v : Int) < 12) y = y := fun y => gd_t ⟨by omega, by omega⟩
    have sy := say_in hI (v := (v : Int)) ⟨by omega, by omega⟩
    have q5 := (hI.1.2.2.2.1 (v : Int) (by omega) (by omega)).1
    have q6 := (hI.1.2.2.2.1 (v : Int) (by omega) (by omega)).2.1
    have r7 : rd m 7 (v : Int) = rd M 86 (v : Int) := by rw [rd_eq (ho 7 _ (by omega))]; exact sy.2.2
    have sb := (saysM_b M v (by omega)).1
    have bz0 : bor (saysM M v) 0 = saysM M v := by
      obtain ⟨x, x1, x2⟩ := BM_n sb
      have := (borN (b := 0) x1 (by omega)).1
      rw [x2]
      rw [Nat.or_zero] at this
      exact this
    have e : saysM M (v + 1) = if rd M 86 (v : Int) < 0 then saysM M v else bor (saysM M v) (shl 1 (v : Int)) := rfl
    rw [L2_fewestOut_18, rd_eq (ho 4 0 (by omega)), hI.1.2.2.1, if_neg (by omega), w32_id (x := (v : Int) + 1) (by omega) (by omega), show (v : Int) + 1 = ((v + 1 : Nat) : Int) by omega]
    simp only [jn_v, gt, stw_v]
    rw [r7, rd_wr_k (m := m) (k := 56) (k' := 6) (by omega), rd_eq (ho 5 _ (by omega)), rd_eq (ho 6 _ (by omega)), q5, q6]
    obtain ⟨q, hq⟩ : ∃ q, q = wr (wr m 56 (v : Int) (rd M 84 (v : Int))) 57 (v : Int) (rd M 85 (v : Int)) := ⟨_, rfl⟩
    rw [← hq]
    have nx := ih t (v + 1) q (by omega) (by omega) (fun k i x => by rw [hq, wr_ki (by omega), wr_ki (by omega)]; exact ho k i x) (by rw [hq, rd_wr_k (by omega), rd_wr_k (by omega)]; exact h54) (fun w x y => by
      have r4 := rd_in M 84 (v : Int); have r5 := rd_in M 85 (v : Int)
      by_cases z : w = (v : Int)
      · rw [z, hq, rd_wr_k (by omega), rd_wr_s, rd_wr_s]; exact ⟨w32_id r4.1 r4.2, w32_id r5.1 r5.2⟩
      · rw [hq, rd_wr_k (by omega), rd_wr_i z, rd_wr_i z, rd_wr_k (by omega)]; exact hw w x (by omega))
    by_cases z : rd M 86 (v : Int) < 0
    · rw [if_pos z] at e
      rw [if_neg (by omega), bz0, ← e]; exact nx
    · rw [if_neg z] at e
      rw [if_pos (by omega), ← e]; exact nx
def doubtR (m : Mem) (w x : Int) : Prop := if 0 ≤ w ∧ w ≤ 1 then ∃ r, FMu (saysM m (rd m 83 1).toNat) (DAp m) r ∧ x = (if w = 0 then pcv r else r) else x = -1
theorem doubtR_s {m m' : Mem} (h : Sm m m') (w x : Int) (q : doubtR m' w x) : doubtR m w x := by
  have e : DAp m' = DAp m := by funext s; exact propext (DAp_s h s)
  unfold doubtR at q ⊢
  rw [e, saysM_s h, Sm_r h (show PS 83 1 by unfold PS; omega)] at q
  exact q
theorem doubtR_u {m : Mem} {w x y : Int} (h : doubtR m w x) (h' : doubtR m w y) : x = y := by
  unfold doubtR at h h'
  by_cases a : 0 ≤ w ∧ w ≤ 1
  · rw [if_pos a] at h h'
    obtain ⟨r, r1, r2⟩ := h
    obtain ⟨t, t1, t2⟩ := h'
    rw [r2, t2, FMu_u r1 t1]
  · rw [if_neg a] at h h'; omega
theorem ddoubt {n : Nat} {m : Mem} (hI : Inv n m) (w : Int) : ∃ x m1, F10_doubt m w = some (x, m1) ∧ Sm m m1 ∧ doubtR m w x := by
  have a12 : 0 ≤ rd m 83 1 ∧ rd m 83 1 ≤ 12 := ⟨hI.1.1, hI.1.2.1⟩
  unfold F10_doubt doubtR
  by_cases a : 0 ≤ w ∧ w ≤ 1
  · simp only [if_pos a]
    rw [if_neg (by omega), if_pos a.2]
    obtain ⟨ub, um⟩ := saysM_b m (rd m 83 1).toNat (by omega)
    obtain ⟨u, hu⟩ : ∃ u, u = saysM m (rd m 83 1).toNat := ⟨_, rfl⟩
    rw [← hu] at ub um ⊢
    obtain ⟨q, hq⟩ : ∃ q, q = wr m 54 0 (rd m 83 1) := ⟨_, rfl⟩
    obtain ⟨m1, x1, y1⟩ := L2_fo18 hI (kk := fun (v1_93 : Int) (m_93 : Mem) => L2_fewestOut_97 v1_93 FU v1_93 0 m_93) (rd m 83 1).toNat FU 0 q (by omega) (by rw [FU_eq]; omega) (fun k i x => by rw [hq, wr_ki (by omega)]) (by rw [hq, rd_wr_s]; exact w32_id (by omega) (by omega)) (fun w x y => by omega)
    rw [← hu] at x1
    obtain ⟨r, m2, x2, y2, z2⟩ := L2_fo97 (P := DAp m) (D := DS m) ub (fun s q _ hD => hold_e hI hD s) (u + 1).toNat FU u 0 m1 y1 (by have := ub.1; omega) (by omega) (by rw [FU_eq]; have := ub.2; omega) ub (by rw [hu]; exact DAp_all hI) (fun _ _ h => h) (Or.inr rfl) (fun s hs hl => by have := hs.1; omega)
    have fo : F2_fewestOut m = some (r, m2) := by
      unfold F2_fewestOut
      rw [stw_v, hI.1.2.2.1, ← hq]
      exact x1.trans x2
    have s2 : Sm m m2 := fun k i q => y2.1 k i (by unfold PS at q; omega)
    rw [fo, b2_v]
    by_cases b : w = 0
    · rw [if_neg (by omega), bitCount_e z2.1]
      exact ⟨_, m2, rfl, s2, r, z2, by rw [if_pos b]⟩
    · rw [if_pos b]
      exact ⟨_, m2, rfl, s2, r, z2, by rw [if_neg b]⟩
  · simp only [if_neg a]
    by_cases b : w < 0
    · rw [if_pos b]; exact ⟨_, m, rfl, fun _ _ _ => rfl, rfl⟩
    · rw [if_neg b, if_neg (by omega)]; exact ⟨_, m, rfl, fun _ _ _ => rfl, rfl⟩
