/-! the reference looks at all -/
theorem L11_la7 {M : Mem} {C : Int} {kk : Mem → Option Mem} : ∀ (d n : Nat) (v : Int) (m : Mem), v + d = 12 → 0 ≤ v → d < n → rd m 83 1 = C → (∀ i, rd m 88 i = rd M 88 i) →
    ∃ m', L11_lookAtAll_7 kk n v m = kk m' ∧ (∀ k i, k ≠ 96 → k ≠ 97 → m' k i = m k i) ∧ (∀ k i, i < v → m' k i = m k i) ∧ ∀ c, v ≤ c → c < 12 → rd m' 97 c = (if c < C then 1 else 0) ∧ rd m' 96 c = rd M 88 c := by
  intro d
  induction d with
  | zero =>
    intro n v m h0 h1 h2 e1 e8
    obtain ⟨n, rfl⟩ : ∃ j, n = j + 1 := ⟨n - 1, by omega⟩
    rw [L11_lookAtAll_7, if_pos (by omega)]
    exact ⟨m, rfl, fun _ _ _ _ => rfl, fun _ _ _ => rfl, fun c a b => by omega⟩
  | succ d ih =>
    intro n v m h0 h1 h2 e1 e8
    obtain ⟨n, rfl⟩ : ∃ j, n = j + 1 := ⟨n - 1, by omega⟩
    obtain ⟨x, hx⟩ : ∃ x : Int, x = if v < C then 1 else 0 := ⟨_, rfl⟩
    have xb : 0 ≤ x ∧ x ≤ 1 := by rw [hx]; split <;> omega
    have key : ∃ m', L11_lookAtAll_7 kk n (w32 (v + 1)) (wr (wr m 97 v x) 96 v (rd (wr m 97 v x) 88 v)) = kk m' ∧ (∀ k i, k ≠ 96 → k ≠ 97 → m' k i = m k i) ∧ (∀ k i, i < v → m' k i = m k i) ∧ ∀ c, v ≤ c → c < 12 → rd m' 97 c = (if c < C then 1 else 0) ∧ rd m' 96 c = rd M 88 c := by
      rw [w32_id (x := v + 1) (by omega) (by omega), rd_wr_k (by omega), e8]
      obtain ⟨q, hq⟩ : ∃ q, q = wr (wr m 97 v x) 96 v (rd M 88 v) := ⟨_, rfl⟩
      rw [← hq]
      have qo : ∀ k i, k ≠ 96 → k ≠ 97 → q k i = m k i := fun k i a b => by rw [hq, wr_ka a, wr_ka b]
      have qi : ∀ k i, i ≠ v → q k i = m k i := fun k i a => by rw [hq, wr_ki (by omega), wr_ki (by omega)]
      obtain ⟨m', p1, p2, p3, p4⟩ := ih n (v + 1) q (by omega) (by omega) (by omega) (by rw [rd_eq (qo _ _ (by omega) (by omega))]; exact e1) (fun i => by rw [rd_eq (qo _ _ (by omega) (by omega))]; exact e8 i)
      refine ⟨m', p1, fun k i a b => by rw [p2 k i a b]; exact qo k i a b, fun k i a => by rw [p3 k i (by omega)]; exact qi k i (by omega), fun c a b => ?_⟩
      by_cases z : c = v
      · subst z
        rw [rd_eq (p3 97 c (by omega)), rd_eq (p3 96 c (by omega)), hq, rd_wr_k (by omega), rd_wr_s, rd_wr_s, w32_id (by omega) (by omega), ← hx]
        have := rd_in M 88 c
        exact ⟨rfl, w32_id this.1 this.2⟩
      · exact p4 c (by omega) b
    rw [L11_lookAtAll_7, if_neg (by omega), e1]
    have gt : ∀ {α : Type} (y : Option α), gd (0 ≤ v ∧ v < 12) y = y := fun y => gd_t ⟨h1, by omega⟩
    simp only [jn_v, gt, stw_v]
    by_cases a : C ≤ v
    · rw [if_pos a]; rw [if_neg (by omega)] at hx; rw [hx] at key; exact key
    · rw [if_neg a]; rw [if_pos (by omega)] at hx; rw [hx] at key; exact key
def PL (k : Nat) (i : Int) : Prop := (k = 83 ∧ (i = 24 ∨ i = 25)) ∨ (96 ≤ k ∧ k ≤ 102)
theorem PL_sm {m m' : Mem} (h : ∀ k i, ¬ PL k i → m' k i = m k i) : Sm m m' := fun k i q => h k i (by unfold PS at q; unfold PL; omega)
theorem rlook {n : Nat} {m : Mem} (hI : Inv n m) : ∃ m', F11_lookAtAll m = some m' ∧ TR m' (rd m 83 1) (inN (rd m 83 1)) (fun v => rd m 88 v) ∧ rd m' 83 24 = (cI (inN (rd m 83 1)) : Int) ∧ Od (inN (rd m 83 1)) (fun v => rd m 88 v) (cI (inN (rd m 83 1)) : Int) (fun i => rd m' 100 i) ∧ rd m' 83 25 = -1 ∧ ∀ k i, ¬ (PL k i ∧ k ≠ 98 ∧ k ≠ 99 ∧ k ≠ 101 ∧ k ≠ 102) → m' k i = m k i := by
  obtain ⟨⟨a1, a2, -⟩, -, -, lo, hi, -⟩ := hI
  have ac := acy_N ⟨a1, a2⟩ (ac_now lo hi)
  obtain ⟨q, hq⟩ : ∃ q, q = wr m 83 25 (-1) := ⟨_, rfl⟩
  have q1 : rd q 83 1 = rd m 83 1 := by rw [hq, rd_wr_i (by omega)]
  obtain ⟨m1, x1, y1, z1, w1⟩ := L11_la7 (M := m) (kk := fun (m_50 : Mem) => b1 (F11_findOrder m_50) fun m51 => some m51) 12 FU 0 q (by omega) (by omega) (by rw [FU_eq]; omega) q1 (fun i => by rw [hq, rd_wr_k (by omega)])
  have tr : TR m1 (rd m 83 1) (inN (rd m 83 1)) (fun v => rd m 88 v) := by
    refine ⟨by rw [rd_eq (y1 83 1 (by omega) (by omega))]; exact q1, ⟨a1, a2⟩, fun c h => inN_e.mp h, fun c x y => ?_, fun c h => ?_⟩
    · rw [(w1 c x (by omega)).1, if_pos y]
      refine ⟨fun h => (by omega), fun h => ?_⟩
      have := inN_e.mpr ⟨x, y⟩
      rw [h] at this; cases this
    · have := inN_e.mp h
      exact (w1 c this.1 (by omega)).2
  obtain ⟨m2, x2, y2, z2, w2⟩ := fo_e ac tr
  refine ⟨m2, ?_, TR_s tr (rd_eq (w2 _ _ (by omega) (by omega))) (fun c => rd_eq (w2 _ _ (by omega) (by omega))) (fun c => rd_eq (w2 _ _ (by omega) (by omega))), y2, z2, ?_, fun k i h => ?_⟩
  · unfold F11_lookAtAll
    rw [stw_v, ← hq, x1]
    show b1 (F11_findOrder m1) (fun m51 => some m51) = _
    rw [x2, b1_v]
  · rw [rd_eq (w2 _ _ (by omega) (by omega)), rd_eq (y1 _ _ (by omega) (by omega)), hq, rd_wr_s]; exact w32_id (by omega) (by omega)
  · unfold PL at h
    rw [w2 k i (by omega) (by omega), y1 k i (by omega) (by omega), hq, wr_ki (by omega)]
/-- the reference's state for a clause -/
theorem RQ_of {n : Nat} {M m : Mem} (hI : Inv n M) {c b : Int} (hc : 0 ≤ c ∧ c < 16) (ht : TR m (rd M 83 1) (inN (rd M 83 1)) (fun v => rd M 88 v)) (h24 : rd m 83 24 = (cI (inN (rd M 83 1)) : Int)) (ho : Od (inN (rd M 83 1)) (fun v => rd M 88 v) (cI (inN (rd M 83 1)) : Int) (fun i => rd m 100 i)) (h89 : ∀ i, rd m 89 i = rd M 89 i) (h90 : ∀ i, rd m 90 i = rd M 90 i) (hb : ∀ v, 0 ≤ v → v < rd M 83 1 → ((v = rd m 83 25 ∨ rd M 89 (16 * v + c) = 9) ↔ (v = b ∨ rd M 89 (16 * v + c) = 9))) : RQ m (rd M 83 1) c (HT M c b) := by
  refine ⟨ht, h24, ho, fun v f hv f0 f1 => ?_, fun f g _ _ _ _ => ?_, hc⟩
  · have := hb v (HT_in.mp hv).1 (HT_in.mp hv).2
    rw [HT_al, h89, ← or_assoc, ← or_assoc, this]
  · rw [h90, h90, h90]; rfl
theorem L11_c32 {n : Nat} {M : Mem} (hI : Inv n M) : ∀ (d f j : Nat) (s : Int) (m : Mem), j + d = 16 → d < f → TR m (rd M 83 1) (inN (rd M 83 1)) (fun v => rd M 88 v) → rd m 83 24 = (cI (inN (rd M 83 1)) : Int) → Od (inN (rd M 83 1)) (fun v => rd M 88 v) (cI (inN (rd M 83 1)) : Int) (fun i => rd m 100 i) → (∀ i, rd m 89 i = rd M 89 i) → (∀ i, rd m 90 i = rd M 90 i) → rd m 83 25 = -1 → s = sm (fun k => CS (HT M k (-1))) j →
    ∃ m', L11_cost_32 f s (j : Int) m = some (sm (fun k => CS (HT M k (-1))) 16, m') ∧ ∀ k i, k ≠ 98 → m' k i = m k i := by
  intro d
  induction d with
  | zero =>
    intro f j s m h0 h1 ht h24 ho h89 h90 h25 hs
    obtain ⟨f, rfl⟩ : ∃ i, f = i + 1 := ⟨f - 1, by omega⟩
    have : j = 16 := by omega
    subst this
    rw [L11_cost_32, if_pos (by omega), hs]
    exact ⟨m, rfl, fun _ _ _ => rfl⟩
  | succ d ih =>
    intro f j s m h0 h1 ht h24 ho h89 h90 h25 hs
    obtain ⟨f, rfl⟩ : ∃ i, f = i + 1 := ⟨f - 1, by omega⟩
    have hc : 0 ≤ (j : Int) ∧ (j : Int) < 16 := by omega
    have hk := HT_k hI hc (-1)
    have cb := CS_b hk
    have sb := sm_b (g := fun k => CS (HT M k (-1))) (B := 13068) j (fun i x => CS_b (HT_k hI ⟨by omega, by omega⟩ (-1)))
    rw [← hs] at sb
    have e1 : sm (fun k => CS (HT M k (-1))) (j + 1) = s + CS (HT M (j : Int) (-1)) := by rw [hs]; rfl
    obtain ⟨m2, x2, y2, z2⟩ := costR_e hk (RQ_of hI hc ht h24 ho h89 h90 (fun v _ _ => by rw [h25]))
    rw [L11_cost_32, if_neg (by omega), x2, b2_v, w32_id (x := (j : Int) + 1) (by omega) (by omega), show (j : Int) + 1 = ((j + 1 : Nat) : Int) by omega, w32_id (by omega) (by omega)]
    have g100 : (fun i => rd m2 100 i) = fun i => rd m 100 i := by funext i; exact rd_eq (y2 _ _ (by omega))
    obtain ⟨m', p, q⟩ := ih f (j + 1) _ m2 (by omega) (by omega) z2.1.1 z2.1.2.1 (by rw [g100]; exact ho) (fun i => by rw [rd_eq (y2 _ _ (by omega))]; exact h89 i) (fun i => by rw [rd_eq (y2 _ _ (by omega))]; exact h90 i) (by rw [rd_eq (y2 _ _ (by omega))]; exact h25) e1.symm
    exact ⟨m', p, fun k i u => by rw [q k i u, y2 k i u]⟩
theorem rcost {n : Nat} {m : Mem} (hI : Inv n m) (c : Int) : ∃ m1, F11_cost m c = some (costV m c, m1) ∧ Sm m m1 := by
  obtain ⟨m1, x1, t1, o1, o2, b1', z1⟩ := rlook hI
  have z1' : ∀ k i, ¬ PL k i → m1 k i = m k i := fun k i h => z1 k i (fun q => h q.1)
  have h89 : ∀ i, rd m1 89 i = rd m 89 i := fun i => rd_eq (z1' _ _ (by unfold PL; omega))
  have h90 : ∀ i, rd m1 90 i = rd m 90 i := fun i => rd_eq (z1' _ _ (by unfold PL; omega))
  unfold F11_cost costV
  simp only [jn_v]
  rw [x1, b1_v, F11_isClause_e]
  by_cases a : c = -1
  · rw [if_pos a, if_pos (by omega), if_pos a]
    obtain ⟨m2, x2, y2⟩ := L11_c32 hI 16 FU 0 0 m1 (by omega) (by rw [FU_eq]; omega) t1 o1 o2 h89 h90 b1' rfl
    exact ⟨m2, x2, PL_sm (fun k i q => by rw [y2 k i (by unfold PL at q; omega)]; exact z1' k i q)⟩
  · rw [if_neg a, if_neg a]
    by_cases b : 0 ≤ c ∧ c < 16
    · rw [if_pos b, if_pos (by rw [bz_n]; exact b), if_neg (by omega)]
      obtain ⟨m2, x2, y2, z2⟩ := costR_e (HT_k hI b (-1)) (RQ_of hI b t1 o1 o2 h89 h90 (fun v _ _ => by rw [b1']))
      rw [x2, b2_v]
      exact ⟨m2, rfl, PL_sm (fun k i q => by rw [y2 k i (by unfold PL at q; omega)]; exact z1' k i q)⟩
    · rw [if_neg b, if_neg (by rw [bz_n]; exact b)]
      exact ⟨m, rfl, fun _ _ _ => rfl⟩
theorem st_cost {n : Nat} {m : Mem} (c : Int) (hI : Inv n m) : Sq n (fun m => F10_cost m c) (fun m => F11_cost m c) m :=
  Sq_sm (v := fun m => costV m c) hI (dcost hI c) (fun _ h => rcost h c) (fun _ h => costV_s h c)
/-! filled, law -/
theorem burnt_e {n : Nat} {m : Mem} (hI : Inv n m) {v c : Int} (hv : 0 ≤ v ∧ v < rd m 83 1) (hc : 0 ≤ c ∧ c < 16) : ∃ m1, F4_burntForms m v c = some (FS (HT m c v) v, m1) ∧ Sm m m1 := by
  have a12 : 0 ≤ rd m 83 1 ∧ rd m 83 1 ≤ 12 := ⟨hI.1.1, hI.1.2.1⟩
  obtain ⟨m1, x1, y1, z1⟩ := grow14 hI
  obtain ⟨m2, x2, y2, z2⟩ := write14 hI hc y1 (fun i => rd_eq (z1 9 i (by omega)))
  obtain ⟨m3, hm3⟩ : ∃ m3, m3 = wr m2 19 v 9 := ⟨_, rfl⟩
  have o3 : ∀ k i, k ≠ 19 → m3 k i = m2 k i := fun k i q => by rw [hm3, wr_ka q]
  have hg3 := Gr_s y1 (m' := m3) (fun k i q _ => by rw [o3 k i q, y2 k i q])
  have hk := HT_k hI hc v
  have td := Gr_TD hI hc hg3 (b := v) (fun w x y => by
    rw [hm3, rd_wr_c]
    by_cases z : w = v
    · rw [if_pos z, if_pos z]; exact w32_id (by omega) (by omega)
    · rw [if_neg z, if_neg z]; exact z2 w x y)
  obtain ⟨m4, x4, y4, z4⟩ := least_e (o := 14) a12 hk td
  obtain ⟨m5, x5, y5, z5⟩ := spread_e a12 hk z4
  refine ⟨m5, ?_, fun k i q => ?_⟩
  · unfold F4_burntForms
    rw [x1, b1_v, x2, b1_v, gd_t (by omega), stw_v, ← hm3, x4, b2_v, x5, b1_v, maybe_e a12.2 hk z5 hv.1 hv.2 (fun g _ _ => HT_al.mpr (Or.inl rfl)), b1_v]
  · unfold PS at q
    rw [y5 k i (by omega), y4 k i (by omega) (by omega), o3 k i (by omega), y2 k i (by omega), z1 k i (by omega)]
theorem rfilled {n : Nat} {m : Mem} (hI : Inv n m) {v c b : Int} (hv : 0 ≤ v ∧ v < rd m 83 1) (hc : 0 ≤ c ∧ c < 16) {m1 : Mem} (t1 : TR m1 (rd m 83 1) (inN (rd m 83 1)) (fun v => rd m 88 v)) (o1 : rd m1 83 24 = (cI (inN (rd m 83 1)) : Int)) (o2 : Od (inN (rd m 83 1)) (fun v => rd m 88 v) (cI (inN (rd m 83 1)) : Int) (fun i => rd m1 100 i)) (h89 : ∀ i, rd m1 89 i = rd m 89 i) (h90 : ∀ i, rd m1 90 i = rd m 90 i) (hb : ∀ v, 0 ≤ v → v < rd m 83 1 → ((v = rd m1 83 25 ∨ rd m 89 (16 * v + c) = 9) ↔ (v = b ∨ rd m 89 (16 * v + c) = 9))) : ∃ m2, F11_filledBy m1 v c = some (FS (HT m c b) v, m2) ∧ ∀ k i, k ≠ 98 → k ≠ 99 → m2 k i = m1 k i :=
  filledBy_e (HT_k hI hc b) (RQ_of hI hc t1 o1 o2 h89 h90 hb) (HT_in.mpr hv)
theorem st_law {n : Nat} {m : Mem} (v c : Int) (hI : Inv n m) : Sq n (fun m => F10_law m v c) (fun m => F11_law m v c) m := by
  refine Sq_sm (v := fun m => if 0 ≤ v ∧ v < rd m 83 1 then (if 0 ≤ c ∧ c < 16 then FS (HT m c v) v else -1) else -1) hI ?_ (fun m1 h => ?_) (fun m1 h => by rw [HT_s h, Sm_r h (show PS 83 1 by unfold PS; omega)])
  · unfold F10_law
    simp only [jn_v]
    rw [F1_has_e, hI.1.2.2.1, F10_isClause_e]
    by_cases a : 0 ≤ v ∧ v < rd m 83 1
    · rw [if_pos a, if_neg (by rw [bz_0]; exact fun z => z a)]
      by_cases b : 0 ≤ c ∧ c < 16
      · obtain ⟨m1, x, y⟩ := burnt_e hI a b
        rw [if_pos b, if_pos (by rw [bz_n]; exact b), x, b2_v]
        exact ⟨m1, rfl, y⟩
      · rw [if_neg b, if_neg (by rw [bz_n]; exact b)]
        exact ⟨m, rfl, fun _ _ _ => rfl⟩
    · rw [if_neg a, if_pos (by rw [bz_0]; exact a)]
      exact ⟨m, rfl, fun _ _ _ => rfl⟩
  · unfold F11_law
    rw [F11_isCharter_e m1 v h.1.1, F11_isClause_e]
    by_cases a : 0 ≤ v ∧ v < rd m1 83 1
    · rw [if_pos a, if_neg (by rw [bz_0]; exact fun z => z a)]
      by_cases b : 0 ≤ c ∧ c < 16
      · obtain ⟨m2, x1, t1, o1, o2, b1', z1⟩ := rlook h
        have z1' : ∀ k i, ¬ PL k i → m2 k i = m1 k i := fun k i h => z1 k i (fun q => h q.1)
        obtain ⟨m3, hm3⟩ : ∃ m3, m3 = wr m2 83 25 v := ⟨_, rfl⟩
        have o3 : ∀ k i, ¬ (k = 83 ∧ i = 25) → m3 k i = m2 k i := fun k i q => by rw [hm3, wr_ki q]
        have m325 : rd m3 83 25 = v := by rw [hm3, rd_wr_s]; have := h.1.2.1; exact w32_id (by omega) (by omega)
        have g100 : (fun i => rd m3 100 i) = fun i => rd m2 100 i := by funext i; exact rd_eq (o3 _ _ (by omega))
        obtain ⟨m4, x4, y4⟩ := rfilled h a b (m1 := m3) (b := v) (TR_s t1 (rd_eq (o3 _ _ (by omega))) (fun c => rd_eq (o3 _ _ (by omega))) (fun c => rd_eq (o3 _ _ (by omega)))) (by rw [rd_eq (o3 _ _ (by omega))]; exact o1) (by rw [g100]; exact o2) (fun i => by rw [rd_eq (o3 _ _ (by omega)), rd_eq (z1' _ _ (by unfold PL; omega))]) (fun i => by rw [rd_eq (o3 _ _ (by omega)), rd_eq (z1' _ _ (by unfold PL; omega))]) (fun w _ _ => by rw [m325])
        rw [if_pos b, if_pos (by rw [bz_n]; exact b), x1, b1_v, stw_v, ← hm3, x4, b2_v, stw_v]
        exact ⟨_, rfl, PL_sm (fun k i q => by unfold PL at q; rw [wr_ki (by omega), y4 k i (by omega) (by omega), o3 k i (by omega)]; exact z1' k i (by unfold PL; omega))⟩
      · rw [if_neg b, if_neg (by rw [bz_n]; exact b)]
        exact ⟨m1, rfl, fun _ _ _ => rfl⟩
    · rw [if_neg a, if_pos (by rw [bz_0]; exact a)]
      exact ⟨m1, rfl, fun _ _ _ => rfl⟩
theorem bs_at {P : Int → Bool} {x : Int} (h0 : 0 ≤ x) (h1 : x < 4) (h : ∀ g, 0 ≤ g → g < 4 → (P g = true ↔ x = g)) : bs P 4 = shl 1 x := by
  have e : bs P 4 = bs (fun g => decide (x = g)) 4 := bs_c 4 (fun i a => by
    have := h i (by omega) (by omega)
    cases z : P i with
    | true => exact (decide_eq_true (this.mp z)).symm
    | false => exact (decide_eq_false (fun q => by rw [this.mpr q] at z; cases z)).symm)
  rw [e]
  rcases four h0 h1 with rfl | rfl | rfl | rfl <;> decide +kernel
theorem FS_one {T : TT} (hk : Tok T) {v x : Int} (hv : T.1 v = true) (h0 : 0 ≤ x) (h1 : x < 4) (h : ∀ g, 0 ≤ g → g < 4 → (T.2.2.1 v g = true ↔ x = g)) : FS T v = shl 1 x := by
  unfold FS
  refine bs_at h0 h1 (fun g g0 g1 => ?_)
  rw [Bool.and_eq_true, h g g0 g1, decide_eq_true_iff]
  refine ⟨fun q => q.1, fun q => ⟨q, ?_⟩⟩
  have vr := hk.1.1 v hv
  have a := US_b hk vr.1 vr.2 h0 h1
  have b := VS_b hk hv h0 h1
  rw [← q]
  exact (mn4_one (a := T.2.2.1 v) (h := fun f => US T v f + VS T v f) h0 h1 h (by omega)).symm
theorem st_filled {n : Nat} {m : Mem} (v c : Int) (hI : Inv n m) : Sq n (fun m => F10_filled m v c) (fun m => F11_filled m v c) m := by
  refine Sq_sm (v := fun m => if 0 ≤ v ∧ v < rd m 83 1 then (if 0 ≤ c ∧ c < 16 then (if rd m 89 (16 * v + c) = 9 then FS (HT m c v) v else shl 1 (rd m 89 (16 * v + c))) else -1) else -1) hI ?_ (fun m1 h => ?_) (fun m1 h => by rw [HT_s h, Sm_r h (show PS 83 1 by unfold PS; omega), Sm_r h (show PS 89 (16 * v + c) by unfold PS; omega)])
  · unfold F10_filled
    rw [F1_has_e, hI.1.2.2.1, F10_isClause_e]
    by_cases a : 0 ≤ v ∧ v < rd m 83 1
    · rw [if_pos a, if_neg (by rw [bz_0]; exact fun z => z a)]
      by_cases b : 0 ≤ c ∧ c < 16
      · have a12 := hI.1.2.1
        rw [if_pos b, if_pos (by rw [bz_n]; exact b), told_e a.1 (by omega) b.1 b.2, b1_v, (hI.2.1.1 v c a.1 a.2 b.1 b.2).1]
        by_cases d : rd m 89 (16 * v + c) = 9
        · obtain ⟨m1, x, y⟩ := burnt_e hI a b
          rw [if_pos d, if_pos d, x, b2_v]
          exact ⟨m1, rfl, y⟩
        · rw [if_neg d, if_neg d]
          exact ⟨m, rfl, fun _ _ _ => rfl⟩
      · rw [if_neg b, if_neg (by rw [bz_n]; exact b)]
        exact ⟨m, rfl, fun _ _ _ => rfl⟩
    · rw [if_neg a, if_pos (by rw [bz_0]; exact a)]
      exact ⟨m, rfl, fun _ _ _ => rfl⟩
  · unfold F11_filled
    rw [F11_isCharter_e m1 v h.1.1, F11_isClause_e]
    by_cases a : 0 ≤ v ∧ v < rd m1 83 1
    · rw [if_pos a, if_neg (by rw [bz_0]; exact fun z => z a)]
      by_cases b : 0 ≤ c ∧ c < 16
      · obtain ⟨m2, x1, t1, o1, o2, b1', z1⟩ := rlook h
        have z1' : ∀ k i, ¬ PL k i → m2 k i = m1 k i := fun k i h => z1 k i (fun q => h q.1)
        have fin : ∀ b' x, (∀ w, 0 ≤ w → w < rd m1 83 1 → ((w = rd m2 83 25 ∨ rd m1 89 (16 * w + c) = 9) ↔ (w = b' ∨ rd m1 89 (16 * w + c) = 9))) → FS (HT m1 c b') v = x → ∃ m', (b2 (F11_filledBy m2 v c) fun r24 m24 => some (r24, m24)) = some (x, m') ∧ Sm m1 m' := by
          intro b' x hb hx
          obtain ⟨m4, x4, y4⟩ := rfilled h a b t1 o1 o2 (fun i => rd_eq (z1' _ _ (by unfold PL; omega))) (fun i => rd_eq (z1' _ _ (by unfold PL; omega))) hb
          rw [x4, b2_v, hx]
          exact ⟨m4, rfl, PL_sm (fun k i q => by unfold PL at q; rw [y4 k i (by omega) (by omega)]; exact z1' k i (by unfold PL; omega))⟩
        rw [if_pos b, if_pos (by rw [bz_n]; exact b), x1, b1_v]
        by_cases d : rd m1 89 (16 * v + c) = 9
        · rw [if_pos d]
          refine fin v _ (fun w w0 w1 => ?_) rfl
          rw [b1']
          constructor
          · intro q; exact Or.inr (by omega)
          · rintro (q | q)
            · rw [q]; exact Or.inr d
            · exact Or.inr q
        · rw [if_neg d]
          have f := (h.2.1.1 v c a.1 a.2 b.1 b.2).2
          have f4 : 0 ≤ rd m1 89 (16 * v + c) ∧ rd m1 89 (16 * v + c) < 4 := by unfold isF at f; omega
          refine fin (-1) _ (fun w w0 w1 => by rw [b1']) (FS_one (HT_k h b (-1)) (HT_in.mpr a) f4.1 f4.2 (fun g g0 g1 => ?_))
          rw [HT_al]; omega
      · rw [if_neg b, if_neg (by rw [bz_n]; exact b)]
        exact ⟨m1, rfl, fun _ _ _ => rfl⟩
    · rw [if_neg a, if_pos (by rw [bz_0]; exact a)]
      exact ⟨m1, rfl, fun _ _ _ => rfl⟩
