/-! the tree told by hand, for a clause; b: burnt -/
def Sm (m m' : Mem) : Prop := ∀ k i, PS k i → m' k i = m k i
theorem Sm_r {m m' : Mem} (h : Sm m m') {k : Nat} {i : Int} (q : PS k i) : rd m' k i = rd m k i := rd_eq (h k i q)
theorem Sm_t {a b c : Mem} (h : Sm a b) (h' : Sm b c) : Sm a c := fun k i q => by rw [h' k i q, h k i q]
theorem Sq_sm {n : Nat} {m : Mem} {f g : Mem → Option (Int × Mem)} {v : Mem → Int} (hI : Inv n m) (hf : ∃ m1, f m = some (v m, m1) ∧ Sm m m1) (hg : ∀ m1, Inv n m1 → ∃ m2, g m1 = some (v m1, m2) ∧ Sm m1 m2) (hv : ∀ m1, Sm m m1 → v m1 = v m) : Sq n f g m := by
  obtain ⟨m1, a, b⟩ := hf
  have i1 := Inv_same b hI
  obtain ⟨m2, c, d⟩ := hg m1 i1
  refine ⟨v m, m1, m2, a, ?_, Inv_mono (by omega) (Inv_same d i1)⟩
  rw [c, hv m1 b]
def HT (M : Mem) (c b : Int) : TT := (inN (rd M 83 1), fun v => rd M 88 v, fun v f => decide (v = b ∨ rd M 89 (16 * v + c) = 9 ∨ rd M 89 (16 * v + c) = f), stp (rd M 90 0) (rd M 90 1) (rd M 90 2))
theorem HT_s {m m' : Mem} (h : Sm m m') (c b : Int) : HT m' c b = HT m c b := by
  have e1 : rd m' 83 1 = rd m 83 1 := Sm_r h (by unfold PS; omega)
  have e88 : ∀ i, rd m' 88 i = rd m 88 i := fun i => Sm_r h (by unfold PS; omega)
  have e89 : ∀ i, rd m' 89 i = rd m 89 i := fun i => Sm_r h (by unfold PS; omega)
  have e90 : ∀ i, rd m' 90 i = rd m 90 i := fun i => Sm_r h (by unfold PS; omega)
  unfold HT; simp only [e1, e88, e89, e90]
theorem HT_al {M : Mem} {c b v f : Int} : (HT M c b).2.2.1 v f = true ↔ v = b ∨ rd M 89 (16 * v + c) = 9 ∨ rd M 89 (16 * v + c) = f := decide_eq_true_iff
theorem HT_in {M : Mem} {c b v : Int} : (HT M c b).1 v = true ↔ 0 ≤ v ∧ v < rd M 83 1 := inN_e
theorem stp_b {a b c f g : Int} (ha : 0 ≤ a ∧ a ≤ 99) (hb : 0 ≤ b ∧ b ≤ 99) (hc : 0 ≤ c ∧ c ≤ 99) : 0 ≤ stp a b c f g ∧ stp a b c f g ≤ 99 := by
  unfold stp; split
  · omega
  · split
    · exact ha
    · split
      · exact hb
      · exact hc
theorem HT_k {n : Nat} {M : Mem} (hI : Inv n M) {c : Int} (hc : 0 ≤ c ∧ c < 16) (b : Int) : Tok (HT M c b) := by
  obtain ⟨⟨a1, a2, -⟩, ⟨c1, c2, -⟩, -, lo, hi, -⟩ := hI
  refine ⟨acy_N ⟨a1, a2⟩ (ac_now lo hi), fun d hd => ?_, fun f g _ _ _ _ => stp_b (c2 0 (by omega) (by omega)).2 (c2 1 (by omega) (by omega)).2 (c2 2 (by omega) (by omega)).2⟩
  have hd' := HT_in.mp hd
  have := (c1 d c hd'.1 hd'.2 hc.1 hc.2).2
  rcases this with ⟨x, y⟩ | x
  · exact ⟨rd M 89 (16 * d + c), x, y, HT_al.mpr (Or.inr (Or.inr rfl))⟩
  · exact ⟨0, by omega, by omega, HT_al.mpr (Or.inr (Or.inl x))⟩
theorem CS_b {T : TT} (hk : Tok T) : 0 ≤ CS T ∧ CS T ≤ 13068 := by
  unfold CS
  constructor
  · refine sm_nn 12 (fun i x => ?_)
    split
    · rename_i z; exact (mn4_US hk z.1).1
    · exact Int.le_refl _
  · have e : sm (fun _ => (1089 : Int)) 12 = 13068 := rfl
    rw [← e]
    refine sm_le 12 (fun i x => ?_)
    split
    · rename_i z; exact (mn4_US hk z.1).2
    · omega
theorem Od_c {N n : Int} {p p' ord : Int → Int} (h : Od (inN N) p n ord) (e : ∀ v, 0 ≤ v → v < N → p v = p' v) : Od (inN N) p' n ord := by
  obtain ⟨⟨a, b⟩, c⟩ := h
  refine ⟨⟨fun i x y => ?_, b⟩, c⟩
  have q := a i x y
  have r := inN_e.mp q.1
  rw [← e _ r.1 r.2]; exact q
/-- the class's tree, grown and written for a clause -/
theorem Gr_TD {n : Nat} {M m : Mem} (hI : Inv n M) {c b : Int} (hc : 0 ≤ c ∧ c < 16) (hg : Gr M m 14 (rd M 83 1)) (hf : ∀ v, 0 ≤ v → v < rd M 83 1 → rd m 19 v = if v = b then 9 else rd M 89 (16 * v + c)) : TD m 14 (rd M 83 1) (HT M c b) := by
  obtain ⟨⟨a1, a2, -⟩, ⟨c1, c2, c3⟩, -⟩ := hI
  obtain ⟨g1, g2, g3, g4⟩ := hg
  refine ⟨rfl, g1, fun v x y => ?_, fun f g x y z w => ?_, Od_c g4 (fun v x y => c3 v x y), fun v x y => ?_⟩
  · rw [(g2 v x y).1]; exact c3 v x y
  · rw [g3 f g x y z w]
    show _ = stp (rd M 90 0) (rd M 90 1) (rd M 90 2) f g
    rw [← (c2 0 (by omega) (by omega)).1, ← (c2 1 (by omega) (by omega)).1, ← (c2 2 (by omega) (by omega)).1]
    rfl
  · have := (c1 v c x y hc.1 hc.2).2
    rw [show 14 + 5 = 19 from rfl, hf v x y]
    by_cases z : v = b
    · rw [if_pos z]
      exact ⟨Or.inr rfl, fun f f0 f1 => by rw [HT_al]; exact ⟨fun _ => Or.inl rfl, fun _ => Or.inl z⟩⟩
    · rw [if_neg z]
      refine ⟨this, fun f f0 f1 => ?_⟩
      rw [HT_al]
      exact ⟨fun q => q.resolve_left z, Or.inr⟩
theorem Gr_s {M m m' : Mem} {o : Nat} {N : Int} (h : Gr M m o N) (g : ∀ k i, k ≠ o + 5 → ¬ PD o k → m' k i = m k i) : Gr M m' o N := by
  obtain ⟨g1, g2, g3, g4⟩ := h
  have g7 : (fun i => rd m' (o + 7) i) = fun i => rd m (o + 7) i := by funext i; exact rd_eq (g _ _ (by omega) (by unfold PD; omega))
  refine ⟨?_, fun v x y => ?_, fun f f' x y z w => ?_, ?_⟩
  · rw [rd_eq (g o 0 (by omega) (by unfold PD; omega))]; exact g1
  · rw [rd_eq (g (o + 1) v (by omega) (by unfold PD; omega)), rd_eq (g (o + 2) v (by omega) (by unfold PD; omega)), rd_eq (g (o + 3) v (by omega) (by unfold PD; omega))]; exact g2 v x y
  · rw [rd_eq (g (o + 8) _ (by omega) (by unfold PD; omega))]; exact g3 f f' x y z w
  · rw [g7]; exact g4
/-- growAsTold on the class's own tree -/
theorem grow14 {n : Nat} {m : Mem} (hI : Inv n m) : ∃ m', F9_growAsTold m 14 = some m' ∧ Gr m m' 14 (rd m 83 1) ∧ ∀ k i, ¬ (14 ≤ k ∧ k ≤ 25) → m' k i = m k i := by
  obtain ⟨⟨a1, a2, a3, -⟩, ⟨c1, c2, c3⟩, -, lo, hi, -⟩ := hI
  have ac : acyc (rd m 83 1) (fun v => rd m 9 (197 + v)) := acyc_c (fun c x y => (c3 c x y).symm) (ac_now lo hi)
  obtain ⟨m', a, b, c⟩ := grow_e (o := 14) (by omega) ⟨a1, a2⟩ a3 (acy_N ⟨a1, a2⟩ ac)
  exact ⟨m', a, b, fun k i q => c k i (by omega) (by omega) (by omega) (by omega) (by omega) (by omega)⟩
/-- write, for a clause -/
theorem write14 {n : Nat} {M m : Mem} (hI : Inv n M) {c : Int} (hc : 0 ≤ c ∧ c < 16) (hg : Gr M m 14 (rd M 83 1)) (h9 : ∀ i, rd m 9 i = rd M 9 i) : ∃ m', F9_write m 14 c = some m' ∧ (∀ k i, k ≠ 19 → m' k i = m k i) ∧ ∀ v, 0 ≤ v → v < rd M 83 1 → rd m' 19 v = rd M 89 (16 * v + c) := by
  obtain ⟨⟨a1, a2, a3, -⟩, ⟨c1, c2, c3⟩, -⟩ := hI
  refine ⟨_, write_e (o := 14) (by omega) ⟨a1, a2⟩ hc hg.1, fun k i q => fw_o (by omega), fun v x y => ?_⟩
  rw [show 19 = 14 + 5 from rfl, rd_fw_i x y, h9, (c1 v c x y hc.1 hc.2).1]
  have := rd_in M 89 (16 * v + c)
  exact w32_id this.1 this.2
/-! cost -/
def costV (m : Mem) (c : Int) : Int := if c = -1 then sm (fun k => CS (HT m k (-1))) 16 else if 0 ≤ c ∧ c < 16 then CS (HT m c (-1)) else -1
theorem costV_s {m m' : Mem} (h : Sm m m') (c : Int) : costV m' c = costV m c := by
  unfold costV; simp only [HT_s h]
theorem sm_b {g : Int → Int} {B : Int} : ∀ k : Nat, (∀ i : Nat, i < k → 0 ≤ g i ∧ g i ≤ B) → 0 ≤ sm g k ∧ sm g k ≤ B * k
  | 0, _ => ⟨Int.le_refl _, by show (0 : Int) ≤ B * ((0 : Nat) : Int); omega⟩
  | k + 1, h => by
    have a := sm_b k (fun i x => h i (by omega))
    have b := h k (by omega)
    have e : sm g (k + 1) = sm g k + g (k : Int) := rfl
    have e2 : B * ((k + 1 : Nat) : Int) = B * (k : Int) + B := by rw [show ((k + 1 : Nat) : Int) = (k : Int) + 1 by omega, Int.mul_add, Int.mul_one]
    rw [e, e2]
    omega
theorem L10_c29 {n : Nat} {M : Mem} (hI : Inv n M) {c : Int} : ∀ (d f j : Nat) (s : Int) (m : Mem), j + d = 16 → d < f → Gr M m 14 (rd M 83 1) → (∀ i, rd m 9 i = rd M 9 i) → s = sm (fun k => if c = -1 ∨ c = k then CS (HT M k (-1)) else 0) j →
    ∃ m', L10_cost_29 c f s (j : Int) m = some (sm (fun k => if c = -1 ∨ c = k then CS (HT M k (-1)) else 0) 16, m') ∧ ∀ k i, ¬ (14 ≤ k ∧ k ≤ 25) → m' k i = m k i := by
  have a12 : 0 ≤ rd M 83 1 ∧ rd M 83 1 ≤ 12 := ⟨hI.1.1, hI.1.2.1⟩
  intro d
  induction d with
  | zero =>
    intro f j s m h0 h1 hg h9 hs
    obtain ⟨f, rfl⟩ : ∃ i, f = i + 1 := ⟨f - 1, by omega⟩
    have : j = 16 := by omega
    subst this
    rw [L10_cost_29, if_pos (by omega), hs]
    exact ⟨m, rfl, fun _ _ _ => rfl⟩
  | succ d ih =>
    intro f j s m h0 h1 hg h9 hs
    obtain ⟨f, rfl⟩ : ∃ i, f = i + 1 := ⟨f - 1, by omega⟩
    have hc : 0 ≤ (j : Int) ∧ (j : Int) < 16 := by omega
    have hk := HT_k hI hc (-1)
    have cb := CS_b hk
    have sb := sm_b (g := fun k => if c = -1 ∨ c = k then CS (HT M k (-1)) else 0) (B := 13068) j (fun i x => by
      split
      · exact CS_b (HT_k hI ⟨by omega, by omega⟩ (-1))
      · omega)
    rw [← hs] at sb
    have e1 : sm (fun k => if c = -1 ∨ c = k then CS (HT M k (-1)) else 0) (j + 1) = s + (if c = -1 ∨ c = (j : Int) then CS (HT M (j : Int) (-1)) else 0) := by rw [hs]; rfl
    obtain ⟨m1, x1, y1, z1⟩ := write14 hI hc hg h9
    have hg1 := Gr_s hg (m' := m1) (fun k i q _ => y1 k i q)
    obtain ⟨m2, x2, y2, z2⟩ := least_e (o := 14) a12 hk (Gr_TD hI hc hg1 (fun v x y => by rw [if_neg (by omega)]; exact z1 v x y))
    have hg2 := Gr_s hg1 (m' := m2) (fun k i _ q => y2 k i (by unfold PD at q; omega) (by unfold PD at q; omega))
    rw [L10_cost_29, if_neg (by omega), w32_id (x := (j : Int) + 1) (by omega) (by omega), show (j : Int) + 1 = ((j + 1 : Nat) : Int) by omega]
    simp only [jn_v]
    rw [x1, b1_v, x2, b2_v]
    by_cases z : c = -1 ∨ c = (j : Int)
    · rw [if_pos z] at e1
      have take : ∃ m', L10_cost_29 c f (w32 (s + CS (HT M (j : Int) (-1)))) ((j + 1 : Nat) : Int) m2 = some (sm (fun k => if c = -1 ∨ c = k then CS (HT M k (-1)) else 0) 16, m') ∧ ∀ k i, ¬ (14 ≤ k ∧ k ≤ 25) → m' k i = m k i := by
        rw [w32_id (by omega) (by omega)]
        obtain ⟨m', p, q⟩ := ih f (j + 1) _ m2 (by omega) (by omega) hg2 (fun i => by rw [rd_eq (y2 9 i (by omega) (by omega)), rd_eq (y1 9 i (by omega))]; exact h9 i) e1.symm
        exact ⟨m', p, fun k i u => by rw [q k i u, y2 k i (by omega) (by omega), y1 k i (by omega)]⟩
      by_cases y : c = -1
      · rw [if_pos y]; exact take
      · rw [if_neg y, if_neg (by omega)]; exact take
    · rw [if_neg z] at e1
      rw [if_neg (by omega), if_pos (by omega)]
      exact ih f (j + 1) s m (by omega) (by omega) hg h9 (by rw [e1]; omega)
theorem dcost {n : Nat} {m : Mem} (hI : Inv n m) (c : Int) : ∃ m1, F10_cost m c = some (costV m c, m1) ∧ Sm m m1 := by
  obtain ⟨m1, x1, y1, z1⟩ := grow14 hI
  obtain ⟨m2, x2, y2⟩ := L10_c29 hI (c := c) 16 FU 0 0 m1 (by omega) (by rw [FU_eq]; omega) y1 (fun i => rd_eq (z1 9 i (by omega))) rfl
  have sm2 : Sm m m2 := fun k i q => by rw [y2 k i (by unfold PS at q; omega), z1 k i (by unfold PS at q; omega)]
  unfold F10_cost costV
  simp only [jn_v]
  rw [x1, b1_v, show L10_cost_29 c FU 0 0 m1 = _ from x2, F10_isClause_e]
  by_cases a : c = -1
  · rw [if_pos a, if_pos a]
    refine ⟨m2, ?_, sm2⟩
    congr 2
    refine sm_c 16 (fun i _ => if_pos (Or.inl a))
  · rw [if_neg a, if_neg a]
    by_cases b : 0 ≤ c ∧ c < 16
    · rw [if_pos b, if_pos (by rw [bz_n]; exact b)]
      refine ⟨m2, ?_, sm2⟩
      congr 2
      rw [← sm_at (x := c) (y := CS (HT m c (-1))) 16 b.1 b.2]
      refine sm_c 16 (fun i _ => ?_)
      by_cases z : c = (i : Int)
      · rw [if_pos z, if_pos (Or.inr z), z]
      · rw [if_neg z, if_neg (by omega)]
    · rw [if_neg b, if_neg (by rw [bz_n]; exact b)]
      exact ⟨m, rfl, fun _ _ _ => rfl⟩
