/-! fillings: the least form that a charter may be -/
def lo (P : Int → Bool) : Int := if P 0 = true then 0 else if P 1 = true then 1 else if P 2 = true then 2 else 3
theorem lo_b (P : Int → Bool) : 0 ≤ lo P ∧ lo P < 4 := by unfold lo; repeat' split <;> omega
def pat (a b c d : Bool) : Int → Bool := fun g => if g = 0 then a else if g = 1 then b else if g = 2 then c else d
theorem bs_bit4 : ∀ a b c d : Bool, ∀ f : Fin 4, band (shr (bs (pat a b c d) 4) ((f : Nat) : Int)) 1 = if pat a b c d ((f : Nat) : Int) = true then 1 else 0 := by decide +kernel
theorem bs_bit {P : Int → Bool} {f : Int} (h0 : 0 ≤ f) (h1 : f < 4) : band (shr (bs P 4) f) 1 = if P f = true then 1 else 0 := by
  have e : ∀ g, 0 ≤ g → g < 4 → P g = pat (P 0) (P 1) (P 2) (P 3) g := fun g g0 g1 => by
    rcases four g0 g1 with rfl | rfl | rfl | rfl <;> rfl
  have := bs_bit4 (P 0) (P 1) (P 2) (P 3) ⟨f.toNat, by omega⟩
  dsimp only at this
  rw [show ((f.toNat : Nat) : Int) = f by omega] at this
  rw [bs_c 4 (fun i x => e i (by omega) (by omega)), e f h0 h1]
  exact this
def FP (T : TT) (v : Int) : Int → Bool := fun g => T.2.2.1 v g && decide (US T v g + VS T v g = least4 T v)
theorem FS_FP (T : TT) (v : Int) : FS T v = bs (FP T v) 4 := rfl
theorem FP_ex {T : TT} (hk : Tok T) {v : Int} (hv : T.1 v = true) : ∃ g, 0 ≤ g ∧ g < 4 ∧ FP T v g = true := by
  obtain ⟨g, g0, g1, g2⟩ := hk.2.1 v hv
  have vr := hk.1.1 v hv
  have a := US_b hk vr.1 vr.2 g0 g1
  have b := VS_b hk hv g0 g1
  obtain ⟨x, g', q0, q1, q2, q3⟩ := mn4_lt (a := T.2.2.1 v) (h := fun f => US T v f + VS T v f) (B := 20000) g0 g1 g2 (by omega) (by omega)
  refine ⟨g', q0, q1, ?_⟩
  unfold FP
  rw [Bool.and_eq_true, decide_eq_true_iff]
  exact ⟨q2, q3.symm⟩
def FLL (m : Mem) (v c : Int) : Int := lo (FP (HT m c (-1)) v)
theorem FLL_b (m : Mem) (v c : Int) : 0 ≤ FLL m v c ∧ FLL m v c < 4 := lo_b _
theorem FLL_s {m m' : Mem} (h : Sm m m') (v c : Int) : FLL m' v c = FLL m v c := by unfold FLL; rw [HT_s h]
theorem lowest_e (P : Int → Bool) : F4_lowest (bs P 4) = some (lo P) := by
  obtain ⟨n, hn⟩ : ∃ n, FU = n + 1 + 1 + 1 + 1 := ⟨99996, rfl⟩
  have st : ∀ (n : Nat) (g : Int), 0 ≤ g → g < 3 → L4_lowest_2 (bs P 4) (n + 1) g = if P g = true then some g else L4_lowest_2 (bs P 4) n (g + 1) := fun n g g0 g1 => by
    rw [L4_lowest_2, if_neg (by omega), bs_bit g0 (by omega), w32_id (x := g + 1) (by omega) (by omega)]
    by_cases z : P g = true
    · rw [if_pos z, if_pos z, if_pos (by omega)]
    · rw [if_neg z, if_neg z, if_neg (by omega)]
  unfold F4_lowest lo
  rw [hn, st _ 0 (by omega) (by omega), show (0 : Int) + 1 = 1 from rfl, st _ 1 (by omega) (by omega), show (1 : Int) + 1 = 2 from rfl, st _ 2 (by omega) (by omega), show (2 : Int) + 1 = 3 from rfl, show L4_lowest_2 (bs P 4) (n + 1) 3 = some 3 by rw [L4_lowest_2, if_pos (by omega)]]
  by_cases a : P 0 = true
  · rw [if_pos a, if_pos a]
  · by_cases b : P 1 = true
    · rw [if_neg a, if_neg a, if_pos b, if_pos b]
    · by_cases c : P 2 = true
      · rw [if_neg a, if_neg a, if_neg b, if_neg b, if_pos c, if_pos c]
      · rw [if_neg a, if_neg a, if_neg b, if_neg b, if_neg c, if_neg c]
theorem lowR_e {P : Int → Bool} {kk : Int → Option Mem} (h : ∃ g, 0 ≤ g ∧ g < 4 ∧ P g = true) : L11_fillAll_32 (bs P 4) kk FU 0 = kk (lo P) := by
  obtain ⟨n, hn⟩ : ∃ n, FU = n + 1 + 1 + 1 + 1 := ⟨99996, rfl⟩
  have st : ∀ (n : Nat) (g : Int), 0 ≤ g → g < 4 → L11_fillAll_32 (bs P 4) kk (n + 1) g = if P g = true then kk g else L11_fillAll_32 (bs P 4) kk n (g + 1) := fun n g g0 g1 => by
    rw [L11_fillAll_32, bs_bit g0 (by omega), w32_id (x := g + 1) (by omega) (by omega)]
    by_cases z : P g = true
    · rw [if_pos z, if_pos z, if_pos (by omega)]
    · rw [if_neg z, if_neg z, if_neg (by omega)]
  unfold lo
  rw [hn, st _ 0 (by omega) (by omega), show (0 : Int) + 1 = 1 from rfl, st _ 1 (by omega) (by omega), show (1 : Int) + 1 = 2 from rfl, st _ 2 (by omega) (by omega), show (2 : Int) + 1 = 3 from rfl, st _ 3 (by omega) (by omega)]
  by_cases a : P 0 = true
  · rw [if_pos a, if_pos a]
  · by_cases b : P 1 = true
    · rw [if_neg a, if_neg a, if_pos b, if_pos b]
    · by_cases c : P 2 = true
      · rw [if_neg a, if_neg a, if_neg b, if_neg b, if_pos c, if_pos c]
      · have d : P 3 = true := by
          obtain ⟨g, g0, g1, g2⟩ := h
          rcases four g0 g1 with rfl | rfl | rfl | rfl
          · exact absurd g2 a
          · exact absurd g2 b
          · exact absurd g2 c
          · exact g2
        rw [if_neg a, if_neg a, if_neg b, if_neg b, if_neg c, if_neg c, if_pos d]
theorem lo_at {P : Int → Bool} {x : Int} (h0 : 0 ≤ x) (h1 : x < 4) (h : ∀ g, 0 ≤ g → g < 4 → (P g = true ↔ x = g)) : lo P = x := by
  unfold lo
  have a := h 0 (by omega) (by omega)
  have b := h 1 (by omega) (by omega)
  have c := h 2 (by omega) (by omega)
  rcases four h0 h1 with rfl | rfl | rfl | rfl
  · rw [if_pos (a.mpr rfl)]
  · rw [if_neg (fun z => by have := a.mp z; omega), if_pos (b.mpr rfl)]
  · rw [if_neg (fun z => by have := a.mp z; omega), if_neg (fun z => by have := b.mp z; omega), if_pos (c.mpr rfl)]
  · rw [if_neg (fun z => by have := a.mp z; omega), if_neg (fun z => by have := b.mp z; omega), if_neg (fun z => by have := c.mp z; omega)]
theorem FLL_told {n : Nat} {m : Mem} (hI : Inv n m) {v c : Int} (hv : 0 ≤ v ∧ v < rd m 83 1) (hc : 0 ≤ c ∧ c < 16) (ht : rd m 89 (16 * v + c) ≠ 9) : FLL m v c = rd m 89 (16 * v + c) := by
  have f := (hI.2.1.1 v c hv.1 hv.2 hc.1 hc.2).2
  have f4 : 0 ≤ rd m 89 (16 * v + c) ∧ rd m 89 (16 * v + c) < 4 := by unfold isF at f; omega
  have hk := HT_k hI hc (-1)
  have vT : (HT m c (-1)).1 v = true := HT_in.mpr hv
  have vr := hk.1.1 v vT
  have al : ∀ g, 0 ≤ g → g < 4 → ((HT m c (-1)).2.2.1 v g = true ↔ rd m 89 (16 * v + c) = g) := fun g g0 g1 => by rw [HT_al]; omega
  refine lo_at f4.1 f4.2 (fun g g0 g1 => ?_)
  unfold FP
  rw [Bool.and_eq_true, al g g0 g1, decide_eq_true_iff]
  refine ⟨fun q => q.1, fun q => ⟨q, ?_⟩⟩
  have a := US_b hk vr.1 vr.2 f4.1 f4.2
  have b := VS_b hk vT f4.1 f4.2
  rw [← q]
  exact (mn4_one (a := (HT m c (-1)).2.2.1 v) (h := fun f => US (HT m c (-1)) v f + VS (HT m c (-1)) v f) f4.1 f4.2 al (by omega)).symm
/-! the class fills a clause -/
theorem L4_fc {n : Nat} {M : Mem} (hI : Inv n M) {c : Int} (hc : 0 ≤ c ∧ c < 16) : ∀ (d f : Nat) (v : Int) (m : Mem), v + d = rd M 83 1 → 0 ≤ v → d < f → (∀ i, rd m 9 i = rd M 9 i) → rd m 4 0 = rd M 83 1 → LV m 14 (rd M 83 1) (HT M c (-1)) →
    ∃ m', L4_fillClause_29 c f v m = some m' ∧ (∀ k i, k ≠ 27 → m' k i = m k i) ∧ (∀ i, (∀ w, v ≤ w → w < rd M 83 1 → i ≠ 16 * w + c) → m' 27 i = m 27 i) ∧ ∀ w, v ≤ w → w < rd M 83 1 → rd m' 27 (16 * w + c) = FLL M w c := by
  have a12 : 0 ≤ rd M 83 1 ∧ rd M 83 1 ≤ 12 := ⟨hI.1.1, hI.1.2.1⟩
  have hk := HT_k hI hc (-1)
  intro d
  induction d with
  | zero =>
    intro f v m h0 h1 h2 h9 h4 hl
    obtain ⟨f, rfl⟩ : ∃ j, f = j + 1 := ⟨f - 1, by omega⟩
    rw [L4_fillClause_29, h4, if_pos (by omega)]
    exact ⟨m, rfl, fun _ _ _ => rfl, fun _ _ => rfl, fun w a b => by omega⟩
  | succ d ih =>
    intro f v m h0 h1 h2 h9 h4 hl
    obtain ⟨f, rfl⟩ : ∃ j, f = j + 1 := ⟨f - 1, by omega⟩
    have hv : 0 ≤ v ∧ v < rd M 83 1 := ⟨h1, by omega⟩
    have fb := FLL_b M v c
    have go : ∃ m', (gd (0 ≤ F1_formCell v c ∧ F1_formCell v c < 192) <| stw m 27 (F1_formCell v c) (FLL M v c) fun m84 => L4_fillClause_29 c f (w32 (v + 1)) m84) = some m' ∧ (∀ k i, k ≠ 27 → m' k i = m k i) ∧ (∀ i, (∀ w, v ≤ w → w < rd M 83 1 → i ≠ 16 * w + c) → m' 27 i = m 27 i) ∧ ∀ w, v ≤ w → w < rd M 83 1 → rd m' 27 (16 * w + c) = FLL M w c := by
      rw [formCell_e h1 (by omega) hc.1 (by omega), gd_t (by omega), stw_v, w32_id (x := v + 1) (by omega) (by omega)]
      obtain ⟨q, hq⟩ : ∃ q, q = wr m 27 (16 * v + c) (FLL M v c) := ⟨_, rfl⟩
      rw [← hq]
      have qo : ∀ k i, k ≠ 27 → q k i = m k i := fun k i u => by rw [hq, wr_ka u]
      have hl' : LV q 14 (rd M 83 1) (HT M c (-1)) := by
        obtain ⟨⟨x, y, z⟩, w⟩ := hl
        have td : TD q 14 (rd M 83 1) (HT M c (-1)) := by
          obtain ⟨a, b, c', d', e, f'⟩ := x
          have g7 : (fun i => rd q (14 + 7) i) = fun i => rd m (14 + 7) i := by funext i; exact rd_eq (qo _ _ (by omega))
          exact ⟨a, by rw [rd_eq (qo _ _ (by omega))]; exact b, fun v x y => by rw [rd_eq (qo _ _ (by omega))]; exact c' v x y, fun f g p q r s => by rw [rd_eq (qo _ _ (by omega))]; exact d' f g p q r s, by rw [g7]; exact e, fun v x y => by rw [rd_eq (qo _ _ (by omega))]; exact f' v x y⟩
        exact ⟨⟨td, fun v f p q r s => by rw [rd_eq (qo _ _ (by omega))]; exact y v f p q r s, fun d f p q r s => by rw [rd_eq (qo _ _ (by omega))]; exact z d f p q r s⟩, fun v g p q r s => by rw [rd_eq (qo _ _ (by omega))]; exact w v g p q r s⟩
      obtain ⟨m', p1, p2, p3, p4⟩ := ih f (v + 1) q (by omega) (by omega) (by omega) (fun i => by rw [rd_eq (qo _ _ (by omega))]; exact h9 i) (by rw [rd_eq (qo _ _ (by omega))]; exact h4) hl'
      refine ⟨m', p1, fun k i u => by rw [p2 k i u]; exact qo k i u, fun i u => by rw [p3 i (fun w a b => u w (by omega) b), hq, wr_ki (fun z => u v (by omega) (by omega) z.2)], fun w w0 w1 => ?_⟩
      by_cases z : w = v
      · subst z
        rw [rd_eq (p3 _ (fun u a b => by omega)), hq, rd_wr_s]; exact w32_id (by omega) (by omega)
      · exact p4 w (by omega) w1
    rw [L4_fillClause_29, h4, if_neg (by omega), told_e h1 (by omega) hc.1 hc.2, b1_v, h9, (hI.2.1.1 v c hv.1 hv.2 hc.1 hc.2).1, jn_v]
    by_cases z : rd M 89 (16 * v + c) = 9
    · rw [if_pos z, maybe_e a12.2 hk hl hv.1 hv.2 (fun g _ _ => HT_al.mpr (Or.inr (Or.inl z))), b1_v, FS_FP, lowest_e, b1_v]
      exact go
    · rw [if_neg z, ← FLL_told hI hv hc z]
      exact go
theorem Gr_s2 {M m m' : Mem} {N : Int} (h : Gr M m 14 N) (g : ∀ k i, 14 ≤ k → k ≤ 25 → m' k i = m k i) : Gr M m' 14 N := by
  obtain ⟨g1, g2, g3, g4⟩ := h
  have g7 : (fun i => rd m' (14 + 7) i) = fun i => rd m (14 + 7) i := by funext i; exact rd_eq (g _ _ (by omega) (by omega))
  refine ⟨?_, fun v x y => ?_, fun f f' x y z w => ?_, ?_⟩
  · rw [rd_eq (g 14 0 (by omega) (by omega))]; exact g1
  · rw [rd_eq (g (14 + 1) v (by omega) (by omega)), rd_eq (g (14 + 2) v (by omega) (by omega)), rd_eq (g (14 + 3) v (by omega) (by omega))]; exact g2 v x y
  · rw [rd_eq (g (14 + 8) _ (by omega) (by omega))]; exact g3 f f' x y z w
  · rw [g7]; exact g4
theorem fillC_e {n : Nat} {M m : Mem} (hI : Inv n M) {c : Int} (hc : 0 ≤ c ∧ c < 16) (hg : Gr M m 14 (rd M 83 1)) (ho : ∀ k i, ¬ (14 ≤ k ∧ k ≤ 27) → m k i = M k i) : ∃ m', F4_fillClause m c = some m' ∧ Gr M m' 14 (rd M 83 1) ∧ (∀ k i, ¬ (14 ≤ k ∧ k ≤ 27) → m' k i = M k i) ∧ (∀ i, (∀ w, 0 ≤ w → w < rd M 83 1 → i ≠ 16 * w + c) → m' 27 i = m 27 i) ∧ ∀ w, 0 ≤ w → w < rd M 83 1 → rd m' 27 (16 * w + c) = FLL M w c := by
  have a12 : 0 ≤ rd M 83 1 ∧ rd M 83 1 ≤ 12 := ⟨hI.1.1, hI.1.2.1⟩
  have hk := HT_k hI hc (-1)
  obtain ⟨m1, x1, y1, z1⟩ := write14 hI hc hg (fun i => rd_eq (ho 9 i (by omega)))
  have hg1 := Gr_s hg (m' := m1) (fun k i q _ => y1 k i q)
  obtain ⟨m2, x2, y2, z2⟩ := least_e (o := 14) a12 hk (Gr_TD hI hc hg1 (fun v x y => by rw [if_neg (by omega)]; exact z1 v x y))
  obtain ⟨m3, x3, y3, z3⟩ := spread_e a12 hk z2
  have hg3 := Gr_s hg1 (m' := m3) (fun k i _ q => by rw [y3 k i (by unfold PD at q; omega), y2 k i (by unfold PD at q; omega) (by unfold PD at q; omega)])
  have o3 : ∀ k i, k ≠ 19 → k ≠ 23 → k ≠ 24 → k ≠ 25 → m3 k i = m k i := fun k i a b c d => by rw [y3 k i (by omega), y2 k i (by omega) (by omega), y1 k i a]
  obtain ⟨m4, x4, y4, z4, w4⟩ := L4_fc hI hc (rd M 83 1).toNat FU 0 m3 (by omega) (by omega) (by rw [FU_eq]; omega) (fun i => by rw [rd_eq (o3 9 i (by omega) (by omega) (by omega) (by omega)), rd_eq (ho 9 i (by omega))]) (by rw [rd_eq (o3 4 0 (by omega) (by omega) (by omega) (by omega)), rd_eq (ho 4 0 (by omega))]; exact hI.1.2.2.1) z3
  refine ⟨m4, ?_, Gr_s2 hg3 (fun k i a b => y4 k i (by omega)), fun k i q => by rw [y4 k i (by omega), o3 k i (by omega) (by omega) (by omega) (by omega)]; exact ho k i q, fun i q => by rw [z4 i q, o3 27 i (by omega) (by omega) (by omega) (by omega)], w4⟩
  · unfold F4_fillClause
    rw [x1, b1_v, x2, b2_v, x3, b1_v]; exact x4
