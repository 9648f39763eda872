/-! a tree is weighed: its days, its cost, whether it is among the best -/
theorem L0_wc {n : Nat} {M : Mem} (hI : Inv n M) {N : Nat} (hN : rd M 31 2 = (N : Int)) (h6 : N ≤ 6) {k : Int} (k0 : 0 ≤ k) (k1 : k < 16) : ∀ (d t j : Nat) (m : Mem), j + d = N → d < t → rd m 31 2 = (N : Int) → (∀ i, rd m 44 i = rd M 44 i) → (∀ i, rd m 9 i = rd M 9 i) → (∀ i : Nat, i < j → rd m 37 (i : Int) = td M i k) → ∃ m', L0_writeClause_2 k t (j : Int) m = some m' ∧ (∀ k i, k ≠ 37 → m' k i = m k i) ∧ ∀ i : Nat, i < N → rd m' 37 (i : Int) = td M i k := by
  intro d
  induction d with
  | zero =>
    intro t j m h0 h1 a2 a44 a9 h
    obtain ⟨t, rfl⟩ : ∃ i, t = i + 1 := ⟨t - 1, by omega⟩
    rw [L0_writeClause_2, a2, if_pos (by omega)]
    exact ⟨m, rfl, fun _ _ _ => rfl, fun i x => h i (by omega)⟩
  | succ d ih =>
    intro t j m h0 h1 a2 a44 a9 h
    obtain ⟨t, rfl⟩ : ∃ i, t = i + 1 := ⟨t - 1, by omega⟩
    rw [L0_writeClause_2, a2, if_neg (by omega), gd_t (by omega), td_e hI hN a44 a9 k0 k1 (by omega), b1_v, gd_t (by omega), stw_v, w32_id (x := (j : Int) + 1) (by omega) (by omega), show (j : Int) + 1 = ((j + 1 : Nat) : Int) by omega]
    obtain ⟨m', x, y, z⟩ := ih t (j + 1) (wr m 37 (j : Int) (td M j k)) (by omega) (by omega) (by rw [rd_wr_k (by omega)]; exact a2) (fun i => by rw [rd_wr_k (by omega)]; exact a44 i) (fun i => by rw [rd_wr_k (by omega)]; exact a9 i) (fun i hi => by
      by_cases e : i = j
      · have b := rd_in M 89 (16 * rd M 103 (j : Int) + k)
        rw [e, rd_wr_s]; exact w32_id b.1 b.2
      · rw [rd_wr_i (by omega)]; exact h i (by omega))
    exact ⟨m', x, fun k i a => by rw [y k i a, wr_ki (by omega)], z⟩
theorem wc_e {n : Nat} {M m : Mem} (hI : Inv n M) {N : Nat} (hN : rd M 31 2 = (N : Int)) (h6 : N ≤ 6) (hm : HM M m N) {k : Int} (k0 : 0 ≤ k) (k1 : k < 16) : ∃ m', F0_writeClause m k = some m' ∧ (∀ k i, k ≠ 37 → m' k i = m k i) ∧ ∀ i : Nat, i < N → rd m' 37 (i : Int) = td M i k :=
  L0_wc hI hN h6 k0 k1 N FU 0 m (by omega) (by rw [FU_eq]; omega) hm.1 hm.2.1 hm.2.2.1 (fun i hi => by omega)
/-- the trial tree stands: the code's mothers, in order -/
def TRI (m : Mem) (N c : Nat) : Prop := (∀ j : Nat, j < N → rd m 33 (j : Int) = pmc N c (j : Int)) ∧ Od (inN (N : Int)) (pmc N c) (N : Int) (fun i => rd m 39 i)
theorem TRI_s {m m' : Mem} {N c : Nat} (h : TRI m N c) (g33 : ∀ i, rd m' 33 i = rd m 33 i) (g39 : ∀ i, rd m' 39 i = rd m 39 i) : TRI m' N c := by
  refine ⟨fun j hj => by rw [g33]; exact h.1 j hj, ?_⟩
  have : (fun i => rd m' 39 i) = fun i => rd m 39 i := by funext i; exact g39 i
  rw [this]; exact h.2
theorem TD_c {n : Nat} {M m : Mem} (hI : Inv n M) {N c t : Nat} (hN : rd M 31 2 = (N : Int)) (hp : PRD M m N t) (h : TRI m N c) {k : Int} (k0 : 0 ≤ k) (k1 : k < 16) (h37 : ∀ i : Nat, i < N → rd m 37 (i : Int) = td M i k) : TD m 32 (N : Int) (BT M N c k) := by
  refine ⟨rfl, hp.2.1, fun v v0 v1 => ?_, fun f g a b c d => hp.2.2.1.2.2.2 f g a b c d, h.2, fun v v0 v1 => ?_⟩
  · have := h.1 v.toNat (by omega)
    rw [show ((v.toNat : Nat) : Int) = v by omega] at this
    exact this
  · have e := h37 v.toNat (by omega)
    unfold td at e
    rw [show ((v.toNat : Nat) : Int) = v by omega] at e
    change rd m 37 v = _ at e
    show isF (rd m 37 v) ∧ ∀ f, 0 ≤ f → f < 4 → ((BT M N c k).2.2.1 v f = true ↔ rd m 37 v = 9 ∨ rd m 37 v = f)
    rw [e]
    exact ⟨(li_f hI hN v0 v1 k0 k1).2, fun f _ _ => BT_al⟩
/-- the torn clauses weighed one by one -/
theorem L0_w28 {n : Nat} {M : Mem} (hI : Inv n M) {N c t : Nat} (hN : rd M 31 2 = (N : Int)) (h2 : 2 ≤ N) (h6 : N ≤ 6) (hT : TrC N c) {s : List Nat × Int} {kk : Int → Mem → Option Mem} : ∀ (d f j : Nat) (v : Int) (m : Mem), j + d = t → d < f → PRD M m N t → LST m N s → TRI m N c → v = PC M N c N + sm (fun i => CS (BT M N c (rd m 49 i))) j →
    ∃ m', (∀ k i, ¬ (36 ≤ k ∧ k ≤ 38) → ¬ (41 ≤ k ∧ k ≤ 43) → m' k i = m k i) ∧ ((L0_weigh_28 kk f v (j : Int) m = some m' ∧ s.1.length ≠ 0 ∧ s.2 < KS M N c) ∨ L0_weigh_28 kk f v (j : Int) m = kk (KS M N c) m') := by
  intro d
  induction d with
  | zero =>
    intro f j v m h0 h1 hp hl hr hv
    obtain ⟨f, rfl⟩ : ∃ i, f = i + 1 := ⟨f - 1, by omega⟩
    have ht := hp.2.2.2.2.2.1
    rw [L0_weigh_28, ht.1, if_pos (by omega)]
    refine ⟨m, fun _ _ _ _ => rfl, Or.inr ?_⟩
    rw [KS_e hI hN h2 h6 hT.2 ht, hv, show j = t by omega]
  | succ d ih =>
    intro f j v m h0 h1 hp hl hr hv
    obtain ⟨f, rfl⟩ : ∃ i, f = i + 1 := ⟨f - 1, by omega⟩
    have ht := hp.2.2.2.2.2.1
    have ha := hp.2.2.2.2.2.2
    have tl := TI_le ht
    have ke := KS_e hI hN h2 h6 hT.2 ht
    have lb := AL_lb hI hN h2 h6 hT ht ha (d + 1) j h0
    have ab := AL_b hI ha (d + 1) j h0
    have pb := PC_b hI N c N
    have tj := ht.2.2 j (by omega)
    have sb : 0 ≤ sm (fun i => CS (BT M N c (rd m 49 i))) j ∧ sm (fun i => CS (BT M N c (rd m 49 i))) j ≤ 13068 * (j : Int) := sm_b j (fun i hi => by
      have ti := ht.2.2 i (by omega)
      exact CS_b (BT_k hI hN h2 h6 hT.2 ti.1 (by omega)))
    have kj := BT_k hI hN h2 h6 hT.2 (k := rd m 49 (j : Int)) tj.1 (by omega)
    have cb := CS_b kj
    rw [L0_weigh_28, ht.1, if_neg (by omega), gd_t (by omega), w32_id (x := v + rd m 50 (j : Int)) (by omega) (by omega)]
    by_cases z : v + rd m 50 (j : Int) ≤ rd m 31 4
    · rw [if_pos z, gd_t (by omega)]
      obtain ⟨m1, x1, y1, z1⟩ := wc_e hI hN h6 hp.2.2.1 (k := rd m 49 (j : Int)) tj.1 (by omega)
      have hp1 := PRD_s hp (m' := m1) (fun k i _ _ _ a _ _ _ _ _ _ _ => y1 k i a)
      have hr1 := TRI_s hr (m' := m1) (fun i => rd_eq (y1 _ _ (by omega))) (fun i => rd_eq (y1 _ _ (by omega)))
      have td := TD_c hI hN hp1 hr1 tj.1 (by omega) z1
      obtain ⟨m2, x2, y2, _⟩ := least_e ⟨by omega, by omega⟩ kj td
      have fr : ∀ k i, ¬ (36 ≤ k ∧ k ≤ 38) → ¬ (41 ≤ k ∧ k ≤ 43) → m2 k i = m k i := fun k i a b => by rw [y2 k i (by omega) (by omega), y1 k i (by omega)]
      rw [x1, b1_v, x2, b2_v, w32_id (x := v + CS (BT M N c (rd m 49 (j : Int)))) (by omega) (by omega), w32_id (x := (j : Int) + 1) (by omega) (by omega), show (j : Int) + 1 = ((j + 1 : Nat) : Int) by omega]
      obtain ⟨m', p, q⟩ := ih f (j + 1) (v + CS (BT M N c (rd m 49 (j : Int)))) m2 (by omega) (by omega) (PRD_s hp (fun k i _ _ a b c' _ d' e' g' _ _ => fr k i (by omega) (by omega))) (LST_s hl (rd_eq (fr _ _ (by omega) (by omega))) (rd_eq (fr _ _ (by omega) (by omega))) (fun i => rd_eq (fr _ _ (by omega) (by omega))) (fun i => rd_eq (fr _ _ (by omega) (by omega)))) (TRI_s hr (fun i => rd_eq (fr _ _ (by omega) (by omega))) (fun i => rd_eq (fr _ _ (by omega) (by omega)))) (by
        have e : (fun i => CS (BT M N c (rd m2 49 i))) = fun i => CS (BT M N c (rd m 49 i)) := by
          funext i; rw [rd_eq (fr 49 i (by omega) (by omega))]
        rw [e, hv]
        show _ = _ + (sm (fun i => CS (BT M N c (rd m 49 i))) j + CS (BT M N c (rd m 49 (j : Int))))
        omega)
      exact ⟨m', fun k i a b => by rw [p k i a b]; exact fr k i a b, q⟩
    · rw [if_neg z]
      have l4 := hl.2.1
      refine ⟨m, fun _ _ _ _ => rfl, Or.inl ⟨rfl, ?_⟩⟩
      by_cases w : s.1.length = 0
      · rw [if_pos w] at l4; omega
      · rw [if_neg w] at l4
        exact ⟨w, by omega⟩
/-- the mothers seen: with the code's -/
theorem L0_w144 {N c : Nat} (h2 : 2 ≤ N) (h6 : N ≤ 6) (hc : c < 2147483648) : ∀ (d t j : Nat) (m : Mem), j + d = N → d < t → CP m N → (∀ i : Nat, j ≤ i → i < N → BM (rd m 46 (i : Int))) → ∃ m', L0_weigh_144 (c : Int) t (j : Int) m = some m' ∧ (∀ k i, ¬ (k = 46 ∧ (j : Int) ≤ i) → m' k i = m k i) ∧ ∀ i : Nat, j ≤ i → i < N → rd m' 46 (i : Int) = bor (rd m 46 (i : Int)) (shl 1 ((mo N c i : Nat) : Int)) := by
  intro d
  induction d with
  | zero =>
    intro t j m h0 h1 hp hb
    obtain ⟨t, rfl⟩ : ∃ i, t = i + 1 := ⟨t - 1, by omega⟩
    rw [L0_weigh_144, hp.1, if_pos (by omega)]
    exact ⟨m, rfl, fun _ _ _ => rfl, fun i a b => by omega⟩
  | succ d ih =>
    intro t j m h0 h1 hp hb
    obtain ⟨t, rfl⟩ : ∃ i, t = i + 1 := ⟨t - 1, by omega⟩
    have o := mo_r (N := N) (c := c) (p := j) h2
    have B := BM_or (hb j (Nat.le_refl _) (by omega)) (BM_shl (i := ((mo N c j : Nat) : Int)) (by omega) (by omega))
    rw [L0_weigh_144, hp.1, if_neg (by omega), gd_t (by omega), chosen_e hp (by omega) hc, b1_v, gd_t (by omega), stw_v, w32_id (x := (j : Int) + 1) (by omega) (by omega), show (j : Int) + 1 = ((j + 1 : Nat) : Int) by omega]
    obtain ⟨m', x, y, z⟩ := ih t (j + 1) (wr m 46 (j : Int) (bor (rd m 46 (j : Int)) (shl 1 ((mo N c j : Nat) : Int)))) (by omega) (by omega) (CP_s hp (rd_wr_k (by omega)) (fun i => rd_wr_k (by omega))) (fun i a b => by rw [rd_wr_i (by omega)]; exact hb i (by omega) b)
    refine ⟨m', x, fun k i a => by rw [y k i (by omega), wr_ki (by omega)], fun i a b => ?_⟩
    by_cases e : i = j
    · rw [e, rd_eq (y 46 (j : Int) (by omega)), rd_wr_s]
      exact w32_id (by have := B.1; omega) (by have := B.2; omega)
    · rw [z i (by omega) b, rd_wr_i (by omega)]
/-- the best codes as the class keeps them, with one more or from the start -/
theorem LST_add {m m1 m2 : Mem} {N c : Nat} {s : List Nat × Int} (h2 : 2 ≤ N) (h6 : N ≤ 6) (hc : c < 2147483648) (h3 : rd m 31 3 = (s.1.length : Int)) (h4 : rd m 31 4 = s.2) (h45 : ∀ i : Nat, i < s.1.length → rd m 45 (i : Int) = ((s.1.getD i 0 : Nat) : Int)) (h46 : ∀ p : Nat, p < N → BM (rd m 46 (p : Int)) ∧ ∀ d : Nat, d < 16 → (mb (rd m 46 (p : Int)) d = true ↔ ∃ x, x ∈ s.1 ∧ mo N x p = d)) (hs : s.1.length < 7776) (e1 : m1 = wr (wr m 45 (s.1.length : Int) (c : Int)) 31 3 ((s.1.length : Int) + 1)) (f2 : ∀ k i, ¬ (k = 46 ∧ ((0 : Nat) : Int) ≤ i) → m2 k i = m1 k i) (g2 : ∀ i : Nat, 0 ≤ i → i < N → rd m2 46 (i : Int) = bor (rd m1 46 (i : Int)) (shl 1 ((mo N c i : Nat) : Int))) : LST m2 N (s.1 ++ [c], s.2) := by
  have len : (s.1 ++ [c]).length = s.1.length + 1 := by rw [List.length_append]; rfl
  have e46 : ∀ i, rd m1 46 i = rd m 46 i := fun i => by rw [e1, rd_wr_k (by omega), rd_wr_k (by omega)]
  refine ⟨?_, ?_, fun i hi => ?_, fun _ p hp => ?_⟩
  · show rd m2 31 3 = ((s.1 ++ [c]).length : Int)
    rw [rd_eq (f2 _ _ (by omega)), e1, rd_wr_s, len, w32_id (by omega) (by omega)]; omega
  · show rd m2 31 4 = if (s.1 ++ [c]).length = 0 then 16777216 else s.2
    rw [len, if_neg (by omega), rd_eq (f2 _ _ (by omega)), e1, rd_wr_i (by omega), rd_wr_k (by omega)]; exact h4
  · change i < (s.1 ++ [c]).length at hi
    rw [len] at hi
    show rd m2 45 (i : Int) = (((s.1 ++ [c]).getD i 0 : Nat) : Int)
    rw [rd_eq (f2 _ _ (by omega)), e1, rd_wr_k (by omega), List.getD_eq_getElem?_getD]
    by_cases z : i < s.1.length
    · rw [rd_wr_i (by omega), List.getElem?_append_left z, ← List.getD_eq_getElem?_getD]; exact h45 i z
    · have : i = s.1.length := by omega
      rw [this, rd_wr_s, w32_id (by omega) (by omega), List.getElem?_append_right (Nat.le_refl _), Nat.sub_self]; rfl
  · have o := mo_r (N := N) (c := c) (p := p) h2
    obtain ⟨b1', b2'⟩ := h46 p hp
    rw [g2 p (by omega) hp, e46]
    refine ⟨BM_or b1' (BM_shl (by omega) (by omega)), fun d hd => ?_⟩
    rw [mb_or (by omega) hd]
    constructor
    · intro h
      by_cases z : d = mo N c p
      · exact ⟨c, List.mem_append_right _ List.mem_cons_self, z.symm⟩
      · rw [if_neg z] at h
        obtain ⟨x, x1, x2⟩ := (b2' d hd).mp h
        exact ⟨x, List.mem_append_left _ x1, x2⟩
    · rintro ⟨x, x1, x2⟩
      by_cases z : d = mo N c p
      · rw [if_pos z]
      · rw [if_neg z]
        rcases List.mem_append.mp x1 with y | y
        · exact (b2' d hd).mpr ⟨x, y, x2⟩
        · have : x = c := by simpa using y
          rw [this] at x2; exact absurd x2.symm z
theorem weigh_c {n : Nat} {M m : Mem} (hI : Inv n M) {N c t : Nat} (hN : rd M 31 2 = (N : Int)) (h2 : 2 ≤ N) (h6 : N ≤ 6) (hc : c < N ^ N) (hp : PRD M m N t) (hl : LST m N (bst M N c)) (hT : TrC N c) (h33 : ∀ j : Nat, j < N → rd m 33 (j : Int) = pmc N c (j : Int)) (h13 : rd m 31 13 = PC M N c N) : ∃ m', F0_weigh m (c : Int) = some m' ∧ PRD M m' N t ∧ LST m' N (bst M N (c + 1)) := by
  have cb : c < 2147483648 := by have := pw_b (N := N) (j := N) h6 h6; omega
  have ac := acy_c h2 h6 hT.2
  obtain ⟨m1, x1, o1, y1⟩ := arr_e (m := m) (o := 32) (N := (N : Int)) ⟨by omega, by omega⟩ ac hp.2.1 (fun v v0 v1 => by
    have := h33 v.toNat (by omega)
    rw [show ((v.toNat : Nat) : Int) = v by omega] at this
    exact this)
  have hp1 := PRD_s hp (m' := m1) (fun k i _ _ _ _ _ a _ _ _ _ _ => y1 k i a)
  have hl1 := LST_s hl (m' := m1) (rd_eq (y1 _ _ (by omega))) (rd_eq (y1 _ _ (by omega))) (fun i => rd_eq (y1 _ _ (by omega))) (fun i => rd_eq (y1 _ _ (by omega)))
  have hr1 : TRI m1 N c := ⟨fun j hj => by rw [rd_eq (y1 33 (j : Int) (by omega))]; exact h33 j hj, o1⟩
  have dy : ∀ v, 0 ≤ v → v < (N : Int) → rd M 84 (rd M 103 v) ≤ rd M 85 (rd M 103 v) ∧ 0 ≤ rd M 84 (rd M 103 v) ∧ rd M 84 (rd M 103 v) ≤ 999 := fun v v0 v1 => by
    have l := li_r hI hN v0 v1
    have ch := hI.1.2.2.2.1 _ l.2.1 l.2.2.1
    omega
  obtain ⟨r, m2, x2, y2, _, z2⟩ := firstLate_e (m := m1) (o := 32) (N := (N : Int)) (p := pmc N c) (a := fun v => rd M 84 (rd M 103 v)) (b := fun v => rd M 85 (rd M 103 v)) ⟨by omega, by omega⟩ ac (fun v v0 v1 => (dy v v0 v1).2) ⟨hp1.2.1, fun v v0 v1 => by
    have e := hr1.1 v.toNat (by omega)
    have e' := hp1.2.2.2.1 v.toNat (by omega)
    rw [show ((v.toNat : Nat) : Int) = v by omega] at e e'
    exact ⟨e, e'.1, e'.2⟩, o1⟩
  have hp2 := PRD_s hp1 (m' := m2) (fun k i _ _ a _ _ _ _ _ _ _ _ => y2 k i a)
  have hl2 := LST_s hl1 (m' := m2) (rd_eq (y2 _ _ (by omega))) (rd_eq (y2 _ _ (by omega))) (fun i => rd_eq (y2 _ _ (by omega))) (fun i => rd_eq (y2 _ _ (by omega)))
  have hr2 := TRI_s hr1 (m' := m2) (fun i => rd_eq (y2 _ _ (by omega))) (fun i => rd_eq (y2 _ _ (by omega)))
  unfold F0_weigh
  rw [x1, b2_v, if_neg (by omega), x2, b2_v]
  by_cases rr : r < 0
  · have vd : VD M N c := by
      rcases z2 with z2 | z2
      · exact z2.2
      · omega
    have vb : VB M N c = true := VB_e.mpr ⟨hT, vd⟩
    rw [if_pos rr, rd_eq (y2 31 13 (by omega)), rd_eq (y1 31 13 (by omega)), h13]
    have len := bst_l1 h2 h6 hc vb
    have kb : 0 ≤ KS M N c ∧ KS M N c ≤ 13068 * (16 : Nat) := sm_b 16 (fun k hk => CS_b (BT_k hI hN h2 h6 hT.2 (by omega) (by omega)))
    obtain ⟨m3, y3, h3⟩ := L0_w28 hI hN h2 h6 hT (s := bst M N c) (kk := fun (v2_78 : Int) (m_78 : Mem) => jn (fun (K104 : Mem → Option Mem) => if (rd m_78 31 4) ≤ v2_78 then K104 m_78 else stw m_78 31 4 v2_78 fun m88 => stw m88 31 3 0 fun m93 => b1 (FJ7_fill_53178 m93 46 6 0) fun m101 => K104 m101) (fun (m_104 : Mem) => if v2_78 ≠ (rd m_104 31 4) then some m_104 else if 7776 ≤ (rd m_104 31 3) then some m_104 else gd (0 ≤ rd m_104 31 3 ∧ rd m_104 31 3 < 7776) <| stw m_104 45 (rd m_104 31 3) (c : Int) fun m131 => stw m131 31 3 (w32 ((rd m131 31 3) + 1)) fun m139 => L0_weigh_144 (c : Int) FU 0 m139)) t FU 0 (PC M N c N) m2 (by omega) (by rw [FU_eq]; have := TI_le hp2.2.2.2.2.2.1; omega) hp2 hl2 hr2 (by show _ = _ + (0 : Int); omega)
    have hp3 := PRD_s hp2 (m' := m3) (fun k i _ _ a b c' _ d' e' g' _ _ => y3 k i (by omega) (by omega))
    have hl3 := LST_s hl2 (m' := m3) (rd_eq (y3 _ _ (by omega) (by omega))) (rd_eq (y3 _ _ (by omega) (by omega))) (fun i => rd_eq (y3 _ _ (by omega) (by omega))) (fun i => rd_eq (y3 _ _ (by omega) (by omega)))
    rcases h3 with ⟨h3, no1, no2⟩ | h3
    · refine ⟨m3, h3, hp3, ?_⟩
      have e : bst M N (c + 1) = bst M N c := bl_no (Or.inr ⟨no1, no2⟩)
      rw [e]; exact hl3
    · rw [show L0_weigh_28 _ FU (PC M N c N) (0 : Int) m2 = _ from h3]
      simp only [jn_v]
      obtain ⟨l3, l4, l45, l46⟩ := hl3
      have l3' := l3; have l4' := l4
      -- one more
      have more : ∀ (m : Mem) (s : List Nat × Int), PRD M m N t → rd m 31 3 = (s.1.length : Int) → rd m 31 4 = s.2 → s.2 = KS M N c → s.1.length < 7776 → (∀ i : Nat, i < s.1.length → rd m 45 (i : Int) = ((s.1.getD i 0 : Nat) : Int)) → (∀ p : Nat, p < N → BM (rd m 46 (p : Int)) ∧ ∀ d : Nat, d < 16 → (mb (rd m 46 (p : Int)) d = true ↔ ∃ x, x ∈ s.1 ∧ mo N x p = d)) → ∃ m', (if KS M N c ≠ (rd m 31 4) then some m else if 7776 ≤ (rd m 31 3) then some m else gd (0 ≤ rd m 31 3 ∧ rd m 31 3 < 7776) <| stw m 45 (rd m 31 3) (c : Int) fun m131 => stw m131 31 3 (w32 ((rd m131 31 3) + 1)) fun m139 => L0_weigh_144 (c : Int) FU 0 m139) = some m' ∧ PRD M m' N t ∧ LST m' N (s.1 ++ [c], s.2) := by
        intro m s hq k3 k4 ks kl k45 k46
        rw [k4, ks, if_neg (fun q => q rfl), k3, if_neg (by omega), gd_t (by omega), stw_v, stw_v, rd_wr_k (by omega), k3, w32_id (x := (s.1.length : Int) + 1) (by omega) (by omega)]
        obtain ⟨q, hq'⟩ : ∃ q, q = wr (wr m 45 (s.1.length : Int) (c : Int)) 31 3 ((s.1.length : Int) + 1) := ⟨_, rfl⟩
        rw [← hq']
        have qo : ∀ k i, k ≠ 45 → ¬ (k = 31 ∧ i = 3) → q k i = m k i := fun k i a b => by rw [hq', wr_ki b, wr_ki (by omega)]
        have hqq := PRD_s hq (m' := q) (fun k i a _ _ _ _ _ _ _ _ b _ => qo k i b (by omega))
        obtain ⟨m', x, y, z⟩ := L0_w144 h2 h6 cb N FU 0 q (by omega) (by rw [FU_eq]; omega) hqq.1 (fun i _ hi => by rw [rd_eq (qo _ _ (by omega) (by omega))]; exact (k46 i hi).1)
        exact ⟨m', x, PRD_s hqq (fun k i _ _ _ _ _ _ _ _ _ _ a => y k i (by omega)), by rw [← ks]; exact LST_add h2 h6 cb k3 k4 k45 k46 kl hq' y z⟩
      by_cases le : rd m3 31 4 ≤ KS M N c
      · rw [if_pos le]
        have ln : (bst M N c).1.length ≠ 0 := fun w => by rw [if_pos w] at l4; omega
        rw [if_neg ln] at l4
        by_cases eq : KS M N c = (bst M N c).2
        · obtain ⟨m', x, y, z⟩ := more m3 (bst M N c) hp3 l3 l4 eq.symm len l45 (l46 ln)
          refine ⟨m', x, y, ?_⟩
          have e : bst M N (c + 1) = ((bst M N c).1 ++ [c], (bst M N c).2) := bl_eq vb ln eq
          rw [e]; exact z
        · rw [if_pos (by omega)]
          refine ⟨m3, rfl, hp3, ?_⟩
          have e : bst M N (c + 1) = bst M N c := bl_no (Or.inr ⟨ln, by show (bst M N c).2 < _; omega⟩)
          rw [e]; exact ⟨l3', l4', l45, l46⟩
      · rw [if_neg le, stw_v, stw_v, fillI_e _ (by omega), b1_v]
        obtain ⟨q, hq⟩ : ∃ q, q = fil (wr (wr m3 31 4 (KS M N c)) 31 3 0) 46 0 ((6 : Nat) : Int) 0 := ⟨_, rfl⟩
        rw [← hq]
        have qo : ∀ k i, k ≠ 46 → ¬ (k = 31 ∧ (i = 3 ∨ i = 4)) → q k i = m3 k i := fun k i a b => by rw [hq, fil_k a, wr_ki (by omega), wr_ki (by omega)]
        have q3 : rd q 31 3 = 0 := by
          have : rd q 31 3 = rd (wr (wr m3 31 4 (KS M N c)) 31 3 0) 31 3 := rd_eq (by rw [hq, fil_k (by omega)])
          rw [this, rd_wr_s]; exact w32_id (by omega) (by omega)
        have q4 : rd q 31 4 = KS M N c := by
          have : rd q 31 4 = rd (wr (wr m3 31 4 (KS M N c)) 31 3 0) 31 4 := rd_eq (by rw [hq, fil_k (by omega)])
          rw [this, rd_wr_i (by omega), rd_wr_s]; exact w32_id (by omega) (by omega)
        have q46 : ∀ p : Nat, p < N → rd q 46 (p : Int) = 0 := fun p hp' => by
          unfold rd; rw [hq, fil_i (by omega) (by omega)]; exact w32_id (by omega) (by omega)
        obtain ⟨m', x, y, z⟩ := more q ([], KS M N c) (PRD_s hp3 (fun k i a _ _ _ _ _ _ _ _ _ b => qo k i b (by omega))) q3 q4 rfl (by show 0 < 7776; omega) (fun i hi => absurd hi (Nat.not_lt_zero i)) (fun p hp' => by
          rw [q46 p hp']
          refine ⟨⟨by omega, by omega⟩, fun d hd => ?_⟩
          rw [mb_00]
          exact ⟨fun h => (by cases h), fun ⟨x, h, _⟩ => (by cases h)⟩)
        refine ⟨m', x, y, ?_⟩
        have e : bst M N (c + 1) = ([c], KS M N c) := bl_new vb (by
          show (bst M N c).1.length = 0 ∨ KS M N c < (bst M N c).2
          by_cases w : (bst M N c).1.length = 0
          · exact Or.inl w
          · rw [if_neg w] at l4; exact Or.inr (by omega))
        rw [e]; exact z
  · rw [if_neg rr]
    refine ⟨m2, rfl, hp2, ?_⟩
    have e : bst M N (c + 1) = bst M N c := bl_no (Or.inl (VB_f (fun h => by
      rcases z2 with z2 | z2
      · omega
      · exact h.2 r z2.2.1 z2.2.2.1)))
    rw [e]; exact hl2
