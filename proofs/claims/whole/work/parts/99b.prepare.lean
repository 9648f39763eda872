/-! the bounds hold; the cost by weights and torn clauses; the making ready -/
theorem ite_cl {P : Prop} [Decidable P] {x y : Int} : @ite Int P (Classical.propDecidable _) x y = if P then x else y := by
  by_cases h : P
  · rw [if_pos h, if_pos h]
  · rw [if_neg h, if_neg h]
theorem s4_e (e : Int → Int) (P : Int → Prop) : s4 e P = 0 + @ite Int (P 0) (Classical.propDecidable _) (e 0) 0 + @ite Int (P 1) (Classical.propDecidable _) (e 1) 0 + @ite Int (P 2) (Classical.propDecidable _) (e 2) 0 + @ite Int (P 3) (Classical.propDecidable _) (e 3) 0 := rfl
def efn (M : Mem) (g : Int) : Int := if g = 0 then rd M 90 1 else min (rd M 90 0) (rd M 90 2)
theorem EV_lb {n : Nat} {M : Mem} (hI : Inv n M) {N c : Nat} (hN : rd M 31 2 = (N : Int)) (h2 : 2 ≤ N) (h6 : N ≤ 6) (hT : TrC N c) {k : Int} (k0 : 0 ≤ k) (k1 : k < 16) : EV M N k ≤ CS (BT M N c k) := by
  have hk := BT_k hI hN h2 h6 hT.2 k0 k1
  obtain ⟨r, r0, r1⟩ := VB_root (M := M) hT
  have c0 := co_r hI (k := 0) (by omega) (by omega)
  have c1 := co_r hI (k := 1) (by omega) (by omega)
  have c2 := co_r hI (k := 2) (by omega) (by omega)
  have e0 : efn M 0 = rd M 90 1 := if_pos rfl
  have e1 : ∀ g, g ≠ 0 → efn M g = min (rd M 90 0) (rd M 90 2) := fun g h => if_neg h
  have lb := CS_lb (e := efn M) (P := fun g => fpB M k g N = true) (r := (r : Int)) (mx := max (if fpB M k 0 N = true then rd M 90 1 else 0) (if (fpB M k 1 N || fpB M k 2 N || fpB M k 3 N) = true then min (rd M 90 0) (rd M 90 2) else 0)) hk (fun g g0 g1 => by
    by_cases z : g = 0
    · rw [z, e0]; omega
    · rw [e1 g z]; omega) (fun f g f0 f1 g0 g1 h => by
    show efn M g ≤ stp (rd M 90 0) (rd M 90 1) (rd M 90 2) f g
    unfold stp
    rw [if_neg h]
    by_cases z : g = 0
    · rw [z, e0, if_neg (by omega), if_pos rfl]; exact Int.le_refl _
    · rw [e1 g z, if_neg z]
      split <;> omega) (fun v => r1 v) (fun g g0 g1 h => by
    obtain ⟨i, i0, i1⟩ := (fpB_e N).mp h
    refine ⟨(i : Int), BT_in.mpr ⟨by omega, by omega⟩, fun x x0 x1 y => ?_⟩
    have := BT_al.mp y
    omega) (by split <;> split <;> omega) (fun g g0 g1 h => by
    try dsimp only at h
    rcases four g0 g1 with rfl | rfl | rfl | rfl
    · rw [e0, if_pos h]; omega
    · rw [e1 _ (by omega), h, Bool.true_or, Bool.true_or, if_pos rfl]; omega
    · rw [e1 _ (by omega), h, Bool.or_true, Bool.true_or, if_pos rfl]; omega
    · rw [e1 _ (by omega), h, Bool.or_true, if_pos rfl]; omega)
  rw [s4_e, ite_cl, ite_cl, ite_cl, ite_cl, e0, e1 1 (by omega), e1 2 (by omega), e1 3 (by omega)] at lb
  unfold EV EVx
  omega
/-- a clause of one form at most costs nothing -/
theorem CS_0 {n : Nat} {M : Mem} (hI : Inv n M) {N c : Nat} (hN : rd M 31 2 = (N : Int)) (h2 : 2 ≤ N) (h6 : N ≤ 6) (hT : Rk (mo N c) N) {k : Int} (k0 : 0 ≤ k) (k1 : k < 16) (h : KD M N k = 0) : CS (BT M N c k) = 0 := by
  have hk := BT_k hI hN h2 h6 hT k0 k1
  have h' : n4 (fpB M k 0 N) (fpB M k 1 N) (fpB M k 2 N) (fpB M k 3 N) < 2 := by
    apply Classical.byContradiction
    intro z
    unfold KD at h
    rw [if_neg z] at h
    split at h <;> omega
  obtain ⟨f, hf⟩ := n4_one _ _ _ _ h'
  have fl := f.isLt
  refine CS_zero (f := ((f : Nat) : Int)) hk (by omega) (by omega) (fun v hv => ?_) (by show stp _ _ _ _ _ = 0; unfold stp; rw [if_pos rfl])
  have vr := BT_in.mp hv
  refine BT_al.mpr ?_
  rcases (li_f hI hN vr.1 vr.2 k0 k1).2 with ⟨x, y⟩ | x
  · right
    obtain ⟨g, hg⟩ : ∃ g : Fin 4, ((g : Nat) : Int) = rd M 89 (16 * rd M 103 v + k) := ⟨⟨(rd M 89 (16 * rd M 103 v + k)).toNat, by omega⟩, by dsimp only; omega⟩
    have fp : fpB M k ((g : Nat) : Int) N = true := (fpB_e N).mpr ⟨v.toNat, by omega, by rw [show ((v.toNat : Nat) : Int) = v by omega]; exact hg.symm⟩
    have gp : pat (fpB M k 0 N) (fpB M k 1 N) (fpB M k 2 N) (fpB M k 3 N) ((g : Nat) : Int) = true := by
      have gl := g.isLt
      rcases four (g := ((g : Nat) : Int)) (by omega) (by omega) with e | e | e | e <;> rw [e] at fp ⊢ <;> exact fp
    rw [← hg, hf g gp]
  · exact Or.inl x
/-- the weights along a code's ways, of the places below p -/
def PC (M : Mem) (N c p : Nat) : Int := sm (fun d => if mo N c d.toNat = 9 then 0 else Wt M N 16 (mo N c d.toNat) d.toNat) p
theorem PC_1 (M : Mem) (N c p : Nat) : PC M N c (p + 1) = PC M N c p + if mo N c p = 9 then 0 else Wt M N 16 (mo N c p) p := rfl
theorem PC_b {n : Nat} {M : Mem} (hI : Inv n M) (N c p : Nat) : 0 ≤ PC M N c p ∧ PC M N c p ≤ 1584 * p := sm_b p (fun d _ => by
  have := Wt_b hI N 16 (mo N c (d : Int).toNat) (d : Int).toNat
  split <;> omega)
theorem PC_le {n : Nat} {M : Mem} (hI : Inv n M) (N c p : Nat) : ∀ d, PC M N c p ≤ PC M N c (p + d)
  | 0 => Int.le_refl _
  | d + 1 => by
    have := PC_le hI N c p d
    have w := Wt_b hI N 16 (mo N c (p + d)) (p + d)
    rw [← Nat.add_assoc, PC_1]
    split <;> omega
theorem PC_pre {M : Mem} {N c c' : Nat} (p : Nat) : (∀ j, j < p → mo N c j = mo N c' j) → PC M N c p = PC M N c' p := by
  induction p with
  | zero => intro _; exact Eq.trans (b := 0) rfl rfl
  | succ p ih =>
    intro h
    rw [PC_1, PC_1, ih (fun j x => h j (by omega)), h p (by omega)]
theorem KS_e {n : Nat} {M m : Mem} (hI : Inv n M) {N c t : Nat} (hN : rd M 31 2 = (N : Int)) (h2 : 2 ≤ N) (h6 : N ≤ 6) (hT : Rk (mo N c) N) (ht : TI M m N 16 t) : KS M N c = PC M N c N + sm (fun i => CS (BT M N c (rd m 49 i))) t := by
  have e1 : KS M N c = sm (fun k => if KD M N k = 2 then CS (BT M N c k) else 0) 16 + sm (fun k => if KD M N k = 1 then CS (BT M N c k) else 0) 16 := by
    rw [← sm_plus]
    refine sm_c 16 (fun k hk => ?_)
    have kd : KD M N (k : Int) = 0 ∨ KD M N (k : Int) = 1 ∨ KD M N (k : Int) = 2 := by unfold KD; repeat' split <;> omega
    rcases kd with z | z | z
    · rw [z, if_neg (by omega), if_neg (by omega), CS_0 hI hN h2 h6 hT (by omega) (by omega) z]; rfl
    · rw [z, if_neg (by omega), if_pos rfl]; omega
    · rw [z, if_pos rfl, if_neg (by omega)]; omega
  rw [e1, ht.2.1 (fun k => CS (BT M N c k))]
  congr 1
  have e2 : sm (fun k => if KD M N k = 2 then CS (BT M N c k) else 0) 16 = sm (fun k => sm (fun d => if KD M N k = 2 then (if 0 ≤ pmc N c d then pq M (rd M 89 (16 * rd M 103 (pmc N c d) + k)) (rd M 89 (16 * rd M 103 d + k)) else 0) else 0) N) 16 := by
    refine sm_c 16 (fun k hk => ?_)
    by_cases z : KD M N (k : Int) = 2
    · simp only [if_pos z]
      have tk := BT_k hI hN h2 h6 hT (k := (k : Int)) (by omega) (by omega)
      rw [CS_plain (F := fun v => rd M 89 (16 * rd M 103 v + (k : Int))) tk (fun v hv => by
        have vr := BT_in.mp hv
        have := KD_2 hI hN (k := (k : Int)) (by omega) (by omega) z (i := v.toNat) (by omega)
        unfold td at this
        rw [show ((v.toNat : Nat) : Int) = v by omega] at this
        refine ⟨this.1, this.2, fun g g0 g1 => ?_⟩
        rw [BT_al]
        try dsimp only
        omega)]
      have e3 : sm (fun d => if (BT M N c (k : Int)).1 d = true ∧ 0 ≤ (BT M N c (k : Int)).2.1 d then (BT M N c (k : Int)).2.2.2 (rd M 89 (16 * rd M 103 ((BT M N c (k : Int)).2.1 d) + (k : Int))) (rd M 89 (16 * rd M 103 d + (k : Int))) else 0) 12 = sm (fun d => if inN (N : Int) d = true then (if 0 ≤ pmc N c d then pq M (rd M 89 (16 * rd M 103 (pmc N c d) + (k : Int))) (rd M 89 (16 * rd M 103 d + (k : Int))) else 0) else 0) 12 := sm_c 12 (fun i _ => ite_and)
      rw [e3, sm_inN (by omega)]
    · simp only [if_neg z]
      exact (sm_0 N (fun _ _ => rfl)).symm
  rw [e2, sm_swap]
  refine sm_c N (fun d hd => ?_)
  have dt : ((d : Nat) : Int).toNat = d := by omega
  rw [dt]
  by_cases z : mo N c d = 9
  · rw [if_pos z]
    refine sm_0 16 (fun k _ => ?_)
    have : pmc N c (d : Int) = -1 := by rw [pmc_n, if_pos z]
    rw [this, if_neg (show ¬ (0 : Int) ≤ -1 by omega)]
    split <;> rfl
  · rw [if_neg z]
    unfold Wt
    refine sm_c 16 (fun k _ => ?_)
    have : pmc N c (d : Int) = ((mo N c d : Nat) : Int) := by rw [pmc_n, if_neg z]
    rw [this, if_pos (show (0 : Int) ≤ ((mo N c d : Nat) : Int) by omega)]
    rfl
def AL (M m : Mem) (N t : Nat) : Prop := rd m 50 (t : Int) = 0 ∧ ∀ j : Nat, j < t → rd m 50 (j : Int) = rd m 50 ((j : Int) + 1) + EV M N (rd m 49 (j : Int))
theorem AL_b {n : Nat} {M m : Mem} (hI : Inv n M) {N t : Nat} (h : AL M m N t) : ∀ (d j : Nat), j + d = t → 0 ≤ rd m 50 (j : Int) ∧ rd m 50 (j : Int) ≤ 396 * (d : Int)
  | 0, j, e => by rw [show j = t by omega, h.1]; omega
  | d + 1, j, e => by
    have ih := AL_b hI h d (j + 1) (by omega)
    have b := EVx_b (fpB M (rd m 49 (j : Int)) 0 N) (fpB M (rd m 49 (j : Int)) 1 N) (fpB M (rd m 49 (j : Int)) 2 N) (fpB M (rd m 49 (j : Int)) 3 N) (co_r hI (k := 1) (by omega) (by omega)).2 (q := min (rd M 90 0) (rd M 90 2)) (by
      have c0 := co_r hI (k := 0) (by omega) (by omega)
      have c2 := co_r hI (k := 2) (by omega) (by omega)
      omega)
    have e1 : EV M N (rd m 49 (j : Int)) = EVx (fpB M (rd m 49 (j : Int)) 0 N) (fpB M (rd m 49 (j : Int)) 1 N) (fpB M (rd m 49 (j : Int)) 2 N) (fpB M (rd m 49 (j : Int)) 3 N) (rd M 90 1) (min (rd M 90 0) (rd M 90 2)) := rfl
    rw [show ((j + 1 : Nat) : Int) = (j : Int) + 1 by omega] at ih
    rw [h.2 j (by omega), e1]
    omega
theorem AL_lb {n : Nat} {M m : Mem} (hI : Inv n M) {N c t : Nat} (hN : rd M 31 2 = (N : Int)) (h2 : 2 ≤ N) (h6 : N ≤ 6) (hT : TrC N c) (ht : TI M m N 16 t) (h : AL M m N t) : ∀ (d j : Nat), j + d = t → sm (fun i => CS (BT M N c (rd m 49 i))) j + rd m 50 (j : Int) ≤ sm (fun i => CS (BT M N c (rd m 49 i))) t
  | 0, j, e => by rw [show j = t by omega, h.1]; omega
  | d + 1, j, e => by
    have ih := AL_lb hI hN h2 h6 hT ht h d (j + 1) (by omega)
    have r := ht.2.2 j (by omega)
    have lb := EV_lb hI hN h2 h6 hT (k := rd m 49 (j : Int)) r.1 (by omega)
    have e1 : sm (fun i => CS (BT M N c (rd m 49 i))) (j + 1) = sm (fun i => CS (BT M N c (rd m 49 i))) j + CS (BT M N c (rd m 49 (j : Int))) := rfl
    rw [e1, show ((j + 1 : Nat) : Int) = (j : Int) + 1 by omega] at ih
    rw [h.2 j (by omega)]
    omega
/-- all stands ready -/
def PRD (M m : Mem) (N t : Nat) : Prop := CP m N ∧ rd m 32 0 = (N : Int) ∧ HM M m N ∧ (∀ i : Nat, i < N → rd m 34 (i : Int) = rd M 84 (rd M 103 (i : Int)) ∧ rd m 35 (i : Int) = rd M 85 (rd M 103 (i : Int))) ∧ W0 M m N 16 ∧ TI M m N 16 t ∧ AL M m N t
theorem L0_p19 {N : Nat} (h2 : 2 ≤ N) (h6 : N ≤ 6) {kk : Mem → Option Mem} : ∀ (d t : Nat) (v : Int) (m : Mem), (d : Int) = v + 1 → v + 1 < N → d < t → rd m 31 2 = (N : Int) → (∀ p : Nat, v < p → p < N → rd m 47 (p : Int) = ((N ^ (N - 1 - p) : Nat) : Int)) → ∃ m', L0_prepare_19 kk t v m = kk m' ∧ (∀ k i, k ≠ 47 → m' k i = m k i) ∧ ∀ p : Nat, p < N → rd m' 47 (p : Int) = ((N ^ (N - 1 - p) : Nat) : Int) := by
  intro d
  induction d with
  | zero =>
    intro t v m h0 h1 h3 a2 hp
    obtain ⟨t, rfl⟩ : ∃ i, t = i + 1 := ⟨t - 1, by omega⟩
    rw [L0_prepare_19, if_pos (by omega)]
    exact ⟨m, rfl, fun _ _ _ => rfl, fun p x => hp p (by omega) x⟩
  | succ d ih =>
    intro t v m h0 h1 h3 a2 hp
    obtain ⟨t, rfl⟩ : ∃ i, t = i + 1 := ⟨t - 1, by omega⟩
    have p1 := hp (d + 1) (by omega) (by omega)
    rw [show ((d + 1 : Nat) : Int) = v + 1 by omega] at p1
    have e : ((N ^ (N - 1 - (d + 1)) : Nat) : Int) * (N : Int) = ((N ^ (N - 1 - d) : Nat) : Int) := by
      rw [← Int.natCast_mul, ← Nat.pow_succ, show (N - 1 - (d + 1)).succ = N - 1 - d by omega]
    have b := pw_b (N := N) (j := N - 1 - d) h6 (by omega)
    rw [L0_prepare_19, if_neg (by omega), w32_id (x := v + 1) (by omega) (by omega), gd_t (by omega), gd_t (by omega), stw_v, p1, a2, e, w32_id (x := ((N ^ (N - 1 - d) : Nat) : Int)) (by omega) (by omega), w32_id (x := v + -1) (by omega) (by omega)]
    obtain ⟨m', x, y, z⟩ := ih t (v + -1) (wr m 47 v ((N ^ (N - 1 - d) : Nat) : Int)) (by omega) (by omega) (by omega) (by rw [rd_wr_k (by omega)]; exact a2) (fun p q r => by
      by_cases w : (p : Int) = v
      · rw [w, rd_wr_s, w32_id (by omega) (by omega), show p = d by omega]
      · rw [rd_wr_i w]; exact hp p (by omega) r)
    exact ⟨m', x, fun k i w => by rw [y k i w, wr_ki (by omega)], z⟩
theorem L0_p72 {n : Nat} {M : Mem} (hI : Inv n M) {N : Nat} (hN : rd M 31 2 = (N : Int)) (h6 : N ≤ 6) {kk : Mem → Option Mem} : ∀ (d t j : Nat) (m : Mem), j + d = N → d < t → rd m 31 2 = (N : Int) → (∀ i, rd m 44 i = rd M 44 i) → (∀ i, rd m 5 i = rd M 5 i) → (∀ i, rd m 6 i = rd M 6 i) → (∀ i : Nat, i < j → rd m 34 (i : Int) = rd M 84 (rd M 103 (i : Int)) ∧ rd m 35 (i : Int) = rd M 85 (rd M 103 (i : Int))) → ∃ m', L0_prepare_72 kk t (j : Int) m = kk m' ∧ (∀ k i, k ≠ 34 → k ≠ 35 → m' k i = m k i) ∧ ∀ i : Nat, i < N → rd m' 34 (i : Int) = rd M 84 (rd M 103 (i : Int)) ∧ rd m' 35 (i : Int) = rd M 85 (rd M 103 (i : Int)) := by
  intro d
  induction d with
  | zero =>
    intro t j m h0 h1 a2 a44 a5 a6 h
    obtain ⟨t, rfl⟩ : ∃ i, t = i + 1 := ⟨t - 1, by omega⟩
    rw [L0_prepare_72, a2, if_pos (by omega)]
    exact ⟨m, rfl, fun _ _ _ _ => rfl, fun i x => h i (by omega)⟩
  | succ d ih =>
    intro t j m h0 h1 a2 a44 a5 a6 h
    obtain ⟨t, rfl⟩ : ∃ i, t = i + 1 := ⟨t - 1, by omega⟩
    have l := li_r hI hN (v := (j : Int)) (by omega) (by omega)
    have ch := hI.1.2.2.2.1 _ l.2.1 l.2.2.1
    rw [L0_prepare_72, a2, if_neg (by omega), gd_t (by omega), a44, l.1, gd_t (by omega), gd_t (by omega), stw_v, gd_t (by omega), rd_wr_k (by omega), a44, l.1, gd_t (by omega), gd_t (by omega), stw_v, rd_wr_k (by omega), a5, a6, ch.1, ch.2.1, w32_id (x := (j : Int) + 1) (by omega) (by omega), show (j : Int) + 1 = ((j + 1 : Nat) : Int) by omega]
    obtain ⟨q, hq⟩ : ∃ q, q = wr (wr m 34 (j : Int) (rd M 84 (rd M 103 (j : Int)))) 35 (j : Int) (rd M 85 (rd M 103 (j : Int))) := ⟨_, rfl⟩
    rw [← hq]
    have qo : ∀ k i, k ≠ 34 → k ≠ 35 → q k i = m k i := fun k i a b => by rw [hq, wr_ki (by omega), wr_ki (by omega)]
    obtain ⟨m', x, y, z⟩ := ih t (j + 1) q (by omega) (by omega) (by rw [rd_eq (qo _ _ (by omega) (by omega))]; exact a2) (fun i => by rw [rd_eq (qo _ _ (by omega) (by omega))]; exact a44 i) (fun i => by rw [rd_eq (qo _ _ (by omega) (by omega))]; exact a5 i) (fun i => by rw [rd_eq (qo _ _ (by omega) (by omega))]; exact a6 i) (fun i hi => by
      rw [hq]
      have b1' := rd_in M 84 (rd M 103 (j : Int)); have b2' := rd_in M 85 (rd M 103 (j : Int))
      by_cases w : i = j
      · rw [w, rd_wr_k (by omega), rd_wr_s, rd_wr_s]; exact ⟨w32_id b1'.1 b1'.2, w32_id b2'.1 b2'.2⟩
      · rw [rd_wr_k (by omega), rd_wr_i (by omega), rd_wr_i (by omega)]; exact h i (by omega))
    exact ⟨m', x, fun k i a b => by rw [y k i a b]; exact qo k i a b, z⟩
theorem L0_p147 {n : Nat} {M : Mem} (hI : Inv n M) {N : Nat} (hN : rd M 31 2 = (N : Int)) (h6 : N ≤ 6) {kk : Mem → Option Mem} : ∀ (d t k u : Nat) (m : Mem), k + d = 16 → d < t → HM M m N → W0 M m N k → TI M m N k u → ∃ m' u', L0_prepare_147 kk t (k : Int) m = kk m' ∧ (∀ k i, k ≠ 48 → k ≠ 49 → ¬ (k = 31 ∧ i = 12) → m' k i = m k i) ∧ W0 M m' N 16 ∧ TI M m' N 16 u' := by
  intro d
  induction d with
  | zero =>
    intro t k u m h0 h1 hm hw hu
    obtain ⟨t, rfl⟩ : ∃ i, t = i + 1 := ⟨t - 1, by omega⟩
    rw [L0_prepare_147, if_pos (by omega)]
    rw [show k = 16 by omega] at hw hu
    exact ⟨m, u, rfl, fun _ _ _ _ _ => rfl, hw, hu⟩
  | succ d ih =>
    intro t k u m h0 h1 hm hw hu
    obtain ⟨t, rfl⟩ : ∃ i, t = i + 1 := ⟨t - 1, by omega⟩
    obtain ⟨m1, u1, x, y, z, w⟩ := sort_e hI hN h6 (show k < 16 by omega) hm hw hu
    rw [L0_prepare_147, if_neg (by omega), x, b1_v, w32_id (x := (k : Int) + 1) (by omega) (by omega), show (k : Int) + 1 = ((k + 1 : Nat) : Int) by omega]
    obtain ⟨m', u', p, q, r, s⟩ := ih t (k + 1) u1 m1 (by omega) (by omega) (HM_s hm (rd_eq (y _ _ (by omega) (by omega) (by omega))) (fun i => rd_eq (y _ _ (by omega) (by omega) (by omega))) (fun i => rd_eq (y _ _ (by omega) (by omega) (by omega))) (fun i => rd_eq (y _ _ (by omega) (by omega) (by omega)))) z w
    exact ⟨m', u', p, fun k i a b c => by rw [q k i a b c]; exact y k i a b c, r, s⟩
theorem L0_p181 {n : Nat} {M : Mem} (hI : Inv n M) {N u : Nat} (hN : rd M 31 2 = (N : Int)) (h6 : N ≤ 6) : ∀ (d t : Nat) (v : Int) (m : Mem), (d : Int) = v + 1 → v < u → d < t → HM M m N → TI M m N 16 u → rd m 50 (u : Int) = 0 → (∀ j : Nat, v < j → j < u → rd m 50 (j : Int) = rd m 50 ((j : Int) + 1) + EV M N (rd m 49 (j : Int))) → (∀ j : Nat, v < j → j ≤ u → 0 ≤ rd m 50 (j : Int) ∧ rd m 50 (j : Int) ≤ 396 * ((u : Int) - j)) → ∃ m', L0_prepare_181 t v m = some m' ∧ (∀ k i, k ≠ 50 → m' k i = m k i) ∧ AL M m' N u := by
  intro d
  induction d with
  | zero =>
    intro t v m h0 h1 h3 hm hu hz hl hb
    obtain ⟨t, rfl⟩ : ∃ i, t = i + 1 := ⟨t - 1, by omega⟩
    rw [L0_prepare_181, if_pos (by omega)]
    exact ⟨m, rfl, fun _ _ _ => rfl, hz, fun j x => hl j (by omega) x⟩
  | succ d ih =>
    intro t v m h0 h1 h3 hm hu hz hl hb
    obtain ⟨t, rfl⟩ : ∃ i, t = i + 1 := ⟨t - 1, by omega⟩
    have ul := TI_le hu
    have ud := hu.2.2 d (by omega)
    have bb := hb (d + 1) (by omega) (by omega)
    rw [show ((d + 1 : Nat) : Int) = v + 1 by omega] at bb
    rw [show ((d : Nat) : Int) = v by omega] at ud
    have ev := EVx_b (fpB M (rd m 49 v) 0 N) (fpB M (rd m 49 v) 1 N) (fpB M (rd m 49 v) 2 N) (fpB M (rd m 49 v) 3 N) (co_r hI (k := 1) (by omega) (by omega)).2 (q := min (rd M 90 0) (rd M 90 2)) (by
      have c0 := co_r hI (k := 0) (by omega) (by omega)
      have c2 := co_r hI (k := 2) (by omega) (by omega)
      omega)
    change 0 ≤ EV M N (rd m 49 v) ∧ EV M N (rd m 49 v) ≤ 396 at ev
    rw [L0_prepare_181, if_neg (by omega), w32_id (x := v + 1) (by omega) (by omega), gd_t (by omega), gd_t (by omega), tf_m hI hN hm.1 hm.2.1 hm.2.2.1 ud.1 (by omega), b1_v, ent_e hI hm.2.2.1, b1_v, gd_t (by omega), stw_v, w32_id (x := rd m 50 (v + 1) + EV M N (rd m 49 v)) (by omega) (by omega), w32_id (x := v + -1) (by omega) (by omega)]
    obtain ⟨q, hq⟩ : ∃ q, q = wr m 50 v (rd m 50 (v + 1) + EV M N (rd m 49 v)) := ⟨_, rfl⟩
    rw [← hq]
    have qo : ∀ k i, ¬ (k = 50 ∧ i = v) → q k i = m k i := fun k i a => by rw [hq, wr_ki (by omega)]
    have qv : rd q 50 v = rd m 50 (v + 1) + EV M N (rd m 49 v) := by rw [hq, rd_wr_s]; exact w32_id (by omega) (by omega)
    obtain ⟨m', x, y, z⟩ := ih t (v + -1) q (by omega) (by omega) (by omega) (HM_s hm (rd_eq (qo _ _ (by omega))) (fun i => rd_eq (qo _ _ (by omega))) (fun i => rd_eq (qo _ _ (by omega))) (fun i => rd_eq (qo _ _ (by omega)))) (TI_s hu (rd_eq (qo _ _ (by omega))) (fun i => rd_eq (qo _ _ (by omega)))) (by rw [rd_eq (qo _ _ (by omega))]; exact hz) (fun j a b => by
      by_cases w : (j : Int) = v
      · rw [w, qv, rd_eq (qo 50 (v + 1) (by omega)), rd_eq (qo 49 v (by omega))]
      · rw [rd_eq (qo 50 (j : Int) (by omega)), rd_eq (qo 50 ((j : Int) + 1) (by omega)), rd_eq (qo 49 (j : Int) (by omega))]; exact hl j (by omega) b) (fun j a b => by
      by_cases w : (j : Int) = v
      · rw [w, qv]; omega
      · rw [rd_eq (qo 50 (j : Int) (by omega))]; exact hb j (by omega) b)
    exact ⟨m', x, fun k i w => by rw [y k i w]; exact qo k i (by omega), z⟩
theorem prep_e {n : Nat} {M m : Mem} (hI : Inv n M) {N : Nat} (hN : rd M 31 2 = (N : Int)) (h2 : 2 ≤ N) (h6 : N ≤ 6) (hm : ∀ k i, k ≠ 31 → m k i = M k i) (hm2 : rd m 31 2 = (N : Int)) : ∃ m' t, F0_prepare m = some m' ∧ PRD M m' N t := by
  unfold F0_prepare
  rw [hm2, w32_id (x := (N : Int) - 1) (by omega) (by omega), gd_t (by omega), stw_v, rd_wr_k (by omega), hm2, w32_id (x := (N : Int) - 2) (by omega) (by omega)]
  obtain ⟨q, hq⟩ : ∃ q, q = wr m 47 ((N : Int) - 1) 1 := ⟨_, rfl⟩
  rw [← hq]
  have qo : ∀ k i, k ≠ 47 → q k i = m k i := fun k i a => by rw [hq, wr_ki (by omega)]
  obtain ⟨m1, x1, y1, z1⟩ := L0_p19 (N := N) h2 h6 (kk := fun (m_48 : Mem) => stw m_48 32 0 (rd m_48 31 2) fun m56 => b1 (F9_takeCosts m56 32) fun m67 => L0_prepare_72 (fun (m_132 : Mem) => b1 (FJ7_fill_53178 m_132 48 36 0) fun m137 => stw m137 31 12 0 fun m142 => L0_prepare_147 (fun (m_164 : Mem) => gd (0 ≤ rd m_164 31 12 ∧ rd m_164 31 12 < 17) <| stw m_164 50 (rd m_164 31 12) 0 fun m173 => L0_prepare_181 FU (w32 ((rd m173 31 12) - 1)) m173) FU 0 m142) FU 0 m67) (N - 1) FU ((N : Int) - 2) q (by omega) (by omega) (by rw [FU_eq]; omega) (by rw [rd_eq (qo _ _ (by omega))]; exact hm2) (fun p a b => by
    rw [hq, show (p : Int) = (N : Int) - 1 by omega, rd_wr_s, show N - 1 - p = 0 by omega]; rfl)
  rw [x1]
  try dsimp only
  have a2 : rd m1 31 2 = (N : Int) := by rw [rd_eq (y1 _ _ (by omega)), rd_eq (qo _ _ (by omega))]; exact hm2
  have am : ∀ k i, k ≠ 31 → k ≠ 47 → m1 k i = M k i := fun k i a b => by rw [y1 k i b, qo k i b, hm k i a]
  rw [stw_v, a2]
  obtain ⟨p, hp⟩ : ∃ p, p = wr m1 32 0 (N : Int) := ⟨_, rfl⟩
  rw [← hp]
  have po : ∀ k i, k ≠ 32 → p k i = m1 k i := fun k i a => by rw [hp, wr_ki (by omega)]
  obtain ⟨m2, x2, y2, z2⟩ := price_e (m := p) (o := 32) (by omega)
  rw [x2, b1_v]
  have e9 : ∀ i, rd p 9 i = rd M 9 i := fun i => rd_eq (by rw [po 9 i (by omega), am 9 i (by omega) (by omega)])
  have c0 := co_r hI (k := 0) (by omega) (by omega)
  have c1 := co_r hI (k := 1) (by omega) (by omega)
  have c2 := co_r hI (k := 2) (by omega) (by omega)
  have z2' : ∀ f g, 0 ≤ f → f < 4 → 0 ≤ g → g < 4 → rd m2 40 (4 * f + g) = pq M f g := fun f g a b c d => by
    rw [z2 f g a b c d, e9, e9, e9, show (192 : Int) = 192 + 0 from rfl, show (193 : Int) = 192 + 1 from rfl, show (194 : Int) = 192 + 2 from rfl, c0.1, c1.1, c2.1]; rfl
  have am2 : ∀ k i, k ≠ 31 → k ≠ 47 → k ≠ 32 → k ≠ 40 → m2 k i = M k i := fun k i a b c d => by rw [y2 k i d, po k i c, am k i a b]
  have a22 : rd m2 31 2 = (N : Int) := by rw [rd_eq (y2 _ _ (by omega)), rd_eq (po _ _ (by omega))]; exact a2
  obtain ⟨m3, x3, y3, z3⟩ := L0_p72 hI hN h6 (kk := fun (m_132 : Mem) => b1 (FJ7_fill_53178 m_132 48 36 0) fun m137 => stw m137 31 12 0 fun m142 => L0_prepare_147 (fun (m_164 : Mem) => gd (0 ≤ rd m_164 31 12 ∧ rd m_164 31 12 < 17) <| stw m_164 50 (rd m_164 31 12) 0 fun m173 => L0_prepare_181 FU (w32 ((rd m173 31 12) - 1)) m173) FU 0 m142) N FU 0 m2 (by omega) (by rw [FU_eq]; omega) a22 (fun i => rd_eq (am2 _ _ (by omega) (by omega) (by omega) (by omega))) (fun i => rd_eq (am2 _ _ (by omega) (by omega) (by omega) (by omega))) (fun i => rd_eq (am2 _ _ (by omega) (by omega) (by omega) (by omega))) (fun i hi => by omega)
  rw [show L0_prepare_72 _ FU (0 : Int) m2 = _ from x3]
  try dsimp only
  rw [fillI_e _ (by omega), b1_v, stw_v]
  obtain ⟨w, hw⟩ : ∃ w, w = wr (fil m3 48 0 36 0) 31 12 0 := ⟨_, rfl⟩
  rw [show ((36 : Nat) : Int) = 36 from rfl, ← hw]
  have wo : ∀ k i, k ≠ 48 → ¬ (k = 31 ∧ i = 12) → w k i = m3 k i := fun k i a b => by rw [hw, wr_ki b, fil_k a]
  have hmw : HM M w N := by
    refine ⟨?_, fun i => ?_, fun i => ?_, fun f g a b c d => ?_⟩
    · rw [rd_eq (wo _ _ (by omega) (by omega)), rd_eq (y3 _ _ (by omega) (by omega))]; exact a22
    · exact rd_eq (by rw [wo _ _ (by omega) (by omega), y3 _ _ (by omega) (by omega), am2 _ _ (by omega) (by omega) (by omega) (by omega)])
    · exact rd_eq (by rw [wo _ _ (by omega) (by omega), y3 _ _ (by omega) (by omega), am2 _ _ (by omega) (by omega) (by omega) (by omega)])
    · rw [rd_eq (wo _ _ (by omega) (by omega)), rd_eq (y3 _ _ (by omega) (by omega))]; exact z2' f g a b c d
  obtain ⟨m4, u, x4, y4, z4, w4⟩ := L0_p147 hI hN h6 (kk := fun (m_164 : Mem) => gd (0 ≤ rd m_164 31 12 ∧ rd m_164 31 12 < 17) <| stw m_164 50 (rd m_164 31 12) 0 fun m173 => L0_prepare_181 FU (w32 ((rd m173 31 12) - 1)) m173) 16 FU 0 0 w (by omega) (by rw [FU_eq]; omega) hmw (fun i j hi hj => by
    rw [hw, rd_wr_k (by omega)]
    have : rd (fil m3 48 0 36 0) 48 (6 * (i : Int) + (j : Int)) = w32 0 := by unfold rd; rw [fil_i (by omega) (by omega)]
    rw [this]; rfl) ⟨by rw [hw, rd_wr_s]; exact w32_id (by omega) (by omega), fun g => rfl, fun i hi => by omega⟩
  rw [show L0_prepare_147 _ FU (0 : Int) w = _ from x4]
  try dsimp only
  have ul := TI_le w4
  have u12 := w4.1
  rw [u12, gd_t (by omega), stw_v, rd_wr_k (by omega), u12, w32_id (x := (u : Int) - 1) (by omega) (by omega)]
  obtain ⟨v, hv⟩ : ∃ v, v = wr m4 50 (u : Int) 0 := ⟨_, rfl⟩
  rw [← hv]
  have vo : ∀ k i, k ≠ 50 → v k i = m4 k i := fun k i a => by rw [hv, wr_ki (by omega)]
  have v50 : rd v 50 (u : Int) = 0 := by rw [hv, rd_wr_s]; exact w32_id (by omega) (by omega)
  have hmv : HM M v N := HM_s hmw (rd_eq (by rw [vo _ _ (by omega), y4 _ _ (by omega) (by omega) (by omega)])) (fun i => rd_eq (by rw [vo _ _ (by omega), y4 _ _ (by omega) (by omega) (by omega)])) (fun i => rd_eq (by rw [vo _ _ (by omega), y4 _ _ (by omega) (by omega) (by omega)])) (fun i => rd_eq (by rw [vo _ _ (by omega), y4 _ _ (by omega) (by omega) (by omega)]))
  obtain ⟨m5, x5, y5, z5⟩ := L0_p181 hI hN h6 (u := u) u FU ((u : Int) - 1) v (by omega) (by omega) (by rw [FU_eq]; omega) hmv (TI_s w4 (rd_eq (vo _ _ (by omega))) (fun i => rd_eq (vo _ _ (by omega)))) v50 (fun j a b => by omega) (fun j a b => by rw [show j = u by omega, v50]; omega)
  have back : ∀ k i, k ≠ 50 → k ≠ 48 → k ≠ 49 → ¬ (k = 31 ∧ i = 12) → m5 k i = m3 k i := fun k i a b c d => by rw [y5 k i a, vo k i a, y4 k i b c d, wo k i b d]
  refine ⟨m5, u, x5, ⟨?_, h2, h6, fun p hp' => ?_⟩, ?_, HM_s hmv (rd_eq (y5 _ _ (by omega))) (fun i => rd_eq (y5 _ _ (by omega))) (fun i => rd_eq (y5 _ _ (by omega))) (fun i => rd_eq (y5 _ _ (by omega))), fun i hi => ?_, fun i j hi hj => ?_, TI_s w4 (rd_eq (by rw [y5 _ _ (by omega), vo _ _ (by omega)])) (fun i => rd_eq (by rw [y5 _ _ (by omega), vo _ _ (by omega)])), z5⟩
  · rw [rd_eq (back _ _ (by omega) (by omega) (by omega) (by omega)), rd_eq (y3 _ _ (by omega) (by omega))]; exact a22
  · rw [rd_eq (back _ _ (by omega) (by omega) (by omega) (by omega)), rd_eq (y3 _ _ (by omega) (by omega)), rd_eq (y2 _ _ (by omega)), rd_eq (po _ _ (by omega))]; exact z1 p hp'
  · rw [rd_eq (back _ _ (by omega) (by omega) (by omega) (by omega)), rd_eq (y3 _ _ (by omega) (by omega)), rd_eq (y2 _ _ (by omega)), hp, rd_wr_s]; exact w32_id (by omega) (by omega)
  · rw [rd_eq (back _ _ (by omega) (by omega) (by omega) (by omega)), rd_eq (back _ _ (by omega) (by omega) (by omega) (by omega))]; exact z3 i hi
  · rw [rd_eq (y5 _ _ (by omega)), rd_eq (vo _ _ (by omega))]; exact z4 i j hi hj
