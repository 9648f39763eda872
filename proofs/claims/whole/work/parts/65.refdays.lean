/-! the reference's days -/
def RDy (m : Mem) (C : Int) (I : Int → Bool) (p a b : Int → Int) : Prop := TR m C I p ∧ rd m 83 24 = (cI I : Int) ∧ Od I p (cI I : Int) (fun i => rd m 100 i) ∧ ∀ v, I v = true → rd m 84 v = a v ∧ rd m 85 v = b v
theorem RDy_s {m m' : Mem} {C : Int} {I : Int → Bool} {p a b : Int → Int} (h : RDy m C I p a b) (g : ∀ k i, k ≠ 101 → k ≠ 102 → m' k i = m k i) : RDy m' C I p a b := by
  obtain ⟨x, y, z, w⟩ := h
  have g100 : (fun i => rd m' 100 i) = fun i => rd m 100 i := by funext i; exact rd_eq (g _ _ (by omega) (by omega))
  refine ⟨TR_s x (rd_eq (g _ _ (by omega) (by omega))) (fun c => rd_eq (g _ _ (by omega) (by omega))) (fun c => rd_eq (g _ _ (by omega) (by omega))), by rw [rd_eq (g _ _ (by omega) (by omega))]; exact y, by rw [g100]; exact z, fun v hv => ?_⟩
  rw [rd_eq (g 84 v (by omega) (by omega)), rd_eq (g 85 v (by omega) (by omega))]; exact w v hv
theorem L11_fd2 {C : Int} {I : Int → Bool} {p a b : Int → Int} {kk : Mem → Option (Int × Mem)} (hac : Acy I p) (ha : ∀ v, I v = true → 0 ≤ a v ∧ a v ≤ 999) : ∀ (d n : Nat) (i : Int) (m : Mem), i + d = (cI I : Int) → 0 ≤ i → d < n → RDy m C I p a b → (∀ j, 0 ≤ j → j < i → rd m 101 (rd m 100 j) = ES p a (rd m 100 j)) →
    ∃ m', L11_findDays_2 kk n i m = kk m' ∧ (∀ k i, k ≠ 101 → m' k i = m k i) ∧ ∀ j, 0 ≤ j → j < (cI I : Int) → rd m' 101 (rd m' 100 j) = ES p a (rd m' 100 j) := by
  intro d
  have l2 : cI I ≤ 12 := cnt_le _ 12
  induction d with
  | zero =>
    intro n i m h0 h1 h2 hd hb
    obtain ⟨n, rfl⟩ : ∃ j, n = j + 1 := ⟨n - 1, by omega⟩
    rw [L11_findDays_2, hd.2.1, if_pos (by omega)]
    exact ⟨m, rfl, fun _ _ _ => rfl, fun j a b => hb j a (by omega)⟩
  | succ d ih =>
    intro n i m h0 h1 h2 hd hb
    obtain ⟨n, rfl⟩ : ∃ j, n = j + 1 := ⟨n - 1, by omega⟩
    obtain ⟨x, hx⟩ : ∃ x, x = rd m 100 i := ⟨_, rfl⟩
    have e5 := hd.2.2.1
    have xi := e5.1.1 i h1 (by omega)
    dsimp only at xi
    rw [← hx] at xi
    have xr := hac.1 x xi.1
    have ax := (hd.2.2.2 x xi.1).1
    have aa := ha x xi.1
    have ee := ES_e (a := a) hac xi.1
    have ex := ES_b hac ha xi.1
    have go : ∀ y : Int, y = ES p a x → ∃ m', (stw m 101 x y fun m62 => L11_findDays_2 kk n (w32 (i + 1)) m62) = kk m' ∧ (∀ k i, k ≠ 101 → m' k i = m k i) ∧ ∀ j, 0 ≤ j → j < (cI I : Int) → rd m' 101 (rd m' 100 j) = ES p a (rd m' 100 j) := by
      intro y hy
      rw [stw_v, w32_id (x := i + 1) (by omega) (by omega)]
      obtain ⟨q, hq⟩ : ∃ q, q = wr m 101 x y := ⟨_, rfl⟩
      rw [← hq]
      have qo : ∀ k i, ¬ (k = 101 ∧ i = x) → q k i = m k i := fun k i u => by rw [hq, wr_ki u]
      have q7 : ∀ j, rd q 100 j = rd m 100 j := fun j => rd_eq (qo _ _ (by omega))
      obtain ⟨m', p1, p2, p3⟩ := ih n (i + 1) q (by omega) (by omega) (by omega) (RDy_s hd (fun k i u _ => qo k i (by omega))) (fun j j0 j1 => by
        rw [q7]
        by_cases z : rd m 100 j = x
        · rw [z, hq, rd_wr_s, hy]; exact w32_id (by omega) (by omega)
        · have : j ≠ i := fun y => z (by rw [y, hx])
          rw [rd_eq (qo _ _ (by omega))]; exact hb j j0 (by omega))
      exact ⟨m', p1, fun k i u => by rw [p2 k i u]; exact qo k i (by omega), p3⟩
    have gt : ∀ {α : Type} (y : Option α), gd (0 ≤ x ∧ x < 12) y = y := fun y => gd_t xr
    rw [L11_findDays_2, hd.2.1, if_neg (by omega), gd_t (by omega), ← hx]
    simp only [jn_v, gt]
    rw [hd.1.2.2.2.2 x xi.1, ax]
    by_cases z : p x < 0
    · rw [if_pos z] at ee
      rw [if_neg (by omega)]
      exact go _ ee.symm
    · rw [if_neg z] at ee
      obtain ⟨j, j0, j1, j2⟩ := xi.2 (by omega)
      have px := hac.2.1 x xi.1 (by omega)
      have pr := hac.1 _ px
      have eb := ES_b hac ha px
      rw [if_pos (by omega), gd_t (by omega), F11_greater_e, ← j2, hb j j0 j1, j2, w32_id (by omega) (by omega)]
      exact go _ ee.symm
theorem L11_fd101 {C v s : Int} {I : Int → Bool} {p a b : Int → Int} {kk : Mem → Option (Int × Mem)} (hac : Acy I p) (hb : ∀ v, I v = true → 0 ≤ b v ∧ b v ≤ 999) (hv : I v = true) (hs : 0 ≤ s ∧ s ≤ 999) : ∀ (e n j : Nat) (m : Mem), (j : Int) + e = C → e < n → RDy m C I p a b → (∀ d, I d = true → p d = v → rd m 102 d = LTS I p b d) → rd m 102 v = mm (kl I p b v) s j →
    ∃ m', L11_findDays_101 v kk n (j : Int) m = kk m' ∧ (∀ k i, ¬ (k = 102 ∧ i = v) → m' k i = m k i) ∧ rd m' 102 v = mm (kl I p b v) s 12 := by
  intro e
  have vr := hac.1 v hv
  obtain ⟨rk, r1, r2⟩ := hac.2.2
  induction e with
  | zero =>
    intro n j m h0 h1 hd hk hm
    obtain ⟨n, rfl⟩ : ∃ i, n = i + 1 := ⟨n - 1, by omega⟩
    have hC := hd.1.2.1
    rw [L11_findDays_101, hd.1.1, if_pos (by omega)]
    refine ⟨m, rfl, fun _ _ _ => rfl, ?_⟩
    have := mm_end (g := kl I p b v) (s := s) (by omega) j (fun i x => if_neg (fun z => by have := hd.1.2.2.1 _ z.1; omega)) (12 - j)
    rw [show j + (12 - j) = 12 by omega] at this
    rw [hm, this]
  | succ e ih =>
    intro n j m h0 h1 hd hk hm
    obtain ⟨n, rfl⟩ : ∃ i, n = i + 1 := ⟨n - 1, by omega⟩
    have hC := hd.1.2.1
    have e1 : mm (kl I p b v) s (j + 1) = min (mm (kl I p b v) s j) (kl I p b v (j : Int)) := rfl
    have ml := mm_le (kl I p b v) s j
    have gt : ∀ {α : Type} (y : Option α), gd (0 ≤ (j : Int) ∧ (j : Int) < 12) y = y := fun y => gd_t ⟨by omega, by omega⟩
    have gv : ∀ {α : Type} (y : Option α), gd (0 ≤ v ∧ v < 12) y = y := fun y => gd_t vr
    have c97 := hd.1.2.2.2.1 (j : Int) (by omega) (by omega)
    rw [L11_findDays_101, hd.1.1, if_neg (by omega), gt, w32_id (x := (j : Int) + 1) (by omega) (by omega), show (j : Int) + 1 = ((j + 1 : Nat) : Int) by omega]
    simp only [jn_v, gt, gv, stw_v]
    cases hI : I (j : Int) with
    | false =>
      rw [if_pos (c97.mpr hI)]
      refine ih n (j + 1) m (by omega) (by omega) hd hk ?_
      rw [e1, hm]
      have : kl I p b v (j : Int) = 1000000 := if_neg (fun z => by rw [hI] at z; cases z.1)
      omega
    | true =>
      rw [if_neg (fun z => by have := c97.mp z; rw [hI] at this; cases this), hd.1.2.2.2.2 _ hI]
      by_cases z : p (j : Int) = v
      · have lb := LTS_b (p := p) hb hI
        have kj := hk _ hI z
        have ne : (j : Int) ≠ v := fun q => by have := r1 _ hI (by omega); rw [z, q] at this; omega
        have e2 : kl I p b v (j : Int) = LTS I p b (j : Int) - 1 := if_pos ⟨hI, z⟩
        have i0 := rd_in m 102 v
        rw [if_neg (by omega), kj, F11_lesser_e, w32_id (x := LTS I p b (j : Int) - 1) (by omega) (by omega)]
        obtain ⟨q, hq⟩ : ∃ q, q = wr m 102 v (min (rd m 102 v) (LTS I p b (j : Int) - 1)) := ⟨_, rfl⟩
        rw [← hq]
        have qo : ∀ k i, ¬ (k = 102 ∧ i = v) → q k i = m k i := fun k i u => by rw [hq, wr_ki u]
        obtain ⟨m', p1, p2, p3⟩ := ih n (j + 1) q (by omega) (by omega) (RDy_s hd (fun k i _ u => qo k i (by omega))) (fun d d1 d2 => by
          have : d ≠ v := fun q => by have := r1 _ d1 (by omega); rw [d2, q] at this; omega
          rw [rd_eq (qo _ _ (by omega))]; exact hk d d1 d2) (by
          rw [hq, rd_wr_s, w32_id (by have := i0.1; omega) (by omega), e1, ← hm, e2])
        exact ⟨m', p1, fun k i u => by rw [p2 k i u]; exact qo k i u, p3⟩
      · rw [if_pos z]
        refine ih n (j + 1) m (by omega) (by omega) hd hk ?_
        rw [e1, hm]
        have : kl I p b v (j : Int) = 1000000 := if_neg (fun q => z q.2)
        omega
theorem L11_fd76 {C : Int} {I : Int → Bool} {p a b : Int → Int} {kk : Mem → Option (Int × Mem)} (hac : Acy I p) (hb : ∀ v, I v = true → 0 ≤ b v ∧ b v ≤ 999) : ∀ (e n : Nat) (i : Int) (m : Mem), (e : Int) = i + 1 → i < (cI I : Int) → e < n → RDy m C I p a b → (∀ j, i < j → j < (cI I : Int) → rd m 102 (rd m 100 j) = LTS I p b (rd m 100 j)) →
    ∃ m', L11_findDays_76 kk n i m = kk m' ∧ (∀ k i, k ≠ 102 → m' k i = m k i) ∧ ∀ j, 0 ≤ j → j < (cI I : Int) → rd m' 102 (rd m' 100 j) = LTS I p b (rd m' 100 j) := by
  intro e
  have l2 : cI I ≤ 12 := cnt_le _ 12
  induction e with
  | zero =>
    intro n i m h0 h1 h2 hd hl
    obtain ⟨n, rfl⟩ : ∃ i, n = i + 1 := ⟨n - 1, by omega⟩
    rw [L11_findDays_76, if_pos (by omega)]
    exact ⟨m, rfl, fun _ _ _ => rfl, fun j a b => hl j (by omega) b⟩
  | succ e ih =>
    intro n i m h0 h1 h2 hd hl
    obtain ⟨n, rfl⟩ : ∃ i, n = i + 1 := ⟨n - 1, by omega⟩
    obtain ⟨x, hx⟩ : ∃ x, x = rd m 100 i := ⟨_, rfl⟩
    have od := hd.2.2.1
    have xi := od.1.1 i (by omega) h1
    dsimp only at xi
    rw [← hx] at xi
    have xr := hac.1 x xi.1
    have bx := (hd.2.2.2 x xi.1).2
    have bb := hb x xi.1
    have hC := hd.1.2.1
    rw [L11_findDays_76, if_neg (by omega), gd_t (by omega), ← hx, gd_t xr, gd_t xr, stw_v, bx, w32_id (x := i + (-1)) (by omega) (by omega), show i + (-1) = i - 1 by omega]
    obtain ⟨q, hq⟩ : ∃ q, q = wr m 102 x (b x) := ⟨_, rfl⟩
    rw [← hq]
    have qo : ∀ k i, ¬ (k = 102 ∧ i = x) → q k i = m k i := fun k i u => by rw [hq, wr_ki u]
    have hdq := RDy_s hd (m' := q) (fun k i _ u => qo k i (by omega))
    obtain ⟨u, x1, y1, z1⟩ := L11_fd101 (kk := fun (m_157 : Mem) => L11_findDays_76 kk n (i - 1) m_157) hac hb xi.1 bb C.toNat FU 0 q (by omega) (by rw [FU_eq]; omega) hdq (fun d d1 d2 => by
      obtain ⟨j, j0, j1, j2⟩ := od.2 d d1
      dsimp only at j2
      obtain ⟨j', k0, k1, k2⟩ := (od.1.1 j j0 j1).2 (by dsimp only; rw [j2, d2]; exact xr.1)
      dsimp only at k2
      rw [j2, d2, hx] at k2
      have jj := od.1.2 j' i k0 (by omega) (by omega) h1 k2
      obtain ⟨rk, r1, r2⟩ := hac.2.2
      have : d ≠ x := fun q => by have := r1 _ d1 (by omega); rw [d2, q] at this; omega
      rw [rd_eq (qo _ _ (by omega)), ← j2]; exact hl j (by omega) j1) (by rw [hq, rd_wr_s]; exact w32_id (by omega) (by omega))
    rw [show L11_findDays_101 x (fun m_157 => L11_findDays_76 kk n (i - 1) m_157) FU 0 q = _ from x1]
    have uo : ∀ k i, ¬ (k = 102 ∧ i = x) → u k i = m k i := fun k i w => by rw [y1 k i w]; exact qo k i w
    have q7 : ∀ j, rd u 100 j = rd m 100 j := fun j => rd_eq (uo _ _ (by omega))
    obtain ⟨m', p1, p2, p3⟩ := ih n (i - 1) u (by omega) (by omega) (by omega) (RDy_s hd (fun k i _ w => uo k i (by omega))) (fun j j0 j1 => by
      rw [q7]
      by_cases z : rd m 100 j = x
      · rw [z, z1, LTS_e hac xi.1]
      · have : j ≠ i := fun y => z (by rw [y, hx])
        rw [rd_eq (uo _ _ (by omega))]; exact hl j (by omega) j1)
    exact ⟨m', p1, fun k i w => by rw [p2 k i w]; exact uo k i (by omega), p3⟩
theorem L11_fd165 {m : Mem} {C : Int} {I : Int → Bool} {p a b : Int → Int} (hac : Acy I p) (hab : ∀ v, I v = true → a v ≤ b v) (hd : RDy m C I p a b) (he : ∀ v, I v = true → rd m 101 v = ES p a v) : ∀ (e n : Nat) (i : Int), i + e = C → 0 ≤ i → e < n → (∀ v, I v = true → v < i → ¬ lt1 p a b v) → ∃ r, L11_findDays_165 m n i = some (r, m) ∧ (r = -2 ∨ 0 ≤ r) ∧ lateR I p a b r := by
  intro e
  have hC := hd.1.2.1
  have key : ∀ v, I v = true → (b v < ES p a v ↔ lt1 p a b v) := fun v hv => by
    have := ES_e (a := a) hac hv
    have := hab v hv
    refine ⟨fun h => ⟨?_, h⟩, fun h => h.2⟩
    by_cases z : p v < 0
    · rw [if_pos z] at *; omega
    · omega
  induction e with
  | zero =>
    intro n i h0 h1 h2 h3
    obtain ⟨n, rfl⟩ : ∃ i, n = i + 1 := ⟨n - 1, by omega⟩
    rw [L11_findDays_165, hd.1.1, if_pos (by omega)]
    exact ⟨-2, rfl, Or.inl rfl, Or.inl ⟨by omega, fun v hv => h3 v hv (by have := hd.1.2.2.1 v hv; omega)⟩⟩
  | succ e ih =>
    intro n i h0 h1 h2 h3
    obtain ⟨n, rfl⟩ : ∃ i, n = i + 1 := ⟨n - 1, by omega⟩
    have gt : ∀ {α : Type} (y : Option α), gd (0 ≤ i ∧ i < 12) y = y := fun y => gd_t ⟨h1, by omega⟩
    have c97 := hd.1.2.2.2.1 i h1 (by omega)
    rw [L11_findDays_165, hd.1.1, if_neg (by omega), w32_id (x := i + 1) (by omega) (by omega)]
    simp only [jn_v, gt]
    have nx : ¬ (I i = true ∧ lt1 p a b i) → ∃ r, L11_findDays_165 m n (i + 1) = some (r, m) ∧ (r = -2 ∨ 0 ≤ r) ∧ lateR I p a b r := fun h => ih n (i + 1) (by omega) (by omega) (by omega) (fun v hv hl => by
      by_cases z : v = i
      · rw [z] at hv ⊢; exact fun q => h ⟨hv, q⟩
      · exact h3 v hv (by omega))
    cases hI : I i with
    | false => rw [if_pos (c97.mpr hI)]; exact nx (fun z => by rw [hI] at z; cases z.1)
    | true =>
      rw [if_neg (fun z => by have := c97.mp z; rw [hI] at this; cases this), he i hI, (hd.2.2.2 i hI).2]
      by_cases z : ES p a i ≤ b i
      · rw [if_pos z]; exact nx (fun q => by have := (key i hI).mpr q.2; omega)
      · rw [if_neg z]
        have := (key i hI).mp (by omega)
        exact ⟨i, rfl, Or.inr h1, Or.inr ⟨h1, hI, this, fun v hv hl => by
          by_cases q : v < i
          · exact absurd hl (h3 v hv q)
          · omega⟩⟩
theorem findDays_e {m : Mem} {C : Int} {I : Int → Bool} {p a b : Int → Int} (hac : Acy I p) (ha : ∀ v, I v = true → 0 ≤ a v ∧ a v ≤ b v ∧ b v ≤ 999) (hd : RDy m C I p a b) : ∃ r m', F11_findDays m = some (r, m') ∧ (∀ k i, k ≠ 101 → k ≠ 102 → m' k i = m k i) ∧ (∀ v, I v = true → rd m' 101 v = ES p a v ∧ rd m' 102 v = LTS I p b v) ∧ (r = -2 ∨ 0 ≤ r) ∧ lateR I p a b r := by
  have l2 : cI I ≤ 12 := cnt_le _ 12
  have hC := hd.1.2.1
  obtain ⟨m1, x1, y1, z1⟩ := L11_fd2 (kk := fun (m_69 : Mem) => L11_findDays_76 (fun (m_163 : Mem) => L11_findDays_165 m_163 FU 0) FU (w32 ((rd m_69 83 24) - 1)) m_69) hac (fun v h => ⟨(ha v h).1, by have := ha v h; omega⟩) (cI I) FU 0 m (by omega) (by omega) (by rw [FU_eq]; omega) hd (fun j a b => by omega)
  have hd1 := RDy_s hd (m' := m1) (fun k i u _ => y1 k i u)
  obtain ⟨m2, x2, y2, z2⟩ := L11_fd76 (kk := fun (m_163 : Mem) => L11_findDays_165 m_163 FU 0) hac (fun v h => ⟨by have := ha v h; omega, (ha v h).2.2⟩) (cI I) FU ((cI I : Int) - 1) m1 (by omega) (by omega) (by rw [FU_eq]; omega) hd1 (fun j a b => by omega)
  have hd2 := RDy_s hd1 (m' := m2) (fun k i _ u => y2 k i u)
  have e101 : ∀ v, I v = true → rd m2 101 v = ES p a v := fun v hv => by
    obtain ⟨j, j0, j1, j2⟩ := hd1.2.2.1.2 v hv
    dsimp only at j2
    rw [rd_eq (y2 _ _ (by omega)), ← j2]; exact z1 j j0 j1
  have e102 : ∀ v, I v = true → rd m2 102 v = LTS I p b v := fun v hv => by
    obtain ⟨j, j0, j1, j2⟩ := hd2.2.2.1.2 v hv
    dsimp only at j2
    rw [← j2]; exact z2 j j0 j1
  obtain ⟨r, x3, y3, z3⟩ := L11_fd165 hac (fun v h => (ha v h).2.1) hd2 e101 C.toNat FU 0 (by omega) (by omega) (by rw [FU_eq]; omega) (fun v hv q => by have := hac.1 v hv; omega)
  refine ⟨r, m2, ?_, fun k i u w => by rw [y2 k i w, y1 k i u], fun v hv => ⟨e101 v hv, e102 v hv⟩, y3, z3⟩
  unfold F11_findDays
  rw [x1]
  show L11_findDays_76 _ FU (w32 ((rd m1 83 24) - 1)) m1 = _
  rw [hd1.2.1, w32_id (by omega) (by omega), x2]
  exact x3
