/-! days: the earliest, the latest, who comes too late -/
def Ef (p a : Int → Int) : Nat → Int → Int
  | 0, _ => 0
  | n + 1, v => if p v < 0 then a v else max (a v) (Ef p a n (p v) + 1)
def ES (p a : Int → Int) : Int → Int := Ef p a 12
theorem Ef_s {I : Int → Bool} {p a : Int → Int} {rk : Int → Nat} (hi : ∀ c, I c = true → 0 ≤ p c → I (p c) = true) (hr : ∀ c, I c = true → 0 ≤ p c → rk (p c) < rk c) : ∀ (n n' : Nat) (v : Int), I v = true → rk v < n → rk v < n' → Ef p a n v = Ef p a n' v
  | 0, n', v, hv, h, h' => by omega
  | n + 1, 0, v, hv, h, h' => by omega
  | n + 1, n' + 1, v, hv, h, h' => by
    unfold Ef
    by_cases z : p v < 0
    · rw [if_pos z, if_pos z]
    · rw [if_neg z, if_neg z]
      have := hr v hv (by omega)
      rw [Ef_s hi hr n n' _ (hi v hv (by omega)) (by omega) (by omega)]
theorem ES_e {I : Int → Bool} {p a : Int → Int} (h : Acy I p) {v : Int} (hv : I v = true) : ES p a v = if p v < 0 then a v else max (a v) (ES p a (p v) + 1) := by
  obtain ⟨x, b, rk, c, e⟩ := h
  show Ef p a (11 + 1) v = _
  unfold Ef
  by_cases z : p v < 0
  · rw [if_pos z, if_pos z]
  · rw [if_neg z, if_neg z]
    have := c v hv (by omega)
    have := e v hv
    show max (a v) (Ef p a 11 (p v) + 1) = max (a v) (Ef p a 12 (p v) + 1)
    rw [Ef_s b c 11 12 _ (b v hv (by omega)) (by omega) (by omega)]
theorem Ef_b {I : Int → Bool} {p a : Int → Int} (h : Acy I p) (ha : ∀ v, I v = true → 0 ≤ a v ∧ a v ≤ 999) : ∀ (n : Nat) (v : Int), I v = true → 0 ≤ Ef p a n v ∧ Ef p a n v ≤ 999 + n
  | 0, v, hv => ⟨Int.le_refl _, by show (0 : Int) ≤ 999 + ((0 : Nat) : Int); omega⟩
  | n + 1, v, hv => by
    have av := ha v hv
    unfold Ef
    by_cases z : p v < 0
    · rw [if_pos z]; omega
    · rw [if_neg z]
      have := Ef_b h ha n _ (h.2.1 v hv (by omega))
      omega
theorem ES_b {I : Int → Bool} {p a : Int → Int} (h : Acy I p) (ha : ∀ v, I v = true → 0 ≤ a v ∧ a v ≤ 999) {v : Int} (hv : I v = true) : 0 ≤ ES p a v ∧ ES p a v ≤ 1011 := by
  have := Ef_b h ha 12 v hv
  unfold ES; omega
def lt1 (p a b : Int → Int) (v : Int) : Prop := 0 ≤ p v ∧ b v < ES p a v
def lateR (I : Int → Bool) (p a b : Int → Int) (r : Int) : Prop := (r < 0 ∧ ∀ v, I v = true → ¬ lt1 p a b v) ∨ (0 ≤ r ∧ I r = true ∧ lt1 p a b r ∧ ∀ v, I v = true → lt1 p a b v → r ≤ v)
theorem lateR_u {I : Int → Bool} {p a b : Int → Int} {r r' : Int} (h : lateR I p a b r) (h' : lateR I p a b r') : (r < 0 ∧ r' < 0) ∨ (r = r' ∧ 0 ≤ r) := by
  rcases h with ⟨h1, h2⟩ | ⟨h1, h2, h3, h4⟩
  · rcases h' with ⟨k1, k2⟩ | ⟨k1, k2, k3, k4⟩
    · exact Or.inl ⟨h1, k1⟩
    · exact absurd k3 (h2 _ k2)
  · rcases h' with ⟨k1, k2⟩ | ⟨k1, k2, k3, k4⟩
    · exact absurd h3 (k2 _ h2)
    · have := h4 _ k2 k3; have := k4 _ h2 h3; exact Or.inr ⟨by omega, h1⟩
/-- the tree's days stand: size, mothers, days, order -/
def DD (m : Mem) (o : Nat) (N : Int) (p a b : Int → Int) : Prop := rd m o 0 = N ∧ (∀ v, 0 ≤ v → v < N → rd m (o + 1) v = p v ∧ rd m (o + 2) v = a v ∧ rd m (o + 3) v = b v) ∧ Od (inN N) p N (fun i => rd m (o + 7) i)
theorem DD_s {m m' : Mem} {o : Nat} {N : Int} {p a b : Int → Int} (h : DD m o N p a b) (g : ∀ k i, k ≠ o + 4 → k ≠ o + 6 → m' k i = m k i) : DD m' o N p a b := by
  obtain ⟨x, y, z⟩ := h
  have g7 : (fun i => rd m' (o + 7) i) = fun i => rd m (o + 7) i := by funext i; exact rd_eq (g _ _ (by omega) (by omega))
  refine ⟨by rw [rd_eq (g o 0 (by omega) (by omega))]; exact x, fun v u w => ?_, by rw [g7]; exact z⟩
  rw [rd_eq (g (o + 1) v (by omega) (by omega)), rd_eq (g (o + 2) v (by omega) (by omega)), rd_eq (g (o + 3) v (by omega) (by omega))]; exact y v u w
theorem L9_fl {o : Nat} {N : Int} {p a b : Int → Int} (hN : 0 ≤ N ∧ N ≤ 12) (hac : Acy (inN N) p) (ha : ∀ v, 0 ≤ v → v < N → 0 ≤ a v ∧ a v ≤ 999) : ∀ (d n : Nat) (i v1 : Int) (m : Mem), i + d = N → 0 ≤ i → d < n → DD m o N p a b → (∀ j, 0 ≤ j → j < i → rd m (o + 4) (rd m (o + 7) j) = ES p a (rd m (o + 7) j)) → ((v1 = -1 ∧ ∀ j, 0 ≤ j → j < i → ¬ lt1 p a b (rd m (o + 7) j)) ∨ (0 ≤ v1 ∧ v1 < N ∧ lt1 p a b v1 ∧ ∀ j, 0 ≤ j → j < i → lt1 p a b (rd m (o + 7) j) → v1 ≤ rd m (o + 7) j)) →
    ∃ r m', L9_firstLate_4 o n v1 i m = some (r, m') ∧ (∀ k i, k ≠ o + 4 → m' k i = m k i) ∧ (∀ v, 0 ≤ v → v < N → rd m' (o + 4) v = ES p a v) ∧ lateR (inN N) p a b r := by
  intro d
  induction d with
  | zero =>
    intro n i v1 m h0 h1 h2 hd he hv
    obtain ⟨n, rfl⟩ : ∃ j, n = j + 1 := ⟨n - 1, by omega⟩
    rw [L9_firstLate_4, hd.1, if_pos (by omega)]
    have od := hd.2.2.2
    refine ⟨v1, m, rfl, fun _ _ _ => rfl, fun v x y => ?_, ?_⟩
    · obtain ⟨j, j0, j1, j2⟩ := od v (inN_e.mpr ⟨x, y⟩)
      dsimp only at j2
      rw [← j2]; exact he j j0 (by omega)
    · rcases hv with ⟨x, y⟩ | ⟨x, y, z, w⟩
      · refine Or.inl ⟨by omega, fun v hv => ?_⟩
        obtain ⟨j, j0, j1, j2⟩ := od v hv
        dsimp only at j2
        rw [← j2]; exact y j j0 (by omega)
      · refine Or.inr ⟨x, inN_e.mpr ⟨x, y⟩, z, fun v hv hl => ?_⟩
        obtain ⟨j, j0, j1, j2⟩ := od v hv
        dsimp only at j2
        rw [← j2] at hl ⊢; exact w j j0 (by omega) hl
  | succ d ih =>
    intro n i v1 m h0 h1 h2 hd he hv
    obtain ⟨n, rfl⟩ : ∃ j, n = j + 1 := ⟨n - 1, by omega⟩
    obtain ⟨x, hx⟩ : ∃ x, x = rd m (o + 7) i := ⟨_, rfl⟩
    have od := hd.2.2
    have xi := od.1.1 i h1 (by omega)
    dsimp only at xi
    rw [← hx] at xi
    have xr := inN_e.mp xi.1
    obtain ⟨d1, d2, d3⟩ := hd.2.1 x xr.1 xr.2
    have ax := ha x xr.1 xr.2
    have ee := ES_e (a := a) hac xi.1
    -- going on with the earliest day written
    have go : ∀ (q : Mem) (w : Int), (∀ k i, ¬ (k = o + 4 ∧ i = x) → q k i = m k i) → rd q (o + 4) x = ES p a x → ((w = -1 ∧ ∀ j, 0 ≤ j → j < i + 1 → ¬ lt1 p a b (rd m (o + 7) j)) ∨ (0 ≤ w ∧ w < N ∧ lt1 p a b w ∧ ∀ j, 0 ≤ j → j < i + 1 → lt1 p a b (rd m (o + 7) j) → w ≤ rd m (o + 7) j)) →
        ∃ r m', L9_firstLate_4 o n w (w32 (i + 1)) q = some (r, m') ∧ (∀ k i, k ≠ o + 4 → m' k i = m k i) ∧ (∀ v, 0 ≤ v → v < N → rd m' (o + 4) v = ES p a v) ∧ lateR (inN N) p a b r := by
      intro q w qo qx hw
      have q7 : ∀ j, rd q (o + 7) j = rd m (o + 7) j := fun j => rd_eq (qo _ _ (by omega))
      rw [w32_id (x := i + 1) (by omega) (by omega)]
      obtain ⟨r, m', e1, e2, e3, e4⟩ := ih n (i + 1) w q (by omega) (by omega) (by omega) (DD_s hd (fun k i u _ => qo k i (by omega))) (fun j j0 j1 => by
        rw [q7]
        by_cases z : rd m (o + 7) j = x
        · rw [z]; exact qx
        · have : j ≠ i := fun y => z (by rw [y, hx])
          rw [rd_eq (qo _ _ (by omega))]; exact he j j0 (by omega)) (by simp only [q7]; exact hw)
      exact ⟨r, m', e1, fun k i u => by rw [e2 k i u]; exact qo k i (by omega), e3, e4⟩
    rw [L9_firstLate_4, hd.1, if_neg (by omega), gd_t (by omega), ← hx]
    have gt : ∀ {α : Type} (y : Option α), gd (0 ≤ x ∧ x < 12) y = y := fun y => gd_t ⟨xr.1, by omega⟩
    simp only [jn_v, gt, stw_v]
    have w1 : rd (wr m (o + 4) x (rd m (o + 2) x)) (o + 1) x = p x := by rw [rd_wr_k (by omega)]; exact d1
    have w2 : rd (wr m (o + 4) x (rd m (o + 2) x)) (o + 2) x = a x := by rw [rd_wr_k (by omega)]; exact d2
    rw [w1, w2]
    by_cases z : p x < 0
    · rw [if_pos z] at ee ⊢
      refine go _ v1 (fun k i u => wr_ki u) ?_ ?_
      · rw [rd_wr_s, d2, ee]; exact w32_id (by omega) (by omega)
      · have nl : ¬ lt1 p a b x := fun q => by have := q.1; omega
        rcases hv with ⟨y1, y2⟩ | ⟨y1, y2, y3, y4⟩
        · refine Or.inl ⟨y1, fun j j0 j1 => ?_⟩
          by_cases e : j = i
          · rw [e, ← hx]; exact nl
          · exact y2 j j0 (by omega)
        · refine Or.inr ⟨y1, y2, y3, fun j j0 j1 l => ?_⟩
          by_cases e : j = i
          · rw [e, ← hx] at l; exact absurd l nl
          · exact y4 j j0 (by omega) l
    · rw [if_neg z] at ee ⊢
      obtain ⟨j, j0, j1, j2⟩ := xi.2 (by omega)
      have px := hac.2.1 x xi.1 (by omega)
      have pr := inN_e.mp px
      have pe : p x ≠ x := by
        obtain ⟨rk, r1, r2⟩ := hac.2.2
        have := r1 x xi.1 (by omega)
        intro y; rw [y] at this; omega
      have eb := ES_b hac (fun v h => ha v (inN_e.mp h).1 (inN_e.mp h).2) px
      have w4 : rd (wr m (o + 4) x (rd m (o + 2) x)) (o + 4) (p x) = ES p a (p x) := by
        rw [rd_wr_i pe, ← j2]; exact he j j0 (by omega)
      rw [gd_t (show 0 ≤ p x ∧ p x < 12 by omega), w4, w32_id (by omega) (by omega), imx_e, ← ee]
      obtain ⟨q, hq⟩ : ∃ q, q = wr (wr m (o + 4) x (rd m (o + 2) x)) (o + 4) x (ES p a x) := ⟨_, rfl⟩
      have ex := ES_b hac (fun v h => ha v (inN_e.mp h).1 (inN_e.mp h).2) xi.1
      have qo : ∀ k i, ¬ (k = o + 4 ∧ i = x) → q k i = m k i := fun k i u => by rw [hq, wr_ki u, wr_ki u]
      have qx : rd q (o + 4) x = ES p a x := by rw [hq, rd_wr_s]; exact w32_id (by omega) (by omega)
      rw [← hq, qx, rd_eq (qo (o + 3) x (by omega)), d3]
      by_cases l : ES p a x ≤ b x
      · rw [if_pos l]
        have nl : ¬ lt1 p a b x := fun q => by have := q.2; omega
        refine go q v1 qo qx ?_
        rcases hv with ⟨y1, y2⟩ | ⟨y1, y2, y3, y4⟩
        · refine Or.inl ⟨y1, fun j j0 j1 => ?_⟩
          by_cases e : j = i
          · rw [e, ← hx]; exact nl
          · exact y2 j j0 (by omega)
        · refine Or.inr ⟨y1, y2, y3, fun j j0 j1 l => ?_⟩
          by_cases e : j = i
          · rw [e, ← hx] at l; exact absurd l nl
          · exact y4 j j0 (by omega) l
      · have yl : lt1 p a b x := ⟨by omega, by omega⟩
        rw [if_neg l]
        rcases hv with ⟨y1, y2⟩ | ⟨y1, y2, y3, y4⟩
        · rw [if_pos (by omega)]
          refine go q x qo qx (Or.inr ⟨xr.1, xr.2, yl, fun j j0 j1 l => ?_⟩)
          by_cases e : j = i
          · rw [e, ← hx]; exact Int.le_refl _
          · exact absurd l (y2 j j0 (by omega))
        · rw [if_neg (by omega)]
          by_cases c : v1 ≤ x
          · rw [if_pos c]
            refine go q v1 qo qx (Or.inr ⟨y1, y2, y3, fun j j0 j1 l => ?_⟩)
            by_cases e : j = i
            · rw [e, ← hx]; exact c
            · exact y4 j j0 (by omega) l
          · rw [if_neg c]
            refine go q x qo qx (Or.inr ⟨xr.1, xr.2, yl, fun j j0 j1 l => ?_⟩)
            by_cases e : j = i
            · rw [e, ← hx]; exact Int.le_refl _
            · have := y4 j j0 (by omega) l; omega
theorem firstLate_e {m : Mem} {o : Nat} {N : Int} {p a b : Int → Int} (hN : 0 ≤ N ∧ N ≤ 12) (hac : Acy (inN N) p) (ha : ∀ v, 0 ≤ v → v < N → 0 ≤ a v ∧ a v ≤ 999) (hd : DD m o N p a b) : ∃ r m', F9_firstLate m o = some (r, m') ∧ (∀ k i, k ≠ o + 4 → m' k i = m k i) ∧ (∀ v, 0 ≤ v → v < N → rd m' (o + 4) v = ES p a v) ∧ lateR (inN N) p a b r := by
  unfold F9_firstLate
  exact L9_fl hN hac ha N.toNat FU 0 (-1) m (by omega) (by omega) (by rw [FU_eq]; omega) hd (fun j a b => by omega) (Or.inl ⟨rfl, fun j a b => by omega⟩)
