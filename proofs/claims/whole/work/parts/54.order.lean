/-! an order with mothers ahead -/
def inN (N : Int) : Int → Bool := fun v => decide (0 ≤ v ∧ v < N)
def Op (I : Int → Bool) (p : Int → Int) (n : Int) (ord : Int → Int) : Prop := (∀ i, 0 ≤ i → i < n → I (ord i) = true ∧ (0 ≤ p (ord i) → ∃ j, 0 ≤ j ∧ j < i ∧ ord j = p (ord i))) ∧ ∀ i j, 0 ≤ i → i < n → 0 ≤ j → j < n → ord i = ord j → i = j
def Od (I : Int → Bool) (p : Int → Int) (n : Int) (ord : Int → Int) : Prop := Op I p n ord ∧ ∀ v, I v = true → ∃ i, 0 ≤ i ∧ i < n ∧ ord i = v
def Pq (I : Int → Bool) (p : Int → Int) (n : Int) (ord : Int → Int) (q : Nat → Bool) : Prop := 0 ≤ n ∧ (cnt q 12 : Int) = n ∧ Op I p n ord ∧ ∀ v, 0 ≤ v → v < 12 → (q v.toNat = true ↔ ∃ i, 0 ≤ i ∧ i < n ∧ ord i = v)
theorem cnt_c {p q : Nat → Bool} : ∀ k, (∀ i, i < k → q i = p i) → cnt q k = cnt p k := fun k h => by
  have u := cnt_mono (p := p) (q := q) k (fun i x y => by rw [h i x]; exact y)
  have w := cnt_mono (p := q) (q := p) k (fun i x y => by rw [← h i x]; exact y)
  omega
theorem Pq_add {I : Int → Bool} {p ord ord' : Int → Int} {n v : Int} {q q' : Nat → Bool} (h : Pq I p n ord q) (hv : I v = true) (v0 : 0 ≤ v) (v1 : v < 12) (hq : q v.toNat = false) (hp : 0 ≤ p v → p v < 12 ∧ q (p v).toNat = true) (ho : ∀ i, 0 ≤ i → i < n → ord' i = ord i) (hn : ord' n = v) (hq' : ∀ j, j < 12 → q' j = if j = v.toNat then true else q j) : Pq I p (n + 1) ord' q' := by
  obtain ⟨n0, c, ⟨o1, o2⟩, e⟩ := h
  have nv : ∀ i, 0 ≤ i → i < n → ord i ≠ v := fun i x y z => by
    have := (e v v0 v1).mpr ⟨i, x, y, z⟩
    rw [hq] at this; cases this
  refine ⟨by omega, ?_, ⟨fun i x y => ?_, fun i j x y z w => ?_⟩, fun w w0 w1 => ?_⟩
  · have := cnt_add (p := q) (q := q') 12 v.toNat (by omega) (fun i x y => by rw [hq' i x, if_neg y]) hq (by rw [hq' _ (by omega), if_pos rfl])
    omega
  · by_cases z : i = n
    · subst z
      rw [hn]
      refine ⟨hv, fun a => ?_⟩
      obtain ⟨j, j0, j1, j2⟩ := (e (p v) a (hp a).1).mp (hp a).2
      exact ⟨j, j0, j1, by rw [ho j j0 j1]; exact j2⟩
    · rw [ho i x (by omega)]
      refine ⟨(o1 i x (by omega)).1, fun a => ?_⟩
      obtain ⟨j, j0, j1, j2⟩ := (o1 i x (by omega)).2 a
      exact ⟨j, j0, j1, by rw [ho j j0 (by omega)]; exact j2⟩
  · by_cases a : i = n <;> by_cases b : j = n
    · intro _; omega
    · rw [a, hn, ho j z (by omega)]; intro t; exact absurd t.symm (nv j z (by omega))
    · rw [b, hn, ho i x (by omega)]; intro t; exact absurd t (nv i x (by omega))
    · rw [ho i x (by omega), ho j z (by omega)]; exact o2 i j x (by omega) z (by omega)
  · rw [hq' _ (by omega)]
    by_cases a : w = v
    · rw [if_pos (by omega)]
      exact ⟨fun _ => ⟨n, n0, by omega, by rw [hn, a]⟩, fun _ => rfl⟩
    · rw [if_neg (by omega), e w w0 w1]
      constructor
      · rintro ⟨i, x, y, z⟩
        exact ⟨i, x, by omega, by rw [ho i x y]; exact z⟩
      · rintro ⟨i, x, y, z⟩
        by_cases b : i = n
        · rw [b, hn] at z; exact absurd z.symm a
        · exact ⟨i, x, by omega, by rw [← ho i x (by omega)]; exact z⟩
def cI (I : Int → Bool) : Nat := cnt (fun i => I (i : Int)) 12
theorem Pq_I {I : Int → Bool} {p ord : Int → Int} {n : Int} {q : Nat → Bool} (h : Pq I p n ord q) {j : Nat} (hj : j < 12) (hq : q j = true) : I (j : Int) = true := by
  obtain ⟨n0, c, ⟨o1, o2⟩, e⟩ := h
  obtain ⟨i, x, y, z⟩ := (e (j : Int) (by omega) (by omega)).mp (by rw [show ((j : Int)).toNat = j by omega]; exact hq)
  rw [← z]; exact (o1 i x y).1
theorem Pq_le {I : Int → Bool} {p ord : Int → Int} {n : Int} {q : Nat → Bool} (h : Pq I p n ord q) : n ≤ (cI I : Int) := by
  have := cnt_mono (p := q) (q := fun i => I (i : Int)) 12 (fun i x y => Pq_I h x y)
  have := h.2.1
  unfold cI; omega
theorem Pq_lt {I : Int → Bool} {p ord : Int → Int} {n v : Int} {q : Nat → Bool} (h : Pq I p n ord q) (hv : I v = true) (v0 : 0 ≤ v) (v1 : v < 12) (hq : q v.toNat = false) : n < (cI I : Int) := by
  have := cnt_lt (p := q) (q := fun i => I (i : Int)) 12 v.toNat (by omega) (fun i x y => Pq_I h x y) hq (by rw [show ((v.toNat : Nat) : Int) = v by omega]; exact hv)
  have := h.2.1
  unfold cI; omega
theorem Pq_ex {I : Int → Bool} {p ord : Int → Int} {n : Int} {q : Nat → Bool} (h : Pq I p n ord q) (hn : n < (cI I : Int)) : ∃ v : Int, 0 ≤ v ∧ v < 12 ∧ I v = true ∧ q v.toNat = false := by
  apply Classical.byContradiction
  intro hh
  have := cnt_mono (p := fun i => I (i : Int)) (q := q) 12 (fun i x y => by
    cases z : q i with
    | true => rfl
    | false => exact absurd ⟨(i : Int), by omega, by omega, y, by rw [show ((i : Int)).toNat = i by omega]; exact z⟩ hh)
  have := h.2.1
  unfold cI at hn; omega
/-- one that is not placed yet, its mother placed -/
theorem Pq_ready {I : Int → Bool} {p : Int → Int} {q : Nat → Bool} (ha : Acy I p) : ∀ (k : Nat) (v : Int), (∀ rk : Int → Nat, (∀ c, I c = true → 0 ≤ p c → rk (p c) < rk c) → True) → I v = true → q v.toNat = false → (∃ rk : Int → Nat, (∀ c, I c = true → 0 ≤ p c → rk (p c) < rk c) ∧ rk v < k) → ∃ v : Int, I v = true ∧ q v.toNat = false ∧ (0 ≤ p v → q (p v).toNat = true)
  | 0, v, _, _, _, ⟨rk, _, h⟩ => by omega
  | k + 1, v, t, hv, hq, ⟨rk, hr, h⟩ => by
    by_cases a : 0 ≤ p v ∧ q (p v).toNat = false
    · have := hr v hv a.1
      exact Pq_ready ha k (p v) t (ha.2.1 v hv a.1) a.2 ⟨rk, hr, by omega⟩
    · refine ⟨v, hv, hq, fun b => ?_⟩
      cases z : q (p v).toNat with
      | true => rfl
      | false => exact absurd ⟨b, z⟩ a
theorem Pq_next {I : Int → Bool} {p ord : Int → Int} {n : Int} {q : Nat → Bool} (ha : Acy I p) (h : Pq I p n ord q) (hn : n < (cI I : Int)) : ∃ v : Int, I v = true ∧ q v.toNat = false ∧ (0 ≤ p v → q (p v).toNat = true) := by
  obtain ⟨v, v0, v1, v2, v3⟩ := Pq_ex h hn
  obtain ⟨rk, r1, r2⟩ := ha.2.2
  exact Pq_ready ha 12 v (fun _ _ => trivial) v2 v3 ⟨rk, r1, r2 v v2⟩
theorem Pq_full {I : Int → Bool} {p ord : Int → Int} {n : Int} {q : Nat → Bool} (ha : Acy I p) (h : Pq I p n ord q) (hn : n = (cI I : Int)) : Od I p n ord := by
  refine ⟨h.2.2.1, fun v hv => ?_⟩
  have b := ha.1 v hv
  refine (h.2.2.2 v b.1 b.2).mp ?_
  cases z : q v.toNat with
  | true => rfl
  | false => have := Pq_lt h hv b.1 b.2 z; omega
theorem cI_N {N : Int} (h0 : 0 ≤ N) (h1 : N ≤ 12) : (cI (inN N) : Int) = N := by
  have : ∀ k : Fin 13, cnt (fun i => decide (0 ≤ (i : Int) ∧ (i : Int) < ((k : Nat) : Int))) 12 = (k : Nat) := by decide +kernel
  have := this ⟨N.toNat, by omega⟩
  dsimp only at this
  rw [show ((N.toNat : Nat) : Int) = N by omega] at this
  show ((cnt (fun i => decide (0 ≤ (i : Int) ∧ (i : Int) < N)) 12 : Nat) : Int) = N
  rw [this]; omega
theorem Od_lt {I : Int → Bool} {p ord : Int → Int} {n : Int} (ha : Acy I p) (h : Od I p n ord) {i : Int} (h0 : 0 ≤ i) (h1 : i < n) : 0 ≤ ord i ∧ ord i < 12 := ha.1 _ (h.1.1 i h0 h1).1
/-! the class's order -/
theorem inN_e {N v : Int} : inN N v = true ↔ 0 ≤ v ∧ v < N := by unfold inN; exact decide_eq_true_iff
theorem L9_arr {o : Nat} {N : Int} {p : Int → Int} {kk : Int → Int → Mem → Option (Int × Mem)} (hN : 0 ≤ N ∧ N ≤ 12) (ha : Acy (inN N) p) : ∀ (d f : Nat) (v1 v2 v4 : Int) (m : Mem), v4 + d = N → 0 ≤ v4 → d < f → rd m o 0 = N → (∀ v, 0 ≤ v → v < N → rd m (o + 1) v = p v) → Pq (inN N) p v2 (fun i => rd m (o + 7) i) (mb v1) →
    ∃ v1' v2' m', L9_arrange_25 o kk f v1 v2 v4 m = kk v1' v2' m' ∧ Pq (inN N) p v2' (fun i => rd m' (o + 7) i) (mb v1') ∧ (∀ k i, k ≠ o + 7 → m' k i = m k i) ∧ (∀ j, j < 12 → mb v1 j = true → mb v1' j = true) ∧ (∀ v, v4 ≤ v → v < N → (0 ≤ p v → mb v1 (p v).toNat = true) → mb v1' v.toNat = true) := by
  intro d
  induction d with
  | zero =>
    intro f v1 v2 v4 m h0 h1 h2 e0 e1 h
    obtain ⟨f, rfl⟩ : ∃ j, f = j + 1 := ⟨f - 1, by omega⟩
    rw [L9_arrange_25, e0, if_pos (by omega)]
    exact ⟨v1, v2, m, rfl, h, fun _ _ _ => rfl, fun _ _ x => x, fun v a b => by omega⟩
  | succ d ih =>
    intro f v1 v2 v4 m h0 h1 h2 e0 e1 h
    obtain ⟨f, rfl⟩ : ∃ j, f = j + 1 := ⟨f - 1, by omega⟩
    have pv := e1 v4 h1 (by omega)
    have hv : inN N v4 = true := inN_e.mpr ⟨h1, by omega⟩
    have hpv : 0 ≤ p v4 → p v4 < N := fun a => (inN_e.mp (ha.2.1 v4 hv a)).2
    rw [L9_arrange_25, e0, if_neg (by omega), gd_t (by omega)]
    simp only [jn_v]
    rw [gd_t (show 0 ≤ v4 ∧ v4 < 12 by omega), pv]
    -- skipped, or placed
    have skip : (mb v1 v4.toNat = true ∨ ¬ (0 ≤ p v4 → mb v1 (p v4).toNat = true)) → ∃ v1' v2' m', L9_arrange_25 o kk f v1 v2 (w32 (v4 + 1)) m = kk v1' v2' m' ∧ Pq (inN N) p v2' (fun i => rd m' (o + 7) i) (mb v1') ∧ (∀ k i, k ≠ o + 7 → m' k i = m k i) ∧ (∀ j, j < 12 → mb v1 j = true → mb v1' j = true) ∧ (∀ v, v4 ≤ v → v < N → (0 ≤ p v → mb v1 (p v).toNat = true) → mb v1' v.toNat = true) := by
      intro q
      rw [w32_id (x := v4 + 1) (by omega) (by omega)]
      obtain ⟨a, b, m', x, y, z, u, w⟩ := ih f v1 v2 (v4 + 1) m (by omega) (by omega) (by omega) e0 e1 h
      refine ⟨a, b, m', x, y, z, u, fun v r s t => ?_⟩
      by_cases g : v = v4
      · subst g
        rcases q with q | q
        · exact u _ (by omega) q
        · exact absurd t q
      · exact w v (by omega) s t
    have place : mb v1 v4.toNat = false → (0 ≤ p v4 → mb v1 (p v4).toNat = true) → ∃ v1' v2' m', L9_arrange_25 o kk f (bor v1 (shl 1 v4)) (w32 (v2 + 1)) (w32 (v4 + 1)) (wr m (o + 7) v2 v4) = kk v1' v2' m' ∧ Pq (inN N) p v2' (fun i => rd m' (o + 7) i) (mb v1') ∧ (∀ k i, k ≠ o + 7 → m' k i = m k i) ∧ (∀ j, j < 12 → mb v1 j = true → mb v1' j = true) ∧ (∀ v, v4 ≤ v → v < N → (0 ≤ p v → mb v1 (p v).toNat = true) → mb v1' v.toNat = true) := by
      intro q t
      have l := Pq_lt h hv h1 (by omega) q
      rw [cI_N hN.1 hN.2] at l
      have l0 := h.1
      rw [w32_id (x := v4 + 1) (by omega) (by omega), w32_id (x := v2 + 1) (by omega) (by omega)]
      have mo : ∀ j, j < 12 → mb (bor v1 (shl 1 v4)) j = if j = v4.toNat then true else mb v1 j := fun j x => by
        show bt _ (j : Int) = _
        rw [bt_or (by omega) (by omega) (by omega) (by omega)]
        by_cases z : j = v4.toNat
        · rw [if_pos z, if_pos (by omega)]
        · rw [if_neg z, if_neg (by omega)]; rfl
      obtain ⟨a, b, m', x, y, z, u, w⟩ := ih f (bor v1 (shl 1 v4)) (v2 + 1) (v4 + 1) (wr m (o + 7) v2 v4) (by omega) (by omega) (by omega) (by rw [rd_wr_k (by omega)]; exact e0) (fun v r s => by rw [rd_wr_k (by omega)]; exact e1 v r s) (Pq_add h hv h1 (by omega) q (fun a => ⟨by have := hpv a; omega, t a⟩) (fun i r s => by rw [rd_wr_i (by omega)]) (by rw [rd_wr_s]; exact w32_id (by omega) (by omega)) mo)
      refine ⟨a, b, m', x, y, fun k i g => by rw [z k i g, wr_ki (by omega)], fun j r s => u j r (by rw [mo j r]; split; rfl; exact s), fun v r s g => ?_⟩
      by_cases e : v = v4
      · subst e
        exact u _ (by omega) (by rw [mo _ (by omega), if_pos rfl])
      · refine w v (by omega) s (fun g0 => ?_)
        have gg := g g0
        have : p v < N := (inN_e.mp (ha.2.1 v (inN_e.mpr ⟨by omega, s⟩) g0)).2
        rw [mo _ (by omega)]; split; rfl; exact gg
    have bit : ∀ k : Int, 0 ≤ k → k < 12 → band (shr v1 k) 1 = if mb v1 k.toNat = true then 1 else 0 := fun k x y => by
      rw [bit_e x (by omega)]
      show _ = if bt v1 ((k.toNat : Nat) : Int) = true then (1 : Int) else 0
      rw [show ((k.toNat : Nat) : Int) = k by omega]
    have l1 : mb v1 v4.toNat = false → v2 < N := fun q => by
      have l := Pq_lt h hv h1 (by omega) q
      rw [cI_N hN.1 hN.2] at l; omega
    have l0 := h.1
    rw [bit v4 h1 (by omega)]
    have fin : (if (1 : Int) = 0 then L9_arrange_25 o kk f v1 v2 (w32 (v4 + 1)) m else if (if mb v1 v4.toNat = true then (1 : Int) else 0) ≠ 0 then L9_arrange_25 o kk f v1 v2 (w32 (v4 + 1)) m else if N ≤ v2 then L9_arrange_25 o kk f v1 v2 (w32 (v4 + 1)) m else gd (0 ≤ v2 ∧ v2 < 12) <| stw m (o + 7) v2 v4 fun m101 => L9_arrange_25 o kk f (bor v1 (shl 1 v4)) (w32 (v2 + 1)) (w32 (v4 + 1)) m101) = if mb v1 v4.toNat = true then L9_arrange_25 o kk f v1 v2 (w32 (v4 + 1)) m else L9_arrange_25 o kk f (bor v1 (shl 1 v4)) (w32 (v2 + 1)) (w32 (v4 + 1)) (wr m (o + 7) v2 v4) := by
      rw [if_neg (by omega)]
      by_cases c : mb v1 v4.toNat = true
      · rw [if_pos c, if_pos (by omega), if_pos c]
      · have c' : mb v1 v4.toNat = false := by
          cases z : mb v1 v4.toNat with
          | true => exact absurd z c
          | false => rfl
        have := l1 c'
        rw [if_neg c, if_neg (by omega), if_neg (by omega), gd_t (by omega), stw_v, if_neg c]
    have two : (0 ≤ p v4 → mb v1 (p v4).toNat = true) → ∃ v1' v2' m', (if mb v1 v4.toNat = true then L9_arrange_25 o kk f v1 v2 (w32 (v4 + 1)) m else L9_arrange_25 o kk f (bor v1 (shl 1 v4)) (w32 (v2 + 1)) (w32 (v4 + 1)) (wr m (o + 7) v2 v4)) = kk v1' v2' m' ∧ Pq (inN N) p v2' (fun i => rd m' (o + 7) i) (mb v1') ∧ (∀ k i, k ≠ o + 7 → m' k i = m k i) ∧ (∀ j, j < 12 → mb v1 j = true → mb v1' j = true) ∧ (∀ v, v4 ≤ v → v < N → (0 ≤ p v → mb v1 (p v).toNat = true) → mb v1' v.toNat = true) := by
      intro b
      by_cases c : mb v1 v4.toNat = true
      · rw [if_pos c]; exact skip (Or.inl c)
      · rw [if_neg c]
        refine place ?_ b
        cases z : mb v1 v4.toNat with
        | true => exact absurd z c
        | false => rfl
    by_cases a : p v4 < 0
    · rw [if_pos a, fin]
      exact two (fun g => by omega)
    · have := hpv (by omega)
      rw [if_neg a, bit (p v4) (by omega) (by omega)]
      by_cases b : mb v1 (p v4).toNat = true
      · rw [if_pos b, if_neg (show ¬ ((1 : Int) = 0) by omega), fin]
        exact two (fun _ => b)
      · rw [if_neg b, if_pos rfl, if_pos trivial]
        exact skip (Or.inr (fun t => b (t (by omega))))
theorem L9_arr2 {o : Nat} {N : Int} {p : Int → Int} {kk : Int → Mem → Option (Int × Mem)} (hN : 0 ≤ N ∧ N ≤ 12) (ha : Acy (inN N) p) : ∀ (d f : Nat) (v1 v2 v3 : Int) (m : Mem), v3 + d = N → 0 ≤ v3 → d < f → rd m o 0 = N → (∀ v, 0 ≤ v → v < N → rd m (o + 1) v = p v) → Pq (inN N) p v2 (fun i => rd m (o + 7) i) (mb v1) → v3 ≤ v2 →
    ∃ m', L9_arrange_6 o kk f v1 v2 v3 m = kk N m' ∧ Od (inN N) p N (fun i => rd m' (o + 7) i) ∧ (∀ k i, k ≠ o + 7 → m' k i = m k i) := by
  intro d
  induction d with
  | zero =>
    intro f v1 v2 v3 m h0 h1 h2 e0 e1 h h3
    obtain ⟨f, rfl⟩ : ∃ j, f = j + 1 := ⟨f - 1, by omega⟩
    have l := Pq_le h
    rw [cI_N hN.1 hN.2] at l
    rw [L9_arrange_6, e0, if_pos (by omega)]
    have : v2 = N := by omega
    subst this
    exact ⟨m, rfl, Pq_full ha h (cI_N hN.1 hN.2).symm, fun _ _ _ => rfl⟩
  | succ d ih =>
    intro f v1 v2 v3 m h0 h1 h2 e0 e1 h h3
    obtain ⟨f, rfl⟩ : ∃ j, f = j + 1 := ⟨f - 1, by omega⟩
    have l := Pq_le h
    rw [cI_N hN.1 hN.2] at l
    rw [L9_arrange_6, e0, if_neg (by omega)]
    by_cases a : N ≤ v2
    · rw [if_pos a]
      have : v2 = N := by omega
      subst this
      exact ⟨m, rfl, Pq_full ha h (cI_N hN.1 hN.2).symm, fun _ _ _ => rfl⟩
    · rw [if_neg a]
      obtain ⟨v1', v2', m', x, y, z, u, w⟩ := L9_arr (o := o) (kk := fun (v1_111 : Int) (v2_111 : Int) (m_111 : Mem) => L9_arrange_6 o kk f v1_111 v2_111 (w32 (v3 + 1)) m_111) hN ha N.toNat FU v1 v2 0 m (by omega) (by omega) (by rw [FU_eq]; omega) e0 e1 h
      obtain ⟨v, a1, a2, a3⟩ := Pq_next ha h (by rw [cI_N hN.1 hN.2]; omega)
      have vr := inN_e.mp a1
      have b1' := w v vr.1 vr.2 a3
      have lt := cnt_lt (p := mb v1) (q := mb v1') 12 v.toNat (by omega) u a2 b1'
      have c1 := h.2.1
      have c2 := y.2.1
      obtain ⟨m'', p1, p2, p3⟩ := ih f v1' v2' (v3 + 1) m' (by omega) (by omega) (by omega) (by rw [rd_eq (z o 0 (by omega))]; exact e0) (fun t r s => by rw [rd_eq (z (o + 1) t (by omega))]; exact e1 t r s) y (by omega)
      refine ⟨m'', ?_, p2, fun k i g => by rw [p3 k i g]; exact z k i g⟩
      rw [x, w32_id (x := v3 + 1) (by omega) (by omega)]
      exact p1
theorem mb_00 : ∀ j, mb 0 j = false := fun j => by
  show (Int32.ofInt 0).toBitVec.getLsbD ((j : Int)).toNat = false
  rw [show (Int32.ofInt 0).toBitVec = 0#32 from rfl, BitVec.getLsbD_zero]
theorem cnt_00 : cnt (mb 0) 12 = 0 := by
  rw [cnt_c (p := fun _ => false) (q := mb 0) 12 (fun i _ => mb_00 i)]; rfl
theorem arr_e {m : Mem} {o : Nat} {N : Int} {p : Int → Int} (hN : 0 ≤ N ∧ N ≤ 12) (ha : Acy (inN N) p) (e0 : rd m o 0 = N) (e1 : ∀ v, 0 ≤ v → v < N → rd m (o + 1) v = p v) : ∃ m', F9_arrange m o = some (1, m') ∧ Od (inN N) p N (fun i => rd m' (o + 7) i) ∧ (∀ k i, k ≠ o + 7 → m' k i = m k i) := by
  unfold F9_arrange
  obtain ⟨m', x, y, z⟩ := L9_arr2 (o := o) (kk := fun (v2_117 : Int) (m_117 : Mem) => if v2_117 ≠ (rd m_117 o 0) then some (0, m_117) else some (1, m_117)) hN ha N.toNat FU 0 0 0 m (by omega) (by omega) (by rw [FU_eq]; omega) e0 e1 ⟨by omega, by (rw [cnt_00]; rfl), ⟨fun i a b => by omega, fun i j a b => by omega⟩, fun v a b => ⟨fun h => by (rw [mb_00] at h; cases h), fun ⟨i, c, d, _⟩ => by omega⟩⟩ (by omega)
  refine ⟨m', ?_, y, z⟩
  rw [x]
  show (if N ≠ rd m' o 0 then some (0, m') else some (1, m')) = _
  rw [rd_eq (z o 0 (by omega)), e0, if_neg (by omega)]
