/-! all choices, depth first; what is found is the same -/
def RO (N c p : Nat) (r : Int) : Prop := (r = 0 ∧ ∀ j, j < p → mo N c j ≠ 9) ∨ (r = 1 ∧ ∃ q, q < p ∧ ∀ j, j < p → (mo N c j = 9 ↔ j = q))
theorem blk {N a x s r : Nat} (hx : x < N) (hr : r < s) : ((a * N + x) * s + r) / (N * s) = a := by
  have e : (a * N + x) * s + r = (x * s + r) + N * s * a := by
    rw [Nat.add_mul, Nat.mul_right_comm, Nat.mul_comm (a * s) N, ← Nat.mul_assoc, Nat.mul_right_comm N a s]; omega
  have l : x * s + r < N * s := by
    have : (x + 1) * s ≤ N * s := Nat.mul_le_mul_right s hx
    rw [Nat.add_mul] at this; omega
  rw [e, Nat.add_mul_div_left _ _ (by omega), Nat.div_eq_of_lt l, Nat.zero_add]
theorem mo_blk {N a x p d j r : Nat} (h2 : 2 ≤ N) (hp : p + (d + 1) = N) (hx : x < N) (hr : r < N ^ d) (hj : j < p) : mo N ((a * N + x) * N ^ d + r) j = mo N (a * N ^ (d + 1)) j := by
  refine mo_pre hj (by omega) ?_
  have e : N - p = d + 1 := by omega
  have pw := pw_1 (N := N) (j := d) h2
  have b0 := blk (N := N) (a := a) (x := 0) (s := N ^ d) (r := 0) (by omega) (by omega)
  rw [e, Nat.pow_succ, Nat.mul_comm (N ^ d) N, blk hx hr]
  rw [Nat.add_zero, Nat.add_zero, Nat.mul_assoc] at b0
  exact b0.symm
theorem mo_here {N a x p d r : Nat} (hp : p + (d + 1) = N) (hx : x < N) (hr : r < N ^ d) : mo N ((a * N + x) * N ^ d + r) p = if x = N - 1 then 9 else if x < p then x else x + 1 := by
  have e : N - 1 - p = d := by omega
  have := xq_at (N := N) (a := a) (x := x) (p := p) (r := r) (by omega) hx (by rw [e]; exact hr)
  rw [e] at this
  unfold mo; rw [this]
/-- what holds along the way -/
def WY (M m : Mem) (N c p z : Nat) : Prop := BR M m ∧ H104 m N c p ∧ RST m N (bst M N z)
theorem L11_mf : ∀ (d : Nat), ∀ {n : Nat} {M : Mem} (_ : Inv n M) {N : Nat} (_ : rd M 31 2 = (N : Int)) (_ : 2 ≤ N) (_ : N ≤ 6) (p f a : Nat) (r : Int) (m : Mem), p + d = N → d < f → a < N ^ p → WY M m N (a * N ^ d) p (a * N ^ d) → RO N (a * N ^ d) p r →
    ∃ m', F11_mothersFrom f m (p : Int) r = some m' ∧ WY M m' N (a * N ^ d) p ((a + 1) * N ^ d) := by
  intro d
  induction d with
  | zero =>
    intro n M hI N hN h2 h6 p f a r m h0 h1 ha hw hr
    obtain ⟨f, rfl⟩ : ∃ i, f = i + 1 := ⟨f - 1, by omega⟩
    have pN : p = N := by omega
    subst pN
    obtain ⟨hb, h, hs⟩ := hw
    rw [Nat.pow_zero, Nat.mul_one] at h hs hr ⊢
    rw [Nat.mul_one]
    have a28 : rd M 83 28 = (p : Int) := by rw [hI.2.2.2.2.2.2.2.2.1.2.2.1, hN]
    rw [F11_mothersFrom, hb.1 83 28 (by omega), a28, if_neg (fun q => q rfl)]
    rcases hr with ⟨r0, hr⟩ | ⟨r1, hr⟩
    · rw [if_pos (by omega)]
      refine ⟨m, rfl, hb, h, ?_⟩
      have e : bst M p (a + 1) = bst M p a := bl_no (Or.inl (VB_f (fun q => by
        obtain ⟨⟨x, x0, x1⟩, _⟩ := q.1
        exact hr x x0 ((x1 x x0).mpr rfl))))
      rw [e]; exact hs
    · obtain ⟨m', x, y, z⟩ := rweigh_c hI hN h2 h6 ha hb h hr hs
      rw [if_neg (by omega), x, b1_v]
      exact ⟨m', rfl, BR_s hb (fun k i q => y k i (by unfold PWr; omega)), fun j hj => by rw [rd_eq (y 104 (j : Int) (by unfold PWr; omega))]; exact h j hj, z⟩
  | succ d ih =>
    intro n M hI N hN h2 h6 p f a r m h0 h1 ha hw hr
    obtain ⟨f, rfl⟩ : ∃ i, f = i + 1 := ⟨f - 1, by omega⟩
    have a28 : rd M 83 28 = (N : Int) := by rw [hI.2.2.2.2.2.2.2.2.1.2.2.1, hN]
    have pw := pw_1 (N := N) (j := d) h2
    have st : ∀ x, x < N → a * N + x < N ^ (p + 1) := fun x hx => by
      have : (a + 1) * N ≤ N ^ p * N := Nat.mul_le_mul_right N ha
      rw [Nat.pow_succ]
      rw [Nat.add_mul] at this; omega
    have c0 : a * N ^ (d + 1) = (a * N + 0) * N ^ d := by rw [Nat.pow_succ, Nat.add_zero, Nat.mul_assoc, Nat.mul_comm (N ^ d) N]
    have cN : (a + 1) * N ^ (d + 1) = (a * N + (N - 1) + 1) * N ^ d := by
      rw [Nat.pow_succ, Nat.mul_comm (N ^ d) N, ← Nat.mul_assoc, Nat.add_mul, Nat.one_mul]
      congr 1; omega
    -- one child
    have child : ∀ (x v : Nat) (r' : Int) (m1 : Mem), x < N → v = (if x = N - 1 then 9 else if x < p then x else x + 1) → WY M m1 N (a * N ^ (d + 1)) p ((a * N + x) * N ^ d) → RO N ((a * N + x) * N ^ d) (p + 1) r' → ∃ m', F11_mothersFrom f (wr m1 104 (p : Int) (v : Int)) (w32 ((p : Int) + 1)) r' = some m' ∧ WY M m' N (a * N ^ (d + 1)) p ((a * N + x + 1) * N ^ d) := by
      intro x v r' m1 hx hv hw1 hr1
      have here := mo_here (N := N) (a := a) (x := x) (p := p) (d := d) (r := 0) h0 hx (by omega)
      rw [Nat.add_zero] at here
      have pre : ∀ j, j < p → mo N ((a * N + x) * N ^ d) j = mo N (a * N ^ (d + 1)) j := fun j hj => by
        have := mo_blk (N := N) (a := a) (x := x) (p := p) (d := d) (j := j) (r := 0) h2 h0 hx (by omega) hj
        rw [Nat.add_zero] at this; exact this
      have vb : v < 10 := by rw [hv]; split; omega; split <;> omega
      obtain ⟨m', x', y'⟩ := ih hI hN h2 h6 (p + 1) f (a * N + x) r' (wr m1 104 (p : Int) (v : Int)) (by omega) (by omega) (st x hx) ⟨⟨fun k i q => by rw [rd_wr_k (by omega)]; exact hw1.1.1 k i q, by rw [rd_wr_k (by omega)]; exact hw1.1.2⟩, fun j hj => by
        by_cases e : j = p
        · rw [e, rd_wr_s, here, ← hv]; exact w32_id (by omega) (by omega)
        · rw [rd_wr_i (by omega), pre j (by omega)]; exact hw1.2.1 j (by omega), RST_s hw1.2.2 (fun k i q => wr_ki (by omega))⟩ hr1
      rw [w32_id (x := (p : Int) + 1) (by omega) (by omega), show (p : Int) + 1 = ((p + 1 : Nat) : Int) by omega]
      exact ⟨m', x', y'.1, fun j hj => by rw [← pre j hj]; exact y'.2.1 j (by omega), y'.2.2⟩
    -- the choices that are no root
    have loop : ∀ (e t v : Nat) (m1 : Mem), v + e = N → e < t → WY M m1 N (a * N ^ (d + 1)) p ((a * N + (if v ≤ p then v else v - 1)) * N ^ d) → ∀ kk : Mem → Option Mem, ∃ m', L11_mothersFrom_20 (F11_mothersFrom f) (p : Int) r kk t (v : Int) m1 = kk m' ∧ WY M m' N (a * N ^ (d + 1)) p ((a * N + (N - 1)) * N ^ d) := by
      intro e
      induction e with
      | zero =>
        intro t v m1 k0 k1 hw1 kk
        obtain ⟨t, rfl⟩ : ∃ i, t = i + 1 := ⟨t - 1, by omega⟩
        rw [L11_mothersFrom_20, hw1.1.1 83 28 (by omega), a28, if_pos (by omega)]
        rw [if_neg (by omega), show v - 1 = N - 1 by omega] at hw1
        exact ⟨m1, rfl, hw1⟩
      | succ e ih2 =>
        intro t v m1 k0 k1 hw1 kk
        obtain ⟨t, rfl⟩ : ∃ i, t = i + 1 := ⟨t - 1, by omega⟩
        rw [L11_mothersFrom_20, hw1.1.1 83 28 (by omega), a28, if_neg (by omega)]
        simp only [jn_v]
        rw [w32_id (x := (v : Int) + 1) (by omega) (by omega), show (v : Int) + 1 = ((v + 1 : Nat) : Int) by omega]
        by_cases z : v = p
        · rw [if_neg (by omega)]
          exact ih2 t (v + 1) m1 (by omega) (by omega) (by
            rw [if_pos (by omega)] at hw1
            rw [if_neg (by omega), show v + 1 - 1 = v by omega]; exact hw1) kk
        · obtain ⟨x, hx⟩ : ∃ x, x = if v ≤ p then v else v - 1 := ⟨_, rfl⟩
          have xN : x < N - 1 := by rw [hx]; split <;> omega
          have xv : v = if x = N - 1 then 9 else if x < p then x else x + 1 := by
            rw [if_neg (by omega)]
            by_cases g : v ≤ p
            · rw [if_pos g] at hx; rw [if_pos (by omega)]; omega
            · rw [if_neg g] at hx; rw [if_neg (by omega)]; omega
          rw [← hx] at hw1
          rw [if_pos (by omega), gd_t (by omega), stw_v]
          have here := mo_here (N := N) (a := a) (x := x) (p := p) (d := d) (r := 0) h0 (by omega) (by omega)
          rw [Nat.add_zero] at here
          have pre : ∀ j, j < p → mo N ((a * N + x) * N ^ d) j = mo N (a * N ^ (d + 1)) j := fun j hj => by
            have := mo_blk (N := N) (a := a) (x := x) (p := p) (d := d) (j := j) (r := 0) h2 h0 (by omega) (by omega) hj
            rw [Nat.add_zero] at this; exact this
          have n9 : mo N ((a * N + x) * N ^ d) p ≠ 9 := by rw [here, ← xv]; omega
          obtain ⟨m2, x2, y2⟩ := child x v r m1 (by omega) xv hw1 (by
            rcases hr with ⟨r0, hr⟩ | ⟨r1, q, q0, q1⟩
            · refine Or.inl ⟨r0, fun j hj => ?_⟩
              by_cases g : j = p
              · rw [g]; exact n9
              · rw [pre j (by omega)]; exact hr j (by omega)
            · refine Or.inr ⟨r1, q, by omega, fun j hj => ?_⟩
              by_cases g : j = p
              · rw [g]; exact ⟨fun w => absurd w n9, fun w => by omega⟩
              · rw [pre j (by omega)]; exact q1 j (by omega))
          rw [x2, b1_v]
          exact ih2 t (v + 1) m2 (by omega) (by omega) (by
            have : (if v + 1 ≤ p then v + 1 else v + 1 - 1) = x + 1 := by
              rw [hx]; split <;> split <;> omega
            rw [this, ← Nat.add_assoc]; exact y2) kk
    obtain ⟨m3, x3, y3⟩ := loop N FU 0 m (by omega) (by rw [FU_eq]; omega) (by rw [if_pos (by omega), ← c0]; exact hw) (fun (m_57 : Mem) => gd (0 ≤ (p : Int) ∧ (p : Int) < 6) <| stw m_57 104 (p : Int) 9 fun m64 => if r ≠ 0 then some m64 else b1 ((F11_mothersFrom f) m64 (w32 ((p : Int) + 1)) 1) fun m74 => some m74)
    rw [F11_mothersFrom, hw.1.1 83 28 (by omega), a28, if_pos (by omega), show L11_mothersFrom_20 (F11_mothersFrom f) (p : Int) r _ FU (0 : Int) m = _ from x3, gd_t (by omega), stw_v]
    have here : ∀ r0, r0 < N ^ d → mo N ((a * N + (N - 1)) * N ^ d + r0) p = 9 := fun r0 hr0 => by
      rw [mo_here h0 (by omega) hr0, if_pos rfl]
    have pre : ∀ r0 j, r0 < N ^ d → j < p → mo N ((a * N + (N - 1)) * N ^ d + r0) j = mo N (a * N ^ (d + 1)) j := fun r0 j hr0 hj => mo_blk h2 h0 (by omega) hr0 hj
    have here0 := here 0 (by omega)
    rw [Nat.add_zero] at here0
    rcases hr with ⟨r0, hr⟩ | ⟨r1, q, q0, q1⟩
    · obtain ⟨m4, x4, y4⟩ := child (N - 1) 9 1 m3 (by omega) (by rw [if_pos rfl]) y3 (Or.inr ⟨rfl, p, by omega, fun j hj => by
        by_cases g : j = p
        · rw [g]; exact ⟨fun _ => rfl, fun _ => here0⟩
        · have := pre 0 j (by omega) (by omega)
          rw [Nat.add_zero] at this
          rw [this]; exact ⟨fun w => absurd w (hr j (by omega)), fun w => absurd w g⟩⟩)
      rw [if_neg (by omega), show wr m3 104 (p : Int) 9 = wr m3 104 (p : Int) ((9 : Nat) : Int) from rfl, x4, b1_v]
      refine ⟨m4, rfl, ?_⟩
      rw [cN]; exact y4
    · rw [if_pos (by omega)]
      refine ⟨_, rfl, ⟨fun k i g => by rw [rd_wr_k (by omega)]; exact y3.1.1 k i g, by rw [rd_wr_k (by omega)]; exact y3.1.2⟩, fun j hj => by rw [rd_wr_i (by omega)]; exact y3.2.1 j hj, ?_⟩
      have e : bst M N ((a + 1) * N ^ (d + 1)) = bst M N ((a * N + (N - 1)) * N ^ d) := by
        rw [cN, Nat.add_mul (a * N + (N - 1)) 1, Nat.one_mul]
        refine bl_skip _ (fun x g g' => Or.inl (VB_f (fun w => ?_)))
        obtain ⟨⟨b, b0, b1'⟩, _⟩ := w.1
        obtain ⟨i, rfl⟩ : ∃ i, x = (a * N + (N - 1)) * N ^ d + i := ⟨x - (a * N + (N - 1)) * N ^ d, by omega⟩
        have e1 := (b1' p (by omega)).mp (here i (by omega))
        have e2 := (b1' q (by omega)).mp (by rw [pre i q (by omega) q0]; exact (q1 q q0).mpr rfl)
        omega
      rw [e]
      exact RST_s y3.2.2 (fun k i g => wr_ki (by omega))
theorem findBest_c {n : Nat} {M m : Mem} (hI : Inv n M) {N : Nat} (hN : rd M 31 2 = (N : Int)) (h2 : 2 ≤ N) (h6 : N ≤ 6) (hm : ∀ k i, 83 ≤ k → rd m k i = rd M k i) (hv : rd m 83 31 = 0) : ∃ m', F11_findBest m = some m' ∧ RST m' N (bst M N (N ^ N)) ∧ rd m' 83 31 = 1 := by
  obtain ⟨q, hq⟩ : ∃ q, q = wr (wr (wr m 83 31 1) 83 25 (-1)) 83 33 0 := ⟨_, rfl⟩
  have qo : ∀ k i, ¬ (k = 83 ∧ (i = 31 ∨ i = 25 ∨ i = 33)) → q k i = m k i := fun k i a => by rw [hq, wr_ki (by omega), wr_ki (by omega), wr_ki (by omega)]
  have hb : BR M q := ⟨fun k i a => by rw [rd_eq (qo k i (by omega))]; exact hm k i (by omega), by rw [hq, rd_wr_i (by omega), rd_wr_s]; exact w32_id (by omega) (by omega)⟩
  obtain ⟨m', x, y⟩ := L11_mf N hI hN h2 h6 0 9 0 0 q (by omega) (by omega) (by rw [Nat.pow_zero]; omega) ⟨hb, fun j hj => by omega, by
    rw [Nat.zero_mul]
    refine ⟨?_, fun h => absurd rfl h, fun i hi => absurd hi (Nat.not_lt_zero i)⟩
    rw [hq, rd_wr_s]; exact w32_id (by omega) (by omega)⟩ (Or.inl ⟨rfl, fun j hj => by omega⟩)
  have x' : F11_mothersFrom 9 q 0 0 = some m' := x
  refine ⟨m', ?_, by have := y.2.2; rw [Nat.zero_add, Nat.one_mul] at this; exact this, ?_⟩
  · unfold F11_findBest
    rw [if_pos hv, stw_v, stw_v, stw_v, ← hq, x', b1_v]
  · have := fr_F11_mothersFrom (k := 83) (i := 31) (by omega) (by omega) (by omega) (by omega) (by omega) (by omega) (by omega) (by omega) (by omega) (by omega) (by omega) (by omega) 9 x'
    rw [rd_eq this, hq, rd_wr_i (by omega), rd_wr_i (by omega), rd_wr_s]; exact w32_id (by omega) (by omega)
