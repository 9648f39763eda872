/-! the choices of a code, place by place: a mother's place, or 9 for the root -/
def xq (N c p : Nat) : Nat := c / N ^ (N - 1 - p) % N
def mo (N c p : Nat) : Nat := if xq N c p = N - 1 then 9 else if xq N c p < p then xq N c p else xq N c p + 1
theorem xq_lt {N c p : Nat} (hN : 0 < N) : xq N c p < N := Nat.mod_lt _ hN
theorem mo_r {N c p : Nat} (h2 : 2 ≤ N) : mo N c p = 9 ∨ (mo N c p < N ∧ mo N c p ≠ p) := by
  have := xq_lt (N := N) (c := c) (p := p) (by omega)
  unfold mo; split
  · exact Or.inl rfl
  · split
    · right; omega
    · right; omega
theorem pw_b {N j : Nat} (h6 : N ≤ 6) (h : j ≤ 6) : N ^ j ≤ 46656 := by
  have a : N ^ j ≤ 6 ^ j := Nat.pow_le_pow_left h6 j
  have b : 6 ^ j ≤ 6 ^ 6 := Nat.pow_le_pow_right (by omega) h
  have e : (6 : Nat) ^ 6 = 46656 := rfl
  omega
theorem pw_1 {N j : Nat} (h2 : 2 ≤ N) : 1 ≤ N ^ j := Nat.pow_pos (by omega)
theorem xq_pre {N c c' j p : Nat} (hj : j < p) (hp : p ≤ N) (h : c / N ^ (N - p) = c' / N ^ (N - p)) : xq N c j = xq N c' j := by
  have e : N ^ (N - 1 - j) = N ^ (N - p) * N ^ (p - 1 - j) := by
    rw [← Nat.pow_add]; congr 1; omega
  unfold xq
  rw [e, ← Nat.div_div_eq_div_mul, ← Nat.div_div_eq_div_mul, h]
theorem mo_pre {N c c' j p : Nat} (hj : j < p) (hp : p ≤ N) (h : c / N ^ (N - p) = c' / N ^ (N - p)) : mo N c j = mo N c' j := by
  unfold mo; rw [xq_pre hj hp h]
/-- the choice at p of what begins with a and then x -/
theorem xq_at {N a x p r : Nat} (hp : p < N) (hx : x < N) (hr : r < N ^ (N - 1 - p)) : xq N ((a * N + x) * N ^ (N - 1 - p) + r) p = x := by
  unfold xq
  rw [Nat.mul_comm, Nat.mul_add_div (by omega), Nat.div_eq_of_lt hr, Nat.add_zero, Nat.mul_comm, Nat.mul_add_mod, Nat.mod_eq_of_lt hx]
/-- what the class has at hand to read the choices -/
def CP (m : Mem) (N : Nat) : Prop := rd m 31 2 = (N : Int) ∧ 2 ≤ N ∧ N ≤ 6 ∧ ∀ p : Nat, p < N → rd m 47 (p : Int) = ((N ^ (N - 1 - p) : Nat) : Int)
theorem CP_s {m m' : Mem} {N : Nat} (h : CP m N) (g2 : rd m' 31 2 = rd m 31 2) (g : ∀ i, rd m' 47 i = rd m 47 i) : CP m' N :=
  ⟨by rw [g2]; exact h.1, h.2.1, h.2.2.1, fun p hp => by rw [g]; exact h.2.2.2 p hp⟩
theorem chosen_e {m : Mem} {N c p : Nat} (h : CP m N) (hp : p < N) (hc : c < 2147483648) : F0_chosen m (c : Int) (p : Int) = some ((mo N c p : Nat) : Int) := by
  obtain ⟨h1, h2, h6, h47⟩ := h
  have pb := pw_b (N := N) (j := N - 1 - p) h6 (by omega)
  have p1 := pw_1 (N := N) (j := N - 1 - p) h2
  have l : c / N ^ (N - 1 - p) ≤ c := Nat.div_le_self c _
  have e1 : imx 1 ((N ^ (N - 1 - p) : Nat) : Int) = ((N ^ (N - 1 - p) : Nat) : Int) := by rw [imx_e]; omega
  have e2 : imx 1 (N : Int) = (N : Int) := by rw [imx_e]; omega
  have e : irm (idv (c : Int) ((N ^ (N - 1 - p) : Nat) : Int)) (N : Int) = ((xq N c p : Nat) : Int) := by
    rw [idv_n hc (by omega) (by omega)]
    unfold xq
    generalize c / N ^ (N - 1 - p) = u at l ⊢
    rw [irm_e (by omega) (by omega) (by omega) (by omega), ← Int.natCast_emod]
  have x := xq_lt (N := N) (c := c) (p := p) (by omega)
  unfold F0_chosen
  rw [h1, h47 p hp, e1, e2, gd_t (by omega), gd_t (by omega), gd_t (by omega), e, w32_id (by omega) (by omega), w32_id (by omega) (by omega)]
  unfold mo
  by_cases a : xq N c p = N - 1
  · rw [if_neg (by omega), if_pos a]; rfl
  · rw [if_pos (by omega), if_neg a]
    by_cases b : xq N c p < p
    · rw [if_neg (by omega), if_pos b]
    · rw [if_pos (by omega), if_neg b]; rfl
/-! rings among the places: a walk from a place on -/
def wk (f : Nat → Nat) (q : Nat) : Nat → Nat → Nat
  | 0, x => x
  | n + 1, x => if x < q then wk f q n (f x) else x
def okm (f : Nat → Nat) (N : Nat) : Prop := ∀ v, v < N → f v = 9 ∨ (f v < N ∧ f v ≠ v)
/-- no ring: a rank -/
def Rk (f : Nat → Nat) (N : Nat) : Prop := ∃ rk : Nat → Nat, ∀ v, v < N → f v ≠ 9 → rk (f v) < rk v
theorem wk_c {f g : Nat → Nat} {q : Nat} (h : ∀ v, v < q → f v = g v) : ∀ n x, wk f q n x = wk g q n x
  | 0, x => rfl
  | n + 1, x => by
    unfold wk
    by_cases a : x < q
    · rw [if_pos a, if_pos a, h x a]; exact wk_c h n _
    · rw [if_neg a, if_neg a]
theorem wk_no {f : Nat → Nat} {N q : Nat} (h6 : N ≤ 6) (ho : okm f N) {rk : Nat → Nat} (hr : ∀ v, v < N → f v ≠ 9 → rk (f v) < rk v) (hq : q < N) : ∀ n x, (x = 9 ∨ (x < N ∧ rk x < rk q)) → wk f q n x ≠ q
  | 0, x, h => by
    unfold wk
    rcases h with h | h
    · omega
    · intro e; rw [e] at h; omega
  | n + 1, x, h => by
    unfold wk
    by_cases a : x < q
    · rw [if_pos a]
      refine wk_no h6 ho hr hq n (f x) ?_
      rcases h with h | h
      · omega
      · rcases ho x h.1 with o | o
        · exact Or.inl o
        · have := hr x h.1 (by omega)
          exact Or.inr ⟨o.1, by omega⟩
    · rw [if_neg a]
      rcases h with h | h
      · omega
      · intro e; rw [e] at h; omega
/-- a place's mother closes no ring with the places ahead -/
theorem ring_no {f : Nat → Nat} {N q : Nat} (h6 : N ≤ 6) (ho : okm f N) (hr : Rk f N) (hq : q < N) (n : Nat) : f q ≠ 9 → wk f q n (f q) ≠ q := fun h => by
  obtain ⟨rk, r⟩ := hr
  rcases ho q hq with o | o
  · exact absurd o h
  · exact wk_no h6 ho r hq n (f q) (Or.inr ⟨o.1, r q hq h⟩)
/-! no ring, from the walks -/
theorem rk_b {f : Nat → Nat} {N : Nat} {rk : Nat → Nat} (ho : okm f N) (hr : ∀ v, v < N → f v ≠ 9 → rk (f v) < rk v) : ∃ rk' : Nat → Nat, (∀ v, v < N → f v ≠ 9 → rk' (f v) < rk' v) ∧ ∀ v, v < N → rk' v < N := by
  refine ⟨fun c => cnt (fun i => decide (rk i < rk c)) N, fun v hv h => ?_, fun v hv => ?_⟩
  · have w := hr v hv h
    have o := (ho v hv).resolve_left h
    exact cnt_lt N (f v) o.1 (fun i _ p => decide_eq_true (by have := of_decide_eq_true p; omega)) (decide_eq_false (by omega)) (decide_eq_true w)
  · have := cnt_lt (p := fun i => decide (rk i < rk v)) (q := fun _ => true) N v hv (fun i _ _ => rfl) (decide_eq_false (by omega)) rfl
    have w := cnt_le (fun _ => true) N
    dsimp only
    omega
/-- the choices of the places below k alone -/
def upto (f : Nat → Nat) (k : Nat) : Nat → Nat := fun v => if v < k then f v else 9
theorem wk_hit {f : Nat → Nat} {N k : Nat} (ho : okm f N) {rk : Nat → Nat} (hr : ∀ v, v < N → upto f k v ≠ 9 → rk (upto f k v) < rk v) (hk : k < N) (h6 : N ≤ 6) : ∀ n x j, x < N → rk x < n → (∃ i, i ≤ j ∧ wk f k i x = k) → wk f k n x = k
  | 0, x, j, _, h, _ => by omega
  | n + 1, x, j, hx, h, ⟨i, i1, i2⟩ => by
    unfold wk
    by_cases a : x < k
    · rw [if_pos a]
      cases i with
      | zero => unfold wk at i2; omega
      | succ i =>
        unfold wk at i2
        rw [if_pos a] at i2
        have u : upto f k x = f x := if_pos a
        rcases ho x hx with o | o
        · rw [o] at i2
          have : wk f k i 9 = 9 := by
            cases i with
            | zero => rfl
            | succ i => unfold wk; rw [if_neg (by omega)]
          omega
        · have := hr x hx (by rw [u]; omega)
          rw [u] at this
          exact wk_hit ho hr hk h6 n (f x) i o.1 (by omega) ⟨i, Nat.le_refl _, i2⟩
    · rw [if_neg a]
      cases i with
      | zero => unfold wk at i2; exact i2
      | succ i => unfold wk at i2; rw [if_neg a] at i2; exact i2
theorem okm_upto {f : Nat → Nat} {N : Nat} (ho : okm f N) (k : Nat) : okm (upto f k) N := fun v hv => by
  unfold upto; split
  · exact ho v hv
  · exact Or.inl rfl
/-- whether x comes to k by places below k -/
def leads (f : Nat → Nat) (k x : Nat) : Prop := ∃ i, wk f k i x = k
theorem rk_step {f : Nat → Nat} {N k : Nat} (h6 : N ≤ 6) (ho : okm f N) (hk : k < N) (h : Rk (upto f k) N) (hw : f k ≠ 9 → wk f k N (f k) ≠ k) : Rk (upto f (k + 1)) N := by
  obtain ⟨r0, h0⟩ := h
  obtain ⟨rk, r1, r2⟩ := rk_b (okm_upto ho k) h0
  classical
  refine ⟨fun v => if leads f k v then rk v + N + 1 else rk v, fun v hv h => ?_⟩
  dsimp only
  have kk : leads f k k := ⟨0, rfl⟩
  by_cases a : v < k
  · have u : upto f (k + 1) v = f v := if_pos (by omega)
    have u' : upto f k v = f v := if_pos a
    rw [u] at h ⊢
    have r := r1 v hv (by rw [u']; exact h)
    rw [u'] at r
    by_cases b : leads f k (f v)
    · obtain ⟨i, hi⟩ := b
      have : leads f k v := ⟨i + 1, by unfold wk; rw [if_pos a]; exact hi⟩
      rw [if_pos ⟨i, hi⟩, if_pos this]; omega
    · rw [if_neg b]; split <;> omega
  · by_cases b : v = k
    · subst b
      have u : upto f (v + 1) v = f v := if_pos (by omega)
      rw [u] at h ⊢
      have o := (ho v hv).resolve_left h
      have nl : ¬ leads f v (f v) := fun ⟨i, hi⟩ => hw h (wk_hit ho r1 hk h6 N (f v) i o.1 (r2 _ o.1) ⟨i, Nat.le_refl _, hi⟩)
      rw [if_neg nl, if_pos kk]
      have := r2 _ o.1
      omega
    · have u : upto f (k + 1) v = 9 := if_neg (by omega)
      exact absurd u h
theorem rk_all {f : Nat → Nat} {N : Nat} (h6 : N ≤ 6) (ho : okm f N) : ∀ k, k ≤ N → (∀ q, q < k → f q ≠ 9 → wk f q N (f q) ≠ q) → Rk (upto f k) N
  | 0, _, _ => ⟨fun _ => 0, fun v _ h => absurd (if_neg (by omega)) h⟩
  | k + 1, hk, h => rk_step h6 ho (by omega) (rk_all h6 ho k (by omega) (fun q x => h q (by omega))) (h k (by omega))
theorem rkm_of {f : Nat → Nat} {N : Nat} (h6 : N ≤ 6) (ho : okm f N) (h : ∀ q, q < N → f q ≠ 9 → wk f q N (f q) ≠ q) : Rk f N := by
  obtain ⟨rk, r⟩ := rk_all h6 ho N (Nat.le_refl _) h
  refine ⟨rk, fun v hv x => ?_⟩
  have u : upto f N v = f v := if_pos hv
  have := r v hv (by rw [u]; exact x)
  rw [u] at this; exact this
/-! all ways end at 9: the reference's test -/
def itr (f : Nat → Nat) : Nat → Nat → Nat
  | 0, x => x
  | n + 1, x => if x = 9 then 9 else itr f n (f x)
theorem itr_9 (f : Nat → Nat) : ∀ n, itr f n 9 = 9
  | 0 => rfl
  | n + 1 => if_pos rfl
theorem cnt_sh (p : Nat → Bool) : ∀ k, cnt p (k + 1) = (if p 0 then 1 else 0) + cnt (fun i => p (i + 1)) k
  | 0 => by show 0 + (if p 0 then 1 else 0) = (if p 0 then 1 else 0) + 0; rw [Nat.zero_add, Nat.add_zero]
  | k + 1 => by
    show cnt p (k + 1) + (if p (k + 1) then 1 else 0) = _ + (cnt (fun i => p (i + 1)) k + (if p (k + 1) then 1 else 0))
    rw [cnt_sh p k]; omega
theorem rk_itr {f : Nat → Nat} {N : Nat} (h6 : N ≤ 6) (ho : okm f N) (h : ∀ v, v < N → itr f N v = 9) : Rk f N := by
  refine ⟨fun v => cnt (fun n => decide (itr f n v ≠ 9)) N, fun v hv x => ?_⟩
  obtain ⟨K, rfl⟩ : ∃ K, N = K + 1 := ⟨N - 1, by omega⟩
  have v9 : v ≠ 9 := by omega
  have e : ∀ n, itr f (n + 1) v = itr f n (f v) := fun n => if_neg v9
  dsimp only
  rw [cnt_sh (fun n => decide (itr f n v ≠ 9)) K]
  show cnt (fun n => decide (itr f n (f v) ≠ 9)) K + (if decide (itr f K (f v) ≠ 9) then 1 else 0) < _
  have l := h v hv
  rw [e] at l
  rw [l]
  simp only [e]
  have z : itr f 0 v = v := rfl
  rw [z, if_pos (decide_eq_true v9)]
  simp
theorem itr_rk {f : Nat → Nat} {N : Nat} (h6 : N ≤ 6) (ho : okm f N) {rk : Nat → Nat} (hr : ∀ v, v < N → f v ≠ 9 → rk (f v) < rk v) : ∀ n x, (x = 9 ∨ (x < N ∧ rk x < n)) → itr f n x = 9
  | 0, x, h => by
    rcases h with h | h
    · rw [h]; rfl
    · omega
  | n + 1, x, h => by
    unfold itr
    by_cases a : x = 9
    · rw [if_pos a]
    · rw [if_neg a]
      have h := h.resolve_left a
      refine itr_rk h6 ho hr n (f x) ?_
      rcases ho x h.1 with o | o
      · exact Or.inl o
      · have := hr x h.1 (by omega)
        exact Or.inr ⟨o.1, by omega⟩
theorem itr_of {f : Nat → Nat} {N : Nat} (h6 : N ≤ 6) (ho : okm f N) (h : Rk f N) : ∀ v, v < N → itr f N v = 9 := fun v hv => by
  obtain ⟨r0, h0⟩ := h
  obtain ⟨rk, r1, r2⟩ := rk_b ho h0
  exact itr_rk h6 ho r1 N v (Or.inr ⟨hv, r2 v hv⟩)
