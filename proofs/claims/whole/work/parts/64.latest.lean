/-! the latest days -/
def mm (g : Int → Int) (s : Int) : Nat → Int
  | 0 => s
  | k + 1 => min (mm g s k) (g (k : Int))
theorem mm_c {g h : Int → Int} {s : Int} : ∀ k : Nat, (∀ i : Nat, i < k → g i = h i) → mm g s k = mm h s k
  | 0, _ => rfl
  | k + 1, e => by
    show min (mm g s k) (g k) = min (mm h s k) (h k)
    rw [mm_c k (fun i x => e i (by omega)), e k (by omega)]
theorem mm_le (g : Int → Int) (s : Int) : ∀ k : Nat, mm g s k ≤ s
  | 0 => Int.le_refl _
  | k + 1 => by
    show min (mm g s k) (g k) ≤ s
    have := mm_le g s k; omega
theorem mm_ge {g : Int → Int} {s B : Int} (hs : B ≤ s) : ∀ k : Nat, (∀ i : Nat, i < k → B ≤ g i) → B ≤ mm g s k
  | 0, _ => hs
  | k + 1, h => by
    show B ≤ min (mm g s k) (g k)
    have := mm_ge (g := g) hs k (fun i x => h i (by omega)); have := h k (by omega); omega
theorem mm_add {g h : Int → Int} {s : Int} (hs : s ≤ 1000000) : ∀ (k j : Nat), j < k → (∀ i : Nat, i < k → i ≠ j → h i = g i) → g j = 1000000 → mm h s k = min (mm g s k) (h j)
  | 0, j, hj, _, _ => by omega
  | k + 1, j, hj, e, a => by
    show min (mm h s k) (h k) = min (min (mm g s k) (g k)) (h j)
    have l := mm_le g s k
    by_cases z : j = k
    · subst z
      rw [mm_c j (g := h) (h := g) (fun i y => e i (by omega) (by omega)), a]; omega
    · rw [mm_add hs k j (by omega) (fun i y w => e i (by omega) w) a, e k (by omega) (by omega)]; omega
theorem mm_end {g : Int → Int} {s : Int} (hs : s ≤ 1000000) (j : Nat) (h : ∀ i : Nat, j ≤ i → g i = 1000000) : ∀ d : Nat, mm g s (j + d) = mm g s j
  | 0 => rfl
  | d + 1 => by
    show min (mm g s (j + d)) (g ((j + d : Nat) : Int)) = _
    have := mm_le g s j
    rw [mm_end hs j h d, h (j + d) (by omega)]; omega
theorem mm_no {g : Int → Int} {s : Int} (hs : s ≤ 1000000) (k : Nat) (h : ∀ i : Nat, i < k → g i = 1000000) : mm g s k = s := by
  induction k with
  | zero => rfl
  | succ k ih =>
    show min (mm g s k) (g k) = s
    rw [ih (fun i x => h i (by omega)), h k (by omega)]; omega
def Lf (I : Int → Bool) (p b : Int → Int) : Nat → Int → Int
  | 0, _ => 0
  | n + 1, v => mm (fun d => if I d = true ∧ p d = v then Lf I p b n d - 1 else 1000000) (b v) 12
def LTS (I : Int → Bool) (p b : Int → Int) : Int → Int := Lf I p b 12
theorem Lf_s {I : Int → Bool} {p b : Int → Int} {rk : Int → Nat} (hr : ∀ c, I c = true → 0 ≤ p c → rk (p c) < rk c) (hb : ∀ c, I c = true → rk c < 12) : ∀ (n n' : Nat) (v : Int), 0 ≤ v → I v = true → 12 ≤ n + rk v → 12 ≤ n' + rk v → Lf I p b n v = Lf I p b n' v
  | 0, n', v, h0, hv, h, h' => by have := hb v hv; omega
  | n + 1, 0, v, h0, hv, h, h' => by have := hb v hv; omega
  | n + 1, n' + 1, v, h0, hv, h, h' => by
    unfold Lf
    refine mm_c 12 (fun i x => ?_)
    by_cases z : I i = true ∧ p i = v
    · rw [if_pos z, if_pos z]
      have := hr i z.1 (by rw [z.2]; exact h0)
      rw [z.2] at this
      rw [Lf_s hr hb n n' i (by omega) z.1 (by omega) (by omega)]
    · rw [if_neg z, if_neg z]
def kl (I : Int → Bool) (p b : Int → Int) (v : Int) : Int → Int := fun d => if I d = true ∧ p d = v then LTS I p b d - 1 else 1000000
theorem LTS_e {I : Int → Bool} {p b : Int → Int} (h : Acy I p) {v : Int} (hv : I v = true) : LTS I p b v = mm (kl I p b v) (b v) 12 := by
  obtain ⟨a, x, rk, c, e⟩ := h
  show Lf I p b (11 + 1) v = _
  unfold Lf
  refine mm_c 12 (fun i y => ?_)
  unfold kl
  by_cases z : I i = true ∧ p i = v
  · rw [if_pos z, if_pos z]
    have := c i z.1 (by rw [z.2]; exact (a v hv).1)
    show Lf I p b 11 i - 1 = Lf I p b 12 i - 1
    rw [Lf_s c e 11 12 i (by omega) z.1 (by omega) (by omega)]
  · rw [if_neg z, if_neg z]
theorem Lf_b {I : Int → Bool} {p b : Int → Int} (hb : ∀ v, I v = true → 0 ≤ b v ∧ b v ≤ 999) : ∀ (n : Nat) (v : Int), I v = true → -(n : Int) ≤ Lf I p b n v ∧ Lf I p b n v ≤ 999
  | 0, v, hv => ⟨by show -((0 : Nat) : Int) ≤ 0; omega, by show (0 : Int) ≤ 999; omega⟩
  | n + 1, v, hv => by
    have bv := hb v hv
    unfold Lf
    refine ⟨mm_ge (by omega) 12 (fun i x => ?_), ?_⟩
    · split
      · rename_i z; have := (Lf_b (p := p) hb n i z.1).1; omega
      · omega
    · have := mm_le (fun d => if I d = true ∧ p d = v then Lf I p b n d - 1 else 1000000) (b v) 12; omega
theorem LTS_b {I : Int → Bool} {p b : Int → Int} (hb : ∀ v, I v = true → 0 ≤ b v ∧ b v ≤ 999) {v : Int} (hv : I v = true) : -12 ≤ LTS I p b v ∧ LTS I p b v ≤ 999 := by
  have := Lf_b (p := p) hb 12 v hv
  unfold LTS; omega
/-! the class's -/
theorem L9_la2 {o : Nat} {N : Int} {kk : Mem → Option (Int × Mem)} (hN : N ≤ 12) : ∀ (d n : Nat) (v : Int) (m : Mem), v + d = N → 0 ≤ v → d < n → rd m o 0 = N → L9_latestOf_2 o kk n v m = kk (fw m (o + 6) v N (fun i => rd m (o + 3) i)) := by
  intro d
  induction d with
  | zero =>
    intro n v m h0 h1 h2 e
    obtain ⟨n, rfl⟩ : ∃ j, n = j + 1 := ⟨n - 1, by omega⟩
    rw [L9_latestOf_2, if_pos (by omega), fw_0 (by omega)]
  | succ d ih =>
    intro n v m h0 h1 h2 e
    obtain ⟨n, rfl⟩ : ∃ j, n = j + 1 := ⟨n - 1, by omega⟩
    rw [L9_latestOf_2, if_neg (by omega), gd_t (by omega), gd_t (by omega), stw_v, w32_id (x := v + 1) (by omega) (by omega), ih n (v + 1) _ (by omega) (by omega) (by omega) (by rw [rd_wr_k (by omega)]; exact e)]
    have := fw_s (m := m) (k := o + 6) (a := v) (b := N) (F := fun i => rd m (o + 3) i) (by omega)
    rw [← this]
    congr 1
    exact fw_f (fun i a b => by rw [rd_wr_k (by omega)])
def kn (I : Int → Bool) (p b : Int → Int) (v : Int) (dn : Int → Bool) : Int → Int := fun d => if (I d = true ∧ p d = v) ∧ dn d = true then LTS I p b d - 1 else 1000000
theorem L9_la35 {o : Nat} {N : Int} {p a b : Int → Int} {kk : Mem → Option (Int × Mem)} (hN : 0 ≤ N ∧ N ≤ 12) (hac : Acy (inN N) p) (hb : ∀ v, inN N v = true → 0 ≤ b v ∧ b v ≤ 999) : ∀ (d n : Nat) (i : Int) (m : Mem) (dn : Int → Bool), (d : Int) = i + 1 → i < N → d < n → DD m o N p a b → (∀ d, inN N d = true → (dn d = true ↔ ∃ j, i < j ∧ j < N ∧ rd m (o + 7) j = d)) → (∀ v, 0 ≤ v → v < N → rd m (o + 6) v = mm (kn (inN N) p b v dn) (b v) 12) →
    ∃ m', L9_latestOf_35 o kk n i m = kk m' ∧ (∀ k i, k ≠ o + 6 → m' k i = m k i) ∧ ∀ v, 0 ≤ v → v < N → rd m' (o + 6) v = LTS (inN N) p b v := by
  intro d
  induction d with
  | zero =>
    intro n i m dn h0 h1 h2 hd l1 l2
    obtain ⟨n, rfl⟩ : ∃ j, n = j + 1 := ⟨n - 1, by omega⟩
    rw [L9_latestOf_35, if_pos (by omega)]
    refine ⟨m, rfl, fun _ _ _ => rfl, fun v x y => ?_⟩
    rw [l2 v x y, LTS_e hac (inN_e.mpr ⟨x, y⟩)]
    refine mm_c 12 (fun d z => ?_)
    unfold kn kl
    by_cases w : inN N d = true ∧ p d = v
    · have dd : dn d = true := (l1 _ w.1).mpr (by
        obtain ⟨j, j0, j1, j2⟩ := hd.2.2.2 _ w.1
        exact ⟨j, by omega, j1, j2⟩)
      rw [if_pos w, if_pos ⟨w, dd⟩]
    · rw [if_neg w, if_neg (fun q => w q.1)]
  | succ d ih =>
    intro n i m dn h0 h1 h2 hd l1 l2
    obtain ⟨n, rfl⟩ : ∃ j, n = j + 1 := ⟨n - 1, by omega⟩
    obtain ⟨x, hx⟩ : ∃ x, x = rd m (o + 7) i := ⟨_, rfl⟩
    have e5 := hd.2.2
    have xi := (e5.1.1 i (by omega) h1).1
    dsimp only at xi
    rw [← hx] at xi
    have xr := inN_e.mp xi
    obtain ⟨px, -, -⟩ := hd.2.1 x xr.1 xr.2
    have kids : ∀ d, inN N d = true → p d = x → dn d = true := by
      intro d d1 d2
      refine (l1 d d1).mpr ?_
      obtain ⟨j, j0, j1, j2⟩ := e5.2 d d1
      dsimp only at j2
      obtain ⟨j', k0, k1, k2⟩ := (e5.1.1 j j0 j1).2 (by dsimp only; rw [j2, d2]; exact xr.1)
      dsimp only at k2
      rw [j2, d2, hx] at k2
      have := e5.1.2 j' i k0 (by omega) (by omega) h1 k2
      exact ⟨j, by omega, j1, j2⟩
    have xnd : dn x = false := by
      cases z : dn x with
      | false => rfl
      | true =>
        obtain ⟨j, j0, j1, j2⟩ := (l1 x xi).mp z
        rw [hx] at j2
        have := e5.1.2 j i (by omega) j1 (by omega) h1 j2
        omega
    have bx : rd m (o + 6) x = LTS (inN N) p b x := by
      rw [l2 x xr.1 xr.2, LTS_e hac xi]
      refine mm_c 12 (fun d y => ?_)
      unfold kn kl
      by_cases z : inN N d = true ∧ p d = x
      · rw [if_pos z, if_pos ⟨z, kids d z.1 z.2⟩]
      · rw [if_neg z, if_neg (fun q => z q.1)]
    obtain ⟨dn', hdn⟩ : ∃ dn' : Int → Bool, dn' = fun d => if d = x then true else dn d := ⟨_, rfl⟩
    have dx : dn' x = true := by rw [hdn]; exact if_pos rfl
    have dne : ∀ d, d ≠ x → dn' d = dn d := fun d z => by rw [hdn]; exact if_neg z
    have n1 : ∀ m' : Mem, (∀ j, rd m' (o + 7) j = rd m (o + 7) j) → ∀ d, inN N d = true → (dn' d = true ↔ ∃ j, i - 1 < j ∧ j < N ∧ rd m' (o + 7) j = d) := by
      intro m' g7 d d1
      constructor
      · intro h
        by_cases z : d = x
        · exact ⟨i, by omega, h1, by rw [g7, z, hx]⟩
        · rw [dne d z] at h
          obtain ⟨j, j0, j1, j2⟩ := (l1 d d1).mp h
          exact ⟨j, by omega, j1, by rw [g7]; exact j2⟩
      · rintro ⟨j, j0, j1, j2⟩
        rw [g7] at j2
        by_cases z : j = i
        · rw [z, ← hx] at j2; rw [← j2]; exact dx
        · have : dn d = true := (l1 d d1).mpr ⟨j, by omega, j1, j2⟩
          by_cases y : d = x
          · rw [y]; exact dx
          · rw [dne d y]; exact this
    have gt : ∀ {α : Type} (y : Option α), gd (0 ≤ x ∧ x < 12) y = y := fun y => gd_t ⟨xr.1, by omega⟩
    rw [L9_latestOf_35, if_neg (by omega), gd_t (by omega), ← hx, gt, px, w32_id (x := i + (-1)) (by omega) (by omega), show i + (-1) = i - 1 by omega]
    simp only [jn_v, gt]
    by_cases a : p x < 0
    · rw [if_pos a]
      refine ih n (i - 1) m dn' (by omega) (by omega) (by omega) hd (n1 m (fun _ => rfl)) (fun v v0 v1 => ?_)
      rw [l2 v v0 v1]
      refine mm_c 12 (fun d y => ?_)
      unfold kn
      by_cases w : (d : Int) = x
      · rw [if_neg (fun q => by have := q.1.2; rw [w] at this; omega), if_neg (fun q => by have := q.1.2; rw [w] at this; omega)]
      · rw [dne d w]
    · have pt := hac.2.1 x xi (by omega)
      have pr := inN_e.mp pt
      obtain ⟨rk, r1, r2⟩ := hac.2.2
      have hne : x ≠ p x := fun z => by have := r1 x xi (by omega); rw [← z] at this; omega
      have lx := LTS_b (p := p) hb xi
      rw [if_neg a, gd_t (show 0 ≤ p x ∧ p x < 12 by omega), gd_t (show 0 ≤ p x ∧ p x < 12 by omega), stw_v, bx, w32_id (x := LTS (inN N) p b x - 1) (by omega) (by omega), imn_e]
      obtain ⟨q, hq⟩ : ∃ q, q = wr m (o + 6) (p x) (min (rd m (o + 6) (p x)) (LTS (inN N) p b x - 1)) := ⟨_, rfl⟩
      rw [← hq]
      have qo : ∀ k i, ¬ (k = o + 6 ∧ i = p x) → q k i = m k i := fun k i u => by rw [hq, wr_ki u]
      have g7 : ∀ j, rd q (o + 7) j = rd m (o + 7) j := fun j => rd_eq (qo _ _ (by omega))
      obtain ⟨m', p1, p2, p3⟩ := ih n (i - 1) q dn' (by omega) (by omega) (by omega) (DD_s hd (fun k i _ u => qo k i (by omega))) (n1 q g7) (fun v v0 v1 => by
        by_cases z : v = p x
        · have bv := hb (p x) pt
          have i0 := rd_in m (o + 6) (p x)
          rw [z, hq, rd_wr_s, w32_id (by have := i0.1; omega) (by omega), l2 (p x) pr.1 pr.2]
          have e := mm_add (g := kn (inN N) p b (p x) dn) (h := kn (inN N) p b (p x) dn') (s := b (p x)) (by omega) 12 x.toNat (by omega) (fun d y w => by
            unfold kn
            rw [dne d (by omega)]) (by unfold kn; rw [show ((x.toNat : Nat) : Int) = x by omega, if_neg (fun q => by rw [xnd] at q; cases q.2)])
          rw [e]
          congr 1
          unfold kn
          rw [show ((x.toNat : Nat) : Int) = x by omega, if_pos ⟨⟨xi, rfl⟩, dx⟩]
        · rw [rd_eq (qo _ _ (by omega)), l2 v v0 v1]
          refine mm_c 12 (fun d y => ?_)
          unfold kn
          by_cases w : (d : Int) = x
          · rw [if_neg (fun q => z (by rw [← q.1.2, w])), if_neg (fun q => z (by rw [← q.1.2, w]))]
          · rw [dne d w])
      exact ⟨m', p1, fun k i u => by rw [p2 k i u]; exact qo k i (by omega), p3⟩
theorem latestOf_e {m : Mem} {o : Nat} {N v : Int} {p a b : Int → Int} (hN : 0 ≤ N ∧ N ≤ 12) (hac : Acy (inN N) p) (hb : ∀ v, inN N v = true → 0 ≤ b v ∧ b v ≤ 999) (hd : DD m o N p a b) (v0 : 0 ≤ v) (v1 : v < N) : ∃ m', F9_latestOf m o v = some (LTS (inN N) p b v, m') ∧ ∀ k i, k ≠ o + 6 → m' k i = m k i := by
  obtain ⟨q, hq⟩ : ∃ q, q = fw m (o + 6) 0 N (fun i => rd m (o + 3) i) := ⟨_, rfl⟩
  have qo : ∀ k i, k ≠ o + 6 → q k i = m k i := fun k i u => by rw [hq, fw_o (by omega)]
  have hd' := DD_s hd (m' := q) (fun k i _ u => qo k i u)
  obtain ⟨m', x, y, z⟩ := L9_la35 (kk := fun (m_94 : Mem) => gd (0 ≤ v ∧ v < 12) <| some (rd m_94 (o + 6) v, m_94)) hN hac hb N.toNat FU (N - 1) q (fun _ => false) (by omega) (by omega) (by rw [FU_eq]; omega) hd' (fun d _ => ⟨fun h => (by cases h), fun ⟨j, a, b, _⟩ => (by omega)⟩) (fun w w0 w1 => by
    have bw := hb w (inN_e.mpr ⟨w0, w1⟩)
    rw [mm_no (by omega) 12 (fun i _ => by unfold kn; rw [if_neg (fun q => by cases q.2)]), hq, rd_fw_i w0 w1, (hd.2.1 w w0 w1).2.2]
    exact w32_id (by omega) (by omega))
  refine ⟨m', ?_, fun k i u => by rw [y k i u]; exact qo k i u⟩
  unfold F9_latestOf
  rw [L9_la2 hN.2 N.toNat FU 0 m (by omega) (by omega) (by rw [FU_eq]; omega) hd.1, ← hq, hd'.1, w32_id (by omega) (by omega), x, gd_t (by omega), z v v0 v1]
