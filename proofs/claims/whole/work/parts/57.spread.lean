theorem imn_far2 {a : Int → Bool} {H : Int → Int} {s t g w : Int} (h : (s = 16777216 ∧ t = 1000000) ∨ (s = t ∧ s < 1000000)) (hw : w = (if a g = true then 0 else 16777216) + H g) (u0 : 0 ≤ H g) (u1 : H g < 1000000) : (imn s w = 16777216 ∧ mn1 a H t g = 1000000) ∨ (imn s w = mn1 a H t g ∧ imn s w < 1000000) := by
  unfold imn mn1
  rw [hw]
  by_cases z : a g = true
  · rw [if_pos z, if_pos z]
    right
    rcases h with ⟨h1, h2⟩ | ⟨h1, h2⟩
    · rw [if_pos (by omega), if_pos (by omega)]; omega
    · rw [← h1]; constructor
      · split <;> split <;> omega
      · split <;> omega
  · rw [if_neg z, if_neg z, if_neg (by omega)]; exact h
/-- places of the order up to i have their 'beside' -/
theorem bb_e {m : Mem} {o : Nat} {N v : Int} {T : TT} (hN : N ≤ 12) (hk : Tok T) (hl : LD m o N T) (hv : T.1 v = true) (hp : 0 ≤ T.2.1 v) (hb : ∀ g, 0 ≤ g → g < 4 → rd m (o + 10) (4 * T.2.1 v + g) = VS T (T.2.1 v) g) {f : Int} (f0 : 0 ≤ f) (f1 : f < 4) : F9_besideBranch m o v (T.2.1 v) f = some (VS T v f) := by
  obtain ⟨⟨e1, e2, e3, e4, e5, e6⟩, l1, l2⟩ := hl
  have pt := hk.1.2.1 v hv hp
  have vr := hk.1.1 v hv
  have pr : 0 ≤ T.2.1 v ∧ T.2.1 v < N := by rw [e1] at pt; exact inN_e.mp pt
  obtain ⟨top, htop⟩ : ∃ top, top = T.2.1 v := ⟨_, rfl⟩
  rw [← htop] at pr pt hb hp ⊢
  obtain ⟨H, hH⟩ : ∃ H : Int → Int, H = fun g => VS T top g + US T top g - BS T v g + T.2.2.2 g f := ⟨_, rfl⟩
  have bd : ∀ g, 0 ≤ g → g < 4 → 0 ≤ H g ∧ H g < 1000000 := fun g g0 g1 => by
    have a := VS_b hk pt g0 g1
    have b := US_b hk pr.1 (show top < 12 by omega) g0 g1
    have c := BS_b hk hv g0 g1
    have d := BS_US hk hv (by omega) g0 g1
    have e := hk.2.2 g f g0 g1 f0 f1
    rw [← htop] at d
    rw [hH]; dsimp only; omega
  have st : ∀ (n : Nat) (s g : Int), 0 ≤ g → g < 4 → L9_besideBranch_7 m o v top f (n + 1) s g = L9_besideBranch_7 m o v top f n (imn s ((if T.2.2.1 top g = true then 0 else 16777216) + H g)) (g + 1) := fun n s g g0 g1 => by
    have a := VS_b hk pt g0 g1
    have b := US_b hk pr.1 (show top < 12 by omega) g0 g1
    have c := BS_b hk hv g0 g1
    have e := hk.2.2 g f g0 g1 f0 f1
    have fb := far_b T top g
    have l2' := l2 v g hv (by omega) g0 g1
    rw [L9_besideBranch_7, if_neg (by omega), w32_id (x := top * 4) (by omega) (by omega), w32_id (x := top * 4 + g) (by omega) (by omega), w32_id (x := v * 4) (by omega) (by omega), w32_id (x := v * 4 + g) (by omega) (by omega), w32_id (x := g * 4) (by omega) (by omega), w32_id (x := g * 4 + f) (by omega) (by omega), w32_id (x := g + 1) (by omega) (by omega), gd_t (by omega), gd_t (by omega), gd_t (by omega), gd_t (by omega), show top * 4 + g = 4 * top + g by omega, show v * 4 + g = 4 * v + g by omega, show g * 4 + f = 4 * g + f by omega, hb g g0 g1, l1 top g pr.1 pr.2 g0 g1, l2', e4 g f g0 g1 f0 f1]
    rw [w32_id (x := VS T top g + (far T top g + US T top g)) (by omega) (by omega), w32_id (x := VS T top g + (far T top g + US T top g) - BS T v g) (by omega) (by omega), w32_id (x := VS T top g + (far T top g + US T top g) - BS T v g + T.2.2.2 g f) (by omega) (by omega)]
    congr 2
    rw [show (if T.2.2.1 top g = true then (0 : Int) else 16777216) = far T top g from rfl, hH]; dsimp only; omega
  obtain ⟨n, hn⟩ : ∃ n, FU = n + 1 + 1 + 1 + 1 + 1 := ⟨99995, rfl⟩
  unfold F9_besideBranch
  rw [hn, st _ _ 0 (by omega) (by omega), show (0 : Int) + 1 = 1 from rfl, st _ _ 1 (by omega) (by omega), show (1 : Int) + 1 = 2 from rfl, st _ _ 2 (by omega) (by omega), show (2 : Int) + 1 = 3 from rfl, st _ _ 3 (by omega) (by omega), L9_besideBranch_7, if_pos (by omega)]
  have r0 := imn_far2 (a := T.2.2.1 top) (H := H) (s := 16777216) (t := 1000000) (g := 0) (Or.inl ⟨rfl, rfl⟩) rfl (bd 0 (by omega) (by omega)).1 (bd 0 (by omega) (by omega)).2
  have r1 := imn_far2 (a := T.2.2.1 top) (H := H) (g := 1) r0 rfl (bd 1 (by omega) (by omega)).1 (bd 1 (by omega) (by omega)).2
  have r2 := imn_far2 (a := T.2.2.1 top) (H := H) (g := 2) r1 rfl (bd 2 (by omega) (by omega)).1 (bd 2 (by omega) (by omega)).2
  have r3 := imn_far2 (a := T.2.2.1 top) (H := H) (g := 3) r2 rfl (bd 3 (by omega) (by omega)).1 (bd 3 (by omega) (by omega)).2
  obtain ⟨g', q0, q1, q2⟩ := hk.2.1 top pt
  have le := (mn4_lt (a := T.2.2.1 top) (h := H) (B := H g') q0 q1 q2 (Int.le_refl _) (bd g' q0 q1).2).1
  have := bd g' q0 q1
  rw [VS_e hk.1 hv, if_neg (show ¬ T.2.1 v < 0 by omega), ← htop, ← hH]
  congr 1
  rcases r3 with r3 | r3
  · have : mn4 (T.2.2.1 top) H = 1000000 := r3.2
    omega
  · exact r3.1
theorem LD_s {m m' : Mem} {o : Nat} {N : Int} {T : TT} (h : LD m o N T) (g : ∀ k i, k ≠ o + 10 → m' k i = m k i) : LD m' o N T := by
  obtain ⟨a, b, c⟩ := h
  exact ⟨TD_s a (fun k i q => g k i (by unfold PD at q; omega)), fun v f x y z w => by rw [rd_eq (g _ _ (by omega))]; exact b v f x y z w, fun d f x y z w => by rw [rd_eq (g _ _ (by omega))]; exact c d f x y z w⟩
theorem L9_s27 {o : Nat} {N v : Int} {T : TT} (hN : N ≤ 12) (hk : Tok T) (hv : T.1 v = true) {kk : Mem → Option Mem} : ∀ (d n : Nat) (f : Int) (m : Mem), f + d = 4 → 0 ≤ f → d < n → LD m o N T → (0 ≤ T.2.1 v → ∀ g, 0 ≤ g → g < 4 → rd m (o + 10) (4 * T.2.1 v + g) = VS T (T.2.1 v) g) → L9_spread_27 o v (T.2.1 v) kk n f m = kk (fw m (o + 10) (4 * v + f) (4 * v + 4) (fun i => VS T v (i - 4 * v))) := by
  intro d
  have vr := hk.1.1 v hv
  induction d with
  | zero =>
    intro n f m h0 h1 h2 hl hb
    obtain ⟨n, rfl⟩ : ∃ j, n = j + 1 := ⟨n - 1, by omega⟩
    rw [L9_spread_27, if_pos (by omega), fw_0 (by omega)]
  | succ d ih =>
    intro n f m h0 h1 h2 hl hb
    obtain ⟨n, rfl⟩ : ∃ j, n = j + 1 := ⟨n - 1, by omega⟩
    have key : (gd (0 ≤ w32 ((w32 (v * 4)) + f) ∧ w32 ((w32 (v * 4)) + f) < 48) <| stw m (o + 10) (w32 ((w32 (v * 4)) + f)) (VS T v f) fun m59 => L9_spread_27 o v (T.2.1 v) kk n (w32 (f + 1)) m59) = kk (fw m (o + 10) (4 * v + f) (4 * v + 4) (fun i => VS T v (i - 4 * v))) := by
      rw [w32_id (x := v * 4) (by omega) (by omega), w32_id (x := v * 4 + f) (by omega) (by omega), w32_id (x := f + 1) (by omega) (by omega), gd_t (by omega), stw_v, ih n (f + 1) _ (by omega) (by omega) (by omega) (LD_s hl (fun k i q => wr_ka q)) (fun p g g0 g1 => by
        have pt := hk.1.2.1 v hv p
        obtain ⟨rk, r1, r2⟩ := hk.1.2.2
        have := r1 v hv p
        have hne : T.2.1 v ≠ v := fun z => by rw [z] at this; omega
        rw [rd_wr_i (by omega)]; exact hb p g g0 g1), show v * 4 + f = 4 * v + f by omega, show 4 * v + (f + 1) = 4 * v + f + 1 by omega]
      have := fw_s (m := m) (k := o + 10) (a := 4 * v + f) (b := 4 * v + 4) (F := fun i => VS T v (i - 4 * v)) (by omega)
      rw [← this, show 4 * v + f - 4 * v = f by omega]
    rw [L9_spread_27, if_neg (by omega)]
    simp only [jn_v]
    by_cases a : 0 ≤ T.2.1 v
    · rw [if_pos a, bb_e hN hk hl hv a (hb a) h1 (by omega), b1_v]
      exact key
    · rw [if_neg a]
      have : VS T v f = 0 := by rw [VS_e hk.1 hv, if_pos (by omega)]
      rw [this] at key
      exact key
theorem L9_s2 {o : Nat} {N : Int} {T : TT} (hN : N ≤ 12) (hk : Tok T) : ∀ (d n : Nat) (i : Int) (m : Mem), i + d = N → 0 ≤ i → d < n → LD m o N T → (∀ j g, 0 ≤ j → j < i → 0 ≤ g → g < 4 → rd m (o + 10) (4 * rd m (o + 7) j + g) = VS T (rd m (o + 7) j) g) →
    ∃ m', L9_spread_2 o n i m = some m' ∧ (∀ k i, k ≠ o + 10 → m' k i = m k i) ∧ ∀ j g, 0 ≤ j → j < N → 0 ≤ g → g < 4 → rd m' (o + 10) (4 * rd m' (o + 7) j + g) = VS T (rd m' (o + 7) j) g := by
  intro d
  induction d with
  | zero =>
    intro n i m h0 h1 h2 hl hb
    obtain ⟨n, rfl⟩ : ∃ j, n = j + 1 := ⟨n - 1, by omega⟩
    rw [L9_spread_2, hl.1.2.1, if_pos (by omega)]
    exact ⟨m, rfl, fun _ _ _ => rfl, fun j g a b => hb j g a (by omega)⟩
  | succ d ih =>
    intro n i m h0 h1 h2 hl hb
    obtain ⟨n, rfl⟩ : ∃ j, n = j + 1 := ⟨n - 1, by omega⟩
    obtain ⟨x, hx⟩ : ∃ x, x = rd m (o + 7) i := ⟨_, rfl⟩
    have e5 := hl.1.2.2.2.2.1
    have xi := e5.1.1 i h1 (by omega)
    dsimp only at xi
    rw [← hx] at xi
    have xr := inN_e.mp xi.1
    have xT : T.1 x = true := by rw [hl.1.1]; exact xi.1
    rw [L9_spread_2, hl.1.2.1, if_neg (by omega), gd_t (by omega), ← hx, gd_t (by omega), hl.1.2.2.1 x xr.1 xr.2, L9_s27 hN hk xT 4 FU 0 m (by omega) (by omega) (by rw [FU_eq]; omega) hl (fun p g g0 g1 => by
      obtain ⟨j, j0, j1, j2⟩ := xi.2 p
      rw [← j2]; exact hb j g j0 j1 g0 g1), w32_id (x := i + 1) (by omega) (by omega)]
    obtain ⟨q, hq⟩ : ∃ q, q = fw m (o + 10) (4 * x + 0) (4 * x + 4) (fun i => VS T x (i - 4 * x)) := ⟨_, rfl⟩
    rw [← hq]
    have qo : ∀ k i, k ≠ o + 10 → q k i = m k i := fun k i a => by rw [hq, fw_o (by omega)]
    have q7 : ∀ j, rd q (o + 7) j = rd m (o + 7) j := fun j => rd_eq (qo _ _ (by omega))
    obtain ⟨m', p1, p2, p3⟩ := ih n (i + 1) q (by omega) (by omega) (by omega) (LD_s hl qo) (fun j g j0 j1 g0 g1 => by
      rw [q7]
      by_cases z : rd m (o + 7) j = x
      · rw [z, hq, rd_fw_i (by omega) (by omega), show 4 * x + g - 4 * x = g by omega]
        have := VS_b hk xT g0 g1
        exact w32_id (by omega) (by omega)
      · have : j ≠ i := fun y => z (by rw [y, hx])
        rw [hq, rd_fw_o (by omega)]
        exact hb j g j0 (by omega) g0 g1)
    exact ⟨m', p1, fun k i a => by rw [p2 k i a]; exact qo k i a, p3⟩
/-- what spread() leaves -/
def LV (m : Mem) (o : Nat) (N : Int) (T : TT) : Prop := LD m o N T ∧ ∀ v g, 0 ≤ v → v < N → 0 ≤ g → g < 4 → rd m (o + 10) (4 * v + g) = VS T v g
theorem spread_e {m : Mem} {o : Nat} {N : Int} {T : TT} (hN : 0 ≤ N ∧ N ≤ 12) (hk : Tok T) (hl : LD m o N T) : ∃ m', F9_spread m o = some m' ∧ (∀ k i, k ≠ o + 10 → m' k i = m k i) ∧ LV m' o N T := by
  obtain ⟨m', a, b, c⟩ := L9_s2 hN.2 hk N.toNat FU 0 m (by omega) (by omega) (by rw [FU_eq]; omega) hl (fun j g a b => by omega)
  have hl' := LD_s hl b
  refine ⟨m', a, b, hl', fun v g v0 v1 g0 g1 => ?_⟩
  obtain ⟨j, j0, j1, j2⟩ := hl'.1.2.2.2.2.1.2 v (inN_e.mpr ⟨v0, v1⟩)
  dsimp only at j2
  rw [← j2]; exact c j g j0 j1 g0 g1
/-! forms as bits -/
def bs (P : Int → Bool) : Nat → Int
  | 0 => 0
  | k + 1 => if P (k : Int) = true then bor (bs P k) (shl 1 (k : Int)) else bs P k
theorem bs_c {P Q : Int → Bool} : ∀ k : Nat, (∀ i : Nat, i < k → P i = Q i) → bs P k = bs Q k
  | 0, _ => rfl
  | k + 1, h => by
    unfold bs
    rw [bs_c k (fun i x => h i (by omega)), h k (by omega)]
theorem bs_0 {P : Int → Bool} : ∀ k : Nat, (∀ i : Nat, i < k → P i = false) → bs P k = 0
  | 0, _ => rfl
  | k + 1, h => by
    unfold bs
    rw [h k (by omega), if_neg (by intro z; cases z)]
    exact bs_0 k (fun i x => h i (by omega))
def FS (T : TT) (v : Int) : Int := bs (fun g => T.2.2.1 v g && decide (US T v g + VS T v g = least4 T v)) 4
theorem L9_may {m : Mem} {o : Nat} {N v : Int} {T : TT} (hN : N ≤ 12) (hk : Tok T) (hl : LV m o N T) (v0 : 0 ≤ v) (v1 : v < N) (al : ∀ g, 0 ≤ g → g < 4 → T.2.2.1 v g = true) : ∀ (d n : Nat) (s b : Int) (k : Nat), k + d = 4 → d < n → ((k = 0 ∧ s = 16777216) ∨ ((∀ g : Nat, g < k → s ≤ US T v g + VS T v g) ∧ ∃ g : Nat, g < k ∧ US T v g + VS T v g = s)) → b = bs (fun g => decide (US T v g + VS T v g = s)) k → L9_maybe_8 m o v n s b k = some (FS T v) := by
  intro d
  have vT : T.1 v = true := by rw [hl.1.1.1]; exact inN_e.mpr ⟨v0, v1⟩
  have W : ∀ g : Nat, g < 4 → 0 ≤ US T v g + VS T v g ∧ US T v g + VS T v g ≤ 20000 := fun g h => by
    have a := US_b hk v0 (show v < 12 by omega) (f := (g : Int)) (by omega) (by omega)
    have b := VS_b hk vT (f := (g : Int)) (by omega) (by omega)
    omega
  induction d with
  | zero =>
    intro n s b k h0 h1 h2 h3
    obtain ⟨n, rfl⟩ : ∃ j, n = j + 1 := ⟨n - 1, by omega⟩
    have hk4 : k = 4 := by omega
    subst hk4
    rw [L9_maybe_8, if_pos (by omega), h3]
    unfold FS
    rcases h2 with h2 | ⟨h2, g, g0, g1⟩
    · omega
    · have e : least4 T v = s := by
        have a1 := W g (by omega)
        obtain ⟨p, g', q0, q1, q2, q3⟩ := mn4_lt (a := T.2.2.1 v) (h := fun f => US T v f + VS T v f) (g := (g : Int)) (B := s) (by omega) (by omega) (al g (by omega) (by omega)) (by omega) (by omega)
        have := h2 g'.toNat (by omega)
        rw [show ((g'.toNat : Nat) : Int) = g' by omega] at this
        unfold least4; omega
      rw [e]
      congr 1
      exact bs_c 4 (fun i x => by rw [al i (by omega) (by omega), Bool.true_and])
  | succ d ih =>
    intro n s b k h0 h1 h2 h3
    obtain ⟨n, rfl⟩ : ∃ j, n = j + 1 := ⟨n - 1, by omega⟩
    have w := W k (by omega)
    have a := US_b hk v0 (show v < 12 by omega) (f := (k : Int)) (by omega) (by omega)
    have b' := VS_b hk vT (f := (k : Int)) (by omega) (by omega)
    have e9 : rd m (o + 9) (4 * v + k) = US T v k := by
      rw [hl.1.2.1 v k v0 v1 (by omega) (by omega)]; unfold far; rw [if_pos (al k (by omega) (by omega))]; omega
    rw [L9_maybe_8, if_neg (by omega), w32_id (x := v * 4) (by omega) (by omega), w32_id (x := v * 4 + k) (by omega) (by omega), gd_t (by omega), gd_t (by omega), show v * 4 + (k : Int) = 4 * v + k by omega, e9, hl.2 v k v0 v1 (by omega) (by omega), w32_id (x := US T v k + VS T v k) (by omega) (by omega), w32_id (x := (k : Int) + 1) (by omega) (by omega), show (k : Int) + 1 = ((k + 1 : Nat) : Int) by omega]
    simp only [jn_v]
    obtain ⟨w', hw'⟩ : ∃ w', w' = US T v k + VS T v k := ⟨_, rfl⟩
    rw [← hw'] at w ⊢
    by_cases z : s ≤ w'
    · rw [if_pos z]
      have hs : ∃ g : Nat, g < k ∧ US T v g + VS T v g = s := by
        rcases h2 with h2 | h2
        · omega
        · exact h2.2
      have hs2 : ∀ g : Nat, g < k → s ≤ US T v g + VS T v g := by
        rcases h2 with h2 | h2
        · omega
        · exact h2.1
      have nx : (∀ g : Nat, g < k + 1 → s ≤ US T v g + VS T v g) ∧ ∃ g : Nat, g < k + 1 ∧ US T v g + VS T v g = s := by
        refine ⟨fun g h => ?_, ?_⟩
        · by_cases q : g = k
          · rw [q]; omega
          · exact hs2 g (by omega)
        · obtain ⟨g, g0, g1⟩ := hs
          exact ⟨g, by omega, g1⟩
      by_cases y : w' = s
      · rw [if_neg (by omega)]
        refine ih n s _ (k + 1) (by omega) (by omega) (Or.inr nx) ?_
        rw [h3]
        show _ = if decide (US T v k + VS T v k = s) = true then _ else _
        rw [if_pos (decide_eq_true (by omega))]
      · rw [if_pos y]
        refine ih n s _ (k + 1) (by omega) (by omega) (Or.inr nx) ?_
        rw [h3]
        show _ = if decide (US T v k + VS T v k = s) = true then _ else _
        rw [if_neg (by rw [decide_eq_true_iff]; omega)]
    · rw [if_neg z, if_neg (by omega)]
      have lt : ∀ g : Nat, g < k → w' < US T v g + VS T v g := fun g h => by
        rcases h2 with h2 | h2
        · omega
        · have := h2.1 g h; omega
      refine ih n w' _ (k + 1) (by omega) (by omega) (Or.inr ⟨fun g h => ?_, k, by omega, by omega⟩) ?_
      · by_cases q : g = k
        · rw [q]; omega
        · have := lt g (by omega); omega
      · show _ = if decide (US T v k + VS T v k = w') = true then _ else _
        rw [if_pos (decide_eq_true (by omega)), bs_0 k (fun i x => decide_eq_false (by have := lt i x; omega))]
theorem maybe_e {m : Mem} {o : Nat} {N v : Int} {T : TT} (hN : N ≤ 12) (hk : Tok T) (hl : LV m o N T) (v0 : 0 ≤ v) (v1 : v < N) (al : ∀ g, 0 ≤ g → g < 4 → T.2.2.1 v g = true) : F9_maybe m o v = some (FS T v) := by
  unfold F9_maybe
  exact L9_may hN hk hl v0 v1 al 4 FU 16777216 0 0 (by omega) (by rw [FU_eq]; omega) (Or.inl ⟨rfl, rfl⟩) rfl
