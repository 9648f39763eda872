/-! the class's least: below, branch, the sum -/
def TD (m : Mem) (o : Nat) (N : Int) (T : TT) : Prop := T.1 = inN N ∧ rd m o 0 = N ∧ (∀ v, 0 ≤ v → v < N → rd m (o + 1) v = T.2.1 v) ∧ (∀ f g, 0 ≤ f → f < 4 → 0 ≤ g → g < 4 → rd m (o + 8) (4 * f + g) = T.2.2.2 f g) ∧ Od (inN N) T.2.1 N (fun i => rd m (o + 7) i) ∧ ∀ v, 0 ≤ v → v < N → isF (rd m (o + 5) v) ∧ ∀ f, 0 ≤ f → f < 4 → (T.2.2.1 v f = true ↔ rd m (o + 5) v = 9 ∨ rd m (o + 5) v = f)
def PD (o k : Nat) : Prop := k = o + 9 ∨ k = o + 10 ∨ k = o + 11
theorem TD_s {m m' : Mem} {o : Nat} {N : Int} {T : TT} (h : TD m o N T) (g : ∀ k i, ¬ PD o k → m' k i = m k i) : TD m' o N T := by
  obtain ⟨a, b, c, d, e, f⟩ := h
  have g7 : (fun i => rd m' (o + 7) i) = fun i => rd m (o + 7) i := by funext i; exact rd_eq (g _ _ (by unfold PD; omega))
  refine ⟨a, ?_, fun v x y => ?_, fun x y p q r s => ?_, ?_, fun v x y => ?_⟩
  · rw [rd_eq (g o 0 (by unfold PD; omega))]; exact b
  · rw [rd_eq (g (o + 1) v (by unfold PD; omega))]; exact c v x y
  · rw [rd_eq (g (o + 8) _ (by unfold PD; omega))]; exact d x y p q r s
  · rw [g7]; exact e
  · rw [rd_eq (g (o + 5) v (by unfold PD; omega))]; exact f v x y
def far (T : TT) (v f : Int) : Int := if T.2.2.1 v f = true then 0 else 16777216
theorem far_b (T : TT) (v f : Int) : 0 ≤ far T v f ∧ far T v f ≤ 16777216 := by unfold far; split <;> omega
theorem L9_l12 {o : Nat} {v N : Int} {T : TT} (hv : 0 ≤ v ∧ v < N) (hN : N ≤ 12) {kk : Mem → Option (Int × Mem)} : ∀ (d n : Nat) (f : Int) (m : Mem), f + d = 4 → 0 ≤ f → d < n → TD m o N T → L9_least_12 o v kk n f m = kk (fw m (o + 9) (4 * v + f) (4 * v + 4) (fun i => far T v (i - 4 * v))) := by
  intro d
  induction d with
  | zero =>
    intro n f m h0 h1 h2 e
    obtain ⟨n, rfl⟩ : ∃ j, n = j + 1 := ⟨n - 1, by omega⟩
    rw [L9_least_12, if_pos (by omega), fw_0 (by omega)]
  | succ d ih =>
    intro n f m h0 h1 h2 e
    obtain ⟨n, rfl⟩ : ∃ j, n = j + 1 := ⟨n - 1, by omega⟩
    have et := (e.2.2.2.2.2 v hv.1 hv.2).2 f h1 (by omega)
    have key : ∀ x : Int, x = far T v f → (gd (0 ≤ w32 ((w32 (v * 4)) + f) ∧ w32 ((w32 (v * 4)) + f) < 48) <| stw m (o + 9) (w32 ((w32 (v * 4)) + f)) x fun m53 => L9_least_12 o v kk n (w32 (f + 1)) m53) = kk (fw m (o + 9) (4 * v + f) (4 * v + 4) (fun i => far T v (i - 4 * v))) := by
      intro x hx
      rw [w32_id (x := v * 4) (by omega) (by omega), w32_id (x := v * 4 + f) (by omega) (by omega), w32_id (x := f + 1) (by omega) (by omega), gd_t (by omega), stw_v, ih n (f + 1) _ (by omega) (by omega) (by omega) (TD_s e (fun k i q => wr_ki (by unfold PD at q; omega))), show v * 4 + f = 4 * v + f by omega, show 4 * v + (f + 1) = 4 * v + f + 1 by omega]
      have := fw_s (m := m) (k := o + 9) (a := 4 * v + f) (b := 4 * v + 4) (F := fun i => far T v (i - 4 * v)) (by omega)
      rw [← this, show 4 * v + f - 4 * v = f by omega, hx]
    rw [L9_least_12, if_neg (by omega), gd_t (by omega)]
    simp only [jn_v]
    rw [gd_t (show 0 ≤ v ∧ v < 12 by omega)]
    by_cases a : rd m (o + 5) v = 9
    · rw [if_pos a]
      exact key 0 (by unfold far; rw [if_pos (et.mpr (Or.inl a))])
    · rw [if_neg a]
      by_cases b : rd m (o + 5) v = f
      · rw [if_neg (by omega)]
        exact key 0 (by unfold far; rw [if_pos (et.mpr (Or.inr b))])
      · rw [if_pos b]
        exact key 16777216 (by unfold far; rw [if_neg (fun z => by have := et.mp z; omega)])
theorem L9_l2 {o : Nat} {N : Int} {T : TT} (hN : N ≤ 12) {kk : Mem → Option (Int × Mem)} : ∀ (d n : Nat) (v : Int) (m : Mem), v + d = N → 0 ≤ v → d < n → TD m o N T → ∃ m', L9_least_2 o kk n v m = kk m' ∧ (∀ k i, k ≠ o + 9 → m' k i = m k i) ∧ (∀ i, i < 4 * v → m' (o + 9) i = m (o + 9) i) ∧ ∀ w f, v ≤ w → w < N → 0 ≤ f → f < 4 → rd m' (o + 9) (4 * w + f) = far T w f := by
  intro d
  induction d with
  | zero =>
    intro n v m h0 h1 h2 e
    obtain ⟨n, rfl⟩ : ∃ j, n = j + 1 := ⟨n - 1, by omega⟩
    rw [L9_least_2, e.2.1, if_pos (by omega)]
    exact ⟨m, rfl, fun _ _ _ => rfl, fun _ _ => rfl, fun w f a b => by omega⟩
  | succ d ih =>
    intro n v m h0 h1 h2 e
    obtain ⟨n, rfl⟩ : ∃ j, n = j + 1 := ⟨n - 1, by omega⟩
    rw [L9_least_2, e.2.1, if_neg (by omega), L9_l12 ⟨h1, by omega⟩ hN 4 FU 0 m (by omega) (by omega) (by rw [FU_eq]; omega) e, w32_id (x := v + 1) (by omega) (by omega)]
    obtain ⟨m', x, y, z, w⟩ := ih n (v + 1) (fw m (o + 9) (4 * v + 0) (4 * v + 4) (fun i => far T v (i - 4 * v))) (by omega) (by omega) (by omega) (TD_s e (fun k i q => fw_o (by unfold PD at q; omega)))
    refine ⟨m', x, fun k i q => by rw [y k i q, fw_o (by omega)], fun i q => by rw [z i (by omega), fw_o (by omega)], fun u f a b c q => ?_⟩
    by_cases r : u = v
    · subst r
      rw [rd_eq (z (4 * u + f) (by omega)), rd_fw_i (by omega) (by omega), show 4 * u + f - 4 * u = f by omega]
      have := far_b T u f
      exact w32_id (by omega) (by omega)
    · exact w u f (by omega) b c q
/-! one charter hung under its mother -/
theorem h61_s {m : Mem} {o : Nat} {x v4 f s v7 : Int} {n : Nat} {kk : Int → Option Mem} (h : v7 ≤ v4) (h0 : 0 ≤ v7) (h1 : v7 < 4) (f0 : 0 ≤ f) (f1 : f < 4) (x0 : 0 ≤ x) (x1 : x < 12) : L9_hang_61 m o x v4 f kk (n + 1) s v7 = L9_hang_61 m o x v4 f kk n (imn s (w32 (rd m (o + 8) (4 * f + v7) + rd m (o + 9) (4 * x + v7)))) (v7 + 1) := by
  rw [L9_hang_61, if_neg (by omega), w32_id (x := f * 4) (by omega) (by omega), w32_id (x := f * 4 + v7) (by omega) (by omega), w32_id (x := x * 4) (by omega) (by omega), w32_id (x := x * 4 + v7) (by omega) (by omega), w32_id (x := v7 + 1) (by omega) (by omega), gd_t (by omega), gd_t (by omega), show f * 4 + v7 = 4 * f + v7 by omega, show x * 4 + v7 = 4 * x + v7 by omega]
theorem h61_z {m : Mem} {o : Nat} {x v4 f s v7 : Int} {n : Nat} {kk : Int → Option Mem} (h : v4 < v7) : L9_hang_61 m o x v4 f kk (n + 1) s v7 = kk s := by rw [L9_hang_61, if_pos h]
theorem mn4_all {a : Int → Bool} {h : Int → Int} (ha : ∀ g, 0 ≤ g → g < 4 → a g = true) (hh : ∀ g, 0 ≤ g → g < 4 → h g < 1000000) : imn (imn (imn (imn 16777216 (h 0)) (h 1)) (h 2)) (h 3) = mn4 a h := by
  unfold mn4 mn1 imn
  rw [if_pos (ha 0 (by omega) (by omega)), if_pos (ha 1 (by omega) (by omega)), if_pos (ha 2 (by omega) (by omega)), if_pos (ha 3 (by omega) (by omega))]
  have := hh 0 (by omega) (by omega)
  rw [if_pos (show h 0 < 16777216 by omega), if_pos this]
theorem mn4_one {a : Int → Bool} {h : Int → Int} {F : Int} (f0 : 0 ≤ F) (f1 : F < 4) (ha : ∀ g, 0 ≤ g → g < 4 → (a g = true ↔ F = g)) (hh : h F < 1000000) : mn4 a h = h F := by
  obtain ⟨x, g, g0, g1, g2, g3⟩ := mn4_lt (a := a) (h := h) (g := F) (B := h F) f0 f1 ((ha F f0 f1).mpr rfl) (Int.le_refl _) hh
  rw [g3, (ha g g0 g1).mp g2]
theorem h61_e {m : Mem} {o : Nat} {x f F : Int} {kk : Int → Option Mem} {a : Int → Bool} {U S : Int → Int} (f0 : 0 ≤ f) (f1 : f < 4) (x0 : 0 ≤ x) (x1 : x < 12) (hF : isF F) (ha : ∀ g, 0 ≤ g → g < 4 → (a g = true ↔ F = 9 ∨ F = g)) (hU : ∀ g, 0 ≤ g → g < 4 → a g = true → rd m (o + 9) (4 * x + g) = U g ∧ 0 ≤ U g ∧ U g ≤ 1089) (hS : ∀ g, 0 ≤ g → g < 4 → rd m (o + 8) (4 * f + g) = S g ∧ 0 ≤ S g ∧ S g ≤ 99) :
    L9_hang_61 m o x (if F = 9 then 3 else F) f kk FU 16777216 (if F = 9 then 0 else F) = kk (mn4 a (fun g => S g + U g)) := by
  obtain ⟨n, hn⟩ : ∃ n, FU = n + 1 + 1 + 1 + 1 + 1 := ⟨99995, rfl⟩
  have st : ∀ g, 0 ≤ g → g < 4 → a g = true → w32 (rd m (o + 8) (4 * f + g) + rd m (o + 9) (4 * x + g)) = S g + U g := fun g g0 g1 g2 => by
    have u := hU g g0 g1 g2; have s := hS g g0 g1
    rw [u.1, s.1]; exact w32_id (by omega) (by omega)
  rw [hn]
  by_cases e : F = 9
  · have al : ∀ g, 0 ≤ g → g < 4 → a g = true := fun g g0 g1 => (ha g g0 g1).mpr (Or.inl e)
    rw [if_pos e, if_pos e]
    rw [h61_s (by omega) (by omega) (by omega) f0 f1 x0 x1, st 0 (by omega) (by omega) (al 0 (by omega) (by omega)), show (0 : Int) + 1 = 1 from rfl]
    rw [h61_s (by omega) (by omega) (by omega) f0 f1 x0 x1, st 1 (by omega) (by omega) (al 1 (by omega) (by omega)), show (1 : Int) + 1 = 2 from rfl]
    rw [h61_s (by omega) (by omega) (by omega) f0 f1 x0 x1, st 2 (by omega) (by omega) (al 2 (by omega) (by omega)), show (2 : Int) + 1 = 3 from rfl]
    rw [h61_s (by omega) (by omega) (by omega) f0 f1 x0 x1, st 3 (by omega) (by omega) (al 3 (by omega) (by omega)), h61_z (by omega)]
    have := mn4_all (a := a) (h := fun g => S g + U g) al (fun g g0 g1 => by have u := hU g g0 g1 (al g g0 g1); have s := hS g g0 g1; omega)
    rw [← this]
  · rw [if_neg e, if_neg e]
    have hf : 0 ≤ F ∧ F < 4 := by unfold isF at hF; omega
    have af := (ha F hf.1 hf.2).mpr (Or.inr rfl)
    have u := hU F hf.1 hf.2 af; have s := hS F hf.1 hf.2
    rw [h61_s (by omega) hf.1 hf.2 f0 f1 x0 x1, st F hf.1 hf.2 af, h61_z (by omega)]
    rw [mn4_one (F := F) hf.1 hf.2 (fun g g0 g1 => by rw [ha g g0 g1]; omega) (by omega)]
    unfold imn
    rw [if_pos (by omega)]
theorem h48_e {o : Nat} {x top F : Int} {a : Int → Bool} {U : Int → Int} {S : Int → Int → Int} (x0 : 0 ≤ x) (x1 : x < 12) (t0 : 0 ≤ top) (t1 : top < 12) (hne : x ≠ top) (hF : isF F) (ha : ∀ g, 0 ≤ g → g < 4 → (a g = true ↔ F = 9 ∨ F = g)) : ∀ (d n : Nat) (f : Int) (m : Mem), f + d = 4 → 0 ≤ f → d < n → (∀ g, 0 ≤ g → g < 4 → a g = true → rd m (o + 9) (4 * x + g) = U g ∧ 0 ≤ U g ∧ U g ≤ 1089) → (∀ f g, 0 ≤ f → f < 4 → 0 ≤ g → g < 4 → rd m (o + 8) (4 * f + g) = S f g ∧ 0 ≤ S f g ∧ S f g ≤ 99) → (∀ f, 0 ≤ f → f < 4 → 0 ≤ mn4 a (fun g => S f g + U g) ∧ mn4 a (fun g => S f g + U g) ≤ 1188) → (∀ g, f ≤ g → g < 4 → 0 ≤ rd m (o + 9) (4 * top + g) ∧ rd m (o + 9) (4 * top + g) ≤ 20000000) →
    ∃ m', L9_hang_48 o x top (if F = 9 then 0 else F) (if F = 9 then 3 else F) n f m = some m' ∧ (∀ k i, k ≠ o + 9 → k ≠ o + 11 → m' k i = m k i) ∧ (∀ i, ¬ (4 * top + f ≤ i ∧ i < 4 * top + 4) → m' (o + 9) i = m (o + 9) i) ∧ (∀ i, ¬ (4 * x + f ≤ i ∧ i < 4 * x + 4) → m' (o + 11) i = m (o + 11) i) ∧ ∀ g, f ≤ g → g < 4 → rd m' (o + 11) (4 * x + g) = mn4 a (fun h => S g h + U h) ∧ rd m' (o + 9) (4 * top + g) = rd m (o + 9) (4 * top + g) + mn4 a (fun h => S g h + U h) := by
  intro d
  induction d with
  | zero =>
    intro n f m h0 h1 h2 hU hS hB hT
    obtain ⟨n, rfl⟩ : ∃ j, n = j + 1 := ⟨n - 1, by omega⟩
    rw [L9_hang_48, if_pos (by omega)]
    exact ⟨m, rfl, fun _ _ _ _ => rfl, fun _ _ => rfl, fun _ _ => rfl, fun g a b => by omega⟩
  | succ d ih =>
    intro n f m h0 h1 h2 hU hS hB hT
    obtain ⟨n, rfl⟩ : ∃ j, n = j + 1 := ⟨n - 1, by omega⟩
    have b := hB f h1 (by omega)
    have t := hT f (Int.le_refl _) (by omega)
    rw [L9_hang_48, if_neg (by omega), h61_e (a := a) (U := U) (S := S f) h1 (by omega) x0 x1 hF ha hU (fun g g0 g1 => hS f g h1 (by omega) g0 g1)]
    obtain ⟨B, hBB⟩ : ∃ B, B = mn4 a (fun g => S f g + U g) := ⟨_, rfl⟩
    rw [← hBB] at b ⊢
    rw [w32_id (x := x * 4) (by omega) (by omega), w32_id (x := x * 4 + f) (by omega) (by omega), w32_id (x := top * 4) (by omega) (by omega), w32_id (x := top * 4 + f) (by omega) (by omega), w32_id (x := f + 1) (by omega) (by omega), gd_t (by omega), stw_v, gd_t (by omega), gd_t (by omega), stw_v, rd_wr_k (by omega), show x * 4 + f = 4 * x + f by omega, show top * 4 + f = 4 * top + f by omega, w32_id (x := rd m (o + 9) (4 * top + f) + B) (by omega) (by omega)]
    obtain ⟨q, hq⟩ : ∃ q, q = wr (wr m (o + 11) (4 * x + f) B) (o + 9) (4 * top + f) (rd m (o + 9) (4 * top + f) + B) := ⟨_, rfl⟩
    rw [← hq]
    have q9 : ∀ i, i ≠ 4 * top + f → q (o + 9) i = m (o + 9) i := fun i e => by rw [hq, wr_ki (by omega), wr_ki (by omega)]
    have q11 : ∀ i, i ≠ 4 * x + f → q (o + 11) i = m (o + 11) i := fun i e => by rw [hq, wr_ki (by omega), wr_ki (by omega)]
    have qo : ∀ k i, k ≠ o + 9 → k ≠ o + 11 → q k i = m k i := fun k i e e' => by rw [hq, wr_ki (by omega), wr_ki (by omega)]
    obtain ⟨m', x', y, z, u, w⟩ := ih n (f + 1) q (by omega) (by omega) (by omega) (fun g g0 g1 g2 => by rw [rd_eq (q9 _ (by omega))]; exact hU g g0 g1 g2) (fun f' g c1 c2 c3 c4 => by rw [rd_eq (qo _ _ (by omega) (by omega))]; exact hS f' g c1 c2 c3 c4) hB (fun g g0 g1 => by rw [rd_eq (q9 _ (by omega))]; exact hT g (by omega) g1)
    refine ⟨m', x', fun k i e e' => by rw [y k i e e']; exact qo k i e e', fun i e => by rw [z i (by omega)]; exact q9 i (by omega), fun i e => by rw [u i (by omega)]; exact q11 i (by omega), fun g g0 g1 => ?_⟩
    by_cases e : g = f
    · subst e
      rw [rd_eq (u _ (by omega)), rd_eq (z _ (by omega)), ← hBB]
      constructor
      · rw [hq, rd_wr_k (by omega), rd_wr_s]; exact w32_id (by omega) (by omega)
      · rw [hq, rd_wr_s]; exact w32_id (by omega) (by omega)
    · have := w g (by omega) g1
      rw [rd_eq (q9 (4 * top + g) (by omega))] at this
      exact this
theorem hang_e {m : Mem} {o : Nat} {N x top : Int} {T : TT} (ht : TD m o N T) (hN : N ≤ 12) (hk : Tok T) (x0 : 0 ≤ x) (x1 : x < N) (t0 : 0 ≤ top) (t1 : top < N) (hne : x ≠ top) (hU : ∀ g, 0 ≤ g → g < 4 → T.2.2.1 x g = true → rd m (o + 9) (4 * x + g) = US T x g) (hT : ∀ g, 0 ≤ g → g < 4 → 0 ≤ rd m (o + 9) (4 * top + g) ∧ rd m (o + 9) (4 * top + g) ≤ 20000000) :
    ∃ m', F9_hang m o x top = some m' ∧ (∀ k i, k ≠ o + 9 → k ≠ o + 11 → m' k i = m k i) ∧ (∀ i, ¬ (4 * top ≤ i ∧ i < 4 * top + 4) → m' (o + 9) i = m (o + 9) i) ∧ (∀ i, ¬ (4 * x ≤ i ∧ i < 4 * x + 4) → m' (o + 11) i = m (o + 11) i) ∧ ∀ g, 0 ≤ g → g < 4 → rd m' (o + 11) (4 * x + g) = BS T x g ∧ rd m' (o + 9) (4 * top + g) = rd m (o + 9) (4 * top + g) + BS T x g := by
  obtain ⟨e1, e2, e3, e4, e5, e6⟩ := ht
  have ex := e6 x x0 x1
  have hx : T.1 x = true := by rw [e1]; exact inN_e.mpr ⟨x0, x1⟩
  obtain ⟨m', a, b, c, d, e⟩ := h48_e (o := o) (x := x) (top := top) (F := rd m (o + 5) x) (a := T.2.2.1 x) (U := US T x) (S := T.2.2.2) x0 (by omega) t0 (by omega) hne ex.1 ex.2 4 FU 0 m (by omega) (by omega) (by rw [FU_eq]; omega) (fun g g0 g1 g2 => ⟨hU g g0 g1 g2, US_b hk x0 (by omega) g0 g1⟩) (fun f g f0 f1 g0 g1 => ⟨e4 f g f0 f1 g0 g1, hk.2.2 f g f0 f1 g0 g1⟩) (fun f f0 f1 => BS_b hk hx f0 f1) hT
  refine ⟨m', ?_, b, fun i h => c i (by omega), fun i h => d i (by omega), e⟩
  unfold F9_hang
  have gt : ∀ {α : Type} (y : Option α), gd (0 ≤ x ∧ x < 12) y = y := fun y => gd_t ⟨x0, by omega⟩
  simp only [jn_v, gt]
  by_cases z : rd m (o + 5) x = 9
  · rw [if_pos z, if_pos z] at a
    rw [if_neg (by omega), if_neg (by omega)]; exact a
  · rw [if_neg z, if_neg z] at a
    rw [if_pos z, if_pos z]; exact a
theorem imn_far {a : Int → Bool} {U : Int → Int} {s t g : Int} (h : (s = 16777216 ∧ t = 1000000) ∨ (s = t ∧ s < 1000000)) (u0 : 0 ≤ U g) (u1 : U g ≤ 1089) : ((imn s ((if a g = true then 0 else 16777216) + U g) = 16777216 ∧ mn1 a U t g = 1000000) ∨ (imn s ((if a g = true then 0 else 16777216) + U g) = mn1 a U t g ∧ imn s ((if a g = true then 0 else 16777216) + U g) < 1000000)) := by
  unfold imn mn1
  by_cases z : a g = true
  · rw [if_pos z, if_pos z]
    right
    rcases h with ⟨h1, h2⟩ | ⟨h1, h2⟩
    · rw [if_pos (by omega), if_pos (by omega)]; omega
    · rw [← h1]; constructor
      · split <;> split <;> omega
      · split <;> omega
  · rw [if_neg z, if_neg z, if_neg (by omega)]; exact h
theorem sb_e {m : Mem} {o : Nat} {N x : Int} {T : TT} (hN : N ≤ 12) (hk : Tok T) (e1 : T.1 = inN N) (x0 : 0 ≤ x) (x1 : x < N) (hU : ∀ g, 0 ≤ g → g < 4 → rd m (o + 9) (4 * x + g) = far T x g + US T x g) : F9_smallestBelow m o x = some (mn4 (T.2.2.1 x) (fun g => US T x g)) := by
  have hx : T.1 x = true := by rw [e1]; exact inN_e.mpr ⟨x0, x1⟩
  obtain ⟨g', q0, q1, q2⟩ := hk.2.1 x hx
  obtain ⟨n, hn⟩ : ∃ n, FU = n + 1 + 1 + 1 + 1 + 1 := ⟨99995, rfl⟩
  have st : ∀ (n : Nat) (s g : Int), 0 ≤ g → g < 4 → L9_smallestBelow_5 m o x (n + 1) s g = L9_smallestBelow_5 m o x n (imn s (far T x g + US T x g)) (g + 1) := fun n s g g0 g1 => by
    rw [L9_smallestBelow_5, if_neg (by omega), w32_id (x := x * 4) (by omega) (by omega), w32_id (x := x * 4 + g) (by omega) (by omega), w32_id (x := g + 1) (by omega) (by omega), gd_t (by omega), show x * 4 + g = 4 * x + g by omega, hU g g0 g1]
  unfold F9_smallestBelow
  rw [hn, st _ _ 0 (by omega) (by omega), show (0 : Int) + 1 = 1 from rfl, st _ _ 1 (by omega) (by omega), show (1 : Int) + 1 = 2 from rfl, st _ _ 2 (by omega) (by omega), show (2 : Int) + 1 = 3 from rfl, st _ _ 3 (by omega) (by omega), L9_smallestBelow_5, if_pos (by omega)]
  have b := fun g (g0 : 0 ≤ g) (g1 : g < 4) => US_b hk x0 (show x < 12 by omega) (f := g) g0 g1
  have r0 := imn_far (a := T.2.2.1 x) (U := US T x) (s := 16777216) (t := 1000000) (g := 0) (Or.inl ⟨rfl, rfl⟩) (b 0 (by omega) (by omega)).1 (b 0 (by omega) (by omega)).2
  have r1 := imn_far (a := T.2.2.1 x) (U := US T x) (g := 1) r0 (b 1 (by omega) (by omega)).1 (b 1 (by omega) (by omega)).2
  have r2 := imn_far (a := T.2.2.1 x) (U := US T x) (g := 2) r1 (b 2 (by omega) (by omega)).1 (b 2 (by omega) (by omega)).2
  have r3 := imn_far (a := T.2.2.1 x) (U := US T x) (g := 3) r2 (b 3 (by omega) (by omega)).1 (b 3 (by omega) (by omega)).2
  have le := (mn4_lt (a := T.2.2.1 x) (h := fun g => US T x g) (B := 1089) q0 q1 q2 (b g' q0 q1).2 (by omega)).1
  congr 1
  rcases r3 with r3 | r3
  · have : mn4 (T.2.2.1 x) (fun g => US T x g) = 1000000 := r3.2
    omega
  · exact r3.1
/-- the class's way from the last in the order to the first -/
def LI (m : Mem) (o : Nat) (N i : Int) (T : TT) (dn : Int → Bool) (s : Int) : Prop :=
  (∀ d, T.1 d = true → (dn d = true ↔ ∃ j, i < j ∧ j < N ∧ rd m (o + 7) j = d)) ∧
  (∀ v f, 0 ≤ v → v < N → 0 ≤ f → f < 4 → rd m (o + 9) (4 * v + f) = far T v f + sm (fun d => if (T.1 d = true ∧ T.2.1 d = v) ∧ dn d = true then BS T d f else 0) 12) ∧
  (∀ d f, T.1 d = true → dn d = true → 0 ≤ T.2.1 d → 0 ≤ f → f < 4 → rd m (o + 11) (4 * d + f) = BS T d f) ∧
  s = sm (fun r => if (T.1 r = true ∧ T.2.1 r < 0) ∧ dn r = true then mn4 (T.2.2.1 r) (fun f => US T r f) else 0) 12
theorem mn4_US {T : TT} (hk : Tok T) {r : Int} (hr : T.1 r = true) : 0 ≤ mn4 (T.2.2.1 r) (fun f => US T r f) ∧ mn4 (T.2.2.1 r) (fun f => US T r f) ≤ 1089 := by
  obtain ⟨g, g0, g1, g2⟩ := hk.2.1 r hr
  have b := hk.1.1 r hr
  have u := US_b hk b.1 b.2 g0 g1
  refine ⟨mn4_nn (fun g x y _ => (US_b hk b.1 b.2 x y).1), (mn4_lt (B := 1089) g0 g1 g2 u.2 (by omega)).1⟩
theorem LI_b {m : Mem} {o : Nat} {N i : Int} {T : TT} {dn : Int → Bool} {s : Int} (hk : Tok T) (h : LI m o N i T dn s) : 0 ≤ s ∧ s ≤ 13068 := by
  rw [h.2.2.2]
  constructor
  · refine sm_nn 12 (fun i x => ?_)
    split
    · rename_i z; exact (mn4_US hk z.1.1).1
    · exact Int.le_refl _
  · have e : sm (fun _ => (1089 : Int)) 12 = 13068 := rfl
    rw [← e]
    refine sm_le 12 (fun i x => ?_)
    split
    · rename_i z; exact (mn4_US hk z.1.1).2
    · omega
theorem L9_l75 {o : Nat} {N : Int} {T : TT} (hN : N ≤ 12) (hk : Tok T) : ∀ (d n : Nat) (i s : Int) (m : Mem) (dn : Int → Bool), (d : Int) = i + 1 → i < N → d < n → TD m o N T → LI m o N i T dn s →
    ∃ m' dn', L9_least_75 o n s i m = some (CS T, m') ∧ (∀ k i, k ≠ o + 9 → k ≠ o + 11 → m' k i = m k i) ∧ LI m' o N (-1) T dn' (CS T) := by
  intro d
  induction d with
  | zero =>
    intro n i s m dn h0 h1 h2 ht hl
    obtain ⟨n, rfl⟩ : ∃ j, n = j + 1 := ⟨n - 1, by omega⟩
    have : i = -1 := by omega
    subst this
    have e : s = CS T := by
      rw [hl.2.2.2]
      unfold CS
      refine sm_c 12 (fun r x => ?_)
      by_cases z : T.1 r = true ∧ T.2.1 r < 0
      · have : dn r = true := (hl.1 r z.1).mpr (by
          obtain ⟨j, j0, j1, j2⟩ := ht.2.2.2.2.1.2 r (by rw [← ht.1]; exact z.1)
          exact ⟨j, by omega, j1, j2⟩)
        rw [if_pos ⟨z, this⟩, if_pos z]
      · rw [if_neg (fun q => z q.1), if_neg z]
    rw [L9_least_75, if_pos (by omega)]
    rw [e] at hl ⊢
    exact ⟨m, dn, rfl, fun _ _ _ _ => rfl, hl⟩
  | succ d ih =>
    intro n i s m dn h0 h1 h2 ht hl
    obtain ⟨n, rfl⟩ : ∃ j, n = j + 1 := ⟨n - 1, by omega⟩
    obtain ⟨x, hx⟩ : ∃ x, x = rd m (o + 7) i := ⟨_, rfl⟩
    have ht' := ht
    obtain ⟨e1, e2, e3, e4, e5, e6⟩ := ht
    have xi := (e5.1.1 i (by omega) h1).1
    dsimp only at xi
    rw [← hx] at xi
    have xr := inN_e.mp xi
    have xT : T.1 x = true := by rw [e1]; exact xi
    have lb := LI_b hk hl
    obtain ⟨l1, l2, l3, l4⟩ := hl
    have px := e3 x xr.1 xr.2
    rw [L9_least_75, if_neg (by omega), gd_t (by omega), ← hx, gd_t (by omega)]
    simp only [jn_v]
    rw [px, w32_id (x := i + (-1)) (by omega) (by omega), show i + (-1) = i - 1 by omega]
    -- all that hang under x are done
    have kids : ∀ d, T.1 d = true → T.2.1 d = x → dn d = true := by
      intro d d1 d2
      refine (l1 d d1).mpr ?_
      obtain ⟨j, j0, j1, j2⟩ := e5.2 d (by rw [← e1]; exact d1)
      dsimp only at j2
      obtain ⟨j', k0, k1, k2⟩ := (e5.1.1 j j0 j1).2 (by dsimp only; rw [j2, d2]; exact xr.1)
      dsimp only at k2
      rw [j2, d2, hx] at k2
      have := e5.1.2 j' i k0 (by omega) (by omega) h1 k2
      exact ⟨j, by omega, j1, j2⟩
    have xnd : dn x = false := by
      cases z : dn x with
      | false => rfl
      | true =>
        obtain ⟨j, j0, j1, j2⟩ := (l1 x xT).mp z
        rw [hx] at j2
        have := e5.1.2 j i (by omega) j1 (by omega) h1 j2
        omega
    have bx : ∀ f, 0 ≤ f → f < 4 → rd m (o + 9) (4 * x + f) = far T x f + US T x f := by
      intro f f0 f1
      rw [l2 x f xr.1 xr.2 f0 f1, US_e hk.1 xT]
      congr 1
      refine sm_c 12 (fun d y => ?_)
      by_cases z : T.1 d = true ∧ T.2.1 d = x
      · rw [if_pos z, if_pos ⟨z, kids d z.1 z.2⟩]
      · rw [if_neg z, if_neg (fun q => z q.1)]
    obtain ⟨dn', hdn⟩ : ∃ dn' : Int → Bool, dn' = fun d => if d = x then true else dn d := ⟨_, rfl⟩
    have dx : dn' x = true := by rw [hdn]; exact if_pos rfl
    have dne : ∀ d, d ≠ x → dn' d = dn d := fun d z => by rw [hdn]; exact if_neg z
    have n1 : ∀ m' : Mem, (∀ j, rd m' (o + 7) j = rd m (o + 7) j) → ∀ d, T.1 d = true → (dn' d = true ↔ ∃ j, i - 1 < j ∧ j < N ∧ rd m' (o + 7) j = d) := by
      intro m' g7 d d1
      constructor
      · intro h
        by_cases z : d = x
        · exact ⟨i, by omega, h1, by rw [g7, z, hx]⟩
        · rw [dne d z] at h
          obtain ⟨j, j0, j1, j2⟩ := (l1 d d1).mp h
          exact ⟨j, by omega, j1, by rw [g7]; exact j2⟩
      · rintro ⟨j, j0, j1, j2⟩
        rw [g7] at j2
        by_cases z : j = i
        · rw [z, ← hx] at j2; rw [← j2]; exact dx
        · have : dn d = true := (l1 d d1).mpr ⟨j, by omega, j1, j2⟩
          by_cases y : d = x
          · rw [y]; exact dx
          · rw [dne d y]; exact this
    by_cases a : 0 ≤ T.2.1 x
    · have pt := hk.1.2.1 x xT a
      rw [e1] at pt
      have pr := inN_e.mp pt
      obtain ⟨rk, r1, r2⟩ := hk.1.2.2
      have hne : x ≠ T.2.1 x := fun z => by have := r1 x xT a; rw [← z] at this; omega
      have tb : ∀ g, 0 ≤ g → g < 4 → 0 ≤ rd m (o + 9) (4 * T.2.1 x + g) ∧ rd m (o + 9) (4 * T.2.1 x + g) ≤ 20000000 := by
        intro g g0 g1
        rw [l2 _ g pr.1 pr.2 g0 g1]
        have f := far_b T (T.2.1 x) g
        have s0 := sm_nn (g := fun d => if (T.1 d = true ∧ T.2.1 d = T.2.1 x) ∧ dn d = true then BS T d g else 0) 12 (fun j y => by
          split
          · rename_i z; exact (BS_b hk z.1.1 g0 g1).1
          · exact Int.le_refl _)
        have s1 := sm_le (g := fun d => if (T.1 d = true ∧ T.2.1 d = T.2.1 x) ∧ dn d = true then BS T d g else 0) (h := fun _ => 1188) 12 (fun j y => by
          split
          · rename_i z; exact (BS_b hk z.1.1 g0 g1).2
          · omega)
        have e : sm (fun _ => (1188 : Int)) 12 = 14256 := rfl
        omega
      obtain ⟨m', a1, a2, a3, a4, a5⟩ := hang_e ht' hN hk xr.1 xr.2 pr.1 pr.2 hne (fun g g0 g1 g2 => by rw [bx g g0 g1]; unfold far; rw [if_pos g2]; omega) tb
      rw [if_pos a, gd_t (by omega), a1, b1_v]
      have g7 : ∀ j, rd m' (o + 7) j = rd m (o + 7) j := fun j => rd_eq (a2 _ _ (by omega) (by omega))
      suffices hh : LI m' o N (i - 1) T dn' s by
        obtain ⟨m'', dn'', p1, p2, p3⟩ := ih n (i - 1) s m' dn' (by omega) (by omega) (by omega) (TD_s ht' (fun k j q => a2 k j (by unfold PD at q; omega) (by unfold PD at q; omega))) hh
        exact ⟨m'', dn'', p1, fun k j q q' => by rw [p2 k j q q']; exact a2 k j q q', p3⟩
      refine ⟨n1 m' g7, fun v f v0 v1 f0 f1 => ?_, fun d f d1 d2 d3 f0 f1 => ?_, ?_⟩
      · by_cases z : v = T.2.1 x
        · rw [z, (a5 f f0 f1).2, l2 _ f pr.1 pr.2 f0 f1]
          have := sm_add (g := fun d => if (T.1 d = true ∧ T.2.1 d = T.2.1 x) ∧ dn d = true then BS T d f else 0) (h := fun d => if (T.1 d = true ∧ T.2.1 d = T.2.1 x) ∧ dn' d = true then BS T d f else 0) (x := BS T x f) 12 x.toNat (by omega) (fun j y w => by
            rw [dne j (by omega)]) (by
            rw [show ((x.toNat : Nat) : Int) = x by omega, if_pos ⟨⟨xT, rfl⟩, dx⟩, if_neg (fun q => by rw [xnd] at q; cases q.2)]; omega)
          rw [this]; omega
        · rw [rd_eq (a3 _ (by omega)), l2 v f v0 v1 f0 f1]
          congr 1
          refine sm_c 12 (fun j y => ?_)
          by_cases w : (j : Int) = x
          · rw [if_neg (fun q => z (by rw [← q.1.2, w])), if_neg (fun q => z (by rw [← q.1.2, w]))]
          · rw [dne j w]
      · by_cases z : d = x
        · rw [z]; exact (a5 f f0 f1).1
        · rw [rd_eq (a4 _ (by omega))]; rw [dne d z] at d2; exact l3 d f d1 d2 d3 f0 f1
      · rw [l4]
        refine sm_c 12 (fun j y => ?_)
        by_cases w : (j : Int) = x
        · rw [if_neg (fun q => by rw [w] at q; omega), if_neg (fun q => by rw [w] at q; omega)]
        · rw [dne j w]
    · have mb := mn4_US hk xT
      rw [if_neg a, sb_e hN hk e1 xr.1 xr.2 bx, b1_v, w32_id (by omega) (by omega)]
      suffices hh : LI m o N (i - 1) T dn' (s + mn4 (T.2.2.1 x) (fun g => US T x g)) by
        obtain ⟨m'', dn'', p1, p2, p3⟩ := ih n (i - 1) (s + mn4 (T.2.2.1 x) (fun g => US T x g)) m dn' (by omega) (by omega) (by omega) ht' hh
        exact ⟨m'', dn'', p1, p2, p3⟩
      refine ⟨n1 m (fun _ => rfl), fun v f v0 v1 f0 f1 => ?_, fun d f d1 d2 d3 f0 f1 => ?_, ?_⟩
      · rw [l2 v f v0 v1 f0 f1]
        congr 1
        refine sm_c 12 (fun j y => ?_)
        by_cases w : (j : Int) = x
        · rw [if_neg (fun q => by rw [w] at q; omega), if_neg (fun q => by rw [w] at q; omega)]
        · rw [dne j w]
      · by_cases z : d = x
        · rw [z] at d3; exact absurd d3 a
        · rw [dne d z] at d2; exact l3 d f d1 d2 d3 f0 f1
      · rw [l4]
        refine (sm_add 12 x.toNat (by omega) (fun j y w => ?_) ?_).symm
        · rw [dne j (by omega)]
        · rw [show ((x.toNat : Nat) : Int) = x by omega, if_pos ⟨⟨xT, by omega⟩, dx⟩, if_neg (fun q => by rw [xnd] at q; cases q.2)]; omega
/-- what least() leaves -/
def LD (m : Mem) (o : Nat) (N : Int) (T : TT) : Prop := TD m o N T ∧ (∀ v f, 0 ≤ v → v < N → 0 ≤ f → f < 4 → rd m (o + 9) (4 * v + f) = far T v f + US T v f) ∧ ∀ d f, T.1 d = true → 0 ≤ T.2.1 d → 0 ≤ f → f < 4 → rd m (o + 11) (4 * d + f) = BS T d f
theorem least_e {m : Mem} {o : Nat} {N : Int} {T : TT} (hN : 0 ≤ N ∧ N ≤ 12) (hk : Tok T) (ht : TD m o N T) : ∃ m', F9_least m o = some (CS T, m') ∧ (∀ k i, k ≠ o + 9 → k ≠ o + 11 → m' k i = m k i) ∧ LD m' o N T := by
  obtain ⟨m1, x1, y1, z1, w1⟩ := L9_l2 hN.2 (kk := fun (m_66 : Mem) => L9_least_75 o FU 0 (w32 ((rd m_66 o 0) - 1)) m_66) N.toNat FU 0 m (by omega) (by omega) (by rw [FU_eq]; omega) ht
  have ht1 := TD_s ht (fun k i q => y1 k i (by unfold PD at q; omega))
  have li : LI m1 o N (N - 1) T (fun _ => false) 0 := by
    refine ⟨fun d _ => ⟨fun h => (by cases h), fun ⟨j, a, b, _⟩ => (by omega)⟩, fun v f v0 v1 f0 f1 => ?_, fun d f _ h => (by cases h), ?_⟩
    · rw [w1 v f v0 v1 f0 f1, sm_0 12 (fun i x => by rw [if_neg (fun q => by cases q.2)])]; omega
    · exact (sm_0 12 (fun i x => by rw [if_neg (fun q => by cases q.2)])).symm
  obtain ⟨m2, dn, x2, y2, z2⟩ := L9_l75 hN.2 hk N.toNat FU (N - 1) 0 m1 (fun _ => false) (by omega) (by omega) (by rw [FU_eq]; omega) ht1 li
  have ht2 := TD_s ht1 (m' := m2) (fun k i q => y2 k i (by unfold PD at q; omega) (by unfold PD at q; omega))
  have alld : ∀ d, T.1 d = true → dn d = true := fun d d1 => (z2.1 d d1).mpr (by
    obtain ⟨j, j0, j1, j2⟩ := ht2.2.2.2.2.1.2 d (by rw [← ht.1]; exact d1)
    exact ⟨j, by omega, j1, j2⟩)
  refine ⟨m2, ?_, fun k i a b => by rw [y2 k i a b]; exact y1 k i a, ht2, fun v f v0 v1 f0 f1 => ?_, fun d f d1 d2 f0 f1 => z2.2.2.1 d f d1 (alld d d1) d2 f0 f1⟩
  · unfold F9_least
    rw [x1]
    show L9_least_75 o FU 0 (w32 ((rd m1 o 0) - 1)) m1 = _
    rw [ht1.2.1, w32_id (by omega) (by omega)]
    exact x2
  · rw [z2.2.1 v f v0 v1 f0 f1, US_e hk.1 (by rw [ht.1]; exact inN_e.mpr ⟨v0, v1⟩)]
    congr 1
    refine sm_c 12 (fun d y => ?_)
    by_cases z : T.1 d = true ∧ T.2.1 d = v
    · rw [if_pos z, if_pos ⟨z, alld d z.1⟩]
    · rw [if_neg z, if_neg (fun q => z q.1)]
