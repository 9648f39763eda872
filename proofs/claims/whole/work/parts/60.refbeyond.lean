/-! the reference's beyond, and what a form may be -/
theorem L11_fb59 {m : Mem} {C k v f : Int} {T : TT} {kk : Int → Option Mem} (hk : Tok T) (h : RU m C k T) (hv : T.1 v = true) (hp : 0 ≤ T.2.1 v) (hb : ∀ g, 0 ≤ g → g < 4 → rd m 99 (4 * T.2.1 v + g) = VS T (T.2.1 v) g) (f0 : 0 ≤ f) (f1 : f < 4) : L11_findBeyond_59 m v (T.2.1 v) f kk FU 1000000 0 = kk (VS T v f) := by
  have pt := hk.1.2.1 v hv hp
  have pr := hk.1.1 _ pt
  obtain ⟨top, htop⟩ : ∃ top, top = T.2.1 v := ⟨_, rfl⟩
  rw [← htop] at pr pt hb hp ⊢
  obtain ⟨H, hH⟩ : ∃ H : Int → Int, H = fun g => VS T top g + US T top g - BS T v g + T.2.2.2 g f := ⟨_, rfl⟩
  obtain ⟨n, hn⟩ : ∃ n, FU = n + 1 + 1 + 1 + 1 + 1 := ⟨99995, rfl⟩
  have st : ∀ (n : Nat) (s g : Int), 0 ≤ g → g < 4 → L11_findBeyond_59 m v top f kk (n + 1) s g = L11_findBeyond_59 m v top f kk n (mn1 (T.2.2.1 top) H s g) (g + 1) := fun n s g g0 g1 => by
    have a := VS_b hk pt g0 g1
    have b := US_b hk pr.1 pr.2 g0 g1
    have c := BS_b hk hv g0 g1
    have e := hk.2.2 g f g0 g1 f0 f1
    have hf : H g = VS T top g + US T top g - BS T v g + T.2.2.2 g f := by rw [hH]
    rw [L11_findBeyond_59, if_neg (by omega), w32_id (x := 4 * top) (by omega) (by omega), w32_id (x := 4 * top + g) (by omega) (by omega), w32_id (x := g + 1) (by omega) (by omega), gd_t (by omega), jn_v, h.2 top g pt g0 g1, lf_e hk h.1 hv (fun g g0 g1 => h.2 v g hv g0 g1) g0 g1, priceOf_e, ← h.1.2.2.2.2.1 g f g0 g1 f0 f1, b1_v, b1_v, gd_t (by omega), gd_t (by omega), hb g g0 g1]
    unfold mn1 und
    by_cases z : T.2.2.1 top g = true
    · rw [if_pos z, if_pos z, if_pos (by omega), F11_lesser_e, w32_id (x := VS T top g + US T top g) (by omega) (by omega), w32_id (x := VS T top g + US T top g - BS T v g) (by omega) (by omega), w32_id (x := VS T top g + US T top g - BS T v g + T.2.2.2 g f) (by omega) (by omega), ← hf]
      congr 1
      split <;> omega
    · rw [if_neg z, if_neg z, if_neg (by omega)]
  rw [hn, st _ _ 0 (by omega) (by omega), show (0 : Int) + 1 = 1 from rfl, st _ _ 1 (by omega) (by omega), show (1 : Int) + 1 = 2 from rfl, st _ _ 2 (by omega) (by omega), show (2 : Int) + 1 = 3 from rfl, st _ _ 3 (by omega) (by omega), L11_findBeyond_59, if_pos (by omega)]
  rw [VS_e hk.1 hv, if_neg (show ¬ T.2.1 v < 0 by omega), ← htop, ← hH]
  rfl
theorem RU_s {m m' : Mem} {C k : Int} {T : TT} (h : RU m C k T) (g : ∀ j i, j ≠ 99 → m' j i = m j i) : RU m' C k T := ⟨RQ_s h.1 (fun j i a b => g j i b), fun v f x y z => by rw [rd_eq (g 98 _ (by omega))]; exact h.2 v f x y z⟩
theorem L11_fb27 {C k v : Int} {T : TT} {kk : Mem → Option Mem} (hk : Tok T) (hv : T.1 v = true) : ∀ (d n : Nat) (f : Int) (m : Mem), f + d = 4 → 0 ≤ f → d < n → RU m C k T → (0 ≤ T.2.1 v → ∀ g, 0 ≤ g → g < 4 → rd m 99 (4 * T.2.1 v + g) = VS T (T.2.1 v) g) → L11_findBeyond_27 v (T.2.1 v) kk n f m = kk (fw m 99 (4 * v + f) (4 * v + 4) (fun i => VS T v (i - 4 * v))) := by
  intro d
  have vr := hk.1.1 v hv
  induction d with
  | zero =>
    intro n f m h0 h1 h2 hl hb
    obtain ⟨n, rfl⟩ : ∃ j, n = j + 1 := ⟨n - 1, by omega⟩
    rw [L11_findBeyond_27, if_pos (by omega), fw_0 (by omega)]
  | succ d ih =>
    intro n f m h0 h1 h2 hl hb
    obtain ⟨n, rfl⟩ : ∃ j, n = j + 1 := ⟨n - 1, by omega⟩
    have key : L11_findBeyond_27 v (T.2.1 v) kk n (f + 1) (wr m 99 (4 * v + f) (VS T v f)) = kk (fw m 99 (4 * v + f) (4 * v + 4) (fun i => VS T v (i - 4 * v))) := by
      rw [ih n (f + 1) _ (by omega) (by omega) (by omega) (RU_s hl (fun k i q => wr_ka q)) (fun p g g0 g1 => by
        obtain ⟨rk, r1, r2⟩ := hk.1.2.2
        have := r1 v hv p
        have hne : T.2.1 v ≠ v := fun z => by rw [z] at this; omega
        rw [rd_wr_i (by omega)]; exact hb p g g0 g1), show 4 * v + (f + 1) = 4 * v + f + 1 by omega]
      have := fw_s (m := m) (k := 99) (a := 4 * v + f) (b := 4 * v + 4) (F := fun i => VS T v (i - 4 * v)) (by omega)
      rw [← this, show 4 * v + f - 4 * v = f by omega]
    rw [L11_findBeyond_27, if_neg (by omega), w32_id (x := 4 * v) (by omega) (by omega), w32_id (x := 4 * v + f) (by omega) (by omega), w32_id (x := f + 1) (by omega) (by omega)]
    simp only [jn_v]
    by_cases a : 0 ≤ T.2.1 v
    · rw [if_pos a, L11_fb59 hk hl hv a (hb a) h1 (by omega), gd_t (by omega), stw_v]
      exact key
    · have : VS T v f = 0 := by rw [VS_e hk.1 hv, if_pos (by omega)]
      rw [this] at key
      rw [if_neg a, gd_t (by omega), stw_v]
      exact key
theorem L11_fb2 {C k : Int} {T : TT} (hk : Tok T) : ∀ (d n : Nat) (i : Int) (m : Mem), i + d = (cI T.1 : Int) → 0 ≤ i → d < n → RU m C k T → (∀ j g, 0 ≤ j → j < i → 0 ≤ g → g < 4 → rd m 99 (4 * rd m 100 j + g) = VS T (rd m 100 j) g) →
    ∃ m', L11_findBeyond_2 n i m = some m' ∧ (∀ k i, k ≠ 99 → m' k i = m k i) ∧ ∀ j g, 0 ≤ j → j < (cI T.1 : Int) → 0 ≤ g → g < 4 → rd m' 99 (4 * rd m' 100 j + g) = VS T (rd m' 100 j) g := by
  intro d
  have l2 : cI T.1 ≤ 12 := cnt_le _ 12
  induction d with
  | zero =>
    intro n i m h0 h1 h2 hl hb
    obtain ⟨n, rfl⟩ : ∃ j, n = j + 1 := ⟨n - 1, by omega⟩
    rw [L11_findBeyond_2, hl.1.2.1, if_pos (by omega)]
    exact ⟨m, rfl, fun _ _ _ => rfl, fun j g a b => hb j g a (by omega)⟩
  | succ d ih =>
    intro n i m h0 h1 h2 hl hb
    obtain ⟨n, rfl⟩ : ∃ j, n = j + 1 := ⟨n - 1, by omega⟩
    obtain ⟨x, hx⟩ : ∃ x, x = rd m 100 i := ⟨_, rfl⟩
    have e5 := hl.1.2.2.1
    have xi := e5.1.1 i h1 (by omega)
    dsimp only at xi
    rw [← hx] at xi
    have xr := hk.1.1 x xi.1
    rw [L11_findBeyond_2, hl.1.2.1, if_neg (by omega), gd_t (by omega), ← hx, gd_t (by omega), hl.1.1.2.2.2.2 x xi.1, L11_fb27 hk xi.1 4 FU 0 m (by omega) (by omega) (by rw [FU_eq]; omega) hl (fun p g g0 g1 => by
      obtain ⟨j, j0, j1, j2⟩ := xi.2 p
      rw [← j2]; exact hb j g j0 j1 g0 g1), w32_id (x := i + 1) (by omega) (by omega)]
    obtain ⟨q, hq⟩ : ∃ q, q = fw m 99 (4 * x + 0) (4 * x + 4) (fun i => VS T x (i - 4 * x)) := ⟨_, rfl⟩
    rw [← hq]
    have qo : ∀ k i, k ≠ 99 → q k i = m k i := fun k i a => by rw [hq, fw_o (by omega)]
    have q7 : ∀ j, rd q 100 j = rd m 100 j := fun j => rd_eq (qo _ _ (by omega))
    obtain ⟨m', p1, p2, p3⟩ := ih n (i + 1) q (by omega) (by omega) (by omega) (RU_s hl qo) (fun j g j0 j1 g0 g1 => by
      rw [q7]
      by_cases z : rd m 100 j = x
      · rw [z, hq, rd_fw_i (by omega) (by omega), show 4 * x + g - 4 * x = g by omega]
        have := VS_b hk xi.1 g0 g1
        exact w32_id (by omega) (by omega)
      · have : j ≠ i := fun y => z (by rw [y, hx])
        rw [hq, rd_fw_o (by omega)]
        exact hb j g j0 (by omega) g0 g1)
    exact ⟨m', p1, fun k i a => by rw [p2 k i a]; exact qo k i a, p3⟩
theorem fb_e {m : Mem} {C k : Int} {T : TT} (hk : Tok T) (hl : RU m C k T) : ∃ m', F11_findBeyond m = some m' ∧ (∀ k i, k ≠ 99 → m' k i = m k i) ∧ RU m' C k T ∧ ∀ v g, T.1 v = true → 0 ≤ g → g < 4 → rd m' 99 (4 * v + g) = VS T v g := by
  have l2 : cI T.1 ≤ 12 := cnt_le _ 12
  obtain ⟨m', a, b, c⟩ := L11_fb2 hk (cI T.1) FU 0 m (by omega) (by omega) (by rw [FU_eq]; omega) hl (fun j g a b => by omega)
  have hl' := RU_s hl b
  refine ⟨m', a, b, hl', fun v g hv g0 g1 => ?_⟩
  obtain ⟨j, j0, j1, j2⟩ := hl'.1.2.2.1.2 v hv
  dsimp only at j2
  rw [← j2]; exact c j g j0 j1 g0 g1
theorem filledBy_e {m : Mem} {C k v : Int} {T : TT} (hk : Tok T) (h : RQ m C k T) (hv : T.1 v = true) : ∃ m', F11_filledBy m v k = some (FS T v, m') ∧ (∀ k i, k ≠ 98 → k ≠ 99 → m' k i = m k i) := by
  have vr := hk.1.1 v hv
  obtain ⟨m1, x1, y1, z1⟩ := costR_e hk h
  obtain ⟨m2, x2, y2, z2, w2⟩ := fb_e hk z1
  refine ⟨m2, ?_, fun k i a b => by rw [y2 k i b]; exact y1 k i a⟩
  obtain ⟨n, hn⟩ : ∃ n, FU = n + 1 + 1 + 1 + 1 + 1 := ⟨99995, rfl⟩
  have bd : ∀ g, 0 ≤ g → g < 4 → 0 ≤ US T v g + VS T v g ∧ US T v g + VS T v g ≤ 20000 := fun g g0 g1 => by
    have a := US_b hk vr.1 vr.2 g0 g1
    have b := VS_b hk hv g0 g1
    omega
  have st : ∀ (kk : Int → Option (Int × Mem)) (n : Nat) (s g : Int), 0 ≤ g → g < 4 → L11_filledBy_16 m2 v kk (n + 1) s g = L11_filledBy_16 m2 v kk n (mn1 (T.2.2.1 v) (fun f => US T v f + VS T v f) s g) (g + 1) := fun kk n s g g0 g1 => by
    have b := bd g g0 g1
    have u := US_b hk vr.1 vr.2 g0 g1
    rw [L11_filledBy_16, if_neg (by omega), w32_id (x := 4 * v) (by omega) (by omega), w32_id (x := 4 * v + g) (by omega) (by omega), w32_id (x := g + 1) (by omega) (by omega), gd_t (by omega), jn_v, z2.2 v g hv g0 g1, w2 v g hv g0 g1, gd_t (by omega), gd_t (by omega)]
    unfold mn1 und
    by_cases z : T.2.2.1 v g = true
    · rw [if_pos z, if_pos z, if_neg (by omega), F11_lesser_e, w32_id (by omega) (by omega)]
      congr 1
      dsimp only
      split <;> omega
    · rw [if_neg z, if_neg z, if_pos (by omega)]
  have st2 : ∀ (n : Nat) (s b g : Int), 0 ≤ g → g < 4 → L11_filledBy_78 m2 v s (n + 1) b g = L11_filledBy_78 m2 v s n (if (T.2.2.1 v g && decide (US T v g + VS T v g = s)) = true then bor b (shl 1 g) else b) (g + 1) := fun n s b g g0 g1 => by
    have b' := bd g g0 g1
    have u := US_b hk vr.1 vr.2 g0 g1
    rw [L11_filledBy_78, if_neg (by omega), w32_id (x := 4 * v) (by omega) (by omega), w32_id (x := 4 * v + g) (by omega) (by omega), w32_id (x := g + 1) (by omega) (by omega), gd_t (by omega), jn_v, z2.2 v g hv g0 g1, w2 v g hv g0 g1, gd_t (by omega), gd_t (by omega)]
    unfold und
    by_cases z : T.2.2.1 v g = true
    · rw [if_pos z, if_neg (by omega), w32_id (by omega) (by omega), z, Bool.true_and]
      by_cases y : US T v g + VS T v g = s
      · rw [if_neg (by omega), if_pos (decide_eq_true y)]
      · rw [if_pos y, if_neg (by rw [decide_eq_true_iff]; exact y)]
    · rw [if_neg z, if_pos (by omega), if_neg (by intro q; rw [Bool.and_eq_true] at q; exact z q.1)]
  unfold F11_filledBy
  rw [x1, b2_v, x2, b1_v, hn, st _ _ _ 0 (by omega) (by omega), show (0 : Int) + 1 = 1 from rfl, st _ _ _ 1 (by omega) (by omega), show (1 : Int) + 1 = 2 from rfl, st _ _ _ 2 (by omega) (by omega), show (2 : Int) + 1 = 3 from rfl, st _ _ _ 3 (by omega) (by omega), L11_filledBy_16, if_pos (by omega)]
  rw [st2 _ _ _ 0 (by omega) (by omega), show (0 : Int) + 1 = 1 from rfl, st2 _ _ _ 1 (by omega) (by omega), show (1 : Int) + 1 = 2 from rfl, st2 _ _ _ 2 (by omega) (by omega), show (2 : Int) + 1 = 3 from rfl, st2 _ _ _ 3 (by omega) (by omega), L11_filledBy_78, if_pos (by omega)]
  rfl
