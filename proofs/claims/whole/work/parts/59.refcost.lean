/-! the reference's cost of a clause -/
def RQ (m : Mem) (C k : Int) (T : TT) : Prop := TR m C T.1 T.2.1 ∧ rd m 83 24 = (cI T.1 : Int) ∧ Od T.1 T.2.1 (cI T.1 : Int) (fun i => rd m 100 i) ∧ (∀ v f, T.1 v = true → 0 ≤ f → f < 4 → (T.2.2.1 v f = true ↔ v = rd m 83 25 ∨ rd m 89 (16 * v + k) = 9 ∨ rd m 89 (16 * v + k) = f)) ∧ (∀ f g, 0 ≤ f → f < 4 → 0 ≤ g → g < 4 → T.2.2.2 f g = stp (rd m 90 0) (rd m 90 1) (rd m 90 2) f g) ∧ 0 ≤ k ∧ k < 16
theorem RQ_s {m m' : Mem} {C k : Int} {T : TT} (h : RQ m C k T) (g : ∀ j i, j ≠ 98 → j ≠ 99 → m' j i = m j i) : RQ m' C k T := by
  obtain ⟨a, b, c, d, e, f⟩ := h
  have g100 : (fun i => rd m' 100 i) = fun i => rd m 100 i := by funext i; exact rd_eq (g _ _ (by omega) (by omega))
  refine ⟨TR_s a (rd_eq (g _ _ (by omega) (by omega))) (fun c => rd_eq (g _ _ (by omega) (by omega))) (fun c => rd_eq (g _ _ (by omega) (by omega))), ?_, ?_, fun v f x y z => ?_, fun x y p q r s => ?_, f⟩
  · rw [rd_eq (g 83 24 (by omega) (by omega))]; exact b
  · rw [g100]; exact c
  · rw [rd_eq (g 83 25 (by omega) (by omega)), rd_eq (g 89 _ (by omega) (by omega))]; exact d v f x y z
  · rw [rd_eq (g 90 0 (by omega) (by omega)), rd_eq (g 90 1 (by omega) (by omega)), rd_eq (g 90 2 (by omega) (by omega))]; exact e x y p q r s
theorem priceOf_e {m : Mem} (f g : Int) : F11_priceOf m f g = some (stp (rd m 90 0) (rd m 90 1) (rd m 90 2) f g) := by
  unfold F11_priceOf stp
  by_cases a : f = g
  · rw [if_neg (by omega), if_pos a]
  · rw [if_pos a, if_neg a]
    by_cases b : f = 0
    · rw [if_neg (by omega), if_pos b, gd_t (by omega)]
    · rw [if_pos b, if_neg b]
      by_cases c : g = 0
      · rw [if_neg (by omega), if_pos c, gd_t (by omega)]
      · rw [if_pos c, if_neg c, gd_t (by omega)]
theorem mayBe_e {m : Mem} {C k v f : Int} {T : TT} (h : RQ m C k T) (hv : T.1 v = true) (f0 : 0 ≤ f) (f1 : f < 4) : F11_mayBe m v k f = some (if T.2.2.1 v f = true then 1 else 0) := by
  have b := h.1.2.2.1 v hv
  have c := h.1.2.1
  have e := h.2.2.2.1 v f hv f0 f1
  have kk := h.2.2.2.2.2
  unfold F11_mayBe
  simp only [jn_v]
  rw [w32_id (x := 16 * v) (by omega) (by omega), w32_id (x := 16 * v + k) (by omega) (by omega), gd_t (by omega)]
  by_cases a : v = rd m 83 25
  · rw [if_neg (by omega), if_pos trivial, if_pos (e.mpr (Or.inl a))]
  · rw [if_pos a]
    by_cases x : rd m 89 (16 * v + k) = 9
    · rw [if_pos x, if_pos (e.mpr (Or.inr (Or.inl x)))]
    · rw [if_neg x]
      by_cases y : rd m 89 (16 * v + k) = f
      · rw [if_neg (by omega), if_pos (e.mpr (Or.inr (Or.inr y)))]
      · rw [if_pos y, if_neg (fun z => by have := e.mp z; omega)]
def und (T : TT) (v f : Int) : Int := if T.2.2.1 v f = true then US T v f else 1000000
theorem lf_e {m : Mem} {C k v f : Int} {T : TT} (hk : Tok T) (h : RQ m C k T) (hv : T.1 v = true) (hu : ∀ g, 0 ≤ g → g < 4 → rd m 98 (4 * v + g) = und T v g) (f0 : 0 ≤ f) (f1 : f < 4) : F11_leastFrom m v f = some (BS T v f) := by
  have vr := hk.1.1 v hv
  obtain ⟨n, hn⟩ : ∃ n, FU = n + 1 + 1 + 1 + 1 + 1 := ⟨99995, rfl⟩
  have st : ∀ (n : Nat) (s g : Int), 0 ≤ g → g < 4 → L11_leastFrom_6 m v f (n + 1) s g = L11_leastFrom_6 m v f n (mn1 (T.2.2.1 v) (fun g => T.2.2.2 f g + US T v g) s g) (g + 1) := fun n s g g0 g1 => by
    have u := US_b hk vr.1 vr.2 g0 g1
    have s' := hk.2.2 f g f0 f1 g0 g1
    rw [L11_leastFrom_6, if_neg (by omega), w32_id (x := 4 * v) (by omega) (by omega), w32_id (x := 4 * v + g) (by omega) (by omega), w32_id (x := g + 1) (by omega) (by omega), gd_t (by omega), jn_v, hu g g0 g1, priceOf_e, ← h.2.2.2.2.1 f g f0 f1 g0 g1, b1_v, gd_t (by omega)]
    unfold mn1 und
    by_cases a : T.2.2.1 v g = true
    · rw [if_pos a, if_pos a, if_neg (by omega), F11_lesser_e, w32_id (by omega) (by omega)]
      congr 1
      dsimp only
      split <;> omega
    · rw [if_neg a, if_neg a, if_pos (by omega)]
  unfold F11_leastFrom
  rw [hn, st _ _ 0 (by omega) (by omega), show (0 : Int) + 1 = 1 from rfl, st _ _ 1 (by omega) (by omega), show (1 : Int) + 1 = 2 from rfl, st _ _ 2 (by omega) (by omega), show (2 : Int) + 1 = 3 from rfl, st _ _ 3 (by omega) (by omega), L11_leastFrom_6, if_pos (by omega)]
  rfl
theorem sm_up {g : Int → Int} (h : ∀ i : Nat, 0 ≤ g i) (k : Nat) : ∀ d : Nat, sm g k ≤ sm g (k + d)
  | 0 => Int.le_refl _
  | d + 1 => by
    show _ ≤ sm g (k + d) + g ((k + d : Nat) : Int)
    have := sm_up h k d; have := h (k + d); omega
/-- the sum over the kids -/
def kd (T : TT) (v f : Int) : Int → Int := fun d => if T.1 d = true ∧ T.2.1 d = v then BS T d f else 0
theorem kd_nn {T : TT} (hk : Tok T) {v f : Int} (f0 : 0 ≤ f) (f1 : f < 4) (i : Nat) : 0 ≤ kd T v f i := by
  unfold kd
  split
  · rename_i z; exact (BS_b hk z.1 f0 f1).1
  · exact Int.le_refl _
theorem kd_1 {T : TT} {v f d : Int} (h : T.1 d = true ∧ T.2.1 d = v) : kd T v f d = BS T d f := if_pos h
theorem kd_0 {T : TT} {v f d : Int} (h : ¬ (T.1 d = true ∧ T.2.1 d = v)) : kd T v f d = 0 := if_neg h
theorem US_kd {T : TT} (h : Acy T.1 T.2.1) {v f : Int} (hv : T.1 v = true) : US T v f = sm (kd T v f) 12 := US_e h hv
theorem sm_end {g : Int → Int} (j : Nat) (h : ∀ i : Nat, j ≤ i → g i = 0) : ∀ d : Nat, sm g (j + d) = sm g j
  | 0 => rfl
  | d + 1 => by
    show sm g (j + d) + g ((j + d : Nat) : Int) = _
    rw [sm_end j h d, h (j + d) (by omega)]; omega
theorem L11_c53 {m : Mem} {C k v f : Int} {T : TT} {kk : Int → Option (Int × Mem)} (hk : Tok T) (h : RQ m C k T) (hv : T.1 v = true) (f0 : 0 ≤ f) (f1 : f < 4) (hu : ∀ d g, T.1 d = true → T.2.1 d = v → 0 ≤ g → g < 4 → rd m 98 (4 * d + g) = und T d g) : ∀ (e n : Nat) (j : Nat), (j : Int) + e = C → e < n → L11_costOf_53 m v f kk n (sm (kd T v f) j) (j : Int) = kk (US T v f) := by
  intro e
  have vr := hk.1.1 v hv
  have hC := h.1.2.1
  have nn := kd_nn hk (v := v) f0 f1
  have ub := US_b hk vr.1 vr.2 f0 f1
  have ue := US_kd hk.1 (f := f) hv
  induction e with
  | zero =>
    intro n j h0 h1
    obtain ⟨n, rfl⟩ : ∃ i, n = i + 1 := ⟨n - 1, by omega⟩
    rw [L11_costOf_53, h.1.1, if_pos (by omega)]
    have := sm_end (g := kd T v f) j (fun i x => kd_0 (fun z => by have := h.1.2.2.1 _ z.1; omega)) (12 - j)
    rw [show j + (12 - j) = 12 by omega, ← ue] at this
    rw [this]
  | succ e ih =>
    intro n j h0 h1
    obtain ⟨n, rfl⟩ : ∃ i, n = i + 1 := ⟨n - 1, by omega⟩
    have u1 := sm_up nn j (12 - j)
    rw [show j + (12 - j) = 12 by omega, ← ue] at u1
    have u2 := sm_nn (g := kd T v f) j (fun i _ => nn i)
    have nx := ih n (j + 1) (by omega) (by omega)
    have e1 : sm (kd T v f) (j + 1) = sm (kd T v f) j + kd T v f (j : Int) := rfl
    have u3 := sm_up nn (j + 1) (12 - (j + 1))
    rw [show (j + 1) + (12 - (j + 1)) = 12 by omega, ← ue] at u3
    rw [e1] at nx u3
    obtain ⟨s, hs⟩ : ∃ s, s = sm (kd T v f) j := ⟨_, rfl⟩
    rw [← hs] at nx u1 u2 u3 ⊢
    rw [L11_costOf_53, h.1.1, if_neg (by omega), if_neg (by omega), gd_t (by omega), w32_id (x := (j : Int) + 1) (by omega) (by omega)]
    have gt : ∀ {α : Type} (y : Option α), gd (0 ≤ (j : Int) ∧ (j : Int) < 12) y = y := fun y => gd_t ⟨by omega, by omega⟩
    simp only [jn_v, gt]
    have c97 := h.1.2.2.2.1 (j : Int) (by omega) (by omega)
    rw [show ((j + 1 : Nat) : Int) = (j : Int) + 1 by omega] at nx
    cases hI : T.1 (j : Int) with
    | false =>
      rw [kd_0 (fun z => by rw [hI] at z; cases z.1), show s + 0 = s by omega] at nx
      rw [if_pos (c97.mpr hI)]
      exact nx
    | true =>
      rw [if_neg (fun z => by have := c97.mp z; rw [hI] at this; cases this), h.1.2.2.2.2 _ hI]
      by_cases a : T.2.1 (j : Int) = v
      · rw [kd_1 ⟨hI, a⟩] at nx u3
        have b := (BS_b hk hI f0 f1).1
        rw [if_neg (by omega), lf_e hk h hI (fun g g0 g1 => hu _ g hI a g0 g1) f0 f1, b1_v, w32_id (by omega) (by omega)]
        exact nx
      · rw [kd_0 (fun z => a z.2), show s + 0 = s by omega] at nx
        rw [if_pos a]
        exact nx
theorem L11_c24 {C k v : Int} {T : TT} {kk : Mem → Option (Int × Mem)} (hk : Tok T) (hv : T.1 v = true) : ∀ (e n : Nat) (f : Int) (m : Mem), f + e = 4 → 0 ≤ f → e < n → RQ m C k T → (∀ d g, T.1 d = true → T.2.1 d = v → 0 ≤ g → g < 4 → rd m 98 (4 * d + g) = und T d g) → L11_costOf_24 k v kk n f m = kk (fw m 98 (4 * v + f) (4 * v + 4) (fun i => und T v (i - 4 * v))) := by
  intro e
  have vr := hk.1.1 v hv
  obtain ⟨rk, r1, r2⟩ := hk.1.2.2
  induction e with
  | zero =>
    intro n f m h0 h1 h2 h hu
    obtain ⟨n, rfl⟩ : ∃ i, n = i + 1 := ⟨n - 1, by omega⟩
    rw [L11_costOf_24, if_pos (by omega), fw_0 (by omega)]
  | succ e ih =>
    intro n f m h0 h1 h2 h hu
    obtain ⟨n, rfl⟩ : ∃ i, n = i + 1 := ⟨n - 1, by omega⟩
    have hC := h.1.2.1
    have key : ∀ u : Int, u = und T v f → (gd (0 ≤ w32 ((w32 (4 * v)) + f) ∧ w32 ((w32 (4 * v)) + f) < 48) <| stw m 98 (w32 ((w32 (4 * v)) + f)) u fun m123 => L11_costOf_24 k v kk n (w32 (f + 1)) m123) = kk (fw m 98 (4 * v + f) (4 * v + 4) (fun i => und T v (i - 4 * v))) := by
      intro u hu'
      rw [w32_id (x := 4 * v) (by omega) (by omega), w32_id (x := 4 * v + f) (by omega) (by omega), w32_id (x := f + 1) (by omega) (by omega), gd_t (by omega), stw_v, ih n (f + 1) _ (by omega) (by omega) (by omega) (RQ_s h (fun j i q q' => wr_ka q)) (fun d g d1 d2 g0 g1 => by
        have := r1 d d1 (by omega)
        have hne : d ≠ v := fun z => by rw [d2, z] at this; omega
        rw [rd_wr_i (by omega)]; exact hu d g d1 d2 g0 g1), show 4 * v + (f + 1) = 4 * v + f + 1 by omega]
      have := fw_s (m := m) (k := 98) (a := 4 * v + f) (b := 4 * v + 4) (F := fun i => und T v (i - 4 * v)) (by omega)
      rw [← this, show 4 * v + f - 4 * v = f by omega, hu']
    rw [L11_costOf_24, if_neg (by omega), mayBe_e h hv h1 (by omega), b1_v]
    simp only [jn_v]
    by_cases a : T.2.2.1 v f = true
    · rw [if_pos a, if_neg (by omega)]
      have := L11_c53 (kk := fun (v6_110 : Int) => gd (0 ≤ w32 ((w32 (4 * v)) + f) ∧ w32 ((w32 (4 * v)) + f) < 48) <| stw m 98 (w32 ((w32 (4 * v)) + f)) v6_110 fun m123 => L11_costOf_24 k v kk n (w32 (f + 1)) m123) hk h hv h1 (by omega) hu C.toNat FU 0 (by omega) (by rw [FU_eq]; omega)
      refine Eq.trans this ?_
      exact key _ (by unfold und; rw [if_pos a])
    · obtain ⟨N, hN⟩ : ∃ N, FU = N + 1 := ⟨99999, rfl⟩
      rw [if_neg a, if_pos rfl, hN, L11_costOf_53]
      by_cases b : rd m 83 1 ≤ 0
      · rw [if_pos b]
        exact key _ (by unfold und; rw [if_neg a])
      · rw [if_neg b, if_pos (by omega)]
        exact key _ (by unfold und; rw [if_neg a])
theorem L11_c9 {C k : Int} {T : TT} {kk : Mem → Option (Int × Mem)} (hk : Tok T) : ∀ (e n : Nat) (i : Int) (m : Mem), (e : Int) = i + 1 → i < (cI T.1 : Int) → e < n → RQ m C k T → (∀ j g, i < j → j < (cI T.1 : Int) → 0 ≤ g → g < 4 → rd m 98 (4 * rd m 100 j + g) = und T (rd m 100 j) g) →
    ∃ m', L11_costOf_9 k kk n i m = kk m' ∧ (∀ k i, k ≠ 98 → m' k i = m k i) ∧ ∀ j g, 0 ≤ j → j < (cI T.1 : Int) → 0 ≤ g → g < 4 → rd m' 98 (4 * rd m' 100 j + g) = und T (rd m' 100 j) g := by
  intro e
  have l2 : cI T.1 ≤ 12 := cnt_le _ 12
  induction e with
  | zero =>
    intro n i m h0 h1 h2 h hu
    obtain ⟨n, rfl⟩ : ∃ i, n = i + 1 := ⟨n - 1, by omega⟩
    rw [L11_costOf_9, if_pos (by omega)]
    exact ⟨m, rfl, fun _ _ _ => rfl, fun j g a b => hu j g (by omega) b⟩
  | succ e ih =>
    intro n i m h0 h1 h2 h hu
    obtain ⟨n, rfl⟩ : ∃ i, n = i + 1 := ⟨n - 1, by omega⟩
    obtain ⟨x, hx⟩ : ∃ x, x = rd m 100 i := ⟨_, rfl⟩
    have od := h.2.2.1
    have xi := od.1.1 i (by omega) h1
    dsimp only at xi
    rw [← hx] at xi
    have xr := hk.1.1 x xi.1
    rw [L11_costOf_9, if_neg (by omega), gd_t (by omega), ← hx, L11_c24 hk xi.1 4 FU 0 m (by omega) (by omega) (by rw [FU_eq]; omega) h (fun d g d1 d2 g0 g1 => by
      obtain ⟨j, j0, j1, j2⟩ := od.2 d d1
      dsimp only at j2
      obtain ⟨j', k0, k1, k2⟩ := (od.1.1 j j0 j1).2 (by dsimp only; rw [j2, d2]; exact xr.1)
      dsimp only at k2
      rw [j2, d2, hx] at k2
      have := od.1.2 j' i k0 (by omega) (by omega) h1 k2
      rw [← j2]; exact hu j g (by omega) j1 g0 g1), w32_id (x := i + (-1)) (by omega) (by omega), show i + (-1) = i - 1 by omega]
    obtain ⟨q, hq⟩ : ∃ q, q = fw m 98 (4 * x + 0) (4 * x + 4) (fun i => und T x (i - 4 * x)) := ⟨_, rfl⟩
    rw [← hq]
    have qo : ∀ k i, k ≠ 98 → q k i = m k i := fun k i a => by rw [hq, fw_o (by omega)]
    have q7 : ∀ j, rd q 100 j = rd m 100 j := fun j => rd_eq (qo _ _ (by omega))
    obtain ⟨m', p1, p2, p3⟩ := ih n (i - 1) q (by omega) (by omega) (by omega) (RQ_s h (fun j i a _ => qo j i a)) (fun j g j0 j1 g0 g1 => by
      rw [q7]
      by_cases z : rd m 100 j = x
      · have b : 0 ≤ und T x g ∧ und T x g ≤ 1000000 := by
          unfold und
          have := US_b hk xr.1 xr.2 g0 g1
          split <;> omega
        rw [z, hq, rd_fw_i (by omega) (by omega), show 4 * x + g - 4 * x = g by omega]
        exact w32_id (by omega) (by omega)
      · have : j ≠ i := fun y => z (by rw [y, hx])
        rw [hq, rd_fw_o (by omega)]
        exact hu j g (by omega) j1 g0 g1)
    exact ⟨m', p1, fun k i a => by rw [p2 k i a]; exact qo k i a, p3⟩
/-- the reference's state behind costOf -/
def RU (m : Mem) (C k : Int) (T : TT) : Prop := RQ m C k T ∧ ∀ v g, T.1 v = true → 0 ≤ g → g < 4 → rd m 98 (4 * v + g) = und T v g
theorem L11_c174 {m : Mem} {C k v : Int} {T : TT} {kk : Int → Option (Int × Mem)} (hk : Tok T) (h : RU m C k T) (hv : T.1 v = true) : L11_costOf_174 m v kk FU 1000000 0 = kk (mn4 (T.2.2.1 v) (fun f => US T v f)) := by
  have vr := hk.1.1 v hv
  obtain ⟨n, hn⟩ : ∃ n, FU = n + 1 + 1 + 1 + 1 + 1 := ⟨99995, rfl⟩
  have st : ∀ (n : Nat) (s g : Int), s ≤ 1000000 → 0 ≤ g → g < 4 → L11_costOf_174 m v kk (n + 1) s g = L11_costOf_174 m v kk n (mn1 (T.2.2.1 v) (fun f => US T v f) s g) (g + 1) := fun n s g hs g0 g1 => by
    have u := US_b hk vr.1 vr.2 g0 g1
    rw [L11_costOf_174, if_neg (by omega), w32_id (x := 4 * v) (by omega) (by omega), w32_id (x := 4 * v + g) (by omega) (by omega), w32_id (x := g + 1) (by omega) (by omega), gd_t (by omega), h.2 v g hv g0 g1, F11_lesser_e]
    congr 1
    unfold mn1 und
    by_cases a : T.2.2.1 v g = true
    · rw [if_pos a, if_pos a]; dsimp only; split <;> omega
    · rw [if_neg a, if_neg a]; omega
  have e1 := mn1_le (T.2.2.1 v) (fun f => US T v f) 1000000 0
  have e2 := mn1_le (T.2.2.1 v) (fun f => US T v f) (mn1 (T.2.2.1 v) (fun f => US T v f) 1000000 0) 1
  have e3 := mn1_le (T.2.2.1 v) (fun f => US T v f) (mn1 (T.2.2.1 v) (fun f => US T v f) (mn1 (T.2.2.1 v) (fun f => US T v f) 1000000 0) 1) 2
  rw [hn, st _ _ 0 (by omega) (by omega) (by omega), show (0 : Int) + 1 = 1 from rfl, st _ _ 1 (by omega) (by omega) (by omega), show (1 : Int) + 1 = 2 from rfl, st _ _ 2 (by omega) (by omega) (by omega), show (2 : Int) + 1 = 3 from rfl, st _ _ 3 (by omega) (by omega) (by omega), L11_costOf_174, if_pos (by omega)]
  rfl
theorem L11_c138 {m : Mem} {C k : Int} {T : TT} (hk : Tok T) (h : RU m C k T) : ∀ (e n : Nat) (i s : Int) (dn : Int → Bool), i + e = (cI T.1 : Int) → 0 ≤ i → e < n → (∀ d, T.1 d = true → (dn d = true ↔ ∃ j, 0 ≤ j ∧ j < i ∧ rd m 100 j = d)) → s = sm (fun r => if (T.1 r = true ∧ T.2.1 r < 0) ∧ dn r = true then mn4 (T.2.2.1 r) (fun f => US T r f) else 0) 12 → L11_costOf_138 m n s i = some (CS T, m) := by
  intro e
  have l2 : cI T.1 ≤ 12 := cnt_le _ 12
  have od := h.1.2.2.1
  induction e with
  | zero =>
    intro n i s dn h0 h1 h2 hd hs
    obtain ⟨n, rfl⟩ : ∃ i, n = i + 1 := ⟨n - 1, by omega⟩
    rw [L11_costOf_138, h.1.2.1, if_pos (by omega)]
    congr 2
    rw [hs]
    unfold CS
    refine sm_c 12 (fun r x => ?_)
    by_cases z : T.1 r = true ∧ T.2.1 r < 0
    · have : dn r = true := (hd r z.1).mpr (by
        obtain ⟨j, j0, j1, j2⟩ := od.2 r z.1
        exact ⟨j, j0, by omega, j2⟩)
      rw [if_pos ⟨z, this⟩, if_pos z]
    · rw [if_neg (fun q => z q.1), if_neg z]
  | succ e ih =>
    intro n i s dn h0 h1 h2 hd hs
    obtain ⟨n, rfl⟩ : ∃ i, n = i + 1 := ⟨n - 1, by omega⟩
    obtain ⟨x, hx⟩ : ∃ x, x = rd m 100 i := ⟨_, rfl⟩
    have xi := od.1.1 i h1 (by omega)
    dsimp only at xi
    rw [← hx] at xi
    have xr := hk.1.1 x xi.1
    have sb : 0 ≤ s ∧ s ≤ 13068 := by
      rw [hs]
      constructor
      · refine sm_nn 12 (fun i x => ?_)
        split
        · rename_i z; exact (mn4_US hk z.1.1).1
        · exact Int.le_refl _
      · have e : sm (fun _ => (1089 : Int)) 12 = 13068 := rfl
        rw [← e]
        refine sm_le 12 (fun i x => ?_)
        split
        · rename_i z; exact (mn4_US hk z.1.1).2
        · omega
    obtain ⟨dn', hdn⟩ : ∃ dn' : Int → Bool, dn' = fun d => if d = x then true else dn d := ⟨_, rfl⟩
    have dx : dn' x = true := by rw [hdn]; exact if_pos rfl
    have dne : ∀ d, d ≠ x → dn' d = dn d := fun d z => by rw [hdn]; exact if_neg z
    have xnd : dn x = false := by
      cases z : dn x with
      | false => rfl
      | true =>
        obtain ⟨j, j0, j1, j2⟩ := (hd x xi.1).mp z
        rw [hx] at j2
        have := od.1.2 j i j0 (by omega) h1 (by omega) j2
        omega
    have hd' : ∀ d, T.1 d = true → (dn' d = true ↔ ∃ j, 0 ≤ j ∧ j < i + 1 ∧ rd m 100 j = d) := by
      intro d d1
      constructor
      · intro q
        by_cases z : d = x
        · exact ⟨i, h1, by omega, by rw [z, hx]⟩
        · rw [dne d z] at q
          obtain ⟨j, j0, j1, j2⟩ := (hd d d1).mp q
          exact ⟨j, j0, by omega, j2⟩
      · rintro ⟨j, j0, j1, j2⟩
        by_cases z : j = i
        · rw [z, ← hx] at j2; rw [← j2]; exact dx
        · have : dn d = true := (hd d d1).mpr ⟨j, j0, by omega, j2⟩
          by_cases y : d = x
          · rw [y]; exact dx
          · rw [dne d y]; exact this
    rw [L11_costOf_138, h.1.2.1, if_neg (by omega), gd_t (by omega), ← hx, gd_t (by omega), jn_v, h.1.1.2.2.2.2 x xi.1, w32_id (x := i + 1) (by omega) (by omega)]
    by_cases a : T.2.1 x < 0
    · have mb := mn4_US hk xi.1
      rw [if_pos a, L11_c174 hk h xi.1]
      dsimp only
      rw [w32_id (by omega) (by omega)]
      refine ih n (i + 1) _ dn' (by omega) (by omega) (by omega) hd' ?_
      rw [hs]
      refine (sm_add 12 x.toNat (by omega) (fun j y w => ?_) ?_).symm
      · rw [dne j (by omega)]
      · rw [show ((x.toNat : Nat) : Int) = x by omega, if_pos ⟨⟨xi.1, a⟩, dx⟩, if_neg (fun q => by rw [xnd] at q; cases q.2)]; omega
    · rw [if_neg a]
      refine ih n (i + 1) _ dn' (by omega) (by omega) (by omega) hd' ?_
      rw [hs]
      refine sm_c 12 (fun j y => ?_)
      by_cases w : (j : Int) = x
      · rw [if_neg (fun q => by rw [w] at q; omega), if_neg (fun q => by rw [w] at q; omega)]
      · rw [dne j w]
theorem costR_e {m : Mem} {C k : Int} {T : TT} (hk : Tok T) (h : RQ m C k T) : ∃ m', F11_costOf m k = some (CS T, m') ∧ (∀ k i, k ≠ 98 → m' k i = m k i) ∧ RU m' C k T := by
  have l2 : cI T.1 ≤ 12 := cnt_le _ 12
  obtain ⟨m', p1, p2, p3⟩ := L11_c9 (kk := fun (m_136 : Mem) => L11_costOf_138 m_136 FU 0 0) hk (cI T.1) FU ((cI T.1 : Int) - 1) m (by omega) (by omega) (by rw [FU_eq]; omega) h (fun j g a b => by omega)
  have rt := RQ_s h (m' := m') (fun j i a _ => p2 j i a)
  have ru : RU m' C k T := ⟨rt, fun v g hv g0 g1 => by
    obtain ⟨j, j0, j1, j2⟩ := rt.2.2.1.2 v hv
    dsimp only at j2
    rw [← j2]; exact p3 j g j0 j1 g0 g1⟩
  refine ⟨m', ?_, p2, ru⟩
  unfold F11_costOf
  rw [h.2.1, w32_id (by omega) (by omega), p1]
  exact L11_c138 hk ru (cI T.1) FU 0 0 (fun _ => false) (by omega) (by omega) (by rw [FU_eq]; omega) (fun d _ => ⟨fun q => (by cases q), fun ⟨j, a, b, _⟩ => (by omega)⟩) (sm_0 12 (fun i x => by rw [if_neg (fun q => by cases q.2)])).symm
