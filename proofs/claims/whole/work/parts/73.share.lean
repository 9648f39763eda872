/-! all chapters: the sums and what at most a borrowings save -/
def csV (m : Mem) (c h : Int) : Int := ss (pdV m c h) (fun _ => true) 4
def c4V (m : Mem) (c : Int) : Nat → Int
  | 0 => 0
  | h + 1 => c4V m c h + csV m c (h : Int)
def smA (m : Mem) : Nat → Int
  | 0 => 0
  | c + 1 => if rd m 88 (c : Int) < 0 then smA m c else smA m c + c4V m (c : Int) 4
def sv1 (m : Mem) (c : Int) (f : Nat → Int) : Nat → Nat → Int
  | 0 => f
  | h + 1 => svn (sv1 m c f h) (RJ m c (h : Int))
def svA (m : Mem) : Nat → Nat → Int
  | 0 => fun _ => 0
  | c + 1 => if rd m 88 (c : Int) < 0 then svA m c else sv1 m (c : Int) (svA m c) 4
theorem csV_b {n : Nat} {m : Mem} (hI : Inv n m) (c h : Int) : 0 ≤ csV m c h ∧ csV m c h ≤ 396 := by
  have := ss_b (a := pdV m c h) (s := fun _ => true) (B := 99) (fun i => paidV_b hI c _) 4
  unfold csV; omega
theorem RJ_b {n : Nat} {m : Mem} (hI : Inv n m) (c h : Int) (j : Nat) : 0 ≤ RJ m c h j ∧ RJ m c h j ≤ 792 := by
  have key : ∀ y, 0 ≤ RJf m c h j y ∧ RJf m c h j y ≤ 792 := by
    have p4 := (hI.2.1.2.1 4 (by omega) (by omega)).2
    intro y
    induction y with
    | zero =>
      have a := tk_m (fun i => (alV_b hI c h i).1) 4 j
      have b := tk_le (fun i => (alV_b hI c h i).1) (fun i => (alV_b hI c h i).2) 4 j
      show 0 ≤ tk _ 4 j ∧ tk _ 4 j ≤ 792
      omega
    | succ y ih =>
      have b := tk_le (fun i => (axV_b hI c h (y : Int) i).1) (fun i => (axV_b hI c h (y : Int) i).2) 4 (j - 1)
      have sb := ss_b (a := pdV m c h) (s := fun i => akV m c h (y : Int) i) (B := 99) (fun i => paidV_b hI c _) 4
      have bb : bsV m c h (y : Int) = -rd m 90 4 + ss (pdV m c h) (fun i => akV m c h (y : Int) i) 4 := rfl
      have e : RJf m c h j (y + 1) = if canL m (y : Int) c = true ∧ 1 ≤ j then max (RJf m c h j y) (bsV m c h (y : Int) + tk (axV m c h (y : Int)) 4 (j - 1)) else RJf m c h j y := rfl
      rw [e]
      split
      · omega
      · exact ih
  exact key _
theorem RJ_0 (m : Mem) (c h : Int) : RJ m c h 0 = 0 := by
  have key : ∀ y, RJf m c h 0 y = 0 := by
    intro y
    induction y with
    | zero => rfl
    | succ y ih =>
      show (if canL m (y : Int) c = true ∧ 1 ≤ 0 then _ else RJf m c h 0 y) = 0
      rw [if_neg (by omega)]; exact ih
  exact key _
theorem c4V_b {n : Nat} {m : Mem} (hI : Inv n m) (c : Int) : ∀ h : Nat, 0 ≤ c4V m c h ∧ c4V m c h ≤ 396 * h
  | 0 => ⟨Int.le_refl _, by show (0 : Int) ≤ 396 * ((0 : Nat) : Int); omega⟩
  | h + 1 => by
    have a := c4V_b hI c h
    have b := csV_b hI c (h : Int)
    have e : c4V m c (h + 1) = c4V m c h + csV m c (h : Int) := rfl
    rw [e]; omega
theorem smA_b {n : Nat} {m : Mem} (hI : Inv n m) : ∀ c : Nat, 0 ≤ smA m c ∧ smA m c ≤ 1584 * c
  | 0 => ⟨Int.le_refl _, by show (0 : Int) ≤ 1584 * ((0 : Nat) : Int); omega⟩
  | c + 1 => by
    have a := smA_b hI c
    have b := c4V_b hI (c : Int) 4
    show 0 ≤ (if rd m 88 (c : Int) < 0 then smA m c else smA m c + c4V m (c : Int) 4) ∧ (if rd m 88 (c : Int) < 0 then smA m c else smA m c + c4V m (c : Int) 4) ≤ _
    split <;> omega
def okf (f : Nat → Int) (B : Int) : Prop := (∀ x y, x ≤ y → f x ≤ f y) ∧ ∀ x, 0 ≤ f x ∧ f x ≤ B
theorem sv1_k {n : Nat} {m : Mem} (hI : Inv n m) (c : Int) {f : Nat → Int} {B : Int} (hf : okf f B) : ∀ h : Nat, okf (sv1 m c f h) (B + 792 * h)
  | 0 => ⟨hf.1, fun x => by have := hf.2 x; show 0 ≤ f x ∧ f x ≤ _; omega⟩
  | h + 1 => by
    have ih := sv1_k hI c hf h
    refine ⟨svn_m ih.1, fun x => ?_⟩
    have := svn_b (R := RJ m c (h : Int)) ih.2 (fun b _ => RJ_b hI c (h : Int) b) x
    show 0 ≤ svn _ _ x ∧ svn _ _ x ≤ _
    omega
theorem svA_k {n : Nat} {m : Mem} (hI : Inv n m) : ∀ c : Nat, okf (svA m c) (3168 * c)
  | 0 => ⟨fun _ _ _ => Int.le_refl _, fun x => ⟨Int.le_refl _, by show (0 : Int) ≤ 3168 * ((0 : Nat) : Int); omega⟩⟩
  | c + 1 => by
    have ih := svA_k hI c
    have s4 := sv1_k hI (c : Int) ih 4
    show okf (if rd m 88 (c : Int) < 0 then svA m c else sv1 m (c : Int) (svA m c) 4) _
    split
    · exact ⟨ih.1, fun x => by have := ih.2 x; omega⟩
    · exact ⟨s4.1, fun x => by have := s4.2 x; omega⟩
/-! the class shares -/
theorem L4_sh13 {a : Nat} {f g : Nat → Int} {kk : Mem → Option Mem} (ha : a ≤ 20) (hf : ∀ x, 0 ≤ f x ∧ f x ≤ 100000) (hg : ∀ b, b < 6 → 0 ≤ g b ∧ g b ≤ 10000) : ∀ (d n b : Nat) (m : Mem), (b + 1) + d = min 5 a + 1 → d < n → (∀ x : Nat, x < a → rd m 29 (x : Int) = f x) → (∀ x : Nat, x < 6 → rd m 28 (x : Int) = g x) → rd m 29 (a : Int) = mxs f g a b →
    ∃ m', L4_share_13 (a : Int) kk n ((b : Int) + 1) m = kk m' ∧ (∀ k i, ¬ (k = 29 ∧ i = (a : Int)) → m' k i = m k i) ∧ rd m' 29 (a : Int) = svn f g a := by
  intro d
  induction d with
  | zero =>
    intro n b m h0 h1 h2 h3 h4
    obtain ⟨n, rfl⟩ : ∃ i, n = i + 1 := ⟨n - 1, by omega⟩
    have e : b = min 5 a := by omega
    refine ⟨m, ?_, fun _ _ _ => rfl, by rw [h4, e]; rfl⟩
    rw [L4_share_13]
    by_cases z : (6 : Int) ≤ (b : Int) + 1
    · rw [if_pos z]
    · rw [if_neg z, if_pos (by omega)]
  | succ d ih =>
    intro n b m h0 h1 h2 h3 h4
    obtain ⟨n, rfl⟩ : ∃ i, n = i + 1 := ⟨n - 1, by omega⟩
    obtain ⟨c, c1, c2⟩ := mxs_ex f g a b
    have f1 := hf (a - c)
    have g1 := hg c (by omega)
    have f2 := hf (a - (b + 1))
    have g2 := hg (b + 1) (by omega)
    have e : mxs f g a (b + 1) = max (mxs f g a b) (f (a - (b + 1)) + g (b + 1)) := rfl
    have e3 := h3 (b + 1) (by omega)
    rw [show ((b + 1 : Nat) : Int) = (b : Int) + 1 by omega] at e3
    rw [L4_share_13, if_neg (by omega), if_neg (by omega), w32_id (x := (a : Int) - ((b : Int) + 1)) (by omega) (by omega), w32_id (x := (b : Int) + 1 + 1) (by omega) (by omega), gd_t (by omega), gd_t (by omega), gd_t (by omega), gd_t (by omega), stw_v, show (a : Int) - ((b : Int) + 1) = ((a - (b + 1) : Nat) : Int) by omega, h2 (a - (b + 1)) (by omega), e3, h4, w32_id (x := f (a - (b + 1)) + g (b + 1)) (by omega) (by omega), imx_e, ← e]
    obtain ⟨q, hq⟩ : ∃ q, q = wr m 29 (a : Int) (mxs f g a (b + 1)) := ⟨_, rfl⟩
    rw [← hq, show (b : Int) + 1 + 1 = ((b + 1 : Nat) : Int) + 1 by omega]
    obtain ⟨m', p1, p2, p3⟩ := ih n (b + 1) q (by omega) (by omega) (fun x hx => by rw [hq, rd_wr_i (by omega)]; exact h2 x hx) (fun x hx => by rw [hq, rd_wr_k (by omega)]; exact h3 x hx) (by rw [hq, rd_wr_s]; exact w32_id (by omega) (by omega))
    exact ⟨m', p1, fun k i w => by rw [p2 k i w, hq, wr_ki w], p3⟩
theorem L4_sh7 {f g : Nat → Int} {K : Nat} (hK : K ≤ 20) (hf : ∀ x, 0 ≤ f x ∧ f x ≤ 100000) (hg : ∀ b, b < 6 → 0 ≤ g b ∧ g b ≤ 10000) (g0 : g 0 = 0) : ∀ (a n : Nat) (m : Mem), a ≤ K → a < n → (∀ x : Nat, x ≤ a → rd m 29 (x : Int) = f x) → (∀ x : Nat, a < x → x ≤ K → rd m 29 (x : Int) = svn f g x) → (∀ x : Nat, x < 6 → rd m 28 (x : Int) = g x) →
    ∃ m', L4_share_7 n (a : Int) m = some m' ∧ (∀ k i, k ≠ 29 → m' k i = m k i) ∧ ∀ x : Nat, x ≤ K → rd m' 29 (x : Int) = svn f g x := by
  intro a
  induction a with
  | zero =>
    intro n m h0 h1 h2 h3 h4
    obtain ⟨n, rfl⟩ : ∃ i, n = i + 1 := ⟨n - 1, by omega⟩
    rw [L4_share_7, if_pos (by omega)]
    refine ⟨m, rfl, fun _ _ _ => rfl, fun x hx => ?_⟩
    by_cases z : x = 0
    · subst z
      rw [h2 0 (Nat.le_refl _)]
      show f 0 = f 0 + g 0
      omega
    · exact h3 x (by omega) hx
  | succ a ih =>
    intro n m h0 h1 h2 h3 h4
    obtain ⟨n, rfl⟩ : ∃ i, n = i + 1 := ⟨n - 1, by omega⟩
    rw [L4_share_7, if_neg (by omega)]
    obtain ⟨m1, x1, y1, z1⟩ := L4_sh13 (a := a + 1) (kk := fun (m_63 : Mem) => L4_share_7 n (w32 (((a + 1 : Nat) : Int) + (-1))) m_63) (by omega) hf hg (min 5 (a + 1)) FU 0 m (by omega) (by rw [FU_eq]; omega) (fun x hx => h2 x (by omega)) h4 (by rw [h2 (a + 1) (Nat.le_refl _)]; show f (a + 1) = f (a + 1 - 0) + g 0; rw [show a + 1 - 0 = a + 1 from rfl]; omega)
    rw [show L4_share_13 ((a + 1 : Nat) : Int) _ FU 1 m = _ from x1, w32_id (by omega) (by omega), show ((a + 1 : Nat) : Int) + (-1) = (a : Int) by omega]
    obtain ⟨m', p1, p2, p3⟩ := ih n m1 (by omega) (by omega) (fun x hx => by rw [rd_eq (y1 29 _ (by omega))]; exact h2 x (by omega)) (fun x hx hx' => by
      by_cases z : x = a + 1
      · subst z; exact z1
      · rw [rd_eq (y1 29 _ (by omega))]; exact h3 x (by omega) hx') (fun x hx => by rw [rd_eq (y1 28 _ (by omega))]; exact h4 x hx)
    exact ⟨m', p1, fun k i w => by rw [p2 k i w]; exact y1 k i (by omega), p3⟩
theorem share_e {n : Nat} {M m : Mem} (hI : Inv n M) {c h : Int} {f : Nat → Int} {B : Int} {K : Nat} (hK : K ≤ 20) (hf : okf f B) (hB : B ≤ 100000) (hr : rmx (fun b => rd m 28 (b : Int)) (RJ M c h)) (h0 : ∀ b : Nat, b < 6 → 0 ≤ rd m 28 (b : Int)) (hs : ∀ x : Nat, x ≤ K → rd m 29 (x : Int) = f x) : ∃ m', F4_share m (K : Int) = some m' ∧ (∀ k i, k ≠ 29 → m' k i = m k i) ∧ ∀ x : Nat, x ≤ K → rd m' 29 (x : Int) = svn f (RJ M c h) x := by
  have g0 : rd m 28 ((0 : Nat) : Int) = 0 := by
    obtain ⟨a, b, b1, b2⟩ := hr 0 (by omega)
    have : b = 0 := by omega
    subst this
    rw [RJ_0] at b2; exact b2
  have g1 : ∀ b : Nat, b < 6 → 0 ≤ rd m 28 (b : Int) ∧ rd m 28 (b : Int) ≤ 10000 := fun b hb => ⟨h0 b hb, by
    have := (hr b (by omega)).1 b (Nat.le_refl _)
    have := RJ_b hI c h b
    dsimp only at *
    omega⟩
  obtain ⟨m', p1, p2, p3⟩ := L4_sh7 (f := f) (g := fun b => rd m 28 (b : Int)) hK (fun x => by have := hf.2 x; omega) g1 g0 K FU m (Nat.le_refl _) (by rw [FU_eq]; omega) hs (fun x a b => by omega) (fun x _ => rfl)
  refine ⟨m', ?_, p2, fun x hx => by rw [p3 x hx]; exact svn_g hf.1 hr x⟩
  unfold F4_share
  rw [imn_e, show min (K : Int) 20 = (K : Int) by omega]
  exact p1
theorem L4_lw70 {n : Nat} {M : Mem} (hI : Inv n M) {c : Int} (hc : 0 ≤ c ∧ c < rd M 83 1) {f : Nat → Int} {B s0 : Int} {K : Nat} (hK : K ≤ 20) (hf : okf f B) (hB : 0 ≤ B ∧ B ≤ 90000) (hs0 : 0 ≤ s0 ∧ s0 ≤ 100000) {kk : Int → Mem → Option (Int × Mem)} : ∀ (d t h : Nat) (m : Mem), h + d = 4 → d < t → DF M m → (∀ x : Nat, x ≤ K → rd m 29 (x : Int) = sv1 M c f h x) →
    ∃ m', L4_leastWith_70 (K : Int) c kk t (s0 + c4V M c h) (4 * (h : Int)) m = kk (s0 + c4V M c 4) m' ∧ DF M m' ∧ ∀ x : Nat, x ≤ K → rd m' 29 (x : Int) = sv1 M c f 4 x := by
  intro d
  induction d with
  | zero =>
    intro t h m h0 h1 hd hs
    obtain ⟨t, rfl⟩ : ∃ i, t = i + 1 := ⟨t - 1, by omega⟩
    have : h = 4 := by omega
    subst this
    rw [L4_leastWith_70, if_pos (by omega)]
    exact ⟨m, rfl, hd, hs⟩
  | succ d ih =>
    intro t h m h0 h1 hd hs
    obtain ⟨t, rfl⟩ : ∃ i, t = i + 1 := ⟨t - 1, by omega⟩
    obtain ⟨m1, x1, y1, z1, v1⟩ := weigh_e hI hc (h := (h : Int)) (by omega) hd
    have d1 := DF_s hd (m' := m1) (fun k i q => y1 k i (by omega) (by omega))
    obtain ⟨m2, x2, y2, z2⟩ := share_e (m := m1) hI hK (sv1_k hI c hf h) (by omega) z1 v1 (fun x hx => by rw [rd_eq (y1 29 _ (by omega) (by omega))]; exact hs x hx)
    have cb := c4V_b hI c h
    have sb := csV_b hI c (h : Int)
    rw [L4_leastWith_70, if_neg (by omega), x1, b2_v, x2, b1_v, w32_id (x := 4 * (h : Int) + 4) (by omega) (by omega), show 4 * (h : Int) + 4 = 4 * ((h + 1 : Nat) : Int) by omega]
    have e : c4V M c (h + 1) = c4V M c h + csV M c (h : Int) := rfl
    have nx := ih t (h + 1) m2 (by omega) (by omega) (DF_s d1 (fun k i q => y2 k i (by omega))) z2
    rw [e] at nx
    have e2 : ss (pdV M c (h : Int)) (fun _ => true) 4 = csV M c (h : Int) := rfl
    rw [e2, w32_id (x := s0 + c4V M c h + csV M c (h : Int)) (by omega) (by omega), show s0 + c4V M c h + csV M c (h : Int) = s0 + (c4V M c h + csV M c (h : Int)) by omega]
    exact nx
theorem L4_lw42 {n : Nat} {M : Mem} (hI : Inv n M) {K : Nat} (hK : K ≤ 20) {kk : Int → Mem → Option (Int × Mem)} : ∀ (d t c : Nat) (m : Mem), (c : Int) + d = rd M 83 1 → d < t → DF M m → (∀ x : Nat, x ≤ K → rd m 29 (x : Int) = svA M c x) →
    ∃ m', L4_leastWith_42 (K : Int) kk t (smA M c) (c : Int) m = kk (smA M (rd M 83 1).toNat) m' ∧ DF M m' ∧ ∀ x : Nat, x ≤ K → rd m' 29 (x : Int) = svA M (rd M 83 1).toNat x := by
  have a12 : rd M 83 1 ≤ 12 := hI.1.2.1
  intro d
  induction d with
  | zero =>
    intro t c m h0 h1 hd hs
    obtain ⟨t, rfl⟩ : ∃ i, t = i + 1 := ⟨t - 1, by omega⟩
    have e4 : rd m 4 0 = rd M 83 1 := by rw [rd_eq (hd.2.1 4 0 (by omega))]; exact hI.1.2.2.1
    have : c = (rd M 83 1).toNat := by omega
    rw [L4_leastWith_42, e4, if_pos (by omega), ← this]
    exact ⟨m, rfl, hd, hs⟩
  | succ d ih =>
    intro t c m h0 h1 hd hs
    obtain ⟨t, rfl⟩ : ∃ i, t = i + 1 := ⟨t - 1, by omega⟩
    have e4 : rd m 4 0 = rd M 83 1 := by rw [rd_eq (hd.2.1 4 0 (by omega))]; exact hI.1.2.2.1
    have hc : 0 ≤ (c : Int) ∧ (c : Int) < rd M 83 1 := by omega
    have sb := smA_b hI c
    rw [L4_leastWith_42, e4, if_neg (by omega), motherOf_e (by omega) (by omega), rd_eq (hd.2.1 9 _ (by omega)), hI.2.1.2.2 (c : Int) hc.1 hc.2, b1_v, w32_id (x := (c : Int) + 1) (by omega) (by omega), show (c : Int) + 1 = ((c + 1 : Nat) : Int) by omega, jn_v]
    have ea : smA M (c + 1) = if rd M 88 (c : Int) < 0 then smA M c else smA M c + c4V M (c : Int) 4 := rfl
    have es : svA M (c + 1) = if rd M 88 (c : Int) < 0 then svA M c else sv1 M (c : Int) (svA M c) 4 := rfl
    by_cases z : rd M 88 (c : Int) < 0
    · rw [if_pos z] at ea es
      have := ih t (c + 1) m (by omega) (by omega) hd (by rw [es]; exact hs)
      rw [ea] at this
      rw [if_neg (by omega)]
      exact this
    · rw [if_neg z] at ea es
      rw [if_pos (by omega)]
      obtain ⟨m1, x1, y1, z1⟩ := L4_lw70 hI hc hK (svA_k hI c) (by omega) (s0 := smA M c) (by omega) (kk := fun (v2_98 : Int) (m_98 : Mem) => L4_leastWith_42 (K : Int) kk t v2_98 ((c + 1 : Nat) : Int) m_98) 4 FU 0 m (by omega) (by rw [FU_eq]; omega) hd hs
      rw [show smA M c + c4V M (c : Int) 0 = smA M c by show smA M c + 0 = _; omega] at x1
      have := ih t (c + 1) m1 (by omega) (by omega) y1 (by rw [es]; exact z1)
      rw [ea] at this
      rw [show L4_leastWith_70 (K : Int) (c : Int) _ FU (smA M c) 0 m = _ from x1]
      exact this
theorem L4_lw13 {n : Nat} {M : Mem} (hI : Inv n M) {kk : Mem → Option (Int × Mem)} : ∀ (d t c : Nat) (m : Mem), c + d = 16 → d < t → Gr M m 14 (rd M 83 1) → (∀ j i, ¬ (14 ≤ j ∧ j ≤ 27) → m j i = M j i) → (∀ w k, 0 ≤ w → w < rd M 83 1 → 0 ≤ k → k < (c : Int) → rd m 27 (16 * w + k) = FLL M w k) →
    ∃ m', L4_leastWith_13 kk t (c : Int) m = kk m' ∧ DF M m' := by
  intro d
  induction d with
  | zero =>
    intro t c m h0 h1 hg ho hf
    obtain ⟨t, rfl⟩ : ∃ i, t = i + 1 := ⟨t - 1, by omega⟩
    rw [L4_leastWith_13, if_pos (by omega)]
    exact ⟨m, rfl, hg, fun j i q => ho j i (by omega), fun w k a b x y => hf w k a b x (by omega)⟩
  | succ d ih =>
    intro t c m h0 h1 hg ho hf
    obtain ⟨t, rfl⟩ : ∃ i, t = i + 1 := ⟨t - 1, by omega⟩
    obtain ⟨m2, x2, y2, z2, w2, v2⟩ := fillC_e hI (c := (c : Int)) (by omega) hg ho
    rw [L4_leastWith_13, if_neg (by omega), x2, b1_v, w32_id (x := (c : Int) + 1) (by omega) (by omega), show (c : Int) + 1 = ((c + 1 : Nat) : Int) by omega]
    refine ih t (c + 1) m2 (by omega) (by omega) y2 z2 (fun w k a b x y => ?_)
    by_cases z : k = (c : Int)
    · rw [z]; exact v2 w a b
    · rw [rd_eq (w2 _ (fun u _ _ => by omega))]; exact hf w k a b x (by omega)
def fewV (m : Mem) (k : Int) : Int := if 0 ≤ k ∧ k ≤ 20 then smA m (rd m 83 1).toNat - svA m (rd m 83 1).toNat k.toNat else -1
theorem dfew {n : Nat} {m : Mem} (hI : Inv n m) (k : Int) : ∃ m1, F10_few m k = some (fewV m k, m1) ∧ Sm m m1 := by
  have a12 : 0 ≤ rd m 83 1 ∧ rd m 83 1 ≤ 12 := ⟨hI.1.1, hI.1.2.1⟩
  unfold F10_few fewV
  simp only [jn_v]
  by_cases a : 0 ≤ k ∧ k ≤ 20
  · obtain ⟨m1, x1, y1, z1⟩ := grow14 hI
    obtain ⟨K, hK⟩ : ∃ K : Nat, (K : Int) = k := ⟨k.toNat, by omega⟩
    obtain ⟨m2, x2, y2⟩ := L4_lw13 hI (kk := fun (m_30 : Mem) => b1 (FJ7_fill_53178 m_30 29 21 0) fun m35 => L4_leastWith_42 k (fun (v2_104 : Int) (m_104 : Mem) => gd (0 ≤ k ∧ k < 21) <| some (w32 (v2_104 - (rd m_104 29 k)), m_104)) FU 0 0 m35) 16 FU 0 m1 (by omega) (by rw [FU_eq]; omega) y1 (fun j i q => z1 j i (by omega)) (fun w k a b x y => by omega)
    obtain ⟨m3, hm3⟩ : ∃ m3, m3 = fil m2 29 0 ((21 : Nat) : Int) 0 := ⟨_, rfl⟩
    have d3 := DF_s y2 (m' := m3) (fun k i q => by rw [hm3, fil_k (by omega)])
    obtain ⟨m4, x4, y4, z4⟩ := L4_lw42 hI (K := K) (by omega) (kk := fun (v2_104 : Int) (m_104 : Mem) => gd (0 ≤ k ∧ k < 21) <| some (w32 (v2_104 - (rd m_104 29 k)), m_104)) (rd m 83 1).toNat FU 0 m3 (by omega) (by rw [FU_eq]; omega) d3 (fun x hx => by
      show w32 (m3 29 (x : Int)) = 0
      rw [hm3, fil_i (by omega) (by omega)]; exact w32_id (by omega) (by omega))
    rw [hK] at x4
    have e := z4 K (Nat.le_refl _)
    rw [hK, show K = k.toNat by omega] at e
    have b1' := smA_b hI (rd m 83 1).toNat
    have b2' := (svA_k hI (rd m 83 1).toNat).2 k.toNat
    rw [if_pos a, if_neg (by omega), if_pos a.2]
    unfold F4_leastWith
    rw [x1, b1_v, show L4_leastWith_13 _ FU 0 m1 = _ from x2, fillI_e (len := 21) _ (by omega), b1_v, ← hm3, show L4_leastWith_42 k _ FU 0 0 m3 = _ from x4, gd_t (by omega), e, w32_id (by omega) (by omega), b2_v]
    exact ⟨m4, rfl, Sm_14 (fun k i q => y4.2.1 k i q)⟩
  · rw [if_neg a]
    by_cases b : k < 0
    · rw [if_pos b]; exact ⟨m, rfl, fun _ _ _ => rfl⟩
    · rw [if_neg b, if_neg (by omega)]; exact ⟨m, rfl, fun _ _ _ => rfl⟩
