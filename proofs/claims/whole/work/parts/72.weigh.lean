/-! a chapter weighed by the class -/
def alV (m : Mem) (c h : Int) : Nat → Int := fun i => if i < 4 then (if 0 ≤ LL m c (4 * h + i) then max 0 (paidV m c (4 * h + i) - rd m 90 3) else 0) else 0
def akV (m : Mem) (c h y : Int) : Int → Bool := fun i => decide (FLL m y (4 * h + i) = FLL m c (4 * h + i))
def pdV (m : Mem) (c h : Int) : Nat → Int := fun i => paidV m c (4 * h + i)
def bsV (m : Mem) (c h y : Int) : Int := -rd m 90 4 + ss (pdV m c h) (fun i => akV m c h y i) 4
def axV (m : Mem) (c h y : Int) : Nat → Int := fun i => if akV m c h y i = true then 0 else alV m c h i
def RJf (m : Mem) (c h : Int) (j : Nat) : Nat → Int
  | 0 => tk (alV m c h) 4 j
  | y + 1 => if canL m (y : Int) c = true ∧ 1 ≤ j then max (RJf m c h j y) (bsV m c h (y : Int) + tk (axV m c h (y : Int)) 4 (j - 1)) else RJf m c h j y
def RJ (m : Mem) (c h : Int) (j : Nat) : Int := RJf m c h j (rd m 83 1).toNat
theorem paidV_b {n : Nat} {m : Mem} (hI : Inv n m) (c k : Int) : 0 ≤ paidV m c k ∧ paidV m c k ≤ 99 := by
  unfold paidV; split
  · omega
  · exact stM_b hI _ _
theorem alV_b {n : Nat} {m : Mem} (hI : Inv n m) (c h : Int) (i : Nat) : 0 ≤ alV m c h i ∧ alV m c h i ≤ 99 := by
  unfold alV
  have p3 := (hI.2.1.2.1 3 (by omega) (by omega)).2
  have := paidV_b hI c (4 * h + i)
  split
  · split <;> omega
  · omega
theorem axV_b {n : Nat} {m : Mem} (hI : Inv n m) (c h y : Int) (i : Nat) : 0 ≤ axV m c h y i ∧ axV m c h y i ≤ 99 := by
  unfold axV; split
  · omega
  · exact alV_b hI c h i
theorem rmx_step {g g' R al : Nat → Int} {P : Int → Bool} {u : Nat} {G : Int} (hr : rmx g R) (hal : ∀ i, 0 ≤ al i)
    (hp : ∀ b : Nat, b < 6 → g b ≤ g' b ∧ (∀ s : Nat → Bool, (∀ i : Nat, i < 4 → s i = true → P (i : Int) = false) → (u : Int) + (cnt s 4 : Nat) = (b : Int) → G + ss al s 4 ≤ g' b) ∧ (g' b = g b ∨ ∃ s : Nat → Bool, (∀ i : Nat, i < 4 → s i = true → P (i : Int) = false) ∧ (u : Int) + (cnt s 4 : Nat) = (b : Int) ∧ g' b = G + ss al s 4)) :
    rmx g' (fun j => if u ≤ j then max (R j) (G + tk (fun i => if P (i : Int) = true then 0 else al i) 4 (j - u)) else R j) := by
  have hax : ∀ i : Nat, 0 ≤ (fun i : Nat => if P (i : Int) = true then 0 else al i) i := fun i => by
    dsimp only; split; exact Int.le_refl _; exact hal i
  have sse : ∀ s : Nat → Bool, (∀ i : Nat, i < 4 → s i = true → P (i : Int) = false) → ss (fun i => if P (i : Int) = true then 0 else al i) s 4 = ss al s 4 := by
    intro s hs
    have : ∀ k, k ≤ 4 → ss (fun i : Nat => if P (i : Int) = true then 0 else al i) s k = ss al s k := by
      intro k
      induction k with
      | zero => intro _; rfl
      | succ k ih =>
        intro hk
        show ss _ s k + (if s k = true then (if P (k : Int) = true then 0 else al k) else 0) = ss al s k + (if s k = true then al k else 0)
        rw [ih (by omega)]
        by_cases z : s k = true
        · rw [if_pos z, if_pos z, if_neg (by rw [hs k (by omega) z]; intro q; cases q)]
        · rw [if_neg z, if_neg z]
    exact this 4 (Nat.le_refl _)
  intro j hj
  have up : ∀ b, b ≤ j → g' b ≤ (if u ≤ j then max (R j) (G + tk (fun i => if P (i : Int) = true then 0 else al i) 4 (j - u)) else R j) := by
    intro b hb
    obtain ⟨p1, p2, p3⟩ := hp b (by omega)
    have gb := (hr j hj).1 b hb
    rcases p3 with p3 | ⟨s, s1, s2, s3⟩
    · split <;> omega
    · have := tk_ge (a := fun i => if P (i : Int) = true then 0 else al i) s 4 (j - u) (by omega)
      rw [sse s s1] at this
      rw [if_pos (by omega)]; omega
  refine ⟨up, ?_⟩
  dsimp only
  obtain ⟨b, b1, b2⟩ := (hr j hj).2
  by_cases z : u ≤ j ∧ R j < G + tk (fun i => if P (i : Int) = true then 0 else al i) 4 (j - u)
  · obtain ⟨s, s1, s2, s3⟩ := tk_ex hax 4 (j - u)
    have dis : ∀ i : Nat, i < 4 → s i = true → P (i : Int) = false := fun i x y => by
      have := s3 i y
      cases q : P (i : Int) with
      | false => rfl
      | true => rw [if_pos q] at this; omega
    have e := (hp (u + cnt s 4) (by omega)).2.1 s dis (by omega)
    have e2 := up (u + cnt s 4) (by omega)
    rw [← sse s dis, s2] at e
    rw [if_pos z.1] at e2 ⊢
    exact ⟨u + cnt s 4, by omega, by omega⟩
  · have e := (hp b (by omega)).1
    have e2 := up b b1
    refine ⟨b, b1, ?_⟩
    by_cases y : u ≤ j
    · rw [if_pos y] at e2 ⊢
      have : ¬ R j < G + tk (fun i => if P (i : Int) = true then 0 else al i) 4 (j - u) := fun q => z ⟨y, q⟩
      omega
    · rw [if_neg y] at e2 ⊢; omega
theorem rmx_c {g R R' : Nat → Int} (h : rmx g R) (e : ∀ j, j ≤ 5 → R j = R' j) : rmx g R' := fun j hj => by
  rw [← e j hj]; exact h j hj
/-- the class's fillings stand -/
def DF (M m : Mem) : Prop := Gr M m 14 (rd M 83 1) ∧ (∀ j i, ¬ (14 ≤ j ∧ j ≤ 30) → m j i = M j i) ∧ ∀ w k, 0 ≤ w → w < rd M 83 1 → 0 ≤ k → k < 16 → rd m 27 (16 * w + k) = FLL M w k
theorem DF_s {M m m' : Mem} (h : DF M m) (g : ∀ k i, ¬ (28 ≤ k ∧ k ≤ 30) → m' k i = m k i) : DF M m' := by
  obtain ⟨a, b, c⟩ := h
  exact ⟨Gr_s2 a (fun k i x y => g k i (by omega)), fun j i q => by rw [g j i (by omega)]; exact b j i q, fun w k x y z u => by rw [rd_eq (g 27 _ (by omega))]; exact c w k x y z u⟩
theorem DF_co {n : Nat} {M m : Mem} (hI : Inv n M) (h : DF M m) {k : Int} (k0 : 0 ≤ k) (k1 : k < 5) : F1_costOf m k = some (rd M 90 k) := by
  rw [costOf_e k0 k1, rd_eq (h.2.1 9 _ (by omega)), (hI.2.1.2.1 k k0 k1).1]
theorem L4_w5 {n : Nat} {M : Mem} (hI : Inv n M) {c h : Int} (hc : 0 ≤ c ∧ c < rd M 83 1) (hh : 0 ≤ h ∧ h < 4) {kk : Int → Mem → Option (Int × Mem)} : ∀ (d f j : Nat) (s : Int) (m : Mem), j + d = 4 → d < f → DF M m → s = ss (pdV M c h) (fun _ => true) j → (∀ i : Nat, i < j → rd m 30 (i : Int) = alV M c h i) →
    ∃ m', L4_weighChapter_5 c (4 * h) kk f s (j : Int) m = kk (ss (pdV M c h) (fun _ => true) 4) m' ∧ (∀ k i, k ≠ 30 → m' k i = m k i) ∧ ∀ i : Nat, i < 4 → rd m' 30 (i : Int) = alV M c h i := by
  intro d
  induction d with
  | zero =>
    intro f j s m h0 h1 hd hs ha
    obtain ⟨f, rfl⟩ : ∃ i, f = i + 1 := ⟨f - 1, by omega⟩
    have : j = 4 := by omega
    subst this
    rw [L4_weighChapter_5, if_pos (by omega), hs]
    exact ⟨m, rfl, fun _ _ _ => rfl, ha⟩
  | succ d ih =>
    intro f j s m h0 h1 hd hs ha
    obtain ⟨f, rfl⟩ : ∃ i, f = i + 1 := ⟨f - 1, by omega⟩
    have hk : 0 ≤ 4 * h + (j : Int) ∧ 4 * h + (j : Int) < 16 := by omega
    have hf : ∀ w, 0 ≤ w → w < rd M 83 1 → rd m 27 (16 * w + (4 * h + (j : Int))) = FLL M w (4 * h + (j : Int)) := fun w w0 w1 => hd.2.2 w _ w0 w1 hk.1 hk.2
    have ll : F4_leastLender m c (4 * h + (j : Int)) = some (LL M c (4 * h + (j : Int))) := L4_ll hI hc hk hd.2.1 hf (rd M 83 1).toNat FU 0 (by have := hI.1.1; omega) (by omega) (by rw [FU_eq]; have := hI.1.2.1; omega)
    have pb := paidV_b hI c (4 * h + (j : Int))
    have p3 := (hI.2.1.2.1 3 (by omega) (by omega)).2
    have sb := ss_b (a := pdV M c h) (s := fun _ => true) (B := 99) (fun i => paidV_b hI c _) j
    have ab := alV_b hI c h j
    have e : ss (pdV M c h) (fun _ => true) (j + 1) = ss (pdV M c h) (fun _ => true) j + paidV M c (4 * h + (j : Int)) := rfl
    have ae : alV M c h j = if 0 ≤ LL M c (4 * h + (j : Int)) then max 0 (paidV M c (4 * h + (j : Int)) - rd M 90 3) else 0 := if_pos (by omega)
    have go : ∀ x : Int, x = alV M c h j → ∃ m', (gd (0 ≤ (j : Int) ∧ (j : Int) < 4) <| stw m 30 (j : Int) x fun m71 => L4_weighChapter_5 c (4 * h) kk f (w32 (s + paidV M c (4 * h + (j : Int)))) (w32 ((j : Int) + 1)) m71) = kk (ss (pdV M c h) (fun _ => true) 4) m' ∧ (∀ k i, k ≠ 30 → m' k i = m k i) ∧ ∀ i : Nat, i < 4 → rd m' 30 (i : Int) = alV M c h i := by
      intro x hx
      rw [gd_t (by omega), stw_v, w32_id (x := (j : Int) + 1) (by omega) (by omega), w32_id (by omega) (by omega), show (j : Int) + 1 = ((j + 1 : Nat) : Int) by omega]
      obtain ⟨m', p1, p2, p3⟩ := ih f (j + 1) (s + paidV M c (4 * h + (j : Int))) (wr m 30 (j : Int) x) (by omega) (by omega) (DF_s hd (fun k i q => wr_ka (by omega))) (by rw [e, hs]) (fun i hi => by
        by_cases z : i = j
        · subst z; rw [rd_wr_s, hx]; exact w32_id (by omega) (by omega)
        · rw [rd_wr_i (by omega)]; exact ha i (by omega))
      exact ⟨m', p1, fun k i q => by rw [p2 k i q, wr_ka q], p3⟩
    rw [L4_weighChapter_5, if_neg (by omega), w32_id (x := 4 * h + (j : Int)) (by omega) (by omega), paid_e hI hc hk hd.1 hd.2.1 hf, b1_v, ll, b1_v, DF_co hI hd (by omega) (by omega)]
    simp only [jn_v, b1_v]
    by_cases z : 0 ≤ LL M c (4 * h + (j : Int))
    · rw [if_pos z] at ae
      rw [if_neg (by omega), if_neg (show ¬ ((1 : Int) = 0) by omega), w32_id (x := paidV M c (4 * h + (j : Int)) - rd M 90 3) (by omega) (by omega), imx_e]
      exact go _ ae.symm
    · rw [if_neg z] at ae
      rw [if_pos (by omega), if_pos trivial]
      exact go _ ae.symm
theorem L4_gc17 {n : Nat} {M : Mem} (hI : Inv n M) {c h y : Int} (hc : 0 ≤ c ∧ c < rd M 83 1) (hy : 0 ≤ y ∧ y < rd M 83 1) (hh : 0 ≤ h ∧ h < 4) {m : Mem} (hd : DF M m) {kk : Int → Int → Option Mem} : ∀ (d f j : Nat), j + d = 4 → d < f → L4_gainOfChapter_17 m c (4 * h) y kk f (bs (akV M c h y) j) (-rd M 90 4 + ss (pdV M c h) (fun i => akV M c h y i) j) (j : Int) = kk (bs (akV M c h y) 4) (bsV M c h y) := by
  have a12 : rd M 83 1 ≤ 12 := hI.1.2.1
  intro d
  induction d with
  | zero =>
    intro f j h0 h1
    obtain ⟨f, rfl⟩ : ∃ i, f = i + 1 := ⟨f - 1, by omega⟩
    have : j = 4 := by omega
    subst this
    rw [L4_gainOfChapter_17, if_pos (by omega)]; rfl
  | succ d ih =>
    intro f j h0 h1
    obtain ⟨f, rfl⟩ : ∃ i, f = i + 1 := ⟨f - 1, by omega⟩
    have hk : 0 ≤ 4 * h + (j : Int) ∧ 4 * h + (j : Int) < 16 := by omega
    have hf : ∀ w, 0 ≤ w → w < rd M 83 1 → rd m 27 (16 * w + (4 * h + (j : Int))) = FLL M w (4 * h + (j : Int)) := fun w w0 w1 => hd.2.2 w _ w0 w1 hk.1 hk.2
    have pb := paidV_b hI c (4 * h + (j : Int))
    have p4 := (hI.2.1.2.1 4 (by omega) (by omega)).2
    have sb := ss_b (a := pdV M c h) (s := fun i => akV M c h y i) (B := 99) (fun i => paidV_b hI c _) j
    have e : ss (pdV M c h) (fun i => akV M c h y i) (j + 1) = ss (pdV M c h) (fun i => akV M c h y i) j + if akV M c h y (j : Int) = true then paidV M c (4 * h + (j : Int)) else 0 := rfl
    have e2 : bs (akV M c h y) (j + 1) = if akV M c h y (j : Int) = true then bor (bs (akV M c h y) j) (shl 1 (j : Int)) else bs (akV M c h y) j := rfl
    have nx := ih f (j + 1) (by omega) (by omega)
    rw [L4_gainOfChapter_17, if_neg (by omega), w32_id (x := 4 * h + (j : Int)) (by omega) (by omega), ff_e a12 hk hf hy.1 hy.2, b1_v, ff_e a12 hk hf hc.1 hc.2, b1_v, paid_e hI hc hk hd.1 hd.2.1 hf, w32_id (x := (j : Int) + 1) (by omega) (by omega), show (j : Int) + 1 = ((j + 1 : Nat) : Int) by omega]
    simp only [jn_v, b1_v]
    by_cases z : FLL M y (4 * h + (j : Int)) = FLL M c (4 * h + (j : Int))
    · have ak : akV M c h y (j : Int) = true := decide_eq_true z
      rw [if_pos ak] at e e2
      rw [if_neg (by omega), w32_id (by omega) (by omega), ← nx, e, e2]
      congr 1; omega
    · have ak : ¬ akV M c h y (j : Int) = true := fun q => z (of_decide_eq_true q)
      rw [if_neg ak] at e e2
      rw [if_pos z, ← nx, e, e2]
      congr 1; omega
theorem L4_w101 {n : Nat} {M : Mem} (hI : Inv n M) {c h v3 : Int} (hc : 0 ≤ c ∧ c < rd M 83 1) (hh : 0 ≤ h ∧ h < 4) : ∀ (d f y : Nat) (m : Mem), (y : Int) + d = rd M 83 1 → d < f → DF M m → (∀ i : Nat, i < 4 → rd m 30 (i : Int) = alV M c h i) → rmx (fun b => rd m 28 (b : Int)) (fun j => RJf M c h j y) →
    ∃ m', L4_weighChapter_101 c (4 * h) v3 f (y : Int) m = some (v3, m') ∧ (∀ k i, k ≠ 28 → m' k i = m k i) ∧ rmx (fun b => rd m' 28 (b : Int)) (RJ M c h) ∧ ∀ b : Nat, b < 6 → rd m 28 (b : Int) ≤ rd m' 28 (b : Int) := by
  have a12 : rd M 83 1 ≤ 12 := hI.1.2.1
  intro d
  induction d with
  | zero =>
    intro f y m h0 h1 hd ha hr
    obtain ⟨f, rfl⟩ : ∃ i, f = i + 1 := ⟨f - 1, by omega⟩
    have e4 : rd m 4 0 = rd M 83 1 := by rw [rd_eq (hd.2.1 4 0 (by omega))]; exact hI.1.2.2.1
    rw [L4_weighChapter_101, e4, if_pos (by omega)]
    refine ⟨m, rfl, fun _ _ _ => rfl, ?_, fun _ _ => Int.le_refl _⟩
    have : y = (rd M 83 1).toNat := by omega
    rw [this] at hr; exact hr
  | succ d ih =>
    intro f y m h0 h1 hd ha hr
    obtain ⟨f, rfl⟩ : ∃ i, f = i + 1 := ⟨f - 1, by omega⟩
    have e4 : rd m 4 0 = rd M 83 1 := by rw [rd_eq (hd.2.1 4 0 (by omega))]; exact hI.1.2.2.1
    have hy : 0 ≤ (y : Int) ∧ (y : Int) < rd M 83 1 := by omega
    have lb : F4_lends m (y : Int) c = some (if canL M (y : Int) c = true then 1 else 0) := by
      rw [lo_F4_lends (m := M) (m' := m) (fun i => rd_eq (hd.2.1 _ _ (by omega))) (fun i => rd_eq (hd.2.1 _ _ (by omega))) (fun i => rd_eq (hd.2.1 _ _ (by omega)))]
      exact (lends_b hI hy hc).1
    have p4 := (hI.2.1.2.1 4 (by omega) (by omega)).2
    have e : ∀ j, RJf M c h j (y + 1) = if canL M (y : Int) c = true ∧ 1 ≤ j then max (RJf M c h j y) (bsV M c h (y : Int) + tk (axV M c h (y : Int)) 4 (j - 1)) else RJf M c h j y := fun j => rfl
    rw [L4_weighChapter_101, e4, if_neg (by omega), lb, b1_v, w32_id (x := (y : Int) + 1) (by omega) (by omega), show (y : Int) + 1 = ((y + 1 : Nat) : Int) by omega, jn_v]
    by_cases z : canL M (y : Int) c = true
    · rw [if_pos z, if_neg (by omega)]
      have sb := ss_b (a := pdV M c h) (s := fun i => akV M c h (y : Int) i) (B := 99) (fun i => paidV_b hI c _) 4
      have bb : bsV M c h (y : Int) = -rd M 90 4 + ss (pdV M c h) (fun i => akV M c h (y : Int) i) 4 := rfl
      obtain ⟨m1, x1, y1, z1⟩ := gB_e (m := m) (P := akV M c h (y : Int)) (u := 1) (g := bsV M c h (y : Int)) (al := alV M c h) (by omega) (by omega) (alV_b hI c h) ha (fun i hi => if_neg (by omega))
      have gc : F4_gainOfChapter m c (4 * h) (y : Int) = some m1 := by
        unfold F4_gainOfChapter
        have := L4_gc17 hI hc hy hh hd (kk := fun (v4_73 : Int) (v5_73 : Int) => b1 (F4_gainBeside m v4_73 1 v5_73) fun m79 => some m79) 4 FU 0 (by omega) (by rw [FU_eq]; omega)
        rw [DF_co hI hd (by omega) (by omega), b1_v, w32_id (x := -rd M 90 4) (by omega) (by omega)]
        rw [show -rd M 90 4 + ss (pdV M c h) (fun i => akV M c h (y : Int) i) 0 = -rd M 90 4 by show -rd M 90 4 + 0 = _; omega] at this
        refine Eq.trans this ?_
        rw [x1, b1_v]
      rw [gc, b1_v]
      have st := rmx_step (u := 1) (G := bsV M c h (y : Int)) (P := akV M c h (y : Int)) (al := alV M c h) (g := fun b => rd m 28 (b : Int)) (g' := fun b => rd m1 28 (b : Int)) hr (fun i => (alV_b hI c h i).1) z1
      obtain ⟨m', q1, q2, q3, q4⟩ := ih f (y + 1) m1 (by omega) (by omega) (DF_s hd (fun k i w => y1 k i (by omega))) (fun i hi => by rw [rd_eq (y1 30 _ (by omega))]; exact ha i hi) (rmx_c st (fun j hj => by
        rw [e j]
        by_cases w : 1 ≤ j
        · rw [if_pos w, if_pos ⟨z, w⟩]; rfl
        · rw [if_neg w, if_neg (fun q => w q.2)]))
      exact ⟨m', q1, fun k i w => by rw [q2 k i w]; exact y1 k i w, q3, fun b hb => by have := (z1 b hb).1; have := q4 b hb; omega⟩
    · rw [if_neg z, if_pos rfl]
      exact ih f (y + 1) m (by omega) (by omega) hd ha (rmx_c hr (fun j _ => by rw [e j, if_neg (fun q => z q.1)]))
theorem weigh_e {n : Nat} {M m : Mem} (hI : Inv n M) {c h : Int} (hc : 0 ≤ c ∧ c < rd M 83 1) (hh : 0 ≤ h ∧ h < 4) (hd : DF M m) : ∃ m', F4_weighChapter m c (4 * h) = some (ss (pdV M c h) (fun _ => true) 4, m') ∧ (∀ k i, k ≠ 28 → k ≠ 30 → m' k i = m k i) ∧ rmx (fun b => rd m' 28 (b : Int)) (RJ M c h) ∧ ∀ b : Nat, b < 6 → 0 ≤ rd m' 28 (b : Int) := by
  obtain ⟨m1, x1, y1, z1⟩ := L4_w5 hI hc hh (kk := fun (v3_83 : Int) (m_83 : Mem) => b1 (FJ7_fill_53178 m_83 28 6 0) fun m88 => b1 (F4_gainBeside m88 0 0 0) fun m95 => L4_weighChapter_101 c (4 * h) v3_83 FU 0 m95) 4 FU 0 0 m (by omega) (by rw [FU_eq]; omega) hd rfl (fun i hi => by omega)
  obtain ⟨m2, hm2⟩ : ∃ m2, m2 = fil m1 28 0 ((6 : Nat) : Int) 0 := ⟨_, rfl⟩
  have o2 : ∀ k i, k ≠ 28 → m2 k i = m1 k i := fun k i q => by rw [hm2, fil_k q]
  obtain ⟨m3, x3, y3, z3⟩ := gB_e (m := m2) (P := fun _ => false) (u := 0) (g := 0) (al := alV M c h) (by omega) (by omega) (alV_b hI c h) (fun i hi => by rw [rd_eq (o2 30 _ (by omega))]; exact z1 i hi) (fun i hi => if_neg (by omega))
  have b0 : bs (fun _ => false) 4 = 0 := bs_0 4 (fun _ _ => rfl)
  rw [b0] at x3
  have z : ∀ b : Nat, b < 6 → rd m2 28 (b : Int) = 0 := fun b hb => by
    show w32 (m2 28 (b : Int)) = 0
    rw [hm2, fil_i (by omega) (by omega)]; exact w32_id (by omega) (by omega)
  have r0 : rmx (fun b => rd m2 28 (b : Int)) (fun _ => 0) := by
    intro j hj
    exact ⟨fun b hb => by dsimp only; rw [z b (by omega)]; omega, 0, by omega, z 0 (by omega)⟩
  have st := rmx_step (u := 0) (G := 0) (P := fun _ => false) (al := alV M c h) (g := fun b => rd m2 28 (b : Int)) (g' := fun b => rd m3 28 (b : Int)) r0 (fun i => (alV_b hI c h i).1) z3
  obtain ⟨m4, x4, y4, z4, v4⟩ := L4_w101 hI (v3 := ss (pdV M c h) (fun _ => true) 4) hc hh (rd M 83 1).toNat FU 0 m3 (by have := hI.1.1; omega) (by rw [FU_eq]; have := hI.1.2.1; omega) (DF_s hd (fun k i w => by rw [y3 k i (by omega), o2 k i (by omega), y1 k i (by omega)])) (fun i hi => by rw [rd_eq (y3 30 _ (by omega)), rd_eq (o2 30 _ (by omega))]; exact z1 i hi) (rmx_c st (fun j hj => by
    have m := tk_m (fun i => (alV_b hI c h i).1) 4 j
    rw [if_pos (Nat.zero_le _)]
    show max 0 (0 + tk (fun i => if (false = true) then 0 else alV M c h i) 4 (j - 0)) = tk (alV M c h) 4 j
    rw [show (fun i => if (false = true) then 0 else alV M c h i) = alV M c h from by funext i; exact if_neg (by intro q; cases q), show j - 0 = j from rfl]
    omega))
  refine ⟨m4, ?_, fun k i a b => by rw [y4 k i a, y3 k i a, o2 k i a, y1 k i b], z4, fun b hb => by have := v4 b hb; have := (z3 b hb).1; have := z b hb; omega⟩
  unfold F4_weighChapter
  rw [show L4_weighChapter_5 c (4 * h) _ FU 0 0 m = _ from x1]
  rw [fillI_e (len := 6) _ (by omega), b1_v, ← hm2, x3, b1_v]
  exact x4
