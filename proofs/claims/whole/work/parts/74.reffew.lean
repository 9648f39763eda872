/-! the reference's few -/
def pS (g : Nat → Int) : Nat → Int
  | 0 => 0
  | k + 1 => pS g k + g k
theorem pS_c {g h : Nat → Int} : ∀ k, (∀ i, i < k → g i = h i) → pS g k = pS h k
  | 0, _ => rfl
  | k + 1, e => by
    show pS g k + g k = pS h k + h k
    rw [pS_c k (fun i x => e i (by omega)), e k (by omega)]
theorem pS_ins {g g' : Nat → Int} {p n : Nat} {v : Int} (h1 : ∀ i, i < p → g' i = g i) (h2 : g' p = v) (h3 : ∀ i, p < i → i ≤ n → g' i = g (i - 1)) : ∀ i, p ≤ i → i ≤ n → pS g' (i + 1) = pS g i + v := by
  intro i
  induction i with
  | zero =>
    intro a b
    have : p = 0 := by omega
    subst this
    show 0 + g' 0 = 0 + v
    rw [h2]
  | succ i ih =>
    intro a b
    by_cases z : p = i + 1
    · subst z
      show pS g' (i + 1) + g' (i + 1) = pS g (i + 1) + v
      rw [pS_c (i + 1) (fun k x => h1 k x), h2]
    · have := ih (by omega) (by omega)
      show pS g' (i + 1) + g' (i + 1) = pS g i + g i + v
      rw [this, h3 (i + 1) (by omega) b]
      show pS g i + v + g i = _
      omega
/-- the gains, largest first: the first j of them are the most that j of k things gain -/
def GA (m : Mem) (n : Nat) (a : Nat → Int) (k : Nat) : Prop := n ≤ k ∧ (∀ j, pS (fun i => rd m 108 (i : Int)) (min j n) = tk a k j) ∧ (∀ i, i + 1 < n → rd m 108 ((i + 1 : Nat) : Int) ≤ rd m 108 (i : Int)) ∧ ∀ i : Nat, i < n → 0 < rd m 108 (i : Int) ∧ rd m 108 (i : Int) ≤ 99
theorem GA_skip {m : Mem} {n k : Nat} {a : Nat → Int} (ha : ∀ i, 0 ≤ a i) (h : GA m n a k) (h0 : a k = 0) : GA m n a (k + 1) := by
  obtain ⟨x, y, z, w⟩ := h
  refine ⟨by omega, fun j => ?_, z, w⟩
  rw [y]
  cases j with
  | zero => rw [tk_0, tk_0]
  | succ j => have := tk_m ha k j; rw [tk_s]; omega
theorem GA_s {m m' : Mem} {n k : Nat} {a : Nat → Int} (h : GA m n a k) (g : ∀ i, m' 108 i = m 108 i) : GA m' n a k := by
  have e : ∀ i, rd m' 108 i = rd m 108 i := fun i => rd_eq (g i)
  obtain ⟨x, y, z, w⟩ := h
  exact ⟨x, fun j => by simp only [e]; exact y j, fun i hi => by rw [e, e]; exact z i hi, fun i hi => by rw [e]; exact w i hi⟩
theorem L11_ag2 {v : Int} {n : Nat} {g : Nat → Int} {kk : Int → Mem → Option Mem} (hn : n < 4) (hg : ∀ i, i < n → 0 < g i ∧ g i ≤ 99) : ∀ (p t : Nat) (m : Mem), p ≤ n → p < t → (∀ i : Nat, i < p → rd m 108 (i : Int) = g i) → (∀ i : Nat, p < i → i ≤ n → rd m 108 (i : Int) = g (i - 1)) → (∀ i, p ≤ i → i < n → g i < v) →
    ∃ (p' : Nat) (m' : Mem), L11_addGain_2 v kk t (p : Int) m = kk (p' : Int) m' ∧ (∀ k i, k ≠ 108 → m' k i = m k i) ∧ p' ≤ n ∧ (∀ i : Nat, i < p' → rd m' 108 (i : Int) = g i) ∧ (∀ i : Nat, p' < i → i ≤ n → rd m' 108 (i : Int) = g (i - 1)) ∧ (∀ i, p' ≤ i → i < n → g i < v) ∧ (p' = 0 ∨ v ≤ g (p' - 1)) := by
  intro p
  induction p with
  | zero =>
    intro t m h0 h1 h2 h3 h4
    obtain ⟨t, rfl⟩ : ∃ i, t = i + 1 := ⟨t - 1, by omega⟩
    rw [L11_addGain_2, if_pos (by omega)]
    exact ⟨0, m, rfl, fun _ _ _ => rfl, h0, h2, h3, h4, Or.inl rfl⟩
  | succ p ih =>
    intro t m h0 h1 h2 h3 h4
    obtain ⟨t, rfl⟩ : ∃ i, t = i + 1 := ⟨t - 1, by omega⟩
    have e := h2 p (by omega)
    have gp := hg p (by omega)
    rw [L11_addGain_2, if_neg (by omega), w32_id (x := ((p + 1 : Nat) : Int) - 1) (by omega) (by omega), w32_id (x := ((p + 1 : Nat) : Int) + (-1)) (by omega) (by omega), gd_t (by omega), show ((p + 1 : Nat) : Int) - 1 = (p : Int) by omega, show ((p + 1 : Nat) : Int) + (-1) = (p : Int) by omega, e]
    by_cases z : v ≤ g p
    · rw [if_pos z]
      exact ⟨p + 1, m, rfl, fun _ _ _ => rfl, h0, h2, h3, h4, Or.inr z⟩
    · rw [if_neg z, gd_t (by omega), gd_t (by omega), stw_v]
      obtain ⟨q, hq⟩ : ∃ q, q = wr m 108 ((p + 1 : Nat) : Int) (g p) := ⟨_, rfl⟩
      rw [← hq]
      obtain ⟨p', m', x1, x2, x3, x4, x5, x6, x7⟩ := ih t q (by omega) (by omega) (fun i hi => by rw [hq, rd_wr_i (by omega)]; exact h2 i (by omega)) (fun i hi hi' => by
        by_cases y : i = p + 1
        · subst y; rw [hq, rd_wr_s, show p + 1 - 1 = p by omega]; exact w32_id (by omega) (by omega)
        · rw [hq, rd_wr_i (by omega)]; exact h3 i (by omega) hi') (fun i hi hi' => by
        by_cases y : i = p
        · rw [y]; omega
        · exact h4 i (by omega) hi')
      exact ⟨p', m', x1, fun k i w => by rw [x2 k i w, hq, wr_ka w], x3, x4, x5, x6, x7⟩
theorem addGain_e {m : Mem} {n k : Nat} {a : Nat → Int} (hn : n < 4) (h : GA m n a k) (h0 : 0 < a k ∧ a k ≤ 99) : ∃ m', F11_addGain m (n : Int) (a k) = some m' ∧ (∀ k i, k ≠ 108 → m' k i = m k i) ∧ GA m' (n + 1) a (k + 1) := by
  obtain ⟨x, y, z, w⟩ := h
  obtain ⟨p, m1, p1, p2, p3, p4, p5, p6, p7⟩ := L11_ag2 (v := a k) (g := fun i => rd m 108 (i : Int)) (kk := fun (v3_38 : Int) (m_38 : Mem) => gd (0 ≤ v3_38 ∧ v3_38 < 4) <| stw m_38 108 v3_38 (a k) fun m44 => some m44) hn w n FU m (Nat.le_refl _) (by rw [FU_eq]; omega) (fun i _ => rfl) (fun i hi hi' => by omega) (fun i hi hi' => by omega)
  obtain ⟨q, hq⟩ : ∃ q, q = wr m1 108 (p : Int) (a k) := ⟨_, rfl⟩
  have qp : rd q 108 (p : Int) = a k := by rw [hq, rd_wr_s]; exact w32_id (by omega) (by omega)
  have q1 : ∀ i : Nat, i < p → rd q 108 (i : Int) = rd m 108 (i : Int) := fun i hi => by rw [hq, rd_wr_i (by omega)]; exact p4 i hi
  have q2 : ∀ i : Nat, p < i → i ≤ n → rd q 108 (i : Int) = rd m 108 ((i - 1 : Nat) : Int) := fun i hi hi' => by rw [hq, rd_wr_i (by omega)]; exact p5 i hi hi'
  -- sorted: all ahead of p are no less
  have ge : ∀ d i : Nat, i + d + 1 = p → a k ≤ rd m 108 (i : Int) := by
    intro d
    induction d with
    | zero =>
      intro i hi
      rcases p7 with p7 | p7
      · omega
      · rw [show i = p - 1 by omega]; exact p7
    | succ d ih =>
      intro i hi
      have := ih (i + 1) (by omega)
      have := z i (by omega)
      omega
  refine ⟨q, ?_, fun k i u => by rw [hq, wr_ka u]; exact p2 k i u, by omega, fun j => ?_, fun i hi => ?_, fun i hi => ?_⟩
  · unfold F11_addGain
    rw [p1, gd_t (by omega), stw_v, hq]
  · cases j with
    | zero => rw [tk_0]; rw [show min 0 (n + 1) = 0 by omega]; rfl
    | succ j =>
      rw [tk_s, ← y (j + 1), ← y j]
      by_cases c : j + 1 ≤ p
      · have e1 : pS (fun i : Nat => rd q 108 (i : Int)) (min (j + 1) (n + 1)) = pS (fun i : Nat => rd m 108 (i : Int)) (j + 1) := by
          rw [show min (j + 1) (n + 1) = j + 1 by omega]
          exact pS_c (j + 1) (fun i hi => q1 i (by omega))
        have e2 : pS (fun i : Nat => rd m 108 (i : Int)) (j + 1) = pS (fun i : Nat => rd m 108 (i : Int)) j + rd m 108 (j : Int) := rfl
        have := ge (p - 1 - j) j (by omega)
        rw [e1, show min (j + 1) n = j + 1 by omega, show min j n = j by omega, e2]; omega
      · have e1 := pS_ins (g := fun i : Nat => rd m 108 (i : Int)) (g' := fun i : Nat => rd q 108 (i : Int)) (p := p) (n := n) (v := a k) q1 qp q2 (min j n) (by omega) (by omega)
        rw [show min (j + 1) (n + 1) = min j n + 1 by omega, e1]
        by_cases d : j < n
        · have e2 : pS (fun i : Nat => rd m 108 (i : Int)) (j + 1) = pS (fun i : Nat => rd m 108 (i : Int)) j + rd m 108 (j : Int) := rfl
          have := p6 j (by omega) d
          rw [show min (j + 1) n = j + 1 by omega, show min j n = j by omega, e2]; omega
        · rw [show min (j + 1) n = n by omega, show min j n = n by omega]; omega
  · by_cases c : i + 1 < p
    · rw [q1 i (by omega), q1 (i + 1) c]; exact z i (by omega)
    · by_cases d : i + 1 = p
      · rw [q1 i (by omega), d, qp]
        exact ge 0 i (by omega)
      · by_cases e : i = p
        · rw [q2 (i + 1) (by omega) (by omega), e, qp, show p + 1 - 1 = p by omega]
          have := p6 p (Nat.le_refl _) (by omega)
          omega
        · rw [q2 (i + 1) (by omega) (by omega), q2 i (by omega) (by omega), show i + 1 - 1 = (i - 1) + 1 by omega]
          exact z (i - 1) (by omega)
  · by_cases c : i < p
    · rw [q1 i c]; exact w i (by omega)
    · by_cases e : i = p
      · rw [e, qp]; exact h0
      · rw [q2 i (by omega) (by omega)]; exact w (i - 1) (by omega)
/-- the reference's fillings stand -/
def RF (M m : Mem) : Prop := (∀ j i, ¬ PL j i → ¬ (107 ≤ j ∧ j ≤ 110) → m j i = M j i) ∧ ∀ w k, 0 ≤ w → w < rd M 83 1 → 0 ≤ k → k < 16 → rd m 107 (16 * w + k) = FLL M w k
theorem RF_s {M m m' : Mem} (h : RF M m) (g : ∀ k i, ¬ (108 ≤ k ∧ k ≤ 110) → m' k i = m k i) : RF M m' :=
  ⟨fun j i a b => by rw [g j i (by omega)]; exact h.1 j i a b, fun w k x y z u => by rw [rd_eq (g 107 _ (by omega))]; exact h.2 w k x y z u⟩
theorem RF_90 {M m : Mem} (h : RF M m) (i : Int) : rd m 90 i = rd M 90 i := rd_eq (h.1 _ _ (by unfold PL; omega) (by omega))
/-- one chapter tried: y < 0 beside none, else beside a chapter of y -/
def nkV (M : Mem) (c h y : Int) : Nat → Bool := fun i => !(decide (0 ≤ y) && akV M c h y (i : Int))
def ayV (M : Mem) (c h y : Int) : Nat → Int := fun i => if nkV M c h y i = true then alV M c h i else 0
theorem ayV_b {n : Nat} {m : Mem} (hI : Inv n m) (c h y : Int) (i : Nat) : 0 ≤ ayV m c h y i ∧ ayV m c h y i ≤ 99 := by
  unfold ayV; split
  · exact alV_b hI c h i
  · omega
theorem alike_e {n : Nat} {M m : Mem} (hI : Inv n M) {c y k : Int} (hc : 0 ≤ c ∧ c < rd M 83 1) (hy : 0 ≤ y ∧ y < rd M 83 1) (hk : 0 ≤ k ∧ k < 16) (hr : RF M m) : F11_isAlike m y c k = some (if FLL M y k = FLL M c k then 1 else 0) := by
  have a12 := hI.1.2.1
  unfold F11_isAlike
  rw [w32_id (x := 16 * y) (by omega) (by omega), w32_id (x := 16 * y + k) (by omega) (by omega), w32_id (x := 16 * c) (by omega) (by omega), w32_id (x := 16 * c + k) (by omega) (by omega), gd_t (by omega), gd_t (by omega), hr.2 y k hy.1 hy.2 hk.1 hk.2, hr.2 c k hc.1 hc.2 hk.1 hk.2]
  by_cases a : FLL M y k = FLL M c k
  · rw [if_neg (by omega), if_pos a]
  · rw [if_pos a, if_neg a]
theorem L11_tc24 {n : Nat} {M : Mem} (hI : Inv n M) {c h y x0 : Int} (hc : 0 ≤ c ∧ c < rd M 83 1) (hp : 0 ≤ rd M 88 c) (hh : 0 ≤ h ∧ h < 4) (hy : y < rd M 83 1) (hx : 0 ≤ x0 ∧ x0 ≤ 99) {kk : Int → Int → Mem → Option Mem} : ∀ (d t j : Nat) (N : Nat) (m : Mem), j + d = 4 → d < t → RF M m → GA m N (ayV M c h y) j →
    ∃ (N' : Nat) (m' : Mem), L11_tryChapter_24 c h y kk t (x0 + ss (pdV M c h) (nkV M c h y) j) (N : Int) (4 * h + (j : Int)) m = kk (x0 + ss (pdV M c h) (nkV M c h y) 4) (N' : Int) m' ∧ (∀ k i, k ≠ 108 → m' k i = m k i) ∧ GA m' N' (ayV M c h y) 4 := by
  intro d
  induction d with
  | zero =>
    intro t j N m h0 h1 hr hg
    obtain ⟨t, rfl⟩ : ∃ i, t = i + 1 := ⟨t - 1, by omega⟩
    have : j = 4 := by omega
    subst this
    rw [L11_tryChapter_24, w32_id (x := 4 * h) (by omega) (by omega), w32_id (x := 4 * h + 4) (by omega) (by omega), if_pos (by omega)]
    exact ⟨N, m, rfl, fun _ _ _ => rfl, hg⟩
  | succ d ih =>
    intro t j N m h0 h1 hr hg
    obtain ⟨t, rfl⟩ : ∃ i, t = i + 1 := ⟨t - 1, by omega⟩
    have hk : 0 ≤ 4 * h + (j : Int) ∧ 4 * h + (j : Int) < 16 := by omega
    have hf : ∀ w, 0 ≤ w → w < rd M 83 1 → rd m 107 (16 * w + (4 * h + (j : Int))) = FLL M w (4 * h + (j : Int)) := fun w w0 w1 => hr.2 w _ w0 w1 hk.1 hk.2
    have base := baseOf_e hI hc hp hk hr.1 hf
    have can : F11_canBorrow m c (4 * h + (j : Int)) = some (if 0 ≤ LL M c (4 * h + (j : Int)) then 1 else 0) := (L11_fr hI hc hk hr.1 hf (rd M 83 1).toNat FU 0 (by have := hI.1.1; omega) (by omega) (by rw [FU_eq]; have := hI.1.2.1; omega)).2
    have pb := paidV_b hI c (4 * h + (j : Int))
    have p3 := (hI.2.1.2.1 3 (by omega) (by omega)).2
    have sb := ss_b (a := pdV M c h) (s := nkV M c h y) (B := 99) (fun i => paidV_b hI c _) j
    have ab := ayV_b hI c h y
    have Nj := hg.1
    have e : ss (pdV M c h) (nkV M c h y) (j + 1) = ss (pdV M c h) (nkV M c h y) j + if nkV M c h y j = true then paidV M c (4 * h + (j : Int)) else 0 := rfl
    have ae : alV M c h j = if 0 ≤ LL M c (4 * h + (j : Int)) then max 0 (paidV M c (4 * h + (j : Int)) - rd M 90 3) else 0 := if_pos (by omega)
    -- past this clause, with one gain more or none
    have go0 : ayV M c h y j = 0 → ∀ s : Int, s = x0 + ss (pdV M c h) (nkV M c h y) (j + 1) → ∃ (N' : Nat) (m' : Mem), L11_tryChapter_24 c h y kk t s (N : Int) (w32 (4 * h + (j : Int) + 1)) m = kk (x0 + ss (pdV M c h) (nkV M c h y) 4) (N' : Int) m' ∧ (∀ k i, k ≠ 108 → m' k i = m k i) ∧ GA m' N' (ayV M c h y) 4 := by
      intro a0 s hs
      rw [w32_id (x := 4 * h + (j : Int) + 1) (by omega) (by omega), show 4 * h + (j : Int) + 1 = 4 * h + ((j + 1 : Nat) : Int) by omega, hs]
      exact ih t (j + 1) N m (by omega) (by omega) hr (GA_skip (fun i => (ab i).1) hg a0)
    have lik : 0 ≤ y → F11_isAlike m y c (4 * h + (j : Int)) = some (if FLL M y (4 * h + (j : Int)) = FLL M c (4 * h + (j : Int)) then 1 else 0) := fun y0 => alike_e hI hc ⟨y0, hy⟩ hk hr
    have rest : nkV M c h y j = true → ∃ (N' : Nat) (m' : Mem), (b1 (F11_baseOf m c (4 * h + (j : Int))) fun r58 => b1 (F11_canBorrow m c (4 * h + (j : Int))) fun r68 => if r68 = 0 then L11_tryChapter_24 c h y kk t (w32 (x0 + ss (pdV M c h) (nkV M c h y) j + r58)) (N : Int) (w32 (4 * h + (j : Int) + 1)) m else b1 (F11_baseOf m c (4 * h + (j : Int))) fun r78 => gd ((0 : Int) ≤ 3 ∧ (3 : Int) < 5) <| if (rd m 90 3) < r78 then b1 (F11_baseOf m c (4 * h + (j : Int))) fun r100 => gd ((0 : Int) ≤ 3 ∧ (3 : Int) < 5) <| b1 (F11_addGain m (N : Int) (w32 (r100 - (rd m 90 3)))) fun m110 => L11_tryChapter_24 c h y kk t (w32 (x0 + ss (pdV M c h) (nkV M c h y) j + r58)) (w32 ((N : Int) + 1)) (w32 (4 * h + (j : Int) + 1)) m110 else L11_tryChapter_24 c h y kk t (w32 (x0 + ss (pdV M c h) (nkV M c h y) j + r58)) (N : Int) (w32 (4 * h + (j : Int) + 1)) m) = kk (x0 + ss (pdV M c h) (nkV M c h y) 4) (N' : Int) m' ∧ (∀ k i, k ≠ 108 → m' k i = m k i) ∧ GA m' N' (ayV M c h y) 4 := by
      intro nk
      have ay : ayV M c h y j = alV M c h j := if_pos nk
      rw [if_pos nk] at e
      rw [base, can, b1_v, b1_v, w32_id (x := x0 + ss (pdV M c h) (nkV M c h y) j + paidV M c (4 * h + (j : Int))) (by omega) (by omega), b1_v, gd_t (by omega), b1_v, gd_t (by omega), RF_90 hr]
      by_cases z : 0 ≤ LL M c (4 * h + (j : Int))
      · rw [if_pos z] at ae
        rw [if_pos z, if_neg (show ¬ ((1 : Int) = 0) by omega)]
        by_cases w : rd M 90 3 < paidV M c (4 * h + (j : Int))
        · have e3 : paidV M c (4 * h + (j : Int)) - rd M 90 3 = ayV M c h y j := by omega
          obtain ⟨m1, x1, y1, z1⟩ := addGain_e (m := m) (a := ayV M c h y) (by omega) hg (by omega)
          rw [if_pos w, w32_id (x := paidV M c (4 * h + (j : Int)) - rd M 90 3) (by omega) (by omega), e3, x1, b1_v, w32_id (x := (N : Int) + 1) (by omega) (by omega), w32_id (x := 4 * h + (j : Int) + 1) (by omega) (by omega), show 4 * h + (j : Int) + 1 = 4 * h + ((j + 1 : Nat) : Int) by omega, show (N : Int) + 1 = ((N + 1 : Nat) : Int) by omega]
          obtain ⟨N', m', q1, q2, q3⟩ := ih t (j + 1) (N + 1) m1 (by omega) (by omega) (RF_s hr (fun k i u => y1 k i (by omega))) z1
          refine ⟨N', m', ?_, fun k i u => by rw [q2 k i u]; exact y1 k i u, q3⟩
          rw [← q1, e]; congr 1; omega
        · rw [if_neg w]
          exact go0 (by omega) _ (by rw [e]; omega)
      · rw [if_neg z] at ae
        rw [if_neg z, if_pos rfl]
        exact go0 (by omega) _ (by rw [e]; omega)
    rw [L11_tryChapter_24, w32_id (x := 4 * h) (by omega) (by omega), w32_id (x := 4 * h + 4) (by omega) (by omega), if_neg (by omega)]
    simp only [jn_v]
    by_cases a : y < 0
    · rw [if_pos a]
      exact rest (by unfold nkV; rw [decide_eq_false (by omega)]; rfl)
    · rw [if_neg a, lik (by omega), b1_v]
      by_cases b : FLL M y (4 * h + (j : Int)) = FLL M c (4 * h + (j : Int))
      · have nk : nkV M c h y j = false := by
          unfold nkV akV
          rw [decide_eq_true (show 0 ≤ y by omega), decide_eq_true b]; rfl
        rw [nk, if_neg (by intro q; cases q)] at e
        rw [if_pos b, if_neg (show ¬ ((1 : Int) = 0) by omega)]
        exact go0 (by unfold ayV; rw [nk]; exact if_neg (by intro q; cases q)) _ (by rw [e]; omega)
      · rw [if_neg b, if_pos rfl]
        exact rest (by unfold nkV akV; rw [decide_eq_false b, Bool.and_false]; rfl)
