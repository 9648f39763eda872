theorem L11_tc136 {N F : Nat} {all : Int} {a : Nat → Int} (hF : F ≤ 1) (hall : -10000 ≤ all ∧ all ≤ 10000) (ha : ∀ i, 0 ≤ a i ∧ a i ≤ 99) : ∀ (d t j : Nat) (m : Mem), F + j + d = 6 → d < t → GA m N a 4 →
    ∃ m', L11_tryChapter_136 (N : Int) (F : Int) t (all - tk a 4 j) (j : Int) m = some m' ∧ (∀ k i, k ≠ 109 → m' k i = m k i) ∧ (∀ i : Nat, i < F + j → rd m' 109 (i : Int) = rd m 109 (i : Int)) ∧ ∀ i : Nat, F + j ≤ i → i < 6 → rd m' 109 (i : Int) = min (rd m 109 (i : Int)) (all - tk a 4 (i - F)) := by
  intro d
  induction d with
  | zero =>
    intro t j m h0 h1 hg
    obtain ⟨t, rfl⟩ : ∃ i, t = i + 1 := ⟨t - 1, by omega⟩
    rw [L11_tryChapter_136, w32_id (x := (F : Int) + (j : Int)) (by omega) (by omega), if_pos (by omega)]
    exact ⟨m, rfl, fun _ _ _ => rfl, fun _ _ => rfl, fun i a b => by omega⟩
  | succ d ih =>
    intro t j m h0 h1 hg
    obtain ⟨t, rfl⟩ : ∃ i, t = i + 1 := ⟨t - 1, by omega⟩
    have tb := tk_le (fun i => (ha i).1) (fun i => (ha i).2) 4 j
    have tm := tk_m (fun i => (ha i).1) 4 j
    have tb2 := tk_le (fun i => (ha i).1) (fun i => (ha i).2) 4 (j + 1)
    have N4 := hg.1
    have r9 := rd_in m 109 ((F : Int) + (j : Int))
    rw [L11_tryChapter_136, w32_id (x := (F : Int) + (j : Int)) (by omega) (by omega), if_neg (by omega), gd_t (by omega), gd_t (by omega), stw_v, F11_lesser_e, w32_id (x := (j : Int) + 1) (by omega) (by omega), show (j : Int) + 1 = ((j + 1 : Nat) : Int) by omega, jn_v]
    obtain ⟨q, hq⟩ : ∃ q, q = wr m 109 ((F : Int) + (j : Int)) (min (rd m 109 ((F : Int) + (j : Int))) (all - tk a 4 j)) := ⟨_, rfl⟩
    rw [← hq]
    have qo : ∀ k i, k ≠ 109 → q k i = m k i := fun k i u => by rw [hq, wr_ka u]
    have gq := GA_s hg (m' := q) (fun i => qo 108 i (by omega))
    have nx : ∃ m', L11_tryChapter_136 (N : Int) (F : Int) t (all - tk a 4 (j + 1)) ((j + 1 : Nat) : Int) q = some m' ∧ (∀ k i, k ≠ 109 → m' k i = m k i) ∧ (∀ i : Nat, i < F + j → rd m' 109 (i : Int) = rd m 109 (i : Int)) ∧ ∀ i : Nat, F + j ≤ i → i < 6 → rd m' 109 (i : Int) = min (rd m 109 (i : Int)) (all - tk a 4 (i - F)) := by
      obtain ⟨m', p1, p2, p3, p4⟩ := ih t (j + 1) q (by omega) (by omega) gq
      refine ⟨m', p1, fun k i u => by rw [p2 k i u]; exact qo k i u, fun i hi => ?_, fun i hi hi' => ?_⟩
      · rw [p3 i (by omega), hq, rd_wr_i (by omega)]
      · by_cases z : i = F + j
        · subst z
          rw [p3 (F + j) (by omega), hq, show ((F + j : Nat) : Int) = (F : Int) + (j : Int) by omega, rd_wr_s, show F + j - F = j by omega]
          exact w32_id (by have := r9.1; omega) (by omega)
        · rw [p4 i (by omega) hi', hq, rd_wr_i (by omega)]
    by_cases z : (N : Int) ≤ (j : Int)
    · rw [if_pos z]
      have : tk a 4 (j + 1) = tk a 4 j := by
        rw [← hg.2.1 (j + 1), ← hg.2.1 j, show min (j + 1) N = N by omega, show min j N = N by omega]
      rw [this] at nx
      exact nx
    · have e : tk a 4 (j + 1) = tk a 4 j + rd m 108 (j : Int) := by
        rw [← hg.2.1 (j + 1), ← hg.2.1 j, show min (j + 1) N = j + 1 by omega, show min j N = j by omega]; rfl
      rw [if_neg z, gd_t (by omega), rd_eq (qo 108 _ (by omega))]
      dsimp only
      rw [w32_id (x := all - tk a 4 j - rd m 108 (j : Int)) (by omega) (by omega), show all - tk a 4 j - rd m 108 (j : Int) = all - tk a 4 (j + 1) by omega]
      exact nx
theorem GA_0 {m : Mem} {a : Nat → Int} : GA m 0 a 0 := ⟨Nat.le_refl _, fun j => by rw [show min j 0 = 0 by omega]; rfl, fun i hi => by omega, fun i hi => by omega⟩
theorem tryC_e {n : Nat} {M m : Mem} (hI : Inv n M) {c h y : Int} (hc : 0 ≤ c ∧ c < rd M 83 1) (hp : 0 ≤ rd M 88 c) (hh : 0 ≤ h ∧ h < 4) (hy : y < rd M 83 1) (hr : RF M m) : ∃ (m' : Mem), F11_tryChapter m c h y = some m' ∧ (∀ k i, k ≠ 108 → k ≠ 109 → m' k i = m k i) ∧
    (0 ≤ y → rd m' 109 ((0 : Nat) : Int) = rd m 109 ((0 : Nat) : Int)) ∧ ∀ i : Nat, (if 0 ≤ y then 1 else 0) ≤ i → i < 6 → rd m' 109 (i : Int) = min (rd m 109 (i : Int)) ((if 0 ≤ y then rd M 90 4 else 0) + ss (pdV M c h) (nkV M c h y) 4 - tk (ayV M c h y) 4 (i - (if 0 ≤ y then 1 else 0))) := by
  have p4 := (hI.2.1.2.1 4 (by omega) (by omega)).2
  have sb := ss_b (a := pdV M c h) (s := nkV M c h y) (B := 99) (fun i => paidV_b hI c _) 4
  have ab := ayV_b hI c h y
  obtain ⟨x0, hx0⟩ : ∃ x0 : Int, x0 = if 0 ≤ y then rd M 90 4 else 0 := ⟨_, rfl⟩
  have xb : 0 ≤ x0 ∧ x0 ≤ 99 := by rw [hx0]; split <;> omega
  obtain ⟨F, hF⟩ : ∃ F : Nat, F = if 0 ≤ y then 1 else 0 := ⟨_, rfl⟩
  have Fb : F ≤ 1 := by rw [hF]; split <;> omega
  rw [← hx0, ← hF]
  obtain ⟨N', m1, x1, y1, z1⟩ := L11_tc24 hI hc hp hh hy xb (kk := fun (v4_122 : Int) (v5_122 : Int) (m_122 : Mem) => L11_tryChapter_136 v5_122 (F : Int) FU v4_122 0 m_122) 4 FU 0 0 m (by omega) (by rw [FU_eq]; omega) hr GA_0
  obtain ⟨m2, x2, y2, z2, w2⟩ := L11_tc136 (F := F) (all := x0 + ss (pdV M c h) (nkV M c h y) 4) Fb (by omega) ab (6 - F) FU 0 m1 (by omega) (by rw [FU_eq]; omega) z1
  rw [show x0 + ss (pdV M c h) (nkV M c h y) 4 - tk (ayV M c h y) 4 0 = x0 + ss (pdV M c h) (nkV M c h y) 4 by rw [tk_0]; omega] at x2
  rw [show x0 + ss (pdV M c h) (nkV M c h y) 0 = x0 by show x0 + 0 = x0; omega, show 4 * h + ((0 : Nat) : Int) = 4 * h by omega] at x1
  refine ⟨m2, ?_, fun k i a b => by rw [y2 k i b]; exact y1 k i a, fun y0 => ?_, fun i hi hi' => ?_⟩
  · unfold F11_tryChapter
    simp only [jn_v]
    have fin : ∀ X : Int, X = x0 → L11_tryChapter_24 c h y (fun (v4_122 : Int) (v5_122 : Int) (m_122 : Mem) => L11_tryChapter_136 v5_122 (F : Int) FU v4_122 0 m_122) FU X 0 (4 * h) m = some m2 := fun X hX => by
      rw [hX]; exact x1.trans x2
    rw [w32_id (x := 4 * h) (by omega) (by omega)]
    by_cases z : 0 ≤ y
    · rw [if_pos z] at hx0 hF
      simp only [if_pos z]
      rw [gd_t (by omega), RF_90 hr]
      rw [hF] at fin
      exact fin _ hx0.symm
    · rw [if_neg z] at hx0 hF
      simp only [if_neg z]
      rw [hF] at fin
      exact fin _ hx0.symm
  · rw [if_pos y0] at hF
    rw [z2 0 (by omega), rd_eq (y1 109 _ (by omega))]
  · rw [w2 i (by omega) hi', rd_eq (y1 109 _ (by omega))]
theorem ss_split {a : Nat → Int} {s t : Nat → Bool} : ∀ k, (∀ i, i < k → t i = !s i) → ss a (fun _ => true) k = ss a s k + ss a t k
  | 0, _ => rfl
  | k + 1, h => by
    have ih := ss_split (a := a) (s := s) (t := t) k (fun i x => h i (by omega))
    have e := h k (by omega)
    show ss a (fun _ => true) k + a k = ss a s k + (if s k = true then a k else 0) + (ss a t k + if t k = true then a k else 0)
    rw [ih, e]
    cases s k with
    | true => rw [if_pos rfl, if_neg (by intro q; cases q)]; omega
    | false => rw [if_neg (show ¬ (false = true) by intro q; cases q), if_pos (show (!false) = true from rfl)]; omega
theorem L11_fc31 {n : Nat} {M : Mem} (hI : Inv n M) {c h : Int} (hc : 0 ≤ c ∧ c < rd M 83 1) (hp : 0 ≤ rd M 88 c) (hh : 0 ≤ h ∧ h < 4) : ∀ (d t y : Nat) (m : Mem), (y : Int) + d = rd M 83 1 → d < t → RF M m → (∀ j : Nat, j < 6 → rd m 109 (j : Int) = csV M c h - RJf M c h j y) →
    ∃ m', L11_findChapter_31 c h t (y : Int) m = some m' ∧ (∀ k i, k ≠ 108 → k ≠ 109 → m' k i = m k i) ∧ ∀ j : Nat, j < 6 → rd m' 109 (j : Int) = csV M c h - RJ M c h j := by
  intro d
  induction d with
  | zero =>
    intro t y m h0 h1 hr hm
    obtain ⟨t, rfl⟩ : ∃ i, t = i + 1 := ⟨t - 1, by omega⟩
    rw [L11_findChapter_31, rd_eq (hr.1 83 1 (by unfold PL; omega) (by omega)), if_pos (by omega)]
    have : y = (rd M 83 1).toNat := by omega
    rw [this] at hm
    exact ⟨m, rfl, fun _ _ _ _ => rfl, hm⟩
  | succ d ih =>
    intro t y m h0 h1 hr hm
    obtain ⟨t, rfl⟩ : ∃ i, t = i + 1 := ⟨t - 1, by omega⟩
    have hy : 0 ≤ (y : Int) ∧ (y : Int) < rd M 83 1 := by omega
    have a12 := hI.1.2.1
    have lb : F11_canLend m (y : Int) c = some (if canL M (y : Int) c = true then 1 else 0) := by
      rw [lo_F11_canLend (m := M) (m' := m) (fun i => rd_eq (hr.1 _ _ (by unfold PL; omega) (by omega))) (fun i => rd_eq (hr.1 _ _ (by unfold PL; omega) (by omega))) (fun i => rd_eq (hr.1 _ _ (by unfold PL; omega) (by omega)))]
      exact (lends_b hI hy hc).2
    have e : ∀ j, RJf M c h j (y + 1) = if canL M (y : Int) c = true ∧ 1 ≤ j then max (RJf M c h j y) (bsV M c h (y : Int) + tk (axV M c h (y : Int)) 4 (j - 1)) else RJf M c h j y := fun j => rfl
    rw [L11_findChapter_31, rd_eq (hr.1 83 1 (by unfold PL; omega) (by omega)), if_neg (by omega), lb, b1_v, w32_id (x := (y : Int) + 1) (by omega) (by omega), show (y : Int) + 1 = ((y + 1 : Nat) : Int) by omega, jn_v]
    by_cases z : canL M (y : Int) c = true
    · obtain ⟨m1, x1, y1, z1, w1⟩ := tryC_e hI hc hp hh hy.2 hr
      rw [if_pos z, if_neg (by omega), x1, b1_v]
      have f1 : (if (0 : Int) ≤ (y : Int) then (1 : Nat) else 0) = 1 := if_pos hy.1
      have f2 : (if (0 : Int) ≤ (y : Int) then rd M 90 4 else 0) = rd M 90 4 := if_pos hy.1
      rw [f1, f2] at w1
      have nk : ∀ i : Nat, nkV M c h (y : Int) i = !(akV M c h (y : Int) (i : Int)) := fun i => by
        unfold nkV; rw [decide_eq_true hy.1, Bool.true_and]
      have sp := ss_split (a := pdV M c h) (s := fun i => akV M c h (y : Int) i) (t := nkV M c h (y : Int)) 4 (fun i _ => nk i)
      have ax : ayV M c h (y : Int) = axV M c h (y : Int) := by
        funext i
        unfold ayV axV
        rw [nk]
        cases akV M c h (y : Int) (i : Int) with
        | true => rfl
        | false => rfl
      have bb : bsV M c h (y : Int) = -rd M 90 4 + ss (pdV M c h) (fun i => akV M c h (y : Int) i) 4 := rfl
      have cb : csV M c h = ss (pdV M c h) (fun _ => true) 4 := rfl
      obtain ⟨m', p1, p2, p3⟩ := ih t (y + 1) m1 (by omega) (by omega) (RF_s hr (fun k i u => y1 k i (by omega) (by omega))) (fun j hj => by
        rw [e j]
        by_cases w : 1 ≤ j
        · rw [if_pos ⟨z, w⟩, w1 j w hj, hm j hj, ax]
          omega
        · have : j = 0 := by omega
          subst this
          rw [if_neg (by omega), z1 hy.1]
          exact hm 0 (by omega))
      exact ⟨m', p1, fun k i a b => by rw [p2 k i a b]; exact y1 k i a b, p3⟩
    · rw [if_neg z, if_pos rfl]
      exact ih t (y + 1) m (by omega) (by omega) hr (fun j hj => by rw [e j, if_neg (fun q => z q.1)]; exact hm j hj)
theorem L11_fc2 {kk : Mem → Option Mem} : ∀ (d t j : Nat) (m : Mem), j + d = 6 → d < t → L11_findChapter_2 kk t (j : Int) m = kk (fil m 109 (j : Int) 6 1000000) := by
  intro d
  induction d with
  | zero =>
    intro t j m h0 h1
    obtain ⟨t, rfl⟩ : ∃ i, t = i + 1 := ⟨t - 1, by omega⟩
    rw [L11_findChapter_2, if_pos (by omega), fil_0 (by omega)]
  | succ d ih =>
    intro t j m h0 h1
    obtain ⟨t, rfl⟩ : ∃ i, t = i + 1 := ⟨t - 1, by omega⟩
    rw [L11_findChapter_2, if_neg (by omega), gd_t (by omega), stw_v, w32_id (x := (j : Int) + 1) (by omega) (by omega), show (j : Int) + 1 = ((j + 1 : Nat) : Int) by omega, ih t (j + 1) _ (by omega) (by omega), show ((j + 1 : Nat) : Int) = (j : Int) + 1 by omega, fil_s (by omega)]
theorem findC_e {n : Nat} {M m : Mem} (hI : Inv n M) {c h : Int} (hc : 0 ≤ c ∧ c < rd M 83 1) (hp : 0 ≤ rd M 88 c) (hh : 0 ≤ h ∧ h < 4) (hr : RF M m) : ∃ m', F11_findChapter m c h = some m' ∧ (∀ k i, k ≠ 108 → k ≠ 109 → m' k i = m k i) ∧ ∀ j : Nat, j < 6 → rd m' 109 (j : Int) = csV M c h - RJ M c h j := by
  have a12 := hI.1.2.1
  obtain ⟨q, hq⟩ : ∃ q, q = fil m 109 ((0 : Nat) : Int) 6 1000000 := ⟨_, rfl⟩
  have qo : ∀ k i, k ≠ 109 → q k i = m k i := fun k i u => by rw [hq, fil_k u]
  have q9 : ∀ j : Nat, j < 6 → rd q 109 (j : Int) = 1000000 := fun j hj => by
    show w32 (q 109 (j : Int)) = 1000000
    rw [hq, fil_i (by omega) (by omega)]; exact w32_id (by omega) (by omega)
  have rq := RF_s hr (m' := q) (fun k i u => qo k i (by omega))
  obtain ⟨m1, x1, y1, z1, w1⟩ := tryC_e hI hc hp hh (y := -1) (by omega) rq
  rw [show (if (0 : Int) ≤ (-1) then (1 : Nat) else 0) = 0 from rfl, show (if (0 : Int) ≤ (-1) then rd M 90 4 else 0) = 0 from if_neg (by omega)] at w1
  have cb := csV_b hI c h
  have nk : nkV M c h (-1) = fun _ => true := by
    funext i; unfold nkV; rw [decide_eq_false (show ¬ (0 : Int) ≤ -1 by omega)]; rfl
  have ay : ayV M c h (-1) = alV M c h := by
    funext i; unfold ayV; rw [nk]; rfl
  obtain ⟨m2, x2, y2, z2⟩ := L11_fc31 hI hc hp hh (rd M 83 1).toNat FU 0 m1 (by omega) (by rw [FU_eq]; omega) (RF_s rq (fun k i u => y1 k i (by omega) (by omega))) (fun j hj => by
    have tb := tk_le (fun i => (alV_b hI c h i).1) (fun i => (alV_b hI c h i).2) 4 j
    have tm := tk_m (fun i => (alV_b hI c h i).1) 4 j
    have e0 : RJf M c h j 0 = tk (alV M c h) 4 j := rfl
    have e1 : csV M c h = ss (pdV M c h) (fun _ => true) 4 := rfl
    rw [w1 j (Nat.zero_le _) hj, q9 j hj, nk, ay, e0, show j - 0 = j from rfl, ← e1]
    omega)
  refine ⟨m2, ?_, fun k i a b => by rw [y2 k i a b, y1 k i a b]; exact qo k i b, z2⟩
  unfold F11_findChapter
  rw [show L11_findChapter_2 _ FU 0 m = _ from L11_fc2 6 FU 0 m (by omega) (by rw [FU_eq]; omega), ← hq, x1, b1_v]
  exact x2
/-! joined -/
theorem L11_f88 {m : Mem} {S cs : Int} {f R : Nat → Int} {a : Nat} {kk : Int → Option (Int × Mem)} (ha : a ≤ 20) (hS : 0 ≤ S ∧ S ≤ 100000) (hcs : 0 ≤ cs ∧ cs ≤ 396) (hf : ∀ x, 0 ≤ f x ∧ f x ≤ 100000) (hR : ∀ b, 0 ≤ R b ∧ R b ≤ 792) (h0 : ∀ x : Nat, x ≤ a → rd m 110 (x : Int) = S - f x) (h9 : ∀ j : Nat, j < 6 → rd m 109 (j : Int) = cs - R j) : ∀ (d t b : Nat), b + d = min 5 a → d + 1 < t → L11_few_88 m (a : Int) kk t (S + cs - mxs f R a b) ((b : Int) + 1) = kk (S + cs - svn f R a) := by
  intro d
  induction d with
  | zero =>
    intro t b hb ht
    obtain ⟨t, rfl⟩ : ∃ i, t = i + 1 := ⟨t - 1, by omega⟩
    have e : b = min 5 a := by omega
    rw [L11_few_88]
    by_cases z : (6 : Int) ≤ (b : Int) + 1
    · rw [if_pos z, e]; rfl
    · rw [if_neg z, if_pos (by omega), e]; rfl
  | succ d ih =>
    intro t b hb ht
    obtain ⟨t, rfl⟩ : ∃ i, t = i + 1 := ⟨t - 1, by omega⟩
    have f2 := hf (a - (b + 1))
    have g2 := hR (b + 1)
    have e : mxs f R a (b + 1) = max (mxs f R a b) (f (a - (b + 1)) + R (b + 1)) := rfl
    have e3 := h9 (b + 1) (by omega)
    have nx := ih t (b + 1) (by omega) (by omega)
    rw [show ((b + 1 : Nat) : Int) = (b : Int) + 1 by omega] at e3 nx
    rw [L11_few_88, if_neg (by omega), if_neg (by omega), w32_id (x := (a : Int) - ((b : Int) + 1)) (by omega) (by omega), w32_id (x := (b : Int) + 1 + 1) (by omega) (by omega), gd_t (by omega), gd_t (by omega), show (a : Int) - ((b : Int) + 1) = ((a - (b + 1) : Nat) : Int) by omega, h0 (a - (b + 1)) (by omega), e3, F11_lesser_e, w32_id (by omega) (by omega), ← nx, e]
    congr 1
    omega
theorem L11_f76 {S cs : Int} {f R : Nat → Int} {kk : Mem → Option (Int × Mem)} (hS : 0 ≤ S ∧ S ≤ 100000) (hcs : 0 ≤ cs ∧ cs ≤ 396) (hf : ∀ x, 0 ≤ f x ∧ f x ≤ 100000) (hR : ∀ b, 0 ≤ R b ∧ R b ≤ 792) : ∀ (d t : Nat) (m : Mem), d ≤ 21 → d < t → (∀ j : Nat, j < 6 → rd m 109 (j : Int) = cs - R j) → (∀ x : Nat, x < d → rd m 110 (x : Int) = S - f x) → (∀ x : Nat, d ≤ x → x ≤ 20 → rd m 110 (x : Int) = S + cs - svn f R x) →
    ∃ m', L11_few_76 kk t ((d : Int) - 1) m = kk m' ∧ (∀ k i, k ≠ 110 → m' k i = m k i) ∧ ∀ x : Nat, x ≤ 20 → rd m' 110 (x : Int) = S + cs - svn f R x := by
  intro d
  induction d with
  | zero =>
    intro t m h0 h1 h2 h3 h4
    obtain ⟨t, rfl⟩ : ∃ i, t = i + 1 := ⟨t - 1, by omega⟩
    rw [L11_few_76, if_pos (by omega)]
    exact ⟨m, rfl, fun _ _ _ => rfl, fun x hx => h4 x (by omega) hx⟩
  | succ a ih =>
    intro t m h0 h1 h2 h3 h4
    obtain ⟨t, rfl⟩ : ∃ i, t = i + 1 := ⟨t - 1, by omega⟩
    obtain ⟨N, hN⟩ : ∃ N, FU = N + 1 := ⟨99999, rfl⟩
    have sb := svn_b (R := R) hf (fun b _ => hR b) a
    have f0 := hf a
    have R0 := hR 0
    have e110 := h3 a (by omega)
    have e109 := h2 0 (by omega)
    rw [show ((0 : Nat) : Int) = 0 from rfl] at e109
    rw [L11_few_76, if_neg (by omega), show ((a + 1 : Nat) : Int) - 1 = (a : Int) by omega, hN, L11_few_88, if_neg (by omega), if_neg (by omega), w32_id (x := (a : Int) - 0) (by omega) (by omega), show (a : Int) - 0 = (a : Int) by omega, gd_t (by omega), gd_t (by omega), e110, e109, F11_lesser_e, w32_id (x := S - f a + (cs - R 0)) (by omega) (by omega), w32_id (x := (0 : Int) + 1) (by omega) (by omega)]
    have x1 := L11_f88 (m := m) (kk := fun (v5_133 : Int) => gd (0 ≤ (a : Int) ∧ (a : Int) < 21) <| stw m 110 (a : Int) v5_133 fun m141 => L11_few_76 kk t (w32 ((a : Int) + (-1))) m141) (a := a) (by omega) hS hcs hf hR (fun x hx => h3 x (by omega)) h2 (min 5 a) N 0 (by omega) (by rw [FU_eq] at hN; omega)
    rw [show min 1000000 (S - f a + (cs - R 0)) = S + cs - mxs f R a 0 by show _ = S + cs - (f a + R 0); omega, show (0 : Int) + 1 = ((0 : Nat) : Int) + 1 from rfl, x1, gd_t (by omega), stw_v, w32_id (x := (a : Int) + (-1)) (by omega) (by omega), show (a : Int) + (-1) = (a : Int) - 1 by omega]
    obtain ⟨q, hq⟩ : ∃ q, q = wr m 110 (a : Int) (S + cs - svn f R a) := ⟨_, rfl⟩
    rw [← hq]
    obtain ⟨m', p1, p2, p3⟩ := ih t q (by omega) (by omega) (fun j hj => by rw [hq, rd_wr_k (by omega)]; exact h2 j hj) (fun x hx => by rw [hq, rd_wr_i (by omega)]; exact h3 x (by omega)) (fun x hx hx' => by
      by_cases z : x = a
      · subst z; rw [hq, rd_wr_s]; exact w32_id (by omega) (by omega)
      · rw [hq, rd_wr_i (by omega)]; exact h4 x (by omega) hx')
    exact ⟨m', p1, fun k i u => by rw [p2 k i u, hq, wr_ka u], p3⟩
theorem L11_f61 {n : Nat} {M : Mem} (hI : Inv n M) {c : Int} (hc : 0 ≤ c ∧ c < rd M 83 1) (hp : 0 ≤ rd M 88 c) {f : Nat → Int} {B S : Int} (hf : okf f B) (hB : 0 ≤ B ∧ B ≤ 90000) (hS : 0 ≤ S ∧ S ≤ 90000) {kk : Mem → Option (Int × Mem)} : ∀ (d t h : Nat) (m : Mem), h + d = 4 → d < t → RF M m → (∀ x : Nat, x ≤ 20 → rd m 110 (x : Int) = S + c4V M c h - sv1 M c f h x) →
    ∃ m', L11_few_61 c kk t (h : Int) m = kk m' ∧ RF M m' ∧ ∀ x : Nat, x ≤ 20 → rd m' 110 (x : Int) = S + c4V M c 4 - sv1 M c f 4 x := by
  intro d
  induction d with
  | zero =>
    intro t h m h0 h1 hr hs
    obtain ⟨t, rfl⟩ : ∃ i, t = i + 1 := ⟨t - 1, by omega⟩
    have : h = 4 := by omega
    subst this
    rw [L11_few_61, if_pos (by omega)]
    exact ⟨m, rfl, hr, hs⟩
  | succ d ih =>
    intro t h m h0 h1 hr hs
    obtain ⟨t, rfl⟩ : ∃ i, t = i + 1 := ⟨t - 1, by omega⟩
    have cb := c4V_b hI c h
    have ok := sv1_k hI c hf h
    obtain ⟨m1, x1, y1, z1⟩ := findC_e hI hc hp (h := (h : Int)) (by omega) hr
    obtain ⟨m2, x2, y2, z2⟩ := L11_f76 (S := S + c4V M c h) (cs := csV M c (h : Int)) (f := sv1 M c f h) (R := RJ M c (h : Int)) (kk := fun (m_148 : Mem) => L11_few_61 c kk t (w32 ((h : Int) + 1)) m_148) (by omega) (csV_b hI c _) (fun x => by have := ok.2 x; omega) (fun b => RJ_b hI c _ b) 21 FU m1 (by omega) (by rw [FU_eq]; omega) z1 (fun x hx => by rw [rd_eq (y1 110 _ (by omega) (by omega))]; exact hs x (by omega)) (fun x hx hx' => by omega)
    rw [L11_few_61, if_neg (by omega), x1, b1_v, show L11_few_76 _ FU 20 m1 = _ from x2, w32_id (x := (h : Int) + 1) (by omega) (by omega), show (h : Int) + 1 = ((h + 1 : Nat) : Int) by omega]
    refine ih t (h + 1) m2 (by omega) (by omega) (RF_s hr (fun k i u => by rw [y2 k i (by omega), y1 k i (by omega) (by omega)])) (fun x hx => ?_)
    rw [z2 x hx]
    show S + c4V M c h + csV M c (h : Int) - svn _ _ x = S + (c4V M c h + csV M c (h : Int)) - svn _ _ x
    omega
theorem L11_f39 {n : Nat} {M : Mem} (hI : Inv n M) {kk : Mem → Option (Int × Mem)} : ∀ (d t c : Nat) (m : Mem), (c : Int) + d = rd M 83 1 → d < t → RF M m → (∀ x : Nat, x ≤ 20 → rd m 110 (x : Int) = smA M c - svA M c x) →
    ∃ m', L11_few_39 kk t (c : Int) m = kk m' ∧ RF M m' ∧ ∀ x : Nat, x ≤ 20 → rd m' 110 (x : Int) = smA M (rd M 83 1).toNat - svA M (rd M 83 1).toNat x := by
  have a12 : rd M 83 1 ≤ 12 := hI.1.2.1
  intro d
  induction d with
  | zero =>
    intro t c m h0 h1 hr hs
    obtain ⟨t, rfl⟩ : ∃ i, t = i + 1 := ⟨t - 1, by omega⟩
    have : c = (rd M 83 1).toNat := by omega
    rw [L11_few_39, rd_eq (hr.1 83 1 (by unfold PL; omega) (by omega)), if_pos (by omega), ← this]
    exact ⟨m, rfl, hr, hs⟩
  | succ d ih =>
    intro t c m h0 h1 hr hs
    obtain ⟨t, rfl⟩ : ∃ i, t = i + 1 := ⟨t - 1, by omega⟩
    have hc : 0 ≤ (c : Int) ∧ (c : Int) < rd M 83 1 := by omega
    have sb := smA_b hI c
    have ok := svA_k hI c
    rw [L11_few_39, rd_eq (hr.1 83 1 (by unfold PL; omega) (by omega)), if_neg (by omega), gd_t (by omega), rd_eq (hr.1 88 _ (by unfold PL; omega) (by omega)), w32_id (x := (c : Int) + 1) (by omega) (by omega), show (c : Int) + 1 = ((c + 1 : Nat) : Int) by omega, jn_v]
    have ea : smA M (c + 1) = if rd M 88 (c : Int) < 0 then smA M c else smA M c + c4V M (c : Int) 4 := rfl
    have es : svA M (c + 1) = if rd M 88 (c : Int) < 0 then svA M c else sv1 M (c : Int) (svA M c) 4 := rfl
    by_cases z : rd M 88 (c : Int) < 0
    · rw [if_pos z] at ea es
      rw [if_neg (by omega)]
      exact ih t (c + 1) m (by omega) (by omega) hr (by rw [es, ea]; exact hs)
    · rw [if_neg z] at ea es
      rw [if_pos (by omega)]
      obtain ⟨m1, x1, y1, z1⟩ := L11_f61 hI hc (by omega) ok (by omega) (S := smA M c) (by omega) (kk := fun (m_154 : Mem) => L11_few_39 kk t ((c + 1 : Nat) : Int) m_154) 4 FU 0 m (by omega) (by rw [FU_eq]; omega) hr (fun x hx => by rw [hs x hx]; show smA M c - svA M c x = smA M c + 0 - svA M c x; omega)
      rw [show L11_few_61 (c : Int) _ FU 0 m = _ from x1]
      exact ih t (c + 1) m1 (by omega) (by omega) y1 (by rw [es, ea]; exact z1)
theorem L11_f18 {kk : Mem → Option (Int × Mem)} : ∀ (d t j : Nat) (m : Mem), j + d = 21 → d < t → L11_few_18 kk t (j : Int) m = kk (fil m 110 (j : Int) 21 0) := by
  intro d
  induction d with
  | zero =>
    intro t j m h0 h1
    obtain ⟨t, rfl⟩ : ∃ i, t = i + 1 := ⟨t - 1, by omega⟩
    rw [L11_few_18, if_pos (by omega), fil_0 (by omega)]
  | succ d ih =>
    intro t j m h0 h1
    obtain ⟨t, rfl⟩ : ∃ i, t = i + 1 := ⟨t - 1, by omega⟩
    rw [L11_few_18, if_neg (by omega), gd_t (by omega), stw_v, w32_id (x := (j : Int) + 1) (by omega) (by omega), show (j : Int) + 1 = ((j + 1 : Nat) : Int) by omega, ih t (j + 1) _ (by omega) (by omega), show ((j + 1 : Nat) : Int) = (j : Int) + 1 by omega, fil_s (by omega)]
theorem PL_few {m m' : Mem} (h : ∀ j i, ¬ PL j i → ¬ (107 ≤ j ∧ j ≤ 110) → m' j i = m j i) : Sm m m' := fun k i q => h k i (by unfold PS at q; unfold PL; omega) (by unfold PS at q; omega)
theorem rfew {n : Nat} {m : Mem} (hI : Inv n m) (k : Int) : ∃ m1, F11_few m k = some (fewV m k, m1) ∧ Sm m m1 := by
  have a12 : 0 ≤ rd m 83 1 ∧ rd m 83 1 ≤ 12 := ⟨hI.1.1, hI.1.2.1⟩
  unfold F11_few fewV
  rw [F11_in_e]
  by_cases a : 0 ≤ k ∧ k ≤ 20
  · obtain ⟨m1, x1, y1, z1⟩ := rfill_e hI
    have r1 : RF m m1 := ⟨fun j i p q => y1 j i p (by omega), z1⟩
    obtain ⟨m2, hm2⟩ : ∃ m2, m2 = fil m1 110 ((0 : Nat) : Int) 21 0 := ⟨_, rfl⟩
    obtain ⟨m3, x3, y3, z3⟩ := L11_f39 hI (kk := fun (m_160 : Mem) => gd (0 ≤ k ∧ k < 21) <| some (rd m_160 110 k, m_160)) (rd m 83 1).toNat FU 0 m2 (by omega) (by rw [FU_eq]; omega) (RF_s r1 (fun j i q => by rw [hm2, fil_k (by omega)])) (fun x hx => by
      show w32 (m2 110 (x : Int)) = 0 - 0
      rw [hm2, fil_i (by omega) (by omega)]; exact w32_id (by omega) (by omega))
    have e := z3 k.toNat (by omega)
    rw [show ((k.toNat : Nat) : Int) = k by omega] at e
    rw [if_pos a, if_pos (by rw [bz_n]; exact a), x1, b1_v, show L11_few_18 _ FU 0 m1 = _ from L11_f18 21 FU 0 m1 (by omega) (by rw [FU_eq]; omega), ← hm2, show L11_few_39 _ FU 0 m2 = _ from x3, gd_t (by omega), e]
    exact ⟨m3, rfl, PL_few y3.1⟩
  · rw [if_neg a, if_neg (by rw [bz_n]; exact a)]
    exact ⟨m, rfl, fun _ _ _ => rfl⟩
theorem pdV_s {m m' : Mem} (h : Sm m m') (c k : Int) : pdV m' c k = pdV m c k := by funext i; exact paidV_s h c _
theorem csV_s {m m' : Mem} (h : Sm m m') (c k : Int) : csV m' c k = csV m c k := by unfold csV; rw [pdV_s h]
theorem c4V_s {m m' : Mem} (h : Sm m m') (c : Int) : ∀ k, c4V m' c k = c4V m c k
  | 0 => rfl
  | k + 1 => by show c4V m' c k + csV m' c k = c4V m c k + csV m c k; rw [c4V_s h c k, csV_s h]
theorem smA_s {m m' : Mem} (h : Sm m m') : ∀ c, smA m' c = smA m c
  | 0 => rfl
  | c + 1 => by
    show (if rd m' 88 (c : Int) < 0 then smA m' c else smA m' c + c4V m' (c : Int) 4) = (if rd m 88 (c : Int) < 0 then smA m c else smA m c + c4V m (c : Int) 4)
    rw [Sm_r h (show PS 88 (c : Int) by unfold PS; omega), smA_s h c, c4V_s h]
theorem alV_s {m m' : Mem} (h : Sm m m') (c k : Int) : alV m' c k = alV m c k := by
  funext i; unfold alV; rw [LL_s h, paidV_s h, Sm_r h (show PS 90 3 by unfold PS; omega)]
theorem akV_s {m m' : Mem} (h : Sm m m') (c k y : Int) : akV m' c k y = akV m c k y := by
  funext i; unfold akV; rw [FLL_s h, FLL_s h]
theorem RJ_s {m m' : Mem} (h : Sm m m') (c k : Int) : RJ m' c k = RJ m c k := by
  have key : ∀ j y, RJf m' c k j y = RJf m c k j y := by
    intro j y
    induction y with
    | zero => show tk (alV m' c k) 4 j = tk (alV m c k) 4 j; rw [alV_s h]
    | succ y ih =>
      have ax : axV m' c k (y : Int) = axV m c k (y : Int) := by funext i; unfold axV; rw [akV_s h, alV_s h]
      have bx : bsV m' c k (y : Int) = bsV m c k (y : Int) := by unfold bsV; rw [akV_s h, pdV_s h, Sm_r h (show PS 90 4 by unfold PS; omega)]
      show (if canL m' (y : Int) c = true ∧ 1 ≤ j then max (RJf m' c k j y) (bsV m' c k (y : Int) + tk (axV m' c k (y : Int)) 4 (j - 1)) else RJf m' c k j y) = (if canL m (y : Int) c = true ∧ 1 ≤ j then max (RJf m c k j y) (bsV m c k (y : Int) + tk (axV m c k (y : Int)) 4 (j - 1)) else RJf m c k j y)
      rw [canL_s h, ih, ax, bx]
  funext j
  unfold RJ
  rw [Sm_r h (show PS 83 1 by unfold PS; omega), key]
theorem sv1_s {m m' : Mem} (h : Sm m m') (c : Int) (f : Nat → Int) : ∀ k, sv1 m' c f k = sv1 m c f k
  | 0 => rfl
  | k + 1 => by show svn (sv1 m' c f k) (RJ m' c (k : Int)) = svn (sv1 m c f k) (RJ m c (k : Int)); rw [sv1_s h c f k, RJ_s h]
theorem svA_s {m m' : Mem} (h : Sm m m') : ∀ c, svA m' c = svA m c
  | 0 => rfl
  | c + 1 => by
    show (if rd m' 88 (c : Int) < 0 then svA m' c else sv1 m' (c : Int) (svA m' c) 4) = (if rd m 88 (c : Int) < 0 then svA m c else sv1 m (c : Int) (svA m c) 4)
    rw [Sm_r h (show PS 88 (c : Int) by unfold PS; omega), svA_s h c, sv1_s h]
theorem st_few {n : Nat} {m : Mem} (k : Int) (hI : Inv n m) : Sq n (fun m => F10_few m k) (fun m => F11_few m k) m :=
  Sq_sm (v := fun m => fewV m k) hI (dfew hI k) (fun _ h => rfew h k) (fun m1 h => by unfold fewV; rw [Sm_r h (show PS 83 1 by unfold PS; omega), smA_s h, svA_s h])
