/-! the clauses: what both sides read -/
def frm (s : Int) : Int := if s = 63 then 9 else s - 48
def clS (M : Mem) : Nat → Int → Int → (Int → Int) → Int × Int × (Int → Int)
  | 0, _, p, F => (-1, p, F)
  | d + 1, v, p, F =>
    if sgn M p ≠ 44 then (-1, p, F) else
    if ¬ (0 ≤ sgn M (p + 1) - 97 ∧ sgn M (p + 1) - 97 < 16) ∨ bt v (sgn M (p + 1) - 97) = true then (p + 1, p + 1, F) else
    if ¬ ((0 ≤ frm (sgn M (p + 2)) ∧ frm (sgn M (p + 2)) < 4) ∨ frm (sgn M (p + 2)) = 9) ∨ sgn M (p + 2) = 57 then (p + 2, p + 2, F) else
    clS M d (bor v (shl 1 (sgn M (p + 1) - 97))) (p + 3) (fun k => if k = sgn M (p + 1) - 97 then frm (sgn M (p + 2)) else F k)
theorem cnt_add {p q : Nat → Bool} : ∀ k j, j < k → (∀ i, i < k → i ≠ j → q i = p i) → p j = false → q j = true → cnt q k = cnt p k + 1
  | 0, j, hj, _, _, _ => by omega
  | k + 1, j, hj, h, a, b => by
    unfold cnt
    by_cases e : j = k
    · subst e
      have : cnt q j = cnt p j := by
        have u := cnt_mono (p := p) (q := q) j (fun i x y => by rw [h i (by omega) (by omega)]; exact y)
        have w := cnt_mono (p := q) (q := p) j (fun i x y => by rw [← h i (by omega) (by omega)]; exact y)
        omega
      rw [this, a, b]; rfl
    · rw [cnt_add k j (by omega) (fun i x => h i (by omega)) a b, h k (by omega) (by omega)]; omega
def mb (v : Int) : Nat → Bool := fun i => bt v (i : Int)
theorem mb_add {v i : Int} (h0 : 0 ≤ i) (h1 : i < 16) (h : bt v i = false) : cnt (mb (bor v (shl 1 i))) 16 = cnt (mb v) 16 + 1 := by
  refine cnt_add 16 i.toNat (by omega) (fun k x y => ?_) ?_ ?_
  · show bt (bor v (shl 1 i)) (k : Int) = bt v (k : Int)
    rw [bt_or h0 h1 (by omega) (by omega), if_neg (by omega)]
  · show bt v ((i.toNat : Nat) : Int) = false
    rw [show ((i.toNat : Nat) : Int) = i by omega]; exact h
  · show bt (bor v (shl 1 i)) ((i.toNat : Nat) : Int) = true
    rw [show ((i.toNat : Nat) : Int) = i by omega, bt_or h0 h1 h0 h1, if_pos rfl]
theorem jn_frm {s : Int} (h0 : -1 ≤ s) (h1 : s ≤ 255) (body : Int → Option (Int × Mem)) : jn (fun (K : Int → Option (Int × Mem)) => if s ≠ 63 then K (w32 (s - 48)) else K 9) body = body (frm s) := by
  rw [jn_v]
  unfold frm
  by_cases z : s = 63
  · rw [if_neg (by omega), if_pos z]
  · rw [if_pos z, if_neg z, w32_id (by omega) (by omega)]
theorem L8_cl {M : Mem} (h6 : iTp M) : ∀ (d n : Nat) (v j : Int) (m : Mem) (F : Int → Int), j + d = 17 → (cnt (mb v) 16 : Int) = j → d < n → rd m 1 1 = rd M 1 1 → (∀ i, rd m 2 i = rd M 2 i) → 0 ≤ rd m 1 6 → rd m 1 6 ≤ 120 → (∀ k, 0 ≤ k → k < 16 → rd m 3 k = F k) →
    ∃ m', L8_readClauses_4 (fun m => some (rd m 1 6, m)) (fun m => some (rd m 1 6, m)) n v j m = some ((clS M d v (rd m 1 6) F).1, m') ∧ rd m' 1 6 = (clS M d v (rd m 1 6) F).2.1 ∧ (∀ k, 0 ≤ k → k < 16 → rd m' 3 k = (clS M d v (rd m 1 6) F).2.2 k) ∧ (∀ k i, ¬ (k = 1 ∧ i = 6) → k ≠ 3 → m' k i = m k i) := by
  have t1 := h6.2.1
  intro d
  induction d with
  | zero =>
    intro n v j m F h0 hc h1 e1 e2 p0 p1 hF
    have := cnt_le (mb v) 16
    omega
  | succ d ih =>
    intro n v j m F h0 hc h1 e1 e2 p0 p1 hF
    obtain ⟨n, rfl⟩ : ∃ i, n = i + 1 := ⟨n - 1, by omega⟩
    obtain ⟨p, hp⟩ : ∃ p, p = rd m 1 6 := ⟨_, rfl⟩
    have cl := cnt_le (mb v) 16
    have se : ∀ q : Mem, rd q 1 1 = rd M 1 1 → (∀ i, rd q 2 i = rd M 2 i) → 0 ≤ rd q 1 6 → F8_sign q = some (sgn M (rd q 1 6)) := fun q x y z => by rw [sign_e z (by omega), sgn_s x y]
    rw [L8_readClauses_4, if_neg (by omega), se m e1 e2 p0, b1_v, ← hp]
    unfold clS
    by_cases a : sgn M p = 44
    · have en := sgn_end (m := M) (p := p) (by omega)
      rw [if_neg (by omega), if_neg (by omega), stw_v]
      obtain ⟨q, hq⟩ : ∃ q, q = wr m 1 6 (p + 1) := ⟨_, rfl⟩
      have q6 : rd q 1 6 = p + 1 := by rw [hq]; simp (disch := omega) only [gd_t, stw_v, cpw_v, jn_v, b1_v, b2_v, w32_id, rd_wr_s, rd_wr_k, rd_wr_i, bz_0, bz_n, if_pos, if_neg, if_true, if_false, ne_eq, not_true_eq_false, not_false_eq_true]
      have q1 : rd q 1 1 = rd M 1 1 := by rw [hq, rd_wr_i (by omega)]; exact e1
      have q2 : ∀ i, rd q 2 i = rd M 2 i := fun i => by rw [hq, rd_wr_k (by omega)]; exact e2 i
      rw [w32_id (x := p + 1) (by omega) (by omega), ← hq, se q q1 q2 (by omega), b1_v, q6]
      have sg := (sgn_look (p := p + 1) h6 (by omega))
      rw [w32_id (x := sgn M (p + 1) - 97) (by omega) (by omega), F10_isClause_e]
      by_cases b : 0 ≤ sgn M (p + 1) - 97 ∧ sgn M (p + 1) - 97 < 16
      · have en1 := sgn_end (m := M) (p := p + 1) (by omega)
        rw [if_neg (show ¬ (bz (0 ≤ sgn M (p + 1) - 97 ∧ sgn M (p + 1) - 97 < 16) = 0) by rw [bz_0]; exact fun z => z b), bit_e b.1 b.2]
        by_cases c : bt v (sgn M (p + 1) - 97) = true
        · rw [if_pos c, if_neg (show ¬ ((1 : Int) = 0) by omega), if_pos (Or.inr c)]
          exact ⟨q, rfl, q6, fun k x y => by rw [hq, rd_wr_k (by omega)]; exact hF k x y, fun k i x y => by rw [hq, wr_ki x]⟩
        · rw [if_neg c, if_pos rfl, if_neg (by intro z; rcases z with z | z; exact z b; exact c z), stw_v]
          obtain ⟨t, ht⟩ : ∃ t, t = wr q 1 6 (p + 2) := ⟨_, rfl⟩
          have t6 : rd t 1 6 = p + 2 := by rw [ht]; simp (disch := omega) only [gd_t, stw_v, cpw_v, jn_v, b1_v, b2_v, w32_id, rd_wr_s, rd_wr_k, rd_wr_i, bz_0, bz_n, if_pos, if_neg, if_true, if_false, ne_eq, not_true_eq_false, not_false_eq_true]
          have t1' : rd t 1 1 = rd M 1 1 := by rw [ht, rd_wr_i (by omega)]; exact q1
          have t2 : ∀ i, rd t 2 i = rd M 2 i := fun i => by rw [ht, rd_wr_k (by omega)]; exact q2 i
          rw [w32_id (x := p + 1 + 1) (by omega) (by omega), show p + 1 + 1 = p + 2 by omega, ← ht, se t t1' t2 (by omega), t6]
          have sg2 := (sgn_look (p := p + 2) h6 (by omega))
          simp only [b1_v]
          rw [jn_frm sg2.1 sg2.2.1]
          rw [F10_isForm_e]
          by_cases e : ((0 ≤ frm (sgn M (p + 2)) ∧ frm (sgn M (p + 2)) < 4) ∨ frm (sgn M (p + 2)) = 9)
          · have e0 : 0 ≤ sgn M (p + 2) := by unfold frm at e; split at e <;> omega
            have en2 := sgn_end (m := M) (p := p + 2) e0
            rw [if_neg (show ¬ (bz ((0 ≤ frm (sgn M (p + 2)) ∧ frm (sgn M (p + 2)) < 4) ∨ frm (sgn M (p + 2)) = 9) = 0) by rw [bz_0]; exact fun z => z e)]
            by_cases g : sgn M (p + 2) = 57
            · rw [if_neg (show ¬ (sgn M (p + 2) ≠ 57) by omega), if_pos (Or.inr g)]
              exact ⟨t, rfl, t6, fun k x y => by rw [ht, rd_wr_k (by omega), hq, rd_wr_k (by omega)]; exact hF k x y, fun k i x y => by rw [ht, wr_ki x, hq, wr_ki x]⟩
            · rw [if_pos g, if_neg (by intro z; rcases z with z | z; exact z e; exact g z), gd_t b, stw_v, stw_v]
              obtain ⟨u, hu⟩ : ∃ u, u = wr (wr t 3 (sgn M (p + 1) - 97) (frm (sgn M (p + 2)))) 1 6 (p + 3) := ⟨_, rfl⟩
              have u6 : rd u 1 6 = p + 3 := by rw [hu]; simp (disch := omega) only [gd_t, stw_v, cpw_v, jn_v, b1_v, b2_v, w32_id, rd_wr_s, rd_wr_k, rd_wr_i, bz_0, bz_n, if_pos, if_neg, if_true, if_false, ne_eq, not_true_eq_false, not_false_eq_true]
              have u1 : rd u 1 1 = rd M 1 1 := by rw [hu, rd_wr_i (by omega), rd_wr_k (by omega)]; exact t1'
              have u2 : ∀ i, rd u 2 i = rd M 2 i := fun i => by rw [hu, rd_wr_k (by omega), rd_wr_k (by omega)]; exact t2 i
              have cb : bt v (sgn M (p + 1) - 97) = false := by
                cases hh : bt v (sgn M (p + 1) - 97) with
                | true => exact absurd hh c
                | false => rfl
              have mbb := mb_add b.1 b.2 cb
              obtain ⟨m', a1, a2, a3, a4⟩ := ih n (bor v (shl 1 (sgn M (p + 1) - 97))) (j + 1) u (fun k => if k = sgn M (p + 1) - 97 then frm (sgn M (p + 2)) else F k) (by omega) (by omega) (by omega) u1 u2 (by omega) (by omega) (by
                intro k x y
                rw [hu, rd_wr_k (by omega), rd_wr_c]
                by_cases z : k = sgn M (p + 1) - 97
                · rw [if_pos z, if_pos z]; exact w32_id (by omega) (by omega)
                · rw [if_neg z, if_neg z, ht, rd_wr_k (by omega), hq, rd_wr_k (by omega)]; exact hF k x y)
              rw [u6] at a1 a2 a3
              refine ⟨m', ?_, a2, a3, fun k i x y => by rw [a4 k i x y, hu, wr_ki x, wr_ka y, ht, wr_ki x, hq, wr_ki x]⟩
              rw [rd_wr_k (by omega), t6, w32_id (x := p + 2 + 1) (by omega) (by omega), show p + 2 + 1 = p + 3 by omega, ← hu, w32_id (x := j + 1) (by omega) (by omega)]
              exact a1
          · rw [if_pos (show bz ((0 ≤ frm (sgn M (p + 2)) ∧ frm (sgn M (p + 2)) < 4) ∨ frm (sgn M (p + 2)) = 9) = 0 by rw [bz_0]; exact e), if_pos (Or.inl e)]
            exact ⟨t, rfl, t6, fun k x y => by rw [ht, rd_wr_k (by omega), hq, rd_wr_k (by omega)]; exact hF k x y, fun k i x y => by rw [ht, wr_ki x, hq, wr_ki x]⟩
      · rw [if_pos (show bz (0 ≤ sgn M (p + 1) - 97 ∧ sgn M (p + 1) - 97 < 16) = 0 by rw [bz_0]; exact b), if_pos (Or.inl b)]
        exact ⟨q, rfl, q6, fun k x y => by rw [hq, rd_wr_k (by omega)]; exact hF k x y, fun k i x y => by rw [hq, wr_ki x]⟩
    · rw [if_pos a, if_pos a]
      exact ⟨m, rfl, hp.symm, hF, fun _ _ _ _ => rfl⟩
