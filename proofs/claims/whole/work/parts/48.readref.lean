theorem isNext_e {M r : Mem} {b p : Int} (h6 : iTp M) (h : tpr M r) (hb : 0 ≤ b) (hb' : b ≤ 127) (hp : rd r 83 11 = p) (h0 : 0 ≤ p) (h1 : p ≤ 120) : F11_isNext r b = if sgn M p = b then some (1, wr r 83 11 (p + 1)) else some (0, r) := by
  unfold F11_isNext
  rw [look2 h6 h (by omega), b1_v, hp, stw_v, w32_id (x := p + 1) (by omega) (by omega)]
  rcases lk_e h6 h0 with ⟨x, y⟩ | ⟨x, y⟩
  · rw [y]
  · rw [if_neg (by omega), if_neg (by omega)]
/-- the reference's clauses -/
theorem L11_cl {M : Mem} {c : Int} {kk : Mem → Option Mem} (h6 : iTp M) (hc : 0 ≤ c ∧ c < 12) : ∀ (d n : Nat) (v p : Int) (r : Mem) (F : Int → Int), cnt (mb v) 16 + d = 17 → d < n → tpr M r → rd r 83 12 < 0 → rd r 83 11 = p → 0 ≤ p → p ≤ 120 → (∀ k, 0 ≤ k → k < 16 → rd r 89 (16 * c + k) = F k) →
    ∃ r', L11_readAll_84 c kk n v r = kk r' ∧ (((clS M d v p F).1 < 0 ∧ rd r' 83 12 = rd r 83 12 ∧ rd r' 83 11 = (clS M d v p F).2.1) ∨ (0 ≤ (clS M d v p F).1 ∧ rd r' 83 12 = (clS M d v p F).1)) ∧ (∀ k, 0 ≤ k → k < 16 → rd r' 89 (16 * c + k) = (clS M d v p F).2.2 k) ∧ (∀ k i, ¬ (k = 83 ∧ (i = 11 ∨ i = 12)) → ¬ (k = 89 ∧ 16 * c ≤ i ∧ i < 16 * c + 16) → r' k i = r k i) := by
  have t1 := h6.2.1
  intro d
  induction d with
  | zero =>
    intro n v p r F h0 h1 h2 h3 h4 h5 h7 hF
    have := cnt_le (mb v) 16
    omega
  | succ d ih =>
    intro n v p r F h0 h1 h2 h3 h4 h5 h7 hF
    obtain ⟨n, rfl⟩ : ∃ i, n = i + 1 := ⟨n - 1, by omega⟩
    rw [L11_readAll_84, if_neg (by omega), isNext_e h6 h2 (by omega) (by omega) h4 h5 h7]
    unfold clS
    by_cases a : sgn M p = 44
    · have en := sgn_end (m := M) (p := p) (by omega)
      rw [if_pos a, if_neg (show ¬ (sgn M p ≠ 44) by omega), b2_v, if_neg (by omega)]
      obtain ⟨q, hq⟩ : ∃ q, q = wr r 83 11 (p + 1) := ⟨_, rfl⟩
      have qt : tpr M q := by rw [hq]; exact tpr_w h2 (by omega) (by omega)
      have q11 : rd q 83 11 = p + 1 := by rw [hq]; simp (disch := omega) only [gd_t, stw_v, cpw_v, jn_v, b1_v, b2_v, w32_id, rd_wr_s, rd_wr_k, rd_wr_i, bz_0, bz_n, if_pos, if_neg, if_true, if_false, ne_eq, not_true_eq_false, not_false_eq_true]
      have q12 : rd q 83 12 = rd r 83 12 := by rw [hq, rd_wr_i (by omega)]
      have qo : ∀ k i, ¬ (k = 83 ∧ (i = 11 ∨ i = 12)) → q k i = r k i := fun k i x => by rw [hq, wr_ki (by omega)]
      have qF : ∀ k, 0 ≤ k → k < 16 → rd q 89 (16 * c + k) = F k := fun k x y => by rw [rd_eq (qo 89 _ (by omega))]; exact hF k x y
      rw [← hq, clause_e h6 qt hc q11 (by omega) (by omega) (by omega)]
      by_cases b : ¬ (0 ≤ sgn M (p + 1) - 97 ∧ sgn M (p + 1) - 97 < 16) ∨ bt v (sgn M (p + 1) - 97) = true
      · rw [if_pos b, if_pos b, b2_v]
        obtain ⟨n, rfl⟩ : ∃ i, n = i + 1 := ⟨n - 1, by omega⟩
        have f12 : rd (wr q 83 12 (p + 1)) 83 12 = p + 1 := by simp (disch := omega) only [gd_t, stw_v, cpw_v, jn_v, b1_v, b2_v, w32_id, rd_wr_s, rd_wr_k, rd_wr_i, bz_0, bz_n, if_pos, if_neg, if_true, if_false, ne_eq, not_true_eq_false, not_false_eq_true]
        rw [L11_readAll_84, if_pos (by omega)]
        exact ⟨_, rfl, Or.inr ⟨by show 0 ≤ p + 1; omega, f12⟩, fun k x y => by rw [rd_wr_k (by omega)]; exact qF k x y, fun k i x y => by rw [wr_ki (by omega)]; exact qo k i x⟩
      · rw [if_neg b, if_neg b, show p + 1 + 1 = p + 2 by omega]
        have b0 : 0 ≤ sgn M (p + 1) - 97 ∧ sgn M (p + 1) - 97 < 16 := by
          by_cases z : 0 ≤ sgn M (p + 1) - 97 ∧ sgn M (p + 1) - 97 < 16
          · exact z
          · exact absurd (Or.inl z) b
        have b3 : bt v (sgn M (p + 1) - 97) = false := by
          cases hh : bt v (sgn M (p + 1) - 97) with
          | true => exact absurd (Or.inr hh) b
          | false => rfl
        have en1 := sgn_end (m := M) (p := p + 1) (by omega)
        by_cases e : ¬ ((0 ≤ frm (sgn M (p + 2)) ∧ frm (sgn M (p + 2)) < 4) ∨ frm (sgn M (p + 2)) = 9) ∨ sgn M (p + 2) = 57
        · rw [if_pos e, if_pos e, b2_v]
          obtain ⟨n, rfl⟩ : ∃ i, n = i + 1 := ⟨n - 1, by omega⟩
          have f12 : rd (wr (wr q 83 11 (p + 2)) 83 12 (p + 2)) 83 12 = p + 2 := by simp (disch := omega) only [gd_t, stw_v, cpw_v, jn_v, b1_v, b2_v, w32_id, rd_wr_s, rd_wr_k, rd_wr_i, bz_0, bz_n, if_pos, if_neg, if_true, if_false, ne_eq, not_true_eq_false, not_false_eq_true]
          rw [L11_readAll_84, if_pos (by omega)]
          exact ⟨_, rfl, Or.inr ⟨by show 0 ≤ p + 2; omega, f12⟩, fun k x y => by rw [rd_wr_k (by omega), rd_wr_k (by omega)]; exact qF k x y, fun k i x y => by rw [wr_ki (by omega), wr_ki (by omega)]; exact qo k i x⟩
        · rw [if_neg e, if_neg e, b2_v, show p + 1 + 2 = p + 3 by omega]
          have e0 : (0 ≤ frm (sgn M (p + 2)) ∧ frm (sgn M (p + 2)) < 4) ∨ frm (sgn M (p + 2)) = 9 := by
            by_cases z : (0 ≤ frm (sgn M (p + 2)) ∧ frm (sgn M (p + 2)) < 4) ∨ frm (sgn M (p + 2)) = 9
            · exact z
            · exact absurd (Or.inl z) e
          have e1 : 0 ≤ sgn M (p + 2) := by unfold frm at e0; split at e0 <;> omega
          have en2 := sgn_end (m := M) (p := p + 2) e1
          obtain ⟨u, hu⟩ : ∃ u, u = wr (wr (wr q 83 11 (p + 2)) 89 (16 * c + (sgn M (p + 1) - 97)) (frm (sgn M (p + 2)))) 83 11 (p + 3) := ⟨_, rfl⟩
          rw [← hu]
          have mbb := mb_add b0.1 b0.2 b3
          have u12 : rd u 83 12 = rd r 83 12 := by rw [hu, rd_wr_i (by omega), rd_wr_k (by omega), rd_wr_i (by omega)]; exact q12
          obtain ⟨r', a1, a2, a3, a4⟩ := ih n (bor v (shl 1 (sgn M (p + 1) - 97))) (p + 3) u (fun k => if k = sgn M (p + 1) - 97 then frm (sgn M (p + 2)) else F k) (by omega) (by omega) (by rw [hu]; exact tpr_w (tpr_w (tpr_w qt (by omega) (by omega)) (by omega) (by omega)) (by omega) (by omega)) (by omega) (by rw [hu]; simp (disch := omega) only [gd_t, stw_v, cpw_v, jn_v, b1_v, b2_v, w32_id, rd_wr_s, rd_wr_k, rd_wr_i, bz_0, bz_n, if_pos, if_neg, if_true, if_false, ne_eq, not_true_eq_false, not_false_eq_true]) (by omega) (by omega) (by
            intro k x y
            rw [hu, rd_wr_k (by omega), rd_wr_c]
            by_cases z : k = sgn M (p + 1) - 97
            · rw [if_pos z, if_pos (by omega)]; exact w32_id (by omega) (by omega)
            · rw [if_neg z, if_neg (by omega), rd_wr_k (by omega)]; exact qF k x y)
          rw [u12] at a2
          exact ⟨r', a1, a2, a3, fun k i x y => by rw [a4 k i x y, hu, wr_ki (by omega), wr_ki (by omega), wr_ki (by omega)]; exact qo k i x⟩
    · rw [if_neg a, if_pos a, b2_v, if_pos rfl]
      exact ⟨r, rfl, Or.inl ⟨by show (-1 : Int) < 0; omega, rfl, h4⟩, hF, fun _ _ _ _ => rfl⟩
/-- what clauses leave: the needle and the forms keep within -/
theorem clS_in {M : Mem} (h6 : iTp M) : ∀ (d : Nat) (v p : Int) (F : Int → Int), 0 ≤ p → p ≤ 120 → (∀ k, isF (F k)) → 0 ≤ (clS M d v p F).2.1 ∧ (clS M d v p F).2.1 ≤ 122 ∧ ((clS M d v p F).1 < 0 → (clS M d v p F).2.1 ≤ 120) ∧ (∀ k, isF ((clS M d v p F).2.2 k))
  | 0, v, p, F, h0, h1, hF => ⟨h0, by show p ≤ 122; omega, fun _ => h1, hF⟩
  | d + 1, v, p, F, h0, h1, hF => by
    have t1 := h6.2.1
    unfold clS
    by_cases a : sgn M p = 44
    · rw [if_neg (by omega)]
      have en := sgn_end (m := M) (p := p) (by omega)
      by_cases b : ¬ (0 ≤ sgn M (p + 1) - 97 ∧ sgn M (p + 1) - 97 < 16) ∨ bt v (sgn M (p + 1) - 97) = true
      · rw [if_pos b]
        exact ⟨by show 0 ≤ p + 1; omega, by show p + 1 ≤ 122; omega, fun _ => by show p + 1 ≤ 120; omega, hF⟩
      · rw [if_neg b]
        have b0 : 0 ≤ sgn M (p + 1) - 97 := by
          by_cases z : 0 ≤ sgn M (p + 1) - 97 ∧ sgn M (p + 1) - 97 < 16
          · exact z.1
          · exact absurd (Or.inl z) b
        have en1 := sgn_end (m := M) (p := p + 1) (by omega)
        by_cases e : ¬ ((0 ≤ frm (sgn M (p + 2)) ∧ frm (sgn M (p + 2)) < 4) ∨ frm (sgn M (p + 2)) = 9) ∨ sgn M (p + 2) = 57
        · rw [if_pos e]
          exact ⟨by show 0 ≤ p + 2; omega, by show p + 2 ≤ 122; omega, fun _ => by show p + 2 ≤ 120; omega, hF⟩
        · rw [if_neg e]
          have e0 : (0 ≤ frm (sgn M (p + 2)) ∧ frm (sgn M (p + 2)) < 4) ∨ frm (sgn M (p + 2)) = 9 := by
            by_cases z : (0 ≤ frm (sgn M (p + 2)) ∧ frm (sgn M (p + 2)) < 4) ∨ frm (sgn M (p + 2)) = 9
            · exact z
            · exact absurd (Or.inl z) e
          have e1 : 0 ≤ sgn M (p + 2) := by unfold frm at e0; split at e0 <;> omega
          have en2 := sgn_end (m := M) (p := p + 2) e1
          refine clS_in h6 d _ (p + 3) _ (by omega) (by omega) (fun k => ?_)
          show isF (if k = sgn M (p + 1) - 97 then frm (sgn M (p + 2)) else F k)
          by_cases z : k = sgn M (p + 1) - 97
          · rw [if_pos z]; exact e0
          · rw [if_neg z]; exact hF k
    · rw [if_pos a]
      exact ⟨h0, by show p ≤ 122; omega, fun _ => h1, hF⟩
