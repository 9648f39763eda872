def lk (M : Mem) (p : Int) : Int := if p < rd M 83 10 then rd M 91 p else -1
/-- r reads the tape of M -/
def tpr (M r : Mem) : Prop := rd r 83 10 = rd M 83 10 ∧ ∀ i, rd r 91 i = rd M 91 i
theorem look2 {M r : Mem} (h6 : iTp M) (h : tpr M r) (h0 : 0 ≤ rd r 83 11) : F11_look r = some (lk M (rd r 83 11)) := by
  have t1 := h6.2.1; have t3 := h6.2.2.1
  rw [look_e h0 (by rw [h.1]; omega), h.1, h.2]; rfl
theorem lk_e {M : Mem} {p : Int} (h6 : iTp M) (h0 : 0 ≤ p) : (sgn M p ≤ 127 ∧ lk M p = sgn M p) ∨ (127 < sgn M p ∧ lk M p < 0) := by
  obtain ⟨a, b, c, d⟩ := sgn_look h6 h0
  by_cases e : sgn M p ≤ 127
  · exact Or.inl ⟨e, c e⟩
  · exact Or.inr ⟨by omega, d (by omega)⟩
theorem lk_in {M : Mem} (p : Int) : inR (lk M p) := by
  unfold lk; split
  · exact rd_in _ _ _
  · unfold inR; omega
theorem lk_b {M : Mem} {p : Int} (h6 : iTp M) (h0 : 0 ≤ p) : -128 ≤ lk M p ∧ lk M p ≤ 127 := by
  obtain ⟨t1, t2, t3, t4⟩ := h6
  unfold lk; split
  · have := t4 p h0 (by omega)
    rw [this.2.2]
    have := i8_in (rd M 2 p); omega
  · omega
theorem wrong_e {r : Mem} {p : Int} (h : rd r 83 12 < 0) : F11_wrong r p = some (wr r 83 12 p) := by
  unfold F11_wrong; rw [if_neg (by omega), stw_v]
theorem jn_frm' {s : Int} (h0 : -128 ≤ s) (h1 : s ≤ 255) (body : Int → Option (Int × Mem)) : jn (fun (K : Int → Option (Int × Mem)) => if s ≠ 63 then K (w32 (s - 48)) else K 9) body = body (frm s) := by
  rw [jn_v]
  unfold frm
  by_cases z : s = 63
  · rw [if_neg (by omega), if_pos z]
  · rw [if_pos z, if_neg z, w32_id (by omega) (by omega)]
theorem tpr_w {M r : Mem} {k : Nat} {i v : Int} (h : tpr M r) (hk : k ≠ 91) (hi : ¬ (k = 83 ∧ i = 10)) : tpr M (wr r k i v) := by
  obtain ⟨a, b⟩ := h
  refine ⟨?_, fun j => ?_⟩
  · rw [← a]; exact rd_eq (wr_ki (by omega))
  · rw [← b]; exact rd_eq (wr_ki (by omega))
theorem clause_e {M r : Mem} {c v p : Int} (h6 : iTp M) (h : tpr M r) (hc : 0 ≤ c ∧ c < 12) (hp : rd r 83 11 = p) (h0 : 0 ≤ p) (h1 : p ≤ 120) (hf : rd r 83 12 < 0) : F11_readClause r c v =
    if ¬ (0 ≤ sgn M p - 97 ∧ sgn M p - 97 < 16) ∨ bt v (sgn M p - 97) = true then some (v, wr r 83 12 p) else
    if ¬ ((0 ≤ frm (sgn M (p + 1)) ∧ frm (sgn M (p + 1)) < 4) ∨ frm (sgn M (p + 1)) = 9) ∨ sgn M (p + 1) = 57 then some (v, wr (wr r 83 11 (p + 1)) 83 12 (p + 1)) else
    some (bor v (shl 1 (sgn M p - 97)), wr (wr (wr r 83 11 (p + 1)) 89 (16 * c + (sgn M p - 97)) (frm (sgn M (p + 1)))) 83 11 (p + 2)) := by
  have hb := lk_b h6 h0
  have hb1 := lk_b (p := p + 1) h6 (by omega)
  unfold F11_readClause
  rw [look2 h6 h (by omega), b1_v, hp, jn_v, F11_isClause_e, w32_id (x := lk M p - 97) (by omega) (by omega), wrong_e hf, b1_v]
  by_cases b : 0 ≤ sgn M p - 97 ∧ sgn M p - 97 < 16
  · have le : lk M p = sgn M p := by rcases lk_e h6 h0 with x | x <;> omega
    rw [le, if_neg (show ¬ (bz (0 ≤ sgn M p - 97 ∧ sgn M p - 97 < 16) = 0) by rw [bz_0]; exact fun z => z b), bit_e b.1 b.2]
    by_cases g : bt v (sgn M p - 97) = true
    · rw [if_pos g, if_neg (show ¬ ((1 : Int) ≠ 1) by omega), if_pos (Or.inr g)]
    · have q6 : rd (wr r 83 11 (p + 1)) 83 11 = p + 1 := by simp (disch := omega) only [gd_t, stw_v, cpw_v, jn_v, b1_v, b2_v, w32_id, rd_wr_s, rd_wr_k, rd_wr_i, bz_0, bz_n, if_pos, if_neg, if_true, if_false, ne_eq, not_true_eq_false, not_false_eq_true]
      have qf : rd (wr r 83 11 (p + 1)) 83 12 < 0 := by rw [rd_wr_i (by omega)]; exact hf
      rw [if_neg g, if_pos (show (0 : Int) ≠ 1 by omega), if_neg (by intro z; rcases z with z | z; exact z b; exact g z), stw_v, w32_id (x := p + 1) (by omega) (by omega), look2 h6 (tpr_w h (by omega) (by omega)) (by rw [q6]; omega), q6]
      simp only [b1_v]
      rw [jn_frm' hb1.1 (by omega), jn_v, F11_isForm_e, wrong_e qf, b1_v]
      by_cases e : ((0 ≤ frm (sgn M (p + 1)) ∧ frm (sgn M (p + 1)) < 4) ∨ frm (sgn M (p + 1)) = 9)
      · have l1 : lk M (p + 1) = sgn M (p + 1) := by
          rcases lk_e (p := p + 1) h6 (by omega) with x | x
          · exact x.2
          · unfold frm at e; split at e <;> omega
        rw [l1, if_neg (show ¬ (bz ((0 ≤ frm (sgn M (p + 1)) ∧ frm (sgn M (p + 1)) < 4) ∨ frm (sgn M (p + 1)) = 9) = 0) by rw [bz_0]; exact fun z => z e)]
        by_cases i : sgn M (p + 1) = 57
        · rw [if_neg (show ¬ (sgn M (p + 1) ≠ 57) by omega), if_pos (Or.inr i)]
        · rw [if_pos i, if_neg (by intro z; rcases z with z | z; exact z e; exact i z)]
          rw [w32_id (x := 16 * c) (by omega) (by omega), w32_id (x := 16 * c + (sgn M p - 97)) (by omega) (by omega), gd_t (by omega), stw_v, stw_v, rd_wr_k (by omega), q6, w32_id (x := p + 1 + 1) (by omega) (by omega), show p + 1 + 1 = p + 2 by omega]
      · have e' : ¬ ((0 ≤ frm (lk M (p + 1)) ∧ frm (lk M (p + 1)) < 4) ∨ frm (lk M (p + 1)) = 9) := by
          rcases lk_e (p := p + 1) h6 (by omega) with x | x
          · rw [x.2]; exact e
          · unfold frm; split <;> omega
        rw [if_pos (show bz ((0 ≤ frm (lk M (p + 1)) ∧ frm (lk M (p + 1)) < 4) ∨ frm (lk M (p + 1)) = 9) = 0 by rw [bz_0]; exact e'), if_pos (Or.inl e)]
  · have b' : ¬ (0 ≤ lk M p - 97 ∧ lk M p - 97 < 16) := by rcases lk_e h6 h0 with x | x <;> omega
    rw [if_pos (show bz (0 ≤ lk M p - 97 ∧ lk M p - 97 < 16) = 0 by rw [bz_0]; exact b'), if_pos (Or.inl b)]
