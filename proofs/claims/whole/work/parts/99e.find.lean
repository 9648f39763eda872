/-! the class's finding -/
theorem L0_f63 {n : Nat} {M : Mem} (hI : Inv n M) {N t : Nat} (hN : rd M 31 2 = (N : Int)) (h2 : 2 ≤ N) (h6 : N ≤ 6) : ∀ (d f c : Nat) (m : Mem), N ^ N ≤ c + d → c ≤ N ^ N → d < f → PRD M m N t → LST m N (bst M N c) → ∃ m', L0_find_63 ((N ^ N : Nat) : Int) f (c : Int) m = some m' ∧ PRD M m' N t ∧ LST m' N (bst M N (N ^ N)) := by
  have pb := pw_b (N := N) (j := N) h6 h6
  intro d
  induction d with
  | zero =>
    intro f c m h0 hc h1 hp hl
    obtain ⟨f, rfl⟩ : ∃ i, f = i + 1 := ⟨f - 1, by omega⟩
    rw [L0_find_63, if_pos (by omega)]
    exact ⟨m, rfl, hp, by rw [show N ^ N = c by omega]; exact hl⟩
  | succ d ih =>
    intro f c m h0 hc h1 hp hl
    obtain ⟨f, rfl⟩ : ∃ i, f = i + 1 := ⟨f - 1, by omega⟩
    by_cases z : c = N ^ N
    · rw [L0_find_63, if_pos (by omega)]
      exact ⟨m, rfl, hp, by rw [← z]; exact hl⟩
    · rw [L0_find_63, if_neg (by omega)]
      obtain ⟨r, m1, x1, y1, g⟩ := grow_c hI hN h2 h6 (show c < N ^ N by omega) hp hl
      have hp1 := PRD_s hp (m' := m1) (fun k i a b _ _ _ _ _ _ _ _ _ => y1 k i (by omega) b)
      have hl1 := LST_s hl (m' := m1) (rd_eq (y1 _ _ (by omega) (by omega))) (rd_eq (y1 _ _ (by omega) (by omega))) (fun i => rd_eq (y1 _ _ (by omega) (by omega))) (fun i => rd_eq (y1 _ _ (by omega) (by omega)))
      rw [x1, b2_v]
      simp only [jn_v]
      rcases g with ⟨r0, hT, h33, h13⟩ | ⟨q, hq, rq, sk⟩
      · subst r0
        obtain ⟨m2, x2, y2, z2⟩ := weigh_c hI hN h2 h6 (show c < N ^ N by omega) hp1 hl1 hT h33 h13
        have e : imx 1 0 = 1 := rfl
        rw [if_neg (fun q => q rfl), x2, b1_v, e, gd_t (by omega), idv_e (by omega) (by omega) (by omega) (by omega), Int.ediv_one, w32_id (x := (c : Int) + 1) (by omega) (by omega), Int.mul_one, w32_id (x := (c : Int) + 1) (by omega) (by omega), show (c : Int) + 1 = ((c + 1 : Nat) : Int) by omega]
        exact ih f (c + 1) m2 (by omega) (by omega) (by omega) y2 z2
      · have p1 := pw_1 (N := N) (j := N - 1 - q) h2
        have p2 := pw_b (N := N) (j := N - 1 - q) h6 (by omega)
        have nn : N ^ N = N ^ (q + 1) * N ^ (N - 1 - q) := by rw [← Nat.pow_add]; congr 1; omega
        obtain ⟨S, hS⟩ : ∃ S, S = N ^ (N - 1 - q) := ⟨_, rfl⟩
        have sk' : ∀ x, x / S = c / S → VB M N x = false ∨ ((bst M N c).1.length ≠ 0 ∧ (bst M N c).2 < KS M N x) := by rw [hS]; exact sk
        rw [← hS] at rq p1 p2 nn
        have e : imx 1 r = (S : Int) := by rw [imx_e, rq]; omega
        have dv : c / S < N ^ (q + 1) := by rw [Nat.div_lt_iff_lt_mul p1]; omega
        have dl : c / S ≤ c := Nat.div_le_self c S
        have md := Nat.div_add_mod c S
        have ml := Nat.mod_lt c (show 0 < S by omega)
        have nx : (c / S + 1) * S ≤ N ^ N := by rw [nn]; exact Nat.mul_le_mul_right S dv
        have nx' : (c / S + 1) * S = S * (c / S) + S := by rw [Nat.add_mul, Nat.one_mul, Nat.mul_comm]
        have gt : c < (c / S + 1) * S := by omega
        obtain ⟨c', hc'⟩ : ∃ c', c' = (c / S + 1) * S := ⟨_, rfl⟩
        have be : bst M N c' = bst M N c := by
          have := bl_skip (V := VB M N) (K := KS M N) (c := c) (c' - c) (fun x a b => sk' x (by
            have lo : S * (c / S) ≤ x := by omega
            have hi : x < S * (c / S) + S := by omega
            have : x = (x - S * (c / S)) + S * (c / S) := by omega
            rw [this, Nat.add_mul_div_left _ _ (by omega), Nat.div_eq_of_lt (by omega), Nat.zero_add]))
          rw [show c + (c' - c) = c' by omega] at this
          exact this
        rw [if_pos (by rw [rq]; omega), e, gd_t (by omega), idv_n (by omega) (by omega) (by omega)]
        generalize c / S = u at dl dv md nx nx' gt hc' ⊢
        rw [show (u : Int) + 1 = ((u + 1 : Nat) : Int) by omega, w32_id (x := ((u + 1 : Nat) : Int)) (by omega) (by omega), ← Int.natCast_mul, ← hc', w32_id (x := (c' : Int)) (by omega) (by omega)]
        exact ih f c' m1 (by omega) (by omega) (by omega) hp1 (by rw [be]; exact hl1)
theorem find_c {n : Nat} {M : Mem} (hI : Inv n M) {N : Nat} (hN : rd M 31 2 = (N : Int)) (h2 : 2 ≤ N) (h6 : N ≤ 6) (hv : rd M 31 14 ≠ rd M 4 12) : ∃ m' t, F0_find M = some m' ∧ PRD M m' N t ∧ LST m' N (bst M N (N ^ N)) ∧ rd m' 31 14 = rd M 4 12 := by
  have pb := pw_b (N := N) (j := N) h6 h6
  have vr := rd_in M 4 12
  obtain ⟨q, hq⟩ : ∃ q, q = wr (wr (wr M 31 14 (rd M 4 12)) 31 3 0) 31 4 16777216 := ⟨_, rfl⟩
  have qo : ∀ k i, k ≠ 31 → q k i = M k i := fun k i a => by rw [hq, wr_ki (by omega), wr_ki (by omega), wr_ki (by omega)]
  have q2 : rd q 31 2 = (N : Int) := by rw [hq, rd_wr_i (by omega), rd_wr_i (by omega), rd_wr_i (by omega)]; exact hN
  obtain ⟨m1, t, x1, p1⟩ := prep_e hI hN h2 h6 qo q2
  have fr : ∀ k i, k = 31 → i = 3 ∨ i = 4 ∨ i = 14 → rd m1 k i = rd q k i := fun k i a b => rd_eq (fr_F0_prepare (by omega) (by omega) (by omega) (by omega) (by omega) (by omega) (by omega) (by omega) (by omega) x1)
  have l0 : LST m1 N (bst M N 0) := by
    refine ⟨?_, ?_, fun i hi => absurd hi (Nat.not_lt_zero i), fun h => absurd rfl h⟩
    · rw [fr 31 3 rfl (by omega), hq, rd_wr_i (by omega), rd_wr_s]; exact w32_id (by omega) (by omega)
    · rw [fr 31 4 rfl (by omega), hq, rd_wr_s]; exact w32_id (by omega) (by omega)
  have p0 := p1.1.2.2.2 0 (by omega)
  have tot : w32 (rd m1 47 0 * rd m1 31 2) = ((N ^ N : Nat) : Int) := by
    rw [show (0 : Int) = ((0 : Nat) : Int) from rfl, p0, p1.1.1, ← Int.natCast_mul, ← Nat.pow_succ, show (N - 1 - 0).succ = N by omega]
    exact w32_id (by omega) (by omega)
  obtain ⟨m2, x2, y2, z2⟩ := L0_f63 hI (t := t) hN h2 h6 (N ^ N) FU 0 m1 (by omega) (by omega) (by rw [FU_eq]; omega) p1 l0
  have ff : F0_find M = some m2 := by
    unfold F0_find
    rw [if_neg hv, if_pos (by omega), stw_v, stw_v, stw_v, ← hq, x1, b1_v, gd_t (by omega), tot]
    exact x2
  refine ⟨m2, t, ff, y2, z2, ?_⟩
  have := fr_L0_find_63 (k := 31) (i := 14) (by omega) (by omega) (by omega) (by omega) (by omega) (by omega) (by omega) (by omega) (by omega) (by omega) (by omega) _ _ _ x2
  rw [rd_eq this, fr 31 14 rfl (by omega), hq, rd_wr_i (by omega), rd_wr_i (by omega), rd_wr_s]
  exact w32_id vr.1 vr.2
