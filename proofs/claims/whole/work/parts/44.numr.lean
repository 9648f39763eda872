/-- the reference's number, whole: the number, or the first fault marked -/
theorem F11_num {M r : Mem} (h6 : iTp M) {w : Int} (hw : w = 2 ∨ w = 3) (h4 : rd r 83 10 = rd M 83 10) (h5 : ∀ i, rd r 91 i = rd M 91 i) (h7 : 0 ≤ rd r 83 11) (h8 : rd r 83 11 ≤ 120) (h9 : rd r 83 12 < 0) :
    ∃ r' v, F11_number r w = some (v, r') ∧ (∀ k i, ¬ (k = 83 ∧ (i = 11 ∨ i = 12)) → r' k i = r k i) ∧ rd r' 83 11 = (numS M w.toNat (-1) (rd r 83 11)).2 ∧
      ((0 ≤ (numS M w.toNat (-1) (rd r 83 11)).1 ∧ v = (numS M w.toNat (-1) (rd r 83 11)).1 ∧ rd r' 83 12 = rd r 83 12) ∨ ((numS M w.toNat (-1) (rd r 83 11)).1 = -1 ∧ v = 0 ∧ rd r' 83 12 = rd r 83 11 ∧ rd r' 83 11 = rd r 83 11)) := by
  obtain ⟨r', j', a1, a2, a3, a4⟩ := L11_num h6 (w := w) (by omega) (kk := fun v2 v3 m => if v3 ≠ 0 then some (v2, m) else b1 (F11_wrong m (rd m 83 11)) fun m61 => some (v2, m61)) w.toNat FU 0 0 r (by omega) (by omega) (by rw [FU_eq]; omega) (by unfold bd; omega) (by omega) h4 h5 h7 h8
  have e : F11_number r w = _ := a1
  obtain ⟨d, hd⟩ : ∃ d, w.toNat = d + 1 := ⟨w.toNat - 1, by omega⟩
  rw [hd] at a2 a3 e ⊢
  rcases numS_z (m := M) h6.2.1 d (rd r 83 11) h8 with ⟨z1, z2, z3⟩ | ⟨z1, z2⟩
  · rw [if_pos (by omega)] at e
    refine ⟨r', _, e, fun k i x => a4 k i (by omega), by rw [z1]; exact a3, Or.inl ⟨by rw [z1]; exact z3, by rw [z1], rd_eq (a4 _ _ (by omega))⟩⟩
  · rw [z2] at a2 a3 e
    have w12 : rd r' 83 12 = rd r 83 12 := rd_eq (a4 _ _ (by omega))
    have a3' : rd r' 83 11 = rd r 83 11 := a3
    have wr' : F11_wrong r' (rd r' 83 11) = some (wr r' 83 12 (rd r 83 11)) := by
      unfold F11_wrong
      rw [if_neg (by omega), stw_v, a3']
    have j0 : j' = 0 := by rw [a2]; show 0 + (rd r 83 11 - rd r 83 11) = 0; omega
    rw [if_neg (by omega), wr', b1_v] at e
    refine ⟨_, _, e, fun k i x => by rw [wr_ki (by omega)]; exact a4 k i (by omega), ?_, Or.inr ⟨by rw [z1], rfl, ?_, ?_⟩⟩
    · rw [z1, rd_wr_i (by omega)]; exact a3'
    · rw [rd_wr_s]; exact w32_id (by omega) (by omega)
    · rw [rd_wr_i (by omega)]; exact a3'
