theorem lcm_n {x y : Int} : lcm' x y < 0 ↔ x < y := by unfold lcm'; repeat' split <;> omega
theorem lcm_p {x y : Int} : 0 ≤ lcm' x y ↔ y ≤ x := by unfold lcm'; repeat' split <;> omega
theorem chg3 {a : Nat} {d r : Mem} {kd j v : Int} (hI : Inv a (mix d r)) (ha : rd (mix d r) 4 12 + 1 ≤ 16 * (a : Int)) (hb : rd (mix d r) 4 12 < 2000000000) (ok : okV (mix d r) kd j v) (hv : inR v) (ac : kd = 2 → rd (mix d r) 88 j ≠ v → acyc (rd (mix d r) 83 1) (fun c => if c = j then v else rd (mix d r) 88 c)) :
    ∃ o d' r', F1_change d (cel kd j) v = some (o, d') ∧ F11_changes r kd j v = some (o, r') ∧ Inv a (mix d' r') ∧ (∀ k i, 83 ≤ k → d' k i = d k i) ∧ (∀ k i, k < 83 → r' k i = r k i) ∧ rd (mix d' r') 4 12 ≤ rd (mix d r) 4 12 + 1 := by
  by_cases e : rd (mix d r) (ck kd) j = v
  · have h2 := hI.2.1
    obtain ⟨v1, v2, v3, v4⟩ := valueAt_e h2 hI.1.2.1 ok
    have ckk : ck kd = 88 ∨ ck kd = 89 ∨ ck kd = 90 := by
      unfold ck; split
      · omega
      · split <;> omega
    have p9 : rd d 9 (cel kd j) = v := by rw [← e, ← v2]; exact (rd_eq (mix_l (by omega))).symm
    have va : F11_valueAt r kd j = some v := by
      have pr : ∀ k i, 83 ≤ k → rd r k i = rd (mix d r) k i := fun k i x => (rd_eq (mix_r x)).symm
      have : F11_valueAt r kd j = F11_valueAt (mix d r) kd j := by unfold F11_valueAt; rw [pr 88 _ (by omega), pr 89 _ (by omega), pr 90 _ (by omega)]
      rw [this, v1, e]
    refine ⟨v, d, r, ?_, ?_, hI, fun _ _ _ => rfl, fun _ _ _ => rfl, by omega⟩
    · unfold F1_change
      rw [gd_t ⟨v3, v4⟩, p9, if_neg (by omega)]
    · unfold F11_changes
      rw [va, b1_v, if_neg (by omega)]
  · obtain ⟨d', r', a1, a2, a3, a4, a5, a6⟩ := chg2 rfl hI ha hb ok hv ac e
    exact ⟨_, d', r', a1, a2, a3, a4, a5, by omega⟩
theorem L_forms {a : Nat} {c s p z : Int} (h16 : z ≤ 16) (hs : 0 ≤ s ∧ s < 6) (hp : inR p) (hb : 16 * (a : Int) < 2000000000) : ∀ (g n : Nat) (i : Int) (d r : Mem), i + g = z → g < n → 0 ≤ i → Inv a (mix d r) → rd (mix d r) 4 12 + g ≤ 16 * (a : Int) → 0 ≤ c → c < rd (mix d r) 83 1 →
    ∃ o d' r', L10_forms_74 c p z (71 + 2 * s.toNat) (fun v6 m => some (v6, m)) n i d = some (o, d') ∧ L11_forms_67 c s p z n i r = some (o, r') ∧ Inv a (mix d' r') ∧ (∀ k i, 83 ≤ k → d' k i = d k i) ∧ (∀ k i, k < 83 → r' k i = r k i) := by
  have hp1 := hp.1; have hp2 := hp.2
  intro g
  induction g with
  | zero =>
    intro n i d r h0 h1 h2 h3 h4 h5 h6
    obtain ⟨n, rfl⟩ : ∃ i, n = i + 1 := ⟨n - 1, by omega⟩
    refine ⟨z, d, r, ?_, ?_, h3, fun _ _ _ => rfl, fun _ _ _ => rfl⟩
    · rw [L10_forms_74, if_pos (by omega), show i = z by omega]
    · rw [L11_forms_67, if_pos (by omega)]
  | succ g ih =>
    intro n i d r h0 h1 h2 h3 h4 h5 h6
    obtain ⟨n, rfl⟩ : ∃ i, n = i + 1 := ⟨n - 1, by omega⟩
    have hC := h3.1.2.1
    obtain ⟨sh1, sh2⟩ := h3.2.2.2.2.2.2.2.1
    obtain ⟨-, u2, u3, u4⟩ := sh1 s hs.1 hs.2
    have k3 : rd d (71 + 2 * s.toNat) 3 = rd r 120 s := by
      rw [← rd_eq (mix_l (d := d) (r := r) (by omega)), u2]; exact rd_eq (mix_r (by omega))
    have k120 : rd r 120 s = rd (mix d r) 120 s := (rd_eq (mix_r (by omega))).symm
    rw [← k120] at u3 u4
    have w : w64 (p + i) = p + i := w64_id (by omega) (by omega)
    rw [L10_forms_74, L11_forms_67, if_neg (show ¬ z ≤ i by omega), if_neg (show ¬ z ≤ i by omega), F6_hasPlace_e, k3, w]
    by_cases e : 0 ≤ p + i ∧ p + i < rd r 120 s
    · have w' : w32 (p + i) = p + i := w32_id (by omega) (by omega)
      have wq : w32 (w32 (60 * s) + (p + i)) = 60 * s + (p + i) := by rw [w32_id (x := 60 * s) (by omega) (by omega)]; exact w32_id (by omega) (by omega)
      have row : rl d (71 + 2 * s.toNat + 1) (p + i) = rl r 121 (60 * s + (p + i)) := by
        have := sh2 s (p + i) hs.1 hs.2 e.1 (by omega)
        rw [rl_eq (mix_l (by omega)), rl_eq (mix_r (by omega))] at this
        exact this
      rw [if_neg (show ¬ (bz (0 ≤ p + i ∧ p + i < rd r 120 s) = 0) by rw [bz_0]; exact fun q => q e), if_neg (show ¬ (lcm' (p + i) 0 < 0) by rw [lcm_n]; omega), gd_t hs, if_neg (show ¬ (0 ≤ lcm' (p + i) (rd r 120 s)) by rw [lcm_p]; omega), w', wq, gd_t (show 0 ≤ p + i ∧ p + i < 60 by omega), gd_t (show 0 ≤ 60 * s + (p + i) ∧ 60 * s + (p + i) < 360 by omega), F10_isForm_e, F11_isForm_e, row]
      obtain ⟨f, hf⟩ : ∃ f, f = w32 (rl r 121 (60 * s + (p + i))) := ⟨_, rfl⟩
      rw [← hf]
      by_cases y : (0 ≤ f ∧ f < 4) ∨ f = 9
      · obtain ⟨o, d', r', a1, a2, a3, a4, a5, a6⟩ := chg3 (kd := 0) (j := 16 * c + i) (v := f) h3 (by omega) (by omega) (Or.inl ⟨rfl, by omega, by omega, y⟩) (by unfold inR; omega) (fun q => by omega)
        have a1' : F1_change d (16 * c + i) f = some (o, d') := a1
        have q1 : rd (mix d' r') 83 1 = rd (mix d r) 83 1 := by
          have := fr_F11_changes (k := 83) (i := 1) (by omega) (by omega) (by omega) (by omega) (by omega) (by omega) (by omega) (by omega) (by omega) (by omega) a2
          exact (rd_eq (mix_r (by omega))).trans ((rd_eq this).trans (rd_eq (mix_r (by omega))).symm)
        obtain ⟨o2, d2, r2, b1', b2', b3, b4, b5⟩ := ih n (i + 1) d' r' (by omega) (by omega) (by omega) a3 (by omega) h5 (by omega)
        refine ⟨o2, d2, r2, ?_, ?_, b3, fun k i x => (b4 k i x).trans (a4 k i x), fun k i x => (b5 k i x).trans (a5 k i x)⟩
        · rw [if_pos (by rw [bz_n]; exact y), formCell_e (by omega) (by omega) (by omega) (by omega), a1', b2_v, w32_id (x := i + 1) (by omega) (by omega)]; exact b1'
        · rw [if_pos (by rw [bz_n]; exact y), gd_t (by omega), w32_id (x := 16 * c) (by omega) (by omega), w32_id (x := 16 * c + i) (by omega) (by omega), a2, b2_v, w32_id (x := i + 1) (by omega) (by omega)]; exact b2'
      · refine ⟨i, d, r, ?_, ?_, h3, fun _ _ _ => rfl, fun _ _ _ => rfl⟩
        · rw [if_neg (by rw [bz_n]; exact y)]
        · rw [if_neg (by rw [bz_n]; exact y)]
    · refine ⟨i, d, r, ?_, ?_, h3, fun _ _ _ => rfl, fun _ _ _ => rfl⟩
      · rw [if_pos (by rw [bz_0]; exact e)]
      · by_cases e2 : p + i < 0
        · rw [if_pos (by rw [lcm_n]; exact e2)]
        · rw [if_neg (by rw [lcm_n]; exact e2), gd_t hs, if_pos (by rw [lcm_p]; omega)]
