theorem F8_num {m : Mem} {w : Int} (hw : w = 2 ∨ w = 3) (h4 : 0 ≤ rd m 1 6) (h5 : rd m 1 6 ≤ 120) (h6 : rd m 1 1 ≤ 120) : ∃ m', F8_number m w = some ((numS m w.toNat (-1) (rd m 1 6)).1, m') ∧ rd m' 1 6 = (numS m w.toNat (-1) (rd m 1 6)).2 ∧ (∀ k i, ¬ (k = 1 ∧ i = 6) → m' k i = m k i) := by
  unfold F8_number
  exact L8_num (w := w) (by omega) w.toNat FU (-1) 0 m (by omega) (by omega) (by rw [FU_eq]; omega) (by unfold bd; omega) (by omega) h4 h5 h6
/-- the needle goes forward, and not past the end -/
theorem numS_p {m : Mem} (h : rd m 1 1 ≤ 120) : ∀ d v p, p ≤ 120 → p ≤ (numS m d v p).2 ∧ (numS m d v p).2 ≤ 120 ∧ (numS m d v p).2 ≤ p + d
  | 0, v, p, hp => ⟨Int.le_refl _, hp, by show p ≤ p + ((0 : Nat) : Int); omega⟩
  | d + 1, v, p, hp => by
    unfold numS
    by_cases a : 48 ≤ sgn m p ∧ sgn m p ≤ 57
    · rw [if_pos a]
      have en := sgn_end (m := m) (p := p) (by omega)
      obtain ⟨x, y, z⟩ := numS_p h d (imx v 0 * 10 + sgn m p - 48) (p + 1) (by omega)
      exact ⟨by omega, y, by omega⟩
    · rw [if_neg a]
      exact ⟨Int.le_refl _, hp, by show p ≤ p + ((d + 1 : Nat) : Int); omega⟩
theorem numS_v {m : Mem} : ∀ d v p, 0 ≤ v → 0 ≤ (numS m d v p).1
  | 0, v, p, h => h
  | d + 1, v, p, h => by
    unfold numS
    by_cases a : 48 ≤ sgn m p ∧ sgn m p ≤ 57
    · rw [if_pos a]
      have : 0 ≤ imx v 0 := by unfold imx; split <;> omega
      exact numS_v d _ _ (by omega)
    · rw [if_neg a]; exact h
/-- read from -1 or from 0: the same number, or none at all -/
theorem numS_z {m : Mem} (h : rd m 1 1 ≤ 120) (d : Nat) (p : Int) (hp : p ≤ 120) : (numS m (d + 1) (-1) p = numS m (d + 1) 0 p ∧ p < (numS m (d + 1) 0 p).2 ∧ 0 ≤ (numS m (d + 1) 0 p).1) ∨ (numS m (d + 1) (-1) p = (-1, p) ∧ numS m (d + 1) 0 p = (0, p)) := by
  unfold numS
  by_cases a : 48 ≤ sgn m p ∧ sgn m p ≤ 57
  · left
    have en := sgn_end (m := m) (p := p) (by omega)
    have i1 : imx (-1) 0 = 0 := by unfold imx; decide
    have i0 : imx 0 0 = 0 := by unfold imx; decide
    rw [if_pos a, if_pos a, i1, i0]
    have := numS_p h d (0 * 10 + sgn m p - 48) (p + 1) (by omega)
    exact ⟨rfl, by omega, numS_v d _ _ (by omega)⟩
  · right
    rw [if_neg a, if_neg a]
    exact ⟨rfl, rfl⟩
