/-! the class's slips by digits (written by gen84.py) -/
def pw (k : Int) : Int := if k = 0 then 1 else if k = 1 then 10 else if k = 2 then 100 else if k = 3 then 1000 else if k = 4 then 10000 else 100000
theorem stv_0 : stv 0 0 = 1 := rfl
theorem stv_1 : stv 0 1 = 10 := rfl
theorem stv_2 : stv 0 2 = 100 := rfl
theorem stv_3 : stv 0 3 = 1000 := rfl
theorem stv_4 : stv 0 4 = 10000 := rfl
theorem stv_5 : stv 0 5 = 100000 := rfl
def ln (a : Int) : Int := if a < 10 then 1 else if a < 100 then 2 else if a < 1000 then 3 else if a < 10000 then 4 else 5
theorem ln_b (a : Int) : 1 ≤ ln a ∧ ln a ≤ 5 := by unfold ln; repeat' split <;> omega
theorem len_e (a : Int) : F7_length a = some (ln a) := by
  obtain ⟨n, hn⟩ : ∃ n, FU = n + 1 + 1 + 1 + 1 + 1 := ⟨99995, rfl⟩
  have st : ∀ (n : Nat) (k : Int), 1 ≤ k → k < 5 → L7_length_2 a (n + 1) k = if a < stv 0 k then some k else L7_length_2 a n (k + 1) := fun n k h0 h1 => by
    rw [L7_length_2, if_neg (by omega), gd_t (by omega), w32_id (x := k + 1) (by omega) (by omega)]
  have e5 : L7_length_2 a (n + 1) 5 = some 5 := by rw [L7_length_2, if_pos (by omega)]
  unfold F7_length ln
  rw [hn, st _ 1 (by omega) (by omega), show (1 : Int) + 1 = 2 from rfl, st _ 2 (by omega) (by omega), show (2 : Int) + 1 = 3 from rfl, st _ 3 (by omega) (by omega), show (3 : Int) + 1 = 4 from rfl, st _ 4 (by omega) (by omega), show (4 : Int) + 1 = 5 from rfl, e5, stv_1, stv_2, stv_3, stv_4]
  by_cases a1 : a < 10
  · rw [if_pos a1, if_pos a1]
  · by_cases a2 : a < 100
    · rw [if_neg a1, if_neg a1, if_pos a2, if_pos a2]
    · by_cases a3 : a < 1000
      · rw [if_neg a1, if_neg a1, if_neg a2, if_neg a2, if_pos a3, if_pos a3]
      · by_cases a4 : a < 10000
        · rw [if_neg a1, if_neg a1, if_neg a2, if_neg a2, if_neg a3, if_neg a3, if_pos a4, if_pos a4]
        · rw [if_neg a1, if_neg a1, if_neg a2, if_neg a2, if_neg a3, if_neg a3, if_neg a4, if_neg a4]
def wv (v l : Int) : Int := if 1 ≤ l ∧ l ≤ 5 ∧ pw (l - 1) ≤ v then v else -1
theorem written_e {v l : Int} (h0 : 0 ≤ l) (h1 : l ≤ 6) : F7_written v l = some (wv v l) := by
  unfold F7_written wv
  rw [jn_v]
  by_cases a : l < 1
  · rw [if_pos a, if_neg (by omega)]
  · rw [if_neg a]
    by_cases b : 5 < l
    · rw [if_pos b, if_neg (by omega)]
    · rw [if_neg b, w32_id (x := l - 1) (by omega) (by omega), gd_t (by omega)]
      have e : stv 0 (l - 1) = pw (l - 1) := by
        rcases (show l = 1 ∨ l = 2 ∨ l = 3 ∨ l = 4 ∨ l = 5 by omega) with rfl | rfl | rfl | rfl | rfl <;> rfl
      rw [e]
      by_cases c : v < pw (l - 1)
      · rw [if_pos c, if_neg (by omega)]
      · rw [if_neg c, if_pos ⟨by omega, by omega, by omega⟩]
theorem twice_0 {a : Int} (h0 : 1 ≤ a) (h1 : a ≤ 99999) : F7_twice a 0 = some ((a / 1 * 10 + a / 1 % 10) * 1 + a % 1) := by
  unfold F7_twice
  rw [gd_t (by omega), stv_0, gd_t (by omega), gd_t (by omega), gd_t (by omega), gd_t (by omega), idv_e (a := a) (b := 1) (by omega) (by omega) (by omega) (by omega), irm_e (a := a / 1) (b := 10) (by omega) (by omega) (by omega) (by omega), irm_e (a := a) (b := 1) (by omega) (by omega) (by omega) (by omega), w32_id (x := a / 1 * 10) (by omega) (by omega), w32_id (x := a / 1 * 10 + a / 1 % 10) (by omega) (by omega), w32_id (x := (a / 1 * 10 + a / 1 % 10) * 1) (by omega) (by omega), w32_id (by omega) (by omega)]
theorem twice_1 {a : Int} (h0 : 1 ≤ a) (h1 : a ≤ 99999) : F7_twice a 1 = some ((a / 10 * 10 + a / 10 % 10) * 10 + a % 10) := by
  unfold F7_twice
  rw [gd_t (by omega), stv_1, gd_t (by omega), gd_t (by omega), gd_t (by omega), gd_t (by omega), idv_e (a := a) (b := 10) (by omega) (by omega) (by omega) (by omega), irm_e (a := a / 10) (b := 10) (by omega) (by omega) (by omega) (by omega), irm_e (a := a) (b := 10) (by omega) (by omega) (by omega) (by omega), w32_id (x := a / 10 * 10) (by omega) (by omega), w32_id (x := a / 10 * 10 + a / 10 % 10) (by omega) (by omega), w32_id (x := (a / 10 * 10 + a / 10 % 10) * 10) (by omega) (by omega), w32_id (by omega) (by omega)]
theorem twice_2 {a : Int} (h0 : 1 ≤ a) (h1 : a ≤ 99999) : F7_twice a 2 = some ((a / 100 * 10 + a / 100 % 10) * 100 + a % 100) := by
  unfold F7_twice
  rw [gd_t (by omega), stv_2, gd_t (by omega), gd_t (by omega), gd_t (by omega), gd_t (by omega), idv_e (a := a) (b := 100) (by omega) (by omega) (by omega) (by omega), irm_e (a := a / 100) (b := 10) (by omega) (by omega) (by omega) (by omega), irm_e (a := a) (b := 100) (by omega) (by omega) (by omega) (by omega), w32_id (x := a / 100 * 10) (by omega) (by omega), w32_id (x := a / 100 * 10 + a / 100 % 10) (by omega) (by omega), w32_id (x := (a / 100 * 10 + a / 100 % 10) * 100) (by omega) (by omega), w32_id (by omega) (by omega)]
theorem twice_3 {a : Int} (h0 : 1 ≤ a) (h1 : a ≤ 99999) : F7_twice a 3 = some ((a / 1000 * 10 + a / 1000 % 10) * 1000 + a % 1000) := by
  unfold F7_twice
  rw [gd_t (by omega), stv_3, gd_t (by omega), gd_t (by omega), gd_t (by omega), gd_t (by omega), idv_e (a := a) (b := 1000) (by omega) (by omega) (by omega) (by omega), irm_e (a := a / 1000) (b := 10) (by omega) (by omega) (by omega) (by omega), irm_e (a := a) (b := 1000) (by omega) (by omega) (by omega) (by omega), w32_id (x := a / 1000 * 10) (by omega) (by omega), w32_id (x := a / 1000 * 10 + a / 1000 % 10) (by omega) (by omega), w32_id (x := (a / 1000 * 10 + a / 1000 % 10) * 1000) (by omega) (by omega), w32_id (by omega) (by omega)]
theorem twice_4 {a : Int} (h0 : 1 ≤ a) (h1 : a ≤ 99999) : F7_twice a 4 = some ((a / 10000 * 10 + a / 10000 % 10) * 10000 + a % 10000) := by
  unfold F7_twice
  rw [gd_t (by omega), stv_4, gd_t (by omega), gd_t (by omega), gd_t (by omega), gd_t (by omega), idv_e (a := a) (b := 10000) (by omega) (by omega) (by omega) (by omega), irm_e (a := a / 10000) (b := 10) (by omega) (by omega) (by omega) (by omega), irm_e (a := a) (b := 10000) (by omega) (by omega) (by omega) (by omega), w32_id (x := a / 10000 * 10) (by omega) (by omega), w32_id (x := a / 10000 * 10 + a / 10000 % 10) (by omega) (by omega), w32_id (x := (a / 10000 * 10 + a / 10000 % 10) * 10000) (by omega) (by omega), w32_id (by omega) (by omega)]
theorem about_0 {a : Int} (h0 : 1 ≤ a) (h1 : a ≤ 99999) : F7_changedAbout a 0 = some (a + (a / 1 % 10 - a / 10 % 10) * 9) := by
  unfold F7_changedAbout
  rw [w32_id (x := (0 : Int) + 1) (by omega) (by omega), show (0 : Int) + 1 = 1 from rfl, gd_t (by omega), stv_0, stv_1, gd_t (by omega), gd_t (by omega), gd_t (by omega), gd_t (by omega), gd_t (by omega), idv_e (a := a) (b := 1) (by omega) (by omega) (by omega) (by omega), idv_e (a := a) (b := 10) (by omega) (by omega) (by omega) (by omega), irm_e (a := a / 1) (b := 10) (by omega) (by omega) (by omega) (by omega), irm_e (a := a / 10) (b := 10) (by omega) (by omega) (by omega) (by omega), w32_id (x := a / 1 % 10 - a / 10 % 10) (by omega) (by omega), w32_id (x := (10 : Int) - 1) (by omega) (by omega), show (10 : Int) - 1 = 9 from rfl, w32_id (x := (a / 1 % 10 - a / 10 % 10) * 9) (by omega) (by omega), w32_id (by omega) (by omega)]
theorem about_1 {a : Int} (h0 : 1 ≤ a) (h1 : a ≤ 99999) : F7_changedAbout a 1 = some (a + (a / 10 % 10 - a / 100 % 10) * 90) := by
  unfold F7_changedAbout
  rw [w32_id (x := (1 : Int) + 1) (by omega) (by omega), show (1 : Int) + 1 = 2 from rfl, gd_t (by omega), stv_1, stv_2, gd_t (by omega), gd_t (by omega), gd_t (by omega), gd_t (by omega), gd_t (by omega), idv_e (a := a) (b := 10) (by omega) (by omega) (by omega) (by omega), idv_e (a := a) (b := 100) (by omega) (by omega) (by omega) (by omega), irm_e (a := a / 10) (b := 10) (by omega) (by omega) (by omega) (by omega), irm_e (a := a / 100) (b := 10) (by omega) (by omega) (by omega) (by omega), w32_id (x := a / 10 % 10 - a / 100 % 10) (by omega) (by omega), w32_id (x := (100 : Int) - 10) (by omega) (by omega), show (100 : Int) - 10 = 90 from rfl, w32_id (x := (a / 10 % 10 - a / 100 % 10) * 90) (by omega) (by omega), w32_id (by omega) (by omega)]
theorem about_2 {a : Int} (h0 : 1 ≤ a) (h1 : a ≤ 99999) : F7_changedAbout a 2 = some (a + (a / 100 % 10 - a / 1000 % 10) * 900) := by
  unfold F7_changedAbout
  rw [w32_id (x := (2 : Int) + 1) (by omega) (by omega), show (2 : Int) + 1 = 3 from rfl, gd_t (by omega), stv_2, stv_3, gd_t (by omega), gd_t (by omega), gd_t (by omega), gd_t (by omega), gd_t (by omega), idv_e (a := a) (b := 100) (by omega) (by omega) (by omega) (by omega), idv_e (a := a) (b := 1000) (by omega) (by omega) (by omega) (by omega), irm_e (a := a / 100) (b := 10) (by omega) (by omega) (by omega) (by omega), irm_e (a := a / 1000) (b := 10) (by omega) (by omega) (by omega) (by omega), w32_id (x := a / 100 % 10 - a / 1000 % 10) (by omega) (by omega), w32_id (x := (1000 : Int) - 100) (by omega) (by omega), show (1000 : Int) - 100 = 900 from rfl, w32_id (x := (a / 100 % 10 - a / 1000 % 10) * 900) (by omega) (by omega), w32_id (by omega) (by omega)]
theorem about_3 {a : Int} (h0 : 1 ≤ a) (h1 : a ≤ 99999) : F7_changedAbout a 3 = some (a + (a / 1000 % 10 - a / 10000 % 10) * 9000) := by
  unfold F7_changedAbout
  rw [w32_id (x := (3 : Int) + 1) (by omega) (by omega), show (3 : Int) + 1 = 4 from rfl, gd_t (by omega), stv_3, stv_4, gd_t (by omega), gd_t (by omega), gd_t (by omega), gd_t (by omega), gd_t (by omega), idv_e (a := a) (b := 1000) (by omega) (by omega) (by omega) (by omega), idv_e (a := a) (b := 10000) (by omega) (by omega) (by omega) (by omega), irm_e (a := a / 1000) (b := 10) (by omega) (by omega) (by omega) (by omega), irm_e (a := a / 10000) (b := 10) (by omega) (by omega) (by omega) (by omega), w32_id (x := a / 1000 % 10 - a / 10000 % 10) (by omega) (by omega), w32_id (x := (10000 : Int) - 1000) (by omega) (by omega), show (10000 : Int) - 1000 = 9000 from rfl, w32_id (x := (a / 1000 % 10 - a / 10000 % 10) * 9000) (by omega) (by omega), w32_id (by omega) (by omega)]
def tb (w d : Int) : Int := if w = 0 then stv 1 d else stv 2 d
theorem tb_t : ∀ d : Fin 10, (-1 ≤ stv 1 ((d : Nat) : Int) ∧ stv 1 ((d : Nat) : Int) < 10) ∧ -1 ≤ stv 2 ((d : Nat) : Int) ∧ stv 2 ((d : Nat) : Int) < 10 := by decide
theorem tb_b {w d : Int} (h0 : 0 ≤ d) (h1 : d < 10) : -1 ≤ tb w d ∧ tb w d < 10 := by
  have := tb_t ⟨d.toNat, by omega⟩
  dsimp only at this
  rw [show ((d.toNat : Nat) : Int) = d by omega] at this
  unfold tb; split
  · exact this.1
  · exact this.2
theorem misread_0 {a w : Int} (h0 : 1 ≤ a) (h1 : a ≤ 99999) : F7_misread a 0 w = some (if 0 ≤ tb w (a / 1 % 10) then a + (tb w (a / 1 % 10) - a / 1 % 10) * 1 else -1) := by
  have b := tb_b (w := w) (d := a / 1 % 10) (by omega) (by omega)
  unfold F7_misread
  rw [gd_t (by omega), stv_0, gd_t (by omega), idv_e (a := a) (b := 1) (by omega) (by omega) (by omega) (by omega), irm_e (a := a / 1) (b := 10) (by omega) (by omega) (by omega) (by omega)]
  have gt : ∀ {α : Type} (y : Option α), gd (0 ≤ a / 1 % 10 ∧ a / 1 % 10 < 10) y = y := fun y => gd_t ⟨by omega, by omega⟩
  have g5 : ∀ {α : Type} (y : Option α), gd ((0 : Int) ≤ 0 ∧ (0 : Int) < 6) y = y := fun y => gd_t ⟨by omega, by omega⟩
  simp only [jn_v, gt, g5]
  have fin : ∀ x : Int, x = tb w (a / 1 % 10) → (if 0 ≤ x then some (w32 (a + w32 (w32 (x - a / 1 % 10) * 1))) else some (-1)) = some (if 0 ≤ tb w (a / 1 % 10) then a + (tb w (a / 1 % 10) - a / 1 % 10) * 1 else -1) := by
    intro x hx
    rw [hx]
    by_cases z : 0 ≤ tb w (a / 1 % 10)
    · rw [if_pos z, if_pos z, w32_id (x := tb w (a / 1 % 10) - a / 1 % 10) (by omega) (by omega), w32_id (x := (tb w (a / 1 % 10) - a / 1 % 10) * 1) (by omega) (by omega), w32_id (by omega) (by omega)]
    · rw [if_neg z, if_neg z]
  by_cases z : w = 0
  · rw [if_neg (by omega)]; exact fin _ (by unfold tb; rw [if_pos z])
  · rw [if_pos z]; exact fin _ (by unfold tb; rw [if_neg z])
theorem misread_1 {a w : Int} (h0 : 1 ≤ a) (h1 : a ≤ 99999) : F7_misread a 1 w = some (if 0 ≤ tb w (a / 10 % 10) then a + (tb w (a / 10 % 10) - a / 10 % 10) * 10 else -1) := by
  have b := tb_b (w := w) (d := a / 10 % 10) (by omega) (by omega)
  unfold F7_misread
  rw [gd_t (by omega), stv_1, gd_t (by omega), idv_e (a := a) (b := 10) (by omega) (by omega) (by omega) (by omega), irm_e (a := a / 10) (b := 10) (by omega) (by omega) (by omega) (by omega)]
  have gt : ∀ {α : Type} (y : Option α), gd (0 ≤ a / 10 % 10 ∧ a / 10 % 10 < 10) y = y := fun y => gd_t ⟨by omega, by omega⟩
  have g5 : ∀ {α : Type} (y : Option α), gd ((0 : Int) ≤ 1 ∧ (1 : Int) < 6) y = y := fun y => gd_t ⟨by omega, by omega⟩
  simp only [jn_v, gt, g5]
  have fin : ∀ x : Int, x = tb w (a / 10 % 10) → (if 0 ≤ x then some (w32 (a + w32 (w32 (x - a / 10 % 10) * 10))) else some (-1)) = some (if 0 ≤ tb w (a / 10 % 10) then a + (tb w (a / 10 % 10) - a / 10 % 10) * 10 else -1) := by
    intro x hx
    rw [hx]
    by_cases z : 0 ≤ tb w (a / 10 % 10)
    · rw [if_pos z, if_pos z, w32_id (x := tb w (a / 10 % 10) - a / 10 % 10) (by omega) (by omega), w32_id (x := (tb w (a / 10 % 10) - a / 10 % 10) * 10) (by omega) (by omega), w32_id (by omega) (by omega)]
    · rw [if_neg z, if_neg z]
  by_cases z : w = 0
  · rw [if_neg (by omega)]; exact fin _ (by unfold tb; rw [if_pos z])
  · rw [if_pos z]; exact fin _ (by unfold tb; rw [if_neg z])
theorem misread_2 {a w : Int} (h0 : 1 ≤ a) (h1 : a ≤ 99999) : F7_misread a 2 w = some (if 0 ≤ tb w (a / 100 % 10) then a + (tb w (a / 100 % 10) - a / 100 % 10) * 100 else -1) := by
  have b := tb_b (w := w) (d := a / 100 % 10) (by omega) (by omega)
  unfold F7_misread
  rw [gd_t (by omega), stv_2, gd_t (by omega), idv_e (a := a) (b := 100) (by omega) (by omega) (by omega) (by omega), irm_e (a := a / 100) (b := 10) (by omega) (by omega) (by omega) (by omega)]
  have gt : ∀ {α : Type} (y : Option α), gd (0 ≤ a / 100 % 10 ∧ a / 100 % 10 < 10) y = y := fun y => gd_t ⟨by omega, by omega⟩
  have g5 : ∀ {α : Type} (y : Option α), gd ((0 : Int) ≤ 2 ∧ (2 : Int) < 6) y = y := fun y => gd_t ⟨by omega, by omega⟩
  simp only [jn_v, gt, g5]
  have fin : ∀ x : Int, x = tb w (a / 100 % 10) → (if 0 ≤ x then some (w32 (a + w32 (w32 (x - a / 100 % 10) * 100))) else some (-1)) = some (if 0 ≤ tb w (a / 100 % 10) then a + (tb w (a / 100 % 10) - a / 100 % 10) * 100 else -1) := by
    intro x hx
    rw [hx]
    by_cases z : 0 ≤ tb w (a / 100 % 10)
    · rw [if_pos z, if_pos z, w32_id (x := tb w (a / 100 % 10) - a / 100 % 10) (by omega) (by omega), w32_id (x := (tb w (a / 100 % 10) - a / 100 % 10) * 100) (by omega) (by omega), w32_id (by omega) (by omega)]
    · rw [if_neg z, if_neg z]
  by_cases z : w = 0
  · rw [if_neg (by omega)]; exact fin _ (by unfold tb; rw [if_pos z])
  · rw [if_pos z]; exact fin _ (by unfold tb; rw [if_neg z])
theorem misread_3 {a w : Int} (h0 : 1 ≤ a) (h1 : a ≤ 99999) : F7_misread a 3 w = some (if 0 ≤ tb w (a / 1000 % 10) then a + (tb w (a / 1000 % 10) - a / 1000 % 10) * 1000 else -1) := by
  have b := tb_b (w := w) (d := a / 1000 % 10) (by omega) (by omega)
  unfold F7_misread
  rw [gd_t (by omega), stv_3, gd_t (by omega), idv_e (a := a) (b := 1000) (by omega) (by omega) (by omega) (by omega), irm_e (a := a / 1000) (b := 10) (by omega) (by omega) (by omega) (by omega)]
  have gt : ∀ {α : Type} (y : Option α), gd (0 ≤ a / 1000 % 10 ∧ a / 1000 % 10 < 10) y = y := fun y => gd_t ⟨by omega, by omega⟩
  have g5 : ∀ {α : Type} (y : Option α), gd ((0 : Int) ≤ 3 ∧ (3 : Int) < 6) y = y := fun y => gd_t ⟨by omega, by omega⟩
  simp only [jn_v, gt, g5]
  have fin : ∀ x : Int, x = tb w (a / 1000 % 10) → (if 0 ≤ x then some (w32 (a + w32 (w32 (x - a / 1000 % 10) * 1000))) else some (-1)) = some (if 0 ≤ tb w (a / 1000 % 10) then a + (tb w (a / 1000 % 10) - a / 1000 % 10) * 1000 else -1) := by
    intro x hx
    rw [hx]
    by_cases z : 0 ≤ tb w (a / 1000 % 10)
    · rw [if_pos z, if_pos z, w32_id (x := tb w (a / 1000 % 10) - a / 1000 % 10) (by omega) (by omega), w32_id (x := (tb w (a / 1000 % 10) - a / 1000 % 10) * 1000) (by omega) (by omega), w32_id (by omega) (by omega)]
    · rw [if_neg z, if_neg z]
  by_cases z : w = 0
  · rw [if_neg (by omega)]; exact fin _ (by unfold tb; rw [if_pos z])
  · rw [if_pos z]; exact fin _ (by unfold tb; rw [if_neg z])
theorem misread_4 {a w : Int} (h0 : 1 ≤ a) (h1 : a ≤ 99999) : F7_misread a 4 w = some (if 0 ≤ tb w (a / 10000 % 10) then a + (tb w (a / 10000 % 10) - a / 10000 % 10) * 10000 else -1) := by
  have b := tb_b (w := w) (d := a / 10000 % 10) (by omega) (by omega)
  unfold F7_misread
  rw [gd_t (by omega), stv_4, gd_t (by omega), idv_e (a := a) (b := 10000) (by omega) (by omega) (by omega) (by omega), irm_e (a := a / 10000) (b := 10) (by omega) (by omega) (by omega) (by omega)]
  have gt : ∀ {α : Type} (y : Option α), gd (0 ≤ a / 10000 % 10 ∧ a / 10000 % 10 < 10) y = y := fun y => gd_t ⟨by omega, by omega⟩
  have g5 : ∀ {α : Type} (y : Option α), gd ((0 : Int) ≤ 4 ∧ (4 : Int) < 6) y = y := fun y => gd_t ⟨by omega, by omega⟩
  simp only [jn_v, gt, g5]
  have fin : ∀ x : Int, x = tb w (a / 10000 % 10) → (if 0 ≤ x then some (w32 (a + w32 (w32 (x - a / 10000 % 10) * 10000))) else some (-1)) = some (if 0 ≤ tb w (a / 10000 % 10) then a + (tb w (a / 10000 % 10) - a / 10000 % 10) * 10000 else -1) := by
    intro x hx
    rw [hx]
    by_cases z : 0 ≤ tb w (a / 10000 % 10)
    · rw [if_pos z, if_pos z, w32_id (x := tb w (a / 10000 % 10) - a / 10000 % 10) (by omega) (by omega), w32_id (x := (tb w (a / 10000 % 10) - a / 10000 % 10) * 10000) (by omega) (by omega), w32_id (by omega) (by omega)]
    · rw [if_neg z, if_neg z]
  by_cases z : w = 0
  · rw [if_neg (by omega)]; exact fin _ (by unfold tb; rw [if_pos z])
  · rw [if_pos z]; exact fin _ (by unfold tb; rw [if_neg z])
theorem gx_0 {a : Int} (h0 : 1 ≤ a) (h1 : a ≤ 99999) : F7_grown a 0 = some (if ln a ≤ 0 then -1 else wv (a / 10 * 1 + a % 1) (ln a - 1)) := by
  have l := ln_b a
  unfold F7_grown
  rw [len_e, b1_v]
  rw [if_pos (show F7_kindOf 0 = 1 by decide)]
  by_cases z : ln a ≤ 0
  · rw [if_pos z, if_pos z]
  · rw [if_neg z, if_neg z, w32_id (x := (0 : Int) + 1) (by omega) (by omega), show (0 : Int) + 1 = 1 from rfl, gd_t (by omega), stv_1, gd_t (by omega), gd_t (by omega), gd_t (by omega), stv_0, gd_t (by omega), idv_e (a := a) (b := 10) (by omega) (by omega) (by omega) (by omega), irm_e (a := a) (b := 1) (by omega) (by omega) (by omega) (by omega), w32_id (x := a / 10 * 1) (by omega) (by omega), w32_id (x := a / 10 * 1 + a % 1) (by omega) (by omega), w32_id (x := ln a - 1) (by omega) (by omega), written_e (by omega) (by omega), b1_v]
theorem gx_1 {a : Int} (h0 : 1 ≤ a) (h1 : a ≤ 99999) : F7_grown a 1 = some (if ln a ≤ 1 then -1 else wv (a / 100 * 10 + a % 10) (ln a - 1)) := by
  have l := ln_b a
  unfold F7_grown
  rw [len_e, b1_v]
  rw [if_pos (show F7_kindOf 1 = 1 by decide)]
  by_cases z : ln a ≤ 1
  · rw [if_pos z, if_pos z]
  · rw [if_neg z, if_neg z, w32_id (x := (1 : Int) + 1) (by omega) (by omega), show (1 : Int) + 1 = 2 from rfl, gd_t (by omega), stv_2, gd_t (by omega), gd_t (by omega), gd_t (by omega), stv_1, gd_t (by omega), idv_e (a := a) (b := 100) (by omega) (by omega) (by omega) (by omega), irm_e (a := a) (b := 10) (by omega) (by omega) (by omega) (by omega), w32_id (x := a / 100 * 10) (by omega) (by omega), w32_id (x := a / 100 * 10 + a % 10) (by omega) (by omega), w32_id (x := ln a - 1) (by omega) (by omega), written_e (by omega) (by omega), b1_v]
theorem gx_2 {a : Int} (h0 : 1 ≤ a) (h1 : a ≤ 99999) : F7_grown a 2 = some (if ln a ≤ 2 then -1 else wv (a / 1000 * 100 + a % 100) (ln a - 1)) := by
  have l := ln_b a
  unfold F7_grown
  rw [len_e, b1_v]
  rw [if_pos (show F7_kindOf 2 = 1 by decide)]
  by_cases z : ln a ≤ 2
  · rw [if_pos z, if_pos z]
  · rw [if_neg z, if_neg z, w32_id (x := (2 : Int) + 1) (by omega) (by omega), show (2 : Int) + 1 = 3 from rfl, gd_t (by omega), stv_3, gd_t (by omega), gd_t (by omega), gd_t (by omega), stv_2, gd_t (by omega), idv_e (a := a) (b := 1000) (by omega) (by omega) (by omega) (by omega), irm_e (a := a) (b := 100) (by omega) (by omega) (by omega) (by omega), w32_id (x := a / 1000 * 100) (by omega) (by omega), w32_id (x := a / 1000 * 100 + a % 100) (by omega) (by omega), w32_id (x := ln a - 1) (by omega) (by omega), written_e (by omega) (by omega), b1_v]
theorem gx_3 {a : Int} (h0 : 1 ≤ a) (h1 : a ≤ 99999) : F7_grown a 3 = some (if ln a ≤ 3 then -1 else wv (a / 10000 * 1000 + a % 1000) (ln a - 1)) := by
  have l := ln_b a
  unfold F7_grown
  rw [len_e, b1_v]
  rw [if_pos (show F7_kindOf 3 = 1 by decide)]
  by_cases z : ln a ≤ 3
  · rw [if_pos z, if_pos z]
  · rw [if_neg z, if_neg z, w32_id (x := (3 : Int) + 1) (by omega) (by omega), show (3 : Int) + 1 = 4 from rfl, gd_t (by omega), stv_4, gd_t (by omega), gd_t (by omega), gd_t (by omega), stv_3, gd_t (by omega), idv_e (a := a) (b := 10000) (by omega) (by omega) (by omega) (by omega), irm_e (a := a) (b := 1000) (by omega) (by omega) (by omega) (by omega), w32_id (x := a / 10000 * 1000) (by omega) (by omega), w32_id (x := a / 10000 * 1000 + a % 1000) (by omega) (by omega), w32_id (x := ln a - 1) (by omega) (by omega), written_e (by omega) (by omega), b1_v]
theorem gx_4 {a : Int} (h0 : 1 ≤ a) (h1 : a ≤ 99999) : F7_grown a 4 = some (if ln a ≤ 4 then -1 else wv (a / 100000 * 10000 + a % 10000) (ln a - 1)) := by
  have l := ln_b a
  unfold F7_grown
  rw [len_e, b1_v]
  rw [if_pos (show F7_kindOf 4 = 1 by decide)]
  by_cases z : ln a ≤ 4
  · rw [if_pos z, if_pos z]
  · rw [if_neg z, if_neg z, w32_id (x := (4 : Int) + 1) (by omega) (by omega), show (4 : Int) + 1 = 5 from rfl, gd_t (by omega), stv_5, gd_t (by omega), gd_t (by omega), gd_t (by omega), stv_4, gd_t (by omega), idv_e (a := a) (b := 100000) (by omega) (by omega) (by omega) (by omega), irm_e (a := a) (b := 10000) (by omega) (by omega) (by omega) (by omega), w32_id (x := a / 100000 * 10000) (by omega) (by omega), w32_id (x := a / 100000 * 10000 + a % 10000) (by omega) (by omega), w32_id (x := ln a - 1) (by omega) (by omega), written_e (by omega) (by omega), b1_v]
theorem gx_5 {a : Int} (h0 : 1 ≤ a) (h1 : a ≤ 99999) : F7_grown a 5 = some (if ln a ≤ 0 then -1 else wv ((a / 1 * 10 + a / 1 % 10) * 1 + a % 1) (ln a + 1)) := by
  have l := ln_b a
  unfold F7_grown
  rw [len_e, b1_v]
  rw [if_neg (show ¬ F7_kindOf 5 = 1 by decide), if_pos (show F7_kindOf 5 = 2 by decide), w32_id (x := (5 : Int) - 5) (by omega) (by omega), show (5 : Int) - 5 = 0 from rfl]
  by_cases z : ln a ≤ 0
  · rw [if_pos z, if_pos z]
  · rw [if_neg z, if_neg z, twice_0 h0 h1, b1_v, w32_id (x := ln a + 1) (by omega) (by omega), written_e (by omega) (by omega), b1_v]
theorem gx_6 {a : Int} (h0 : 1 ≤ a) (h1 : a ≤ 99999) : F7_grown a 6 = some (if ln a ≤ 1 then -1 else wv ((a / 10 * 10 + a / 10 % 10) * 10 + a % 10) (ln a + 1)) := by
  have l := ln_b a
  unfold F7_grown
  rw [len_e, b1_v]
  rw [if_neg (show ¬ F7_kindOf 6 = 1 by decide), if_pos (show F7_kindOf 6 = 2 by decide), w32_id (x := (6 : Int) - 5) (by omega) (by omega), show (6 : Int) - 5 = 1 from rfl]
  by_cases z : ln a ≤ 1
  · rw [if_pos z, if_pos z]
  · rw [if_neg z, if_neg z, twice_1 h0 h1, b1_v, w32_id (x := ln a + 1) (by omega) (by omega), written_e (by omega) (by omega), b1_v]
theorem gx_7 {a : Int} (h0 : 1 ≤ a) (h1 : a ≤ 99999) : F7_grown a 7 = some (if ln a ≤ 2 then -1 else wv ((a / 100 * 10 + a / 100 % 10) * 100 + a % 100) (ln a + 1)) := by
  have l := ln_b a
  unfold F7_grown
  rw [len_e, b1_v]
  rw [if_neg (show ¬ F7_kindOf 7 = 1 by decide), if_pos (show F7_kindOf 7 = 2 by decide), w32_id (x := (7 : Int) - 5) (by omega) (by omega), show (7 : Int) - 5 = 2 from rfl]
  by_cases z : ln a ≤ 2
  · rw [if_pos z, if_pos z]
  · rw [if_neg z, if_neg z, twice_2 h0 h1, b1_v, w32_id (x := ln a + 1) (by omega) (by omega), written_e (by omega) (by omega), b1_v]
theorem gx_8 {a : Int} (h0 : 1 ≤ a) (h1 : a ≤ 99999) : F7_grown a 8 = some (if ln a ≤ 3 then -1 else wv ((a / 1000 * 10 + a / 1000 % 10) * 1000 + a % 1000) (ln a + 1)) := by
  have l := ln_b a
  unfold F7_grown
  rw [len_e, b1_v]
  rw [if_neg (show ¬ F7_kindOf 8 = 1 by decide), if_pos (show F7_kindOf 8 = 2 by decide), w32_id (x := (8 : Int) - 5) (by omega) (by omega), show (8 : Int) - 5 = 3 from rfl]
  by_cases z : ln a ≤ 3
  · rw [if_pos z, if_pos z]
  · rw [if_neg z, if_neg z, twice_3 h0 h1, b1_v, w32_id (x := ln a + 1) (by omega) (by omega), written_e (by omega) (by omega), b1_v]
theorem gx_9 {a : Int} (h0 : 1 ≤ a) (h1 : a ≤ 99999) : F7_grown a 9 = some (if ln a ≤ 4 then -1 else wv ((a / 10000 * 10 + a / 10000 % 10) * 10000 + a % 10000) (ln a + 1)) := by
  have l := ln_b a
  unfold F7_grown
  rw [len_e, b1_v]
  rw [if_neg (show ¬ F7_kindOf 9 = 1 by decide), if_pos (show F7_kindOf 9 = 2 by decide), w32_id (x := (9 : Int) - 5) (by omega) (by omega), show (9 : Int) - 5 = 4 from rfl]
  by_cases z : ln a ≤ 4
  · rw [if_pos z, if_pos z]
  · rw [if_neg z, if_neg z, twice_4 h0 h1, b1_v, w32_id (x := ln a + 1) (by omega) (by omega), written_e (by omega) (by omega), b1_v]
theorem gx_10 {a : Int} (h0 : 1 ≤ a) (h1 : a ≤ 99999) : F7_grown a 10 = some (if ln a ≤ 1 then -1 else wv (a + (a / 1 % 10 - a / 10 % 10) * 9) (ln a)) := by
  have l := ln_b a
  unfold F7_grown
  rw [len_e, b1_v]
  rw [if_neg (show ¬ F7_kindOf 10 = 1 by decide), if_neg (show ¬ F7_kindOf 10 = 2 by decide), if_pos (show F7_kindOf 10 = 3 by decide), w32_id (x := (10 : Int) - 9) (by omega) (by omega), show (10 : Int) - 9 = 1 from rfl, w32_id (x := (10 : Int) - 10) (by omega) (by omega), show (10 : Int) - 10 = 0 from rfl]
  by_cases z : ln a ≤ 1
  · rw [if_pos z, if_pos z]
  · rw [if_neg z, if_neg z, about_0 h0 h1, b1_v, written_e (by omega) (by omega), b1_v]
theorem gx_11 {a : Int} (h0 : 1 ≤ a) (h1 : a ≤ 99999) : F7_grown a 11 = some (if ln a ≤ 2 then -1 else wv (a + (a / 10 % 10 - a / 100 % 10) * 90) (ln a)) := by
  have l := ln_b a
  unfold F7_grown
  rw [len_e, b1_v]
  rw [if_neg (show ¬ F7_kindOf 11 = 1 by decide), if_neg (show ¬ F7_kindOf 11 = 2 by decide), if_pos (show F7_kindOf 11 = 3 by decide), w32_id (x := (11 : Int) - 9) (by omega) (by omega), show (11 : Int) - 9 = 2 from rfl, w32_id (x := (11 : Int) - 10) (by omega) (by omega), show (11 : Int) - 10 = 1 from rfl]
  by_cases z : ln a ≤ 2
  · rw [if_pos z, if_pos z]
  · rw [if_neg z, if_neg z, about_1 h0 h1, b1_v, written_e (by omega) (by omega), b1_v]
theorem gx_12 {a : Int} (h0 : 1 ≤ a) (h1 : a ≤ 99999) : F7_grown a 12 = some (if ln a ≤ 3 then -1 else wv (a + (a / 100 % 10 - a / 1000 % 10) * 900) (ln a)) := by
  have l := ln_b a
  unfold F7_grown
  rw [len_e, b1_v]
  rw [if_neg (show ¬ F7_kindOf 12 = 1 by decide), if_neg (show ¬ F7_kindOf 12 = 2 by decide), if_pos (show F7_kindOf 12 = 3 by decide), w32_id (x := (12 : Int) - 9) (by omega) (by omega), show (12 : Int) - 9 = 3 from rfl, w32_id (x := (12 : Int) - 10) (by omega) (by omega), show (12 : Int) - 10 = 2 from rfl]
  by_cases z : ln a ≤ 3
  · rw [if_pos z, if_pos z]
  · rw [if_neg z, if_neg z, about_2 h0 h1, b1_v, written_e (by omega) (by omega), b1_v]
theorem gx_13 {a : Int} (h0 : 1 ≤ a) (h1 : a ≤ 99999) : F7_grown a 13 = some (if ln a ≤ 4 then -1 else wv (a + (a / 1000 % 10 - a / 10000 % 10) * 9000) (ln a)) := by
  have l := ln_b a
  unfold F7_grown
  rw [len_e, b1_v]
  rw [if_neg (show ¬ F7_kindOf 13 = 1 by decide), if_neg (show ¬ F7_kindOf 13 = 2 by decide), if_pos (show F7_kindOf 13 = 3 by decide), w32_id (x := (13 : Int) - 9) (by omega) (by omega), show (13 : Int) - 9 = 4 from rfl, w32_id (x := (13 : Int) - 10) (by omega) (by omega), show (13 : Int) - 10 = 3 from rfl]
  by_cases z : ln a ≤ 4
  · rw [if_pos z, if_pos z]
  · rw [if_neg z, if_neg z, about_3 h0 h1, b1_v, written_e (by omega) (by omega), b1_v]
theorem gx_14 {a : Int} (h0 : 1 ≤ a) (h1 : a ≤ 99999) : F7_grown a 14 = some (if ln a ≤ 0 then -1 else wv (if 0 ≤ tb 0 (a / 1 % 10) then a + (tb 0 (a / 1 % 10) - a / 1 % 10) * 1 else -1) (ln a)) := by
  have l := ln_b a
  unfold F7_grown
  rw [len_e, b1_v]
  rw [if_neg (show ¬ F7_kindOf 14 = 1 by decide), if_neg (show ¬ F7_kindOf 14 = 2 by decide), if_neg (show ¬ F7_kindOf 14 = 3 by decide), show idv (w32 ((14 : Int) - 14)) 2 = 0 by decide +kernel, show irm (14 : Int) 2 = 0 by decide +kernel]
  by_cases z : ln a ≤ 0
  · rw [if_pos z, if_pos z]
  · rw [if_neg z, if_neg z, misread_0 h0 h1, b1_v, written_e (by omega) (by omega), b1_v]
theorem gx_15 {a : Int} (h0 : 1 ≤ a) (h1 : a ≤ 99999) : F7_grown a 15 = some (if ln a ≤ 0 then -1 else wv (if 0 ≤ tb 1 (a / 1 % 10) then a + (tb 1 (a / 1 % 10) - a / 1 % 10) * 1 else -1) (ln a)) := by
  have l := ln_b a
  unfold F7_grown
  rw [len_e, b1_v]
  rw [if_neg (show ¬ F7_kindOf 15 = 1 by decide), if_neg (show ¬ F7_kindOf 15 = 2 by decide), if_neg (show ¬ F7_kindOf 15 = 3 by decide), show idv (w32 ((15 : Int) - 14)) 2 = 0 by decide +kernel, show irm (15 : Int) 2 = 1 by decide +kernel]
  by_cases z : ln a ≤ 0
  · rw [if_pos z, if_pos z]
  · rw [if_neg z, if_neg z, misread_0 h0 h1, b1_v, written_e (by omega) (by omega), b1_v]
theorem gx_16 {a : Int} (h0 : 1 ≤ a) (h1 : a ≤ 99999) : F7_grown a 16 = some (if ln a ≤ 1 then -1 else wv (if 0 ≤ tb 0 (a / 10 % 10) then a + (tb 0 (a / 10 % 10) - a / 10 % 10) * 10 else -1) (ln a)) := by
  have l := ln_b a
  unfold F7_grown
  rw [len_e, b1_v]
  rw [if_neg (show ¬ F7_kindOf 16 = 1 by decide), if_neg (show ¬ F7_kindOf 16 = 2 by decide), if_neg (show ¬ F7_kindOf 16 = 3 by decide), show idv (w32 ((16 : Int) - 14)) 2 = 1 by decide +kernel, show irm (16 : Int) 2 = 0 by decide +kernel]
  by_cases z : ln a ≤ 1
  · rw [if_pos z, if_pos z]
  · rw [if_neg z, if_neg z, misread_1 h0 h1, b1_v, written_e (by omega) (by omega), b1_v]
theorem gx_17 {a : Int} (h0 : 1 ≤ a) (h1 : a ≤ 99999) : F7_grown a 17 = some (if ln a ≤ 1 then -1 else wv (if 0 ≤ tb 1 (a / 10 % 10) then a + (tb 1 (a / 10 % 10) - a / 10 % 10) * 10 else -1) (ln a)) := by
  have l := ln_b a
  unfold F7_grown
  rw [len_e, b1_v]
  rw [if_neg (show ¬ F7_kindOf 17 = 1 by decide), if_neg (show ¬ F7_kindOf 17 = 2 by decide), if_neg (show ¬ F7_kindOf 17 = 3 by decide), show idv (w32 ((17 : Int) - 14)) 2 = 1 by decide +kernel, show irm (17 : Int) 2 = 1 by decide +kernel]
  by_cases z : ln a ≤ 1
  · rw [if_pos z, if_pos z]
  · rw [if_neg z, if_neg z, misread_1 h0 h1, b1_v, written_e (by omega) (by omega), b1_v]
theorem gx_18 {a : Int} (h0 : 1 ≤ a) (h1 : a ≤ 99999) : F7_grown a 18 = some (if ln a ≤ 2 then -1 else wv (if 0 ≤ tb 0 (a / 100 % 10) then a + (tb 0 (a / 100 % 10) - a / 100 % 10) * 100 else -1) (ln a)) := by
  have l := ln_b a
  unfold F7_grown
  rw [len_e, b1_v]
  rw [if_neg (show ¬ F7_kindOf 18 = 1 by decide), if_neg (show ¬ F7_kindOf 18 = 2 by decide), if_neg (show ¬ F7_kindOf 18 = 3 by decide), show idv (w32 ((18 : Int) - 14)) 2 = 2 by decide +kernel, show irm (18 : Int) 2 = 0 by decide +kernel]
  by_cases z : ln a ≤ 2
  · rw [if_pos z, if_pos z]
  · rw [if_neg z, if_neg z, misread_2 h0 h1, b1_v, written_e (by omega) (by omega), b1_v]
theorem gx_19 {a : Int} (h0 : 1 ≤ a) (h1 : a ≤ 99999) : F7_grown a 19 = some (if ln a ≤ 2 then -1 else wv (if 0 ≤ tb 1 (a / 100 % 10) then a + (tb 1 (a / 100 % 10) - a / 100 % 10) * 100 else -1) (ln a)) := by
  have l := ln_b a
  unfold F7_grown
  rw [len_e, b1_v]
  rw [if_neg (show ¬ F7_kindOf 19 = 1 by decide), if_neg (show ¬ F7_kindOf 19 = 2 by decide), if_neg (show ¬ F7_kindOf 19 = 3 by decide), show idv (w32 ((19 : Int) - 14)) 2 = 2 by decide +kernel, show irm (19 : Int) 2 = 1 by decide +kernel]
  by_cases z : ln a ≤ 2
  · rw [if_pos z, if_pos z]
  · rw [if_neg z, if_neg z, misread_2 h0 h1, b1_v, written_e (by omega) (by omega), b1_v]
theorem gx_20 {a : Int} (h0 : 1 ≤ a) (h1 : a ≤ 99999) : F7_grown a 20 = some (if ln a ≤ 3 then -1 else wv (if 0 ≤ tb 0 (a / 1000 % 10) then a + (tb 0 (a / 1000 % 10) - a / 1000 % 10) * 1000 else -1) (ln a)) := by
  have l := ln_b a
  unfold F7_grown
  rw [len_e, b1_v]
  rw [if_neg (show ¬ F7_kindOf 20 = 1 by decide), if_neg (show ¬ F7_kindOf 20 = 2 by decide), if_neg (show ¬ F7_kindOf 20 = 3 by decide), show idv (w32 ((20 : Int) - 14)) 2 = 3 by decide +kernel, show irm (20 : Int) 2 = 0 by decide +kernel]
  by_cases z : ln a ≤ 3
  · rw [if_pos z, if_pos z]
  · rw [if_neg z, if_neg z, misread_3 h0 h1, b1_v, written_e (by omega) (by omega), b1_v]
theorem gx_21 {a : Int} (h0 : 1 ≤ a) (h1 : a ≤ 99999) : F7_grown a 21 = some (if ln a ≤ 3 then -1 else wv (if 0 ≤ tb 1 (a / 1000 % 10) then a + (tb 1 (a / 1000 % 10) - a / 1000 % 10) * 1000 else -1) (ln a)) := by
  have l := ln_b a
  unfold F7_grown
  rw [len_e, b1_v]
  rw [if_neg (show ¬ F7_kindOf 21 = 1 by decide), if_neg (show ¬ F7_kindOf 21 = 2 by decide), if_neg (show ¬ F7_kindOf 21 = 3 by decide), show idv (w32 ((21 : Int) - 14)) 2 = 3 by decide +kernel, show irm (21 : Int) 2 = 1 by decide +kernel]
  by_cases z : ln a ≤ 3
  · rw [if_pos z, if_pos z]
  · rw [if_neg z, if_neg z, misread_3 h0 h1, b1_v, written_e (by omega) (by omega), b1_v]
theorem gx_22 {a : Int} (h0 : 1 ≤ a) (h1 : a ≤ 99999) : F7_grown a 22 = some (if ln a ≤ 4 then -1 else wv (if 0 ≤ tb 0 (a / 10000 % 10) then a + (tb 0 (a / 10000 % 10) - a / 10000 % 10) * 10000 else -1) (ln a)) := by
  have l := ln_b a
  unfold F7_grown
  rw [len_e, b1_v]
  rw [if_neg (show ¬ F7_kindOf 22 = 1 by decide), if_neg (show ¬ F7_kindOf 22 = 2 by decide), if_neg (show ¬ F7_kindOf 22 = 3 by decide), show idv (w32 ((22 : Int) - 14)) 2 = 4 by decide +kernel, show irm (22 : Int) 2 = 0 by decide +kernel]
  by_cases z : ln a ≤ 4
  · rw [if_pos z, if_pos z]
  · rw [if_neg z, if_neg z, misread_4 h0 h1, b1_v, written_e (by omega) (by omega), b1_v]
theorem gx_23 {a : Int} (h0 : 1 ≤ a) (h1 : a ≤ 99999) : F7_grown a 23 = some (if ln a ≤ 4 then -1 else wv (if 0 ≤ tb 1 (a / 10000 % 10) then a + (tb 1 (a / 10000 % 10) - a / 10000 % 10) * 10000 else -1) (ln a)) := by
  have l := ln_b a
  unfold F7_grown
  rw [len_e, b1_v]
  rw [if_neg (show ¬ F7_kindOf 23 = 1 by decide), if_neg (show ¬ F7_kindOf 23 = 2 by decide), if_neg (show ¬ F7_kindOf 23 = 3 by decide), show idv (w32 ((23 : Int) - 14)) 2 = 4 by decide +kernel, show irm (23 : Int) 2 = 1 by decide +kernel]
  by_cases z : ln a ≤ 4
  · rw [if_pos z, if_pos z]
  · rw [if_neg z, if_neg z, misread_4 h0 h1, b1_v, written_e (by omega) (by omega), b1_v]
