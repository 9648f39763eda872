/-! numbers by their digits, the first one first -/
def vla : Int → List Int → Int
  | v, [] => v
  | v, d :: ds => vla (10 * v + d) ds
def vl (ds : List Int) : Int := vla 0 ds
def dgs (ds : List Int) : Prop := ∀ d ∈ ds, 0 ≤ d ∧ d < 10
def vd (ds : List Int) : Bool := decide (1 ≤ ds.length) && decide (ds.length ≤ 5) && decide (ds.headD 0 ≠ 0)
def dgt (a : Int) : List Int := if a < 10 then [a] else if a < 100 then [a / 10, a % 10] else if a < 1000 then [a / 100, a / 10 % 10, a % 10] else if a < 10000 then [a / 1000, a / 100 % 10, a / 10 % 10, a % 10] else [a / 10000, a / 1000 % 10, a / 100 % 10, a / 10 % 10, a % 10]
/-- one to five digits, the first not 0 -/
theorem vd_cases {ds : List Int} (h : vd ds = true) (hd : dgs ds) : (∃ a, ds = [a] ∧ 0 < a ∧ a < 10) ∨ (∃ a b, ds = [a, b] ∧ (0 < a ∧ a < 10) ∧ 0 ≤ b ∧ b < 10) ∨ (∃ a b c, ds = [a, b, c] ∧ (0 < a ∧ a < 10) ∧ (0 ≤ b ∧ b < 10) ∧ 0 ≤ c ∧ c < 10) ∨ (∃ a b c d, ds = [a, b, c, d] ∧ (0 < a ∧ a < 10) ∧ (0 ≤ b ∧ b < 10) ∧ (0 ≤ c ∧ c < 10) ∧ 0 ≤ d ∧ d < 10) ∨ (∃ a b c d e, ds = [a, b, c, d, e] ∧ (0 < a ∧ a < 10) ∧ (0 ≤ b ∧ b < 10) ∧ (0 ≤ c ∧ c < 10) ∧ (0 ≤ d ∧ d < 10) ∧ 0 ≤ e ∧ e < 10) := by
  unfold vd at h
  rw [Bool.and_eq_true, Bool.and_eq_true, decide_eq_true_iff, decide_eq_true_iff, decide_eq_true_iff] at h
  obtain ⟨⟨h1, h2⟩, h3⟩ := h
  match ds, h1, h2, h3, hd with
  | [], h1, _, _, _ => exact absurd h1 (by decide)
  | [a], _, _, h3, hd =>
    have := hd a (by simp)
    have h3' : a ≠ 0 := h3
    exact Or.inl ⟨a, rfl, by omega, this.2⟩
  | [a, b], _, _, h3, hd =>
    have x := hd a (by simp); have y := hd b (by simp)
    have h3' : a ≠ 0 := h3
    exact Or.inr (Or.inl ⟨a, b, rfl, ⟨by omega, x.2⟩, y⟩)
  | [a, b, c], _, _, h3, hd =>
    have x := hd a (by simp); have y := hd b (by simp); have z := hd c (by simp)
    have h3' : a ≠ 0 := h3
    exact Or.inr (Or.inr (Or.inl ⟨a, b, c, rfl, ⟨by omega, x.2⟩, y, z⟩))
  | [a, b, c, d], _, _, h3, hd =>
    have x := hd a (by simp); have y := hd b (by simp); have z := hd c (by simp); have w := hd d (by simp)
    have h3' : a ≠ 0 := h3
    exact Or.inr (Or.inr (Or.inr (Or.inl ⟨a, b, c, d, rfl, ⟨by omega, x.2⟩, y, z, w⟩)))
  | [a, b, c, d, e], _, _, h3, hd =>
    have x := hd a (by simp); have y := hd b (by simp); have z := hd c (by simp); have w := hd d (by simp); have u := hd e (by simp)
    have h3' : a ≠ 0 := h3
    exact Or.inr (Or.inr (Or.inr (Or.inr ⟨a, b, c, d, e, rfl, ⟨by omega, x.2⟩, y, z, w, u⟩)))
  | a :: b :: c :: d :: e :: f :: t, _, h2, _, _ =>
    have : (a :: b :: c :: d :: e :: f :: t).length = t.length + 6 := rfl
    omega
theorem vl1 (a : Int) : vl [a] = a := by show 10 * 0 + a = a; omega
theorem vl2 (a b : Int) : vl [a, b] = 10 * a + b := by show 10 * (10 * 0 + a) + b = _; omega
theorem vl3 (a b c : Int) : vl [a, b, c] = 100 * a + 10 * b + c := by show 10 * (10 * (10 * 0 + a) + b) + c = _; omega
theorem vl4 (a b c d : Int) : vl [a, b, c, d] = 1000 * a + 100 * b + 10 * c + d := by show 10 * (10 * (10 * (10 * 0 + a) + b) + c) + d = _; omega
theorem vl5 (a b c d e : Int) : vl [a, b, c, d, e] = 10000 * a + 1000 * b + 100 * c + 10 * d + e := by show 10 * (10 * (10 * (10 * (10 * 0 + a) + b) + c) + d) + e = _; omega
theorem dgt_vl {ds : List Int} (h : vd ds = true) (hd : dgs ds) : dgt (vl ds) = ds := by
  rcases vd_cases h hd with ⟨a, rfl, r⟩ | ⟨a, b, rfl, r⟩ | ⟨a, b, c, rfl, r⟩ | ⟨a, b, c, d, rfl, r⟩ | ⟨a, b, c, d, e, rfl, r⟩
  · rw [vl1]; unfold dgt; rw [if_pos (by omega)]
  · rw [vl2]; unfold dgt; rw [if_neg (by omega), if_pos (by omega), show (10 * a + b) / 10 = a by omega, show (10 * a + b) % 10 = b by omega]
  · rw [vl3]; unfold dgt; rw [if_neg (by omega), if_neg (by omega), if_pos (by omega), show (100 * a + 10 * b + c) / 100 = a by omega, show (100 * a + 10 * b + c) / 10 % 10 = b by omega, show (100 * a + 10 * b + c) % 10 = c by omega]
  · rw [vl4]; unfold dgt; rw [if_neg (by omega), if_neg (by omega), if_neg (by omega), if_pos (by omega), show (1000 * a + 100 * b + 10 * c + d) / 1000 = a by omega, show (1000 * a + 100 * b + 10 * c + d) / 100 % 10 = b by omega, show (1000 * a + 100 * b + 10 * c + d) / 10 % 10 = c by omega, show (1000 * a + 100 * b + 10 * c + d) % 10 = d by omega]
  · rw [vl5]; unfold dgt; rw [if_neg (by omega), if_neg (by omega), if_neg (by omega), if_neg (by omega), show (10000 * a + 1000 * b + 100 * c + 10 * d + e) / 10000 = a by omega, show (10000 * a + 1000 * b + 100 * c + 10 * d + e) / 1000 % 10 = b by omega, show (10000 * a + 1000 * b + 100 * c + 10 * d + e) / 100 % 10 = c by omega, show (10000 * a + 1000 * b + 100 * c + 10 * d + e) / 10 % 10 = d by omega, show (10000 * a + 1000 * b + 100 * c + 10 * d + e) % 10 = e by omega]
theorem vl_inj {ds es : List Int} (h : vd ds = true) (hd : dgs ds) (h' : vd es = true) (hd' : dgs es) (e : vl ds = vl es) : ds = es := by
  rw [← dgt_vl h hd, ← dgt_vl h' hd', e]
theorem vl_b {ds : List Int} (h : vd ds = true) (hd : dgs ds) : 1 ≤ vl ds ∧ vl ds ≤ 99999 := by
  rcases vd_cases h hd with ⟨a, rfl, r⟩ | ⟨a, b, rfl, r⟩ | ⟨a, b, c, rfl, r⟩ | ⟨a, b, c, d, rfl, r⟩ | ⟨a, b, c, d, e, rfl, r⟩
  · rw [vl1]; omega
  · rw [vl2]; omega
  · rw [vl3]; omega
  · rw [vl4]; omega
  · rw [vl5]; omega
theorem dgt_ok {a : Int} (h0 : 1 ≤ a) (h1 : a ≤ 99999) : vd (dgt a) = true ∧ dgs (dgt a) ∧ vl (dgt a) = a := by
  unfold dgt
  by_cases a1 : a < 10
  · rw [if_pos a1]
    refine ⟨?_, ?_, vl1 a⟩
    · unfold vd; rw [Bool.and_eq_true, Bool.and_eq_true, decide_eq_true_iff, decide_eq_true_iff, decide_eq_true_iff]
      exact ⟨⟨by show 1 ≤ 1; omega, by show 1 ≤ 5; omega⟩, by show a ≠ 0; omega⟩
    · intro d hd; simp at hd; omega
  · rw [if_neg a1]
    by_cases a2 : a < 100
    · rw [if_pos a2]
      refine ⟨?_, ?_, by rw [vl2]; omega⟩
      · unfold vd; rw [Bool.and_eq_true, Bool.and_eq_true, decide_eq_true_iff, decide_eq_true_iff, decide_eq_true_iff]
        exact ⟨⟨by show 1 ≤ 2; omega, by show 2 ≤ 5; omega⟩, by show a / 10 ≠ 0; omega⟩
      · intro d hd; simp at hd; omega
    · rw [if_neg a2]
      by_cases a3 : a < 1000
      · rw [if_pos a3]
        refine ⟨?_, ?_, by rw [vl3]; omega⟩
        · unfold vd; rw [Bool.and_eq_true, Bool.and_eq_true, decide_eq_true_iff, decide_eq_true_iff, decide_eq_true_iff]
          exact ⟨⟨by show 1 ≤ 3; omega, by show 3 ≤ 5; omega⟩, by show a / 100 ≠ 0; omega⟩
        · intro d hd; simp at hd; omega
      · rw [if_neg a3]
        by_cases a4 : a < 10000
        · rw [if_pos a4]
          refine ⟨?_, ?_, by rw [vl4]; omega⟩
          · unfold vd; rw [Bool.and_eq_true, Bool.and_eq_true, decide_eq_true_iff, decide_eq_true_iff, decide_eq_true_iff]
            exact ⟨⟨by show 1 ≤ 4; omega, by show 4 ≤ 5; omega⟩, by show a / 1000 ≠ 0; omega⟩
          · intro d hd; simp at hd; omega
        · rw [if_neg a4]
          refine ⟨?_, ?_, by rw [vl5]; omega⟩
          · unfold vd; rw [Bool.and_eq_true, Bool.and_eq_true, decide_eq_true_iff, decide_eq_true_iff, decide_eq_true_iff]
            exact ⟨⟨by show 1 ≤ 5; omega, by show 5 ≤ 5; omega⟩, by show a / 10000 ≠ 0; omega⟩
          · intro d hd; simp at hd; omega
/-! dividing as the machine does -/
theorem idv_n {a b : Nat} (ha : a < 2147483648) (hb : 0 < b) (hb' : b < 2147483648) : idv (a : Int) (b : Int) = ((a / b : Nat) : Int) := by
  have l : a / b ≤ a := Nat.div_le_self a b
  unfold idv
  rw [Int32.toInt_div_of_ne_right _ _ (by
    intro h
    have := congrArg Int32.toInt h
    rw [oi_ti ⟨by omega, by omega⟩] at this
    have e : (-1 : Int32).toInt = -1 := by decide
    omega), oi_ti ⟨by omega, by omega⟩, oi_ti ⟨by omega, by omega⟩]
  rw [Int.tdiv_eq_ediv_of_nonneg (by omega)]
  omega
theorem idv_e {a b : Int} (h0 : 0 ≤ a) (h1 : a < 2147483648) (h2 : 0 < b) (h3 : b < 2147483648) : idv a b = a / b := by
  have := idv_n (a := a.toNat) (b := b.toNat) (by omega) (by omega) (by omega)
  rw [show ((a.toNat : Nat) : Int) = a by omega, show ((b.toNat : Nat) : Int) = b by omega] at this
  rw [this, Int.natCast_ediv]
  rw [show ((a.toNat : Nat) : Int) = a by omega, show ((b.toNat : Nat) : Int) = b by omega]
theorem irm_e {a b : Int} (h0 : 0 ≤ a) (h1 : a < 2147483648) (h2 : 0 < b) (h3 : b < 2147483648) : irm a b = a % b := by
  have d := idv_e h0 h1 h2 h3
  unfold idv at d
  have q0 : 0 ≤ a / b := Int.ediv_nonneg h0 (by omega)
  have q1 : a / b ≤ a := Int.ediv_le_self b h0
  have mb : b * (a / b) ≤ a := by have := Int.emod_nonneg a (show b ≠ 0 by omega); have := Int.mul_ediv_add_emod a b; omega
  have mb0 : 0 ≤ b * (a / b) := Int.mul_nonneg (by omega) q0
  have em := Int.mul_ediv_add_emod a b
  unfold irm
  have e1 : Int32.ofInt a / Int32.ofInt b = Int32.ofInt (a / b) := by
    have : (Int32.ofInt a / Int32.ofInt b).toInt = (Int32.ofInt (a / b)).toInt := by rw [d, oi_ti ⟨by omega, by omega⟩]
    exact Int32.toInt_inj.mp this
  rw [e1, ← Int32.ofInt_mul, ← Int32.ofInt_sub, oi_ti ⟨by rw [Int.mul_comm]; omega, by rw [Int.mul_comm]; omega⟩, Int.mul_comm]
  omega
