/-! rows for simp that are no 'rfl': the kernel is to unfold nothing by them -/
theorem jn_v {τ ρ : Type} (f : τ → ρ) (k : τ) : jn f k = f k := Eq.trans rfl rfl
theorem stw_v {α : Type} (m : Mem) (k : Nat) (i v : Int) (f : Mem → α) : stw m k i v f = f (wr m k i v) := Eq.trans rfl rfl
theorem cpw_v {α : Type} (m : Mem) (k1 : Nat) (i : Int) (k2 : Nat) (j n : Int) (f : Mem → α) : cpw m k1 i k2 j n f = f (cpy m k1 i k2 j n) := Eq.trans rfl rfl
theorem b1_v {α β : Type} (a : α) (f : α → Option β) : b1 (some a) f = f a := Eq.trans rfl rfl
theorem b2_v {α β γ : Type} (a : α) (b : β) (f : α → β → Option γ) : b2 (some (a, b)) f = f a b := Eq.trans rfl rfl
/-! the small methods: what they answer -/
def bz (p : Prop) [Decidable p] : Int := if p then 1 else 0
theorem bz_0 (p : Prop) [Decidable p] : (bz p = 0) = ¬ p := by unfold bz; split <;> simp_all
theorem bz_n (p : Prop) [Decidable p] : (bz p ≠ 0) = p := by unfold bz; split <;> simp_all
theorem bz_1 (p : Prop) [Decidable p] : (bz p = 1) = p := by unfold bz; split <;> simp_all
theorem bz_pos {p : Prop} [Decidable p] (h : p) : bz p = 1 := if_pos h
theorem bz_neg {p : Prop} [Decidable p] (h : ¬ p) : bz p = 0 := if_neg h
theorem bz_c {p q : Prop} [Decidable p] [Decidable q] (h : p ↔ q) : bz p = bz q := by unfold bz; by_cases hp : p; rw [if_pos hp, if_pos (h.mp hp)]; rw [if_neg hp, if_neg (fun x => hp (h.mpr x))]
theorem F10_isClause_e (v : Int) : F10_isClause v = bz (0 ≤ v ∧ v < 16) := by unfold F10_isClause bz jn; dsimp only; repeat' split <;> omega
theorem F10_isForm_e (v : Int) : F10_isForm v = bz ((0 ≤ v ∧ v < 4) ∨ v = 9) := by unfold F10_isForm bz jn; dsimp only; repeat' split <;> omega
theorem F10_isShelf_e (v : Int) : F10_isShelf v = bz (0 ≤ v ∧ v < 6) := by unfold F10_isShelf bz jn; dsimp only; repeat' split <;> omega
theorem F1_has_e (m : Mem) (v : Int) : F1_has m v = bz (0 ≤ v ∧ v < rd m 4 0) := by unfold F1_has bz jn; dsimp only; repeat' split <;> omega
theorem F5_has_e (m : Mem) (v : Int) : F5_has m v = bz (0 ≤ v ∧ v < rd m 66 0) := by unfold F5_has bz jn; dsimp only; repeat' split <;> omega
theorem F5_isKind_e (v : Int) : F5_isKind v = bz (0 ≤ v ∧ v ≤ 6) := by unfold F5_isKind bz jn; dsimp only; repeat' split <;> omega
theorem F7_isNumber_e (v : Int) : F7_isNumber v = bz (1 ≤ v ∧ v ≤ 99999) := by unfold F7_isNumber bz jn; dsimp only; repeat' split <;> omega
theorem F6_hasPlace_e (m : Mem) (o : Nat) (v : Int) : F6_hasPlace m o v = bz (0 ≤ v ∧ v < rd m o 3) := by unfold F6_hasPlace bz jn lcm'; dsimp only; repeat' split <;> omega
theorem F6_hasPlaces_e (m : Mem) (o : Nat) (v w : Int) (hv : inR v) (hw : inR w) : F6_hasPlaces m o v w = bz (0 ≤ v ∧ 0 ≤ w ∧ v + w ≤ rd m o 3) := by
  have h1 := hv.1; have h2 := hv.2; have h3 := hw.1; have h4 := hw.2
  unfold F6_hasPlaces bz jn lcm'
  dsimp only
  rw [w64_id (by omega) (by omega)]
  repeat' split <;> omega
theorem F11_in_e (v a b : Int) : F11_in v a b = bz (a ≤ v ∧ v ≤ b) := by unfold F11_in bz jn; dsimp only; repeat' split <;> omega
theorem F11_lesser_e (a b : Int) : F11_lesser a b = min a b := by unfold F11_lesser; split <;> omega
theorem F11_greater_e (a b : Int) : F11_greater a b = max a b := by unfold F11_greater; split <;> omega
theorem imn_e (a b : Int) : imn a b = min a b := by unfold imn; split <;> omega
theorem imx_e (a b : Int) : imx a b = max a b := by unfold imx; split <;> omega
theorem F11_isForm_e (v : Int) : F11_isForm v = bz ((0 ≤ v ∧ v < 4) ∨ v = 9) := by
  unfold F11_isForm jn; dsimp only; simp only [F11_in_e, bz_n]; unfold bz; repeat' split <;> omega
theorem F11_isClause_e (v : Int) : F11_isClause v = bz (0 ≤ v ∧ v < 16) := by unfold F11_isClause; rw [F11_in_e]; exact bz_c (by omega)
theorem F11_isShelf_e (v : Int) : F11_isShelf v = bz (0 ≤ v ∧ v < 6) := by unfold F11_isShelf; rw [F11_in_e]; exact bz_c (by omega)
theorem F11_isNumber_e (v : Int) : F11_isNumber v = bz (1 ≤ v ∧ v ≤ 99999) := by unfold F11_isNumber; rw [F11_in_e]
theorem F11_isCharter_e (m : Mem) (v : Int) (h : 0 ≤ rd m 83 1) : F11_isCharter m v = bz (0 ≤ v ∧ v < rd m 83 1) := by
  have := (rd_in m 83 1).2
  unfold F11_isCharter; rw [F11_in_e, w32_id (by omega) (by omega)]; exact bz_c (by omega)
theorem F11_isBody_e (m : Mem) (v : Int) (h : 0 ≤ rd m 83 46) : F11_isBody m v = bz (0 ≤ v ∧ v < rd m 83 46) := by
  have := (rd_in m 83 46).2
  unfold F11_isBody; rw [F11_in_e, w32_id (by omega) (by omega)]; exact bz_c (by omega)
theorem formCell_e {c k : Int} (h0 : 0 ≤ c) (h1 : c < 1000) (h2 : 0 ≤ k) (h3 : k < 1000) : F1_formCell c k = 16 * c + k := by
  unfold F1_formCell; rw [w32_id (x := c * 16) (by omega) (by omega), w32_id (by omega) (by omega)]; omega
theorem costCell_e {k : Int} (h2 : 0 ≤ k) (h3 : k < 1000) : F1_costCell k = 192 + k := by unfold F1_costCell; rw [w32_id (by omega) (by omega)]
theorem motherCell_e {k : Int} (h2 : 0 ≤ k) (h3 : k < 1000) : F1_motherCell k = 197 + k := by unfold F1_motherCell; rw [w32_id (by omega) (by omega)]
theorem rd_wr_c (m : Mem) (k : Nat) (i i' v : Int) : rd (wr m k i v) k i' = if i' = i then w32 v else rd m k i' := by rw [rd_wr]; simp
theorem rl_wr_c (m : Mem) (k : Nat) (i i' v : Int) : rl (wr m k i v) k i' = if i' = i then w64 v else rl m k i' := by rw [rl_wr]; simp
