/-! numbers: an int is its Int; w32 is how the machine wraps; iv, jv: the values -/
def w32 (x : Int) : Int := (Int32.ofInt x).toInt
def w64 (x : Int) : Int := (Int64.ofInt x).toInt
def inR (x : Int) : Prop := -2147483648 ≤ x ∧ x < 2147483648
def inL (x : Int) : Prop := -9223372036854775808 ≤ x ∧ x < 9223372036854775808
theorem ti_in (x : Int32) : inR x.toInt := ⟨by have := Int32.le_toInt x; omega, by have := Int32.toInt_lt x; omega⟩
theorem tl_in (x : Int64) : inL x.toInt := ⟨by have := Int64.le_toInt x; omega, by have := Int64.toInt_lt x; omega⟩
theorem w32_in (x : Int) : inR (w32 x) := ti_in _
theorem w64_in (x : Int) : inL (w64 x) := tl_in _
theorem rg_c {n : Int} (h : decide (-2147483648 ≤ n ∧ n < 2147483648) = true) : inR n := by unfold inR; exact of_decide_eq_true h
theorem rg_l {n : Int} (h : decide (-9223372036854775808 ≤ n ∧ n < 9223372036854775808) = true) : inL n := by unfold inL; exact of_decide_eq_true h
theorem oi_ti {x : Int} (h : inR x) : (Int32.ofInt x).toInt = x := Int32.toInt_ofInt_of_le (by have := h.1; omega) (by have := h.2; omega)
theorem ol_tl {x : Int} (h : inL x) : (Int64.ofInt x).toInt = x := Int64.toInt_ofInt_of_le (by have := h.1; omega) (by have := h.2; omega)
theorem w32_id {x : Int} (h1 : -2147483648 ≤ x) (h2 : x < 2147483648) : w32 x = x := oi_ti ⟨h1, h2⟩
theorem w64_id {x : Int} (h1 : -9223372036854775808 ≤ x) (h2 : x < 9223372036854775808) : w64 x = x := ol_tl ⟨h1, h2⟩
theorem oi_w (x : Int) : Int32.ofInt (w32 x) = Int32.ofInt x := Int32.ofInt_toInt _
theorem ol_w (x : Int) : Int64.ofInt (w64 x) = Int64.ofInt x := Int64.ofInt_toInt _
theorem oi_inj {x y : Int} (hx : inR x) (hy : inR y) : Int32.ofInt x = Int32.ofInt y ↔ x = y :=
  ⟨fun h => by rw [← oi_ti hx, ← oi_ti hy, h], fun h => by rw [h]⟩
theorem oi_lt {x y : Int} (hx : inR x) (hy : inR y) : Int32.ofInt x < Int32.ofInt y ↔ x < y := by rw [Int32.lt_iff_toInt_lt, oi_ti hx, oi_ti hy]
theorem oi_le {x y : Int} (hx : inR x) (hy : inR y) : Int32.ofInt x ≤ Int32.ofInt y ↔ x ≤ y := by rw [Int32.le_iff_toInt_le, oi_ti hx, oi_ti hy]
theorem oi_0 : Int32.ofInt 0 = 0 := rfl
theorem oi_in {i : Int} {n : Nat} (h : 0 ≤ i ∧ i < (n : Int)) (hr : inR i) : vp_in (Int32.ofInt i) n := by
  rw [vp_in_iff, oi_ti hr]; exact h
theorem oi_cl {i : Int} (h0 : 0 ≤ i) (hr : inR i) : ((Int32.ofInt i).toNatClampNeg : Int) = i := by
  show (((Int32.ofInt i).toInt.toNat : Nat) : Int) = i
  rw [oi_ti hr]; omega
/-! the memory: a number for a cell and a place; what is read is wrapped -/
abbrev Mem : Type := Nat → Int → Int
def rd (m : Mem) (k : Nat) (i : Int) : Int := w32 (m k i)
def rl (m : Mem) (k : Nat) (i : Int) : Int := w64 (m k i)
def wr (m : Mem) (k : Nat) (i : Int) (v : Int) : Mem := fun k' i' => if k' = k ∧ i' = i then v else m k' i'
theorem rd_in (m : Mem) (k : Nat) (i : Int) : inR (rd m k i) := w32_in _
theorem rl_in (m : Mem) (k : Nat) (i : Int) : inL (rl m k i) := w64_in _
theorem rd_wr (m : Mem) (k k' : Nat) (i i' v : Int) : rd (wr m k i v) k' i' = if k' = k ∧ i' = i then w32 v else rd m k' i' := by
  unfold rd wr; split <;> rfl
theorem rl_wr (m : Mem) (k k' : Nat) (i i' v : Int) : rl (wr m k i v) k' i' = if k' = k ∧ i' = i then w64 v else rl m k' i' := by
  unfold rl wr; split <;> rfl
theorem rd_wr_s (m : Mem) (k : Nat) (i v : Int) : rd (wr m k i v) k i = w32 v := by rw [rd_wr]; simp
theorem rd_wr_k {m : Mem} {k k' : Nat} {i i' v : Int} (h : k' ≠ k) : rd (wr m k i v) k' i' = rd m k' i' := by rw [rd_wr]; simp [h]
theorem rd_wr_i {m : Mem} {k : Nat} {i i' v : Int} (h : i' ≠ i) : rd (wr m k i v) k i' = rd m k i' := by rw [rd_wr]; simp [h]
theorem rl_wr_k {m : Mem} {k k' : Nat} {i i' v : Int} (h : k' ≠ k) : rl (wr m k i v) k' i' = rl m k' i' := by rw [rl_wr]; simp [h]
theorem wr_k {m : Mem} {k k' : Nat} {i v : Int} (h : k' ≠ k) : wr m k i v k' = m k' := by funext j; unfold wr; simp [h]
/-! what the machine does with whole numbers, beside + - * -/
def band (a b : Int) : Int := (Int32.ofInt a &&& Int32.ofInt b).toInt
def bor (a b : Int) : Int := (Int32.ofInt a ||| Int32.ofInt b).toInt
def bxor (a b : Int) : Int := (Int32.ofInt a ^^^ Int32.ofInt b).toInt
def shl (a b : Int) : Int := (Int32.ofInt a <<< (Int32.ofInt b &&& 31)).toInt
def shr (a b : Int) : Int := (Int32.ofInt a >>> (Int32.ofInt b &&& 31)).toInt
def ush (a b : Int) : Int := (((Int32.ofInt a).toUInt32 >>> ((Int32.ofInt b).toUInt32 &&& Int32.toUInt32 31)).toInt32).toInt
def idv (a b : Int) : Int := (Int32.ofInt a / Int32.ofInt b).toInt
def irm (a b : Int) : Int := (Int32.ofInt a - Int32.ofInt a / Int32.ofInt b * Int32.ofInt b).toInt
def i8 (a : Int) : Int := (Int32.ofInt a).toInt8.toInt32.toInt
def i16 (a : Int) : Int := (Int32.ofInt a).toInt16.toInt32.toInt
def imx (a b : Int) : Int := if a < b then b else a
def imn (a b : Int) : Int := if b < a then b else a
def lnd (a b : Int) : Int := (Int64.ofInt a &&& Int64.ofInt b).toInt
def lro (a b : Int) : Int := (Int64.ofInt a ||| Int64.ofInt b).toInt
def lsl (a b : Int) : Int := (Int64.ofInt a <<< ((Int32.ofInt b).toInt64 &&& 63)).toInt
def lcm' (a b : Int) : Int := if a < b then -1 else if a = b then 0 else 1
theorem imx_in {a b : Int} (ha : inR a) (hb : inR b) : inR (imx a b) := by unfold imx; split <;> assumption
theorem imn_in {a b : Int} (ha : inR a) (hb : inR b) : inR (imn a b) := by unfold imn; split <;> assumption
theorem lcm_in (a b : Int) : inR (lcm' a b) := by unfold lcm'; split; exact rg_c rfl; split <;> exact rg_c rfl
/-! what fails: a place that is not there; branches, calls -/
def gd {α : Type} (c : Prop) [Decidable c] (x : Option α) : Option α := if c then x else none
theorem gd_t {α : Type} {c : Prop} [Decidable c] {x : Option α} (h : c) : gd c x = x := if_pos h
theorem gd_some {α : Type} {c : Prop} [Decidable c] {x : Option α} {r : α} (h : gd c x = some r) : c ∧ x = some r := by
  unfold gd at h; split at h
  · exact ⟨by assumption, h⟩
  · cases h
theorem ite_t {α : Sort _} {c : Prop} [Decidable c] {a b r : α} (hc : c) (h : (if c then a else b) = r) : a = r := by rw [if_pos hc] at h; exact h
theorem ite_f {α : Sort _} {c : Prop} [Decidable c] {a b r : α} (hc : ¬ c) (h : (if c then a else b) = r) : b = r := by rw [if_neg hc] at h; exact h
def b1 {α β : Type} (x : Option α) (f : α → Option β) : Option β := match x with
  | some a => f a
  | none => none
def b2 {α β γ : Type} (x : Option (α × β)) (f : α → β → Option γ) : Option γ := match x with
  | some (a, b) => f a b
  | none => none
theorem b1_some {α β : Type} {x : Option α} {f : α → Option β} {r : β} (h : b1 x f = some r) : ∃ a, x = some a ∧ f a = some r := by
  cases x with
  | none => cases h
  | some a => exact ⟨a, rfl, h⟩
theorem b2_some {α β γ : Type} {x : Option (α × β)} {f : α → β → Option γ} {r : γ} (h : b2 x f = some r) : ∃ a b, x = some (a, b) ∧ f a b = some r := by
  cases x with
  | none => cases h
  | some a => exact ⟨a.1, a.2, rfl, h⟩
theorem b1_s {α β : Type} (a : α) (f : α → Option β) : b1 (some a) f = f a := rfl
theorem b2_s {α β γ : Type} (a : α) (b : β) (f : α → β → Option γ) : b2 (some (a, b)) f = f a b := rfl
def jn {τ ρ : Type} (f : τ → ρ) (k : τ) : ρ := f k
theorem jn_e {τ ρ : Type} {f : τ → ρ} {k : τ} {out : ρ} (h : jn f k = out) (P : τ → Prop) {G : Prop} (hk : P k) (g : ∀ K, P K → f K = out → G) : G := g k hk h
/-! the values, the locals -/
def iv (x : Int) : Value := .int (Int32.ofInt x)
def jv (x : Int) : Value := .long (Int64.ofInt x)
def mkL : List Value → List (Option Value)
  | [] => []
  | v :: vs => if v.category = 2 then some v :: none :: mkL vs else some v :: mkL vs
def mkN (vs : List Value) (n : Nat) : List (Option Value) := mkL vs ++ List.replicate (n - (mkL vs).length) none
def LH (ls : Array Slot) (nL : Nat) (L : List (Option Value)) : Prop := ls.size = nL ∧ lv_wf ls ∧ ∀ (i : Nat) (v : Value), L[i]? = some (some v) → ls[i]? = some (.val v)
theorem LH_at {ls : Array Slot} {nL : Nat} {L : List (Option Value)} (h : LH ls nL L) {i : Nat} {v : Value} (hi : L[i]? = some (some v)) : ls[i]? = some (.val v) := h.2.2 i v hi
theorem mkL_args : ∀ (vs : List Value) (k i : Nat) (v : Value), (mkL vs)[i]? = some (some v) → (k + i, v) ∈ lv_args k vs
  | [], k, i, v, h => by simp [mkL] at h
  | w :: vs, k, i, v, h => by
    unfold mkL at h
    unfold lv_args
    by_cases hc : w.category = 2
    · rw [if_pos hc] at h ⊢
      match i, h with
      | 0, h =>
        have e : w = v := by simpa using h
        subst e
        exact List.mem_cons_self
      | 1, h => simp at h
      | i + 2, h =>
        have h' : (mkL vs)[i]? = some (some v) := by simpa using h
        have := mkL_args vs (k + 2) i v h'
        rw [show k + (i + 2) = k + 2 + i by omega]
        exact List.mem_cons_of_mem _ this
    · rw [if_neg hc] at h ⊢
      match i, h with
      | 0, h =>
        have e : w = v := by simpa using h
        subst e
        exact List.mem_cons_self
      | i + 1, h =>
        have h' : (mkL vs)[i]? = some (some v) := by simpa using h
        have := mkL_args vs (k + 1) i v h'
        rw [show k + (i + 1) = k + 1 + i by omega]
        exact List.mem_cons_of_mem _ this
theorem LH_entry (vs : List Value) {n : Nat} (h : (lg_sl vs).length ≤ n) : LH ((lg_sl vs ++ List.replicate (n - (lg_sl vs).length) Slot.unset).toArray) n (mkN vs n) := by
  obtain ⟨h1, h2, h3⟩ := lv_entry vs h
  refine ⟨h1, h2, fun i v hi => h3 (i, v) ?_⟩
  unfold mkN at hi
  by_cases hl : i < (mkL vs).length
  · rw [List.getElem?_append_left hl] at hi
    have := mkL_args vs 0 i v hi
    simpa using this
  · rw [List.getElem?_append_right (by omega)] at hi
    simp [List.getElem?_replicate] at hi
/-- a store of one slot: the place before holds no long -/
def okS (L : List (Option Value)) (i : Nat) : Bool := match i with
  | 0 => true
  | j + 1 => match L[j]? with
    | some (some v) => v.category == 1
    | _ => true
theorem LH_store {ls : Array Slot} {nL i : Nat} {L : List (Option Value)} {v : Value} (h : LH ls nL L) (hi : i < nL) (hc : v.category = 1) (ho : okS L i = true) :
    ∃ ls', storeLocals ls i v = some ls' ∧ LH ls' nL (L.set i (some v)) := by
  obtain ⟨l', e', h'⟩ := lv_store1 (l := (List.range L.length).filterMap (fun j => match L[j]? with | some (some w) => some (j, w) | _ => none)) (i := i) (v := v) ⟨h.1, h.2.1, fun q hq => by
    obtain ⟨j, -, hj⟩ := List.mem_filterMap.mp hq
    split at hj
    · rename_i w hw
      cases hj
      exact h.2.2 _ _ hw
    · cases hj⟩ hi hc
  refine ⟨l', e', h'.1, h'.2.1, fun j w hw => ?_⟩
  by_cases hji : j = i
  · subst hji
    rw [List.getElem?_set] at hw
    simp only [if_true] at hw
    split at hw
    · have e : v = w := by simpa using hw
      subst e
      exact h'.2.2 (j, v) List.mem_cons_self
    · cases hw
  · rw [List.getElem?_set_ne (fun q => hji q.symm)] at hw
    refine h'.2.2 (j, w) (List.mem_cons_of_mem _ (List.mem_filter.mpr ⟨List.mem_filterMap.mpr ⟨j, List.mem_range.mpr (List.getElem?_eq_some_iff.mp hw).1, by rw [hw]⟩, ?_⟩))
    simp only [Bool.and_eq_true, Bool.not_eq_true', beq_eq_false_iff_ne, ne_eq, Bool.and_eq_false_iff]
    refine ⟨hji, ?_⟩
    by_cases hj1 : j + 1 = i
    · right
      subst hj1
      unfold okS at ho
      simp only [hw] at ho
      have : w.category = 1 := by simpa using ho
      omega
    · exact Or.inl hj1
theorem LH_mono {ls : Array Slot} {nL : Nat} {L L' : List (Option Value)} (h : LH ls nL L) (hs : ∀ (i : Nat) (v : Value), L'[i]? = some (some v) → L[i]? = some (some v)) : LH ls nL L' := ⟨h.1, h.2.1, fun i v hi => h.2.2 i v (hs i v hi)⟩
