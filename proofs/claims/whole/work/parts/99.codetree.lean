/-! the tree of a code: over the places of the list, and over the charters -/
def pmc (N c : Nat) : Int → Int := fun v => if mo N c v.toNat = 9 then -1 else ((mo N c v.toNat : Nat) : Int)
theorem pmc_n (N c i : Nat) : pmc N c (i : Int) = if mo N c i = 9 then -1 else ((mo N c i : Nat) : Int) := rfl
theorem pmc_r {N c : Nat} (h2 : 2 ≤ N) (v : Int) : -1 ≤ pmc N c v ∧ pmc N c v < N := by
  have := mo_r (N := N) (c := c) (p := v.toNat) h2
  unfold pmc; split <;> omega
theorem acy_c {N c : Nat} (h2 : 2 ≤ N) (h6 : N ≤ 6) (h : Rk (mo N c) N) : Acy (inN (N : Int)) (pmc N c) := by
  obtain ⟨rk, r⟩ := h
  refine acy_N ⟨by omega, by omega⟩ ⟨fun v _ _ => pmc_r h2 v, fun v => rk v.toNat, fun v v0 v1 hp => ?_⟩
  have i : pmc N c v = if mo N c v.toNat = 9 then -1 else ((mo N c v.toNat : Nat) : Int) := rfl
  by_cases z : mo N c v.toNat = 9
  · rw [if_pos z] at i; omega
  · rw [if_neg z] at i
    have := r v.toNat (by omega) z
    rw [i]
    dsimp only
    rw [show (((mo N c v.toNat : Nat) : Int)).toNat = mo N c v.toNat by omega]
    exact this
def BT (M : Mem) (N c : Nat) (k : Int) : TT := (inN (N : Int), pmc N c, fun v f => decide (rd M 89 (16 * rd M 103 v + k) = 9 ∨ rd M 89 (16 * rd M 103 v + k) = f), stp (rd M 90 0) (rd M 90 1) (rd M 90 2))
theorem BT_al {M : Mem} {N c : Nat} {k v f : Int} : (BT M N c k).2.2.1 v f = true ↔ rd M 89 (16 * rd M 103 v + k) = 9 ∨ rd M 89 (16 * rd M 103 v + k) = f := decide_eq_true_iff
theorem BT_in {M : Mem} {N c : Nat} {k v : Int} : (BT M N c k).1 v = true ↔ 0 ≤ v ∧ v < (N : Int) := inN_e
/-- the list's charters -/
theorem li_r {n : Nat} {M : Mem} (hI : Inv n M) {N : Nat} (hN : rd M 31 2 = (N : Int)) {v : Int} (v0 : 0 ≤ v) (v1 : v < N) : rd M 44 v = rd M 103 v ∧ 0 ≤ rd M 103 v ∧ rd M 103 v < rd M 83 1 ∧ rd M 83 1 ≤ 12 := by
  obtain ⟨⟨_, c1, _⟩, _, _, _, _, _, _, _, ⟨_, _, _, l4, _⟩, _⟩ := hI
  have := l4 v v0 (by omega)
  exact ⟨this.1, this.2.1, this.2.2, c1⟩
theorem li_f {n : Nat} {M : Mem} (hI : Inv n M) {N : Nat} (hN : rd M 31 2 = (N : Int)) {v k : Int} (v0 : 0 ≤ v) (v1 : v < N) (k0 : 0 ≤ k) (k1 : k < 16) : rd M 9 (16 * rd M 103 v + k) = rd M 89 (16 * rd M 103 v + k) ∧ isF (rd M 89 (16 * rd M 103 v + k)) := by
  have l := li_r hI hN v0 v1
  exact hI.2.1.1 (rd M 103 v) k l.2.1 l.2.2.1 k0 k1
theorem li_i {n : Nat} {M : Mem} (hI : Inv n M) {N : Nat} (hN : rd M 31 2 = (N : Int)) {i j : Nat} (hi : i < N) (hj : j < N) (h : rd M 103 (i : Int) = rd M 103 (j : Int)) : i = j := by
  have := hI.2.2.2.2.2.2.2.2.1.2.2.2.2 (i : Int) (j : Int) (by omega) (by omega) (by omega) (by omega) h
  omega
theorem co_r {n : Nat} {M : Mem} (hI : Inv n M) {k : Int} (h0 : 0 ≤ k) (h1 : k < 5) : rd M 9 (192 + k) = rd M 90 k ∧ 0 ≤ rd M 90 k ∧ rd M 90 k ≤ 99 := hI.2.1.2.1 k h0 h1
theorem BT_k {n : Nat} {M : Mem} (hI : Inv n M) {N c : Nat} {k : Int} (hN : rd M 31 2 = (N : Int)) (h2 : 2 ≤ N) (h6 : N ≤ 6) (h : Rk (mo N c) N) (k0 : 0 ≤ k) (k1 : k < 16) : Tok (BT M N c k) := by
  refine ⟨acy_c h2 h6 h, fun d hd => ?_, fun f g _ _ _ _ => stp_b (co_r hI (by omega) (by omega)).2 (co_r hI (by omega) (by omega)).2 (co_r hI (by omega) (by omega)).2⟩
  have hd' := BT_in.mp hd
  rcases (li_f hI hN hd'.1 hd'.2 k0 k1).2 with ⟨x, y⟩ | x
  · exact ⟨_, x, y, BT_al.mpr (Or.inr rfl)⟩
  · exact ⟨0, by omega, by omega, BT_al.mpr (Or.inl x)⟩
/-- days agree -/
def VD (M : Mem) (N c : Nat) : Prop := ∀ v, inN (N : Int) v = true → ¬ lt1 (pmc N c) (fun v => rd M 84 (rd M 103 v)) (fun v => rd M 85 (rd M 103 v)) v
noncomputable def VB (M : Mem) (N c : Nat) : Bool := @decide (TrC N c ∧ VD M N c) (Classical.propDecidable _)
theorem VB_e {M : Mem} {N c : Nat} : VB M N c = true ↔ TrC N c ∧ VD M N c := @decide_eq_true_iff _ (Classical.propDecidable _)
theorem VB_f {M : Mem} {N c : Nat} (h : ¬ (TrC N c ∧ VD M N c)) : VB M N c = false := by
  cases z : VB M N c with
  | false => rfl
  | true => exact absurd (VB_e.mp z) h
def KS (M : Mem) (N c : Nat) : Int := sm (fun k => CS (BT M N c k)) 16
/-- the best codes below c -/
noncomputable def bst (M : Mem) (N c : Nat) : List Nat × Int := bl (VB M N) (KS M N) c
theorem bst_l {M : Mem} {N c : Nat} (h2 : 2 ≤ N) (h6 : N ≤ 6) (hc : c ≤ N ^ N) : (bst M N c).1.length ≤ 7776 := by
  have a := bl_len (V := VB M N) (K := KS M N) c
  have b := trees_N (V := VB M N) h2 h6 (fun c h => (VB_e.mp h).1)
  have e := cnt_plus (VB M N) c (N ^ N - c)
  rw [show c + (N ^ N - c) = N ^ N by omega] at e
  unfold bst; omega
/-- below the last there is room for one more, where the next is a tree -/
theorem bst_l1 {M : Mem} {N c : Nat} (h2 : 2 ≤ N) (h6 : N ≤ 6) (hc : c < N ^ N) (hV : VB M N c = true) : (bst M N c).1.length < 7776 := by
  have a := bl_len (V := VB M N) (K := KS M N) c
  have b := trees_N (V := VB M N) h2 h6 (fun c h => (VB_e.mp h).1)
  have e := cnt_plus (VB M N) (c + 1) (N ^ N - (c + 1))
  rw [show c + 1 + (N ^ N - (c + 1)) = N ^ N by omega] at e
  have e1 : cnt (VB M N) (c + 1) = cnt (VB M N) c + if VB M N c then 1 else 0 := rfl
  rw [if_pos hV] at e1
  unfold bst; omega
theorem VB_root {M : Mem} {N c : Nat} (h : TrC N c) : ∃ r : Nat, r < N ∧ ∀ v, ((inN (N : Int) v = true ∧ pmc N c v < 0) ↔ v = (r : Int)) := by
  obtain ⟨⟨r, r0, r1⟩, _⟩ := h
  refine ⟨r, r0, fun v => ?_⟩
  rw [inN_e]
  constructor
  · rintro ⟨a, b⟩
    have := (r1 v.toNat (by omega)).mp (by
      unfold pmc at b; split at b
      · assumption
      · omega)
    omega
  · rintro rfl
    refine ⟨by omega, ?_⟩
    rw [pmc_n, if_pos ((r1 r r0).mpr rfl)]; omega
/-! the reference's: over the charters -/
noncomputable def onL (M : Mem) (N : Nat) : Int → Bool := fun d => @decide (∃ i : Nat, i < N ∧ rd M 103 (i : Int) = d) (Classical.propDecidable _)
theorem onL_e {M : Mem} {N : Nat} {d : Int} : onL M N d = true ↔ ∃ i : Nat, i < N ∧ rd M 103 (i : Int) = d := @decide_eq_true_iff _ (Classical.propDecidable _)
noncomputable def RTm (M m : Mem) (N : Nat) (k : Int) : TT := (onL M N, fun d => rd m 96 d, fun d f => decide (rd M 89 (16 * d + k) = 9 ∨ rd M 89 (16 * d + k) = f), stp (rd M 90 0) (rd M 90 1) (rd M 90 2))
def Wm (M m : Mem) (N c : Nat) : Prop := ∀ i : Nat, i < N → rd m 96 (rd M 103 (i : Int)) = if mo N c i = 9 then -1 else rd M 103 ((mo N c i : Nat) : Int)
theorem Rel_c {n : Nat} {M m : Mem} (hI : Inv n M) {N c : Nat} (hN : rd M 31 2 = (N : Int)) (h2 : 2 ≤ N) (h6 : N ≤ 6) (hw : Wm M m N c) (k : Int) : Rel (BT M N c k) (RTm M m N k) (fun i => rd M 103 i) N := by
  refine ⟨by omega, fun i hi => ?_, fun i j hi hj e => li_i hI hN hi hj e, rfl, fun d => onL_e, fun i hi => ?_, fun i f hi f0 f1 => rfl, rfl⟩
  · have := li_r hI hN (v := (i : Int)) (by omega) (by omega)
    dsimp only; omega
  · have p := pmc_r (N := N) (c := c) h2 (i : Int)
    refine ⟨p.1, p.2, ?_⟩
    show rd m 96 (rd M 103 (i : Int)) = if pmc N c (i : Int) < 0 then -1 else rd M 103 (pmc N c (i : Int))
    rw [hw i hi, pmc_n]
    by_cases z : mo N c i = 9
    · rw [if_pos z, if_pos z, if_pos (by omega)]
    · rw [if_neg z, if_neg z, if_neg (by omega)]
theorem acy_onL {n : Nat} {M m : Mem} (hI : Inv n M) {N c : Nat} (hN : rd M 31 2 = (N : Int)) (h2 : 2 ≤ N) (h6 : N ≤ 6) (hw : Wm M m N c) (h : Rk (mo N c) N) : Acy (onL M N) (fun d => rd m 96 d) := by
  obtain ⟨r0, q0⟩ := h
  obtain ⟨rk, r1, r2⟩ := rk_b (okm_mo h2) q0
  classical
  obtain ⟨q, hq⟩ : ∃ q : Int → Nat, ∀ i : Nat, i < N → q (rd M 103 (i : Int)) = i := by
    refine ⟨fun d => if h : ∃ i : Nat, i < N ∧ rd M 103 (i : Int) = d then Classical.choose h else 0, fun i hi => ?_⟩
    have ex : ∃ j : Nat, j < N ∧ rd M 103 (j : Int) = rd M 103 (i : Int) := ⟨i, hi, rfl⟩
    dsimp only
    rw [dif_pos ex]
    have sp := Classical.choose_spec ex
    exact li_i hI hN sp.1 hi sp.2
  have mem : ∀ d, onL M N d = true → ∃ i : Nat, i < N ∧ rd M 103 (i : Int) = d := fun d hd => onL_e.mp hd
  refine ⟨fun d hd => ?_, fun d hd h0 => ?_, fun d => rk (q d), fun d hd h0 => ?_, fun d hd => ?_⟩
  · obtain ⟨i, i0, i1⟩ := mem d hd
    have := li_r hI hN (v := (i : Int)) (by omega) (by omega)
    omega
  · obtain ⟨i, i0, i1⟩ := mem d hd
    dsimp only at h0 ⊢
    have w := hw i i0
    rw [i1] at w
    rw [w] at h0 ⊢
    by_cases z : mo N c i = 9
    · rw [if_pos z] at h0; omega
    · rw [if_neg z]
      have o := (mo_r (N := N) (c := c) (p := i) h2).resolve_left z
      exact onL_e.mpr ⟨mo N c i, o.1, rfl⟩
  · obtain ⟨i, i0, i1⟩ := mem d hd
    dsimp only at h0 ⊢
    have w := hw i i0
    rw [i1] at w
    rw [w] at h0 ⊢
    by_cases z : mo N c i = 9
    · rw [if_pos z] at h0; omega
    · have o := (mo_r (N := N) (c := c) (p := i) h2).resolve_left z
      rw [if_neg z, hq _ o.1, ← i1, hq i i0]
      exact r1 i i0 z
  · obtain ⟨i, i0, i1⟩ := mem d hd
    dsimp only
    rw [← i1, hq i i0]
    have := r2 i i0
    omega
theorem RTm_k {n : Nat} {M m : Mem} (hI : Inv n M) {N c : Nat} (hN : rd M 31 2 = (N : Int)) (h2 : 2 ≤ N) (h6 : N ≤ 6) (hw : Wm M m N c) (h : Rk (mo N c) N) {k : Int} (k0 : 0 ≤ k) (k1 : k < 16) : Tok (RTm M m N k) := by
  refine ⟨acy_onL hI hN h2 h6 hw h, fun d hd => ?_, fun f g _ _ _ _ => stp_b (co_r hI (by omega) (by omega)).2 (co_r hI (by omega) (by omega)).2 (co_r hI (by omega) (by omega)).2⟩
  obtain ⟨i, i0, i1⟩ := onL_e.mp hd
  have f := (li_f hI hN (v := (i : Int)) (by omega) (by omega) k0 k1).2
  rw [i1] at f
  rcases f with ⟨x, y⟩ | x
  · exact ⟨_, x, y, decide_eq_true (Or.inr rfl)⟩
  · exact ⟨0, by omega, by omega, decide_eq_true (Or.inl x)⟩
theorem days_rel {n : Nat} {M m : Mem} (hI : Inv n M) {N c : Nat} (hN : rd M 31 2 = (N : Int)) (h2 : 2 ≤ N) (h6 : N ≤ 6) (hw : Wm M m N c) : VD M N c ↔ ∀ d, onL M N d = true → ¬ lt1 (fun d => rd m 96 d) (fun d => rd M 84 d) (fun d => rd M 85 d) d := by
  have rl := Rel_c hI hN h2 h6 hw 0
  obtain ⟨_, hL, inj, _, _, hp, _, _⟩ := rl
  have e : ∀ i : Nat, i < N → (lt1 (fun d => rd m 96 d) (fun d => rd M 84 d) (fun d => rd M 85 d) (rd M 103 (i : Int)) ↔ lt1 (pmc N c) (fun v => rd M 84 (rd M 103 v)) (fun v => rd M 85 (rd M 103 v)) (i : Int)) := by
    intro i hi
    have ef := Ef_rel (p := pmc N c) (p' := fun d => rd m 96 d) (a' := fun d => rd M 84 d) hL hp 12 i hi
    obtain ⟨p0, p1, p2⟩ := hp i hi
    change rd m 96 (rd M 103 (i : Int)) = (if pmc N c (i : Int) < 0 then -1 else rd M 103 (pmc N c (i : Int))) at p2
    unfold lt1 ES
    rw [show Ef (fun d => rd m 96 d) (fun d => rd M 84 d) 12 (rd M 103 (i : Int)) = _ from ef]
    dsimp only
    rw [p2]
    change -1 ≤ pmc N c (i : Int) at p0
    change pmc N c (i : Int) < (N : Int) at p1
    by_cases z : pmc N c (i : Int) < 0
    · rw [if_pos z]
      constructor
      · intro h; have := h.1; omega
      · intro h; have := h.1; omega
    · rw [if_neg z]
      have := hL (pmc N c (i : Int)).toNat (by omega)
      rw [show (((pmc N c (i : Int)).toNat : Nat) : Int) = pmc N c (i : Int) by omega] at this
      dsimp only at this
      constructor
      · intro h; exact ⟨by omega, h.2⟩
      · intro h; exact ⟨by omega, h.2⟩
  constructor
  · intro h d hd
    obtain ⟨i, i0, i1⟩ := onL_e.mp hd
    rw [← i1]
    exact fun q => h (i : Int) (inN_e.mpr ⟨by omega, by omega⟩) ((e i i0).mp q)
  · intro h v hv
    have r := inN_e.mp hv
    have := h (rd M 103 v) (onL_e.mpr ⟨v.toNat, by omega, by rw [show ((v.toNat : Nat) : Int) = v by omega]⟩)
    have ee := e v.toNat (by omega)
    rw [show ((v.toNat : Nat) : Int) = v by omega] at ee
    exact fun q => this (ee.mpr q)
theorem KS_rel {n : Nat} {M m : Mem} (hI : Inv n M) {N c : Nat} (hN : rd M 31 2 = (N : Int)) (h2 : 2 ≤ N) (h6 : N ≤ 6) (hw : Wm M m N c) (k : Int) : CS (RTm M m N k) = CS (BT M N c k) := CS_rel (Rel_c hI hN h2 h6 hw k)
