/-! the pairs, in their order -/
def prI (m : Mem) (a : Int) : Nat → Int → List Int
  | 0, _ => []
  | d + 1, b => if clV m a b = true then (16 * a + b) :: prI m a d (b + 1) else prI m a d (b + 1)
def prO (m : Mem) : Nat → Int → List Int
  | 0, _ => []
  | d + 1, a => prI m a (15 - a).toNat (a + 1) ++ prO m d (a + 1)
def PR (m : Mem) : List Int := prO m 16 0
theorem prI_e (m : Mem) (a : Int) (d : Nat) (b : Int) : prI m a (d + 1) b = if clV m a b = true then (16 * a + b) :: prI m a d (b + 1) else prI m a d (b + 1) := rfl
theorem prO_e (m : Mem) (d : Nat) (a : Int) : prO m (d + 1) a = prI m a (15 - a).toNat (a + 1) ++ prO m d (a + 1) := rfl
theorem prI_s {m m' : Mem} (h : Sm m m') (a : Int) : ∀ d b, prI m' a d b = prI m a d b
  | 0, _ => rfl
  | d + 1, b => by rw [prI_e, prI_e, clV_s h, prI_s h a d]
theorem prO_s {m m' : Mem} (h : Sm m m') : ∀ d a, prO m' d a = prO m d a
  | 0, _ => rfl
  | d + 1, a => by rw [prO_e, prO_e, prI_s h, prO_s h d]
theorem PR_s {m m' : Mem} (h : Sm m m') : PR m' = PR m := prO_s h 16 0
theorem prI_in {m : Mem} {a : Int} : ∀ (d : Nat) (b x : Int), x ∈ prI m a d b → 16 * a + b ≤ x ∧ x < 16 * a + b + d ∧ clV m a (x - 16 * a) = true
  | 0, b, x, h => by cases h
  | d + 1, b, x, h => by
    rw [prI_e] at h
    by_cases z : clV m a b = true
    · rw [if_pos z] at h
      rcases List.mem_cons.mp h with rfl | h
      · exact ⟨by omega, by omega, by rw [show 16 * a + b - 16 * a = b by omega]; exact z⟩
      · have := prI_in d (b + 1) x h; exact ⟨by omega, by omega, this.2.2⟩
    · rw [if_neg z] at h
      have := prI_in d (b + 1) x h; exact ⟨by omega, by omega, this.2.2⟩
theorem prI_mem {m : Mem} {a : Int} : ∀ (d : Nat) (b y : Int), b ≤ y → y < b + d → clV m a y = true → 16 * a + y ∈ prI m a d b
  | 0, b, y, h, h', _ => by omega
  | d + 1, b, y, h, h', hc => by
    rw [prI_e]
    by_cases e : y = b
    · subst e; rw [if_pos hc]; exact List.mem_cons_self
    · have := prI_mem (m := m) (a := a) d (b + 1) y (by omega) (by omega) hc
      split
      · exact List.mem_cons_of_mem _ this
      · exact this
theorem prI_len {m : Mem} {a : Int} : ∀ (d : Nat) (b : Int), (prI m a d b).length ≤ d
  | 0, _ => Nat.le_refl _
  | d + 1, b => by
    rw [prI_e]
    have := prI_len (m := m) (a := a) d (b + 1)
    split
    · rw [List.length_cons]; omega
    · omega
theorem L3_p15 {n : Nat} {m : Mem} (hI : Inv n m) {v1 a : Int} {k54 k37 : Int → Option Int} (ha : 0 ≤ a) : ∀ (d t : Nat) (v2 b : Int), b + d = 16 → a < b → d < t → 0 ≤ v2 → v2 + d < 1000 → L3_pair_15 m v1 a k54 k37 t v2 b = if 0 ≤ v1 - v2 ∧ v1 - v2 < ((prI m a d b).length : Int) then k37 ((prI m a d b).getD (v1 - v2).toNat 0 - 16 * a) else k54 (v2 + (prI m a d b).length) := by
  intro d
  induction d with
  | zero =>
    intro t v2 b h0 h1 h2 h3 h4
    obtain ⟨t, rfl⟩ : ∃ i, t = i + 1 := ⟨t - 1, by omega⟩
    have l0 : (prI m a 0 b).length = 0 := rfl
    rw [L3_pair_15, if_pos (by omega), if_neg (show ¬ (0 ≤ v1 - v2 ∧ v1 - v2 < ((prI m a 0 b).length : Int)) from fun z => by omega)]
    show k54 v2 = k54 (v2 + ((0 : Nat) : Int))
    congr 1; omega
  | succ d ih =>
    intro t v2 b h0 h1 h2 h3 h4
    obtain ⟨t, rfl⟩ : ∃ i, t = i + 1 := ⟨t - 1, by omega⟩
    rw [L3_pair_15, if_neg (by omega), clash_e hI ⟨ha, by omega⟩ ⟨by omega, by omega⟩, b1_v, prI_e, w32_id (x := b + 1) (by omega) (by omega), w32_id (x := v2 + 1) (by omega) (by omega), jn_v]
    by_cases z : clV m a b = true
    · rw [if_pos z, if_pos z, if_neg (by omega)]
      by_cases e : v2 = v1
      · rw [if_neg (by omega), if_pos ⟨by omega, by rw [List.length_cons]; omega⟩, show (v1 - v2).toNat = 0 by omega]
        show k37 b = k37 (16 * a + b - 16 * a)
        congr 1; omega
      · rw [if_pos e]
        dsimp only
        rw [ih t (v2 + 1) (b + 1) (by omega) (by omega) (by omega) (by omega) (by omega)]
        by_cases c : 0 ≤ v1 - (v2 + 1) ∧ v1 - (v2 + 1) < ((prI m a d (b + 1)).length : Int)
        · rw [if_pos c, if_pos ⟨by omega, by rw [List.length_cons]; omega⟩, show (v1 - v2).toNat = (v1 - (v2 + 1)).toNat + 1 by omega, List.getD_cons_succ]
        · rw [if_neg c, if_neg (fun q => c ⟨by omega, by have := q.2; rw [List.length_cons] at this; omega⟩), List.length_cons]
          congr 1; omega
    · rw [if_neg z, if_neg z, if_pos rfl]
      exact ih t v2 (b + 1) (by omega) (by omega) (by omega) h3 (by omega)
theorem getD_app {L K : List Int} {k : Nat} : (L ++ K).getD k 0 = if k < L.length then L.getD k 0 else K.getD (k - L.length) 0 := by
  rw [List.getD_eq_getElem?_getD, List.getD_eq_getElem?_getD, List.getD_eq_getElem?_getD]
  by_cases h : k < L.length
  · rw [if_pos h, List.getElem?_append_left h]
  · rw [if_neg h, List.getElem?_append_right (by omega)]
theorem getD_mem {L : List Int} {k : Nat} (h : k < L.length) : L.getD k 0 ∈ L := by
  rw [List.getD_eq_getElem?_getD, List.getElem?_eq_getElem h]; exact List.getElem_mem h
def tri : Nat → Nat
  | 0 => 0
  | a + 1 => tri a + (15 - a)
theorem tri_b : ∀ a : Fin 17, tri a ≤ 120 := by decide
theorem L3_p4 {n : Nat} {m : Mem} (hI : Inv n m) {v1 : Int} {k60 : Int → Option Int} : ∀ (d t a : Nat) (v2 : Int), a + d = 16 → d < t → 0 ≤ v2 → v2 ≤ tri a → L3_pair_4 m v1 k60 (fun (v3_37 : Int) (v4_37 : Int) => some (w32 ((w32 (16 * v3_37)) + v4_37))) t v2 (a : Int) = if 0 ≤ v1 - v2 ∧ v1 - v2 < ((prO m d (a : Int)).length : Int) then some ((prO m d (a : Int)).getD (v1 - v2).toNat 0) else k60 (v2 + (prO m d (a : Int)).length) := by
  intro d
  induction d with
  | zero =>
    intro t a v2 h0 h1 h2 h3
    obtain ⟨t, rfl⟩ : ∃ i, t = i + 1 := ⟨t - 1, by omega⟩
    have l0 : (prO m 0 (a : Int)).length = 0 := rfl
    rw [L3_pair_4, if_pos (by omega), if_neg (show ¬ (0 ≤ v1 - v2 ∧ v1 - v2 < ((prO m 0 (a : Int)).length : Int)) from fun z => by omega)]
    show k60 v2 = k60 (v2 + ((0 : Nat) : Int))
    congr 1; omega
  | succ d ih =>
    intro t a v2 h0 h1 h2 h3
    obtain ⟨t, rfl⟩ : ∃ i, t = i + 1 := ⟨t - 1, by omega⟩
    have tb := tri_b ⟨a, by omega⟩
    dsimp only at tb
    have pl := prI_len (m := m) (a := (a : Int)) (15 - (a : Int)).toNat ((a : Int) + 1)
    have e : tri (a + 1) = tri a + (15 - a) := rfl
    rw [L3_pair_4, if_neg (by omega), w32_id (x := (a : Int) + 1) (by omega) (by omega), L3_p15 hI (by omega) (15 - (a : Int)).toNat FU v2 ((a : Int) + 1) (by omega) (by omega) (by rw [FU_eq]; omega) h2 (by omega), prO_e]
    obtain ⟨L, hL⟩ : ∃ L, L = prI m (a : Int) (15 - (a : Int)).toNat ((a : Int) + 1) := ⟨_, rfl⟩
    rw [← hL] at pl ⊢
    by_cases c : 0 ≤ v1 - v2 ∧ v1 - v2 < (L.length : Int)
    · have lt : (v1 - v2).toNat < L.length := by omega
      have mm := getD_mem lt
      have r := prI_in _ _ _ (show L.getD (v1 - v2).toNat 0 ∈ prI m (a : Int) (15 - (a : Int)).toNat ((a : Int) + 1) by rw [← hL]; exact mm)
      rw [if_pos c, if_pos ⟨c.1, by rw [List.length_append]; omega⟩, getD_app, if_pos lt, w32_id (x := 16 * (a : Int)) (by omega) (by omega), show 16 * (a : Int) + (L.getD (v1 - v2).toNat 0 - 16 * (a : Int)) = L.getD (v1 - v2).toNat 0 by omega, w32_id (by omega) (by omega)]
    · rw [if_neg c, show (a : Int) + 1 = ((a + 1 : Nat) : Int) by omega, ih t (a + 1) (v2 + (L.length : Int)) (by omega) (by omega) (by omega) (by omega)]
      by_cases x : 0 ≤ v1 - (v2 + (L.length : Int)) ∧ v1 - (v2 + (L.length : Int)) < ((prO m d ((a + 1 : Nat) : Int)).length : Int)
      · rw [if_pos x, if_pos ⟨by omega, by rw [List.length_append]; omega⟩, getD_app, if_neg (by omega), show (v1 - v2).toNat - L.length = (v1 - (v2 + (L.length : Int))).toNat by omega]
      · rw [if_neg x, if_neg (fun q => by rw [List.length_append] at q; omega), List.length_append]
        congr 1; omega
def pairsV (m : Mem) (i : Int) : Int := if -1 ≤ i then (if 0 ≤ i then (if i < (PR m).length then (PR m).getD i.toNat 0 else -1) else (PR m).length) else -1
theorem dpairs {n : Nat} {m : Mem} (hI : Inv n m) (i : Int) : F10_pairs m i = some (pairsV m i) := by
  unfold F10_pairs pairsV
  by_cases a : -1 ≤ i
  · have x := L3_p4 hI (v1 := i) (k60 := fun (v2_60 : Int) => if i ≠ (-1) then some ((-1)) else some v2_60) 16 FU 0 0 (by omega) (by rw [FU_eq]; omega) (by omega) (by show (0 : Int) ≤ ((0 : Nat) : Int); omega)
    rw [if_pos a, if_pos a]
    have y : F3_pair m i = _ := x
    rw [y]
    show b1 (if 0 ≤ i - 0 ∧ i - 0 < ((PR m).length : Int) then some ((PR m).getD (i - 0).toNat 0) else if i ≠ -1 then some (-1) else some (0 + ((PR m).length : Int))) (fun r14 => some r14) = _
    rw [show i - 0 = i by omega]
    by_cases b : 0 ≤ i
    · rw [if_pos b]
      by_cases c : i < ((PR m).length : Int)
      · rw [if_pos ⟨b, c⟩, if_pos c, b1_v]
      · rw [if_neg (fun z => c z.2), if_neg c, if_pos (by omega), b1_v]
    · rw [if_neg b, if_neg (fun z => b z.1), if_neg (by omega), b1_v]; congr 1; omega
  · rw [if_neg a, if_neg a]
/-! the reference's pairs -/
theorem L11_fp17 {n : Nat} {M : Mem} (hI : Inv n M) {a : Nat} (ha : a < 16) {kk : Mem → Option Mem} : ∀ (d t : Nat) (b : Int) (m : Mem) (N : Nat), b + d = 16 → (a : Int) < b → d < t → (∀ k i, ¬ (k = 83 ∧ i = 40) → k ≠ 111 → m k i = M k i) → rd m 83 40 = (N : Int) → (N : Int) ≤ tri a + (b - a - 1) →
    ∃ m', L11_findPairs_17 (a : Int) kk t b m = kk m' ∧ (∀ k i, ¬ (k = 83 ∧ i = 40) → k ≠ 111 → m' k i = m k i) ∧ rd m' 83 40 = (N : Int) + (prI M (a : Int) d b).length ∧ (∀ i : Nat, i < N → rd m' 111 (i : Int) = rd m 111 (i : Int)) ∧ ∀ i : Nat, i < (prI M (a : Int) d b).length → rd m' 111 ((N + i : Nat) : Int) = (prI M (a : Int) d b).getD i 0 := by
  have tb := tri_b ⟨a, by omega⟩
  have tb2 := tri_b ⟨a + 1, by omega⟩
  dsimp only at tb tb2
  have te : tri (a + 1) = tri a + (15 - a) := rfl
  intro d
  induction d with
  | zero =>
    intro t b m N h0 h1 h2 ho hN hb
    obtain ⟨t, rfl⟩ : ∃ i, t = i + 1 := ⟨t - 1, by omega⟩
    rw [L11_findPairs_17, if_pos (by omega)]
    exact ⟨m, rfl, fun _ _ _ _ => rfl, by rw [hN]; show (N : Int) = (N : Int) + ((0 : Nat) : Int); omega, fun _ _ => rfl, fun i hi => absurd hi (Nat.not_lt_zero _)⟩
  | succ d ih =>
    intro t b m N h0 h1 h2 ho hN hb
    obtain ⟨t, rfl⟩ : ∃ i, t = i + 1 := ⟨t - 1, by omega⟩
    have cl : F11_doClash m (a : Int) b = some (if clV M (a : Int) b = true then 1 else 0) := by
      rw [lo_F11_doClash (m := M) (m' := m) (rd_eq (ho _ _ (by omega) (by omega))) (fun i => rd_eq (ho _ _ (by omega) (by omega)))]
      exact doClash_e hI ⟨by omega, by omega⟩ ⟨by omega, by omega⟩
    rw [L11_findPairs_17, if_neg (by omega), cl, b1_v, prI_e, w32_id (x := b + 1) (by omega) (by omega), jn_v]
    by_cases z : clV M (a : Int) b = true
    · rw [if_pos z, if_pos z, if_pos (by omega), hN, gd_t (by omega), stw_v, stw_v, w32_id (x := 16 * (a : Int)) (by omega) (by omega), w32_id (x := 16 * (a : Int) + b) (by omega) (by omega), rd_wr_k (by omega), hN, w32_id (x := (N : Int) + 1) (by omega) (by omega)]
      obtain ⟨q, hq⟩ : ∃ q, q = wr (wr m 111 (N : Int) (16 * (a : Int) + b)) 83 40 ((N : Int) + 1) := ⟨_, rfl⟩
      rw [← hq]
      have qN : rd q 111 (N : Int) = 16 * (a : Int) + b := by rw [hq, rd_wr_k (by omega), rd_wr_s]; exact w32_id (by omega) (by omega)
      have qi : ∀ i : Nat, i ≠ N → rd q 111 (i : Int) = rd m 111 (i : Int) := fun i hi => by rw [hq, rd_wr_k (by omega), rd_wr_i (by omega)]
      obtain ⟨m', p1, p2, p3, p4, p5⟩ := ih t (b + 1) q (N + 1) (by omega) (by omega) (by omega) (fun k i x y => by rw [hq, wr_ki x, wr_ka y]; exact ho k i x y) (by rw [hq, rd_wr_s, w32_id (by omega) (by omega)]; omega) (by omega)
      refine ⟨m', p1, fun k i x y => by rw [p2 k i x y, hq, wr_ki x, wr_ka y], by rw [p3, List.length_cons]; omega, fun i hi => by rw [p4 i (by omega)]; exact qi i (by omega), fun i hi => ?_⟩
      cases i with
      | zero => rw [Nat.add_zero, p4 N (by omega), qN]; rfl
      | succ i =>
        rw [List.getD_cons_succ, ← p5 i (by rw [List.length_cons] at hi; omega), show N + (i + 1) = N + 1 + i by omega]
    · rw [if_neg z, if_neg z, if_neg (by omega)]
      exact ih t (b + 1) m N (by omega) (by omega) (by omega) ho hN (by omega)
theorem L11_fp7 {n : Nat} {M : Mem} (hI : Inv n M) : ∀ (d t a : Nat) (m : Mem) (N : Nat), a + d = 16 → d < t → (∀ k i, ¬ (k = 83 ∧ i = 40) → k ≠ 111 → m k i = M k i) → rd m 83 40 = (N : Int) → N ≤ tri a →
    ∃ m', L11_findPairs_7 t (a : Int) m = some m' ∧ (∀ k i, ¬ (k = 83 ∧ i = 40) → k ≠ 111 → m' k i = m k i) ∧ rd m' 83 40 = (N : Int) + (prO M d (a : Int)).length ∧ (∀ i : Nat, i < N → rd m' 111 (i : Int) = rd m 111 (i : Int)) ∧ ∀ i : Nat, i < (prO M d (a : Int)).length → rd m' 111 ((N + i : Nat) : Int) = (prO M d (a : Int)).getD i 0 := by
  intro d
  induction d with
  | zero =>
    intro t a m N h0 h1 ho hN hb
    obtain ⟨t, rfl⟩ : ∃ i, t = i + 1 := ⟨t - 1, by omega⟩
    rw [L11_findPairs_7, if_pos (by omega)]
    exact ⟨m, rfl, fun _ _ _ _ => rfl, by rw [hN]; show (N : Int) = (N : Int) + ((0 : Nat) : Int); omega, fun _ _ => rfl, fun i hi => absurd hi (Nat.not_lt_zero _)⟩
  | succ d ih =>
    intro t a m N h0 h1 ho hN hb
    obtain ⟨t, rfl⟩ : ∃ i, t = i + 1 := ⟨t - 1, by omega⟩
    have pl := prI_len (m := M) (a := (a : Int)) (15 - (a : Int)).toNat ((a : Int) + 1)
    have te : tri (a + 1) = tri a + (15 - a) := rfl
    obtain ⟨m1, x1, y1, z1, w1, v1⟩ := L11_fp17 hI (a := a) (by omega) (kk := fun (m_66 : Mem) => L11_findPairs_7 t ((a + 1 : Nat) : Int) m_66) (15 - (a : Int)).toNat FU ((a : Int) + 1) m N (by omega) (by omega) (by rw [FU_eq]; omega) ho hN (by omega)
    rw [L11_findPairs_7, if_neg (by omega), w32_id (x := (a : Int) + 1) (by omega) (by omega), prO_e]
    obtain ⟨L, hL⟩ : ∃ L, L = prI M (a : Int) (15 - (a : Int)).toNat ((a : Int) + 1) := ⟨_, rfl⟩
    rw [← hL] at pl z1 v1 ⊢
    have x1' : L11_findPairs_17 (a : Int) (fun (m_66 : Mem) => L11_findPairs_7 t ((a : Int) + 1) m_66) FU ((a : Int) + 1) m = L11_findPairs_7 t ((a + 1 : Nat) : Int) m1 := by
      rw [← x1]; rfl
    rw [x1']
    obtain ⟨m', p1, p2, p3, p4, p5⟩ := ih t (a + 1) m1 (N + L.length) (by omega) (by omega) (fun k i x y => by rw [y1 k i x y]; exact ho k i x y) (by rw [z1]; omega) (by omega)
    rw [show ((a + 1 : Nat) : Int) = (a : Int) + 1 by omega] at p3 p5
    refine ⟨m', p1, fun k i x y => by rw [p2 k i x y]; exact y1 k i x y, by rw [p3, List.length_append]; omega, fun i hi => by rw [p4 i (by omega)]; exact w1 i hi, fun i hi => ?_⟩
    rw [getD_app]
    by_cases c : i < L.length
    · rw [if_pos c, p4 (N + i) (by omega)]; exact v1 i c
    · rw [if_neg c]
      rw [List.length_append] at hi
      have := p5 (i - L.length) (by omega)
      rw [show N + L.length + (i - L.length) = N + i by omega] at this
      exact this
theorem PR_len {m : Mem} : (PR m).length ≤ 120 := by
  have key : ∀ (d a : Nat), a + d = 16 → (prO m d (a : Int)).length + tri a ≤ 120 := by
    intro d
    induction d with
    | zero =>
      intro a h
      have := tri_b ⟨a, by omega⟩
      show 0 + tri a ≤ 120
      dsimp only at this; omega
    | succ d ih =>
      intro a h
      have pl := prI_len (m := m) (a := (a : Int)) (15 - (a : Int)).toNat ((a : Int) + 1)
      have te : tri (a + 1) = tri a + (15 - a) := rfl
      have := ih (a + 1) (by omega)
      rw [show ((a + 1 : Nat) : Int) = (a : Int) + 1 by omega] at this
      rw [prO_e, List.length_append]; omega
  have := key 16 0 (by omega)
  unfold PR
  have t0 : tri 0 = 0 := rfl
  rw [show ((0 : Nat) : Int) = 0 from rfl] at this
  omega
theorem findPairs_e {n : Nat} {m : Mem} (hI : Inv n m) : ∃ m', F11_findPairs m = some m' ∧ (∀ k i, ¬ (k = 83 ∧ i = 40) → k ≠ 111 → m' k i = m k i) ∧ rd m' 83 40 = ((PR m).length : Int) ∧ ∀ i : Nat, i < (PR m).length → rd m' 111 (i : Int) = (PR m).getD i 0 := by
  obtain ⟨q, hq⟩ : ∃ q, q = wr m 83 40 0 := ⟨_, rfl⟩
  obtain ⟨m', p1, p2, p3, p4, p5⟩ := L11_fp7 hI 16 FU 0 q 0 (by omega) (by rw [FU_eq]; omega) (fun k i x y => by rw [hq, wr_ki x]) (by rw [hq, rd_wr_s]; exact w32_id (by omega) (by omega)) (Nat.zero_le _)
  refine ⟨m', ?_, fun k i x y => by rw [p2 k i x y, hq, wr_ki x], ?_, fun i hi => ?_⟩
  · unfold F11_findPairs
    rw [stw_v, ← hq]; exact p1
  · rw [p3]; show ((0 : Nat) : Int) + ((PR m).length : Int) = _; omega
  · have := p5 i hi
    rw [Nat.zero_add] at this; exact this
theorem st_pairs {n : Nat} {m : Mem} (i : Int) (hI : Inv n m) : ∃ r m2, F10_pairs m i = some r ∧ F11_pairs m i = some (r, m2) ∧ Inv (n + 1) m2 := by
  obtain ⟨m', x1, y1, z1, w1⟩ := findPairs_e hI
  have s1 : Sm m m' := fun k j q => y1 k j (by unfold PS at q; omega) (by unfold PS at q; omega)
  have pl := PR_len (m := m)
  refine ⟨pairsV m i, if -1 ≤ i then m' else m, dpairs hI i, ?_, ?_⟩
  · unfold F11_pairs pairsV
    by_cases a : -1 ≤ i
    · rw [if_pos a, if_pos a, if_pos a, x1, b1_v, z1]
      by_cases b : 0 ≤ i
      · rw [if_pos b, if_pos b]
        by_cases c : i < ((PR m).length : Int)
        · have := w1 i.toNat (by omega)
          rw [show ((i.toNat : Nat) : Int) = i by omega] at this
          rw [if_neg (by omega), gd_t (by omega), if_pos c, this]
        · rw [if_pos (by omega), if_neg c]
      · rw [if_neg b, if_neg b]
    · rw [if_neg a, if_neg a, if_neg a]
  · by_cases a : -1 ≤ i
    · rw [if_pos a]; exact Inv_mono (by omega) (Inv_same s1 hI)
    · rw [if_neg a]; exact Inv_mono (by omega) hI
