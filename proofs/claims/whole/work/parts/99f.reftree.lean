/-! the reference's finding: is it a tree, its days, its cost -/
/-- what lives and is read while it finds -/
def BR (M m : Mem) : Prop := (∀ k i, (k = 83 ∧ (i = 1 ∨ i = 28)) ∨ (84 ≤ k ∧ k ≤ 95) ∨ k = 103 → rd m k i = rd M k i) ∧ rd m 83 25 = -1
theorem BR_s {M m m' : Mem} (h : BR M m) (g : ∀ k i, ¬ ((k = 83 ∧ (i = 24 ∨ i = 32 ∨ i = 33)) ∨ (96 ≤ k ∧ k ≤ 102) ∨ (104 ≤ k ∧ k ≤ 106)) → m' k i = m k i) : BR M m' :=
  ⟨fun k i a => by rw [rd_eq (g k i (by omega))]; exact h.1 k i a, by rw [rd_eq (g 83 25 (by omega))]; exact h.2⟩
def H104 (m : Mem) (N c p : Nat) : Prop := ∀ j : Nat, j < p → rd m 104 (j : Int) = ((mo N c j : Nat) : Int)
theorem L11_ot14 {m : Mem} {N c : Nat} (h2 : 2 ≤ N) (h6 : N ≤ 6) (a28 : rd m 83 28 = (N : Int)) (h : H104 m N c N) {kk : Int → Option Int} : ∀ (d t i x : Nat), i + d = N → d < t → (x = 9 ∨ x < N) → L11_isOneTree_14 m kk t (x : Int) (i : Int) = kk ((itr (mo N c) d x : Nat) : Int) := by
  intro d
  induction d with
  | zero =>
    intro t i x h0 h1 hx
    obtain ⟨t, rfl⟩ : ∃ i, t = i + 1 := ⟨t - 1, by omega⟩
    rw [L11_isOneTree_14, a28, if_pos (by omega)]; rfl
  | succ d ih =>
    intro t i x h0 h1 hx
    obtain ⟨t, rfl⟩ : ∃ i, t = i + 1 := ⟨t - 1, by omega⟩
    have e : itr (mo N c) (d + 1) x = if x = 9 then 9 else itr (mo N c) d (mo N c x) := rfl
    rw [L11_isOneTree_14, a28, if_neg (by omega), e]
    by_cases z : x = 9
    · rw [if_pos (by omega), if_pos z, z]
    · have o := mo_r (N := N) (c := c) (p := x) h2
      rw [if_neg (by omega), if_neg z, gd_t (by omega), h x (by omega), w32_id (x := (i : Int) + 1) (by omega) (by omega), show (i : Int) + 1 = ((i + 1 : Nat) : Int) by omega]
      exact ih t (i + 1) (mo N c x) (by omega) (by omega) (by omega)
theorem L11_ot2 {m : Mem} {N c : Nat} (h2 : 2 ≤ N) (h6 : N ≤ 6) (a28 : rd m 83 28 = (N : Int)) (h : H104 m N c N) : ∀ (d t j : Nat), j + d = N → d < t → ∃ r : Int, L11_isOneTree_2 m t (j : Int) = some r ∧ (r = 0 ∨ r = 1) ∧ (r = 1 ↔ ∀ v, j ≤ v → v < N → itr (mo N c) N v = 9) := by
  intro d
  induction d with
  | zero =>
    intro t j h0 h1
    obtain ⟨t, rfl⟩ : ∃ i, t = i + 1 := ⟨t - 1, by omega⟩
    rw [L11_isOneTree_2, a28, if_pos (by omega)]
    exact ⟨1, rfl, Or.inr rfl, ⟨fun _ v a b => by omega, fun _ => rfl⟩⟩
  | succ d ih =>
    intro t j h0 h1
    obtain ⟨t, rfl⟩ : ∃ i, t = i + 1 := ⟨t - 1, by omega⟩
    rw [L11_isOneTree_2, a28, if_neg (by omega), show L11_isOneTree_14 m _ FU (j : Int) (0 : Int) = _ from L11_ot14 h2 h6 a28 h N FU 0 j (by omega) (by rw [FU_eq]; omega) (by omega)]
    try dsimp only
    by_cases z : itr (mo N c) N j = 9
    · rw [if_pos (by omega), w32_id (x := (j : Int) + 1) (by omega) (by omega), show (j : Int) + 1 = ((j + 1 : Nat) : Int) by omega]
      obtain ⟨r, x, y, w⟩ := ih t (j + 1) (by omega) (by omega)
      refine ⟨r, x, y, w.trans ⟨fun q v a b => ?_, fun q v a b => q v (by omega) b⟩⟩
      by_cases e : v = j
      · rw [e]; exact z
      · exact q v (by omega) b
    · rw [if_neg (by omega)]
      exact ⟨0, rfl, Or.inl rfl, ⟨fun q => by omega, fun q => absurd (q j (Nat.le_refl _) (by omega)) z⟩⟩
theorem ot_e {m : Mem} {N c : Nat} (h2 : 2 ≤ N) (h6 : N ≤ 6) (a28 : rd m 83 28 = (N : Int)) (h : H104 m N c N) : ∃ r : Int, F11_isOneTree m = some r ∧ (r = 0 ∨ r = 1) ∧ (r = 1 ↔ Rk (mo N c) N) := by
  obtain ⟨r, x, y, w⟩ := L11_ot2 h2 h6 a28 h N FU 0 (by omega) (by rw [FU_eq]; omega)
  refine ⟨r, x, y, w.trans ⟨fun q => rk_itr h6 (okm_mo h2) (fun v hv => q v (Nat.zero_le _) hv), fun q v _ hv => itr_of h6 (okm_mo h2) q v hv⟩⟩
theorem L11_w10 {kk : Mem → Option Mem} : ∀ (d t : Nat) (j : Int) (m : Mem), j + d = 12 → 0 ≤ j → d < t → L11_weigh_10 kk t j m = kk (fil m 97 j 12 0) := by
  intro d
  induction d with
  | zero =>
    intro t j m h0 h1 h2
    obtain ⟨t, rfl⟩ : ∃ i, t = i + 1 := ⟨t - 1, by omega⟩
    rw [L11_weigh_10, if_pos (by omega), fil_0 (by omega)]
  | succ d ih =>
    intro t j m h0 h1 h2
    obtain ⟨t, rfl⟩ : ∃ i, t = i + 1 := ⟨t - 1, by omega⟩
    rw [L11_weigh_10, if_neg (by omega), gd_t (by omega), stw_v, w32_id (x := j + 1) (by omega) (by omega), ih t (j + 1) _ (by omega) (by omega) (by omega), fil_s (by omega)]
def tg (M : Mem) (N c i : Nat) : Int := if mo N c i = 9 then -1 else rd M 103 ((mo N c i : Nat) : Int)
def WLs (M m : Mem) (N c j : Nat) : Prop := (∀ d : Int, 0 ≤ d → d < 12 → (rd m 97 d = 0 ↔ ¬ ∃ i : Nat, i < j ∧ rd M 103 (i : Int) = d)) ∧ ∀ i : Nat, i < j → rd m 96 (rd M 103 (i : Int)) = tg M N c i
theorem L11_w31 {n : Nat} {M : Mem} (hI : Inv n M) {N c : Nat} (hN : rd M 31 2 = (N : Int)) (h2 : 2 ≤ N) (h6 : N ≤ 6) {kk : Mem → Option Mem} : ∀ (d t j : Nat) (m : Mem), j + d = N → d < t → BR M m → rd M 83 28 = (N : Int) → H104 m N c N → WLs M m N c j → ∃ m', L11_weigh_31 kk t (j : Int) m = kk m' ∧ (∀ k i, k ≠ 96 → k ≠ 97 → m' k i = m k i) ∧ WLs M m' N c N := by
  intro d
  induction d with
  | zero =>
    intro t j m h0 h1 hb a28 h hw
    obtain ⟨t, rfl⟩ : ∃ i, t = i + 1 := ⟨t - 1, by omega⟩
    rw [L11_weigh_31, hb.1 83 28 (by omega), a28, if_pos (by omega)]
    exact ⟨m, rfl, fun _ _ _ _ => rfl, by rw [show N = j by omega] at hw ⊢; exact hw⟩
  | succ d ih =>
    intro t j m h0 h1 hb a28 h hw
    obtain ⟨t, rfl⟩ : ∃ i, t = i + 1 := ⟨t - 1, by omega⟩
    have l := li_r hI hN (v := (j : Int)) (by omega) (by omega)
    have o := mo_r (N := N) (c := c) (p := j) h2
    have e103 : ∀ i, rd m 103 i = rd M 103 i := fun i => hb.1 103 i (by omega)
    rw [L11_weigh_31, hb.1 83 28 (by omega), a28, if_neg (by omega), gd_t (by omega), e103, gd_t (by omega), stw_v, gd_t (by omega), gd_t (by omega)]
    simp only [jn_v]
    obtain ⟨u, hu⟩ : ∃ u, u = wr m 97 (rd M 103 (j : Int)) 1 := ⟨_, rfl⟩
    rw [← hu]
    have uo : ∀ k i, k ≠ 97 → rd u k i = rd m k i := fun k i a => by rw [hu, rd_wr_k a]
    have tb : inR (tg M N c j) := by
      unfold tg; split
      · exact ⟨by omega, by omega⟩
      · exact rd_in _ _ _
    have key : (if rd u 104 (j : Int) ≠ 9 then gd (0 ≤ (j : Int) ∧ (j : Int) < 6) <| gd (0 ≤ rd u 104 (j : Int) ∧ rd u 104 (j : Int) < 6) <| (gd (0 ≤ rd u 103 (j : Int) ∧ rd u 103 (j : Int) < 12) <| stw u 96 (rd u 103 (j : Int)) (rd u 103 (rd u 104 (j : Int))) fun m87 => L11_weigh_31 kk t (w32 ((j : Int) + 1)) m87) else (gd (0 ≤ rd u 103 (j : Int) ∧ rd u 103 (j : Int) < 12) <| stw u 96 (rd u 103 (j : Int)) (-1) fun m87 => L11_weigh_31 kk t (w32 ((j : Int) + 1)) m87)) = L11_weigh_31 kk t (w32 ((j : Int) + 1)) (wr u 96 (rd M 103 (j : Int)) (tg M N c j)) := by
      rw [uo 104 _ (by omega), h j (by omega), uo 103 _ (by omega), uo 103 _ (by omega), e103, e103]
      unfold tg
      by_cases z : mo N c j = 9
      · rw [if_neg (by omega), if_pos z, gd_t (by omega), stw_v]
      · rw [if_pos (by omega), if_neg z, gd_t (by omega), gd_t (by omega), gd_t (by omega), stw_v]
    rw [key, w32_id (x := (j : Int) + 1) (by omega) (by omega), show (j : Int) + 1 = ((j + 1 : Nat) : Int) by omega]
    obtain ⟨q, hq⟩ : ∃ q, q = wr u 96 (rd M 103 (j : Int)) (tg M N c j) := ⟨_, rfl⟩
    rw [← hq]
    have qo : ∀ k i, k ≠ 96 → k ≠ 97 → q k i = m k i := fun k i a b => by rw [hq, wr_ki (by omega), hu, wr_ki (by omega)]
    obtain ⟨m', x, y, z⟩ := ih t (j + 1) q (by omega) (by omega) (BR_s hb (fun k i a => qo k i (by omega) (by omega))) a28 (fun i hi => by rw [rd_eq (qo 104 (i : Int) (by omega) (by omega))]; exact h i hi) ⟨fun d' d0 d1 => by
      rw [hq, rd_wr_k (by omega), hu, rd_wr_c]
      by_cases e : d' = rd M 103 (j : Int)
      · rw [if_pos e, w32_id (by omega) (by omega)]
        exact ⟨fun h => by omega, fun h => absurd ⟨j, by omega, e.symm⟩ h⟩
      · rw [if_neg e, hw.1 d' d0 d1]
        constructor
        · rintro h ⟨i, i0, i1⟩
          by_cases g : i = j
          · rw [g] at i1; exact e i1.symm
          · exact h ⟨i, by omega, i1⟩
        · rintro h ⟨i, i0, i1⟩
          exact h ⟨i, by omega, i1⟩, fun i hi => by
      rw [hq, rd_wr_c]
      by_cases e : i = j
      · rw [e, if_pos rfl]; exact w32_id tb.1 tb.2
      · rw [if_neg (fun g => e (li_i hI hN (by omega) (by omega) g)), hu, rd_wr_k (by omega)]
        exact hw.2 i (by omega)⟩
    exact ⟨m', x, fun k i a b => by rw [y k i a b]; exact qo k i a b, z⟩
/-- the best codes as the reference keeps them -/
def RST (m : Mem) (N : Nat) (s : List Nat × Int) : Prop := rd m 83 33 = (s.1.length : Int) ∧ (s.1.length ≠ 0 → rd m 83 32 = s.2 ∧ ∀ p d : Nat, p < N → d < 10 → rd m 106 (10 * (p : Int) + (d : Int)) = ((nl (fun x => mo N x p) d s.1 : Nat) : Int)) ∧ ∀ i : Nat, i < s.1.length → rd m 105 (i : Int) = ((c10 (mo N (s.1.getD i 0)) N : Nat) : Int)
theorem RST_s {m m' : Mem} {N : Nat} {s : List Nat × Int} (h : RST m N s) (g : ∀ k i, (k = 83 ∧ (i = 32 ∨ i = 33)) ∨ k = 105 ∨ k = 106 → m' k i = m k i) : RST m' N s := by
  have g' : ∀ k i, (k = 83 ∧ (i = 32 ∨ i = 33)) ∨ k = 105 ∨ k = 106 → rd m' k i = rd m k i := fun k i a => rd_eq (g k i a)
  exact ⟨by rw [g' _ _ (by omega)]; exact h.1, fun a => ⟨by rw [g' _ _ (by omega)]; exact (h.2.1 a).1, fun p d x y => by rw [g' _ _ (by omega)]; exact (h.2.1 a).2 p d x y⟩, fun i hi => by rw [g' _ _ (by omega)]; exact h.2.2 i hi⟩
/-- the costs added, up to the best -/
theorem L11_w110 {n : Nat} {M m0 : Mem} (hI : Inv n M) {N c : Nat} (hN : rd M 31 2 = (N : Int)) (h2 : 2 ≤ N) (h6 : N ≤ 6) (hT : Rk (mo N c) N) (hw : Wm M m0 N c) {s : List Nat × Int} {kk : Int → Mem → Option Mem} : ∀ (d t k : Nat) (v : Int) (m : Mem), k + d = 16 → d < t → BR M m → RST m N s → TR m (rd M 83 1) (onL M N) (fun d => rd m0 96 d) → rd m 83 24 = (cI (onL M N) : Int) → Od (onL M N) (fun d => rd m0 96 d) (cI (onL M N) : Int) (fun i => rd m 100 i) → v = sm (fun k => CS (BT M N c k)) k →
    ∃ v' m', L11_weigh_110 kk t v (k : Int) m = kk v' m' ∧ (∀ k i, k ≠ 98 → m' k i = m k i) ∧ (v' = KS M N c ∨ (s.1.length ≠ 0 ∧ s.2 < v' ∧ v' ≤ KS M N c)) := by
  intro d
  induction d with
  | zero =>
    intro t k v m h0 h1 hb hr ht h24 ho hv
    obtain ⟨t, rfl⟩ : ∃ i, t = i + 1 := ⟨t - 1, by omega⟩
    rw [L11_weigh_110, if_pos (by omega)]
    refine ⟨v, m, rfl, fun _ _ _ => rfl, Or.inl ?_⟩
    rw [hv, show k = 16 by omega]; rfl
  | succ d ih =>
    intro t k v m h0 h1 hb hr ht h24 ho hv
    obtain ⟨t, rfl⟩ : ∃ i, t = i + 1 := ⟨t - 1, by omega⟩
    have cb : ∀ i : Nat, i < 16 → 0 ≤ CS (BT M N c (i : Int)) ∧ CS (BT M N c (i : Int)) ≤ 13068 := fun i hi => CS_b (BT_k hI hN h2 h6 hT (by omega) (by omega))
    have vb : 0 ≤ v ∧ v ≤ 13068 * (k : Int) := by rw [hv]; exact sm_b k (fun i hi => cb i (by omega))
    have le : ∀ e : Nat, k + e ≤ 16 → v ≤ sm (fun k => CS (BT M N c k)) (k + e) := by
      intro e
      induction e with
      | zero => intro _; rw [hv]; exact Int.le_refl _
      | succ e ih' =>
        intro he
        have := ih' (by omega)
        have := cb (k + e) (by omega)
        show v ≤ sm (fun k => CS (BT M N c k)) (k + e) + CS (BT M N c ((k + e : Nat) : Int))
        omega
    have kv : v ≤ KS M N c := by
      have := le (16 - k) (by omega)
      rw [show k + (16 - k) = 16 by omega] at this
      exact this
    rw [L11_weigh_110, if_neg (by omega)]
    simp only [jn_v]
    have go : ∃ v' m', (b2 (F11_costOf m (k : Int)) fun r134 m134 => L11_weigh_110 kk t (w32 (v + r134)) (w32 ((k : Int) + 1)) m134) = kk v' m' ∧ (∀ k i, k ≠ 98 → m' k i = m k i) ∧ (v' = KS M N c ∨ (s.1.length ≠ 0 ∧ s.2 < v' ∧ v' ≤ KS M N c)) := by
      have tk := RTm_k hI hN h2 h6 hw hT (k := (k : Int)) (by omega) (by omega)
      have rq : RQ m (rd M 83 1) (k : Int) (RTm M m0 N (k : Int)) := by
        refine ⟨ht, h24, ho, fun v f hv f0 f1 => ?_, fun f g _ _ _ _ => ?_, by omega, by omega⟩
        · show decide (rd M 89 (16 * v + (k : Int)) = 9 ∨ rd M 89 (16 * v + (k : Int)) = f) = true ↔ _
          have v0 := (tk.1.1 v hv).1
          rw [decide_eq_true_iff, hb.2, hb.1 89 _ (by omega)]
          constructor
          · rintro (h | h)
            · exact Or.inr (Or.inl h)
            · exact Or.inr (Or.inr h)
          · rintro (h | h | h)
            · omega
            · exact Or.inl h
            · exact Or.inr h
        · show stp (rd M 90 0) (rd M 90 1) (rd M 90 2) f g = _
          rw [hb.1 90 0 (by omega), hb.1 90 1 (by omega), hb.1 90 2 (by omega)]
      obtain ⟨m1, x1, y1, _⟩ := costR_e tk rq
      have ck := cb k (by omega)
      rw [KS_rel hI hN h2 h6 hw] at x1
      rw [x1, b2_v, w32_id (x := v + CS (BT M N c (k : Int))) (by omega) (by omega), w32_id (x := (k : Int) + 1) (by omega) (by omega), show (k : Int) + 1 = ((k + 1 : Nat) : Int) by omega]
      have e100 : (fun i => rd m1 100 i) = fun i => rd m 100 i := by funext i; exact rd_eq (y1 _ _ (by omega))
      obtain ⟨v', m', p, q, r⟩ := ih t (k + 1) (v + CS (BT M N c (k : Int))) m1 (by omega) (by omega) (BR_s hb (fun k i a => y1 k i (by omega))) (RST_s hr (fun k i a => y1 k i (by omega))) (TR_s ht (rd_eq (y1 _ _ (by omega))) (fun c => rd_eq (y1 _ _ (by omega))) (fun c => rd_eq (y1 _ _ (by omega)))) (by rw [rd_eq (y1 _ _ (by omega))]; exact h24) (by rw [e100]; exact ho) (by rw [hv]; rfl)
      exact ⟨v', m', p, fun k i a => by rw [q k i a]; exact y1 k i a, r⟩
    by_cases z : s.1.length = 0
    · rw [hr.1, if_pos (by omega)]; exact go
    · rw [hr.1, if_neg (by omega), (hr.2.1 z).1]
      by_cases w : s.2 < v
      · rw [if_pos w]
        exact ⟨v, m, rfl, fun _ _ _ => rfl, Or.inr ⟨z, w, kv⟩⟩
      · rw [if_neg w]; exact go
