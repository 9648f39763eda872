/-! the reference weighs a tree; all trees one after another -/
theorem L11_w188 {kk : Mem → Option Mem} : ∀ (d t : Nat) (j : Int) (m : Mem), j + d = 60 → 0 ≤ j → d < t → L11_weigh_188 kk t j m = kk (fil m 106 j 60 0) := by
  intro d
  induction d with
  | zero =>
    intro t j m h0 h1 h2
    obtain ⟨t, rfl⟩ : ∃ i, t = i + 1 := ⟨t - 1, by omega⟩
    rw [L11_weigh_188, if_pos (by omega), fil_0 (by omega)]
  | succ d ih =>
    intro t j m h0 h1 h2
    obtain ⟨t, rfl⟩ : ∃ i, t = i + 1 := ⟨t - 1, by omega⟩
    rw [L11_weigh_188, if_neg (by omega), gd_t (by omega), stw_v, w32_id (x := j + 1) (by omega) (by omega), ih t (j + 1) _ (by omega) (by omega) (by omega), fil_s (by omega)]
theorem mo_10 {N : Nat} (h2 : 2 ≤ N) (h6 : N ≤ 6) (c p : Nat) : mo N c p < 10 := by
  have := mo_r (N := N) (c := c) (p := p) h2; omega
theorem c10_m {N : Nat} (h2 : 2 ≤ N) (h6 : N ≤ 6) (c p : Nat) (hp : p ≤ 6) : c10 (mo N c) p < 1000000 := by
  have a := c10_b (g := mo N c) (mo_10 h2 h6 c) p
  have b : (10 : Nat) ^ p ≤ 10 ^ 6 := Nat.pow_le_pow_right (by omega) hp
  have e : (10 : Nat) ^ 6 = 1000000 := rfl
  omega
/-- the mothers counted: one more for each choice of the code -/
theorem L11_w211 {N c : Nat} (h2 : 2 ≤ N) (h6 : N ≤ 6) {A : Nat → Nat → Int} (hA : ∀ p d, p < N → d < 10 → 0 ≤ A p d ∧ A p d ≤ 10000) {kk : Int → Mem → Option Mem} : ∀ (d t j : Nat) (m : Mem), j + d = N → d < t → rd m 83 28 = (N : Int) → H104 m N c N → (∀ p x : Nat, p < N → x < 10 → rd m 106 (10 * (p : Int) + (x : Int)) = A p x + if p < j ∧ mo N c p = x then 1 else 0) →
    ∃ m', L11_weigh_211 kk t ((c10 (mo N c) j : Nat) : Int) (j : Int) m = kk ((c10 (mo N c) N : Nat) : Int) m' ∧ (∀ k i, k ≠ 106 → m' k i = m k i) ∧ ∀ p x : Nat, p < N → x < 10 → rd m' 106 (10 * (p : Int) + (x : Int)) = A p x + if mo N c p = x then 1 else 0 := by
  intro d
  induction d with
  | zero =>
    intro t j m h0 h1 a28 h hm
    obtain ⟨t, rfl⟩ : ∃ i, t = i + 1 := ⟨t - 1, by omega⟩
    rw [L11_weigh_211, a28, if_pos (by omega), show j = N by omega]
    refine ⟨m, rfl, fun _ _ _ => rfl, fun p x hp hx => ?_⟩
    rw [hm p x hp hx]
    by_cases z : mo N c p = x
    · rw [if_pos z, if_pos ⟨by omega, z⟩]
    · rw [if_neg z, if_neg (fun q => z q.2)]
  | succ d ih =>
    intro t j m h0 h1 a28 h hm
    obtain ⟨t, rfl⟩ : ∃ i, t = i + 1 := ⟨t - 1, by omega⟩
    have l := mo_10 h2 h6 c j
    have cm := c10_m h2 h6 c j (by omega)
    have e10 : w32 (w32 (10 * (j : Int)) + ((mo N c j : Nat) : Int)) = 10 * (j : Int) + ((mo N c j : Nat) : Int) := by rw [w32_id (x := 10 * (j : Int)) (by omega) (by omega), w32_id (by omega) (by omega)]
    have hj := hm j (mo N c j) (by omega) l
    rw [if_neg (by omega)] at hj
    have ab := hA j (mo N c j) (by omega) l
    have ec : w32 (w32 (10 * ((c10 (mo N c) j : Nat) : Int)) + ((mo N c j : Nat) : Int)) = ((c10 (mo N c) (j + 1) : Nat) : Int) := by
      rw [w32_id (x := 10 * ((c10 (mo N c) j : Nat) : Int)) (by omega) (by omega), w32_id (by omega) (by omega)]
      have : c10 (mo N c) (j + 1) = 10 * c10 (mo N c) j + mo N c j := rfl
      omega
    rw [L11_weigh_211, a28, if_neg (by omega), gd_t (by omega), gd_t (by omega), h j (by omega), e10, gd_t (by omega), gd_t (by omega), stw_v, hj, ec, w32_id (x := (j : Int) + 1) (by omega) (by omega), show (j : Int) + 1 = ((j + 1 : Nat) : Int) by omega, w32_id (x := A j (mo N c j) + 0 + 1) (by omega) (by omega)]
    obtain ⟨m', x, y, z⟩ := ih t (j + 1) (wr m 106 (10 * (j : Int) + ((mo N c j : Nat) : Int)) (A j (mo N c j) + 0 + 1)) (by omega) (by omega) (by rw [rd_wr_k (by omega)]; exact a28) (fun i hi => by rw [rd_wr_k (by omega)]; exact h i hi) (fun p x hp hx => by
      by_cases e : p = j ∧ x = mo N c j
      · rw [e.1, e.2, rd_wr_s, if_pos ⟨by omega, rfl⟩, w32_id (by omega) (by omega)]; omega
      · rw [rd_wr_i (by omega), hm p x hp hx]
        congr 1
        by_cases g : p < j ∧ mo N c p = x
        · rw [if_pos g, if_pos ⟨by omega, g.2⟩]
        · rw [if_neg g, if_neg]
          rintro ⟨q1, q2⟩
          by_cases w : p = j
          · subst w; exact e ⟨rfl, q2.symm⟩
          · exact g ⟨by omega, q2⟩)
    exact ⟨m', x, fun k i a => by rw [y k i a, wr_ki (by omega)], z⟩
theorem RST_add {m m1 m2 : Mem} {N c : Nat} {s : List Nat × Int} (h2 : 2 ≤ N) (h6 : N ≤ 6) (h33 : rd m 83 33 = (s.1.length : Int)) (h32 : rd m 83 32 = s.2) (h105 : ∀ i : Nat, i < s.1.length → rd m 105 (i : Int) = ((c10 (mo N (s.1.getD i 0)) N : Nat) : Int)) (hs : s.1.length < 7776) (f1 : ∀ k i, k ≠ 106 → m1 k i = m k i) (g1 : ∀ p x : Nat, p < N → x < 10 → rd m1 106 (10 * (p : Int) + (x : Int)) = ((nl (fun x => mo N x p) x s.1 : Nat) : Int) + if mo N c p = x then 1 else 0) (e2 : m2 = wr (wr m1 105 (s.1.length : Int) ((c10 (mo N c) N : Nat) : Int)) 83 33 ((s.1.length : Int) + 1)) : RST m2 N (s.1 ++ [c], s.2) := by
  have len : (s.1 ++ [c]).length = s.1.length + 1 := by rw [List.length_append]; rfl
  have cm := c10_m h2 h6 c N h6
  refine ⟨?_, fun _ => ⟨?_, fun p d hp hd => ?_⟩, fun i hi => ?_⟩
  · show rd m2 83 33 = ((s.1 ++ [c]).length : Int)
    rw [len, e2, rd_wr_s, w32_id (by omega) (by omega)]; omega
  · show rd m2 83 32 = s.2
    rw [e2, rd_wr_i (by omega), rd_wr_k (by omega), rd_eq (f1 _ _ (by omega))]; exact h32
  · show _ = ((nl (fun x => mo N x p) d (s.1 ++ [c]) : Nat) : Int)
    rw [e2, rd_wr_k (by omega), rd_wr_k (by omega), g1 p d hp hd, nl_app]
    split <;> omega
  · change i < (s.1 ++ [c]).length at hi
    rw [len] at hi
    show rd m2 105 (i : Int) = ((c10 (mo N ((s.1 ++ [c]).getD i 0)) N : Nat) : Int)
    rw [e2, rd_wr_k (by omega), List.getD_eq_getElem?_getD]
    by_cases z : i < s.1.length
    · rw [rd_wr_i (by omega), List.getElem?_append_left z, ← List.getD_eq_getElem?_getD, rd_eq (f1 _ _ (by omega))]; exact h105 i z
    · have : i = s.1.length := by omega
      rw [this, rd_wr_s, w32_id (by omega) (by omega), List.getElem?_append_right (Nat.le_refl _), Nat.sub_self]; rfl
/-- the places that the weighing may write -/
def PWr (k : Nat) (i : Int) : Prop := (k = 83 ∧ (i = 24 ∨ i = 32 ∨ i = 33)) ∨ (96 ≤ k ∧ k ≤ 102) ∨ k = 105 ∨ k = 106
theorem rweigh_c {n : Nat} {M m : Mem} (hI : Inv n M) {N c : Nat} (hN : rd M 31 2 = (N : Int)) (h2 : 2 ≤ N) (h6 : N ≤ 6) (hc : c < N ^ N) (hb : BR M m) (h : H104 m N c N) (root : ∃ r, r < N ∧ ∀ v, v < N → (mo N c v = 9 ↔ v = r)) (hr : RST m N (bst M N c)) : ∃ m', F11_weigh m = some m' ∧ (∀ k i, ¬ PWr k i → m' k i = m k i) ∧ RST m' N (bst M N (c + 1)) := by
  have a28 : rd M 83 28 = (N : Int) := by rw [hI.2.2.2.2.2.2.2.2.1.2.2.1, hN]
  obtain ⟨r, x, y, w⟩ := ot_e h2 h6 (by rw [hb.1 83 28 (by omega)]; exact a28) h
  have C12 := hI.1.2.1
  have C0 := hI.1.1
  unfold F11_weigh
  rw [x, b1_v]
  by_cases z : r = 0
  · rw [if_neg (fun q => q z)]
    refine ⟨m, rfl, fun _ _ _ => rfl, ?_⟩
    have e : bst M N (c + 1) = bst M N c := bl_no (Or.inl (VB_f (fun q => by have := w.mpr q.1.2; omega)))
    rw [e]; exact hr
  · have hT : Rk (mo N c) N := w.mp (by omega)
    have tc : TrC N c := ⟨root, hT⟩
    rw [if_pos z, L11_w10 12 FU 0 m (by omega) (by omega) (by rw [FU_eq]; omega)]
    obtain ⟨u, hu⟩ : ∃ u, u = fil m 97 0 12 0 := ⟨_, rfl⟩
    rw [← hu]
    have uo : ∀ k i, k ≠ 97 → u k i = m k i := fun k i a => by rw [hu, fil_k a]
    have hb1 := BR_s hb (m' := u) (fun k i a => uo k i (by omega))
    obtain ⟨m0, x0, y0, z0⟩ := L11_w31 hI hN h2 h6 (c := c) (kk := fun (m_94 : Mem) => b1 (F11_findOrder m_94) fun m95 => b2 (F11_findDays m95) fun r99 m99 => if r99 < 0 then L11_weigh_110 (fun (v1_145 : Int) (m_145 : Mem) => jn (fun (K161 : Option Mem) => if (rd m_145 83 33) ≤ 0 then K161 else if v1_145 ≤ (rd m_145 83 32) then K161 else some m_145) (jn (fun (K207 : Mem → Option Mem) => jn (fun (K176 : Option Mem) => if (rd m_145 83 33) = 0 then K176 else if (rd m_145 83 32) ≤ v1_145 then K207 m_145 else K176) (stw m_145 83 32 v1_145 fun m178 => stw m178 83 33 0 fun m183 => L11_weigh_188 (fun (m_207 : Mem) => K207 m_207) FU 0 m183)) (fun (m_207 : Mem) => L11_weigh_211 (fun (v2_257 : Int) (m_257 : Mem) => gd (0 ≤ rd m_257 83 33 ∧ rd m_257 83 33 < 7776) <| stw m_257 105 (rd m_257 83 33) v2_257 fun m266 => stw m266 83 33 (w32 ((rd m266 83 33) + 1)) fun m274 => some m274) FU 0 0 m_207))) FU 0 0 m99 else some m99) N FU 0 u (by omega) (by rw [FU_eq]; omega) hb1 a28 (fun j hj => by rw [rd_eq (uo 104 (j : Int) (by omega))]; exact h j hj) ⟨fun d d0 d1 => by
      have : rd u 97 d = 0 := by unfold rd; rw [hu, fil_i d0 d1]; exact w32_id (by omega) (by omega)
      rw [this]
      exact ⟨fun _ ⟨i, i0, _⟩ => by omega, fun _ => rfl⟩, fun i hi => by omega⟩
    rw [show L11_weigh_31 _ FU (0 : Int) u = _ from x0]
    try dsimp only
    have fr0 : ∀ k i, k ≠ 96 → k ≠ 97 → m0 k i = m k i := fun k i a b => by rw [y0 k i a b, uo k i b]
    have hb0 := BR_s hb (m' := m0) (fun k i a => fr0 k i (by omega) (by omega))
    have hw : Wm M m0 N c := fun i hi => z0.2 i hi
    have ac := acy_onL hI hN h2 h6 hw hT
    have inC : ∀ d, onL M N d = true → 0 ≤ d ∧ d < rd M 83 1 := fun d hd => by
      obtain ⟨i, i0, i1⟩ := onL_e.mp hd
      have l := li_r hI hN (v := (i : Int)) (by omega) (by omega)
      omega
    have tr : TR m0 (rd M 83 1) (onL M N) (fun d => rd m0 96 d) := by
      refine ⟨hb0.1 83 1 (by omega), ⟨C0, C12⟩, inC, fun d d0 d1 => ?_, fun _ _ => rfl⟩
      rw [z0.1 d d0 (by omega)]
      constructor
      · intro q
        cases e : onL M N d with
        | false => rfl
        | true => exact absurd (onL_e.mp e) q
      · intro q e
        rw [onL_e.mpr e] at q; cases q
    obtain ⟨m1, x1, h24, o1, y1⟩ := fo_e ac tr
    have e96 : ∀ d, rd m1 96 d = rd m0 96 d := fun d => rd_eq (y1 _ _ (by omega) (by omega))
    have tr1 : TR m1 (rd M 83 1) (onL M N) (fun d => rd m0 96 d) := TR_s tr (rd_eq (y1 _ _ (by omega) (by omega))) (fun c => rd_eq (y1 _ _ (by omega) (by omega))) (fun c => rd_eq (y1 _ _ (by omega) (by omega)))
    have hb2 := BR_s hb0 (m' := m1) (fun k i a => y1 k i (by omega) (by omega))
    have dy : ∀ d, onL M N d = true → 0 ≤ rd M 84 d ∧ rd M 84 d ≤ rd M 85 d ∧ rd M 85 d ≤ 999 := fun d hd => by
      have ch := hI.1.2.2.2.1 d (inC d hd).1 (inC d hd).2
      omega
    obtain ⟨r2, m2, x2, y2, _, r2b, la⟩ := findDays_e (m := m1) (C := rd M 83 1) (I := onL M N) (p := fun d => rd m0 96 d) (a := fun d => rd M 84 d) (b := fun d => rd M 85 d) ac dy ⟨tr1, h24, o1, fun d hd => ⟨hb2.1 84 d (by omega), hb2.1 85 d (by omega)⟩⟩
    rw [x1, b1_v, x2, b2_v]
    have dr := days_rel hI hN h2 h6 hw
    have fr2 : ∀ k i, ¬ PWr k i → m2 k i = m k i := fun k i a => by
      unfold PWr at a
      rw [y2 k i (by omega) (by omega), y1 k i (by omega) (by omega), fr0 k i (by omega) (by omega)]
    have fr2' : ∀ k i, (k = 83 ∧ (i = 32 ∨ i = 33)) ∨ k = 105 ∨ k = 106 → m2 k i = m k i := fun k i a => by
      rw [y2 k i (by omega) (by omega), y1 k i (by omega) (by omega), fr0 k i (by omega) (by omega)]
    have hr2 := RST_s hr fr2'
    by_cases q : r2 < 0
    · have vd : VD M N c := dr.mpr (by
        rcases la with la | la
        · exact la.2
        · omega)
      have vb : VB M N c = true := VB_e.mpr ⟨tc, vd⟩
      have len := bst_l1 h2 h6 hc vb
      have kb : 0 ≤ KS M N c ∧ KS M N c ≤ 13068 * (16 : Nat) := sm_b 16 (fun k hk => CS_b (BT_k hI hN h2 h6 hT (by omega) (by omega)))
      have hb3 := BR_s hb2 (m' := m2) (fun k i a => y2 k i (by omega) (by omega))
      have e100 : (fun i => rd m2 100 i) = fun i => rd m1 100 i := by funext i; exact rd_eq (y2 _ _ (by omega) (by omega))
      rw [if_pos q]
      obtain ⟨v', m3, x3, y3, hv⟩ := L11_w110 hI hN h2 h6 hT hw (s := bst M N c) (kk := fun (v1_145 : Int) (m_145 : Mem) => jn (fun (K161 : Option Mem) => if (rd m_145 83 33) ≤ 0 then K161 else if v1_145 ≤ (rd m_145 83 32) then K161 else some m_145) (jn (fun (K207 : Mem → Option Mem) => jn (fun (K176 : Option Mem) => if (rd m_145 83 33) = 0 then K176 else if (rd m_145 83 32) ≤ v1_145 then K207 m_145 else K176) (stw m_145 83 32 v1_145 fun m178 => stw m178 83 33 0 fun m183 => L11_weigh_188 (fun (m_207 : Mem) => K207 m_207) FU 0 m183)) (fun (m_207 : Mem) => L11_weigh_211 (fun (v2_257 : Int) (m_257 : Mem) => gd (0 ≤ rd m_257 83 33 ∧ rd m_257 83 33 < 7776) <| stw m_257 105 (rd m_257 83 33) v2_257 fun m266 => stw m266 83 33 (w32 ((rd m266 83 33) + 1)) fun m274 => some m274) FU 0 0 m_207))) 16 FU 0 0 m2 (by omega) (by rw [FU_eq]; omega) hb3 hr2 (TR_s tr1 (rd_eq (y2 _ _ (by omega) (by omega))) (fun c => rd_eq (y2 _ _ (by omega) (by omega))) (fun c => rd_eq (y2 _ _ (by omega) (by omega)))) (by rw [rd_eq (y2 _ _ (by omega) (by omega))]; exact h24) (by rw [e100]; exact o1) rfl
      rw [show L11_weigh_110 _ FU (0 : Int) (0 : Int) m2 = _ from x3]
      have hr3 := RST_s hr2 (m' := m3) (fun k i a => y3 k i (by omega))
      have fr3 : ∀ k i, ¬ PWr k i → m3 k i = m k i := fun k i a => by
        rw [y3 k i (by unfold PWr at a; omega), fr2 k i a]
      have h3 : H104 m3 N c N := fun j hj => by rw [rd_eq (fr3 104 (j : Int) (by unfold PWr; omega))]; exact h j hj
      have a3 : rd m3 83 28 = (N : Int) := by rw [rd_eq (fr3 83 28 (by unfold PWr; omega)), hb.1 83 28 (by omega)]; exact a28
      simp only [jn_v]
      -- one more
      have more : ∀ (m' : Mem) (s : List Nat × Int), (∀ k i, ¬ PWr k i → m' k i = m k i) → H104 m' N c N → rd m' 83 28 = (N : Int) → rd m' 83 33 = (s.1.length : Int) → rd m' 83 32 = s.2 → s.1.length < 7776 → (∀ i : Nat, i < s.1.length → rd m' 105 (i : Int) = ((c10 (mo N (s.1.getD i 0)) N : Nat) : Int)) → (∀ p d : Nat, p < N → d < 10 → rd m' 106 (10 * (p : Int) + (d : Int)) = ((nl (fun x => mo N x p) d s.1 : Nat) : Int)) → ∃ m'', (L11_weigh_211 (fun (v2_257 : Int) (m_257 : Mem) => gd (0 ≤ rd m_257 83 33 ∧ rd m_257 83 33 < 7776) <| stw m_257 105 (rd m_257 83 33) v2_257 fun m266 => stw m266 83 33 (w32 ((rd m266 83 33) + 1)) fun m274 => some m274) FU 0 0 m') = some m'' ∧ (∀ k i, ¬ PWr k i → m'' k i = m k i) ∧ RST m'' N (s.1 ++ [c], s.2) := by
        intro m' s f' h' a' k33 k32 kl k105 k106
        obtain ⟨m4, x4, y4, z4⟩ := L11_w211 (c := c) h2 h6 (A := fun p d => ((nl (fun x => mo N x p) d s.1 : Nat) : Int)) (fun p d _ _ => by
          have := nl_le (fun x => mo N x p) d s.1
          try dsimp only
          omega) (kk := fun (v2_257 : Int) (m_257 : Mem) => gd (0 ≤ rd m_257 83 33 ∧ rd m_257 83 33 < 7776) <| stw m_257 105 (rd m_257 83 33) v2_257 fun m266 => stw m266 83 33 (w32 ((rd m266 83 33) + 1)) fun m274 => some m274) N FU 0 m' (by omega) (by rw [FU_eq]; omega) a' h' (fun p x hp hx => by rw [k106 p x hp hx, if_neg (by omega)]; omega)
        rw [show L11_weigh_211 _ FU (0 : Int) (0 : Int) m' = _ from x4]
        try dsimp only
        rw [rd_eq (y4 83 33 (by omega)), k33, gd_t (by omega), stw_v, stw_v, rd_wr_k (by omega), rd_eq (y4 83 33 (by omega)), k33, w32_id (x := (s.1.length : Int) + 1) (by omega) (by omega)]
        refine ⟨_, rfl, fun k i a => ?_, RST_add h2 h6 k33 k32 k105 kl y4 z4 rfl⟩
        unfold PWr at a
        rw [wr_ki (by omega), wr_ki (by omega), y4 k i (by omega)]; exact f' k i (by unfold PWr; omega)
      by_cases ln : (bst M N c).1.length = 0
      · -- the first
        have v0 : v' = KS M N c := hv.resolve_right (fun q => q.1 ln)
        have k33 : rd m3 83 33 = 0 := by rw [hr3.1, ln]; rfl
        rw [if_pos (by omega), if_pos k33, stw_v, stw_v, L11_w188 60 FU 0 _ (by omega) (by omega) (by rw [FU_eq]; omega), v0]
        obtain ⟨u4, hu4⟩ : ∃ u4, u4 = fil (wr (wr m3 83 32 (KS M N c)) 83 33 0) 106 0 60 0 := ⟨_, rfl⟩
        rw [← hu4]
        have uo4 : ∀ k i, k ≠ 106 → ¬ (k = 83 ∧ (i = 32 ∨ i = 33)) → u4 k i = m3 k i := fun k i a b => by rw [hu4, fil_k a, wr_ki (by omega), wr_ki (by omega)]
        obtain ⟨m5, x5, y5, z5⟩ := more u4 ([], KS M N c) (fun k i a => by rw [uo4 k i (by unfold PWr at a; omega) (by unfold PWr at a; omega)]; exact fr3 k i a) (fun j hj => by rw [rd_eq (uo4 _ _ (by omega) (by omega))]; exact h3 j hj) (by rw [rd_eq (uo4 _ _ (by omega) (by omega))]; exact a3) (by
          have : rd u4 83 33 = rd (wr (wr m3 83 32 (KS M N c)) 83 33 0) 83 33 := rd_eq (by rw [hu4, fil_k (by omega)])
          rw [this, rd_wr_s]; exact w32_id (by omega) (by omega)) (by
          have : rd u4 83 32 = rd (wr (wr m3 83 32 (KS M N c)) 83 33 0) 83 32 := rd_eq (by rw [hu4, fil_k (by omega)])
          rw [this, rd_wr_i (by omega), rd_wr_s]; exact w32_id (by omega) (by omega)) (by show 0 < 7776; omega) (fun i hi => absurd hi (Nat.not_lt_zero i)) (fun p d hp hd => by
          unfold rd; rw [hu4, fil_i (by omega) (by omega)]; exact w32_id (by omega) (by omega))
        refine ⟨m5, x5, y5, ?_⟩
        have e : bst M N (c + 1) = ([c], KS M N c) := bl_new vb (Or.inl ln)
        rw [e]; exact z5
      · have k32 := (hr3.2.1 ln).1
        have k33 := hr3.1
        by_cases lt : (bst M N c).2 < v'
        · rw [if_neg (by omega), if_neg (by omega)]
          refine ⟨m3, rfl, fr3, ?_⟩
          have e : bst M N (c + 1) = bst M N c := bl_no (Or.inr ⟨ln, by
            show (bst M N c).2 < KS M N c
            rcases hv with hv | hv
            · omega
            · omega⟩)
          rw [e]; exact hr3
        · have v0 : v' = KS M N c := hv.resolve_right (fun q => lt q.2.1)
          rw [if_neg (by omega), if_pos (by omega), if_neg (by omega)]
          by_cases eq : KS M N c = (bst M N c).2
          · rw [if_pos (by omega)]
            obtain ⟨m5, x5, y5, z5⟩ := more m3 (bst M N c) fr3 h3 a3 k33 k32 len hr3.2.2 (hr3.2.1 ln).2
            refine ⟨m5, x5, y5, ?_⟩
            have e : bst M N (c + 1) = ((bst M N c).1 ++ [c], (bst M N c).2) := bl_eq vb ln eq
            rw [e]; exact z5
          · rw [if_neg (by omega), stw_v, stw_v, L11_w188 60 FU 0 _ (by omega) (by omega) (by rw [FU_eq]; omega), v0]
            obtain ⟨u4, hu4⟩ : ∃ u4, u4 = fil (wr (wr m3 83 32 (KS M N c)) 83 33 0) 106 0 60 0 := ⟨_, rfl⟩
            rw [← hu4]
            have uo4 : ∀ k i, k ≠ 106 → ¬ (k = 83 ∧ (i = 32 ∨ i = 33)) → u4 k i = m3 k i := fun k i a b => by rw [hu4, fil_k a, wr_ki (by omega), wr_ki (by omega)]
            obtain ⟨m5, x5, y5, z5⟩ := more u4 ([], KS M N c) (fun k i a => by rw [uo4 k i (by unfold PWr at a; omega) (by unfold PWr at a; omega)]; exact fr3 k i a) (fun j hj => by rw [rd_eq (uo4 _ _ (by omega) (by omega))]; exact h3 j hj) (by rw [rd_eq (uo4 _ _ (by omega) (by omega))]; exact a3) (by
              have : rd u4 83 33 = rd (wr (wr m3 83 32 (KS M N c)) 83 33 0) 83 33 := rd_eq (by rw [hu4, fil_k (by omega)])
              rw [this, rd_wr_s]; exact w32_id (by omega) (by omega)) (by
              have : rd u4 83 32 = rd (wr (wr m3 83 32 (KS M N c)) 83 33 0) 83 32 := rd_eq (by rw [hu4, fil_k (by omega)])
              rw [this, rd_wr_i (by omega), rd_wr_s]; exact w32_id (by omega) (by omega)) (by show 0 < 7776; omega) (fun i hi => absurd hi (Nat.not_lt_zero i)) (fun p d hp hd => by
              unfold rd; rw [hu4, fil_i (by omega) (by omega)]; exact w32_id (by omega) (by omega))
            refine ⟨m5, x5, y5, ?_⟩
            have e : bst M N (c + 1) = ([c], KS M N c) := bl_new vb (Or.inr (by show KS M N c < (bst M N c).2; omega))
            rw [e]; exact z5
    · rw [if_neg q]
      refine ⟨m2, rfl, fr2, ?_⟩
      have e : bst M N (c + 1) = bst M N c := bl_no (Or.inl (VB_f (fun g => by
        rcases la with la | la
        · omega
        · exact dr.mp g.2 r2 la.2.1 la.2.2.1)))
      rw [e]; exact hr2
