/-! chain -/
theorem gro_zk {X : List Int → Prop} {ds : List Int} (hd : dgs ds) (hl : ds.length ≤ 5) : (∃ i, i < 24 ∧ vd (gro ds i) = true ∧ X (gro ds i)) ↔ ∃ k, 0 ≤ k ∧ k < ds.length ∧ ZK (fun e => vd e = true ∧ X e) ds k := by
  constructor
  · rintro ⟨i, hi, v, x⟩
    unfold gro at v x
    by_cases a : i < 5
    · rw [if_pos a] at v x
      by_cases b : i < ds.length
      · rw [if_pos b] at v x; exact ⟨_, Nat.zero_le _, by omega, Or.inl ⟨v, x⟩⟩
      · rw [if_neg b] at v; exact absurd v vd_0
    · rw [if_neg a] at v x
      by_cases a' : i < 10
      · rw [if_pos a'] at v x
        by_cases b : i - 5 < ds.length
        · rw [if_pos b] at v x
          refine ⟨_, Nat.zero_le _, by omega, Or.inr (Or.inl ⟨?_, v, x⟩)⟩
          have := (vd_len v).2.1
          rw [len_dup (by omega)] at this
          omega
        · rw [if_neg b] at v; exact absurd v vd_0
      · rw [if_neg a'] at v x
        by_cases a'' : i < 14
        · rw [if_pos a''] at v x
          by_cases b : i - 9 < ds.length
          · rw [if_pos b] at v x; exact ⟨ds.length - 2 - (i - 10), Nat.zero_le _, by omega, Or.inr (Or.inr (Or.inl ⟨by omega, v, x⟩))⟩
          · rw [if_neg b] at v; exact absurd v vd_0
        · rw [if_neg a''] at v x
          by_cases b : (i - 14) / 2 < ds.length
          · rw [if_pos b] at v x
            unfold misL at v x
            have hw : (if i % 2 = 0 then (0 : Int) else 1) = 0 ∨ (if i % 2 = 0 then (0 : Int) else 1) = 1 := by split <;> omega
            have g := dgD hd (ds.length - 1 - (i - 14) / 2)
            have tbb := tb_b (w := if i % 2 = 0 then (0 : Int) else 1) g.1 g.2
            by_cases c : tb (if i % 2 = 0 then (0 : Int) else 1) (ds.getD (ds.length - 1 - (i - 14) / 2) 0) < 0
            · rw [if_pos c] at v; exact absurd v vd_0
            · rw [if_neg c] at v x
              refine ⟨ds.length - 1 - (i - 14) / 2, Nat.zero_le _, by omega, Or.inr (Or.inr (Or.inr ⟨(tb (if i % 2 = 0 then (0 : Int) else 1) (ds.getD (ds.length - 1 - (i - 14) / 2) 0)).toNat, Nat.zero_le _, by omega, ?_, ?_⟩))⟩
              · rw [Int.toNat_of_nonneg (by omega)]
                refine (looks_e g (by omega)).mpr ?_
                rcases hw with h | h
                · rw [h]; exact Or.inl rfl
                · rw [h]; exact Or.inr rfl
              · rw [Int.toNat_of_nonneg (by omega)]; exact ⟨v, x⟩
          · rw [if_neg b] at v; exact absurd v vd_0
  · rintro ⟨k, _, hk, z⟩
    rcases z with ⟨v, x⟩ | ⟨c, v, x⟩ | ⟨c, v, x⟩ | ⟨w, _, w1, lk, v, x⟩
    · have e : gro ds (ds.length - 1 - k) = ds.eraseIdx k := by
        unfold gro
        rw [if_pos (by omega), if_pos (by omega), show ds.length - 1 - (ds.length - 1 - k) = k by omega]
      exact ⟨ds.length - 1 - k, by omega, by rw [e]; exact v, by rw [e]; exact x⟩
    · have e : gro ds (5 + (ds.length - 1 - k)) = dupL ds k := by
        unfold gro
        rw [if_neg (by omega), if_pos (by omega), if_pos (by omega), show ds.length - 1 - (5 + (ds.length - 1 - k) - 5) = k by omega]
      exact ⟨5 + (ds.length - 1 - k), by omega, by rw [e]; exact v, by rw [e]; exact x⟩
    · have e : gro ds (10 + (ds.length - 2 - k)) = swpL ds k := by
        unfold gro
        rw [if_neg (by omega), if_neg (by omega), if_pos (by omega), if_pos (by omega), show ds.length - 2 - (10 + (ds.length - 2 - k) - 10) = k by omega]
      exact ⟨10 + (ds.length - 2 - k), by omega, by rw [e]; exact v, by rw [e]; exact x⟩
    · have g := dgD hd k
      have key : ∀ (u : Nat) (u' : Int), u < 2 → u' = (u : Int) → tb u' (ds.getD k 0) = (w : Int) → ∃ i, i < 24 ∧ vd (gro ds i) = true ∧ X (gro ds i) := fun u u' hu hu' ht => by
        have e : gro ds (14 + 2 * (ds.length - 1 - k) + u) = ds.set k (w : Int) := by
          unfold gro
          rw [if_neg (by omega), if_neg (by omega), if_neg (by omega), if_pos (by omega), show ds.length - 1 - (14 + 2 * (ds.length - 1 - k) + u - 14) / 2 = k by omega, show (if (14 + 2 * (ds.length - 1 - k) + u) % 2 = 0 then (0 : Int) else 1) = u' by split <;> omega]
          unfold misL
          rw [ht, if_neg (by omega)]
        exact ⟨14 + 2 * (ds.length - 1 - k) + u, by omega, by rw [e]; exact v, by rw [e]; exact x⟩
      rcases (looks_e g (show 0 ≤ (w : Int) ∧ (w : Int) < 10 by omega)).mp lk with t | t
      · exact key 0 0 (by omega) rfl t
      · exact key 1 1 (by omega) rfl t
theorem reaches_e {es : List Int} (h' : vd es = true) (hd' : dgs es) : ∀ (l t s : Nat) (m : Mem) (ds : List Int), l < t → s + l ≤ 3 → RWs m s ds → ds.length ≤ 6 → dgs ds → ∃ r m', F11_reaches t m (s : Int) (l : Int) (vl es) = some (r, m') ∧ FRs m m' (s + 1) ∧ ((r = 1 ∧ vd ds = true ∧ RC l ds es) ∨ (r = 0 ∧ ¬ (vd ds = true ∧ RC l ds es))) := by
  intro l
  induction l with
  | zero =>
    intro t s m ds h0 h1 hr hl hd
    obtain ⟨t, rfl⟩ : ∃ i, t = i + 1 := ⟨t - 1, by omega⟩
    obtain ⟨r, r1, r2⟩ := numberAt_e (by omega) hd hl hr
    rw [F11_reaches, r1, b1_v]
    rcases r2 with ⟨v, rfl, w⟩ | ⟨v, w⟩
    · rw [if_pos w, if_neg (by omega)]
      by_cases z : ds = es
      · rw [if_neg (by rw [z]; exact fun q => q rfl)]
        exact ⟨1, m, rfl, FRs_r, Or.inl ⟨rfl, v, z⟩⟩
      · rw [if_pos (fun q => z (vl_inj v hd h' hd' q))]
        exact ⟨0, m, rfl, FRs_r, Or.inr ⟨rfl, fun q => z q.2⟩⟩
    · rw [if_neg (by omega)]
      exact ⟨0, m, rfl, FRs_r, Or.inr ⟨rfl, fun q => v q.1⟩⟩
  | succ l ih =>
    intro t s m ds h0 h1 hr hl hd
    obtain ⟨t, rfl⟩ : ∃ i, t = i + 1 := ⟨t - 1, by omega⟩
    obtain ⟨r, r1, r2⟩ := numberAt_e (by omega) hd hl hr
    rw [F11_reaches, r1, b1_v]
    rcases r2 with ⟨v, rfl, w⟩ | ⟨v, w⟩
    · have e : w32 ((w32 (6 * (s : Int))) + 6) = cd (s + 1) 0 := by unfold cd; rw [w32_id (x := 6 * (s : Int)) (by omega) (by omega), w32_id (by omega) (by omega)]; omega
      have l5 := (vd_len v).2.1
      rw [if_pos w, if_pos (by omega), gd_t (by omega), e, hr.1]
      have H : HRs (F11_reaches t) s (w32 (((l + 1 : Nat) : Int) - 1)) (vl es) (fun e => vd e = true ∧ RC l e es) := fun m e a b c => by
        rw [w32_id (by omega) (by omega), show ((l + 1 : Nat) : Int) - 1 = (l : Int) by omega]
        obtain ⟨r, m', x, y, z⟩ := ih t (s + 1) m e (by omega) (by omega) a b c
        exact ⟨r, m', x, FRs_m y (by omega), z⟩
      have G := L11_50 (by omega) H hd l5 ds.length FU 0 m (by omega) (by rw [FU_eq]; omega) hr
      rw [← gro_zk hd l5] at G
      obtain ⟨r, m', x, y, z⟩ := G
      refine ⟨r, m', x, y, ?_⟩
      rcases z with ⟨a, b⟩ | ⟨a, b⟩
      · exact Or.inl ⟨a, v, b⟩
      · exact Or.inr ⟨a, fun q => b q.2⟩
    · rw [if_neg (by omega)]
      exact ⟨0, m, rfl, FRs_r, Or.inr ⟨rfl, fun q => v q.1⟩⟩
theorem L11_ch35 {ds : List Int} (hd : dgs ds) (hl : ds.length ≤ 5) {kk : Mem → Option (Int × Mem)} : ∀ (d t j : Nat) (m : Mem), j + d = 6 → d < t → (∀ i : Nat, i < ds.length → rd m 112 (i : Int) = ds.getD i 0) → (∀ i : Nat, i < ds.length → i < j → rd m 114 (cd 0 i) = ds.getD i 0) →
    ∃ m', L11_chain_35 (ds.length : Int) kk t (j : Int) m = kk m' ∧ (∀ c i, c ≠ 114 → m' c i = m c i) ∧ ∀ i : Nat, i < ds.length → rd m' 114 (cd 0 i) = ds.getD i 0 := by
  intro d
  induction d with
  | zero =>
    intro t j m h0 h1 ha hb
    obtain ⟨t, rfl⟩ : ∃ i, t = i + 1 := ⟨t - 1, by omega⟩
    rw [L11_chain_35, if_pos (by omega)]
    exact ⟨m, rfl, fun _ _ _ => rfl, fun i hi => hb i hi (by omega)⟩
  | succ d ih =>
    intro t j m h0 h1 ha hb
    obtain ⟨t, rfl⟩ : ∃ i, t = i + 1 := ⟨t - 1, by omega⟩
    have nx : ∀ x : Int, (j < ds.length → x = ds.getD j 0) → ∃ m', L11_chain_35 (ds.length : Int) kk t ((j + 1 : Nat) : Int) (wr m 114 (j : Int) x) = kk m' ∧ (∀ c i, c ≠ 114 → m' c i = m c i) ∧ ∀ i : Nat, i < ds.length → rd m' 114 (cd 0 i) = ds.getD i 0 := fun x hx => by
      obtain ⟨m', p1, p2, p3⟩ := ih t (j + 1) (wr m 114 (j : Int) x) (by omega) (by omega) (fun i hi => by rw [rd_wr_k (by omega)]; exact ha i hi) (fun i hi hj => by
        by_cases z : i = j
        · have g := dgD hd j
          rw [z, show cd 0 j = (j : Int) by unfold cd; omega, rd_wr_s, hx (by omega)]; exact w32_id (by omega) (by omega)
        · rw [rd_wr_i (by unfold cd; omega)]; exact hb i hi (by omega))
      exact ⟨m', p1, fun c i x => by rw [p2 c i x, wr_ka x], p3⟩
    rw [L11_chain_35, if_neg (by omega), w32_id (x := (j : Int) + 1) (by omega) (by omega), show (j : Int) + 1 = ((j + 1 : Nat) : Int) by omega]
    simp only [jn_v, stw_v]
    by_cases z : (ds.length : Int) ≤ (j : Int)
    · rw [if_pos z, gd_t (by omega)]; exact nx 0 (fun q => by omega)
    · rw [if_neg z, gd_t (by omega), gd_t (by omega)]; exact nx _ (fun q => ha j q)
def rM (m : Mem) (ds : List Int) : Prop := RWs m 0 ds
theorem L11_ch75 {ds es : List Int} (h : vd ds = true) (hd : dgs ds) (h' : vd es = true) (hd' : dgs es) : ∀ (d t l : Nat) (m : Mem), l + d = 4 → d < t → RWs m 0 ds → ∃ r m', L11_chain_75 (vl es) t (l : Int) m = some (r, m') ∧ (∀ c i, c ≠ 114 → c ≠ 115 → m' c i = m c i) ∧ ((∃ k, l ≤ k ∧ k ≤ 3 ∧ r = (k : Int) ∧ RC k ds es ∧ ∀ j, l ≤ j → j < k → ¬ RC j ds es) ∨ (r = -2 ∧ ∀ j, l ≤ j → j ≤ 3 → ¬ RC j ds es)) := by
  have l5 := (vd_len h).2.1
  intro d
  induction d with
  | zero =>
    intro t l m h0 h1 hr
    obtain ⟨t, rfl⟩ : ∃ i, t = i + 1 := ⟨t - 1, by omega⟩
    rw [L11_chain_75, if_pos (by omega)]
    exact ⟨-2, m, rfl, fun _ _ _ _ => rfl, Or.inr ⟨rfl, fun j a b => by omega⟩⟩
  | succ d ih =>
    intro t l m h0 h1 hr
    obtain ⟨t, rfl⟩ : ∃ i, t = i + 1 := ⟨t - 1, by omega⟩
    obtain ⟨r, m1, r1, r2, r3⟩ := reaches_e h' hd' l 6 0 m ds (by omega) (by omega) hr (by omega) hd
    rw [L11_chain_75, if_neg (by omega), show F11_reaches 6 m 0 (l : Int) (vl es) = _ from r1, b2_v, w32_id (x := (l : Int) + 1) (by omega) (by omega), show (l : Int) + 1 = ((l + 1 : Nat) : Int) by omega]
    rcases r3 with ⟨rfl, _, c⟩ | ⟨rfl, c⟩
    · rw [if_neg (by omega)]
      exact ⟨(l : Int), m1, rfl, r2.1, Or.inl ⟨l, Nat.le_refl _, by omega, rfl, c, fun j a b => by omega⟩⟩
    · have nc : ¬ RC l ds es := fun q => c ⟨h, q⟩
      rw [if_pos rfl]
      obtain ⟨r, m2, x, y, z⟩ := ih t (l + 1) m1 (by omega) (by omega) (RWs_f r2 (by omega) hr)
      refine ⟨r, m2, x, fun c i p q => by rw [y c i p q]; exact r2.1 c i p q, ?_⟩
      rcases z with ⟨k, a, b, e, f, g⟩ | ⟨e, g⟩
      · exact Or.inl ⟨k, by omega, b, e, f, fun j p q => by
          by_cases w : j = l
          · rw [w]; exact nc
          · exact g j (by omega) q⟩
      · exact Or.inr ⟨e, fun j p q => by
          by_cases w : j = l
          · rw [w]; exact nc
          · exact g j (by omega) q⟩
theorem FW_one {ds es : List Int} {r r' : Int} (h : FW ds es r) (h' : (∃ k, 0 ≤ k ∧ k ≤ 3 ∧ r' = ((k : Nat) : Int) ∧ RC k ds es ∧ ∀ j, 0 ≤ j → j < k → ¬ RC j ds es) ∨ (r' = -2 ∧ ∀ j, 0 ≤ j → j ≤ 3 → ¬ RC j ds es)) : r' = r := by
  rcases h' with ⟨k, _, b, e, f, g⟩ | ⟨e, g⟩
  · have n := fun j (q : j < k) => g j (Nat.zero_le _) q
    have hk : k = 0 ∨ k = 1 ∨ k = 2 ∨ k = 3 := by omega
    rcases h with ⟨x, a⟩ | ⟨x, a, c⟩ | ⟨x, a, c, d⟩ | ⟨x, a, c, d, p⟩ | ⟨x, a, c, d, p⟩
    · have : ¬ 0 < k := fun q => n 0 q a
      rw [e, x]; omega
    · have : ¬ 1 < k := fun q => n 1 q c
      have : k ≠ 0 := fun q => a (q ▸ f)
      rw [e, x]; omega
    · have : ¬ 2 < k := fun q => n 2 q d
      have : k ≠ 0 := fun q => a (q ▸ f)
      have : k ≠ 1 := fun q => c (q ▸ f)
      rw [e, x]; omega
    · have : k ≠ 0 := fun q => a (q ▸ f)
      have : k ≠ 1 := fun q => c (q ▸ f)
      have : k ≠ 2 := fun q => d (q ▸ f)
      rw [e, x]; omega
    · exfalso
      rcases hk with rfl | rfl | rfl | rfl
      · exact a f
      · exact c f
      · exact d f
      · exact p f
  · have n := fun j (q : j ≤ 3) => g j (Nat.zero_le _) q
    rcases h with ⟨x, a⟩ | ⟨x, a, c⟩ | ⟨x, a, c, d⟩ | ⟨x, a, c, d, p⟩ | ⟨x, a, c, d, p⟩
    · exact absurd a (n 0 (by omega))
    · exact absurd c (n 1 (by omega))
    · exact absurd d (n 2 (by omega))
    · exact absurd p (n 3 (by omega))
    · rw [e, x]
theorem st_chain {n : Nat} {m : Mem} (v w : Int) (hI : Inv n m) : ∃ r m2, F10_chain v w = some r ∧ F11_chain m v w = some (r, m2) ∧ Inv (n + 1) m2 := by
  unfold F10_chain F11_chain
  simp only [jn_v]
  rw [F7_isNumber_e, F7_isNumber_e, F11_isNumber_e, F11_isNumber_e]
  by_cases a : 1 ≤ v ∧ v ≤ 99999
  · rw [if_neg (show ¬ (bz (1 ≤ v ∧ v ≤ 99999) = 0) by rw [bz_0]; exact fun z => z a), if_neg (show ¬ (bz (1 ≤ v ∧ v ≤ 99999) = 0) by rw [bz_0]; exact fun z => z a)]
    by_cases b : 1 ≤ w ∧ w ≤ 99999
    · obtain ⟨p1, p2, p3⟩ := dgt_ok a.1 a.2
      obtain ⟨q1, q2, q3⟩ := dgt_ok b.1 b.2
      obtain ⟨r, f1, f2⟩ := fewest_e p1 p2 q1 q2
      obtain ⟨m1, x1, x2, x3⟩ := digits_e p1 p2 112 m
      have l5 := (vd_len p1).2.1
      rw [p3, q3] at f1
      rw [p3] at x1
      rw [if_pos (show bz (1 ≤ w ∧ w ≤ 99999) ≠ 0 by rw [bz_n]; exact b), if_pos (show bz (1 ≤ w ∧ w ≤ 99999) ≠ 0 by rw [bz_n]; exact b), f1, b1_v, x1, b2_v, gd_t (by omega), stw_v]
      obtain ⟨m2, y1, y2, y3⟩ := L11_ch35 (ds := dgt v) p2 l5 (kk := fun (m_72 : Mem) => L11_chain_75 w FU 0 m_72) 6 FU 0 (wr m1 115 0 ((dgt v).length : Int)) (by omega) (by rw [FU_eq]; omega) (fun i hi => by rw [rd_wr_k (by omega)]; exact x3 i hi) (fun i _ q => by omega)
      rw [show L11_chain_35 ((dgt v).length : Int) _ FU 0 _ = _ from y1]
      obtain ⟨r', m3, z1, z2, z3⟩ := L11_ch75 p1 p2 q1 q2 4 FU 0 m2 (by omega) (by rw [FU_eq]; omega) ⟨by rw [rd_eq (y2 115 _ (by omega)), show ((0 : Nat) : Int) = 0 from rfl, rd_wr_s]; exact w32_id (by omega) (by omega), y3⟩
      rw [q3] at z1
      have e := FW_one f2 z3
      rw [e] at z1
      refine ⟨r, m3, rfl, z1, Inv_mono (by omega) (Inv_same (fun c i q => ?_) hI)⟩
      unfold PS at q
      rw [z2 c i (by omega) (by omega), y2 c i (by omega), wr_ka (by omega)]
      exact x2 c i (by omega)
    · rw [if_neg (show ¬ (bz (1 ≤ w ∧ w ≤ 99999) ≠ 0) by rw [bz_n]; exact b), if_neg (show ¬ (bz (1 ≤ w ∧ w ≤ 99999) ≠ 0) by rw [bz_n]; exact b)]
      exact ⟨_, m, rfl, rfl, Inv_mono (by omega) hI⟩
  · rw [if_pos (show bz (1 ≤ v ∧ v ≤ 99999) = 0 by rw [bz_0]; exact a), if_pos (show bz (1 ≤ v ∧ v ≤ 99999) = 0 by rw [bz_0]; exact a)]
    exact ⟨_, m, rfl, rfl, Inv_mono (by omega) hI⟩
