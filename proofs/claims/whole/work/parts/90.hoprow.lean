/-! the rows of the reference's chain -/
def cd (s j : Nat) : Int := ((6 * s + j : Nat) : Int)
def RWs (m : Mem) (s : Nat) (ds : List Int) : Prop := rd m 115 (s : Int) = (ds.length : Int) ∧ ∀ j : Nat, j < ds.length → rd m 114 (cd s j) = ds.getD j 0
def FRs (m m' : Mem) (s : Nat) : Prop := (∀ c i, c ≠ 114 → c ≠ 115 → m' c i = m c i) ∧ (∀ i : Int, i < 6 * (s : Int) → m' 114 i = m 114 i) ∧ ∀ i : Int, i < (s : Int) → m' 115 i = m 115 i
theorem FRs_r {m : Mem} {s : Nat} : FRs m m s := ⟨fun _ _ _ _ => rfl, fun _ _ => rfl, fun _ _ => rfl⟩
theorem FRs_t {a b c : Mem} {s : Nat} (h : FRs a b s) (h' : FRs b c s) : FRs a c s := ⟨fun k i x y => by rw [h'.1 k i x y]; exact h.1 k i x y, fun i x => by rw [h'.2.1 i x]; exact h.2.1 i x, fun i x => by rw [h'.2.2 i x]; exact h.2.2 i x⟩
theorem FRs_m {a b : Mem} {s t : Nat} (h : FRs a b t) (hs : s ≤ t) : FRs a b s := ⟨h.1, fun i x => h.2.1 i (by omega), fun i x => h.2.2 i (by omega)⟩
theorem RWs_f {a b : Mem} {s : Nat} {ds : List Int} (h : FRs a b (s + 1)) (hl : ds.length ≤ 6) (hr : RWs a s ds) : RWs b s ds :=
  ⟨by rw [rd_eq (h.2.2 _ (by omega))]; exact hr.1, fun j hj => by rw [rd_eq (h.2.1 _ (by unfold cd; omega))]; exact hr.2 j hj⟩
theorem L11_cr {s : Nat} (hs : s ≤ 2) {ds : List Int} (hd : dgs ds) (hl : ds.length ≤ 6) : ∀ (d t j : Nat) (m : Mem), j + d = 6 → d < t → (∀ i : Nat, i < ds.length → rd m 114 (cd s i) = ds.getD i 0) → (∀ i : Nat, i < ds.length → i < j → rd m 114 (cd (s + 1) i) = ds.getD i 0) →
    ∃ m', L11_copyRow_16 (s : Int) t (j : Int) m = some m' ∧ (∀ c i, c ≠ 114 → m' c i = m c i) ∧ (∀ i : Int, i < 6 * ((s + 1 : Nat) : Int) → m' 114 i = m 114 i) ∧ ∀ i : Nat, i < ds.length → rd m' 114 (cd (s + 1) i) = ds.getD i 0 := by
  intro d
  induction d with
  | zero =>
    intro t j m h0 h1 ha hb
    obtain ⟨t, rfl⟩ : ∃ i, t = i + 1 := ⟨t - 1, by omega⟩
    rw [L11_copyRow_16, if_pos (by omega)]
    exact ⟨m, rfl, fun _ _ _ => rfl, fun _ _ => rfl, fun i hi => hb i hi (by omega)⟩
  | succ d ih =>
    intro t j m h0 h1 ha hb
    obtain ⟨t, rfl⟩ : ∃ i, t = i + 1 := ⟨t - 1, by omega⟩
    have e1 : w32 ((w32 (6 * (s : Int))) + (j : Int)) = cd s j := by unfold cd; rw [w32_id (x := 6 * (s : Int)) (by omega) (by omega), w32_id (by omega) (by omega)]; omega
    have e2 : w32 ((w32 ((w32 (6 * (s : Int))) + 6)) + (j : Int)) = cd (s + 1) j := by unfold cd; rw [w32_id (x := 6 * (s : Int)) (by omega) (by omega), w32_id (x := 6 * (s : Int) + 6) (by omega) (by omega), w32_id (by omega) (by omega)]; omega
    rw [L11_copyRow_16, if_neg (by omega), e1, e2, gd_t (by unfold cd; omega), gd_t (by unfold cd; omega), stw_v, w32_id (x := (j : Int) + 1) (by omega) (by omega), show (j : Int) + 1 = ((j + 1 : Nat) : Int) by omega]
    obtain ⟨m', p1, p2, p3, p4⟩ := ih t (j + 1) (wr m 114 (cd (s + 1) j) (rd m 114 (cd s j))) (by omega) (by omega) (fun i hi => by
      rw [rd_wr_i (by unfold cd; omega)]; exact ha i hi) (fun i hi hj => by
      by_cases z : i = j
      · rw [z, rd_wr_s, w32_rd]; exact ha j (by omega)
      · rw [rd_wr_i (by unfold cd; omega)]; exact hb i hi (by omega))
    exact ⟨m', p1, fun c i x => by rw [p2 c i x, wr_ka x], fun i x => by rw [p3 i x, wr_ki (by unfold cd; omega)], p4⟩
theorem copy_e {s : Nat} (hs : s ≤ 2) {ds : List Int} (hd : dgs ds) (hl : ds.length ≤ 6) {m : Mem} (hr : RWs m s ds) : ∃ m', F11_copyRow m (s : Int) = some m' ∧ FRs m m' (s + 1) ∧ RWs m' (s + 1) ds := by
  have e : w32 ((s : Int) + 1) = ((s + 1 : Nat) : Int) := by rw [w32_id (by omega) (by omega)]; omega
  unfold F11_copyRow
  rw [e, gd_t (by omega), gd_t (by omega), stw_v]
  obtain ⟨m', p1, p2, p3, p4⟩ := L11_cr hs hd hl 6 FU 0 (wr m 115 ((s + 1 : Nat) : Int) (rd m 115 (s : Int))) (by omega) (by rw [FU_eq]; omega) (fun i hi => by rw [rd_wr_k (by omega)]; exact hr.2 i hi) (fun i _ x => by omega)
  refine ⟨m', p1, ⟨fun c i x y => by rw [p2 c i x, wr_ka y], fun i x => by rw [p3 i x, wr_ka (by omega)], fun i x => by rw [p2 _ _ (by omega), wr_ki (by omega)]⟩, ?_, p4⟩
  rw [rd_eq (p2 _ _ (by omega)), rd_wr_s, w32_rd]; exact hr.1
theorem L11_66 {s : Nat} (hs : s ≤ 2) {ds : List Int} (hd : dgs ds) (hl : ds.length ≤ 6) {k : Nat} {kk : Mem → Option (Int × Mem)} : ∀ (d t j : Nat) (m : Mem), j + d + 1 = ds.length → k ≤ j → d < t → (∀ i : Nat, i < ds.length → j ≤ i → rd m 114 (cd (s + 1) i) = ds.getD i 0) → (∀ i : Nat, i < ds.length - 1 → i < j → rd m 114 (cd (s + 1) i) = (ds.eraseIdx k).getD i 0) →
    ∃ m', L11_reaches_66 (ds.length : Int) (cd (s + 1) 0) kk t (j : Int) m = kk m' ∧ (∀ c i, c ≠ 114 → m' c i = m c i) ∧ (∀ i : Int, i < 6 * ((s + 1 : Nat) : Int) → m' 114 i = m 114 i) ∧ ∀ i : Nat, i < ds.length - 1 → rd m' 114 (cd (s + 1) i) = (ds.eraseIdx k).getD i 0 := by
  intro d
  induction d with
  | zero =>
    intro t j m h0 hk h1 ha hb
    obtain ⟨t, rfl⟩ : ∃ i, t = i + 1 := ⟨t - 1, by omega⟩
    rw [L11_reaches_66, w32_id (x := (j : Int) + 1) (by omega) (by omega), if_pos (by omega)]
    exact ⟨m, rfl, fun _ _ _ => rfl, fun _ _ => rfl, fun i hi => hb i hi (by omega)⟩
  | succ d ih =>
    intro t j m h0 hk h1 ha hb
    obtain ⟨t, rfl⟩ : ∃ i, t = i + 1 := ⟨t - 1, by omega⟩
    have e1 : w32 (cd (s + 1) 0 + (j : Int)) = cd (s + 1) j := by unfold cd; rw [w32_id (by omega) (by omega)]; omega
    have e2 : w32 (cd (s + 1) j + 1) = cd (s + 1) (j + 1) := by unfold cd; rw [w32_id (by omega) (by omega)]; omega
    rw [L11_reaches_66, e1, e2, w32_id (x := (j : Int) + 1) (by omega) (by omega), if_neg (by omega), gd_t (by unfold cd; omega), gd_t (by unfold cd; omega), stw_v, show (j : Int) + 1 = ((j + 1 : Nat) : Int) by omega]
    obtain ⟨m', p1, p2, p3, p4⟩ := ih t (j + 1) (wr m 114 (cd (s + 1) j) (rd m 114 (cd (s + 1) (j + 1)))) (by omega) (by omega) (by omega) (fun i hi hj => by
      rw [rd_wr_i (by unfold cd; omega)]; exact ha i hi (by omega)) (fun i hi hj => by
      by_cases z : i = j
      · rw [z, rd_wr_s, w32_rd, ha (j + 1) (by omega) (by omega), getD_er (by omega), if_neg (by omega)]
      · rw [rd_wr_i (by unfold cd; omega)]; exact hb i hi (by omega))
    exact ⟨m', p1, fun c i x => by rw [p2 c i x, wr_ka x], fun i x => by rw [p3 i x, wr_ki (by unfold cd; omega)], p4⟩
theorem L11_140 {s : Nat} (hs : s ≤ 2) {ds : List Int} (hd : dgs ds) (hl : ds.length ≤ 5) {k : Nat} (hk : k < ds.length) {kk : Mem → Option (Int × Mem)} : ∀ (d t j : Nat) (m : Mem), j = k + d → j ≤ ds.length → d < t → (∀ i : Nat, i < ds.length → i ≤ j → rd m 114 (cd (s + 1) i) = ds.getD i 0) → (∀ i : Nat, i ≤ ds.length → j < i → rd m 114 (cd (s + 1) i) = ds.getD (i - 1) 0) →
    ∃ m', L11_reaches_140 (cd (s + 1) 0) (k : Int) kk t (j : Int) m = kk m' ∧ (∀ c i, c ≠ 114 → m' c i = m c i) ∧ (∀ i : Int, i < 6 * ((s + 1 : Nat) : Int) → m' 114 i = m 114 i) ∧ ∀ i : Nat, i ≤ ds.length → rd m' 114 (cd (s + 1) i) = (dupL ds k).getD i 0 := by
  intro d
  induction d with
  | zero =>
    intro t j m h0 hj h1 ha hb
    obtain ⟨t, rfl⟩ : ∃ i, t = i + 1 := ⟨t - 1, by omega⟩
    rw [L11_reaches_140, if_pos (by omega)]
    refine ⟨m, rfl, fun _ _ _ => rfl, fun _ _ => rfl, fun i hi => ?_⟩
    rw [getD_dup hk]
    by_cases z : i ≤ k
    · rw [if_pos z]; exact ha i (by omega) (by omega)
    · rw [if_neg z]; exact hb i hi (by omega)
  | succ d ih =>
    intro t j m h0 hj h1 ha hb
    obtain ⟨t, rfl⟩ : ∃ i, t = i + 1 := ⟨t - 1, by omega⟩
    have e1 : w32 (cd (s + 1) 0 + (j : Int)) = cd (s + 1) j := by unfold cd; rw [w32_id (by omega) (by omega)]; omega
    have e2 : w32 (cd (s + 1) j - 1) = cd (s + 1) (j - 1) := by unfold cd; rw [w32_id (by omega) (by omega)]; omega
    rw [L11_reaches_140, e1, e2, if_neg (by omega), gd_t (by unfold cd; omega), gd_t (by unfold cd; omega), stw_v, w32_id (x := (j : Int) + (-1)) (by omega) (by omega), show (j : Int) + (-1) = ((j - 1 : Nat) : Int) by omega]
    obtain ⟨m', p1, p2, p3, p4⟩ := ih t (j - 1) (wr m 114 (cd (s + 1) j) (rd m 114 (cd (s + 1) (j - 1)))) (by omega) (by omega) (by omega) (fun i hi hj => by
      rw [rd_wr_i (by unfold cd; omega)]; exact ha i hi (by omega)) (fun i hi hj => by
      by_cases z : i = j
      · rw [z, rd_wr_s, w32_rd]; exact ha (j - 1) (by omega) (by omega)
      · rw [rd_wr_i (by unfold cd; omega)]; exact hb i hi (by omega))
    exact ⟨m', p1, fun c i x => by rw [p2 c i x, wr_ka x], fun i x => by rw [p3 i x, wr_ki (by unfold cd; omega)], p4⟩
theorem L11_na {m : Mem} {s : Nat} (hs : s ≤ 3) {ds : List Int} (h : vd ds = true) (hd : dgs ds) (hr : RWs m s ds) : ∀ (d t j : Nat), j + d = ds.length → d < t → L11_numberAt_35 m (s : Int) (ds.length : Int) t (vl (ds.take j)) (j : Int) = some (vl ds) := by
  have l := vd_len h
  intro d
  induction d with
  | zero =>
    intro t j h0 h1
    obtain ⟨t, rfl⟩ : ∃ i, t = i + 1 := ⟨t - 1, by omega⟩
    rw [L11_numberAt_35, if_pos (by omega), show j = ds.length by omega, List.take_length]
  | succ d ih =>
    intro t j h0 h1
    obtain ⟨t, rfl⟩ : ∃ i, t = i + 1 := ⟨t - 1, by omega⟩
    have e1 : w32 ((w32 (6 * (s : Int))) + (j : Int)) = cd s j := by unfold cd; rw [w32_id (x := 6 * (s : Int)) (by omega) (by omega), w32_id (by omega) (by omega)]; omega
    have b := vl_tm h hd (show j ≤ ds.length by omega)
    have g := dgD hd j
    rw [L11_numberAt_35, if_neg (by omega), e1, gd_t (by unfold cd; omega), hr.2 j (by omega), w32_id (x := (j : Int) + 1) (by omega) (by omega), w32_id (x := 10 * vl (ds.take j)) (by omega) (by omega), w32_id (by omega) (by omega), ← vl_take (show j < ds.length by omega), show (j : Int) + 1 = ((j + 1 : Nat) : Int) by omega]
    exact ih t (j + 1) (by omega) (by omega)
theorem numberAt_e {m : Mem} {s : Nat} (hs : s ≤ 3) {ds : List Int} (hd : dgs ds) (hl : ds.length ≤ 6) (hr : RWs m s ds) : ∃ r, F11_numberAt m (s : Int) = some r ∧ ((vd ds = true ∧ r = vl ds ∧ 0 ≤ r) ∨ (¬ vd ds = true ∧ r < 0)) := by
  have e0 : w32 (6 * (s : Int)) = cd s 0 := by unfold cd; rw [w32_id (by omega) (by omega)]; omega
  unfold F11_numberAt
  rw [gd_t (by omega), hr.1]
  by_cases a : ds.length = 0
  · rw [if_pos (by omega)]
    exact ⟨-1, rfl, Or.inr ⟨fun q => by have := vd_len q; omega, by omega⟩⟩
  · rw [if_neg (by omega)]
    by_cases b : 5 < ds.length
    · rw [if_pos (by omega)]
      exact ⟨-1, rfl, Or.inr ⟨fun q => by have := vd_len q; omega, by omega⟩⟩
    · rw [if_neg (by omega), e0, gd_t (by unfold cd; omega), hr.2 0 (by omega)]
      by_cases c : ds.getD 0 0 = 0
      · rw [if_neg (fun q => q c)]
        exact ⟨-1, rfl, Or.inr ⟨fun q => (vd_len q).2.2 c, by omega⟩⟩
      · have v : vd ds = true := by
          unfold vd
          rw [Bool.and_eq_true, Bool.and_eq_true, decide_eq_true_iff, decide_eq_true_iff, decide_eq_true_iff]
          refine ⟨⟨by omega, by omega⟩, ?_⟩
          cases ds with
          | nil => exact absurd rfl a
          | cons x l => exact c
        have := vl_b v hd
        rw [if_pos c]
        exact ⟨vl ds, L11_na hs v hd hr ds.length FU 0 (by omega) (by rw [FU_eq]; omega), Or.inl ⟨v, rfl, by omega⟩⟩
