/-! the reference's tree -/
def TR (m : Mem) (C : Int) (I : Int → Bool) (p : Int → Int) : Prop := rd m 83 1 = C ∧ (0 ≤ C ∧ C ≤ 12) ∧ (∀ c, I c = true → 0 ≤ c ∧ c < C) ∧ (∀ c, 0 ≤ c → c < C → (rd m 97 c = 0 ↔ I c = false)) ∧ ∀ c, I c = true → rd m 96 c = p c
theorem TR_s {m m' : Mem} {C : Int} {I : Int → Bool} {p : Int → Int} (h : TR m C I p) (g1 : rd m' 83 1 = rd m 83 1) (g2 : ∀ c, rd m' 97 c = rd m 97 c) (g3 : ∀ c, rd m' 96 c = rd m 96 c) : TR m' C I p := by
  obtain ⟨a, b, c, d, e⟩ := h
  exact ⟨by rw [g1]; exact a, b, c, fun x y z => by rw [g2]; exact d x y z, fun x y => by rw [g3]; exact e x y⟩
theorem L11_isO {m : Mem} {v : Int} (hn : rd m 83 24 ≤ 12) : ∀ (d n : Nat) (i : Int), i + d = rd m 83 24 → 0 ≤ i → d < n → ∃ r, L11_isOrdered_2 m v n i = some r ∧ (r = 0 ∨ r = 1) ∧ (r = 1 ↔ ∃ j, i ≤ j ∧ j < rd m 83 24 ∧ rd m 100 j = v) := by
  intro d
  induction d with
  | zero =>
    intro n i h0 h1 h2
    obtain ⟨n, rfl⟩ : ∃ j, n = j + 1 := ⟨n - 1, by omega⟩
    rw [L11_isOrdered_2, if_pos (by omega)]
    exact ⟨0, rfl, Or.inl rfl, ⟨fun h => (by omega), fun ⟨j, a, b, _⟩ => (by omega)⟩⟩
  | succ d ih =>
    intro n i h0 h1 h2
    obtain ⟨n, rfl⟩ : ∃ j, n = j + 1 := ⟨n - 1, by omega⟩
    rw [L11_isOrdered_2, if_neg (by omega), gd_t (by omega), w32_id (x := i + 1) (by omega) (by omega)]
    by_cases a : rd m 100 i = v
    · rw [if_neg (by omega)]
      exact ⟨1, rfl, Or.inr rfl, ⟨fun _ => ⟨i, Int.le_refl _, by omega, a⟩, fun _ => rfl⟩⟩
    · rw [if_pos a]
      obtain ⟨r, x, y, z⟩ := ih n (i + 1) (by omega) (by omega) (by omega)
      refine ⟨r, x, y, ?_⟩
      rw [z]
      constructor
      · rintro ⟨j, j0, j1, j2⟩; exact ⟨j, by omega, j1, j2⟩
      · rintro ⟨j, j0, j1, j2⟩
        by_cases q : j = i
        · rw [q] at j2; exact absurd j2 a
        · exact ⟨j, by omega, j1, j2⟩
theorem isO_e {m : Mem} {v : Int} {I : Int → Bool} {p : Int → Int} {q : Nat → Bool} (h : Pq I p (rd m 83 24) (fun i => rd m 100 i) q) (v0 : 0 ≤ v) (v1 : v < 12) : F11_isOrdered m v = some (if q v.toNat = true then 1 else 0) := by
  have hn : rd m 83 24 ≤ 12 := by have := cnt_le q 12; have := h.2.1; omega
  have h0 := h.1
  obtain ⟨r, x, y, z⟩ := L11_isO (v := v) hn (rd m 83 24).toNat FU 0 (by omega) (by omega) (by rw [FU_eq]; omega)
  unfold F11_isOrdered
  rw [x]
  have e := h.2.2.2 v v0 v1
  by_cases a : q v.toNat = true
  · rw [if_pos a, z.mpr (e.mp a)]
  · rw [if_neg a]
    have : r ≠ 1 := fun b => a (e.mpr (z.mp b))
    rcases y with y | y
    · rw [y]
    · exact absurd y this
theorem L11_fo {C : Int} {I : Int → Bool} {p : Int → Int} {kk : Int → Mem → Option Mem} (ha : Acy I p) : ∀ (d f : Nat) (v1 v2 : Int) (m : Mem) (q : Nat → Bool), v2 + d = C → 0 ≤ v2 → d < f → TR m C I p → Pq I p (rd m 83 24) (fun i => rd m 100 i) q →
    ∃ v1' m' q', L11_findOrder_15 kk f v1 v2 m = kk v1' m' ∧ Pq I p (rd m' 83 24) (fun i => rd m' 100 i) q' ∧ (∀ k i, ¬ (k = 83 ∧ i = 24) → k ≠ 100 → m' k i = m k i) ∧ (∀ j, j < 12 → q j = true → q' j = true) ∧ (∀ v, v2 ≤ v → I v = true → (0 ≤ p v → q (p v).toNat = true) → q' v.toNat = true) ∧ ((v1' = v1 ∧ rd m' 83 24 = rd m 83 24) ∨ (v1' = 1 ∧ rd m 83 24 < rd m' 83 24)) := by
  intro d
  induction d with
  | zero =>
    intro f v1 v2 m q h0 h1 h2 ht h
    obtain ⟨f, rfl⟩ : ∃ j, f = j + 1 := ⟨f - 1, by omega⟩
    rw [L11_findOrder_15, ht.1, if_pos (by omega)]
    exact ⟨v1, m, q, rfl, h, fun _ _ _ _ => rfl, fun _ _ x => x, fun v a b => (by have := ht.2.2.1 v b; omega), Or.inl ⟨rfl, rfl⟩⟩
  | succ d ih =>
    intro f v1 v2 m q h0 h1 h2 ht h
    obtain ⟨f, rfl⟩ : ∃ j, f = j + 1 := ⟨f - 1, by omega⟩
    have hC := ht.2.1
    have skip : (I v2 = false ∨ q v2.toNat = true ∨ ¬ (0 ≤ p v2 → q (p v2).toNat = true)) → ∃ v1' m' q', L11_findOrder_15 kk f v1 (w32 (v2 + 1)) m = kk v1' m' ∧ Pq I p (rd m' 83 24) (fun i => rd m' 100 i) q' ∧ (∀ k i, ¬ (k = 83 ∧ i = 24) → k ≠ 100 → m' k i = m k i) ∧ (∀ j, j < 12 → q j = true → q' j = true) ∧ (∀ v, v2 ≤ v → I v = true → (0 ≤ p v → q (p v).toNat = true) → q' v.toNat = true) ∧ ((v1' = v1 ∧ rd m' 83 24 = rd m 83 24) ∨ (v1' = 1 ∧ rd m 83 24 < rd m' 83 24)) := by
      intro s
      rw [w32_id (x := v2 + 1) (by omega) (by omega)]
      obtain ⟨a, m', q', x, y, z, u, w, t⟩ := ih f v1 (v2 + 1) m q (by omega) (by omega) (by omega) ht h
      refine ⟨a, m', q', x, y, z, u, fun v r g e => ?_, t⟩
      by_cases c : v = v2
      · subst c
        rcases s with s | s | s
        · rw [s] at g; cases g
        · exact u _ (by omega) s
        · exact absurd e s
      · exact w v (by omega) g e
    have bit : ∀ x : Int, 0 ≤ x → x < 12 → F11_isOrdered m x = some (if q x.toNat = true then 1 else 0) := fun x a b => isO_e h a b
    rw [L11_findOrder_15, ht.1, if_neg (by omega), gd_t (by omega)]
    have gt : ∀ {α : Type} (y : Option α), gd (0 ≤ v2 ∧ v2 < 12) y = y := fun y => gd_t ⟨h1, by omega⟩
    simp only [jn_v, gt]
    cases hI : I v2 with
    | false =>
      rw [if_pos ((ht.2.2.2.1 v2 h1 (by omega)).mpr hI)]
      exact skip (Or.inl hI)
    | true =>
      rw [if_neg (fun z => by have := (ht.2.2.2.1 v2 h1 (by omega)).mp z; rw [hI] at this; cases this), bit v2 h1 (by omega), b1_v, ht.2.2.2.2 v2 hI]
      cases hq : q v2.toNat with
      | true =>
        rw [if_pos rfl, if_pos (by omega)]
        exact skip (Or.inr (Or.inl hq))
      | false =>
        rw [if_neg (show ¬ (false = true) by intro z; cases z), if_neg (show ¬ ((0 : Int) ≠ 0) by omega)]
        have place : (0 ≤ p v2 → q (p v2).toNat = true) → ∃ v1' m' q', (gd (0 ≤ rd m 83 24 ∧ rd m 83 24 < 12) <| stw m 100 (rd m 83 24) v2 fun m74 => stw m74 83 24 (w32 ((rd m74 83 24) + 1)) fun m82 => L11_findOrder_15 kk f 1 (w32 (v2 + 1)) m82) = kk v1' m' ∧ Pq I p (rd m' 83 24) (fun i => rd m' 100 i) q' ∧ (∀ k i, ¬ (k = 83 ∧ i = 24) → k ≠ 100 → m' k i = m k i) ∧ (∀ j, j < 12 → q j = true → q' j = true) ∧ (∀ v, v2 ≤ v → I v = true → (0 ≤ p v → q (p v).toNat = true) → q' v.toNat = true) ∧ ((v1' = v1 ∧ rd m' 83 24 = rd m 83 24) ∨ (v1' = 1 ∧ rd m 83 24 < rd m' 83 24)) := by
          intro t
          have l := Pq_lt h hI h1 (by omega) hq
          have l2 : cI I ≤ 12 := cnt_le _ 12
          have l0 := h.1
          rw [gd_t (by omega), stw_v, stw_v, rd_wr_k (by omega), w32_id (x := v2 + 1) (by omega) (by omega), w32_id (x := rd m 83 24 + 1) (by omega) (by omega)]
          obtain ⟨u, hu⟩ : ∃ u, u = wr (wr m 100 (rd m 83 24) v2) 83 24 (rd m 83 24 + 1) := ⟨_, rfl⟩
          rw [← hu]
          have uo : ∀ k i, ¬ (k = 83 ∧ i = 24) → k ≠ 100 → u k i = m k i := fun k i a b => by rw [hu, wr_ki a, wr_ka b]
          have u24 : rd u 83 24 = rd m 83 24 + 1 := by rw [hu, rd_wr_s]; exact w32_id (by omega) (by omega)
          obtain ⟨q1, hq1⟩ : ∃ q1 : Nat → Bool, q1 = fun j => if j = v2.toNat then true else q j := ⟨_, rfl⟩
          have pq : Pq I p (rd u 83 24) (fun i => rd u 100 i) q1 := by
            rw [u24]
            refine Pq_add h hI h1 (by omega) hq (fun a => ⟨(ha.1 _ (ha.2.1 v2 hI a)).2, t a⟩) (fun i r s => ?_) ?_ (fun j r => by rw [hq1])
            · rw [hu, rd_wr_k (by omega), rd_wr_i (by omega)]
            · rw [hu, rd_wr_k (by omega), rd_wr_s]; exact w32_id (by omega) (by omega)
          obtain ⟨a, m', q', x, y, z, w, s, r⟩ := ih f 1 (v2 + 1) u q1 (by omega) (by omega) (by omega) (TR_s ht (rd_eq (uo _ _ (by omega) (by omega))) (fun c => rd_eq (uo _ _ (by omega) (by omega))) (fun c => rd_eq (uo _ _ (by omega) (by omega)))) pq
          refine ⟨a, m', q', x, y, fun k i c e => by rw [z k i c e]; exact uo k i c e, fun j c e => w j c (by rw [hq1]; dsimp only; split; rfl; exact e), fun v c e g => ?_, Or.inr ⟨?_, ?_⟩⟩
          · by_cases b : v = v2
            · subst b
              exact w _ (by omega) (by rw [hq1]; exact if_pos rfl)
            · refine s v (by omega) e (fun g0 => ?_)
              have := g g0
              rw [hq1]; dsimp only; split; rfl; exact this
          · rcases r with r | r
            · exact r.1
            · exact r.1
          · rcases r with r | r <;> omega
        by_cases a : p v2 < 0
        · rw [if_pos a]
          exact place (fun z => by omega)
        · rw [if_neg a]
          have pb := ha.1 _ (ha.2.1 v2 hI (by omega))
          rw [bit _ pb.1 pb.2, b1_v]
          by_cases b : q (p v2).toNat = true
          · rw [if_pos b, if_pos (by omega)]
            exact place (fun _ => b)
          · rw [if_neg b, if_neg (by omega)]
            exact skip (Or.inr (Or.inr (fun t => b (t (by omega)))))
theorem L11_fo7 {C : Int} {I : Int → Bool} {p : Int → Int} (ha : Acy I p) : ∀ (d f : Nat) (v1 : Int) (m : Mem) (q : Nat → Bool), (cI I : Int) ≤ rd m 83 24 + d → d + 1 < f → v1 ≠ 0 → TR m C I p → Pq I p (rd m 83 24) (fun i => rd m 100 i) q →
    ∃ m', L11_findOrder_7 f v1 m = some m' ∧ rd m' 83 24 = (cI I : Int) ∧ Od I p (cI I : Int) (fun i => rd m' 100 i) ∧ (∀ k i, ¬ (k = 83 ∧ i = 24) → k ≠ 100 → m' k i = m k i) := by
  intro d
  induction d with
  | zero =>
    intro f v1 m q h0 h1 h2 ht h
    obtain ⟨f, rfl⟩ : ∃ j, f = j + 1 + 1 := ⟨f - 2, by omega⟩
    have l := Pq_le h
    have hC := ht.2.1
    rw [L11_findOrder_7, if_neg h2]
    obtain ⟨a, m', q', x, y, z, u, w, t⟩ := L11_fo (kk := fun (v1_93 : Int) (m_93 : Mem) => L11_findOrder_7 (f + 1) v1_93 m_93) ha C.toNat FU 0 0 m q (by omega) (by omega) (by rw [FU_eq]; omega) ht h
    have l' := Pq_le y
    have t' : a = 0 ∧ rd m' 83 24 = rd m 83 24 := by omega
    rw [x]
    refine ⟨m', ?_, by omega, ?_, z⟩
    · show L11_findOrder_7 (f + 1) a m' = _
      rw [L11_findOrder_7, if_pos t'.1]
    · have : rd m' 83 24 = (cI I : Int) := by omega
      rw [this] at y
      exact Pq_full ha y rfl
  | succ d ih =>
    intro f v1 m q h0 h1 h2 ht h
    obtain ⟨f, rfl⟩ : ∃ j, f = j + 1 + 1 := ⟨f - 2, by omega⟩
    have hC := ht.2.1
    rw [L11_findOrder_7, if_neg h2]
    obtain ⟨a, m', q', x, y, z, u, w, t⟩ := L11_fo (kk := fun (v1_93 : Int) (m_93 : Mem) => L11_findOrder_7 (f + 1) v1_93 m_93) ha C.toNat FU 0 0 m q (by omega) (by omega) (by rw [FU_eq]; omega) ht h
    have l' := Pq_le y
    rw [x]
    show ∃ m'', L11_findOrder_7 (f + 1) a m' = some m'' ∧ _
    rcases t with ⟨t1, t2⟩ | ⟨t1, t2⟩
    · refine ⟨m', by rw [L11_findOrder_7, if_pos t1], ?_⟩
      have full : rd m' 83 24 = (cI I : Int) := by
        by_cases lt : rd m 83 24 < (cI I : Int)
        · obtain ⟨v, a1, a2, a3⟩ := Pq_next ha h lt
          have vr := ha.1 v a1
          have b1' := w v vr.1 a1 a3
          have := cnt_lt (p := q) (q := q') 12 v.toNat (by omega) u a2 b1'
          have c1 := h.2.1
          have c2 := y.2.1
          omega
        · omega
      rw [full] at y
      exact ⟨full, Pq_full ha y rfl, z⟩
    · obtain ⟨m'', p1, p2, p3, p4⟩ := ih (f + 1) a m' q' (by omega) (by omega) (by omega) (TR_s ht (rd_eq (z _ _ (by omega) (by omega))) (fun c => rd_eq (z _ _ (by omega) (by omega))) (fun c => rd_eq (z _ _ (by omega) (by omega)))) y
      exact ⟨m'', p1, p2, p3, fun k i e e' => by rw [p4 k i e e']; exact z k i e e'⟩
theorem fo_e {m : Mem} {C : Int} {I : Int → Bool} {p : Int → Int} (ha : Acy I p) (ht : TR m C I p) : ∃ m', F11_findOrder m = some m' ∧ rd m' 83 24 = (cI I : Int) ∧ Od I p (cI I : Int) (fun i => rd m' 100 i) ∧ (∀ k i, ¬ (k = 83 ∧ i = 24) → k ≠ 100 → m' k i = m k i) := by
  have l2 : cI I ≤ 12 := cnt_le _ 12
  obtain ⟨u, hu⟩ : ∃ u, u = wr m 83 24 0 := ⟨_, rfl⟩
  have uo : ∀ k i, ¬ (k = 83 ∧ i = 24) → u k i = m k i := fun k i a => by rw [hu, wr_ki a]
  have u24 : rd u 83 24 = 0 := by rw [hu, rd_wr_s]; exact w32_id (by omega) (by omega)
  obtain ⟨m', p1, p2, p3, p4⟩ := L11_fo7 (C := C) ha 12 FU 1 u (fun _ => false) (by omega) (by rw [FU_eq]; omega) (by omega) (TR_s ht (rd_eq (uo _ _ (by omega))) (fun c => rd_eq (uo _ _ (by omega))) (fun c => rd_eq (uo _ _ (by omega)))) (by
    rw [u24]
    refine ⟨by omega, rfl, ⟨fun i a b => by omega, fun i j a b => by omega⟩, fun v a b => ⟨fun h => (by cases h), fun ⟨i, c, d, _⟩ => (by omega)⟩⟩)
  refine ⟨m', ?_, p2, p3, fun k i a b => by rw [p4 k i a b]; exact uo k i a⟩
  unfold F11_findOrder
  rw [stw_v, ← hu]; exact p1
