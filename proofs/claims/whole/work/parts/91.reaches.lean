/-! the reference reaches a number by so many slips -/
def GOs (m : Mem) (s : Nat) (X : Option (Int × Mem)) (Z : Prop) : Prop := ∃ r m', X = some (r, m') ∧ FRs m m' (s + 1) ∧ ((r = 1 ∧ Z) ∨ (r = 0 ∧ ¬ Z))
def HRs (rec : Mem → Int → Int → Int → Option (Int × Mem)) (s : Nat) (l to : Int) (Y : List Int → Prop) : Prop := ∀ (m : Mem) (e : List Int), RWs m (s + 1) e → e.length ≤ 6 → dgs e → ∃ r m', rec m ((s + 1 : Nat) : Int) l to = some (r, m') ∧ FRs m m' (s + 1) ∧ ((r = 1 ∧ Y e) ∨ (r = 0 ∧ ¬ Y e))
theorem G_fr {m m1 : Mem} {s : Nat} {X : Option (Int × Mem)} {Z : Prop} (hf : FRs m m1 (s + 1)) (h : GOs m1 s X Z) : GOs m s X Z := by
  obtain ⟨r, m', a, b, c⟩ := h
  exact ⟨r, m', a, FRs_t hf b, c⟩
theorem G_if {m : Mem} {s : Nat} {X : Option (Int × Mem)} {Z Z' : Prop} (hz : Z' ↔ Z) (h : GOs m s X Z') : GOs m s X Z := by
  obtain ⟨r, m', a, b, c⟩ := h
  rw [hz] at c
  exact ⟨r, m', a, b, c⟩
theorem G_or {m m2 : Mem} {s : Nat} {r : Int} {X : Option (Int × Mem)} {Z Z' : Prop} (hr : (r = 1 ∧ Z) ∨ (r = 0 ∧ ¬ Z)) (hf : FRs m m2 (s + 1)) (h : GOs m2 s X Z') : GOs m s (if r = 0 then X else some (1, m2)) (Z ∨ Z') := by
  rcases hr with ⟨rfl, z⟩ | ⟨rfl, z⟩
  · rw [if_neg (by omega)]
    exact ⟨1, m2, rfl, hf, Or.inl ⟨rfl, Or.inl z⟩⟩
  · rw [if_pos rfl]
    exact G_fr hf (G_if ⟨Or.inr, fun q => q.resolve_left z⟩ h)
theorem G_jn {m : Mem} {s : Nat} {ds : List Int} {f : (Mem → Option (Int × Mem)) → Option (Int × Mem)} {K : Mem → Option (Int × Mem)} {Z Z' : Prop} (hK : ∀ m, RWs m s ds → GOs m s (K m) Z') (hf : ∀ K', (∀ m, RWs m s ds → GOs m s (K' m) Z') → GOs m s (f K') Z) : GOs m s (jn f K) Z := hf K hK
theorem dg_er {ds : List Int} (hd : dgs ds) (k : Nat) : dgs (ds.eraseIdx k) := fun d h => hd d (List.mem_of_mem_eraseIdx h)
theorem dg_dup {ds : List Int} (hd : dgs ds) (k : Nat) : dgs (dupL ds k) := by
  intro d h
  unfold dupL at h
  rcases List.mem_append.mp h with h | h
  · exact hd d (List.mem_of_mem_take h)
  · exact hd d (List.mem_of_mem_drop h)
theorem dg_swp {ds : List Int} (hd : dgs ds) (k : Nat) : dgs (swpL ds k) := by
  intro d h
  unfold swpL at h
  rcases List.mem_append.mp h with h | h
  · exact hd d (List.mem_of_mem_take h)
  · rcases List.mem_cons.mp h with rfl | h
    · exact dgD hd _
    · rcases List.mem_cons.mp h with rfl | h
      · exact dgD hd _
      · exact hd d (List.mem_of_mem_drop h)
theorem dg_set {ds : List Int} (hd : dgs ds) (k : Nat) {w : Int} (hw : 0 ≤ w ∧ w < 10) : dgs (ds.set k w) := by
  intro d h
  rcases List.mem_or_eq_of_mem_set h with h | h
  · exact hd d h
  · rw [h]; exact hw
theorem L11_290 {rec : Mem → Int → Int → Int → Option (Int × Mem)} {s : Nat} (hs : s ≤ 2) {l to : Int} {Y : List Int → Prop} (H : HRs rec s (w32 (l - 1)) to Y) {ds : List Int} (hd : dgs ds) (hl : ds.length ≤ 5) {k : Nat} (hk : k < ds.length) {kk : Mem → Option (Int × Mem)} {Z : Prop} (hK : ∀ m, RWs m s ds → GOs m s (kk m) Z) : ∀ (d t v : Nat) (m : Mem), v + d = 10 → d < t → RWs m s ds → GOs m s (L11_reaches_290 rec (s : Int) l to (cd (s + 1) 0) (k : Int) kk t (v : Int) m) ((∃ w : Nat, v ≤ w ∧ w < 10 ∧ F11_looksLike (ds.getD k 0) (w : Int) ≠ 0 ∧ Y (ds.set k (w : Int))) ∨ Z) := by
  intro d
  induction d with
  | zero =>
    intro t v m h0 h1 hr
    obtain ⟨t, rfl⟩ : ∃ i, t = i + 1 := ⟨t - 1, by omega⟩
    rw [L11_reaches_290, if_pos (by omega)]
    exact G_if ⟨Or.inr, fun q => q.resolve_left (fun ⟨w, a, b, _⟩ => by omega)⟩ (hK m hr)
  | succ d ih =>
    intro t v m h0 h1 hr
    obtain ⟨t, rfl⟩ : ∃ i, t = i + 1 := ⟨t - 1, by omega⟩
    obtain ⟨m1, c1, c2, c3⟩ := copy_e hs hd (by omega) hr
    have hr1 := RWs_f c2 (by omega) hr
    have e1 : w32 ((w32 (6 * (s : Int))) + (k : Int)) = cd s k := by unfold cd; rw [w32_id (x := 6 * (s : Int)) (by omega) (by omega), w32_id (by omega) (by omega)]; omega
    have e2 : w32 (cd (s + 1) 0 + (k : Int)) = cd (s + 1) k := by unfold cd; rw [w32_id (by omega) (by omega)]; omega
    have e3 : w32 ((s : Int) + 1) = ((s + 1 : Nat) : Int) := by rw [w32_id (by omega) (by omega)]; omega
    rw [L11_reaches_290, if_neg (by omega), c1, b1_v, e1, e2, e3, gd_t (by unfold cd; omega)]
    refine G_fr c2 ?_
    refine G_jn (ds := ds) (Z' := (∃ w : Nat, v + 1 ≤ w ∧ w < 10 ∧ F11_looksLike (ds.getD k 0) (w : Int) ≠ 0 ∧ Y (ds.set k (w : Int))) ∨ Z) (fun m2 h2 => ?_) (fun K hKK => ?_)
    · try dsimp only
      rw [w32_id (x := (v : Int) + 1) (by omega) (by omega), show (v : Int) + 1 = ((v + 1 : Nat) : Int) by omega]
      exact ih t (v + 1) m2 (by omega) (by omega) h2
    · try dsimp only
      rw [hr1.2 k hk]
      have sp : (∃ w : Nat, v ≤ w ∧ w < 10 ∧ F11_looksLike (ds.getD k 0) (w : Int) ≠ 0 ∧ Y (ds.set k (w : Int))) ↔ (F11_looksLike (ds.getD k 0) (v : Int) ≠ 0 ∧ Y (ds.set k (v : Int))) ∨ ∃ w : Nat, v + 1 ≤ w ∧ w < 10 ∧ F11_looksLike (ds.getD k 0) (w : Int) ≠ 0 ∧ Y (ds.set k (w : Int)) := by
        constructor
        · rintro ⟨w, a, b, c⟩
          by_cases q : w = v
          · rw [q] at c; exact Or.inl c
          · exact Or.inr ⟨w, by omega, b, c⟩
        · rintro (c | ⟨w, a, b, c⟩)
          · exact ⟨v, Nat.le_refl _, by omega, c⟩
          · exact ⟨w, by omega, b, c⟩
      by_cases z : F11_looksLike (ds.getD k 0) (v : Int) ≠ 0
      · rw [if_pos z, gd_t (by unfold cd; omega), stw_v]
        have f : FRs m1 (wr m1 114 (cd (s + 1) k) (v : Int)) (s + 1) := ⟨fun c i x _ => wr_ka x, fun i x => wr_ki (by unfold cd; omega), fun i _ => wr_ka (by omega)⟩
        obtain ⟨r, m2, r1, r2, r3⟩ := H (wr m1 114 (cd (s + 1) k) (v : Int)) (ds.set k (v : Int)) ⟨by rw [rd_wr_k (by omega), List.length_set]; exact c3.1, fun j hj => by
          rw [List.length_set] at hj
          rw [List.getD_eq_getElem?_getD, List.getElem?_set]
          by_cases q : j = k
          · rw [q, rd_wr_s, if_pos rfl, if_pos hk]; exact w32_id (by omega) (by omega)
          · rw [rd_wr_i (by unfold cd; omega), if_neg (fun q' => q q'.symm), ← List.getD_eq_getElem?_getD]; exact c3.2 j hj⟩ (by rw [List.length_set]; omega) (dg_set hd k ⟨by omega, by omega⟩)
        rw [r1, b2_v]
        refine G_fr f (G_if ?_ (G_or r3 r2 (hKK m2 (RWs_f (FRs_t f r2) (by omega) hr1))))
        rw [sp]
        exact ⟨fun q => q.elim (fun a => Or.inl (Or.inl ⟨z, a⟩)) (fun a => a.elim (fun b => Or.inl (Or.inr b)) Or.inr), fun q => q.elim (fun a => a.elim (fun b => Or.inl b.2) (fun b => Or.inr (Or.inl b))) (fun a => Or.inr (Or.inr a))⟩
      · rw [if_neg z]
        refine G_if ?_ (hKK m1 hr1)
        rw [sp]
        exact ⟨fun a => a.elim (fun b => Or.inl (Or.inr b)) Or.inr, fun q => q.elim (fun a => a.elim (fun b => absurd b.1 z) (fun b => Or.inl b)) Or.inr⟩
def ZK (Y : List Int → Prop) (ds : List Int) (k : Nat) : Prop := Y (ds.eraseIdx k) ∨ (ds.length < 5 ∧ Y (dupL ds k)) ∨ (k + 1 < ds.length ∧ Y (swpL ds k)) ∨ ∃ w : Nat, 0 ≤ w ∧ w < 10 ∧ F11_looksLike (ds.getD k 0) (w : Int) ≠ 0 ∧ Y (ds.set k (w : Int))
theorem L11_50 {rec : Mem → Int → Int → Int → Option (Int × Mem)} {s : Nat} (hs : s ≤ 2) {l to : Int} {Y : List Int → Prop} (H : HRs rec s (w32 (l - 1)) to Y) {ds : List Int} (hd : dgs ds) (hl : ds.length ≤ 5) : ∀ (d t k : Nat) (m : Mem), k + d = ds.length → d < t → RWs m s ds → GOs m s (L11_reaches_50 rec (s : Int) l to (ds.length : Int) (cd (s + 1) 0) t (k : Int) m) (∃ j, k ≤ j ∧ j < ds.length ∧ ZK Y ds j) := by
  intro d
  induction d with
  | zero =>
    intro t k m h0 h1 hr
    obtain ⟨t, rfl⟩ : ∃ i, t = i + 1 := ⟨t - 1, by omega⟩
    rw [L11_reaches_50, if_pos (by omega)]
    exact ⟨0, m, rfl, FRs_r, Or.inr ⟨rfl, fun ⟨j, a, b, _⟩ => by omega⟩⟩
  | succ d ih =>
    intro t k m h0 h1 hr
    obtain ⟨t, rfl⟩ : ∃ i, t = i + 1 := ⟨t - 1, by omega⟩
    have e3 : w32 ((s : Int) + 1) = ((s + 1 : Nat) : Int) := by rw [w32_id (by omega) (by omega)]; omega
    have sp : (∃ j, k ≤ j ∧ j < ds.length ∧ ZK Y ds j) ↔ (Y (ds.eraseIdx k) ∨ ((ds.length < 5 ∧ Y (dupL ds k)) ∨ ((k + 1 < ds.length ∧ Y (swpL ds k)) ∨ ((∃ w : Nat, 0 ≤ w ∧ w < 10 ∧ F11_looksLike (ds.getD k 0) (w : Int) ≠ 0 ∧ Y (ds.set k (w : Int))) ∨ ∃ j, k + 1 ≤ j ∧ j < ds.length ∧ ZK Y ds j)))) := by
      constructor
      · rintro ⟨j, a, b, c⟩
        by_cases q : j = k
        · rw [q] at c
          rcases c with c | c | c | c
          · exact Or.inl c
          · exact Or.inr (Or.inl c)
          · exact Or.inr (Or.inr (Or.inl c))
          · exact Or.inr (Or.inr (Or.inr (Or.inl c)))
        · exact Or.inr (Or.inr (Or.inr (Or.inr ⟨j, by omega, b, c⟩)))
      · rintro (c | c | c | c | ⟨j, a, b, c⟩)
        · exact ⟨k, Nat.le_refl _, by omega, Or.inl c⟩
        · exact ⟨k, Nat.le_refl _, by omega, Or.inr (Or.inl c)⟩
        · exact ⟨k, Nat.le_refl _, by omega, Or.inr (Or.inr (Or.inl c))⟩
        · exact ⟨k, Nat.le_refl _, by omega, Or.inr (Or.inr (Or.inr c))⟩
        · exact ⟨j, by omega, b, c⟩
    refine G_if sp.symm ?_
    clear sp
    obtain ⟨m1, c1, c2, c3⟩ := copy_e hs hd (by omega) hr
    have hr1 := RWs_f c2 (by omega) hr
    rw [L11_reaches_50, if_neg (by omega), c1, b1_v, e3]
    refine G_fr c2 ?_
    have mid : ∀ (m m' : Mem) (x : Int), (∀ c i, c ≠ 114 → m' c i = m c i) → (∀ i : Int, i < 6 * ((s + 1 : Nat) : Int) → m' 114 i = m 114 i) → FRs m (wr m' 115 ((s + 1 : Nat) : Int) x) (s + 1) := fun m m' x a b => ⟨fun c i y z => by rw [wr_ka z]; exact a c i y, fun i y => by rw [wr_ka (by omega)]; exact b i y, fun i y => by rw [wr_ki (by omega)]; exact a _ _ (by omega)⟩
    obtain ⟨m2, x1, x2, x3, x4⟩ := L11_66 hs hd (by omega) (k := k) (kk := fun (m_103 : Mem) =>
      gd (0 ≤ ((s + 1 : Nat) : Int) ∧ ((s + 1 : Nat) : Int) < 4) <|
      stw m_103 115 ((s + 1 : Nat) : Int) (w32 ((ds.length : Int) - 1)) fun m114 =>
      b2 (rec m114 ((s + 1 : Nat) : Int) (w32 (l - 1)) to) fun r123 m123 =>
      if r123 = 0 then
        b1 (F11_copyRow m123 (s : Int)) fun m133 =>
        L11_reaches_140 (cd (s + 1) 0) (k : Int) (fun (m_175 : Mem) =>
          gd (0 ≤ ((s + 1 : Nat) : Int) ∧ ((s + 1 : Nat) : Int) < 4) <|
          stw m_175 115 ((s + 1 : Nat) : Int) (w32 ((ds.length : Int) + 1)) fun m186 =>
          jn (fun (K209 : Mem → Option (Int × Mem)) =>
            if 5 ≤ (ds.length : Int) then
              K209 m186
            else
            b2 (rec m186 ((s + 1 : Nat) : Int) (w32 (l - 1)) to) fun r201 m201 =>
            if r201 = 0 then
              K209 m201
            else
            some (1, m201))
            (fun (m_209 : Mem) =>
            b1 (F11_copyRow m_209 (s : Int)) fun m211 =>
            jn (fun (K287 : Mem → Option (Int × Mem)) =>
              if (ds.length : Int) ≤ (w32 ((k : Int) + 1)) then
                K287 m211
              else
              gd (0 ≤ w32 ((w32 ((w32 (6 * (s : Int))) + (k : Int))) + 1) ∧ w32 ((w32 ((w32 (6 * (s : Int))) + (k : Int))) + 1) < 24) <|
              gd (0 ≤ w32 (cd (s + 1) 0 + (k : Int)) ∧ w32 (cd (s + 1) 0 + (k : Int)) < 24) <|
              stw m211 114 (w32 (cd (s + 1) 0 + (k : Int))) (rd m211 114 (w32 ((w32 ((w32 (6 * (s : Int))) + (k : Int))) + 1))) fun m246 =>
              gd (0 ≤ w32 ((w32 (6 * (s : Int))) + (k : Int)) ∧ w32 ((w32 (6 * (s : Int))) + (k : Int)) < 24) <|
              gd (0 ≤ w32 ((w32 (cd (s + 1) 0 + (k : Int))) + 1) ∧ w32 ((w32 (cd (s + 1) 0 + (k : Int))) + 1) < 24) <|
              stw m246 114 (w32 ((w32 (cd (s + 1) 0 + (k : Int))) + 1)) (rd m246 114 (w32 ((w32 (6 * (s : Int))) + (k : Int)))) fun m270 =>
              b2 (rec m270 ((s + 1 : Nat) : Int) (w32 (l - 1)) to) fun r279 m279 =>
              if r279 = 0 then
                K287 m279
              else
              some (1, m279))
              (fun (m_287 : Mem) =>
              L11_reaches_290 rec (s : Int) l to (cd (s + 1) 0) (k : Int) (fun (m_359 : Mem) =>
                L11_reaches_50 rec (s : Int) l to (ds.length : Int) (cd (s + 1) 0) t (w32 ((k : Int) + 1)) m_359) FU 0 m_287))) FU (ds.length : Int) m133
      else
      some (1, m123)) (ds.length - 1 - k) FU k m1 (by omega) (Nat.le_refl _) (by rw [FU_eq]; omega) (fun i hi _ => c3.2 i hi) (fun i hi hj => by rw [getD_er (by omega), if_pos hj]; exact c3.2 i (by omega))
    rw [show L11_reaches_66 (ds.length : Int) (cd (s + 1) 0) _ FU (k : Int) m1 = _ from x1]
    try dsimp only
    have f1 := mid m1 m2 (w32 ((ds.length : Int) - 1)) x2 x3
    have el := List.length_eraseIdx_of_lt (l := ds) (i := k) (by omega)
    rw [gd_t (by omega), stw_v]
    refine G_fr f1 ?_
    have hr2 := RWs_f f1 (by omega) hr1
    obtain ⟨r, m3, r1, r2, r3⟩ := H (wr m2 115 ((s + 1 : Nat) : Int) (w32 ((ds.length : Int) - 1))) (ds.eraseIdx k) ⟨by rw [rd_wr_s, w32_id (x := (ds.length : Int) - 1) (by omega) (by omega), w32_id (by omega) (by omega), el]; omega, fun j hj => by rw [rd_wr_k (by omega)]; exact x4 j (by omega)⟩ (by omega) (dg_er hd k)
    rw [r1, b2_v]
    refine G_or r3 r2 ?_
    have hr3 := RWs_f r2 (by omega) hr2
    -- the twice typed
    obtain ⟨m4, c1', c2', c3'⟩ := copy_e hs hd (by omega) hr3
    have hr4 := RWs_f c2' (by omega) hr3
    rw [c1', b1_v]
    refine G_fr c2' ?_
    obtain ⟨m5, y1, y2, y3, y4⟩ := L11_140 hs hd hl (k := k) (by omega) (kk := fun (m_175 : Mem) =>
          gd (0 ≤ ((s + 1 : Nat) : Int) ∧ ((s + 1 : Nat) : Int) < 4) <|
          stw m_175 115 ((s + 1 : Nat) : Int) (w32 ((ds.length : Int) + 1)) fun m186 =>
          jn (fun (K209 : Mem → Option (Int × Mem)) =>
            if 5 ≤ (ds.length : Int) then
              K209 m186
            else
            b2 (rec m186 ((s + 1 : Nat) : Int) (w32 (l - 1)) to) fun r201 m201 =>
            if r201 = 0 then
              K209 m201
            else
            some (1, m201))
            (fun (m_209 : Mem) =>
            b1 (F11_copyRow m_209 (s : Int)) fun m211 =>
            jn (fun (K287 : Mem → Option (Int × Mem)) =>
              if (ds.length : Int) ≤ (w32 ((k : Int) + 1)) then
                K287 m211
              else
              gd (0 ≤ w32 ((w32 ((w32 (6 * (s : Int))) + (k : Int))) + 1) ∧ w32 ((w32 ((w32 (6 * (s : Int))) + (k : Int))) + 1) < 24) <|
              gd (0 ≤ w32 (cd (s + 1) 0 + (k : Int)) ∧ w32 (cd (s + 1) 0 + (k : Int)) < 24) <|
              stw m211 114 (w32 (cd (s + 1) 0 + (k : Int))) (rd m211 114 (w32 ((w32 ((w32 (6 * (s : Int))) + (k : Int))) + 1))) fun m246 =>
              gd (0 ≤ w32 ((w32 (6 * (s : Int))) + (k : Int)) ∧ w32 ((w32 (6 * (s : Int))) + (k : Int)) < 24) <|
              gd (0 ≤ w32 ((w32 (cd (s + 1) 0 + (k : Int))) + 1) ∧ w32 ((w32 (cd (s + 1) 0 + (k : Int))) + 1) < 24) <|
              stw m246 114 (w32 ((w32 (cd (s + 1) 0 + (k : Int))) + 1)) (rd m246 114 (w32 ((w32 (6 * (s : Int))) + (k : Int)))) fun m270 =>
              b2 (rec m270 ((s + 1 : Nat) : Int) (w32 (l - 1)) to) fun r279 m279 =>
              if r279 = 0 then
                K287 m279
              else
              some (1, m279))
              (fun (m_287 : Mem) =>
              L11_reaches_290 rec (s : Int) l to (cd (s + 1) 0) (k : Int) (fun (m_359 : Mem) =>
                L11_reaches_50 rec (s : Int) l to (ds.length : Int) (cd (s + 1) 0) t (w32 ((k : Int) + 1)) m_359) FU 0 m_287))) (ds.length - k) FU ds.length m4 (by omega) (Nat.le_refl _) (by rw [FU_eq]; omega) (fun i hi _ => c3'.2 i hi) (fun i hi hj => by omega)
    rw [show L11_reaches_140 (cd (s + 1) 0) (k : Int) _ FU (ds.length : Int) m4 = _ from y1]
    try dsimp only
    have f2 := mid m4 m5 (w32 ((ds.length : Int) + 1)) y2 y3
    have dl := len_dup (ds := ds) (k := k) (by omega)
    rw [gd_t (by omega), stw_v]
    refine G_fr f2 ?_
    have hr5 := RWs_f f2 (by omega) hr4
    refine G_jn (ds := ds) (Z' := (k + 1 < ds.length ∧ Y (swpL ds k)) ∨ ((∃ w : Nat, 0 ≤ w ∧ w < 10 ∧ F11_looksLike (ds.getD k 0) (w : Int) ≠ 0 ∧ Y (ds.set k (w : Int))) ∨ ∃ j, k + 1 ≤ j ∧ j < ds.length ∧ ZK Y ds j)) (fun m6 h6 => ?_) (fun K hKK => ?_)
    · -- the two in the wrong order
      try dsimp only
      obtain ⟨m7, c1'', c2'', c3''⟩ := copy_e hs hd (by omega) h6
      have hr7 := RWs_f c2'' (by omega) h6
      rw [c1'', b1_v]
      refine G_fr c2'' ?_
      refine G_jn (ds := ds) (Z' := (∃ w : Nat, 0 ≤ w ∧ w < 10 ∧ F11_looksLike (ds.getD k 0) (w : Int) ≠ 0 ∧ Y (ds.set k (w : Int))) ∨ ∃ j, k + 1 ≤ j ∧ j < ds.length ∧ ZK Y ds j) (fun m8 h8 => ?_) (fun K hKK => ?_)
      · try dsimp only
        refine L11_290 hs H hd hl (k := k) (by omega) (fun m9 h9 => ?_) 10 FU 0 m8 (by omega) (by rw [FU_eq]; omega) h8
        try dsimp only
        rw [w32_id (x := (k : Int) + 1) (by omega) (by omega), show (k : Int) + 1 = ((k + 1 : Nat) : Int) by omega]
        exact ih t (k + 1) m9 (by omega) (by omega) h9
      · try dsimp only
        rw [w32_id (x := (k : Int) + 1) (by omega) (by omega)]
        by_cases z : k + 1 < ds.length
        · have a1 : w32 ((w32 (6 * (s : Int))) + (k : Int)) = cd s k := by unfold cd; rw [w32_id (x := 6 * (s : Int)) (by omega) (by omega), w32_id (by omega) (by omega)]; omega
          have a2 : w32 (cd s k + 1) = cd s (k + 1) := by unfold cd; rw [w32_id (by omega) (by omega)]; omega
          have a3 : w32 (cd (s + 1) 0 + (k : Int)) = cd (s + 1) k := by unfold cd; rw [w32_id (by omega) (by omega)]; omega
          have a4 : w32 (cd (s + 1) k + 1) = cd (s + 1) (k + 1) := by unfold cd; rw [w32_id (by omega) (by omega)]; omega
          rw [if_neg (by omega), a1, a2, a3, a4, gd_t (by unfold cd; omega), gd_t (by unfold cd; omega), stw_v, gd_t (by unfold cd; omega), gd_t (by unfold cd; omega), stw_v, rd_wr_i (i' := cd s k) (by unfold cd; omega)]
          have f3 : FRs m7 (wr (wr m7 114 (cd (s + 1) k) (rd m7 114 (cd s (k + 1)))) 114 (cd (s + 1) (k + 1)) (rd m7 114 (cd s k))) (s + 1) := ⟨fun c i x _ => by rw [wr_ka x, wr_ka x], fun i x => by rw [wr_ki (by unfold cd; omega), wr_ki (by unfold cd; omega)], fun i _ => by rw [wr_ka (by omega), wr_ka (by omega)]⟩
          have sl := len_swp z
          obtain ⟨r, m9, r1, r2, r3⟩ := H (wr (wr m7 114 (cd (s + 1) k) (rd m7 114 (cd s (k + 1)))) 114 (cd (s + 1) (k + 1)) (rd m7 114 (cd s k))) (swpL ds k) ⟨by rw [rd_wr_k (by omega), rd_wr_k (by omega), sl]; exact c3''.1, fun j hj => by
            rw [getD_swp z]
            by_cases q : j = k
            · rw [if_pos q, q, rd_wr_i (by unfold cd; omega), rd_wr_s, w32_rd]; exact hr7.2 (k + 1) z
            · rw [if_neg q]
              by_cases q' : j = k + 1
              · rw [if_pos q', q', rd_wr_s, w32_rd]; exact hr7.2 k (by omega)
              · rw [if_neg q', rd_wr_i (by unfold cd; omega), rd_wr_i (by unfold cd; omega)]; exact c3''.2 j (by omega)⟩ (by omega) (dg_swp hd k)
          rw [r1, b2_v]
          refine G_fr f3 (G_if ?_ (G_or r3 r2 (hKK m9 (RWs_f (FRs_t f3 r2) (by omega) hr7))))
          exact ⟨fun q => q.elim (fun a => Or.inl ⟨z, a⟩) Or.inr, fun q => q.elim (fun a => Or.inl a.2) Or.inr⟩
        · rw [if_pos (by omega)]
          exact G_if ⟨Or.inr, fun q => q.resolve_left (fun a => z a.1)⟩ (hKK m7 hr7)
    · try dsimp only
      by_cases z : ds.length < 5
      · rw [if_neg (by omega)]
        obtain ⟨r, m6, r1, r2, r3⟩ := H (wr m5 115 ((s + 1 : Nat) : Int) (w32 ((ds.length : Int) + 1))) (dupL ds k) ⟨by rw [rd_wr_s, w32_id (x := (ds.length : Int) + 1) (by omega) (by omega), w32_id (by omega) (by omega), dl]; omega, fun j hj => by rw [rd_wr_k (by omega)]; exact y4 j (by omega)⟩ (by omega) (dg_dup hd k)
        rw [r1, b2_v]
        refine G_if ?_ (G_or r3 r2 (hKK m6 (RWs_f r2 (by omega) hr5)))
        exact ⟨fun q => q.elim (fun a => Or.inl ⟨z, a⟩) Or.inr, fun q => q.elim (fun a => Or.inl a.2) Or.inr⟩
      · rw [if_pos (by omega)]
        exact G_if ⟨Or.inr, fun q => q.resolve_left (fun a => z a.1)⟩ (hKK _ hr5)
