/-! what the law's entry gives -/
theorem lm_1 {w : Cond} (i : Nat) (h : tables_1_1[i]? = some w) : w ∈ lw_tbl := List.mem_append_right _ (List.mem_append_left _ (List.mem_of_getElem? h))
theorem lm_2 {w : Cond} (i : Nat) (h : tables_1_2[i]? = some w) : w ∈ lw_tbl := List.mem_append_right _ (List.mem_append_right _ (List.mem_append_left _ (List.mem_of_getElem? h)))
theorem lm_4 {w : Cond} (i : Nat) (h : tables_1_4[i]? = some w) : w ∈ lw_tbl := List.mem_append_right _ (List.mem_append_right _ (List.mem_append_right _ (List.mem_append_right _ (List.mem_append_left _ (List.mem_of_getElem? h)))))
theorem lm_5 {w : Cond} (i : Nat) (h : tables_1_5[i]? = some w) : w ∈ lw_tbl := List.mem_append_right _ (List.mem_append_right _ (List.mem_append_right _ (List.mem_append_right _ (List.mem_append_right _ (List.mem_append_left _ (List.mem_of_getElem? h))))))
theorem WS_tbl {A : Array Value} {s : State} (hts : ∀ w ∈ lw_tbl, w.before A s = true) : ∀ w ∈ WS, w.before A s = true := fun w hw => hts w (List.mem_filter.mp hw).1
set_option maxRecDepth 100000 in
theorem NC_ok {A : Array Value} {s : State} (hts : ∀ w ∈ lw_tbl, w.before A s = true) : NCs s := List.forall_mem_cons.mpr ⟨va_Nw.of rfl (hts _ (lm_1 27 rfl)), List.forall_mem_cons.mpr ⟨va_Nw.of rfl (hts _ (lm_1 130 rfl)), List.forall_mem_cons.mpr ⟨va_Nw.of rfl (hts _ (lm_2 54 rfl)), List.forall_mem_cons.mpr ⟨va_Nw.of rfl (hts _ (lm_2 90 rfl)), List.forall_mem_cons.mpr ⟨va_Nw.of rfl (hts _ (lm_1 214 rfl)), List.forall_mem_cons.mpr ⟨va_Nw.of rfl (hts _ (lm_2 44 rfl)), fun _ h => absurd h List.not_mem_nil⟩⟩⟩⟩⟩⟩
set_option maxRecDepth 100000 in
theorem NW_ok {A : Array Value} {s : State} (hts : ∀ w ∈ lw_tbl, w.before A s = true) : NWs s := by
  intro j q hq
  match j, hq with
  | 0, hq => cases hq; exact va_Nw.of rfl (hts _ (lm_2 179 rfl))
  | 1, hq => cases hq; exact va_Nw.of rfl (hts _ (lm_2 182 rfl))
  | j + 2, hq => cases hq
theorem AC_ok {A : Array Value} {s : State} {ty : FieldType} (hp : ∀ C, ty ≠ .object C) (h : (Cond.arrayClass ty).before A s = true) : ∃ c : ClassId, ArrOfT s c ty ∧ va_RA s c ty := by
  obtain ⟨c, k, comp, h1, h2, h3⟩ := Cond.arrayClass_spec h
  refine ⟨c, fun n z => ⟨fun k h => (by cases h), k, h2, comp, h3⟩, ?_⟩
  cases ty with
  | object C => exact absurd rfl (hp C)
  | _ => exact h1
theorem AO_ok {A : Array Value} {s : State} {C : String} (h : (Cond.arrayOver (.object C)).before A s = true) : ∃ c : ClassId, ArrOfT s c (.object C) ∧ va_RA s c (.object C) := by
  obtain ⟨comp, c, k, h1, h2, h3, h4, h5⟩ := Cond.arrayOver_spec h
  exact ⟨c, fun n z => ⟨fun k h => (by cases h), k, h3, comp, h4⟩, k, comp, h3, h4, h1, h5⟩
set_option maxRecDepth 100000 in
theorem K_ok {A : Array Value} {s : State} (hts : ∀ w ∈ lw_tbl, w.before A s = true) : ∃ (G : va_G) (cy : Nat → Nat), va_K G vwCl (tysM cy) s := by
  have hW := WS_tbl hts
  have h : ∀ k : Nat, ∃ (c : ClassId) (iS : Nat → Nat), ∀ q, vwCl[k]? = some q → u_Kn s q.1 q.2.1 q.2.2 c iS := by
    intro k
    match k with
    | 0 => obtain ⟨c, iS, h⟩ := u_known hW (WS_u (ci := 0) rfl) (hW _ wn_X0); exact ⟨c, iS, fun q hq => by cases hq; exact h⟩
    | 1 => obtain ⟨c, iS, h⟩ := u_known hW (WS_u (ci := 1) rfl) (hW _ wn_X1); exact ⟨c, iS, fun q hq => by cases hq; exact h⟩
    | 2 => obtain ⟨c, iS, h⟩ := u_known hW (WS_u (ci := 2) rfl) (hW _ wn_X2); exact ⟨c, iS, fun q hq => by cases hq; exact h⟩
    | 3 => obtain ⟨c, iS, h⟩ := u_known hW (WS_u (ci := 3) rfl) (hW _ wn_X3); exact ⟨c, iS, fun q hq => by cases hq; exact h⟩
    | 4 => obtain ⟨c, iS, h⟩ := u_known hW (WS_u (ci := 4) rfl) (hW _ wn_X4); exact ⟨c, iS, fun q hq => by cases hq; exact h⟩
    | 5 => obtain ⟨c, iS, h⟩ := u_known hW (WS_u (ci := 5) rfl) (hW _ wn_X5); exact ⟨c, iS, fun q hq => by cases hq; exact h⟩
    | 6 => obtain ⟨c, iS, h⟩ := u_known hW (WS_u (ci := 6) rfl) (hW _ wn_X6); exact ⟨c, iS, fun q hq => by cases hq; exact h⟩
    | 7 => obtain ⟨c, iS, h⟩ := u_known hW (WS_u (ci := 7) rfl) (hW _ wn_X8); exact ⟨c, iS, fun q hq => by cases hq; exact h⟩
    | 8 => obtain ⟨c, iS, h⟩ := u_known hW (WS_u (ci := 8) rfl) (hW _ wn_X9); exact ⟨c, iS, fun q hq => by cases hq; exact h⟩
    | 9 => obtain ⟨c, iS, h⟩ := u_known hW (WS_u (ci := 9) rfl) (hW _ wn_X10); exact ⟨c, iS, fun q hq => by cases hq; exact h⟩
    | 10 => obtain ⟨c, iS, h⟩ := u_known hW (WS_u (ci := 10) rfl) (hW _ wn_X11); exact ⟨c, iS, fun q hq => by cases hq; exact h⟩
    | k + 11 => exact ⟨0, fun _ => 0, fun q hq => by cases hq⟩
  obtain ⟨c0, a0⟩ := AC_ok (ty := .int) (fun _ h => by cases h) (hts _ (lm_1 58 rfl))
  obtain ⟨c1, a1⟩ := AC_ok (ty := .long) (fun _ h => by cases h) (hts _ (lm_2 114 rfl))
  obtain ⟨c2, a2⟩ := AC_ok (ty := .byte) (fun _ h => by cases h) (hts _ (lm_5 226 rfl))
  obtain ⟨c3, a3⟩ := AC_ok (ty := .boolean) (fun _ h => by cases h) (hts _ (lm_5 225 rfl))
  obtain ⟨c4, a4⟩ := AO_ok (C := "MotherTowns$Shelf") (hts _ (lm_2 88 rfl))
  refine ⟨(fun k => Classical.choose (h k), fun k => Classical.choose (Classical.choose_spec (h k))), fun k => if k = 0 then c0 else if k = 1 then c1 else if k = 2 then c2 else if k = 3 then c3 else c4, fun k q hq => Classical.choose_spec (Classical.choose_spec (h k)) q hq, fun k q hq => ?_⟩
  match k, hq with
  | 0, hq => cases hq; exact a0
  | 1, hq => cases hq; exact a1
  | 2, hq => cases hq; exact a2
  | 3, hq => cases hq; exact a3
  | 4, hq => cases hq; exact a4
  | k + 5, hq => cases hq
theorem T_one {args : Array Value} {s : State} {C n : String} {vals : List Int} (hl : (Cond.laysStatic C n "[I").before args s = true) (hini : (Cond.initialized C).before args s = true) (harr : (Cond.arrayOf (.static C n "[I") .int).before args s = true) (hlen : (Cond.eq (.length (.static C n "[I")) (.int (Int32.ofNat vals.length))).before args s = true) (hel : ∀ j : Nat, j < vals.length → (Cond.eq (.elem (.static C n "[I") (.int (Int32.ofNat j))) (.int (Int32.ofInt (vals.getD j 0)))).before args s = true) (hN : vals.length < 2 ^ 31) : ∃ t : Nat, va_Z C n "[I" (.ref t) (fun q => s.heap.size ≤ q) s s.heap ∧ va_T .int t vals.length (fun i => .int (Int32.ofInt (vals.getD i 0))) (fun q => s.heap.size ≤ q) s s.heap := by
  obtain ⟨t, ht, hT⟩ := va_Tof (A := fun q => s.heap.size ≤ q) (tm := .static C n "[I") (f := fun i => .int (Int32.ofInt (vals.getD i 0))) hN harr (va_eqt hlen) (fun j hj => va_eqt (hel j hj)) (fun a h => Nat.not_le.mpr h)
  exact ⟨t, va_Zref hl hini ht (fun a h => Nat.not_le.mpr h), hT⟩
set_option maxRecDepth 100000 in
theorem T_ok {b : Nat} {s : State} (hts : ∀ w ∈ lw_tbl, w.before #[Value.ref b] s = true) (hgv : (Jvm.Cond.and given_1 narrow_1).before #[Value.ref b] s = true) : ∃ tt : Nat → Nat, ∀ (j : Nat) (q : String × String × List Int), stT[j]? = some q → va_Z q.1 q.2.1 "[I" (.ref (tt j)) (fun q => s.heap.size ≤ q) s s.heap ∧ va_T .int (tt j) q.2.2.length (fun i => .int (Int32.ofInt (q.2.2.getD i 0))) (fun q => s.heap.size ≤ q) s s.heap := by
  have hs := flat_of_before _ hgv
  obtain ⟨t0, z0⟩ := T_one (C := "MotherTowns$Slips") (n := "TEN") (vals := [1, 10, 100, 1000, 10000, 100000]) (hts _ (lm_4 134 rfl)) (hts _ (lm_1 16 rfl)) (hs _ (by decide +kernel)) (hs _ (by decide +kernel)) (fun j hj => by
    match j, hj with
    | 0, _ => exact hs _ (by decide +kernel)
    | 1, _ => exact hs _ (by decide +kernel)
    | 2, _ => exact hs _ (by decide +kernel)
    | 3, _ => exact hs _ (by decide +kernel)
    | 4, _ => exact hs _ (by decide +kernel)
    | 5, _ => exact hs _ (by decide +kernel)
    | j + 6, hj => exact absurd hj (Nat.not_lt.mpr (Nat.le_add_left _ _))) (by decide)
  obtain ⟨t1, z1⟩ := T_one (C := "MotherTowns$Slips") (n := "ALIKE") (vals := [6, 7, -1, 8, -1, 6, 5, 1, 3, -1]) (hts _ (lm_4 151 rfl)) (hts _ (lm_1 16 rfl)) (hs _ (by decide +kernel)) (hs _ (by decide +kernel)) (fun j hj => by
    match j, hj with
    | 0, _ => exact hs _ (by decide +kernel)
    | 1, _ => exact hs _ (by decide +kernel)
    | 2, _ => exact hs _ (by decide +kernel)
    | 3, _ => exact hs _ (by decide +kernel)
    | 4, _ => exact hs _ (by decide +kernel)
    | 5, _ => exact hs _ (by decide +kernel)
    | 6, _ => exact hs _ (by decide +kernel)
    | 7, _ => exact hs _ (by decide +kernel)
    | 8, _ => exact hs _ (by decide +kernel)
    | 9, _ => exact hs _ (by decide +kernel)
    | j + 10, hj => exact absurd hj (Nat.not_lt.mpr (Nat.le_add_left _ _))) (by decide)
  obtain ⟨t2, z2⟩ := T_one (C := "MotherTowns$Slips") (n := "ALSO_ALIKE") (vals := [-1, -1, -1, -1, -1, -1, 0, -1, -1, -1]) (hts _ (lm_4 153 rfl)) (hts _ (lm_1 16 rfl)) (hs _ (by decide +kernel)) (hs _ (by decide +kernel)) (fun j hj => by
    match j, hj with
    | 0, _ => exact hs _ (by decide +kernel)
    | 1, _ => exact hs _ (by decide +kernel)
    | 2, _ => exact hs _ (by decide +kernel)
    | 3, _ => exact hs _ (by decide +kernel)
    | 4, _ => exact hs _ (by decide +kernel)
    | 5, _ => exact hs _ (by decide +kernel)
    | 6, _ => exact hs _ (by decide +kernel)
    | 7, _ => exact hs _ (by decide +kernel)
    | 8, _ => exact hs _ (by decide +kernel)
    | 9, _ => exact hs _ (by decide +kernel)
    | j + 10, hj => exact absurd hj (Nat.not_lt.mpr (Nat.le_add_left _ _))) (by decide)
  obtain ⟨t3, z3⟩ := T_one (C := "MotherTowns$Paths") (n := "KIND_ABOVE") (vals := [-1, 0, 0, 1, 0, 4, 1]) (hts _ (lm_4 226 rfl)) (hts _ (lm_1 10 rfl)) (hs _ (by decide +kernel)) (hs _ (by decide +kernel)) (fun j hj => by
    match j, hj with
    | 0, _ => exact hs _ (by decide +kernel)
    | 1, _ => exact hs _ (by decide +kernel)
    | 2, _ => exact hs _ (by decide +kernel)
    | 3, _ => exact hs _ (by decide +kernel)
    | 4, _ => exact hs _ (by decide +kernel)
    | 5, _ => exact hs _ (by decide +kernel)
    | 6, _ => exact hs _ (by decide +kernel)
    | j + 7, hj => exact absurd hj (Nat.not_lt.mpr (Nat.le_add_left _ _))) (by decide)
  refine ⟨fun j => if j = 0 then t0 else if j = 1 then t1 else if j = 2 then t2 else t3, fun j q hq => ?_⟩
  match j, hq with
  | 0, hq => cases hq; exact z0
  | 1, hq => cases hq; exact z1
  | 2, hq => cases hq; exact z2
  | 3, hq => cases hq; exact z3
  | j + 4, hq => cases hq
theorem T_narrow {ad tt : Nat → Nat} {s : State} {cy : Nat → Nat} {m : Mem} (hD : va_D (fun q => s.heap.size ≤ q) (wsM cy ad m)) (h : ∀ (j : Nat) (q : String × String × List Int), stT[j]? = some q → va_Z q.1 q.2.1 "[I" (.ref (tt j)) (fun q => s.heap.size ≤ q) s s.heap ∧ va_T .int (tt j) q.2.2.length (fun i => .int (Int32.ofInt (q.2.2.getD i 0))) (fun q => s.heap.size ≤ q) s s.heap) : STs ad tt s s.heap := fun j q hq => ⟨(h j q hq).1.narrow (fun _ ha => AD_A hD ha), (h j q hq).2.narrow (fun _ ha => AD_A hD ha)⟩
section IAST
variable {p : Program} {l : Launch} {e : Env} {R : Room} {s : State} {mt : MethodId} {args : Array Value} {below : List Frame} {meth : Method} {c : Code} {Q : State → Prop} {G : va_G} {cy : Nat → Nat} {own : String} {cc : ByteArray} {nL : Nat} {A : Nat → Prop} {k w pc : Nat} {L : List (Option Value)} {st : List Value} {ws : va_W}
theorem i_astore_n (X : CI p s mt args c G cy own cc nL A) {i : Fin 4} {x : Nat} {L' : List (Option Value)} (hd : decode cc pc = .ok (.astore_n i, 1)) (hi : (i : Nat) < nL) (ho : okS L (i : Nat) = true) (hs : L.set (i : Nat) (some (.ref x)) = L') (kk : GI G p l e R s mt args below meth c nL A Q k w (pc + 1) L' st ws) : GI G p l e R s mt args below meth c nL A Q k w pc L (.ref x :: st) ws := by
  subst hs
  intro H locs ls hL hP hD hS
  obtain ⟨ls', e', h'⟩ := LH_store (v := .ref x) hL hi rfl ho
  intro T hT Y
  obtain ⟨t, a, b⟩ := kk H locs ls' h' hP hD hS T hT Y
  refine ⟨t, ?_, b⟩
  jvm_step Y.here [Y.here.top, ↓top_set Y.here.top, X.1, X.2.1, hd, e']
  exact ⟨rfl, a⟩
end IAST
/-! the start's memory holds what holds between the calls -/
theorem rd_m0 {k : Nat} {j : Int} (h9 : k ≠ 9) (h13 : k ≠ 13) (h31 : k ≠ 31) (h90 : k ≠ 90) (h119 : k ≠ 119) : rd m0 k j = 0 := by
  unfold rd; rw [m0_z h9 h13 h31 h90 h119]; rfl
theorem rl_m0 {k : Nat} {j : Int} (h9 : k ≠ 9) (h13 : k ≠ 13) (h31 : k ≠ 31) (h90 : k ≠ 90) (h119 : k ≠ 119) : rl m0 k j = 0 := by
  unfold rl; rw [m0_z h9 h13 h31 h90 h119]; rfl
theorem Inv_0 : Inv 0 m0 := by
  have a83 : ∀ i, rd m0 83 i = 0 := fun i => rd_m0 (by decide) (by decide) (by decide) (by decide) (by decide)
  have a4 : ∀ i, rd m0 4 i = 0 := fun i => rd_m0 (by decide) (by decide) (by decide) (by decide) (by decide)
  have a8 : ∀ i, rd m0 8 i = 0 := fun i => rd_m0 (by decide) (by decide) (by decide) (by decide) (by decide)
  have a1 : ∀ i, rd m0 1 i = 0 := fun i => rd_m0 (by decide) (by decide) (by decide) (by decide) (by decide)
  have a66 : ∀ i, rd m0 66 i = 0 := fun i => rd_m0 (by decide) (by decide) (by decide) (by decide) (by decide)
  have a120 : ∀ i, rd m0 120 i = 0 := fun i => rd_m0 (by decide) (by decide) (by decide) (by decide) (by decide)
  have a13 : ∀ i, rd m0 13 i = 9 := fun i => rfl
  have a119 : ∀ i, rd m0 119 i = -1 := fun i => rfl
  have b0 : rd m0 31 2 = 0 := rfl
  have b14 : rd m0 31 14 = -1 := by decide +kernel
  have ash : ∀ (s : Int) (i : Int), 0 ≤ s → s < 6 → rd m0 (71 + 2 * s.toNat) i = 0 := fun s i h0 h1 => rd_m0 (by omega) (by omega) (by omega) (by omega) (by omega)
  have asl : ∀ (s : Int) (i : Int), 0 ≤ s → s < 6 → rl m0 (71 + 2 * s.toNat + 1) i = 0 := fun s i h0 h1 => rl_m0 (by omega) (by omega) (by omega) (by omega) (by omega)
  refine ⟨?_, ?_, ?_, ?_, ?_, ?_, ?_, ?_, ?_, ?_⟩
  · unfold iCh
    simp only [a83, a4]
    exact ⟨by omega, by omega, trivial, fun c h0 h1 => absurd h1 (by omega), fun c _ _ => a8 c⟩
  · unfold iCe
    simp only [a83]
    refine ⟨fun c k h0 h1 => absurd h1 (by omega), fun k h0 h1 => ?_, fun c h0 h1 => absurd h1 (by omega)⟩
    rcases (by omega : k = 0 ∨ k = 1 ∨ k = 2 ∨ k = 3 ∨ k = 4) with h | h | h | h | h <;> subst h <;> decide +kernel
  · exact fun k _ _ => a13 k
  · unfold iLo
    simp only [a83, a4]
    exact ⟨by omega, by omega, by omega, trivial, trivial, fun i h0 h1 => absurd h1 (by omega)⟩
  · refine ⟨fun _ _ => -1, fun j _ _ => ⟨fun c h0 h1 => absurd h1 (by rw [a83]; omega), fun _ => 0, fun c h0 h1 => absurd h1 (by rw [a83]; omega)⟩, fun c h0 h1 => absurd h1 (by rw [a83]; omega), fun j h0 h1 => absurd h1 (by rw [a83, a83]; omega), fun j c h0 h1 => absurd h1 (by rw [a83, a83]; omega)⟩
  · unfold iTp
    simp only [a83, a1]
    exact ⟨by omega, by omega, trivial, fun i h0 h1 => absurd h1 (by omega)⟩
  · unfold iPa
    simp only [a83, a66]
    exact ⟨by omega, by omega, trivial, fun i h0 h1 => absurd h1 (by omega), by omega, by omega, trivial, fun i h0 h1 h2 => absurd h2 (by omega)⟩
  · refine ⟨fun s h0 h1 => ⟨Or.inl ⟨ash s 0 h0 h1, a119 s⟩, ?_, ?_, ?_⟩, fun s j h0 h1 h2 h3 => ?_⟩
    · rw [ash s 3 h0 h1, a120]
    · rw [a120]; omega
    · rw [a120]; omega
    · rw [asl s j h0 h1]; exact (rl_m0 (by decide) (by decide) (by decide) (by decide) (by decide)).symm
  · unfold iLi
    simp only [a83, b0]
    exact ⟨by omega, by omega, trivial, fun i h0 h1 => absurd h1 (by omega), fun i j h0 h1 => absurd h1 (by omega)⟩
  · unfold iBt
    simp only [a83, a4, b14]
    exact ⟨by omega, by omega, by omega, by omega, Or.inl rfl, by constructor <;> intro h <;> omega, fun h => absurd h (by omega)⟩
