section SIM
variable {l : Launch} {G : va_G} {cy ad tt : Nat → Nat}
def tb_X4_burntForms : List (Nat × (Instr × Nat)) := [(0, (.aload_n 0, 1)), (1, (.getfield 28, 3)), (4, (.aload_n 0, 1)), (5, (.getfield 24, 3)), (8, (.invokevirtual 32, 3)), (11, (.aload_n 0, 1)), (12, (.getfield 28, 3)), (15, (.aload_n 0, 1)), (16, (.getfield 24, 3)), (19, (.iload_n 2, 1)), (20, (.invokevirtual 38, 3)), (23, (.aload_n 0, 1)), (24, (.getfield 28, 3)), (27, (.getfield 42, 3)), (30, (.iload_n 1, 1)), (31, (.bipush 9, 2)), (33, (.iastore, 1)), (34, (.aload_n 0, 1)), (35, (.getfield 28, 3)), (38, (.invokevirtual 45, 3)), (41, (.pop, 1)), (42, (.aload_n 0, 1)), (43, (.getfield 28, 3)), (46, (.invokevirtual 49, 3)), (49, (.aload_n 0, 1)), (50, (.getfield 28, 3)), (53, (.iload_n 1, 1)), (54, (.invokevirtual 52, 3)), (57, (.ireturn, 1))]
set_option maxRecDepth 100000 in
theorem dt_X4_burntForms : (tb_X4_burntForms.all fun q => decide (decode cX4_burntForms q.1 = .ok q.2)) = true := by decide +kernel
set_option maxRecDepth 100000 in
set_option maxHeartbeats 4000000 in
theorem ok_F4_burntForms {m : Mem}  {v1 v2 : Int} (q1 : inR v1) (q2 : inR v2) {out : Int × Mem} (h : F4_burntForms m v1 v2 = some out) : CT l G cy ad tt yX4_burntForms cX4_burntForms 3 (some .int) 4 [.ref (ad 26), iv v1, iv v2] m (some (iv out.1)) (inR out.1) out.2 := by
  refine CT_of (by decide) (Nat.le_of_ble_eq_true rfl) (fun Go hR hT => ?_)
  replace hR : RS l G cy ad tt RX4 cX4_burntForms 3 4 Go := hR
  show Go 0 [some (.ref (ad 26)), some (iv v1), some (iv v2)] [] m
  unfold F4_burntForms at h
  refine r_aload_n (pc := 0) hR (dc dt_X4_burntForms 0 rfl) rfl ?_
  refine r_getr (pc := 1) (k2 := 14) hR (dc dt_X4_burntForms 1 rfl) fl_X4_28 tc_26 rfl ?_
  refine r_aload_n (pc := 4) hR (dc dt_X4_burntForms 2 rfl) rfl ?_
  refine r_getr (pc := 5) (k2 := 4) hR (dc dt_X4_burntForms 3 rfl) fl_X4_24 tc_26 rfl ?_
  obtain ⟨m8, e8, h⟩ := b1_some h
  refine r_callV (pc := 8) (rest := []) hR (dc dt_X4_burntForms 4 rfl) cl_X4_32 tc_14 rfl (ok_F9_growAsTold tr_c14 e8) (by decide) rfl (Nat.le_of_ble_eq_true rfl) rfl (fun q8r => ?_)
  show Go 11 [some (.ref (ad 26)), some (iv v1), some (iv v2)] [] m8
  refine r_aload_n (pc := 11) hR (dc dt_X4_burntForms 5 rfl) rfl ?_
  refine r_getr (pc := 12) (k2 := 14) hR (dc dt_X4_burntForms 6 rfl) fl_X4_28 tc_26 rfl ?_
  refine r_aload_n (pc := 15) hR (dc dt_X4_burntForms 7 rfl) rfl ?_
  refine r_getr (pc := 16) (k2 := 4) hR (dc dt_X4_burntForms 8 rfl) fl_X4_24 tc_26 rfl ?_
  refine r_iload_n (pc := 19) hR (dc dt_X4_burntForms 9 rfl) rfl ?_
  obtain ⟨m20, e20, h⟩ := b1_some h
  refine r_callV (pc := 20) (rest := []) hR (dc dt_X4_burntForms 10 rfl) cl_X4_38 tc_14 rfl (ok_F9_write tr_c14 q2 e20) (by decide) rfl (Nat.le_of_ble_eq_true rfl) rfl (fun q20r => ?_)
  show Go 23 [some (.ref (ad 26)), some (iv v1), some (iv v2)] [] m20
  refine r_aload_n (pc := 23) hR (dc dt_X4_burntForms 11 rfl) rfl ?_
  refine r_getr (pc := 24) (k2 := 14) hR (dc dt_X4_burntForms 12 rfl) fl_X4_28 tc_26 rfl ?_
  refine r_getr (pc := 27) (k2 := 19) hR (dc dt_X4_burntForms 13 rfl) fl_X4_42 tc_14 rfl ?_
  refine r_iload_n (pc := 30) hR (dc dt_X4_burntForms 14 rfl) rfl ?_
  refine r_bipush (pc := 31) hR (dc dt_X4_burntForms 15 rfl) (by decide) ?_
  obtain ⟨g1, h⟩ := gd_some h
  refine r_iast (pc := 33) hR (dc dt_X4_burntForms 16 rfl) tc_19 g1 q1 ?_
  replace h := stw_e h
  generalize wr m20 19 v1 9 = m33 at h ⊢
  refine r_aload_n (pc := 34) hR (dc dt_X4_burntForms 17 rfl) rfl ?_
  refine r_getr (pc := 35) (k2 := 14) hR (dc dt_X4_burntForms 18 rfl) fl_X4_28 tc_26 rfl ?_
  obtain ⟨r38, m38, e38, h⟩ := b2_some h
  refine r_callV (pc := 38) (rest := []) hR (dc dt_X4_burntForms 19 rfl) cl_X4_45 tc_14 rfl (ok_F9_least tr_c14 e38) (by decide) rfl (Nat.le_of_ble_eq_true rfl) rfl (fun q38r => ?_)
  show Go 41 [some (.ref (ad 26)), some (iv v1), some (iv v2)] [iv r38] m38
  refine r_pop (pc := 41) hR (dc dt_X4_burntForms 20 rfl) rfl ?_
  refine r_aload_n (pc := 42) hR (dc dt_X4_burntForms 21 rfl) rfl ?_
  refine r_getr (pc := 43) (k2 := 14) hR (dc dt_X4_burntForms 22 rfl) fl_X4_28 tc_26 rfl ?_
  obtain ⟨m46, e46, h⟩ := b1_some h
  refine r_callV (pc := 46) (rest := []) hR (dc dt_X4_burntForms 23 rfl) cl_X4_49 tc_14 rfl (ok_F9_spread tr_c14 e46) (by decide) rfl (Nat.le_of_ble_eq_true rfl) rfl (fun q46r => ?_)
  show Go 49 [some (.ref (ad 26)), some (iv v1), some (iv v2)] [] m46
  refine r_aload_n (pc := 49) hR (dc dt_X4_burntForms 24 rfl) rfl ?_
  refine r_getr (pc := 50) (k2 := 14) hR (dc dt_X4_burntForms 25 rfl) fl_X4_28 tc_26 rfl ?_
  refine r_iload_n (pc := 53) hR (dc dt_X4_burntForms 26 rfl) rfl ?_
  obtain ⟨r54, e54, h⟩ := b1_some h
  refine r_callV (pc := 54) (rest := []) hR (dc dt_X4_burntForms 27 rfl) cl_X4_52 tc_14 rfl (ok_F9_maybe tr_c14 q1 e54) (by decide) rfl (Nat.le_of_ble_eq_true rfl) rfl (fun q54r => ?_)
  show Go 57 [some (.ref (ad 26)), some (iv v1), some (iv v2)] [iv r54] m46
  exact r_iret hT (dc dt_X4_burntForms 28 rfl) (congrArg Prod.fst (Option.some.inj h)) (congrArg Prod.snd (Option.some.inj h)) q54r
def tb_X10_filled : List (Nat × (Instr × Nat)) := [(0, (.aload_n 0, 1)), (1, (.getfield 19, 3)), (4, (.iload_n 1, 1)), (5, (.invokevirtual 112, 3)), (8, (.ifCond .eq 10, 3)), (11, (.iload_n 2, 1)), (12, (.invokestatic 128, 3)), (15, (.ifCond .ne 5, 3)), (18, (.iconst (-1), 1)), (19, (.ireturn, 1)), (20, (.aload_n 0, 1)), (21, (.getfield 19, 3)), (24, (.iload_n 1, 1)), (25, (.iload_n 2, 1)), (26, (.invokevirtual 125, 3)), (29, (.istore_n 3, 1)), (30, (.iload_n 3, 1)), (31, (.bipush 9, 2)), (33, (.if_icmp .eq 9, 3)), (36, (.iconst 1, 1)), (37, (.iload_n 3, 1)), (38, (.ishl, 1)), (39, (.goto 12, 3)), (42, (.aload_n 0, 1)), (43, (.getfield 35, 3)), (46, (.iload_n 1, 1)), (47, (.iload_n 2, 1)), (48, (.invokevirtual 178, 3)), (51, (.ireturn, 1))]
set_option maxRecDepth 100000 in
theorem dt_X10_filled : (tb_X10_filled.all fun q => decide (decode cX10_filled q.1 = .ok q.2)) = true := by decide +kernel
set_option maxRecDepth 100000 in
set_option maxHeartbeats 4000000 in
theorem ok_F10_filled {m : Mem}  {v1 v2 : Int} (q1 : inR v1) (q2 : inR v2) {out : Int × Mem} (h : F10_filled m v1 v2 = some out) : CT l G cy ad tt yX10_filled cX10_filled 4 (some .int) 5 [.ref (ad 0), iv v1, iv v2] m (some (iv out.1)) (inR out.1) out.2 := by
  refine CT_of (by decide) (Nat.le_of_ble_eq_true rfl) (fun Go hR hT => ?_)
  replace hR : RS l G cy ad tt RX10 cX10_filled 4 5 Go := hR
  show Go 0 [some (.ref (ad 0)), some (iv v1), some (iv v2), none] [] m
  unfold F10_filled at h
  refine r_aload_n (pc := 0) hR (dc dt_X10_filled 0 rfl) rfl ?_
  refine r_getr (pc := 1) (k2 := 4) hR (dc dt_X10_filled 1 rfl) fl_X10_19 tc_0 rfl ?_
  refine r_iload_n (pc := 4) hR (dc dt_X10_filled 2 rfl) rfl ?_
  refine r_callV (pc := 5) (rest := []) hR (dc dt_X10_filled 3 rfl) cl_X10_112 tc_4 rfl (ok_F1_has q1) (by decide) rfl (Nat.le_of_ble_eq_true rfl) rfl (fun q5r => ?_)
  show Go 8 [some (.ref (ad 0)), some (iv v1), some (iv v2), none] [iv (F1_has m v1)] m
  refine r_if_eq (pc := 8) (tgt := 18) hR (dc dt_X10_filled 4 rfl) (by decide) (inZ_R q5r) (fun hc => ?_) (fun hc => ?_)
  · replace h := ite_t hc h
    refine r_iconst (pc := 18) hR (dc dt_X10_filled 8 rfl) ?_
    exact r_iret hT (dc dt_X10_filled 9 rfl) (congrArg Prod.fst (Option.some.inj h)) (congrArg Prod.snd (Option.some.inj h)) (rg_c rfl)
  replace h := ite_f hc h
  refine r_iload_n (pc := 11) hR (dc dt_X10_filled 5 rfl) rfl ?_
  refine r_callS (pc := 12) (rest := []) hR (dc dt_X10_filled 6 rfl) cl_X10_128 (ok_F10_isClause q2) (by decide) rfl (Nat.le_of_ble_eq_true rfl) rfl (fun q12r => ?_)
  show Go 15 [some (.ref (ad 0)), some (iv v1), some (iv v2), none] [iv (F10_isClause v2)] m
  refine r_if_ne (pc := 15) (tgt := 20) hR (dc dt_X10_filled 7 rfl) (by decide) (inZ_R q12r) (fun hc => ?_) (fun hc => ?_)
  · replace h := ite_t hc h
    refine r_aload_n (pc := 20) hR (dc dt_X10_filled 10 rfl) rfl ?_
    refine r_getr (pc := 21) (k2 := 4) hR (dc dt_X10_filled 11 rfl) fl_X10_19 tc_0 rfl ?_
    refine r_iload_n (pc := 24) hR (dc dt_X10_filled 12 rfl) rfl ?_
    refine r_iload_n (pc := 25) hR (dc dt_X10_filled 13 rfl) rfl ?_
    obtain ⟨r26, e26, h⟩ := b1_some h
    refine r_callV (pc := 26) (rest := []) hR (dc dt_X10_filled 14 rfl) cl_X10_125 tc_4 rfl (ok_F1_told q1 q2 e26) (by decide) rfl (Nat.le_of_ble_eq_true rfl) rfl (fun q26r => ?_)
    show Go 29 [some (.ref (ad 0)), some (iv v1), some (iv v2), none] [iv r26] m
    refine r_istore_n (pc := 29) (L' := [some (.ref (ad 0)), some (iv v1), some (iv v2), some (iv r26)]) hR (dc dt_X10_filled 15 rfl) (by decide) rfl rfl ?_
    refine r_iload_n (pc := 30) hR (dc dt_X10_filled 16 rfl) rfl ?_
    refine r_bipush (pc := 31) hR (dc dt_X10_filled 17 rfl) (by decide) ?_
    refine r_icmp_eq (pc := 33) (tgt := 42) hR (dc dt_X10_filled 18 rfl) (by decide) q26r (rg_c rfl) (fun hc => ?_) (fun hc => ?_)
    · replace h := ite_t hc h
      refine r_aload_n (pc := 42) hR (dc dt_X10_filled 23 rfl) rfl ?_
      refine r_getr (pc := 43) (k2 := 26) hR (dc dt_X10_filled 24 rfl) fl_X10_35 tc_0 rfl ?_
      refine r_iload_n (pc := 46) hR (dc dt_X10_filled 25 rfl) rfl ?_
      refine r_iload_n (pc := 47) hR (dc dt_X10_filled 26 rfl) rfl ?_
      obtain ⟨r48, m48, e48, h⟩ := b2_some h
      refine r_callV (pc := 48) (rest := []) hR (dc dt_X10_filled 27 rfl) cl_X10_178 tc_26 rfl (ok_F4_burntForms q1 q2 e48) (by decide) rfl (Nat.le_of_ble_eq_true rfl) rfl (fun q48r => ?_)
      show Go 51 [some (.ref (ad 0)), some (iv v1), some (iv v2), some (iv r26)] [iv r48] m48
      exact r_iret hT (dc dt_X10_filled 28 rfl) (congrArg Prod.fst (Option.some.inj h)) (congrArg Prod.snd (Option.some.inj h)) q48r
    replace h := ite_f hc h
    refine r_iconst (pc := 36) hR (dc dt_X10_filled 19 rfl) ?_
    refine r_iload_n (pc := 37) hR (dc dt_X10_filled 20 rfl) rfl ?_
    refine r_ishl (pc := 38) hR (dc dt_X10_filled 21 rfl) ?_
    refine r_goto (pc := 39) (tgt := 51) hR (dc dt_X10_filled 22 rfl) (by decide) ?_
    exact r_iret hT (dc dt_X10_filled 28 rfl) (congrArg Prod.fst (Option.some.inj h)) (congrArg Prod.snd (Option.some.inj h)) (ti_in _)
  replace h := ite_f hc h
  refine r_iconst (pc := 18) hR (dc dt_X10_filled 8 rfl) ?_
  exact r_iret hT (dc dt_X10_filled 9 rfl) (congrArg Prod.fst (Option.some.inj h)) (congrArg Prod.snd (Option.some.inj h)) (rg_c rfl)
def tb_X9_firstLate : List (Nat × (Instr × Nat)) := [(0, (.iconst (-1), 1)), (1, (.istore_n 1, 1)), (2, (.iconst 0, 1)), (3, (.istore_n 2, 1)), (4, (.iload_n 2, 1)), (5, (.aload_n 0, 1)), (6, (.getfield 51, 3)), (9, (.if_icmp .ge 91, 3)), (12, (.aload_n 0, 1)), (13, (.getfield 30, 3)), (16, (.iload_n 2, 1)), (17, (.iaload, 1)), (18, (.istore_n 3, 1)), (19, (.aload_n 0, 1)), (20, (.getfield 21, 3)), (23, (.iload_n 3, 1)), (24, (.aload_n 0, 1)), (25, (.getfield 15, 3)), (28, (.iload_n 3, 1)), (29, (.iaload, 1)), (30, (.iastore, 1)), (31, (.aload_n 0, 1)), (32, (.getfield 9, 3)), (35, (.iload_n 3, 1)), (36, (.iaload, 1)), (37, (.ifCond .lt 57, 3)), (40, (.aload_n 0, 1)), (41, (.getfield 21, 3)), (44, (.iload_n 3, 1)), (45, (.aload_n 0, 1)), (46, (.getfield 15, 3)), (49, (.iload_n 3, 1)), (50, (.iaload, 1)), (51, (.aload_n 0, 1)), (52, (.getfield 21, 3)), (55, (.aload_n 0, 1)), (56, (.getfield 9, 3)), (59, (.iload_n 3, 1)), (60, (.iaload, 1)), (61, (.iaload, 1)), (62, (.iconst 1, 1)), (63, (.iadd, 1)), (64, (.invokestatic 75, 3)), (67, (.iastore, 1)), (68, (.aload_n 0, 1)), (69, (.getfield 21, 3)), (72, (.iload_n 3, 1)), (73, (.iaload, 1)), (74, (.aload_n 0, 1)), (75, (.getfield 18, 3)), (78, (.iload_n 3, 1)), (79, (.iaload, 1)), (80, (.if_icmp .le 14, 3)), (83, (.iload_n 1, 1)), (84, (.ifCond .lt 8, 3)), (87, (.iload_n 3, 1)), (88, (.iload_n 1, 1)), (89, (.if_icmp .ge 5, 3)), (92, (.iload_n 3, 1)), (93, (.istore_n 1, 1)), (94, (.iinc 2 1, 3)), (97, (.goto (-93), 3)), (100, (.iload_n 1, 1)), (101, (.ireturn, 1))]
set_option maxRecDepth 100000 in
theorem dt_X9_firstLate : (tb_X9_firstLate.all fun q => decide (decode cX9_firstLate q.1 = .ok q.2)) = true := by decide +kernel
set_option maxRecDepth 100000 in
set_option maxHeartbeats 4000000 in
theorem lp_L9_firstLate_4 {Go : Nat → List (Option Value) → List Value → Mem → Prop} (hR : RS l G cy ad tt RX9 cX9_firstLate 4 1 Go) {out : Int × Mem} (hT : RT cX9_firstLate (some (iv out.1)) (inR out.1) out.2 (some .int) Go) {o : Nat} (hT0 : isTr o) : ∀ (n : Nat) (v1 : Int) (v2 : Int) (m : Mem), inR v1 → inR v2 → L9_firstLate_4 o n v1 v2 m = some out → Go 4 [some (.ref (ad o)), some (iv v1), some (iv v2), none] [] m := by
  intro n
  induction n with
  | zero =>
    intro v1 v2 m qv1 qv2 h
    cases h
  | succ n ih =>
    intro v1 v2 m qv1 qv2 h
    rw [L9_firstLate_4] at h
    refine r_iload_n (pc := 4) hR (dc dt_X9_firstLate 4 rfl) rfl ?_
    refine r_aload_n (pc := 5) hR (dc dt_X9_firstLate 5 rfl) rfl ?_
    refine r_geti (pc := 6) hR (dc dt_X9_firstLate 6 rfl) fl_X9_51 hT0.1 rfl ?_
    refine r_icmp_ge (pc := 9) (tgt := 100) hR (dc dt_X9_firstLate 7 rfl) (by decide) qv2 (rd_in _ _ _) (fun hc => ?_) (fun hc => ?_)
    · replace h := ite_t hc h
      refine r_iload_n (pc := 100) hR (dc dt_X9_firstLate 62 rfl) rfl ?_
      exact r_iret hT (dc dt_X9_firstLate 63 rfl) (congrArg Prod.fst (Option.some.inj h)) (congrArg Prod.snd (Option.some.inj h)) qv1
    replace h := ite_f hc h
    refine r_aload_n (pc := 12) hR (dc dt_X9_firstLate 8 rfl) rfl ?_
    refine r_getr (pc := 13) (k2 := o + 7) hR (dc dt_X9_firstLate 9 rfl) fl_X9_30 hT0.1 rfl ?_
    refine r_iload_n (pc := 16) hR (dc dt_X9_firstLate 10 rfl) rfl ?_
    obtain ⟨g1, h⟩ := gd_some h
    refine r_iald (pc := 17) hR (dc dt_X9_firstLate 11 rfl) (tr_7 hT0) g1 qv2 ?_
    refine r_istore_n (pc := 18) (L' := [some (.ref (ad o)), some (iv v1), some (iv v2), some (iv (rd m (o + 7) v2))]) hR (dc dt_X9_firstLate 12 rfl) (by decide) rfl rfl ?_
    refine r_aload_n (pc := 19) hR (dc dt_X9_firstLate 13 rfl) rfl ?_
    refine r_getr (pc := 20) (k2 := o + 4) hR (dc dt_X9_firstLate 14 rfl) fl_X9_21 hT0.1 rfl ?_
    refine r_iload_n (pc := 23) hR (dc dt_X9_firstLate 15 rfl) rfl ?_
    refine r_aload_n (pc := 24) hR (dc dt_X9_firstLate 16 rfl) rfl ?_
    refine r_getr (pc := 25) (k2 := o + 2) hR (dc dt_X9_firstLate 17 rfl) fl_X9_15 hT0.1 rfl ?_
    refine r_iload_n (pc := 28) hR (dc dt_X9_firstLate 18 rfl) rfl ?_
    obtain ⟨g1, h⟩ := gd_some h
    refine r_iald (pc := 29) hR (dc dt_X9_firstLate 19 rfl) (tr_2 hT0) g1 (rd_in _ _ _) ?_
    obtain ⟨g1, h⟩ := gd_some h
    refine r_iast (pc := 30) hR (dc dt_X9_firstLate 20 rfl) (tr_4 hT0) g1 (rd_in _ _ _) ?_
    replace h := stw_e h
    generalize wr m (o + 4) (rd m (o + 7) v2) (rd m (o + 2) (rd m (o + 7) v2)) = m30 at h ⊢
    refine r_aload_n (pc := 31) hR (dc dt_X9_firstLate 21 rfl) rfl ?_
    refine r_getr (pc := 32) (k2 := o + 1) hR (dc dt_X9_firstLate 22 rfl) fl_X9_9 hT0.1 rfl ?_
    refine r_iload_n (pc := 35) hR (dc dt_X9_firstLate 23 rfl) rfl ?_
    obtain ⟨g1, h⟩ := gd_some h
    refine r_iald (pc := 36) hR (dc dt_X9_firstLate 24 rfl) (tr_1 hT0) g1 (rd_in _ _ _) ?_
    refine jn_e h (fun (K : Int → Mem → Option (Int × Mem)) => ∀ (v1_94 : Int) (m_94 : Mem), inR v1_94 → K v1_94 m_94 = some out → Go 94 [some (.ref (ad o)), some (iv v1_94), some (iv v2), none] [] m_94) (fun v1_94 m_94 qv1_94 h => ?_) (fun K94 J94 h => ?_)
    · refine r_iinc (pc := 94) (L' := [some (.ref (ad o)), some (iv v1_94), some (iv (w32 (v2 + 1))), none]) hR (dc dt_X9_firstLate 60 rfl) rfl (by decide) rfl rfl ?_
      refine r_goto (pc := 97) (tgt := 4) hR (dc dt_X9_firstLate 61 rfl) (by decide) ?_
      exact ih v1_94 (w32 (v2 + 1)) m_94 qv1_94 (w32_in _) h
    refine r_if_lt (pc := 37) (tgt := 94) hR (dc dt_X9_firstLate 25 rfl) (by decide) (rd_in _ _ _) (fun hc => ?_) (fun hc => ?_)
    · replace h := ite_t hc h
      refine r_weak (L' := [some (.ref (ad o)), some (iv v1), some (iv v2), none]) hR ⟨Or.inr rfl, Or.inr rfl, Or.inr rfl, Or.inl rfl, trivial⟩ ?_
      exact J94 v1 m30 qv1 h
    replace h := ite_f hc h
    refine r_aload_n (pc := 40) hR (dc dt_X9_firstLate 26 rfl) rfl ?_
    refine r_getr (pc := 41) (k2 := o + 4) hR (dc dt_X9_firstLate 27 rfl) fl_X9_21 hT0.1 rfl ?_
    refine r_iload_n (pc := 44) hR (dc dt_X9_firstLate 28 rfl) rfl ?_
    refine r_aload_n (pc := 45) hR (dc dt_X9_firstLate 29 rfl) rfl ?_
    refine r_getr (pc := 46) (k2 := o + 2) hR (dc dt_X9_firstLate 30 rfl) fl_X9_15 hT0.1 rfl ?_
    refine r_iload_n (pc := 49) hR (dc dt_X9_firstLate 31 rfl) rfl ?_
    obtain ⟨g1, h⟩ := gd_some h
    refine r_iald (pc := 50) hR (dc dt_X9_firstLate 32 rfl) (tr_2 hT0) g1 (rd_in _ _ _) ?_
    refine r_aload_n (pc := 51) hR (dc dt_X9_firstLate 33 rfl) rfl ?_
    refine r_getr (pc := 52) (k2 := o + 4) hR (dc dt_X9_firstLate 34 rfl) fl_X9_21 hT0.1 rfl ?_
    refine r_aload_n (pc := 55) hR (dc dt_X9_firstLate 35 rfl) rfl ?_
    refine r_getr (pc := 56) (k2 := o + 1) hR (dc dt_X9_firstLate 36 rfl) fl_X9_9 hT0.1 rfl ?_
    refine r_iload_n (pc := 59) hR (dc dt_X9_firstLate 37 rfl) rfl ?_
    obtain ⟨g1, h⟩ := gd_some h
    refine r_iald (pc := 60) hR (dc dt_X9_firstLate 38 rfl) (tr_1 hT0) g1 (rd_in _ _ _) ?_
    obtain ⟨g1, h⟩ := gd_some h
    refine r_iald (pc := 61) hR (dc dt_X9_firstLate 39 rfl) (tr_4 hT0) g1 (rd_in _ _ _) ?_
    refine r_iconst (pc := 62) hR (dc dt_X9_firstLate 40 rfl) ?_
    refine r_iadd (pc := 63) hR (dc dt_X9_firstLate 41 rfl) ?_
    refine r_max (pc := 64) hR (dc dt_X9_firstLate 42 rfl) mw_X9_75 (rd_in _ _ _) (w32_in _) (Nat.le_of_ble_eq_true rfl) (by decide) ?_
    obtain ⟨g1, h⟩ := gd_some h
    refine r_iast (pc := 67) hR (dc dt_X9_firstLate 43 rfl) (tr_4 hT0) g1 (rd_in _ _ _) ?_
    replace h := stw_e h
    generalize wr m30 (o + 4) (rd m (o + 7) v2) (imx (rd m30 (o + 2) (rd m (o + 7) v2)) (w32 ((rd m30 (o + 4) (rd m30 (o + 1) (rd m (o + 7) v2))) + 1))) = m67 at h ⊢
    refine r_aload_n (pc := 68) hR (dc dt_X9_firstLate 44 rfl) rfl ?_
    refine r_getr (pc := 69) (k2 := o + 4) hR (dc dt_X9_firstLate 45 rfl) fl_X9_21 hT0.1 rfl ?_
    refine r_iload_n (pc := 72) hR (dc dt_X9_firstLate 46 rfl) rfl ?_
    obtain ⟨g1, h⟩ := gd_some h
    refine r_iald (pc := 73) hR (dc dt_X9_firstLate 47 rfl) (tr_4 hT0) g1 (rd_in _ _ _) ?_
    refine r_aload_n (pc := 74) hR (dc dt_X9_firstLate 48 rfl) rfl ?_
    refine r_getr (pc := 75) (k2 := o + 3) hR (dc dt_X9_firstLate 49 rfl) fl_X9_18 hT0.1 rfl ?_
    refine r_iload_n (pc := 78) hR (dc dt_X9_firstLate 50 rfl) rfl ?_
    obtain ⟨g1, h⟩ := gd_some h
    refine r_iald (pc := 79) hR (dc dt_X9_firstLate 51 rfl) (tr_3 hT0) g1 (rd_in _ _ _) ?_
    refine r_icmp_le (pc := 80) (tgt := 94) hR (dc dt_X9_firstLate 52 rfl) (by decide) (rd_in _ _ _) (rd_in _ _ _) (fun hc => ?_) (fun hc => ?_)
    · replace h := ite_t hc h
      refine r_weak (L' := [some (.ref (ad o)), some (iv v1), some (iv v2), none]) hR ⟨Or.inr rfl, Or.inr rfl, Or.inr rfl, Or.inl rfl, trivial⟩ ?_
      exact J94 v1 m67 qv1 h
    replace h := ite_f hc h
    refine r_iload_n (pc := 83) hR (dc dt_X9_firstLate 53 rfl) rfl ?_
    refine jn_e h (fun (K : Option (Int × Mem)) => K = some out → Go 92 [some (.ref (ad o)), none, some (iv v2), some (iv (rd m (o + 7) v2))] [] m67) (fun h => ?_) (fun K92 J92 h => ?_)
    · refine r_iload_n (pc := 92) hR (dc dt_X9_firstLate 58 rfl) rfl ?_
      refine r_istore_n (pc := 93) (L' := [some (.ref (ad o)), some (iv (rd m (o + 7) v2)), some (iv v2), some (iv (rd m (o + 7) v2))]) hR (dc dt_X9_firstLate 59 rfl) (by decide) rfl rfl ?_
      refine r_weak (L' := [some (.ref (ad o)), some (iv (rd m (o + 7) v2)), some (iv v2), none]) hR ⟨Or.inr rfl, Or.inr rfl, Or.inr rfl, Or.inl rfl, trivial⟩ ?_
      exact J94 (rd m (o + 7) v2) m67 (rd_in _ _ _) h
    refine r_if_lt (pc := 84) (tgt := 92) hR (dc dt_X9_firstLate 54 rfl) (by decide) qv1 (fun hc => ?_) (fun hc => ?_)
    · replace h := ite_t hc h
      refine r_weak (L' := [some (.ref (ad o)), none, some (iv v2), some (iv (rd m (o + 7) v2))]) hR ⟨Or.inr rfl, Or.inl rfl, Or.inr rfl, Or.inr rfl, trivial⟩ ?_
      exact J92 h
    replace h := ite_f hc h
    refine r_iload_n (pc := 87) hR (dc dt_X9_firstLate 55 rfl) rfl ?_
    refine r_iload_n (pc := 88) hR (dc dt_X9_firstLate 56 rfl) rfl ?_
    refine r_icmp_ge (pc := 89) (tgt := 94) hR (dc dt_X9_firstLate 57 rfl) (by decide) (rd_in _ _ _) qv1 (fun hc => ?_) (fun hc => ?_)
    · replace h := ite_t hc h
      refine r_weak (L' := [some (.ref (ad o)), some (iv v1), some (iv v2), none]) hR ⟨Or.inr rfl, Or.inr rfl, Or.inr rfl, Or.inl rfl, trivial⟩ ?_
      exact J94 v1 m67 qv1 h
    replace h := ite_f hc h
    refine r_weak (L' := [some (.ref (ad o)), none, some (iv v2), some (iv (rd m (o + 7) v2))]) hR ⟨Or.inr rfl, Or.inl rfl, Or.inr rfl, Or.inr rfl, trivial⟩ ?_
    exact J92 h
set_option maxRecDepth 100000 in
set_option maxHeartbeats 4000000 in
theorem ok_F9_firstLate {m : Mem} {o : Nat} (hT0 : isTr o) {out : Int × Mem} (h : F9_firstLate m o = some out) : CT l G cy ad tt yX9_firstLate cX9_firstLate 4 (some .int) 1 [.ref (ad o)] m (some (iv out.1)) (inR out.1) out.2 := by
  refine CT_of (by decide) (Nat.le_of_ble_eq_true rfl) (fun Go hR hT => ?_)
  replace hR : RS l G cy ad tt RX9 cX9_firstLate 4 1 Go := hR
  show Go 0 [some (.ref (ad o)), none, none, none] [] m
  unfold F9_firstLate at h
  refine r_iconst (pc := 0) hR (dc dt_X9_firstLate 0 rfl) ?_
  refine r_istore_n (pc := 1) (L' := [some (.ref (ad o)), some (iv (-1)), none, none]) hR (dc dt_X9_firstLate 1 rfl) (by decide) rfl rfl ?_
  refine r_iconst (pc := 2) hR (dc dt_X9_firstLate 2 rfl) ?_
  refine r_istore_n (pc := 3) (L' := [some (.ref (ad o)), some (iv (-1)), some (iv 0), none]) hR (dc dt_X9_firstLate 3 rfl) (by decide) rfl rfl ?_
  refine lp_L9_firstLate_4 hR hT hT0 FU (-1) 0 m (rg_c rfl) (rg_c rfl) h
def tb_X9_latestOf : List (Nat × (Instr × Nat)) := [(0, (.iconst 0, 1)), (1, (.istore_n 2, 1)), (2, (.iload_n 2, 1)), (3, (.aload_n 0, 1)), (4, (.getfield 51, 3)), (7, (.if_icmp .ge 21, 3)), (10, (.aload_n 0, 1)), (11, (.getfield 27, 3)), (14, (.iload_n 2, 1)), (15, (.aload_n 0, 1)), (16, (.getfield 18, 3)), (19, (.iload_n 2, 1)), (20, (.iaload, 1)), (21, (.iastore, 1)), (22, (.iinc 2 1, 3)), (25, (.goto (-23), 3)), (28, (.aload_n 0, 1)), (29, (.getfield 51, 3)), (32, (.iconst 1, 1)), (33, (.isub, 1)), (34, (.istore_n 2, 1)), (35, (.iload_n 2, 1)), (36, (.ifCond .lt 58, 3)), (39, (.aload_n 0, 1)), (40, (.getfield 30, 3)), (43, (.iload_n 2, 1)), (44, (.iaload, 1)), (45, (.istore_n 3, 1)), (46, (.aload_n 0, 1)), (47, (.getfield 9, 3)), (50, (.iload_n 3, 1)), (51, (.iaload, 1)), (52, (.ifCond .lt 36, 3)), (55, (.aload_n 0, 1)), (56, (.getfield 27, 3)), (59, (.aload_n 0, 1)), (60, (.getfield 9, 3)), (63, (.iload_n 3, 1)), (64, (.iaload, 1)), (65, (.aload_n 0, 1)), (66, (.getfield 27, 3)), (69, (.aload_n 0, 1)), (70, (.getfield 9, 3)), (73, (.iload_n 3, 1)), (74, (.iaload, 1)), (75, (.iaload, 1)), (76, (.aload_n 0, 1)), (77, (.getfield 27, 3)), (80, (.iload_n 3, 1)), (81, (.iaload, 1)), (82, (.iconst 1, 1)), (83, (.isub, 1)), (84, (.invokestatic 80, 3)), (87, (.iastore, 1)), (88, (.iinc 2 (-1), 3)), (91, (.goto (-56), 3)), (94, (.aload_n 0, 1)), (95, (.getfield 27, 3)), (98, (.iload_n 1, 1)), (99, (.iaload, 1)), (100, (.ireturn, 1))]
set_option maxRecDepth 100000 in
theorem dt_X9_latestOf : (tb_X9_latestOf.all fun q => decide (decode cX9_latestOf q.1 = .ok q.2)) = true := by decide +kernel
set_option maxRecDepth 100000 in
set_option maxHeartbeats 4000000 in
theorem lp_L9_latestOf_2 {Go : Nat → List (Option Value) → List Value → Mem → Prop} (hR : RS l G cy ad tt RX9 cX9_latestOf 4 1 Go) {out : Int × Mem} (hT : RT cX9_latestOf (some (iv out.1)) (inR out.1) out.2 (some .int) Go) {o : Nat} (hT0 : isTr o) {v1 : Int} (qv1 : inR v1) {k28 : Mem → Option (Int × Mem)} (hk28 : ∀ (m : Mem), k28 m = some out → Go 28 [some (.ref (ad o)), some (iv v1), none, none] [] m) : ∀ (n : Nat) (v2 : Int) (m : Mem), inR v2 → L9_latestOf_2 o k28 n v2 m = some out → Go 2 [some (.ref (ad o)), some (iv v1), some (iv v2), none] [] m := by
  intro n
  induction n with
  | zero =>
    intro v2 m qv2 h
    cases h
  | succ n ih =>
    intro v2 m qv2 h
    rw [L9_latestOf_2] at h
    refine r_iload_n (pc := 2) hR (dc dt_X9_latestOf 2 rfl) rfl ?_
    refine r_aload_n (pc := 3) hR (dc dt_X9_latestOf 3 rfl) rfl ?_
    refine r_geti (pc := 4) hR (dc dt_X9_latestOf 4 rfl) fl_X9_51 hT0.1 rfl ?_
    refine r_icmp_ge (pc := 7) (tgt := 28) hR (dc dt_X9_latestOf 5 rfl) (by decide) qv2 (rd_in _ _ _) (fun hc => ?_) (fun hc => ?_)
    · replace h := ite_t hc h
      refine r_weak (L' := [some (.ref (ad o)), some (iv v1), none, none]) hR ⟨Or.inr rfl, Or.inr rfl, Or.inl rfl, Or.inr rfl, trivial⟩ ?_
      exact hk28 m h
    replace h := ite_f hc h
    refine r_aload_n (pc := 10) hR (dc dt_X9_latestOf 6 rfl) rfl ?_
    refine r_getr (pc := 11) (k2 := o + 6) hR (dc dt_X9_latestOf 7 rfl) fl_X9_27 hT0.1 rfl ?_
    refine r_iload_n (pc := 14) hR (dc dt_X9_latestOf 8 rfl) rfl ?_
    refine r_aload_n (pc := 15) hR (dc dt_X9_latestOf 9 rfl) rfl ?_
    refine r_getr (pc := 16) (k2 := o + 3) hR (dc dt_X9_latestOf 10 rfl) fl_X9_18 hT0.1 rfl ?_
    refine r_iload_n (pc := 19) hR (dc dt_X9_latestOf 11 rfl) rfl ?_
    obtain ⟨g1, h⟩ := gd_some h
    refine r_iald (pc := 20) hR (dc dt_X9_latestOf 12 rfl) (tr_3 hT0) g1 qv2 ?_
    obtain ⟨g1, h⟩ := gd_some h
    refine r_iast (pc := 21) hR (dc dt_X9_latestOf 13 rfl) (tr_6 hT0) g1 qv2 ?_
    replace h := stw_e h
    generalize wr m (o + 6) v2 (rd m (o + 3) v2) = m21 at h ⊢
    refine r_iinc (pc := 22) (L' := [some (.ref (ad o)), some (iv v1), some (iv (w32 (v2 + 1))), none]) hR (dc dt_X9_latestOf 14 rfl) rfl (by decide) rfl rfl ?_
    refine r_goto (pc := 25) (tgt := 2) hR (dc dt_X9_latestOf 15 rfl) (by decide) ?_
    exact ih (w32 (v2 + 1)) m21 (w32_in _) h
set_option maxRecDepth 100000 in
set_option maxHeartbeats 4000000 in
theorem lp_L9_latestOf_35 {Go : Nat → List (Option Value) → List Value → Mem → Prop} (hR : RS l G cy ad tt RX9 cX9_latestOf 4 1 Go) {out : Int × Mem} (hT : RT cX9_latestOf (some (iv out.1)) (inR out.1) out.2 (some .int) Go) {o : Nat} (hT0 : isTr o) {v1 : Int} (qv1 : inR v1) {k94 : Mem → Option (Int × Mem)} (hk94 : ∀ (m : Mem), k94 m = some out → Go 94 [some (.ref (ad o)), some (iv v1), none, none] [] m) : ∀ (n : Nat) (v2 : Int) (m : Mem), inR v2 → L9_latestOf_35 o k94 n v2 m = some out → Go 35 [some (.ref (ad o)), some (iv v1), some (iv v2), none] [] m := by
  intro n
  induction n with
  | zero =>
    intro v2 m qv2 h
    cases h
  | succ n ih =>
    intro v2 m qv2 h
    rw [L9_latestOf_35] at h
    refine r_iload_n (pc := 35) hR (dc dt_X9_latestOf 21 rfl) rfl ?_
    refine r_if_lt (pc := 36) (tgt := 94) hR (dc dt_X9_latestOf 22 rfl) (by decide) qv2 (fun hc => ?_) (fun hc => ?_)
    · replace h := ite_t hc h
      refine r_weak (L' := [some (.ref (ad o)), some (iv v1), none, none]) hR ⟨Or.inr rfl, Or.inr rfl, Or.inl rfl, Or.inr rfl, trivial⟩ ?_
      exact hk94 m h
    replace h := ite_f hc h
    refine r_aload_n (pc := 39) hR (dc dt_X9_latestOf 23 rfl) rfl ?_
    refine r_getr (pc := 40) (k2 := o + 7) hR (dc dt_X9_latestOf 24 rfl) fl_X9_30 hT0.1 rfl ?_
    refine r_iload_n (pc := 43) hR (dc dt_X9_latestOf 25 rfl) rfl ?_
    obtain ⟨g1, h⟩ := gd_some h
    refine r_iald (pc := 44) hR (dc dt_X9_latestOf 26 rfl) (tr_7 hT0) g1 qv2 ?_
    refine r_istore_n (pc := 45) (L' := [some (.ref (ad o)), some (iv v1), some (iv v2), some (iv (rd m (o + 7) v2))]) hR (dc dt_X9_latestOf 27 rfl) (by decide) rfl rfl ?_
    refine r_aload_n (pc := 46) hR (dc dt_X9_latestOf 28 rfl) rfl ?_
    refine r_getr (pc := 47) (k2 := o + 1) hR (dc dt_X9_latestOf 29 rfl) fl_X9_9 hT0.1 rfl ?_
    refine r_iload_n (pc := 50) hR (dc dt_X9_latestOf 30 rfl) rfl ?_
    obtain ⟨g1, h⟩ := gd_some h
    refine r_iald (pc := 51) hR (dc dt_X9_latestOf 31 rfl) (tr_1 hT0) g1 (rd_in _ _ _) ?_
    refine jn_e h (fun (K : Mem → Option (Int × Mem)) => ∀ (m_88 : Mem), K m_88 = some out → Go 88 [some (.ref (ad o)), some (iv v1), some (iv v2), none] [] m_88) (fun m_88 h => ?_) (fun K88 J88 h => ?_)
    · refine r_iinc (pc := 88) (L' := [some (.ref (ad o)), some (iv v1), some (iv (w32 (v2 + (-1)))), none]) hR (dc dt_X9_latestOf 54 rfl) rfl (by decide) rfl rfl ?_
      refine r_goto (pc := 91) (tgt := 35) hR (dc dt_X9_latestOf 55 rfl) (by decide) ?_
      exact ih (w32 (v2 + (-1))) m_88 (w32_in _) h
    refine r_if_lt (pc := 52) (tgt := 88) hR (dc dt_X9_latestOf 32 rfl) (by decide) (rd_in _ _ _) (fun hc => ?_) (fun hc => ?_)
    · replace h := ite_t hc h
      refine r_weak (L' := [some (.ref (ad o)), some (iv v1), some (iv v2), none]) hR ⟨Or.inr rfl, Or.inr rfl, Or.inr rfl, Or.inl rfl, trivial⟩ ?_
      exact J88 m h
    replace h := ite_f hc h
    refine r_aload_n (pc := 55) hR (dc dt_X9_latestOf 33 rfl) rfl ?_
    refine r_getr (pc := 56) (k2 := o + 6) hR (dc dt_X9_latestOf 34 rfl) fl_X9_27 hT0.1 rfl ?_
    refine r_aload_n (pc := 59) hR (dc dt_X9_latestOf 35 rfl) rfl ?_
    refine r_getr (pc := 60) (k2 := o + 1) hR (dc dt_X9_latestOf 36 rfl) fl_X9_9 hT0.1 rfl ?_
    refine r_iload_n (pc := 63) hR (dc dt_X9_latestOf 37 rfl) rfl ?_
    obtain ⟨g1, h⟩ := gd_some h
    refine r_iald (pc := 64) hR (dc dt_X9_latestOf 38 rfl) (tr_1 hT0) g1 (rd_in _ _ _) ?_
    refine r_aload_n (pc := 65) hR (dc dt_X9_latestOf 39 rfl) rfl ?_
    refine r_getr (pc := 66) (k2 := o + 6) hR (dc dt_X9_latestOf 40 rfl) fl_X9_27 hT0.1 rfl ?_
    refine r_aload_n (pc := 69) hR (dc dt_X9_latestOf 41 rfl) rfl ?_
    refine r_getr (pc := 70) (k2 := o + 1) hR (dc dt_X9_latestOf 42 rfl) fl_X9_9 hT0.1 rfl ?_
    refine r_iload_n (pc := 73) hR (dc dt_X9_latestOf 43 rfl) rfl ?_
    obtain ⟨g1, h⟩ := gd_some h
    refine r_iald (pc := 74) hR (dc dt_X9_latestOf 44 rfl) (tr_1 hT0) g1 (rd_in _ _ _) ?_
    obtain ⟨g1, h⟩ := gd_some h
    refine r_iald (pc := 75) hR (dc dt_X9_latestOf 45 rfl) (tr_6 hT0) g1 (rd_in _ _ _) ?_
    refine r_aload_n (pc := 76) hR (dc dt_X9_latestOf 46 rfl) rfl ?_
    refine r_getr (pc := 77) (k2 := o + 6) hR (dc dt_X9_latestOf 47 rfl) fl_X9_27 hT0.1 rfl ?_
    refine r_iload_n (pc := 80) hR (dc dt_X9_latestOf 48 rfl) rfl ?_
    obtain ⟨g1, h⟩ := gd_some h
    refine r_iald (pc := 81) hR (dc dt_X9_latestOf 49 rfl) (tr_6 hT0) g1 (rd_in _ _ _) ?_
    refine r_iconst (pc := 82) hR (dc dt_X9_latestOf 50 rfl) ?_
    refine r_isub (pc := 83) hR (dc dt_X9_latestOf 51 rfl) ?_
    refine r_min (pc := 84) hR (dc dt_X9_latestOf 52 rfl) mw_X9_80 (rd_in _ _ _) (w32_in _) (Nat.le_of_ble_eq_true rfl) (by decide) ?_
    obtain ⟨g1, h⟩ := gd_some h
    refine r_iast (pc := 87) hR (dc dt_X9_latestOf 53 rfl) (tr_6 hT0) g1 (rd_in _ _ _) ?_
    replace h := stw_e h
    generalize wr m (o + 6) (rd m (o + 1) (rd m (o + 7) v2)) (imn (rd m (o + 6) (rd m (o + 1) (rd m (o + 7) v2))) (w32 ((rd m (o + 6) (rd m (o + 7) v2)) - 1))) = m87 at h ⊢
    refine r_weak (L' := [some (.ref (ad o)), some (iv v1), some (iv v2), none]) hR ⟨Or.inr rfl, Or.inr rfl, Or.inr rfl, Or.inl rfl, trivial⟩ ?_
    exact J88 m87 h
set_option maxRecDepth 100000 in
set_option maxHeartbeats 4000000 in
theorem ok_F9_latestOf {m : Mem} {o : Nat} {v1 : Int} (hT0 : isTr o) (q1 : inR v1) {out : Int × Mem} (h : F9_latestOf m o v1 = some out) : CT l G cy ad tt yX9_latestOf cX9_latestOf 4 (some .int) 1 [.ref (ad o), iv v1] m (some (iv out.1)) (inR out.1) out.2 := by
  refine CT_of (by decide) (Nat.le_of_ble_eq_true rfl) (fun Go hR hT => ?_)
  replace hR : RS l G cy ad tt RX9 cX9_latestOf 4 1 Go := hR
  show Go 0 [some (.ref (ad o)), some (iv v1), none, none] [] m
  unfold F9_latestOf at h
  refine r_iconst (pc := 0) hR (dc dt_X9_latestOf 0 rfl) ?_
  refine r_istore_n (pc := 1) (L' := [some (.ref (ad o)), some (iv v1), some (iv 0), none]) hR (dc dt_X9_latestOf 1 rfl) (by decide) rfl rfl ?_
  refine lp_L9_latestOf_2 hR hT hT0 q1 (fun m_28 h => ?_) FU 0 m (rg_c rfl) h
  show Go 28 [some (.ref (ad o)), some (iv v1), none, none] [] m_28
  refine r_aload_n (pc := 28) hR (dc dt_X9_latestOf 16 rfl) rfl ?_
  refine r_geti (pc := 29) hR (dc dt_X9_latestOf 17 rfl) fl_X9_51 hT0.1 rfl ?_
  refine r_iconst (pc := 32) hR (dc dt_X9_latestOf 18 rfl) ?_
  refine r_isub (pc := 33) hR (dc dt_X9_latestOf 19 rfl) ?_
  refine r_istore_n (pc := 34) (L' := [some (.ref (ad o)), some (iv v1), some (iv (w32 ((rd m_28 o 0) - 1))), none]) hR (dc dt_X9_latestOf 20 rfl) (by decide) rfl rfl ?_
  refine lp_L9_latestOf_35 hR hT hT0 q1 (fun m_94 h => ?_) FU (w32 ((rd m_28 o 0) - 1)) m_28 (w32_in _) h
  show Go 94 [some (.ref (ad o)), some (iv v1), none, none] [] m_94
  refine r_aload_n (pc := 94) hR (dc dt_X9_latestOf 56 rfl) rfl ?_
  refine r_getr (pc := 95) (k2 := o + 6) hR (dc dt_X9_latestOf 57 rfl) fl_X9_27 hT0.1 rfl ?_
  refine r_iload_n (pc := 98) hR (dc dt_X9_latestOf 58 rfl) rfl ?_
  obtain ⟨g1, h⟩ := gd_some h
  refine r_iald (pc := 99) hR (dc dt_X9_latestOf 59 rfl) (tr_6 hT0) g1 q1 ?_
  exact r_iret hT (dc dt_X9_latestOf 60 rfl) (congrArg Prod.fst (Option.some.inj h)) (congrArg Prod.snd (Option.some.inj h)) (rd_in _ _ _)
def tb_X10_days : List (Nat × (Instr × Nat)) := [(0, (.aload_n 0, 1)), (1, (.getfield 19, 3)), (4, (.iload_n 1, 1)), (5, (.invokevirtual 112, 3)), (8, (.ifCond .eq 12, 3)), (11, (.iload_n 2, 1)), (12, (.ifCond .lt 8, 3)), (15, (.iload_n 2, 1)), (16, (.iconst 2, 1)), (17, (.if_icmp .le 5, 3)), (20, (.iconst (-1), 1)), (21, (.ireturn, 1)), (22, (.aload_n 0, 1)), (23, (.getfield 26, 3)), (26, (.aload_n 0, 1)), (27, (.getfield 19, 3)), (30, (.invokevirtual 168, 3)), (33, (.aload_n 0, 1)), (34, (.getfield 26, 3)), (37, (.invokevirtual 181, 3)), (40, (.istore_n 3, 1)), (41, (.iload_n 2, 1)), (42, (.iconst 2, 1)), (43, (.if_icmp .ne 14, 3)), (46, (.iload_n 3, 1)), (47, (.ifCond .ge 8, 3)), (50, (.bipush (-2), 2)), (52, (.goto 4, 3)), (55, (.iload_n 3, 1)), (56, (.ireturn, 1)), (57, (.iload_n 3, 1)), (58, (.ifCond .lt 6, 3)), (61, (.bipush (-2), 2)), (63, (.ireturn, 1)), (64, (.iload_n 2, 1)), (65, (.ifCond .ne 15, 3)), (68, (.aload_n 0, 1)), (69, (.getfield 26, 3)), (72, (.getfield 184, 3)), (75, (.iload_n 1, 1)), (76, (.iaload, 1)), (77, (.goto 11, 3)), (80, (.aload_n 0, 1)), (81, (.getfield 26, 3)), (84, (.iload_n 1, 1)), (85, (.invokevirtual 187, 3)), (88, (.ireturn, 1))]
set_option maxRecDepth 100000 in
theorem dt_X10_days : (tb_X10_days.all fun q => decide (decode cX10_days q.1 = .ok q.2)) = true := by decide +kernel
set_option maxRecDepth 100000 in
set_option maxHeartbeats 4000000 in
theorem ok_F10_days {m : Mem}  {v1 v2 : Int} (q1 : inR v1) (q2 : inR v2) {out : Int × Mem} (h : F10_days m v1 v2 = some out) : CT l G cy ad tt yX10_days cX10_days 4 (some .int) 4 [.ref (ad 0), iv v1, iv v2] m (some (iv out.1)) (inR out.1) out.2 := by
  refine CT_of (by decide) (Nat.le_of_ble_eq_true rfl) (fun Go hR hT => ?_)
  replace hR : RS l G cy ad tt RX10 cX10_days 4 4 Go := hR
  show Go 0 [some (.ref (ad 0)), some (iv v1), some (iv v2), none] [] m
  unfold F10_days at h
  refine r_aload_n (pc := 0) hR (dc dt_X10_days 0 rfl) rfl ?_
  refine r_getr (pc := 1) (k2 := 4) hR (dc dt_X10_days 1 rfl) fl_X10_19 tc_0 rfl ?_
  refine r_iload_n (pc := 4) hR (dc dt_X10_days 2 rfl) rfl ?_
  refine r_callV (pc := 5) (rest := []) hR (dc dt_X10_days 3 rfl) cl_X10_112 tc_4 rfl (ok_F1_has q1) (by decide) rfl (Nat.le_of_ble_eq_true rfl) rfl (fun q5r => ?_)
  show Go 8 [some (.ref (ad 0)), some (iv v1), some (iv v2), none] [iv (F1_has m v1)] m
  refine r_if_eq (pc := 8) (tgt := 20) hR (dc dt_X10_days 4 rfl) (by decide) (inZ_R q5r) (fun hc => ?_) (fun hc => ?_)
  · replace h := ite_t hc h
    refine r_iconst (pc := 20) hR (dc dt_X10_days 10 rfl) ?_
    exact r_iret hT (dc dt_X10_days 11 rfl) (congrArg Prod.fst (Option.some.inj h)) (congrArg Prod.snd (Option.some.inj h)) (rg_c rfl)
  replace h := ite_f hc h
  refine r_iload_n (pc := 11) hR (dc dt_X10_days 5 rfl) rfl ?_
  refine r_if_lt (pc := 12) (tgt := 20) hR (dc dt_X10_days 6 rfl) (by decide) q2 (fun hc => ?_) (fun hc => ?_)
  · replace h := ite_t hc h
    refine r_iconst (pc := 20) hR (dc dt_X10_days 10 rfl) ?_
    exact r_iret hT (dc dt_X10_days 11 rfl) (congrArg Prod.fst (Option.some.inj h)) (congrArg Prod.snd (Option.some.inj h)) (rg_c rfl)
  replace h := ite_f hc h
  refine r_iload_n (pc := 15) hR (dc dt_X10_days 7 rfl) rfl ?_
  refine r_iconst (pc := 16) hR (dc dt_X10_days 8 rfl) ?_
  refine r_icmp_le (pc := 17) (tgt := 22) hR (dc dt_X10_days 9 rfl) (by decide) q2 (rg_c rfl) (fun hc => ?_) (fun hc => ?_)
  · replace h := ite_t hc h
    refine r_aload_n (pc := 22) hR (dc dt_X10_days 12 rfl) rfl ?_
    refine r_getr (pc := 23) (k2 := 14) hR (dc dt_X10_days 13 rfl) fl_X10_26 tc_0 rfl ?_
    refine r_aload_n (pc := 26) hR (dc dt_X10_days 14 rfl) rfl ?_
    refine r_getr (pc := 27) (k2 := 4) hR (dc dt_X10_days 15 rfl) fl_X10_19 tc_0 rfl ?_
    obtain ⟨m30, e30, h⟩ := b1_some h
    refine r_callV (pc := 30) (rest := []) hR (dc dt_X10_days 16 rfl) cl_X10_168 tc_14 rfl (ok_F9_growAsTold tr_c14 e30) (by decide) rfl (Nat.le_of_ble_eq_true rfl) rfl (fun q30r => ?_)
    show Go 33 [some (.ref (ad 0)), some (iv v1), some (iv v2), none] [] m30
    refine r_aload_n (pc := 33) hR (dc dt_X10_days 17 rfl) rfl ?_
    refine r_getr (pc := 34) (k2 := 14) hR (dc dt_X10_days 18 rfl) fl_X10_26 tc_0 rfl ?_
    obtain ⟨r37, m37, e37, h⟩ := b2_some h
    refine r_callV (pc := 37) (rest := []) hR (dc dt_X10_days 19 rfl) cl_X10_181 tc_14 rfl (ok_F9_firstLate tr_c14 e37) (by decide) rfl (Nat.le_of_ble_eq_true rfl) rfl (fun q37r => ?_)
    show Go 40 [some (.ref (ad 0)), some (iv v1), some (iv v2), none] [iv r37] m37
    refine r_istore_n (pc := 40) (L' := [some (.ref (ad 0)), some (iv v1), some (iv v2), some (iv r37)]) hR (dc dt_X10_days 20 rfl) (by decide) rfl rfl ?_
    refine r_iload_n (pc := 41) hR (dc dt_X10_days 21 rfl) rfl ?_
    refine r_iconst (pc := 42) hR (dc dt_X10_days 22 rfl) ?_
    refine r_icmp_ne (pc := 43) (tgt := 57) hR (dc dt_X10_days 23 rfl) (by decide) q2 (rg_c rfl) (fun hc => ?_) (fun hc => ?_)
    · replace h := ite_t hc h
      refine r_iload_n (pc := 57) hR (dc dt_X10_days 30 rfl) rfl ?_
      refine r_if_lt (pc := 58) (tgt := 64) hR (dc dt_X10_days 31 rfl) (by decide) q37r (fun hc => ?_) (fun hc => ?_)
      · replace h := ite_t hc h
        refine r_iload_n (pc := 64) hR (dc dt_X10_days 34 rfl) rfl ?_
        refine r_if_ne (pc := 65) (tgt := 80) hR (dc dt_X10_days 35 rfl) (by decide) q2 (fun hc => ?_) (fun hc => ?_)
        · replace h := ite_t hc h
          refine r_aload_n (pc := 80) hR (dc dt_X10_days 42 rfl) rfl ?_
          refine r_getr (pc := 81) (k2 := 14) hR (dc dt_X10_days 43 rfl) fl_X10_26 tc_0 rfl ?_
          refine r_iload_n (pc := 84) hR (dc dt_X10_days 44 rfl) rfl ?_
          obtain ⟨r85, m85, e85, h⟩ := b2_some h
          refine r_callV (pc := 85) (rest := []) hR (dc dt_X10_days 45 rfl) cl_X10_187 tc_14 rfl (ok_F9_latestOf tr_c14 q1 e85) (by decide) rfl (Nat.le_of_ble_eq_true rfl) rfl (fun q85r => ?_)
          show Go 88 [some (.ref (ad 0)), some (iv v1), some (iv v2), some (iv r37)] [iv r85] m85
          exact r_iret hT (dc dt_X10_days 46 rfl) (congrArg Prod.fst (Option.some.inj h)) (congrArg Prod.snd (Option.some.inj h)) q85r
        replace h := ite_f hc h
        refine r_aload_n (pc := 68) hR (dc dt_X10_days 36 rfl) rfl ?_
        refine r_getr (pc := 69) (k2 := 14) hR (dc dt_X10_days 37 rfl) fl_X10_26 tc_0 rfl ?_
        refine r_getr (pc := 72) (k2 := 18) hR (dc dt_X10_days 38 rfl) fl_X10_184 tc_14 rfl ?_
        refine r_iload_n (pc := 75) hR (dc dt_X10_days 39 rfl) rfl ?_
        obtain ⟨g1, h⟩ := gd_some h
        refine r_iald (pc := 76) hR (dc dt_X10_days 40 rfl) tc_18 g1 q1 ?_
        refine r_goto (pc := 77) (tgt := 88) hR (dc dt_X10_days 41 rfl) (by decide) ?_
        exact r_iret hT (dc dt_X10_days 46 rfl) (congrArg Prod.fst (Option.some.inj h)) (congrArg Prod.snd (Option.some.inj h)) (rd_in _ _ _)
      replace h := ite_f hc h
      refine r_bipush (pc := 61) hR (dc dt_X10_days 32 rfl) (by decide) ?_
      exact r_iret hT (dc dt_X10_days 33 rfl) (congrArg Prod.fst (Option.some.inj h)) (congrArg Prod.snd (Option.some.inj h)) (rg_c rfl)
    replace h := ite_f hc h
    refine r_iload_n (pc := 46) hR (dc dt_X10_days 24 rfl) rfl ?_
    refine r_if_ge (pc := 47) (tgt := 55) hR (dc dt_X10_days 25 rfl) (by decide) q37r (fun hc => ?_) (fun hc => ?_)
    · replace h := ite_t hc h
      refine r_iload_n (pc := 55) hR (dc dt_X10_days 28 rfl) rfl ?_
      exact r_iret hT (dc dt_X10_days 29 rfl) (congrArg Prod.fst (Option.some.inj h)) (congrArg Prod.snd (Option.some.inj h)) q37r
    replace h := ite_f hc h
    refine r_bipush (pc := 50) hR (dc dt_X10_days 26 rfl) (by decide) ?_
    refine r_goto (pc := 52) (tgt := 56) hR (dc dt_X10_days 27 rfl) (by decide) ?_
    exact r_iret hT (dc dt_X10_days 29 rfl) (congrArg Prod.fst (Option.some.inj h)) (congrArg Prod.snd (Option.some.inj h)) (rg_c rfl)
  replace h := ite_f hc h
  refine r_iconst (pc := 20) hR (dc dt_X10_days 10 rfl) ?_
  exact r_iret hT (dc dt_X10_days 11 rfl) (congrArg Prod.fst (Option.some.inj h)) (congrArg Prod.snd (Option.some.inj h)) (rg_c rfl)
def tb_X0_placeOf : List (Nat × (Instr × Nat)) := [(0, (.iconst 0, 1)), (1, (.istore_n 2, 1)), (2, (.iload_n 2, 1)), (3, (.aload_n 0, 1)), (4, (.getfield 48, 3)), (7, (.if_icmp .ge 21, 3)), (10, (.aload_n 0, 1)), (11, (.getfield 18, 3)), (14, (.iload_n 2, 1)), (15, (.iaload, 1)), (16, (.iload_n 1, 1)), (17, (.if_icmp .ne 5, 3)), (20, (.iload_n 2, 1)), (21, (.ireturn, 1)), (22, (.iinc 2 1, 3)), (25, (.goto (-23), 3)), (28, (.iconst (-1), 1)), (29, (.ireturn, 1))]
set_option maxRecDepth 100000 in
theorem dt_X0_placeOf : (tb_X0_placeOf.all fun q => decide (decode cX0_placeOf q.1 = .ok q.2)) = true := by decide +kernel
set_option maxRecDepth 100000 in
set_option maxHeartbeats 4000000 in
theorem lp_L0_placeOf_2 {Go : Nat → List (Option Value) → List Value → Mem → Prop} (hR : RS l G cy ad tt RX0 cX0_placeOf 3 0 Go) {out : Int} {m : Mem} (hT : RT cX0_placeOf (some (iv out)) (inR out) m (some .int) Go) {v1 : Int} (qv1 : inR v1) : ∀ (n : Nat) (v2 : Int), inR v2 → L0_placeOf_2 m v1 n v2 = some out → Go 2 [some (.ref (ad 31)), some (iv v1), some (iv v2)] [] m := by
  intro n
  induction n with
  | zero =>
    intro v2 qv2 h
    cases h
  | succ n ih =>
    intro v2 qv2 h
    rw [L0_placeOf_2] at h
    refine r_iload_n (pc := 2) hR (dc dt_X0_placeOf 2 rfl) rfl ?_
    refine r_aload_n (pc := 3) hR (dc dt_X0_placeOf 3 rfl) rfl ?_
    refine r_geti (pc := 4) hR (dc dt_X0_placeOf 4 rfl) fl_X0_48 tc_31 rfl ?_
    refine r_icmp_ge (pc := 7) (tgt := 28) hR (dc dt_X0_placeOf 5 rfl) (by decide) qv2 (rd_in _ _ _) (fun hc => ?_) (fun hc => ?_)
    · replace h := ite_t hc h
      refine r_iconst (pc := 28) hR (dc dt_X0_placeOf 16 rfl) ?_
      exact r_iret hT (dc dt_X0_placeOf 17 rfl) (Option.some.inj h) rfl (rg_c rfl)
    replace h := ite_f hc h
    refine r_aload_n (pc := 10) hR (dc dt_X0_placeOf 6 rfl) rfl ?_
    refine r_getr (pc := 11) (k2 := 44) hR (dc dt_X0_placeOf 7 rfl) fl_X0_18 tc_31 rfl ?_
    refine r_iload_n (pc := 14) hR (dc dt_X0_placeOf 8 rfl) rfl ?_
    obtain ⟨g1, h⟩ := gd_some h
    refine r_iald (pc := 15) hR (dc dt_X0_placeOf 9 rfl) tc_44 g1 qv2 ?_
    refine r_iload_n (pc := 16) hR (dc dt_X0_placeOf 10 rfl) rfl ?_
    refine r_icmp_ne (pc := 17) (tgt := 22) hR (dc dt_X0_placeOf 11 rfl) (by decide) (rd_in _ _ _) qv1 (fun hc => ?_) (fun hc => ?_)
    · replace h := ite_t hc h
      refine r_iinc (pc := 22) (L' := [some (.ref (ad 31)), some (iv v1), some (iv (w32 (v2 + 1)))]) hR (dc dt_X0_placeOf 14 rfl) rfl (by decide) rfl rfl ?_
      refine r_goto (pc := 25) (tgt := 2) hR (dc dt_X0_placeOf 15 rfl) (by decide) ?_
      exact ih (w32 (v2 + 1)) (w32_in _) h
    replace h := ite_f hc h
    refine r_iload_n (pc := 20) hR (dc dt_X0_placeOf 12 rfl) rfl ?_
    exact r_iret hT (dc dt_X0_placeOf 13 rfl) (Option.some.inj h) rfl qv2
set_option maxRecDepth 100000 in
set_option maxHeartbeats 4000000 in
theorem ok_F0_placeOf {m : Mem}  {v1 : Int} (q1 : inR v1) {out : Int} (h : F0_placeOf m v1 = some out) : CT l G cy ad tt yX0_placeOf cX0_placeOf 3 (some .int) 0 [.ref (ad 31), iv v1] m (some (iv out)) (inR out) m := by
  refine CT_of (by decide) (Nat.le_of_ble_eq_true rfl) (fun Go hR hT => ?_)
  replace hR : RS l G cy ad tt RX0 cX0_placeOf 3 0 Go := hR
  show Go 0 [some (.ref (ad 31)), some (iv v1), none] [] m
  unfold F0_placeOf at h
  refine r_iconst (pc := 0) hR (dc dt_X0_placeOf 0 rfl) ?_
  refine r_istore_n (pc := 1) (L' := [some (.ref (ad 31)), some (iv v1), some (iv 0)]) hR (dc dt_X0_placeOf 1 rfl) (by decide) rfl rfl ?_
  refine lp_L0_placeOf_2 hR hT q1 FU 0 (rg_c rfl) h
def tb_X0_tell : List (Nat × (Instr × Nat)) := [(0, (.aload_n 0, 1)), (1, (.getfield 18, 3)), (4, (.aload_n 0, 1)), (5, (.getfield 48, 3)), (8, (.iload_n 1, 1)), (9, (.iastore, 1)), (10, (.aload_n 0, 1)), (11, (.dup, 1)), (12, (.getfield 48, 3)), (15, (.iconst 1, 1)), (16, (.iadd, 1)), (17, (.putfield 48, 3)), (20, (.aload_n 0, 1)), (21, (.iconst (-1), 1)), (22, (.putfield 40, 3)), (25, (.aload_n 0, 1)), (26, (.getfield 48, 3)), (29, (.ireturn, 1))]
set_option maxRecDepth 100000 in
theorem dt_X0_tell : (tb_X0_tell.all fun q => decide (decode cX0_tell q.1 = .ok q.2)) = true := by decide +kernel
set_option maxRecDepth 100000 in
set_option maxHeartbeats 4000000 in
theorem ok_F0_tell {m : Mem}  {v1 : Int} (q1 : inR v1) {out : Int × Mem} (h : F0_tell m v1 = some out) : CT l G cy ad tt yX0_tell cX0_tell 2 (some .int) 0 [.ref (ad 31), iv v1] m (some (iv out.1)) (inR out.1) out.2 := by
  refine CT_of (by decide) (Nat.le_of_ble_eq_true rfl) (fun Go hR hT => ?_)
  replace hR : RS l G cy ad tt RX0 cX0_tell 2 0 Go := hR
  show Go 0 [some (.ref (ad 31)), some (iv v1)] [] m
  unfold F0_tell at h
  refine r_aload_n (pc := 0) hR (dc dt_X0_tell 0 rfl) rfl ?_
  refine r_getr (pc := 1) (k2 := 44) hR (dc dt_X0_tell 1 rfl) fl_X0_18 tc_31 rfl ?_
  refine r_aload_n (pc := 4) hR (dc dt_X0_tell 2 rfl) rfl ?_
  refine r_geti (pc := 5) hR (dc dt_X0_tell 3 rfl) fl_X0_48 tc_31 rfl ?_
  refine r_iload_n (pc := 8) hR (dc dt_X0_tell 4 rfl) rfl ?_
  obtain ⟨g1, h⟩ := gd_some h
  refine r_iast (pc := 9) hR (dc dt_X0_tell 5 rfl) tc_44 g1 (rd_in _ _ _) ?_
  replace h := stw_e h
  generalize wr m 44 (rd m 31 2) v1 = m9 at h ⊢
  refine r_aload_n (pc := 10) hR (dc dt_X0_tell 6 rfl) rfl ?_
  refine r_dup (pc := 11) hR (dc dt_X0_tell 7 rfl) rfl ?_
  refine r_geti (pc := 12) hR (dc dt_X0_tell 8 rfl) fl_X0_48 tc_31 rfl ?_
  refine r_iconst (pc := 15) hR (dc dt_X0_tell 9 rfl) ?_
  refine r_iadd (pc := 16) hR (dc dt_X0_tell 10 rfl) ?_
  refine r_puti (pc := 17) hR (dc dt_X0_tell 11 rfl) fl_X0_48 tc_31 rfl rfl rfl ?_
  replace h := stw_e h
  generalize wr m9 31 2 (w32 ((rd m9 31 2) + 1)) = m17 at h ⊢
  refine r_aload_n (pc := 20) hR (dc dt_X0_tell 12 rfl) rfl ?_
  refine r_iconst (pc := 21) hR (dc dt_X0_tell 13 rfl) ?_
  refine r_puti (pc := 22) hR (dc dt_X0_tell 14 rfl) fl_X0_40 tc_31 rfl rfl rfl ?_
  replace h := stw_e h
  generalize wr m17 31 14 (-1) = m22 at h ⊢
  refine r_aload_n (pc := 25) hR (dc dt_X0_tell 15 rfl) rfl ?_
  refine r_geti (pc := 26) hR (dc dt_X0_tell 16 rfl) fl_X0_48 tc_31 rfl ?_
  exact r_iret hT (dc dt_X0_tell 17 rfl) (congrArg Prod.fst (Option.some.inj h)) (congrArg Prod.snd (Option.some.inj h)) (rd_in _ _ _)
def tb_X10_list : List (Nat × (Instr × Nat)) := [(0, (.aload_n 0, 1)), (1, (.getfield 19, 3)), (4, (.iload_n 1, 1)), (5, (.invokevirtual 112, 3)), (8, (.ifCond .eq 14, 3)), (11, (.aload_n 0, 1)), (12, (.getfield 44, 3)), (15, (.iload_n 1, 1)), (16, (.invokevirtual 190, 3)), (19, (.ifCond .lt 5, 3)), (22, (.iconst (-1), 1)), (23, (.ireturn, 1)), (24, (.aload_n 0, 1)), (25, (.getfield 44, 3)), (28, (.getfield 193, 3)), (31, (.bipush 6, 2)), (33, (.if_icmp .lt 8, 3)), (36, (.bipush (-3), 2)), (38, (.goto 11, 3)), (41, (.aload_n 0, 1)), (42, (.getfield 44, 3)), (45, (.iload_n 1, 1)), (46, (.invokevirtual 196, 3)), (49, (.ireturn, 1))]
set_option maxRecDepth 100000 in
theorem dt_X10_list : (tb_X10_list.all fun q => decide (decode cX10_list q.1 = .ok q.2)) = true := by decide +kernel
set_option maxRecDepth 100000 in
set_option maxHeartbeats 4000000 in
theorem ok_F10_list {m : Mem}  {v1 : Int} (q1 : inR v1) {out : Int × Mem} (h : F10_list m v1 = some out) : CT l G cy ad tt yX10_list cX10_list 2 (some .int) 1 [.ref (ad 0), iv v1] m (some (iv out.1)) (inR out.1) out.2 := by
  refine CT_of (by decide) (Nat.le_of_ble_eq_true rfl) (fun Go hR hT => ?_)
  replace hR : RS l G cy ad tt RX10 cX10_list 2 1 Go := hR
  show Go 0 [some (.ref (ad 0)), some (iv v1)] [] m
  unfold F10_list at h
  refine r_aload_n (pc := 0) hR (dc dt_X10_list 0 rfl) rfl ?_
  refine r_getr (pc := 1) (k2 := 4) hR (dc dt_X10_list 1 rfl) fl_X10_19 tc_0 rfl ?_
  refine r_iload_n (pc := 4) hR (dc dt_X10_list 2 rfl) rfl ?_
  refine r_callV (pc := 5) (rest := []) hR (dc dt_X10_list 3 rfl) cl_X10_112 tc_4 rfl (ok_F1_has q1) (by decide) rfl (Nat.le_of_ble_eq_true rfl) rfl (fun q5r => ?_)
  show Go 8 [some (.ref (ad 0)), some (iv v1)] [iv (F1_has m v1)] m
  refine r_if_eq (pc := 8) (tgt := 22) hR (dc dt_X10_list 4 rfl) (by decide) (inZ_R q5r) (fun hc => ?_) (fun hc => ?_)
  · replace h := ite_t hc h
    refine r_iconst (pc := 22) hR (dc dt_X10_list 10 rfl) ?_
    exact r_iret hT (dc dt_X10_list 11 rfl) (congrArg Prod.fst (Option.some.inj h)) (congrArg Prod.snd (Option.some.inj h)) (rg_c rfl)
  replace h := ite_f hc h
  refine r_aload_n (pc := 11) hR (dc dt_X10_list 5 rfl) rfl ?_
  refine r_getr (pc := 12) (k2 := 31) hR (dc dt_X10_list 6 rfl) fl_X10_44 tc_0 rfl ?_
  refine r_iload_n (pc := 15) hR (dc dt_X10_list 7 rfl) rfl ?_
  obtain ⟨r16, e16, h⟩ := b1_some h
  refine r_callV (pc := 16) (rest := []) hR (dc dt_X10_list 8 rfl) cl_X10_190 tc_31 rfl (ok_F0_placeOf q1 e16) (by decide) rfl (Nat.le_of_ble_eq_true rfl) rfl (fun q16r => ?_)
  show Go 19 [some (.ref (ad 0)), some (iv v1)] [iv r16] m
  refine r_if_lt (pc := 19) (tgt := 24) hR (dc dt_X10_list 9 rfl) (by decide) q16r (fun hc => ?_) (fun hc => ?_)
  · replace h := ite_t hc h
    refine r_aload_n (pc := 24) hR (dc dt_X10_list 12 rfl) rfl ?_
    refine r_getr (pc := 25) (k2 := 31) hR (dc dt_X10_list 13 rfl) fl_X10_44 tc_0 rfl ?_
    refine r_geti (pc := 28) hR (dc dt_X10_list 14 rfl) fl_X10_193 tc_31 rfl ?_
    refine r_bipush (pc := 31) hR (dc dt_X10_list 15 rfl) (by decide) ?_
    refine r_icmp_lt (pc := 33) (tgt := 41) hR (dc dt_X10_list 16 rfl) (by decide) (rd_in _ _ _) (rg_c rfl) (fun hc => ?_) (fun hc => ?_)
    · replace h := ite_t hc h
      refine r_aload_n (pc := 41) hR (dc dt_X10_list 19 rfl) rfl ?_
      refine r_getr (pc := 42) (k2 := 31) hR (dc dt_X10_list 20 rfl) fl_X10_44 tc_0 rfl ?_
      refine r_iload_n (pc := 45) hR (dc dt_X10_list 21 rfl) rfl ?_
      obtain ⟨r46, m46, e46, h⟩ := b2_some h
      refine r_callV (pc := 46) (rest := []) hR (dc dt_X10_list 22 rfl) cl_X10_196 tc_31 rfl (ok_F0_tell q1 e46) (by decide) rfl (Nat.le_of_ble_eq_true rfl) rfl (fun q46r => ?_)
      show Go 49 [some (.ref (ad 0)), some (iv v1)] [iv r46] m46
      exact r_iret hT (dc dt_X10_list 23 rfl) (congrArg Prod.fst (Option.some.inj h)) (congrArg Prod.snd (Option.some.inj h)) q46r
    replace h := ite_f hc h
    refine r_bipush (pc := 36) hR (dc dt_X10_list 17 rfl) (by decide) ?_
    refine r_goto (pc := 38) (tgt := 49) hR (dc dt_X10_list 18 rfl) (by decide) ?_
    exact r_iret hT (dc dt_X10_list 23 rfl) (congrArg Prod.fst (Option.some.inj h)) (congrArg Prod.snd (Option.some.inj h)) (rg_c rfl)
  replace h := ite_f hc h
  refine r_iconst (pc := 22) hR (dc dt_X10_list 10 rfl) ?_
  exact r_iret hT (dc dt_X10_list 11 rfl) (congrArg Prod.fst (Option.some.inj h)) (congrArg Prod.snd (Option.some.inj h)) (rg_c rfl)
def tb_X0_forget : List (Nat × (Instr × Nat)) := [(0, (.aload_n 0, 1)), (1, (.getfield 48, 3)), (4, (.istore_n 1, 1)), (5, (.aload_n 0, 1)), (6, (.iconst 0, 1)), (7, (.putfield 48, 3)), (10, (.aload_n 0, 1)), (11, (.iconst (-1), 1)), (12, (.putfield 40, 3)), (15, (.iload_n 1, 1)), (16, (.ireturn, 1))]
set_option maxRecDepth 100000 in
theorem dt_X0_forget : (tb_X0_forget.all fun q => decide (decode cX0_forget q.1 = .ok q.2)) = true := by decide +kernel
set_option maxRecDepth 100000 in
set_option maxHeartbeats 4000000 in
theorem ok_F0_forget {m : Mem}   {out : Int × Mem} (h : F0_forget m = some out) : CT l G cy ad tt yX0_forget cX0_forget 2 (some .int) 0 [.ref (ad 31)] m (some (iv out.1)) (inR out.1) out.2 := by
  refine CT_of (by decide) (Nat.le_of_ble_eq_true rfl) (fun Go hR hT => ?_)
  replace hR : RS l G cy ad tt RX0 cX0_forget 2 0 Go := hR
  show Go 0 [some (.ref (ad 31)), none] [] m
  unfold F0_forget at h
  refine r_aload_n (pc := 0) hR (dc dt_X0_forget 0 rfl) rfl ?_
  refine r_geti (pc := 1) hR (dc dt_X0_forget 1 rfl) fl_X0_48 tc_31 rfl ?_
  refine r_istore_n (pc := 4) (L' := [some (.ref (ad 31)), some (iv (rd m 31 2))]) hR (dc dt_X0_forget 2 rfl) (by decide) rfl rfl ?_
  refine r_aload_n (pc := 5) hR (dc dt_X0_forget 3 rfl) rfl ?_
  refine r_iconst (pc := 6) hR (dc dt_X0_forget 4 rfl) ?_
  refine r_puti (pc := 7) hR (dc dt_X0_forget 5 rfl) fl_X0_48 tc_31 rfl rfl rfl ?_
  replace h := stw_e h
  generalize wr m 31 2 0 = m7 at h ⊢
  refine r_aload_n (pc := 10) hR (dc dt_X0_forget 6 rfl) rfl ?_
  refine r_iconst (pc := 11) hR (dc dt_X0_forget 7 rfl) ?_
  refine r_puti (pc := 12) hR (dc dt_X0_forget 8 rfl) fl_X0_40 tc_31 rfl rfl rfl ?_
  replace h := stw_e h
  generalize wr m7 31 14 (-1) = m12 at h ⊢
  refine r_iload_n (pc := 15) hR (dc dt_X0_forget 9 rfl) rfl ?_
  exact r_iret hT (dc dt_X0_forget 10 rfl) (congrArg Prod.fst (Option.some.inj h)) (congrArg Prod.snd (Option.some.inj h)) (rd_in _ _ _)
def tb_X10_unlist : List (Nat × (Instr × Nat)) := [(0, (.aload_n 0, 1)), (1, (.getfield 44, 3)), (4, (.invokevirtual 199, 3)), (7, (.ireturn, 1))]
set_option maxRecDepth 100000 in
theorem dt_X10_unlist : (tb_X10_unlist.all fun q => decide (decode cX10_unlist q.1 = .ok q.2)) = true := by decide +kernel
set_option maxRecDepth 100000 in
set_option maxHeartbeats 4000000 in
theorem ok_F10_unlist {m : Mem}   {out : Int × Mem} (h : F10_unlist m = some out) : CT l G cy ad tt yX10_unlist cX10_unlist 1 (some .int) 1 [.ref (ad 0)] m (some (iv out.1)) (inR out.1) out.2 := by
  refine CT_of (by decide) (Nat.le_of_ble_eq_true rfl) (fun Go hR hT => ?_)
  replace hR : RS l G cy ad tt RX10 cX10_unlist 1 1 Go := hR
  show Go 0 [some (.ref (ad 0))] [] m
  unfold F10_unlist at h
  refine r_aload_n (pc := 0) hR (dc dt_X10_unlist 0 rfl) rfl ?_
  refine r_getr (pc := 1) (k2 := 31) hR (dc dt_X10_unlist 1 rfl) fl_X10_44 tc_0 rfl ?_
  obtain ⟨r4, m4, e4, h⟩ := b2_some h
  refine r_callV (pc := 4) (rest := []) hR (dc dt_X10_unlist 2 rfl) cl_X10_199 tc_31 rfl (ok_F0_forget  e4) (by decide) rfl (Nat.le_of_ble_eq_true rfl) rfl (fun q4r => ?_)
  show Go 7 [some (.ref (ad 0))] [iv r4] m4
  exact r_iret hT (dc dt_X10_unlist 3 rfl) (congrArg Prod.fst (Option.some.inj h)) (congrArg Prod.snd (Option.some.inj h)) q4r
def tb_X0_toldForms : List (Nat × (Instr × Nat)) := [(0, (.iconst 0, 1)), (1, (.istore_n 2, 1)), (2, (.iconst 0, 1)), (3, (.istore_n 3, 1)), (4, (.iload_n 3, 1)), (5, (.aload_n 0, 1)), (6, (.getfield 48, 3)), (9, (.if_icmp .ge 43, 3)), (12, (.aload_n 0, 1)), (13, (.getfield 44, 3)), (16, (.aload_n 0, 1)), (17, (.getfield 18, 3)), (20, (.iload_n 3, 1)), (21, (.iaload, 1)), (22, (.iload_n 1, 1)), (23, (.invokevirtual 74, 3)), (26, (.istore 4, 2)), (28, (.iload_n 2, 1)), (29, (.iload 4, 2)), (31, (.bipush 9, 2)), (33, (.if_icmp .ne 7, 3)), (36, (.iconst 0, 1)), (37, (.goto 7, 3)), (40, (.iconst 1, 1)), (41, (.iload 4, 2)), (43, (.ishl, 1)), (44, (.ior, 1)), (45, (.istore_n 2, 1)), (46, (.iinc 3 1, 3)), (49, (.goto (-45), 3)), (52, (.iload_n 2, 1)), (53, (.ireturn, 1))]
set_option maxRecDepth 100000 in
theorem dt_X0_toldForms : (tb_X0_toldForms.all fun q => decide (decode cX0_toldForms q.1 = .ok q.2)) = true := by decide +kernel
set_option maxRecDepth 100000 in
set_option maxHeartbeats 4000000 in
theorem lp_L0_toldForms_4 {Go : Nat → List (Option Value) → List Value → Mem → Prop} (hR : RS l G cy ad tt RX0 cX0_toldForms 5 2 Go) {out : Int} {m : Mem} (hT : RT cX0_toldForms (some (iv out)) (inR out) m (some .int) Go) {v1 : Int} (qv1 : inR v1) : ∀ (n : Nat) (v2 : Int) (v3 : Int), inR v2 → inR v3 → L0_toldForms_4 m v1 n v2 v3 = some out → Go 4 [some (.ref (ad 31)), some (iv v1), some (iv v2), some (iv v3), none] [] m := by
  intro n
  induction n with
  | zero =>
    intro v2 v3 qv2 qv3 h
    cases h
  | succ n ih =>
    intro v2 v3 qv2 qv3 h
    rw [L0_toldForms_4] at h
    refine r_iload_n (pc := 4) hR (dc dt_X0_toldForms 4 rfl) rfl ?_
    refine r_aload_n (pc := 5) hR (dc dt_X0_toldForms 5 rfl) rfl ?_
    refine r_geti (pc := 6) hR (dc dt_X0_toldForms 6 rfl) fl_X0_48 tc_31 rfl ?_
    refine r_icmp_ge (pc := 9) (tgt := 52) hR (dc dt_X0_toldForms 7 rfl) (by decide) qv3 (rd_in _ _ _) (fun hc => ?_) (fun hc => ?_)
    · replace h := ite_t hc h
      refine r_iload_n (pc := 52) hR (dc dt_X0_toldForms 30 rfl) rfl ?_
      exact r_iret hT (dc dt_X0_toldForms 31 rfl) (Option.some.inj h) rfl qv2
    replace h := ite_f hc h
    refine r_aload_n (pc := 12) hR (dc dt_X0_toldForms 8 rfl) rfl ?_
    refine r_getr (pc := 13) (k2 := 4) hR (dc dt_X0_toldForms 9 rfl) fl_X0_44 tc_31 rfl ?_
    refine r_aload_n (pc := 16) hR (dc dt_X0_toldForms 10 rfl) rfl ?_
    refine r_getr (pc := 17) (k2 := 44) hR (dc dt_X0_toldForms 11 rfl) fl_X0_18 tc_31 rfl ?_
    refine r_iload_n (pc := 20) hR (dc dt_X0_toldForms 12 rfl) rfl ?_
    obtain ⟨g1, h⟩ := gd_some h
    refine r_iald (pc := 21) hR (dc dt_X0_toldForms 13 rfl) tc_44 g1 qv3 ?_
    refine r_iload_n (pc := 22) hR (dc dt_X0_toldForms 14 rfl) rfl ?_
    obtain ⟨r23, e23, h⟩ := b1_some h
    refine r_callV (pc := 23) (rest := []) hR (dc dt_X0_toldForms 15 rfl) cl_X0_74 tc_4 rfl (ok_F1_told (rd_in _ _ _) qv1 e23) (by decide) rfl (Nat.le_of_ble_eq_true rfl) rfl (fun q23r => ?_)
    show Go 26 [some (.ref (ad 31)), some (iv v1), some (iv v2), some (iv v3), none] [iv r23] m
    refine r_istore (pc := 26) (L' := [some (.ref (ad 31)), some (iv v1), some (iv v2), some (iv v3), some (iv r23)]) hR (dc dt_X0_toldForms 16 rfl) (by decide) rfl rfl ?_
    refine r_iload_n (pc := 28) hR (dc dt_X0_toldForms 17 rfl) rfl ?_
    refine r_iload (pc := 29) hR (dc dt_X0_toldForms 18 rfl) rfl ?_
    refine r_bipush (pc := 31) hR (dc dt_X0_toldForms 19 rfl) (by decide) ?_
    refine jn_e h (fun (K : Int → Option Int) => ∀ (x44 : Int), inR x44 → K x44 = some out → Go 44 [some (.ref (ad 31)), some (iv v1), none, some (iv v3), none] [iv x44, iv v2] m) (fun x44 qx44 h => ?_) (fun K44 J44 h => ?_)
    · refine r_ior (pc := 44) hR (dc dt_X0_toldForms 26 rfl) ?_
      refine r_istore_n (pc := 45) (L' := [some (.ref (ad 31)), some (iv v1), some (iv (bor v2 x44)), some (iv v3), none]) hR (dc dt_X0_toldForms 27 rfl) (by decide) rfl rfl ?_
      refine r_iinc (pc := 46) (L' := [some (.ref (ad 31)), some (iv v1), some (iv (bor v2 x44)), some (iv (w32 (v3 + 1))), none]) hR (dc dt_X0_toldForms 28 rfl) rfl (by decide) rfl rfl ?_
      refine r_goto (pc := 49) (tgt := 4) hR (dc dt_X0_toldForms 29 rfl) (by decide) ?_
      exact ih (bor v2 x44) (w32 (v3 + 1)) (ti_in _) (w32_in _) h
    refine r_icmp_ne (pc := 33) (tgt := 40) hR (dc dt_X0_toldForms 20 rfl) (by decide) q23r (rg_c rfl) (fun hc => ?_) (fun hc => ?_)
    · replace h := ite_t hc h
      refine r_iconst (pc := 40) hR (dc dt_X0_toldForms 23 rfl) ?_
      refine r_iload (pc := 41) hR (dc dt_X0_toldForms 24 rfl) rfl ?_
      refine r_ishl (pc := 43) hR (dc dt_X0_toldForms 25 rfl) ?_
      refine r_weak (L' := [some (.ref (ad 31)), some (iv v1), none, some (iv v3), none]) hR ⟨Or.inr rfl, Or.inr rfl, Or.inl rfl, Or.inr rfl, Or.inl rfl, trivial⟩ ?_
      exact J44 (shl 1 r23) (ti_in _) h
    replace h := ite_f hc h
    refine r_iconst (pc := 36) hR (dc dt_X0_toldForms 21 rfl) ?_
    refine r_goto (pc := 37) (tgt := 44) hR (dc dt_X0_toldForms 22 rfl) (by decide) ?_
    refine r_weak (L' := [some (.ref (ad 31)), some (iv v1), none, some (iv v3), none]) hR ⟨Or.inr rfl, Or.inr rfl, Or.inl rfl, Or.inr rfl, Or.inl rfl, trivial⟩ ?_
    exact J44 0 (rg_c rfl) h
set_option maxRecDepth 100000 in
set_option maxHeartbeats 4000000 in
theorem ok_F0_toldForms {m : Mem}  {v1 : Int} (q1 : inR v1) {out : Int} (h : F0_toldForms m v1 = some out) : CT l G cy ad tt yX0_toldForms cX0_toldForms 5 (some .int) 2 [.ref (ad 31), iv v1] m (some (iv out)) (inR out) m := by
  refine CT_of (by decide) (Nat.le_of_ble_eq_true rfl) (fun Go hR hT => ?_)
  replace hR : RS l G cy ad tt RX0 cX0_toldForms 5 2 Go := hR
  show Go 0 [some (.ref (ad 31)), some (iv v1), none, none, none] [] m
  unfold F0_toldForms at h
  refine r_iconst (pc := 0) hR (dc dt_X0_toldForms 0 rfl) ?_
  refine r_istore_n (pc := 1) (L' := [some (.ref (ad 31)), some (iv v1), some (iv 0), none, none]) hR (dc dt_X0_toldForms 1 rfl) (by decide) rfl rfl ?_
  refine r_iconst (pc := 2) hR (dc dt_X0_toldForms 2 rfl) ?_
  refine r_istore_n (pc := 3) (L' := [some (.ref (ad 31)), some (iv v1), some (iv 0), some (iv 0), none]) hR (dc dt_X0_toldForms 3 rfl) (by decide) rfl rfl ?_
  refine lp_L0_toldForms_4 hR hT q1 FU 0 0 (rg_c rfl) (rg_c rfl) h
def tb_J6_bitCount_0f7a4 : List (Nat × (Instr × Nat)) := [(0, (.iload_n 0, 1)), (1, (.iload_n 0, 1)), (2, (.iconst 1, 1)), (3, (.iushr, 1)), (4, (.ldc_w 265, 3)), (7, (.iand, 1)), (8, (.isub, 1)), (9, (.istore_n 0, 1)), (10, (.iload_n 0, 1)), (11, (.ldc_w 266, 3)), (14, (.iand, 1)), (15, (.iload_n 0, 1)), (16, (.iconst 2, 1)), (17, (.iushr, 1)), (18, (.ldc_w 266, 3)), (21, (.iand, 1)), (22, (.iadd, 1)), (23, (.istore_n 0, 1)), (24, (.iload_n 0, 1)), (25, (.iload_n 0, 1)), (26, (.iconst 4, 1)), (27, (.iushr, 1)), (28, (.iadd, 1)), (29, (.ldc_w 267, 3)), (32, (.iand, 1)), (33, (.istore_n 0, 1)), (34, (.iload_n 0, 1)), (35, (.iload_n 0, 1)), (36, (.bipush 8, 2)), (38, (.iushr, 1)), (39, (.iadd, 1)), (40, (.istore_n 0, 1)), (41, (.iload_n 0, 1)), (42, (.iload_n 0, 1)), (43, (.bipush 16, 2)), (45, (.iushr, 1)), (46, (.iadd, 1)), (47, (.istore_n 0, 1)), (48, (.iload_n 0, 1)), (49, (.bipush 63, 2)), (51, (.iand, 1)), (52, (.ireturn, 1))]
set_option maxRecDepth 100000 in
theorem dt_J6_bitCount_0f7a4 : (tb_J6_bitCount_0f7a4.all fun q => decide (decode cJ6_bitCount_0f7a4 q.1 = .ok q.2)) = true := by decide +kernel
set_option maxRecDepth 100000 in
set_option maxHeartbeats 4000000 in
theorem ok_FJ6_bitCount_0f7a4 {m : Mem}  {v0 : Int} (q0 : inR v0) : CT l G cy ad tt yJ6_bitCount_0f7a4 cJ6_bitCount_0f7a4 1 (some .int) 0 [iv v0] m (some (iv (FJ6_bitCount_0f7a4 v0))) (inR (FJ6_bitCount_0f7a4 v0)) m := by
  refine CT_of (by decide) (Nat.le_of_ble_eq_true rfl) (fun Go hR hT => ?_)
  replace hR : RS l G cy ad tt RJ6 cJ6_bitCount_0f7a4 1 0 Go := hR
  show Go 0 [some (iv v0)] [] m
  obtain ⟨out, h⟩ : ∃ out, FJ6_bitCount_0f7a4 v0 = out := ⟨_, rfl⟩
  rw [h] at hT
  unfold FJ6_bitCount_0f7a4 at h
  refine r_iload_n (pc := 0) hR (dc dt_J6_bitCount_0f7a4 0 rfl) rfl ?_
  refine r_iload_n (pc := 1) hR (dc dt_J6_bitCount_0f7a4 1 rfl) rfl ?_
  refine r_iconst (pc := 2) hR (dc dt_J6_bitCount_0f7a4 2 rfl) ?_
  refine r_iushr (pc := 3) hR (dc dt_J6_bitCount_0f7a4 3 rfl) ?_
  refine r_ldcw (pc := 4) hR (dc dt_J6_bitCount_0f7a4 4 rfl) kw_J6_265 ?_
  refine r_iand (pc := 7) hR (dc dt_J6_bitCount_0f7a4 5 rfl) ?_
  refine r_isub (pc := 8) hR (dc dt_J6_bitCount_0f7a4 6 rfl) ?_
  refine r_istore_n (pc := 9) (L' := [some (iv (w32 (v0 - (band (ush v0 1) 1431655765))))]) hR (dc dt_J6_bitCount_0f7a4 7 rfl) (by decide) rfl rfl ?_
  refine r_iload_n (pc := 10) hR (dc dt_J6_bitCount_0f7a4 8 rfl) rfl ?_
  refine r_ldcw (pc := 11) hR (dc dt_J6_bitCount_0f7a4 9 rfl) kw_J6_266 ?_
  refine r_iand (pc := 14) hR (dc dt_J6_bitCount_0f7a4 10 rfl) ?_
  refine r_iload_n (pc := 15) hR (dc dt_J6_bitCount_0f7a4 11 rfl) rfl ?_
  refine r_iconst (pc := 16) hR (dc dt_J6_bitCount_0f7a4 12 rfl) ?_
  refine r_iushr (pc := 17) hR (dc dt_J6_bitCount_0f7a4 13 rfl) ?_
  refine r_ldcw (pc := 18) hR (dc dt_J6_bitCount_0f7a4 14 rfl) kw_J6_266 ?_
  refine r_iand (pc := 21) hR (dc dt_J6_bitCount_0f7a4 15 rfl) ?_
  refine r_iadd (pc := 22) hR (dc dt_J6_bitCount_0f7a4 16 rfl) ?_
  refine r_istore_n (pc := 23) (L' := [some (iv (w32 ((band (w32 (v0 - (band (ush v0 1) 1431655765))) 858993459) + (band (ush (w32 (v0 - (band (ush v0 1) 1431655765))) 2) 858993459))))]) hR (dc dt_J6_bitCount_0f7a4 17 rfl) (by decide) rfl rfl ?_
  refine r_iload_n (pc := 24) hR (dc dt_J6_bitCount_0f7a4 18 rfl) rfl ?_
  refine r_iload_n (pc := 25) hR (dc dt_J6_bitCount_0f7a4 19 rfl) rfl ?_
  refine r_iconst (pc := 26) hR (dc dt_J6_bitCount_0f7a4 20 rfl) ?_
  refine r_iushr (pc := 27) hR (dc dt_J6_bitCount_0f7a4 21 rfl) ?_
  refine r_iadd (pc := 28) hR (dc dt_J6_bitCount_0f7a4 22 rfl) ?_
  refine r_ldcw (pc := 29) hR (dc dt_J6_bitCount_0f7a4 23 rfl) kw_J6_267 ?_
  refine r_iand (pc := 32) hR (dc dt_J6_bitCount_0f7a4 24 rfl) ?_
  refine r_istore_n (pc := 33) (L' := [some (iv (band (w32 ((w32 ((band (w32 (v0 - (band (ush v0 1) 1431655765))) 858993459) + (band (ush (w32 (v0 - (band (ush v0 1) 1431655765))) 2) 858993459))) + (ush (w32 ((band (w32 (v0 - (band (ush v0 1) 1431655765))) 858993459) + (band (ush (w32 (v0 - (band (ush v0 1) 1431655765))) 2) 858993459))) 4))) 252645135))]) hR (dc dt_J6_bitCount_0f7a4 25 rfl) (by decide) rfl rfl ?_
  refine r_iload_n (pc := 34) hR (dc dt_J6_bitCount_0f7a4 26 rfl) rfl ?_
  refine r_iload_n (pc := 35) hR (dc dt_J6_bitCount_0f7a4 27 rfl) rfl ?_
  refine r_bipush (pc := 36) hR (dc dt_J6_bitCount_0f7a4 28 rfl) (by decide) ?_
  refine r_iushr (pc := 38) hR (dc dt_J6_bitCount_0f7a4 29 rfl) ?_
  refine r_iadd (pc := 39) hR (dc dt_J6_bitCount_0f7a4 30 rfl) ?_
  refine r_istore_n (pc := 40) (L' := [some (iv (w32 ((band (w32 ((w32 ((band (w32 (v0 - (band (ush v0 1) 1431655765))) 858993459) + (band (ush (w32 (v0 - (band (ush v0 1) 1431655765))) 2) 858993459))) + (ush (w32 ((band (w32 (v0 - (band (ush v0 1) 1431655765))) 858993459) + (band (ush (w32 (v0 - (band (ush v0 1) 1431655765))) 2) 858993459))) 4))) 252645135) + (ush (band (w32 ((w32 ((band (w32 (v0 - (band (ush v0 1) 1431655765))) 858993459) + (band (ush (w32 (v0 - (band (ush v0 1) 1431655765))) 2) 858993459))) + (ush (w32 ((band (w32 (v0 - (band (ush v0 1) 1431655765))) 858993459) + (band (ush (w32 (v0 - (band (ush v0 1) 1431655765))) 2) 858993459))) 4))) 252645135) 8))))]) hR (dc dt_J6_bitCount_0f7a4 31 rfl) (by decide) rfl rfl ?_
  refine r_iload_n (pc := 41) hR (dc dt_J6_bitCount_0f7a4 32 rfl) rfl ?_
  refine r_iload_n (pc := 42) hR (dc dt_J6_bitCount_0f7a4 33 rfl) rfl ?_
  refine r_bipush (pc := 43) hR (dc dt_J6_bitCount_0f7a4 34 rfl) (by decide) ?_
  refine r_iushr (pc := 45) hR (dc dt_J6_bitCount_0f7a4 35 rfl) ?_
  refine r_iadd (pc := 46) hR (dc dt_J6_bitCount_0f7a4 36 rfl) ?_
  refine r_istore_n (pc := 47) (L' := [some (iv (w32 ((w32 ((band (w32 ((w32 ((band (w32 (v0 - (band (ush v0 1) 1431655765))) 858993459) + (band (ush (w32 (v0 - (band (ush v0 1) 1431655765))) 2) 858993459))) + (ush (w32 ((band (w32 (v0 - (band (ush v0 1) 1431655765))) 858993459) + (band (ush (w32 (v0 - (band (ush v0 1) 1431655765))) 2) 858993459))) 4))) 252645135) + (ush (band (w32 ((w32 ((band (w32 (v0 - (band (ush v0 1) 1431655765))) 858993459) + (band (ush (w32 (v0 - (band (ush v0 1) 1431655765))) 2) 858993459))) + (ush (w32 ((band (w32 (v0 - (band (ush v0 1) 1431655765))) 858993459) + (band (ush (w32 (v0 - (band (ush v0 1) 1431655765))) 2) 858993459))) 4))) 252645135) 8))) + (ush (w32 ((band (w32 ((w32 ((band (w32 (v0 - (band (ush v0 1) 1431655765))) 858993459) + (band (ush (w32 (v0 - (band (ush v0 1) 1431655765))) 2) 858993459))) + (ush (w32 ((band (w32 (v0 - (band (ush v0 1) 1431655765))) 858993459) + (band (ush (w32 (v0 - (band (ush v0 1) 1431655765))) 2) 858993459))) 4))) 252645135) + (ush (band (w32 ((w32 ((band (w32 (v0 - (band (ush v0 1) 1431655765))) 858993459) + (band (ush (w32 (v0 - (band (ush v0 1) 1431655765))) 2) 858993459))) + (ush (w32 ((band (w32 (v0 - (band (ush v0 1) 1431655765))) 858993459) + (band (ush (w32 (v0 - (band (ush v0 1) 1431655765))) 2) 858993459))) 4))) 252645135) 8))) 16))))]) hR (dc dt_J6_bitCount_0f7a4 37 rfl) (by decide) rfl rfl ?_
  refine r_iload_n (pc := 48) hR (dc dt_J6_bitCount_0f7a4 38 rfl) rfl ?_
  refine r_bipush (pc := 49) hR (dc dt_J6_bitCount_0f7a4 39 rfl) (by decide) ?_
  refine r_iand (pc := 51) hR (dc dt_J6_bitCount_0f7a4 40 rfl) ?_
  exact r_iret hT (dc dt_J6_bitCount_0f7a4 41 rfl) h rfl (ti_in _)
def tb_X0_bound : List (Nat × (Instr × Nat)) := [(0, (.aload_n 0, 1)), (1, (.getfield 44, 3)), (4, (.iconst 0, 1)), (5, (.invokevirtual 51, 3)), (8, (.aload_n 0, 1)), (9, (.getfield 44, 3)), (12, (.iconst 2, 1)), (13, (.invokevirtual 51, 3)), (16, (.invokestatic 57, 3)), (19, (.istore_n 1, 1)), (20, (.iconst 0, 1)), (21, (.istore_n 2, 1)), (22, (.iconst 0, 1)), (23, (.istore_n 3, 1)), (24, (.iload_n 3, 1)), (25, (.bipush 16, 2)), (27, (.if_icmp .ge 34, 3)), (30, (.aload_n 0, 1)), (31, (.iload_n 3, 1)), (32, (.invokevirtual 63, 3)), (35, (.iconst 1, 1)), (36, (.ishr, 1)), (37, (.istore 4, 2)), (39, (.iload_n 2, 1)), (40, (.iconst 0, 1)), (41, (.iload 4, 2)), (43, (.invokestatic 66, 3)), (46, (.iconst 1, 1)), (47, (.isub, 1)), (48, (.invokestatic 71, 3)), (51, (.iload_n 1, 1)), (52, (.imul, 1)), (53, (.iadd, 1)), (54, (.istore_n 2, 1)), (55, (.iinc 3 1, 3)), (58, (.goto (-34), 3)), (61, (.iload_n 2, 1)), (62, (.ireturn, 1))]
set_option maxRecDepth 100000 in
theorem dt_X0_bound : (tb_X0_bound.all fun q => decide (decode cX0_bound q.1 = .ok q.2)) = true := by decide +kernel
set_option maxRecDepth 100000 in
set_option maxHeartbeats 4000000 in
theorem lp_L0_bound_24 {Go : Nat → List (Option Value) → List Value → Mem → Prop} (hR : RS l G cy ad tt RX0 cX0_bound 5 3 Go) {out : Int} {m : Mem} (hT : RT cX0_bound (some (iv out)) (inR out) m (some .int) Go) {v1 : Int} (qv1 : inR v1) : ∀ (n : Nat) (v2 : Int) (v3 : Int), inR v2 → inR v3 → L0_bound_24 m v1 n v2 v3 = some out → Go 24 [some (.ref (ad 31)), some (iv v1), some (iv v2), some (iv v3), none] [] m := by
  intro n
  induction n with
  | zero =>
    intro v2 v3 qv2 qv3 h
    cases h
  | succ n ih =>
    intro v2 v3 qv2 qv3 h
    rw [L0_bound_24] at h
    refine r_iload_n (pc := 24) hR (dc dt_X0_bound 14 rfl) rfl ?_
    refine r_bipush (pc := 25) hR (dc dt_X0_bound 15 rfl) (by decide) ?_
    refine r_icmp_ge (pc := 27) (tgt := 61) hR (dc dt_X0_bound 16 rfl) (by decide) qv3 (rg_c rfl) (fun hc => ?_) (fun hc => ?_)
    · replace h := ite_t hc h
      refine r_iload_n (pc := 61) hR (dc dt_X0_bound 36 rfl) rfl ?_
      exact r_iret hT (dc dt_X0_bound 37 rfl) (Option.some.inj h) rfl qv2
    replace h := ite_f hc h
    refine r_aload_n (pc := 30) hR (dc dt_X0_bound 17 rfl) rfl ?_
    refine r_iload_n (pc := 31) hR (dc dt_X0_bound 18 rfl) rfl ?_
    obtain ⟨r32, e32, h⟩ := b1_some h
    refine r_callV (pc := 32) (rest := []) hR (dc dt_X0_bound 19 rfl) cl_X0_63 tc_31 rfl (ok_F0_toldForms qv3 e32) (by decide) rfl (Nat.le_of_ble_eq_true rfl) rfl (fun q32r => ?_)
    show Go 35 [some (.ref (ad 31)), some (iv v1), some (iv v2), some (iv v3), none] [iv r32] m
    refine r_iconst (pc := 35) hR (dc dt_X0_bound 20 rfl) ?_
    refine r_ishr (pc := 36) hR (dc dt_X0_bound 21 rfl) ?_
    refine r_istore (pc := 37) (L' := [some (.ref (ad 31)), some (iv v1), some (iv v2), some (iv v3), some (iv (shr r32 1))]) hR (dc dt_X0_bound 22 rfl) (by decide) rfl rfl ?_
    refine r_iload_n (pc := 39) hR (dc dt_X0_bound 23 rfl) rfl ?_
    refine r_iconst (pc := 40) hR (dc dt_X0_bound 24 rfl) ?_
    refine r_iload (pc := 41) hR (dc dt_X0_bound 25 rfl) rfl ?_
    refine r_callS (pc := 43) (rest := [iv 0, iv v2]) hR (dc dt_X0_bound 26 rfl) cl_X0_66 (ok_FJ6_bitCount_0f7a4 (ti_in _)) (by decide) rfl (Nat.le_of_ble_eq_true rfl) rfl (fun q43r => ?_)
    show Go 46 [some (.ref (ad 31)), some (iv v1), some (iv v2), some (iv v3), some (iv (shr r32 1))] [iv (FJ6_bitCount_0f7a4 (shr r32 1)), iv 0, iv v2] m
    refine r_iconst (pc := 46) hR (dc dt_X0_bound 27 rfl) ?_
    refine r_isub (pc := 47) hR (dc dt_X0_bound 28 rfl) ?_
    refine r_max (pc := 48) hR (dc dt_X0_bound 29 rfl) mw_X0_71 (rg_c rfl) (w32_in _) (Nat.le_of_ble_eq_true rfl) (by decide) ?_
    refine r_iload_n (pc := 51) hR (dc dt_X0_bound 30 rfl) rfl ?_
    refine r_imul (pc := 52) hR (dc dt_X0_bound 31 rfl) ?_
    refine r_iadd (pc := 53) hR (dc dt_X0_bound 32 rfl) ?_
    refine r_istore_n (pc := 54) (L' := [some (.ref (ad 31)), some (iv v1), some (iv (w32 (v2 + (w32 ((imx 0 (w32 ((FJ6_bitCount_0f7a4 (shr r32 1)) - 1))) * v1))))), some (iv v3), some (iv (shr r32 1))]) hR (dc dt_X0_bound 33 rfl) (by decide) rfl rfl ?_
    refine r_iinc (pc := 55) (L' := [some (.ref (ad 31)), some (iv v1), some (iv (w32 (v2 + (w32 ((imx 0 (w32 ((FJ6_bitCount_0f7a4 (shr r32 1)) - 1))) * v1))))), some (iv (w32 (v3 + 1))), some (iv (shr r32 1))]) hR (dc dt_X0_bound 34 rfl) rfl (by decide) rfl rfl ?_
    refine r_goto (pc := 58) (tgt := 24) hR (dc dt_X0_bound 35 rfl) (by decide) ?_
    refine r_weak (L' := [some (.ref (ad 31)), some (iv v1), some (iv (w32 (v2 + (w32 ((imx 0 (w32 ((FJ6_bitCount_0f7a4 (shr r32 1)) - 1))) * v1))))), some (iv (w32 (v3 + 1))), none]) hR ⟨Or.inr rfl, Or.inr rfl, Or.inr rfl, Or.inr rfl, Or.inl rfl, trivial⟩ ?_
    exact ih (w32 (v2 + (w32 ((imx 0 (w32 ((FJ6_bitCount_0f7a4 (shr r32 1)) - 1))) * v1)))) (w32 (v3 + 1)) (w32_in _) (w32_in _) h
set_option maxRecDepth 100000 in
set_option maxHeartbeats 4000000 in
theorem ok_F0_bound {m : Mem}   {out : Int} (h : F0_bound m = some out) : CT l G cy ad tt yX0_bound cX0_bound 5 (some .int) 3 [.ref (ad 31)] m (some (iv out)) (inR out) m := by
  refine CT_of (by decide) (Nat.le_of_ble_eq_true rfl) (fun Go hR hT => ?_)
  replace hR : RS l G cy ad tt RX0 cX0_bound 5 3 Go := hR
  show Go 0 [some (.ref (ad 31)), none, none, none, none] [] m
  unfold F0_bound at h
  refine r_aload_n (pc := 0) hR (dc dt_X0_bound 0 rfl) rfl ?_
  refine r_getr (pc := 1) (k2 := 4) hR (dc dt_X0_bound 1 rfl) fl_X0_44 tc_31 rfl ?_
  refine r_iconst (pc := 4) hR (dc dt_X0_bound 2 rfl) ?_
  obtain ⟨r5, e5, h⟩ := b1_some h
  refine r_callV (pc := 5) (rest := []) hR (dc dt_X0_bound 3 rfl) cl_X0_51 tc_4 rfl (ok_F1_costOf (rg_c rfl) e5) (by decide) rfl (Nat.le_of_ble_eq_true rfl) rfl (fun q5r => ?_)
  show Go 8 [some (.ref (ad 31)), none, none, none, none] [iv r5] m
  refine r_aload_n (pc := 8) hR (dc dt_X0_bound 4 rfl) rfl ?_
  refine r_getr (pc := 9) (k2 := 4) hR (dc dt_X0_bound 5 rfl) fl_X0_44 tc_31 rfl ?_
  refine r_iconst (pc := 12) hR (dc dt_X0_bound 6 rfl) ?_
  obtain ⟨r13, e13, h⟩ := b1_some h
  refine r_callV (pc := 13) (rest := [iv r5]) hR (dc dt_X0_bound 7 rfl) cl_X0_51 tc_4 rfl (ok_F1_costOf (rg_c rfl) e13) (by decide) rfl (Nat.le_of_ble_eq_true rfl) rfl (fun q13r => ?_)
  show Go 16 [some (.ref (ad 31)), none, none, none, none] [iv r13, iv r5] m
  refine r_min (pc := 16) hR (dc dt_X0_bound 8 rfl) mw_X0_57 q5r q13r (Nat.le_of_ble_eq_true rfl) (by decide) ?_
  refine r_istore_n (pc := 19) (L' := [some (.ref (ad 31)), some (iv (imn r5 r13)), none, none, none]) hR (dc dt_X0_bound 9 rfl) (by decide) rfl rfl ?_
  refine r_iconst (pc := 20) hR (dc dt_X0_bound 10 rfl) ?_
  refine r_istore_n (pc := 21) (L' := [some (.ref (ad 31)), some (iv (imn r5 r13)), some (iv 0), none, none]) hR (dc dt_X0_bound 11 rfl) (by decide) rfl rfl ?_
  refine r_iconst (pc := 22) hR (dc dt_X0_bound 12 rfl) ?_
  refine r_istore_n (pc := 23) (L' := [some (.ref (ad 31)), some (iv (imn r5 r13)), some (iv 0), some (iv 0), none]) hR (dc dt_X0_bound 13 rfl) (by decide) rfl rfl ?_
  refine lp_L0_bound_24 hR hT (imn_in q5r q13r) FU 0 0 (rg_c rfl) (rg_c rfl) h
def tb_X9_stepOf : List (Nat × (Instr × Nat)) := [(0, (.aload_n 0, 1)), (1, (.getfield 33, 3)), (4, (.iload_n 1, 1)), (5, (.iconst 4, 1)), (6, (.imul, 1)), (7, (.iload_n 2, 1)), (8, (.iadd, 1)), (9, (.iaload, 1)), (10, (.ireturn, 1))]
set_option maxRecDepth 100000 in
theorem dt_X9_stepOf : (tb_X9_stepOf.all fun q => decide (decode cX9_stepOf q.1 = .ok q.2)) = true := by decide +kernel
set_option maxRecDepth 100000 in
set_option maxHeartbeats 4000000 in
theorem ok_F9_stepOf {m : Mem} {o : Nat} {v1 v2 : Int} (hT0 : isTr o) (q1 : inR v1) (q2 : inR v2) {out : Int} (h : F9_stepOf m o v1 v2 = some out) : CT l G cy ad tt yX9_stepOf cX9_stepOf 3 (some .int) 0 [.ref (ad o), iv v1, iv v2] m (some (iv out)) (inR out) m := by
  refine CT_of (by decide) (Nat.le_of_ble_eq_true rfl) (fun Go hR hT => ?_)
  replace hR : RS l G cy ad tt RX9 cX9_stepOf 3 0 Go := hR
  show Go 0 [some (.ref (ad o)), some (iv v1), some (iv v2)] [] m
  unfold F9_stepOf at h
  refine r_aload_n (pc := 0) hR (dc dt_X9_stepOf 0 rfl) rfl ?_
  refine r_getr (pc := 1) (k2 := o + 8) hR (dc dt_X9_stepOf 1 rfl) fl_X9_33 hT0.1 rfl ?_
  refine r_iload_n (pc := 4) hR (dc dt_X9_stepOf 2 rfl) rfl ?_
  refine r_iconst (pc := 5) hR (dc dt_X9_stepOf 3 rfl) ?_
  refine r_imul (pc := 6) hR (dc dt_X9_stepOf 4 rfl) ?_
  refine r_iload_n (pc := 7) hR (dc dt_X9_stepOf 5 rfl) rfl ?_
  refine r_iadd (pc := 8) hR (dc dt_X9_stepOf 6 rfl) ?_
  obtain ⟨g1, h⟩ := gd_some h
  refine r_iald (pc := 9) hR (dc dt_X9_stepOf 7 rfl) (tr_8 hT0) g1 (w32_in _) ?_
  exact r_iret hT (dc dt_X9_stepOf 8 rfl) (Option.some.inj h) rfl (rd_in _ _ _)
def tb_X0_sortClause : List (Nat × (Instr × Nat)) := [(0, (.aload_n 0, 1)), (1, (.iload_n 1, 1)), (2, (.invokevirtual 63, 3)), (5, (.invokestatic 66, 3)), (8, (.iconst 2, 1)), (9, (.if_icmp .ge 4, 3)), (12, (.return_, 1)), (13, (.iconst 0, 1)), (14, (.istore_n 2, 1)), (15, (.iload_n 2, 1)), (16, (.aload_n 0, 1)), (17, (.getfield 48, 3)), (20, (.if_icmp .ge 49, 3)), (23, (.aload_n 0, 1)), (24, (.getfield 44, 3)), (27, (.aload_n 0, 1)), (28, (.getfield 18, 3)), (31, (.iload_n 2, 1)), (32, (.iaload, 1)), (33, (.iload_n 1, 1)), (34, (.invokevirtual 74, 3)), (37, (.bipush 9, 2)), (39, (.if_icmp .ne 24, 3)), (42, (.aload_n 0, 1)), (43, (.getfield 34, 3)), (46, (.aload_n 0, 1)), (47, (.getfield 118, 3)), (50, (.iload_n 1, 1)), (51, (.iastore, 1)), (52, (.aload_n 0, 1)), (53, (.dup, 1)), (54, (.getfield 118, 3)), (57, (.iconst 1, 1)), (58, (.iadd, 1)), (59, (.putfield 118, 3)), (62, (.return_, 1)), (63, (.iinc 2 1, 3)), (66, (.goto (-51), 3)), (69, (.iconst 0, 1)), (70, (.istore_n 2, 1)), (71, (.iload_n 2, 1)), (72, (.aload_n 0, 1)), (73, (.getfield 48, 3)), (76, (.if_icmp .ge 78, 3)), (79, (.iconst 0, 1)), (80, (.istore_n 3, 1)), (81, (.iload_n 3, 1)), (82, (.aload_n 0, 1)), (83, (.getfield 48, 3)), (86, (.if_icmp .ge 62, 3)), (89, (.aload_n 0, 1)), (90, (.getfield 12, 3)), (93, (.aload_n 0, 1)), (94, (.getfield 44, 3)), (97, (.aload_n 0, 1)), (98, (.getfield 18, 3)), (101, (.iload_n 2, 1)), (102, (.iaload, 1)), (103, (.iload_n 1, 1)), (104, (.invokevirtual 74, 3)), (107, (.aload_n 0, 1)), (108, (.getfield 44, 3)), (111, (.aload_n 0, 1)), (112, (.getfield 18, 3)), (115, (.iload_n 3, 1)), (116, (.iaload, 1)), (117, (.iload_n 1, 1)), (118, (.invokevirtual 74, 3)), (121, (.invokevirtual 127, 3)), (124, (.istore 4, 2)), (126, (.aload_n 0, 1)), (127, (.getfield 31, 3)), (130, (.iload_n 2, 1)), (131, (.bipush 6, 2)), (133, (.imul, 1)), (134, (.iload_n 3, 1)), (135, (.iadd, 1)), (136, (.dup2, 1)), (137, (.iaload, 1)), (138, (.iload 4, 2)), (140, (.iadd, 1)), (141, (.iastore, 1)), (142, (.iinc 3 1, 3)), (145, (.goto (-64), 3)), (148, (.iinc 2 1, 3)), (151, (.goto (-80), 3)), (154, (.return_, 1))]
set_option maxRecDepth 100000 in
theorem dt_X0_sortClause : (tb_X0_sortClause.all fun q => decide (decode cX0_sortClause q.1 = .ok q.2)) = true := by decide +kernel
set_option maxRecDepth 100000 in
set_option maxHeartbeats 4000000 in
theorem lp_L0_sortClause_15 {Go : Nat → List (Option Value) → List Value → Mem → Prop} (hR : RS l G cy ad tt RX0 cX0_sortClause 5 3 Go) {out : Mem} {m : Mem} (hT : RT cX0_sortClause none True out none Go) {v1 : Int} (qv1 : inR v1) {k69 : Option Mem} {k42 : Option Mem} (hk69 : k69 = some out → Go 69 [some (.ref (ad 31)), some (iv v1), none, none, none] [] m) (hk42 : k42 = some out → Go 42 [some (.ref (ad 31)), some (iv v1), none, none, none] [] m) : ∀ (n : Nat) (v2 : Int), inR v2 → L0_sortClause_15 m v1 k69 k42 n v2 = some out → Go 15 [some (.ref (ad 31)), some (iv v1), some (iv v2), none, none] [] m := by
  intro n
  induction n with
  | zero =>
    intro v2 qv2 h
    cases h
  | succ n ih =>
    intro v2 qv2 h
    rw [L0_sortClause_15] at h
    refine r_iload_n (pc := 15) hR (dc dt_X0_sortClause 9 rfl) rfl ?_
    refine r_aload_n (pc := 16) hR (dc dt_X0_sortClause 10 rfl) rfl ?_
    refine r_geti (pc := 17) hR (dc dt_X0_sortClause 11 rfl) fl_X0_48 tc_31 rfl ?_
    refine r_icmp_ge (pc := 20) (tgt := 69) hR (dc dt_X0_sortClause 12 rfl) (by decide) qv2 (rd_in _ _ _) (fun hc => ?_) (fun hc => ?_)
    · replace h := ite_t hc h
      refine r_weak (L' := [some (.ref (ad 31)), some (iv v1), none, none, none]) hR ⟨Or.inr rfl, Or.inr rfl, Or.inl rfl, Or.inr rfl, Or.inr rfl, trivial⟩ ?_
      exact hk69 h
    replace h := ite_f hc h
    refine r_aload_n (pc := 23) hR (dc dt_X0_sortClause 13 rfl) rfl ?_
    refine r_getr (pc := 24) (k2 := 4) hR (dc dt_X0_sortClause 14 rfl) fl_X0_44 tc_31 rfl ?_
    refine r_aload_n (pc := 27) hR (dc dt_X0_sortClause 15 rfl) rfl ?_
    refine r_getr (pc := 28) (k2 := 44) hR (dc dt_X0_sortClause 16 rfl) fl_X0_18 tc_31 rfl ?_
    refine r_iload_n (pc := 31) hR (dc dt_X0_sortClause 17 rfl) rfl ?_
    obtain ⟨g1, h⟩ := gd_some h
    refine r_iald (pc := 32) hR (dc dt_X0_sortClause 18 rfl) tc_44 g1 qv2 ?_
    refine r_iload_n (pc := 33) hR (dc dt_X0_sortClause 19 rfl) rfl ?_
    obtain ⟨r34, e34, h⟩ := b1_some h
    refine r_callV (pc := 34) (rest := []) hR (dc dt_X0_sortClause 20 rfl) cl_X0_74 tc_4 rfl (ok_F1_told (rd_in _ _ _) qv1 e34) (by decide) rfl (Nat.le_of_ble_eq_true rfl) rfl (fun q34r => ?_)
    show Go 37 [some (.ref (ad 31)), some (iv v1), some (iv v2), none, none] [iv r34] m
    refine r_bipush (pc := 37) hR (dc dt_X0_sortClause 21 rfl) (by decide) ?_
    refine r_icmp_ne (pc := 39) (tgt := 63) hR (dc dt_X0_sortClause 22 rfl) (by decide) q34r (rg_c rfl) (fun hc => ?_) (fun hc => ?_)
    · replace h := ite_t hc h
      refine r_iinc (pc := 63) (L' := [some (.ref (ad 31)), some (iv v1), some (iv (w32 (v2 + 1))), none, none]) hR (dc dt_X0_sortClause 36 rfl) rfl (by decide) rfl rfl ?_
      refine r_goto (pc := 66) (tgt := 15) hR (dc dt_X0_sortClause 37 rfl) (by decide) ?_
      exact ih (w32 (v2 + 1)) (w32_in _) h
    replace h := ite_f hc h
    refine r_weak (L' := [some (.ref (ad 31)), some (iv v1), none, none, none]) hR ⟨Or.inr rfl, Or.inr rfl, Or.inl rfl, Or.inr rfl, Or.inr rfl, trivial⟩ ?_
    exact hk42 h
set_option maxRecDepth 100000 in
set_option maxHeartbeats 4000000 in
theorem lp_L0_sortClause_81 {Go : Nat → List (Option Value) → List Value → Mem → Prop} (hR : RS l G cy ad tt RX0 cX0_sortClause 5 3 Go) {out : Mem} (hT : RT cX0_sortClause none True out none Go) {v1 : Int} {v2 : Int} (qv1 : inR v1) (qv2 : inR v2) {k148 : Mem → Option Mem} (hk148 : ∀ (m : Mem), k148 m = some out → Go 148 [some (.ref (ad 31)), some (iv v1), some (iv v2), none, none] [] m) : ∀ (n : Nat) (v3 : Int) (m : Mem), inR v3 → L0_sortClause_81 v1 v2 k148 n v3 m = some out → Go 81 [some (.ref (ad 31)), some (iv v1), some (iv v2), some (iv v3), none] [] m := by
  intro n
  induction n with
  | zero =>
    intro v3 m qv3 h
    cases h
  | succ n ih =>
    intro v3 m qv3 h
    rw [L0_sortClause_81] at h
    refine r_iload_n (pc := 81) hR (dc dt_X0_sortClause 46 rfl) rfl ?_
    refine r_aload_n (pc := 82) hR (dc dt_X0_sortClause 47 rfl) rfl ?_
    refine r_geti (pc := 83) hR (dc dt_X0_sortClause 48 rfl) fl_X0_48 tc_31 rfl ?_
    refine r_icmp_ge (pc := 86) (tgt := 148) hR (dc dt_X0_sortClause 49 rfl) (by decide) qv3 (rd_in _ _ _) (fun hc => ?_) (fun hc => ?_)
    · replace h := ite_t hc h
      refine r_weak (L' := [some (.ref (ad 31)), some (iv v1), some (iv v2), none, none]) hR ⟨Or.inr rfl, Or.inr rfl, Or.inr rfl, Or.inl rfl, Or.inr rfl, trivial⟩ ?_
      exact hk148 m h
    replace h := ite_f hc h
    refine r_aload_n (pc := 89) hR (dc dt_X0_sortClause 50 rfl) rfl ?_
    refine r_getr (pc := 90) (k2 := 32) hR (dc dt_X0_sortClause 51 rfl) fl_X0_12 tc_31 rfl ?_
    refine r_aload_n (pc := 93) hR (dc dt_X0_sortClause 52 rfl) rfl ?_
    refine r_getr (pc := 94) (k2 := 4) hR (dc dt_X0_sortClause 53 rfl) fl_X0_44 tc_31 rfl ?_
    refine r_aload_n (pc := 97) hR (dc dt_X0_sortClause 54 rfl) rfl ?_
    refine r_getr (pc := 98) (k2 := 44) hR (dc dt_X0_sortClause 55 rfl) fl_X0_18 tc_31 rfl ?_
    refine r_iload_n (pc := 101) hR (dc dt_X0_sortClause 56 rfl) rfl ?_
    obtain ⟨g1, h⟩ := gd_some h
    refine r_iald (pc := 102) hR (dc dt_X0_sortClause 57 rfl) tc_44 g1 qv2 ?_
    refine r_iload_n (pc := 103) hR (dc dt_X0_sortClause 58 rfl) rfl ?_
    obtain ⟨r104, e104, h⟩ := b1_some h
    refine r_callV (pc := 104) (rest := [.ref (ad 32)]) hR (dc dt_X0_sortClause 59 rfl) cl_X0_74 tc_4 rfl (ok_F1_told (rd_in _ _ _) qv1 e104) (by decide) rfl (Nat.le_of_ble_eq_true rfl) rfl (fun q104r => ?_)
    show Go 107 [some (.ref (ad 31)), some (iv v1), some (iv v2), some (iv v3), none] [iv r104, .ref (ad 32)] m
    refine r_aload_n (pc := 107) hR (dc dt_X0_sortClause 60 rfl) rfl ?_
    refine r_getr (pc := 108) (k2 := 4) hR (dc dt_X0_sortClause 61 rfl) fl_X0_44 tc_31 rfl ?_
    refine r_aload_n (pc := 111) hR (dc dt_X0_sortClause 62 rfl) rfl ?_
    refine r_getr (pc := 112) (k2 := 44) hR (dc dt_X0_sortClause 63 rfl) fl_X0_18 tc_31 rfl ?_
    refine r_iload_n (pc := 115) hR (dc dt_X0_sortClause 64 rfl) rfl ?_
    obtain ⟨g1, h⟩ := gd_some h
    refine r_iald (pc := 116) hR (dc dt_X0_sortClause 65 rfl) tc_44 g1 qv3 ?_
    refine r_iload_n (pc := 117) hR (dc dt_X0_sortClause 66 rfl) rfl ?_
    obtain ⟨r118, e118, h⟩ := b1_some h
    refine r_callV (pc := 118) (rest := [iv r104, .ref (ad 32)]) hR (dc dt_X0_sortClause 67 rfl) cl_X0_74 tc_4 rfl (ok_F1_told (rd_in _ _ _) qv1 e118) (by decide) rfl (Nat.le_of_ble_eq_true rfl) rfl (fun q118r => ?_)
    show Go 121 [some (.ref (ad 31)), some (iv v1), some (iv v2), some (iv v3), none] [iv r118, iv r104, .ref (ad 32)] m
    obtain ⟨r121, e121, h⟩ := b1_some h
    refine r_callV (pc := 121) (rest := []) hR (dc dt_X0_sortClause 68 rfl) cl_X0_127 tc_32 rfl (ok_F9_stepOf tr_c32 q104r q118r e121) (by decide) rfl (Nat.le_of_ble_eq_true rfl) rfl (fun q121r => ?_)
    show Go 124 [some (.ref (ad 31)), some (iv v1), some (iv v2), some (iv v3), none] [iv r121] m
    refine r_istore (pc := 124) (L' := [some (.ref (ad 31)), some (iv v1), some (iv v2), some (iv v3), some (iv r121)]) hR (dc dt_X0_sortClause 69 rfl) (by decide) rfl rfl ?_
    refine r_aload_n (pc := 126) hR (dc dt_X0_sortClause 70 rfl) rfl ?_
    refine r_getr (pc := 127) (k2 := 48) hR (dc dt_X0_sortClause 71 rfl) fl_X0_31 tc_31 rfl ?_
    refine r_iload_n (pc := 130) hR (dc dt_X0_sortClause 72 rfl) rfl ?_
    refine r_bipush (pc := 131) hR (dc dt_X0_sortClause 73 rfl) (by decide) ?_
    refine r_imul (pc := 133) hR (dc dt_X0_sortClause 74 rfl) ?_
    refine r_iload_n (pc := 134) hR (dc dt_X0_sortClause 75 rfl) rfl ?_
    refine r_iadd (pc := 135) hR (dc dt_X0_sortClause 76 rfl) ?_
    refine r_dup2 (pc := 136) hR (dc dt_X0_sortClause 77 rfl) rfl rfl ?_
    obtain ⟨g1, h⟩ := gd_some h
    refine r_iald (pc := 137) hR (dc dt_X0_sortClause 78 rfl) tc_48 g1 (w32_in _) ?_
    refine r_iload (pc := 138) hR (dc dt_X0_sortClause 79 rfl) rfl ?_
    refine r_iadd (pc := 140) hR (dc dt_X0_sortClause 80 rfl) ?_
    obtain ⟨g1, h⟩ := gd_some h
    refine r_iast (pc := 141) hR (dc dt_X0_sortClause 81 rfl) tc_48 g1 (w32_in _) ?_
    replace h := stw_e h
    generalize wr m 48 (w32 ((w32 (v2 * 6)) + v3)) (w32 ((rd m 48 (w32 ((w32 (v2 * 6)) + v3))) + r121)) = m141 at h ⊢
    refine r_iinc (pc := 142) (L' := [some (.ref (ad 31)), some (iv v1), some (iv v2), some (iv (w32 (v3 + 1))), some (iv r121)]) hR (dc dt_X0_sortClause 82 rfl) rfl (by decide) rfl rfl ?_
    refine r_goto (pc := 145) (tgt := 81) hR (dc dt_X0_sortClause 83 rfl) (by decide) ?_
    refine r_weak (L' := [some (.ref (ad 31)), some (iv v1), some (iv v2), some (iv (w32 (v3 + 1))), none]) hR ⟨Or.inr rfl, Or.inr rfl, Or.inr rfl, Or.inr rfl, Or.inl rfl, trivial⟩ ?_
    exact ih (w32 (v3 + 1)) m141 (w32_in _) h
set_option maxRecDepth 100000 in
set_option maxHeartbeats 4000000 in
theorem lp_L0_sortClause_71 {Go : Nat → List (Option Value) → List Value → Mem → Prop} (hR : RS l G cy ad tt RX0 cX0_sortClause 5 3 Go) {out : Mem} (hT : RT cX0_sortClause none True out none Go) {v1 : Int} (qv1 : inR v1) : ∀ (n : Nat) (v2 : Int) (m : Mem), inR v2 → L0_sortClause_71 v1 n v2 m = some out → Go 71 [some (.ref (ad 31)), some (iv v1), some (iv v2), none, none] [] m := by
  intro n
  induction n with
  | zero =>
    intro v2 m qv2 h
    cases h
  | succ n ih =>
    intro v2 m qv2 h
    rw [L0_sortClause_71] at h
    refine r_iload_n (pc := 71) hR (dc dt_X0_sortClause 40 rfl) rfl ?_
    refine r_aload_n (pc := 72) hR (dc dt_X0_sortClause 41 rfl) rfl ?_
    refine r_geti (pc := 73) hR (dc dt_X0_sortClause 42 rfl) fl_X0_48 tc_31 rfl ?_
    refine r_icmp_ge (pc := 76) (tgt := 154) hR (dc dt_X0_sortClause 43 rfl) (by decide) qv2 (rd_in _ _ _) (fun hc => ?_) (fun hc => ?_)
    · replace h := ite_t hc h
      exact r_vret hT (dc dt_X0_sortClause 86 rfl) (Option.some.inj h)
    replace h := ite_f hc h
    refine r_iconst (pc := 79) hR (dc dt_X0_sortClause 44 rfl) ?_
    refine r_istore_n (pc := 80) (L' := [some (.ref (ad 31)), some (iv v1), some (iv v2), some (iv 0), none]) hR (dc dt_X0_sortClause 45 rfl) (by decide) rfl rfl ?_
    refine lp_L0_sortClause_81 hR hT qv1 qv2 (fun m_148 h => ?_) FU 0 m (rg_c rfl) h
    show Go 148 [some (.ref (ad 31)), some (iv v1), some (iv v2), none, none] [] m_148
    refine r_iinc (pc := 148) (L' := [some (.ref (ad 31)), some (iv v1), some (iv (w32 (v2 + 1))), none, none]) hR (dc dt_X0_sortClause 84 rfl) rfl (by decide) rfl rfl ?_
    refine r_goto (pc := 151) (tgt := 71) hR (dc dt_X0_sortClause 85 rfl) (by decide) ?_
    exact ih (w32 (v2 + 1)) m_148 (w32_in _) h
set_option maxRecDepth 100000 in
set_option maxHeartbeats 4000000 in
theorem ok_F0_sortClause {m : Mem}  {v1 : Int} (q1 : inR v1) {out : Mem} (h : F0_sortClause m v1 = some out) : CT l G cy ad tt yX0_sortClause cX0_sortClause 5 none 3 [.ref (ad 31), iv v1] m none True out := by
  refine CT_of (by decide) (Nat.le_of_ble_eq_true rfl) (fun Go hR hT => ?_)
  replace hR : RS l G cy ad tt RX0 cX0_sortClause 5 3 Go := hR
  show Go 0 [some (.ref (ad 31)), some (iv v1), none, none, none] [] m
  unfold F0_sortClause at h
  refine r_aload_n (pc := 0) hR (dc dt_X0_sortClause 0 rfl) rfl ?_
  refine r_iload_n (pc := 1) hR (dc dt_X0_sortClause 1 rfl) rfl ?_
  obtain ⟨r2, e2, h⟩ := b1_some h
  refine r_callV (pc := 2) (rest := []) hR (dc dt_X0_sortClause 2 rfl) cl_X0_63 tc_31 rfl (ok_F0_toldForms q1 e2) (by decide) rfl (Nat.le_of_ble_eq_true rfl) rfl (fun q2r => ?_)
  show Go 5 [some (.ref (ad 31)), some (iv v1), none, none, none] [iv r2] m
  refine r_callS (pc := 5) (rest := []) hR (dc dt_X0_sortClause 3 rfl) cl_X0_66 (ok_FJ6_bitCount_0f7a4 q2r) (by decide) rfl (Nat.le_of_ble_eq_true rfl) rfl (fun q5r => ?_)
  show Go 8 [some (.ref (ad 31)), some (iv v1), none, none, none] [iv (FJ6_bitCount_0f7a4 r2)] m
  refine r_iconst (pc := 8) hR (dc dt_X0_sortClause 4 rfl) ?_
  refine r_icmp_ge (pc := 9) (tgt := 13) hR (dc dt_X0_sortClause 5 rfl) (by decide) q5r (rg_c rfl) (fun hc => ?_) (fun hc => ?_)
  · replace h := ite_t hc h
    refine r_iconst (pc := 13) hR (dc dt_X0_sortClause 7 rfl) ?_
    refine r_istore_n (pc := 14) (L' := [some (.ref (ad 31)), some (iv v1), some (iv 0), none, none]) hR (dc dt_X0_sortClause 8 rfl) (by decide) rfl rfl ?_
    refine lp_L0_sortClause_15 hR hT q1 (fun h => ?_) (fun h => ?_) FU 0 (rg_c rfl) h
    · show Go 69 [some (.ref (ad 31)), some (iv v1), none, none, none] [] m
      refine r_iconst (pc := 69) hR (dc dt_X0_sortClause 38 rfl) ?_
      refine r_istore_n (pc := 70) (L' := [some (.ref (ad 31)), some (iv v1), some (iv 0), none, none]) hR (dc dt_X0_sortClause 39 rfl) (by decide) rfl rfl ?_
      refine lp_L0_sortClause_71 hR hT q1 FU 0 m (rg_c rfl) h
    · show Go 42 [some (.ref (ad 31)), some (iv v1), none, none, none] [] m
      refine r_aload_n (pc := 42) hR (dc dt_X0_sortClause 23 rfl) rfl ?_
      refine r_getr (pc := 43) (k2 := 49) hR (dc dt_X0_sortClause 24 rfl) fl_X0_34 tc_31 rfl ?_
      refine r_aload_n (pc := 46) hR (dc dt_X0_sortClause 25 rfl) rfl ?_
      refine r_geti (pc := 47) hR (dc dt_X0_sortClause 26 rfl) fl_X0_118 tc_31 rfl ?_
      refine r_iload_n (pc := 50) hR (dc dt_X0_sortClause 27 rfl) rfl ?_
      obtain ⟨g1, h⟩ := gd_some h
      refine r_iast (pc := 51) hR (dc dt_X0_sortClause 28 rfl) tc_49 g1 (rd_in _ _ _) ?_
      replace h := stw_e h
      generalize wr m 49 (rd m 31 12) v1 = m51 at h ⊢
      refine r_aload_n (pc := 52) hR (dc dt_X0_sortClause 29 rfl) rfl ?_
      refine r_dup (pc := 53) hR (dc dt_X0_sortClause 30 rfl) rfl ?_
      refine r_geti (pc := 54) hR (dc dt_X0_sortClause 31 rfl) fl_X0_118 tc_31 rfl ?_
      refine r_iconst (pc := 57) hR (dc dt_X0_sortClause 32 rfl) ?_
      refine r_iadd (pc := 58) hR (dc dt_X0_sortClause 33 rfl) ?_
      refine r_puti (pc := 59) hR (dc dt_X0_sortClause 34 rfl) fl_X0_118 tc_31 rfl rfl rfl ?_
      replace h := stw_e h
      generalize wr m51 31 12 (w32 ((rd m51 31 12) + 1)) = m59 at h ⊢
      exact r_vret hT (dc dt_X0_sortClause 35 rfl) (Option.some.inj h)
  replace h := ite_f hc h
  exact r_vret hT (dc dt_X0_sortClause 6 rfl) (Option.some.inj h)
def tb_X0_entries : List (Nat × (Instr × Nat)) := [(0, (.iconst 0, 1)), (1, (.istore_n 2, 1)), (2, (.iconst 0, 1)), (3, (.istore_n 3, 1)), (4, (.iconst 0, 1)), (5, (.istore 4, 2)), (7, (.iload 4, 2)), (9, (.iconst 4, 1)), (10, (.if_icmp .ge 67, 3)), (13, (.iload 4, 2)), (15, (.ifCond .ne 14, 3)), (18, (.aload_n 0, 1)), (19, (.getfield 44, 3)), (22, (.iconst 1, 1)), (23, (.invokevirtual 51, 3)), (26, (.goto 22, 3)), (29, (.aload_n 0, 1)), (30, (.getfield 44, 3)), (33, (.iconst 0, 1)), (34, (.invokevirtual 51, 3)), (37, (.aload_n 0, 1)), (38, (.getfield 44, 3)), (41, (.iconst 2, 1)), (42, (.invokevirtual 51, 3)), (45, (.invokestatic 57, 3)), (48, (.istore 5, 2)), (50, (.iload_n 1, 1)), (51, (.iload 4, 2)), (53, (.ishr, 1)), (54, (.iconst 1, 1)), (55, (.iand, 1)), (56, (.ifCond .eq 15, 3)), (59, (.iload_n 2, 1)), (60, (.iload 5, 2)), (62, (.iadd, 1)), (63, (.istore_n 2, 1)), (64, (.iload_n 3, 1)), (65, (.iload 5, 2)), (67, (.invokestatic 71, 3)), (70, (.istore_n 3, 1)), (71, (.iinc 4 1, 3)), (74, (.goto (-67), 3)), (77, (.iload_n 2, 1)), (78, (.iload_n 3, 1)), (79, (.isub, 1)), (80, (.ireturn, 1))]
set_option maxRecDepth 100000 in
theorem dt_X0_entries : (tb_X0_entries.all fun q => decide (decode cX0_entries q.1 = .ok q.2)) = true := by decide +kernel
set_option maxRecDepth 100000 in
set_option maxHeartbeats 4000000 in
theorem lp_L0_entries_7 {Go : Nat → List (Option Value) → List Value → Mem → Prop} (hR : RS l G cy ad tt RX0 cX0_entries 6 2 Go) {out : Int} {m : Mem} (hT : RT cX0_entries (some (iv out)) (inR out) m (some .int) Go) {v1 : Int} (qv1 : inR v1) {k77 : Int → Int → Option Int} (hk77 : ∀ (v2 : Int) (v3 : Int), inR v2 → inR v3 → k77 v2 v3 = some out → Go 77 [none, none, some (iv v2), some (iv v3), none, none] [] m) : ∀ (n : Nat) (v2 : Int) (v3 : Int) (v4 : Int), inR v2 → inR v3 → inR v4 → L0_entries_7 m v1 k77 n v2 v3 v4 = some out → Go 7 [some (.ref (ad 31)), some (iv v1), some (iv v2), some (iv v3), some (iv v4), none] [] m := by
  intro n
  induction n with
  | zero =>
    intro v2 v3 v4 qv2 qv3 qv4 h
    cases h
  | succ n ih =>
    intro v2 v3 v4 qv2 qv3 qv4 h
    rw [L0_entries_7] at h
    refine r_iload (pc := 7) hR (dc dt_X0_entries 6 rfl) rfl ?_
    refine r_iconst (pc := 9) hR (dc dt_X0_entries 7 rfl) ?_
    refine r_icmp_ge (pc := 10) (tgt := 77) hR (dc dt_X0_entries 8 rfl) (by decide) qv4 (rg_c rfl) (fun hc => ?_) (fun hc => ?_)
    · replace h := ite_t hc h
      refine r_weak (L' := [none, none, some (iv v2), some (iv v3), none, none]) hR ⟨Or.inl rfl, Or.inl rfl, Or.inr rfl, Or.inr rfl, Or.inl rfl, Or.inr rfl, trivial⟩ ?_
      exact hk77 v2 v3 qv2 qv3 h
    replace h := ite_f hc h
    refine r_iload (pc := 13) hR (dc dt_X0_entries 9 rfl) rfl ?_
    refine jn_e h (fun (K : Int → Option Int) => ∀ (x48 : Int), inR x48 → K x48 = some out → Go 48 [some (.ref (ad 31)), some (iv v1), some (iv v2), some (iv v3), some (iv v4), none] [iv x48] m) (fun x48 qx48 h => ?_) (fun K48 J48 h => ?_)
    · refine r_istore (pc := 48) (L' := [some (.ref (ad 31)), some (iv v1), some (iv v2), some (iv v3), some (iv v4), some (iv x48)]) hR (dc dt_X0_entries 25 rfl) (by decide) rfl rfl ?_
      refine r_iload_n (pc := 50) hR (dc dt_X0_entries 26 rfl) rfl ?_
      refine r_iload (pc := 51) hR (dc dt_X0_entries 27 rfl) rfl ?_
      refine r_ishr (pc := 53) hR (dc dt_X0_entries 28 rfl) ?_
      refine r_iconst (pc := 54) hR (dc dt_X0_entries 29 rfl) ?_
      refine r_iand (pc := 55) hR (dc dt_X0_entries 30 rfl) ?_
      refine jn_e h (fun (K : Int → Int → Option Int) => ∀ (v2_71 : Int) (v3_71 : Int), inR v2_71 → inR v3_71 → K v2_71 v3_71 = some out → Go 71 [some (.ref (ad 31)), some (iv v1), some (iv v2_71), some (iv v3_71), some (iv v4), none] [] m) (fun v2_71 v3_71 qv2_71 qv3_71 h => ?_) (fun K71 J71 h => ?_)
      · refine r_iinc (pc := 71) (L' := [some (.ref (ad 31)), some (iv v1), some (iv v2_71), some (iv v3_71), some (iv (w32 (v4 + 1))), none]) hR (dc dt_X0_entries 40 rfl) rfl (by decide) rfl rfl ?_
        refine r_goto (pc := 74) (tgt := 7) hR (dc dt_X0_entries 41 rfl) (by decide) ?_
        exact ih v2_71 v3_71 (w32 (v4 + 1)) qv2_71 qv3_71 (w32_in _) h
      refine r_if_eq (pc := 56) (tgt := 71) hR (dc dt_X0_entries 31 rfl) (by decide) (ti_in _) (fun hc => ?_) (fun hc => ?_)
      · replace h := ite_t hc h
        refine r_weak (L' := [some (.ref (ad 31)), some (iv v1), some (iv v2), some (iv v3), some (iv v4), none]) hR ⟨Or.inr rfl, Or.inr rfl, Or.inr rfl, Or.inr rfl, Or.inr rfl, Or.inl rfl, trivial⟩ ?_
        exact J71 v2 v3 qv2 qv3 h
      replace h := ite_f hc h
      refine r_iload_n (pc := 59) hR (dc dt_X0_entries 32 rfl) rfl ?_
      refine r_iload (pc := 60) hR (dc dt_X0_entries 33 rfl) rfl ?_
      refine r_iadd (pc := 62) hR (dc dt_X0_entries 34 rfl) ?_
      refine r_istore_n (pc := 63) (L' := [some (.ref (ad 31)), some (iv v1), some (iv (w32 (v2 + x48))), some (iv v3), some (iv v4), some (iv x48)]) hR (dc dt_X0_entries 35 rfl) (by decide) rfl rfl ?_
      refine r_iload_n (pc := 64) hR (dc dt_X0_entries 36 rfl) rfl ?_
      refine r_iload (pc := 65) hR (dc dt_X0_entries 37 rfl) rfl ?_
      refine r_max (pc := 67) hR (dc dt_X0_entries 38 rfl) mw_X0_71 qv3 qx48 (Nat.le_of_ble_eq_true rfl) (by decide) ?_
      refine r_istore_n (pc := 70) (L' := [some (.ref (ad 31)), some (iv v1), some (iv (w32 (v2 + x48))), some (iv (imx v3 x48)), some (iv v4), some (iv x48)]) hR (dc dt_X0_entries 39 rfl) (by decide) rfl rfl ?_
      refine r_weak (L' := [some (.ref (ad 31)), some (iv v1), some (iv (w32 (v2 + x48))), some (iv (imx v3 x48)), some (iv v4), none]) hR ⟨Or.inr rfl, Or.inr rfl, Or.inr rfl, Or.inr rfl, Or.inr rfl, Or.inl rfl, trivial⟩ ?_
      exact J71 (w32 (v2 + x48)) (imx v3 x48) (w32_in _) (imx_in qv3 qx48) h
    refine r_if_ne (pc := 15) (tgt := 29) hR (dc dt_X0_entries 10 rfl) (by decide) qv4 (fun hc => ?_) (fun hc => ?_)
    · replace h := ite_t hc h
      refine r_aload_n (pc := 29) hR (dc dt_X0_entries 16 rfl) rfl ?_
      refine r_getr (pc := 30) (k2 := 4) hR (dc dt_X0_entries 17 rfl) fl_X0_44 tc_31 rfl ?_
      refine r_iconst (pc := 33) hR (dc dt_X0_entries 18 rfl) ?_
      obtain ⟨r34, e34, h⟩ := b1_some h
      refine r_callV (pc := 34) (rest := []) hR (dc dt_X0_entries 19 rfl) cl_X0_51 tc_4 rfl (ok_F1_costOf (rg_c rfl) e34) (by decide) rfl (Nat.le_of_ble_eq_true rfl) rfl (fun q34r => ?_)
      show Go 37 [some (.ref (ad 31)), some (iv v1), some (iv v2), some (iv v3), some (iv v4), none] [iv r34] m
      refine r_aload_n (pc := 37) hR (dc dt_X0_entries 20 rfl) rfl ?_
      refine r_getr (pc := 38) (k2 := 4) hR (dc dt_X0_entries 21 rfl) fl_X0_44 tc_31 rfl ?_
      refine r_iconst (pc := 41) hR (dc dt_X0_entries 22 rfl) ?_
      obtain ⟨r42, e42, h⟩ := b1_some h
      refine r_callV (pc := 42) (rest := [iv r34]) hR (dc dt_X0_entries 23 rfl) cl_X0_51 tc_4 rfl (ok_F1_costOf (rg_c rfl) e42) (by decide) rfl (Nat.le_of_ble_eq_true rfl) rfl (fun q42r => ?_)
      show Go 45 [some (.ref (ad 31)), some (iv v1), some (iv v2), some (iv v3), some (iv v4), none] [iv r42, iv r34] m
      refine r_min (pc := 45) hR (dc dt_X0_entries 24 rfl) mw_X0_57 q34r q42r (Nat.le_of_ble_eq_true rfl) (by decide) ?_
      exact J48 (imn r34 r42) (imn_in q34r q42r) h
    replace h := ite_f hc h
    refine r_aload_n (pc := 18) hR (dc dt_X0_entries 11 rfl) rfl ?_
    refine r_getr (pc := 19) (k2 := 4) hR (dc dt_X0_entries 12 rfl) fl_X0_44 tc_31 rfl ?_
    refine r_iconst (pc := 22) hR (dc dt_X0_entries 13 rfl) ?_
    obtain ⟨r23, e23, h⟩ := b1_some h
    refine r_callV (pc := 23) (rest := []) hR (dc dt_X0_entries 14 rfl) cl_X0_51 tc_4 rfl (ok_F1_costOf (rg_c rfl) e23) (by decide) rfl (Nat.le_of_ble_eq_true rfl) rfl (fun q23r => ?_)
    show Go 26 [some (.ref (ad 31)), some (iv v1), some (iv v2), some (iv v3), some (iv v4), none] [iv r23] m
    refine r_goto (pc := 26) (tgt := 48) hR (dc dt_X0_entries 15 rfl) (by decide) ?_
    exact J48 r23 q23r h
set_option maxRecDepth 100000 in
set_option maxHeartbeats 4000000 in
theorem ok_F0_entries {m : Mem}  {v1 : Int} (q1 : inR v1) {out : Int} (h : F0_entries m v1 = some out) : CT l G cy ad tt yX0_entries cX0_entries 6 (some .int) 2 [.ref (ad 31), iv v1] m (some (iv out)) (inR out) m := by
  refine CT_of (by decide) (Nat.le_of_ble_eq_true rfl) (fun Go hR hT => ?_)
  replace hR : RS l G cy ad tt RX0 cX0_entries 6 2 Go := hR
  show Go 0 [some (.ref (ad 31)), some (iv v1), none, none, none, none] [] m
  unfold F0_entries at h
  refine r_iconst (pc := 0) hR (dc dt_X0_entries 0 rfl) ?_
  refine r_istore_n (pc := 1) (L' := [some (.ref (ad 31)), some (iv v1), some (iv 0), none, none, none]) hR (dc dt_X0_entries 1 rfl) (by decide) rfl rfl ?_
  refine r_iconst (pc := 2) hR (dc dt_X0_entries 2 rfl) ?_
  refine r_istore_n (pc := 3) (L' := [some (.ref (ad 31)), some (iv v1), some (iv 0), some (iv 0), none, none]) hR (dc dt_X0_entries 3 rfl) (by decide) rfl rfl ?_
  refine r_iconst (pc := 4) hR (dc dt_X0_entries 4 rfl) ?_
  refine r_istore (pc := 5) (L' := [some (.ref (ad 31)), some (iv v1), some (iv 0), some (iv 0), some (iv 0), none]) hR (dc dt_X0_entries 5 rfl) (by decide) rfl rfl ?_
  refine lp_L0_entries_7 hR hT q1 (fun v2_77 v3_77 qv2_77 qv3_77 h => ?_) FU 0 0 0 (rg_c rfl) (rg_c rfl) (rg_c rfl) h
  show Go 77 [none, none, some (iv v2_77), some (iv v3_77), none, none] [] m
  refine r_iload_n (pc := 77) hR (dc dt_X0_entries 42 rfl) rfl ?_
  refine r_iload_n (pc := 78) hR (dc dt_X0_entries 43 rfl) rfl ?_
  refine r_isub (pc := 79) hR (dc dt_X0_entries 44 rfl) ?_
  exact r_iret hT (dc dt_X0_entries 45 rfl) (Option.some.inj h) rfl (w32_in _)
def tb_X0_prepare : List (Nat × (Instr × Nat)) := [(0, (.aload_n 0, 1)), (1, (.getfield 28, 3)), (4, (.aload_n 0, 1)), (5, (.getfield 48, 3)), (8, (.iconst 1, 1)), (9, (.isub, 1)), (10, (.iconst 1, 1)), (11, (.iastore, 1)), (12, (.aload_n 0, 1)), (13, (.getfield 48, 3)), (16, (.iconst 2, 1)), (17, (.isub, 1)), (18, (.istore_n 1, 1)), (19, (.iload_n 1, 1)), (20, (.ifCond .lt 28, 3)), (23, (.aload_n 0, 1)), (24, (.getfield 28, 3)), (27, (.iload_n 1, 1)), (28, (.aload_n 0, 1)), (29, (.getfield 28, 3)), (32, (.iload_n 1, 1)), (33, (.iconst 1, 1)), (34, (.iadd, 1)), (35, (.iaload, 1)), (36, (.aload_n 0, 1)), (37, (.getfield 48, 3)), (40, (.imul, 1)), (41, (.iastore, 1)), (42, (.iinc 1 (-1), 3)), (45, (.goto (-26), 3)), (48, (.aload_n 0, 1)), (49, (.getfield 12, 3)), (52, (.aload_n 0, 1)), (53, (.getfield 48, 3)), (56, (.putfield 97, 3)), (59, (.aload_n 0, 1)), (60, (.getfield 12, 3)), (63, (.aload_n 0, 1)), (64, (.getfield 44, 3)), (67, (.invokevirtual 100, 3)), (70, (.iconst 0, 1)), (71, (.istore_n 1, 1)), (72, (.iload_n 1, 1)), (73, (.aload_n 0, 1)), (74, (.getfield 48, 3)), (77, (.if_icmp .ge 55, 3)), (80, (.aload_n 0, 1)), (81, (.getfield 12, 3)), (84, (.getfield 104, 3)), (87, (.iload_n 1, 1)), (88, (.aload_n 0, 1)), (89, (.getfield 44, 3)), (92, (.getfield 107, 3)), (95, (.aload_n 0, 1)), (96, (.getfield 18, 3)), (99, (.iload_n 1, 1)), (100, (.iaload, 1)), (101, (.iaload, 1)), (102, (.iastore, 1)), (103, (.aload_n 0, 1)), (104, (.getfield 12, 3)), (107, (.getfield 108, 3)), (110, (.iload_n 1, 1)), (111, (.aload_n 0, 1)), (112, (.getfield 44, 3)), (115, (.getfield 111, 3)), (118, (.aload_n 0, 1)), (119, (.getfield 18, 3)), (122, (.iload_n 1, 1)), (123, (.iaload, 1)), (124, (.iaload, 1)), (125, (.iastore, 1)), (126, (.iinc 1 1, 3)), (129, (.goto (-57), 3)), (132, (.aload_n 0, 1)), (133, (.getfield 31, 3)), (136, (.iconst 0, 1)), (137, (.invokestatic 112, 3)), (140, (.aload_n 0, 1)), (141, (.iconst 0, 1)), (142, (.putfield 118, 3)), (145, (.iconst 0, 1)), (146, (.istore_n 1, 1)), (147, (.iload_n 1, 1)), (148, (.bipush 16, 2)), (150, (.if_icmp .ge 14, 3)), (153, (.aload_n 0, 1)), (154, (.iload_n 1, 1)), (155, (.invokevirtual 121, 3)), (158, (.iinc 1 1, 3)), (161, (.goto (-14), 3)), (164, (.aload_n 0, 1)), (165, (.getfield 37, 3)), (168, (.aload_n 0, 1)), (169, (.getfield 118, 3)), (172, (.iconst 0, 1)), (173, (.iastore, 1)), (174, (.aload_n 0, 1)), (175, (.getfield 118, 3)), (178, (.iconst 1, 1)), (179, (.isub, 1)), (180, (.istore_n 1, 1)), (181, (.iload_n 1, 1)), (182, (.ifCond .lt 38, 3)), (185, (.aload_n 0, 1)), (186, (.getfield 37, 3)), (189, (.iload_n 1, 1)), (190, (.aload_n 0, 1)), (191, (.getfield 37, 3)), (194, (.iload_n 1, 1)), (195, (.iconst 1, 1)), (196, (.iadd, 1)), (197, (.iaload, 1)), (198, (.aload_n 0, 1)), (199, (.aload_n 0, 1)), (200, (.aload_n 0, 1)), (201, (.getfield 34, 3)), (204, (.iload_n 1, 1)), (205, (.iaload, 1)), (206, (.invokevirtual 63, 3)), (209, (.invokevirtual 124, 3)), (212, (.iadd, 1)), (213, (.iastore, 1)), (214, (.iinc 1 (-1), 3)), (217, (.goto (-36), 3)), (220, (.return_, 1))]
set_option maxRecDepth 100000 in
theorem dt_X0_prepare : (tb_X0_prepare.all fun q => decide (decode cX0_prepare q.1 = .ok q.2)) = true := by decide +kernel
set_option maxRecDepth 100000 in
set_option maxHeartbeats 4000000 in
theorem lp_L0_prepare_19 {Go : Nat → List (Option Value) → List Value → Mem → Prop} (hR : RS l G cy ad tt RX0 cX0_prepare 2 4 Go) {out : Mem} (hT : RT cX0_prepare none True out none Go) {k48 : Mem → Option Mem} (hk48 : ∀ (m : Mem), k48 m = some out → Go 48 [some (.ref (ad 31)), none] [] m) : ∀ (n : Nat) (v1 : Int) (m : Mem), inR v1 → L0_prepare_19 k48 n v1 m = some out → Go 19 [some (.ref (ad 31)), some (iv v1)] [] m := by
  intro n
  induction n with
  | zero =>
    intro v1 m qv1 h
    cases h
  | succ n ih =>
    intro v1 m qv1 h
    rw [L0_prepare_19] at h
    refine r_iload_n (pc := 19) hR (dc dt_X0_prepare 13 rfl) rfl ?_
    refine r_if_lt (pc := 20) (tgt := 48) hR (dc dt_X0_prepare 14 rfl) (by decide) qv1 (fun hc => ?_) (fun hc => ?_)
    · replace h := ite_t hc h
      refine r_weak (L' := [some (.ref (ad 31)), none]) hR ⟨Or.inr rfl, Or.inl rfl, trivial⟩ ?_
      exact hk48 m h
    replace h := ite_f hc h
    refine r_aload_n (pc := 23) hR (dc dt_X0_prepare 15 rfl) rfl ?_
    refine r_getr (pc := 24) (k2 := 47) hR (dc dt_X0_prepare 16 rfl) fl_X0_28 tc_31 rfl ?_
    refine r_iload_n (pc := 27) hR (dc dt_X0_prepare 17 rfl) rfl ?_
    refine r_aload_n (pc := 28) hR (dc dt_X0_prepare 18 rfl) rfl ?_
    refine r_getr (pc := 29) (k2 := 47) hR (dc dt_X0_prepare 19 rfl) fl_X0_28 tc_31 rfl ?_
    refine r_iload_n (pc := 32) hR (dc dt_X0_prepare 20 rfl) rfl ?_
    refine r_iconst (pc := 33) hR (dc dt_X0_prepare 21 rfl) ?_
    refine r_iadd (pc := 34) hR (dc dt_X0_prepare 22 rfl) ?_
    obtain ⟨g1, h⟩ := gd_some h
    refine r_iald (pc := 35) hR (dc dt_X0_prepare 23 rfl) tc_47 g1 (w32_in _) ?_
    refine r_aload_n (pc := 36) hR (dc dt_X0_prepare 24 rfl) rfl ?_
    refine r_geti (pc := 37) hR (dc dt_X0_prepare 25 rfl) fl_X0_48 tc_31 rfl ?_
    refine r_imul (pc := 40) hR (dc dt_X0_prepare 26 rfl) ?_
    obtain ⟨g1, h⟩ := gd_some h
    refine r_iast (pc := 41) hR (dc dt_X0_prepare 27 rfl) tc_47 g1 qv1 ?_
    replace h := stw_e h
    generalize wr m 47 v1 (w32 ((rd m 47 (w32 (v1 + 1))) * (rd m 31 2))) = m41 at h ⊢
    refine r_iinc (pc := 42) (L' := [some (.ref (ad 31)), some (iv (w32 (v1 + (-1))))]) hR (dc dt_X0_prepare 28 rfl) rfl (by decide) rfl rfl ?_
    refine r_goto (pc := 45) (tgt := 19) hR (dc dt_X0_prepare 29 rfl) (by decide) ?_
    exact ih (w32 (v1 + (-1))) m41 (w32_in _) h
set_option maxRecDepth 100000 in
set_option maxHeartbeats 4000000 in
theorem lp_L0_prepare_72 {Go : Nat → List (Option Value) → List Value → Mem → Prop} (hR : RS l G cy ad tt RX0 cX0_prepare 2 4 Go) {out : Mem} (hT : RT cX0_prepare none True out none Go) {k132 : Mem → Option Mem} (hk132 : ∀ (m : Mem), k132 m = some out → Go 132 [some (.ref (ad 31)), none] [] m) : ∀ (n : Nat) (v1 : Int) (m : Mem), inR v1 → L0_prepare_72 k132 n v1 m = some out → Go 72 [some (.ref (ad 31)), some (iv v1)] [] m := by
  intro n
  induction n with
  | zero =>
    intro v1 m qv1 h
    cases h
  | succ n ih =>
    intro v1 m qv1 h
    rw [L0_prepare_72] at h
    refine r_iload_n (pc := 72) hR (dc dt_X0_prepare 42 rfl) rfl ?_
    refine r_aload_n (pc := 73) hR (dc dt_X0_prepare 43 rfl) rfl ?_
    refine r_geti (pc := 74) hR (dc dt_X0_prepare 44 rfl) fl_X0_48 tc_31 rfl ?_
    refine r_icmp_ge (pc := 77) (tgt := 132) hR (dc dt_X0_prepare 45 rfl) (by decide) qv1 (rd_in _ _ _) (fun hc => ?_) (fun hc => ?_)
    · replace h := ite_t hc h
      refine r_weak (L' := [some (.ref (ad 31)), none]) hR ⟨Or.inr rfl, Or.inl rfl, trivial⟩ ?_
      exact hk132 m h
    replace h := ite_f hc h
    refine r_aload_n (pc := 80) hR (dc dt_X0_prepare 46 rfl) rfl ?_
    refine r_getr (pc := 81) (k2 := 32) hR (dc dt_X0_prepare 47 rfl) fl_X0_12 tc_31 rfl ?_
    refine r_getr (pc := 84) (k2 := 34) hR (dc dt_X0_prepare 48 rfl) fl_X0_104 tc_32 rfl ?_
    refine r_iload_n (pc := 87) hR (dc dt_X0_prepare 49 rfl) rfl ?_
    refine r_aload_n (pc := 88) hR (dc dt_X0_prepare 50 rfl) rfl ?_
    refine r_getr (pc := 89) (k2 := 4) hR (dc dt_X0_prepare 51 rfl) fl_X0_44 tc_31 rfl ?_
    refine r_getr (pc := 92) (k2 := 5) hR (dc dt_X0_prepare 52 rfl) fl_X0_107 tc_4 rfl ?_
    refine r_aload_n (pc := 95) hR (dc dt_X0_prepare 53 rfl) rfl ?_
    refine r_getr (pc := 96) (k2 := 44) hR (dc dt_X0_prepare 54 rfl) fl_X0_18 tc_31 rfl ?_
    refine r_iload_n (pc := 99) hR (dc dt_X0_prepare 55 rfl) rfl ?_
    obtain ⟨g1, h⟩ := gd_some h
    refine r_iald (pc := 100) hR (dc dt_X0_prepare 56 rfl) tc_44 g1 qv1 ?_
    obtain ⟨g1, h⟩ := gd_some h
    refine r_iald (pc := 101) hR (dc dt_X0_prepare 57 rfl) tc_5 g1 (rd_in _ _ _) ?_
    obtain ⟨g1, h⟩ := gd_some h
    refine r_iast (pc := 102) hR (dc dt_X0_prepare 58 rfl) tc_34 g1 qv1 ?_
    replace h := stw_e h
    generalize wr m 34 v1 (rd m 5 (rd m 44 v1)) = m102 at h ⊢
    refine r_aload_n (pc := 103) hR (dc dt_X0_prepare 59 rfl) rfl ?_
    refine r_getr (pc := 104) (k2 := 32) hR (dc dt_X0_prepare 60 rfl) fl_X0_12 tc_31 rfl ?_
    refine r_getr (pc := 107) (k2 := 35) hR (dc dt_X0_prepare 61 rfl) fl_X0_108 tc_32 rfl ?_
    refine r_iload_n (pc := 110) hR (dc dt_X0_prepare 62 rfl) rfl ?_
    refine r_aload_n (pc := 111) hR (dc dt_X0_prepare 63 rfl) rfl ?_
    refine r_getr (pc := 112) (k2 := 4) hR (dc dt_X0_prepare 64 rfl) fl_X0_44 tc_31 rfl ?_
    refine r_getr (pc := 115) (k2 := 6) hR (dc dt_X0_prepare 65 rfl) fl_X0_111 tc_4 rfl ?_
    refine r_aload_n (pc := 118) hR (dc dt_X0_prepare 66 rfl) rfl ?_
    refine r_getr (pc := 119) (k2 := 44) hR (dc dt_X0_prepare 67 rfl) fl_X0_18 tc_31 rfl ?_
    refine r_iload_n (pc := 122) hR (dc dt_X0_prepare 68 rfl) rfl ?_
    obtain ⟨g1, h⟩ := gd_some h
    refine r_iald (pc := 123) hR (dc dt_X0_prepare 69 rfl) tc_44 g1 qv1 ?_
    obtain ⟨g1, h⟩ := gd_some h
    refine r_iald (pc := 124) hR (dc dt_X0_prepare 70 rfl) tc_6 g1 (rd_in _ _ _) ?_
    obtain ⟨g1, h⟩ := gd_some h
    refine r_iast (pc := 125) hR (dc dt_X0_prepare 71 rfl) tc_35 g1 qv1 ?_
    replace h := stw_e h
    generalize wr m102 35 v1 (rd m102 6 (rd m102 44 v1)) = m125 at h ⊢
    refine r_iinc (pc := 126) (L' := [some (.ref (ad 31)), some (iv (w32 (v1 + 1)))]) hR (dc dt_X0_prepare 72 rfl) rfl (by decide) rfl rfl ?_
    refine r_goto (pc := 129) (tgt := 72) hR (dc dt_X0_prepare 73 rfl) (by decide) ?_
    exact ih (w32 (v1 + 1)) m125 (w32_in _) h
set_option maxRecDepth 100000 in
set_option maxHeartbeats 4000000 in
theorem lp_L0_prepare_147 {Go : Nat → List (Option Value) → List Value → Mem → Prop} (hR : RS l G cy ad tt RX0 cX0_prepare 2 4 Go) {out : Mem} (hT : RT cX0_prepare none True out none Go) {k164 : Mem → Option Mem} (hk164 : ∀ (m : Mem), k164 m = some out → Go 164 [some (.ref (ad 31)), none] [] m) : ∀ (n : Nat) (v1 : Int) (m : Mem), inR v1 → L0_prepare_147 k164 n v1 m = some out → Go 147 [some (.ref (ad 31)), some (iv v1)] [] m := by
  intro n
  induction n with
  | zero =>
    intro v1 m qv1 h
    cases h
  | succ n ih =>
    intro v1 m qv1 h
    rw [L0_prepare_147] at h
    refine r_iload_n (pc := 147) hR (dc dt_X0_prepare 83 rfl) rfl ?_
    refine r_bipush (pc := 148) hR (dc dt_X0_prepare 84 rfl) (by decide) ?_
    refine r_icmp_ge (pc := 150) (tgt := 164) hR (dc dt_X0_prepare 85 rfl) (by decide) qv1 (rg_c rfl) (fun hc => ?_) (fun hc => ?_)
    · replace h := ite_t hc h
      refine r_weak (L' := [some (.ref (ad 31)), none]) hR ⟨Or.inr rfl, Or.inl rfl, trivial⟩ ?_
      exact hk164 m h
    replace h := ite_f hc h
    refine r_aload_n (pc := 153) hR (dc dt_X0_prepare 86 rfl) rfl ?_
    refine r_iload_n (pc := 154) hR (dc dt_X0_prepare 87 rfl) rfl ?_
    obtain ⟨m155, e155, h⟩ := b1_some h
    refine r_callV (pc := 155) (rest := []) hR (dc dt_X0_prepare 88 rfl) cl_X0_121 tc_31 rfl (ok_F0_sortClause qv1 e155) (by decide) rfl (Nat.le_of_ble_eq_true rfl) rfl (fun q155r => ?_)
    show Go 158 [some (.ref (ad 31)), some (iv v1)] [] m155
    refine r_iinc (pc := 158) (L' := [some (.ref (ad 31)), some (iv (w32 (v1 + 1)))]) hR (dc dt_X0_prepare 89 rfl) rfl (by decide) rfl rfl ?_
    refine r_goto (pc := 161) (tgt := 147) hR (dc dt_X0_prepare 90 rfl) (by decide) ?_
    exact ih (w32 (v1 + 1)) m155 (w32_in _) h
set_option maxRecDepth 100000 in
set_option maxHeartbeats 4000000 in
theorem lp_L0_prepare_181 {Go : Nat → List (Option Value) → List Value → Mem → Prop} (hR : RS l G cy ad tt RX0 cX0_prepare 2 4 Go) {out : Mem} (hT : RT cX0_prepare none True out none Go) : ∀ (n : Nat) (v1 : Int) (m : Mem), inR v1 → L0_prepare_181 n v1 m = some out → Go 181 [some (.ref (ad 31)), some (iv v1)] [] m := by
  intro n
  induction n with
  | zero =>
    intro v1 m qv1 h
    cases h
  | succ n ih =>
    intro v1 m qv1 h
    rw [L0_prepare_181] at h
    refine r_iload_n (pc := 181) hR (dc dt_X0_prepare 102 rfl) rfl ?_
    refine r_if_lt (pc := 182) (tgt := 220) hR (dc dt_X0_prepare 103 rfl) (by decide) qv1 (fun hc => ?_) (fun hc => ?_)
    · replace h := ite_t hc h
      exact r_vret hT (dc dt_X0_prepare 125 rfl) (Option.some.inj h)
    replace h := ite_f hc h
    refine r_aload_n (pc := 185) hR (dc dt_X0_prepare 104 rfl) rfl ?_
    refine r_getr (pc := 186) (k2 := 50) hR (dc dt_X0_prepare 105 rfl) fl_X0_37 tc_31 rfl ?_
    refine r_iload_n (pc := 189) hR (dc dt_X0_prepare 106 rfl) rfl ?_
    refine r_aload_n (pc := 190) hR (dc dt_X0_prepare 107 rfl) rfl ?_
    refine r_getr (pc := 191) (k2 := 50) hR (dc dt_X0_prepare 108 rfl) fl_X0_37 tc_31 rfl ?_
    refine r_iload_n (pc := 194) hR (dc dt_X0_prepare 109 rfl) rfl ?_
    refine r_iconst (pc := 195) hR (dc dt_X0_prepare 110 rfl) ?_
    refine r_iadd (pc := 196) hR (dc dt_X0_prepare 111 rfl) ?_
    obtain ⟨g1, h⟩ := gd_some h
    refine r_iald (pc := 197) hR (dc dt_X0_prepare 112 rfl) tc_50 g1 (w32_in _) ?_
    refine r_aload_n (pc := 198) hR (dc dt_X0_prepare 113 rfl) rfl ?_
    refine r_aload_n (pc := 199) hR (dc dt_X0_prepare 114 rfl) rfl ?_
    refine r_aload_n (pc := 200) hR (dc dt_X0_prepare 115 rfl) rfl ?_
    refine r_getr (pc := 201) (k2 := 49) hR (dc dt_X0_prepare 116 rfl) fl_X0_34 tc_31 rfl ?_
    refine r_iload_n (pc := 204) hR (dc dt_X0_prepare 117 rfl) rfl ?_
    obtain ⟨g1, h⟩ := gd_some h
    refine r_iald (pc := 205) hR (dc dt_X0_prepare 118 rfl) tc_49 g1 qv1 ?_
    obtain ⟨r206, e206, h⟩ := b1_some h
    refine r_callV (pc := 206) (rest := [.ref (ad 31), iv (rd m 50 (w32 (v1 + 1))), iv v1, .ref (ad 50)]) hR (dc dt_X0_prepare 119 rfl) cl_X0_63 tc_31 rfl (ok_F0_toldForms (rd_in _ _ _) e206) (by decide) rfl (Nat.le_of_ble_eq_true rfl) rfl (fun q206r => ?_)
    show Go 209 [some (.ref (ad 31)), some (iv v1)] [iv r206, .ref (ad 31), iv (rd m 50 (w32 (v1 + 1))), iv v1, .ref (ad 50)] m
    obtain ⟨r209, e209, h⟩ := b1_some h
    refine r_callV (pc := 209) (rest := [iv (rd m 50 (w32 (v1 + 1))), iv v1, .ref (ad 50)]) hR (dc dt_X0_prepare 120 rfl) cl_X0_124 tc_31 rfl (ok_F0_entries q206r e209) (by decide) rfl (Nat.le_of_ble_eq_true rfl) rfl (fun q209r => ?_)
    show Go 212 [some (.ref (ad 31)), some (iv v1)] [iv r209, iv (rd m 50 (w32 (v1 + 1))), iv v1, .ref (ad 50)] m
    refine r_iadd (pc := 212) hR (dc dt_X0_prepare 121 rfl) ?_
    obtain ⟨g1, h⟩ := gd_some h
    refine r_iast (pc := 213) hR (dc dt_X0_prepare 122 rfl) tc_50 g1 qv1 ?_
    replace h := stw_e h
    generalize wr m 50 v1 (w32 ((rd m 50 (w32 (v1 + 1))) + r209)) = m213 at h ⊢
    refine r_iinc (pc := 214) (L' := [some (.ref (ad 31)), some (iv (w32 (v1 + (-1))))]) hR (dc dt_X0_prepare 123 rfl) rfl (by decide) rfl rfl ?_
    refine r_goto (pc := 217) (tgt := 181) hR (dc dt_X0_prepare 124 rfl) (by decide) ?_
    exact ih (w32 (v1 + (-1))) m213 (w32_in _) h
set_option maxRecDepth 100000 in
set_option maxHeartbeats 4000000 in
theorem ok_F0_prepare {m : Mem}   {out : Mem} (h : F0_prepare m = some out) : CT l G cy ad tt yX0_prepare cX0_prepare 2 none 4 [.ref (ad 31)] m none True out := by
  refine CT_of (by decide) (Nat.le_of_ble_eq_true rfl) (fun Go hR hT => ?_)
  replace hR : RS l G cy ad tt RX0 cX0_prepare 2 4 Go := hR
  show Go 0 [some (.ref (ad 31)), none] [] m
  unfold F0_prepare at h
  refine r_aload_n (pc := 0) hR (dc dt_X0_prepare 0 rfl) rfl ?_
  refine r_getr (pc := 1) (k2 := 47) hR (dc dt_X0_prepare 1 rfl) fl_X0_28 tc_31 rfl ?_
  refine r_aload_n (pc := 4) hR (dc dt_X0_prepare 2 rfl) rfl ?_
  refine r_geti (pc := 5) hR (dc dt_X0_prepare 3 rfl) fl_X0_48 tc_31 rfl ?_
  refine r_iconst (pc := 8) hR (dc dt_X0_prepare 4 rfl) ?_
  refine r_isub (pc := 9) hR (dc dt_X0_prepare 5 rfl) ?_
  refine r_iconst (pc := 10) hR (dc dt_X0_prepare 6 rfl) ?_
  obtain ⟨g1, h⟩ := gd_some h
  refine r_iast (pc := 11) hR (dc dt_X0_prepare 7 rfl) tc_47 g1 (w32_in _) ?_
  replace h := stw_e h
  generalize wr m 47 (w32 ((rd m 31 2) - 1)) 1 = m11 at h ⊢
  refine r_aload_n (pc := 12) hR (dc dt_X0_prepare 8 rfl) rfl ?_
  refine r_geti (pc := 13) hR (dc dt_X0_prepare 9 rfl) fl_X0_48 tc_31 rfl ?_
  refine r_iconst (pc := 16) hR (dc dt_X0_prepare 10 rfl) ?_
  refine r_isub (pc := 17) hR (dc dt_X0_prepare 11 rfl) ?_
  refine r_istore_n (pc := 18) (L' := [some (.ref (ad 31)), some (iv (w32 ((rd m11 31 2) - 2)))]) hR (dc dt_X0_prepare 12 rfl) (by decide) rfl rfl ?_
  refine lp_L0_prepare_19 hR hT (fun m_48 h => ?_) FU (w32 ((rd m11 31 2) - 2)) m11 (w32_in _) h
  show Go 48 [some (.ref (ad 31)), none] [] m_48
  refine r_aload_n (pc := 48) hR (dc dt_X0_prepare 30 rfl) rfl ?_
  refine r_getr (pc := 49) (k2 := 32) hR (dc dt_X0_prepare 31 rfl) fl_X0_12 tc_31 rfl ?_
  refine r_aload_n (pc := 52) hR (dc dt_X0_prepare 32 rfl) rfl ?_
  refine r_geti (pc := 53) hR (dc dt_X0_prepare 33 rfl) fl_X0_48 tc_31 rfl ?_
  refine r_puti (pc := 56) hR (dc dt_X0_prepare 34 rfl) fl_X0_97 tc_32 rfl rfl rfl ?_
  replace h := stw_e h
  generalize wr m_48 32 0 (rd m_48 31 2) = m56 at h ⊢
  refine r_aload_n (pc := 59) hR (dc dt_X0_prepare 35 rfl) rfl ?_
  refine r_getr (pc := 60) (k2 := 32) hR (dc dt_X0_prepare 36 rfl) fl_X0_12 tc_31 rfl ?_
  refine r_aload_n (pc := 63) hR (dc dt_X0_prepare 37 rfl) rfl ?_
  refine r_getr (pc := 64) (k2 := 4) hR (dc dt_X0_prepare 38 rfl) fl_X0_44 tc_31 rfl ?_
  obtain ⟨m67, e67, h⟩ := b1_some h
  refine r_callV (pc := 67) (rest := []) hR (dc dt_X0_prepare 39 rfl) cl_X0_100 tc_32 rfl (ok_F9_takeCosts tr_c32 e67) (by decide) rfl (Nat.le_of_ble_eq_true rfl) rfl (fun q67r => ?_)
  show Go 70 [some (.ref (ad 31)), none] [] m67
  refine r_iconst (pc := 70) hR (dc dt_X0_prepare 40 rfl) ?_
  refine r_istore_n (pc := 71) (L' := [some (.ref (ad 31)), some (iv 0)]) hR (dc dt_X0_prepare 41 rfl) (by decide) rfl rfl ?_
  refine lp_L0_prepare_72 hR hT (fun m_132 h => ?_) FU 0 m67 (rg_c rfl) h
  show Go 132 [some (.ref (ad 31)), none] [] m_132
  refine r_aload_n (pc := 132) hR (dc dt_X0_prepare 74 rfl) rfl ?_
  refine r_getr (pc := 133) (k2 := 48) hR (dc dt_X0_prepare 75 rfl) fl_X0_31 tc_31 rfl ?_
  refine r_iconst (pc := 136) hR (dc dt_X0_prepare 76 rfl) ?_
  obtain ⟨m137, e137, h⟩ := b1_some h
  refine r_callS (pc := 137) (rest := []) hR (dc dt_X0_prepare 77 rfl) cl_X0_112 (ok_FJ7_fill_53178 tc_48 (by decide) (rg_c rfl) e137) (by decide) rfl (Nat.le_of_ble_eq_true rfl) rfl (fun q137r => ?_)
  show Go 140 [some (.ref (ad 31)), none] [] m137
  refine r_aload_n (pc := 140) hR (dc dt_X0_prepare 78 rfl) rfl ?_
  refine r_iconst (pc := 141) hR (dc dt_X0_prepare 79 rfl) ?_
  refine r_puti (pc := 142) hR (dc dt_X0_prepare 80 rfl) fl_X0_118 tc_31 rfl rfl rfl ?_
  replace h := stw_e h
  generalize wr m137 31 12 0 = m142 at h ⊢
  refine r_iconst (pc := 145) hR (dc dt_X0_prepare 81 rfl) ?_
  refine r_istore_n (pc := 146) (L' := [some (.ref (ad 31)), some (iv 0)]) hR (dc dt_X0_prepare 82 rfl) (by decide) rfl rfl ?_
  refine lp_L0_prepare_147 hR hT (fun m_164 h => ?_) FU 0 m142 (rg_c rfl) h
  show Go 164 [some (.ref (ad 31)), none] [] m_164
  refine r_aload_n (pc := 164) hR (dc dt_X0_prepare 91 rfl) rfl ?_
  refine r_getr (pc := 165) (k2 := 50) hR (dc dt_X0_prepare 92 rfl) fl_X0_37 tc_31 rfl ?_
  refine r_aload_n (pc := 168) hR (dc dt_X0_prepare 93 rfl) rfl ?_
  refine r_geti (pc := 169) hR (dc dt_X0_prepare 94 rfl) fl_X0_118 tc_31 rfl ?_
  refine r_iconst (pc := 172) hR (dc dt_X0_prepare 95 rfl) ?_
  obtain ⟨g1, h⟩ := gd_some h
  refine r_iast (pc := 173) hR (dc dt_X0_prepare 96 rfl) tc_50 g1 (rd_in _ _ _) ?_
  replace h := stw_e h
  generalize wr m_164 50 (rd m_164 31 12) 0 = m173 at h ⊢
  refine r_aload_n (pc := 174) hR (dc dt_X0_prepare 97 rfl) rfl ?_
  refine r_geti (pc := 175) hR (dc dt_X0_prepare 98 rfl) fl_X0_118 tc_31 rfl ?_
  refine r_iconst (pc := 178) hR (dc dt_X0_prepare 99 rfl) ?_
  refine r_isub (pc := 179) hR (dc dt_X0_prepare 100 rfl) ?_
  refine r_istore_n (pc := 180) (L' := [some (.ref (ad 31)), some (iv (w32 ((rd m173 31 12) - 1)))]) hR (dc dt_X0_prepare 101 rfl) (by decide) rfl rfl ?_
  refine lp_L0_prepare_181 hR hT FU (w32 ((rd m173 31 12) - 1)) m173 (w32_in _) h
def tb_X0_chosen : List (Nat × (Instr × Nat)) := [(0, (.iload_n 1, 1)), (1, (.iconst 1, 1)), (2, (.aload_n 0, 1)), (3, (.getfield 28, 3)), (6, (.iload_n 2, 1)), (7, (.iaload, 1)), (8, (.invokestatic 71, 3)), (11, (.idiv, 1)), (12, (.iconst 1, 1)), (13, (.aload_n 0, 1)), (14, (.getfield 48, 3)), (17, (.invokestatic 71, 3)), (20, (.irem, 1)), (21, (.istore_n 3, 1)), (22, (.iload_n 3, 1)), (23, (.aload_n 0, 1)), (24, (.getfield 48, 3)), (27, (.iconst 1, 1)), (28, (.isub, 1)), (29, (.if_icmp .ne 6, 3)), (32, (.bipush 9, 2)), (34, (.ireturn, 1)), (35, (.iload_n 3, 1)), (36, (.iload_n 2, 1)), (37, (.if_icmp .ge 7, 3)), (40, (.iload_n 3, 1)), (41, (.goto 6, 3)), (44, (.iload_n 3, 1)), (45, (.iconst 1, 1)), (46, (.iadd, 1)), (47, (.ireturn, 1))]
set_option maxRecDepth 100000 in
theorem dt_X0_chosen : (tb_X0_chosen.all fun q => decide (decode cX0_chosen q.1 = .ok q.2)) = true := by decide +kernel
set_option maxRecDepth 100000 in
set_option maxHeartbeats 4000000 in
theorem ok_F0_chosen {m : Mem}  {v1 v2 : Int} (q1 : inR v1) (q2 : inR v2) {out : Int} (h : F0_chosen m v1 v2 = some out) : CT l G cy ad tt yX0_chosen cX0_chosen 4 (some .int) 1 [.ref (ad 31), iv v1, iv v2] m (some (iv out)) (inR out) m := by
  refine CT_of (by decide) (Nat.le_of_ble_eq_true rfl) (fun Go hR hT => ?_)
  replace hR : RS l G cy ad tt RX0 cX0_chosen 4 1 Go := hR
  show Go 0 [some (.ref (ad 31)), some (iv v1), some (iv v2), none] [] m
  unfold F0_chosen at h
  refine r_iload_n (pc := 0) hR (dc dt_X0_chosen 0 rfl) rfl ?_
  refine r_iconst (pc := 1) hR (dc dt_X0_chosen 1 rfl) ?_
  refine r_aload_n (pc := 2) hR (dc dt_X0_chosen 2 rfl) rfl ?_
  refine r_getr (pc := 3) (k2 := 47) hR (dc dt_X0_chosen 3 rfl) fl_X0_28 tc_31 rfl ?_
  refine r_iload_n (pc := 6) hR (dc dt_X0_chosen 4 rfl) rfl ?_
  obtain ⟨g1, h⟩ := gd_some h
  refine r_iald (pc := 7) hR (dc dt_X0_chosen 5 rfl) tc_47 g1 q2 ?_
  refine r_max (pc := 8) hR (dc dt_X0_chosen 6 rfl) mw_X0_71 (rg_c rfl) (rd_in _ _ _) (Nat.le_of_ble_eq_true rfl) (by decide) ?_
  obtain ⟨g1, h⟩ := gd_some h
  refine r_idiv (pc := 11) hR (dc dt_X0_chosen 7 rfl) g1 (imx_in (rg_c rfl) (rd_in _ _ _)) ?_
  refine r_iconst (pc := 12) hR (dc dt_X0_chosen 8 rfl) ?_
  refine r_aload_n (pc := 13) hR (dc dt_X0_chosen 9 rfl) rfl ?_
  refine r_geti (pc := 14) hR (dc dt_X0_chosen 10 rfl) fl_X0_48 tc_31 rfl ?_
  refine r_max (pc := 17) hR (dc dt_X0_chosen 11 rfl) mw_X0_71 (rg_c rfl) (rd_in _ _ _) (Nat.le_of_ble_eq_true rfl) (by decide) ?_
  obtain ⟨g1, h⟩ := gd_some h
  refine r_irem (pc := 20) hR (dc dt_X0_chosen 12 rfl) g1 (imx_in (rg_c rfl) (rd_in _ _ _)) ?_
  refine r_istore_n (pc := 21) (L' := [some (.ref (ad 31)), some (iv v1), some (iv v2), some (iv (irm (idv v1 (imx 1 (rd m 47 v2))) (imx 1 (rd m 31 2))))]) hR (dc dt_X0_chosen 13 rfl) (by decide) rfl rfl ?_
  refine r_iload_n (pc := 22) hR (dc dt_X0_chosen 14 rfl) rfl ?_
  refine r_aload_n (pc := 23) hR (dc dt_X0_chosen 15 rfl) rfl ?_
  refine r_geti (pc := 24) hR (dc dt_X0_chosen 16 rfl) fl_X0_48 tc_31 rfl ?_
  refine r_iconst (pc := 27) hR (dc dt_X0_chosen 17 rfl) ?_
  refine r_isub (pc := 28) hR (dc dt_X0_chosen 18 rfl) ?_
  refine r_icmp_ne (pc := 29) (tgt := 35) hR (dc dt_X0_chosen 19 rfl) (by decide) (ti_in _) (w32_in _) (fun hc => ?_) (fun hc => ?_)
  · replace h := ite_t hc h
    refine r_iload_n (pc := 35) hR (dc dt_X0_chosen 22 rfl) rfl ?_
    refine r_iload_n (pc := 36) hR (dc dt_X0_chosen 23 rfl) rfl ?_
    refine r_icmp_ge (pc := 37) (tgt := 44) hR (dc dt_X0_chosen 24 rfl) (by decide) (ti_in _) q2 (fun hc => ?_) (fun hc => ?_)
    · replace h := ite_t hc h
      refine r_iload_n (pc := 44) hR (dc dt_X0_chosen 27 rfl) rfl ?_
      refine r_iconst (pc := 45) hR (dc dt_X0_chosen 28 rfl) ?_
      refine r_iadd (pc := 46) hR (dc dt_X0_chosen 29 rfl) ?_
      exact r_iret hT (dc dt_X0_chosen 30 rfl) (Option.some.inj h) rfl (w32_in _)
    replace h := ite_f hc h
    refine r_iload_n (pc := 40) hR (dc dt_X0_chosen 25 rfl) rfl ?_
    refine r_goto (pc := 41) (tgt := 47) hR (dc dt_X0_chosen 26 rfl) (by decide) ?_
    exact r_iret hT (dc dt_X0_chosen 30 rfl) (Option.some.inj h) rfl (ti_in _)
  replace h := ite_f hc h
  refine r_bipush (pc := 32) hR (dc dt_X0_chosen 20 rfl) (by decide) ?_
  exact r_iret hT (dc dt_X0_chosen 21 rfl) (Option.some.inj h) rfl (rg_c rfl)
def tb_X0_closesRing : List (Nat × (Instr × Nat)) := [(0, (.aload_n 0, 1)), (1, (.getfield 12, 3)), (4, (.getfield 136, 3)), (7, (.iload_n 1, 1)), (8, (.iaload, 1)), (9, (.istore_n 2, 1)), (10, (.iconst 0, 1)), (11, (.istore_n 3, 1)), (12, (.iload_n 3, 1)), (13, (.aload_n 0, 1)), (14, (.getfield 48, 3)), (17, (.if_icmp .ge 28, 3)), (20, (.iload_n 2, 1)), (21, (.ifCond .lt 24, 3)), (24, (.iload_n 2, 1)), (25, (.iload_n 1, 1)), (26, (.if_icmp .ge 19, 3)), (29, (.aload_n 0, 1)), (30, (.getfield 12, 3)), (33, (.getfield 136, 3)), (36, (.iload_n 2, 1)), (37, (.iaload, 1)), (38, (.istore_n 2, 1)), (39, (.iinc 3 1, 3)), (42, (.goto (-30), 3)), (45, (.iload_n 2, 1)), (46, (.iload_n 1, 1)), (47, (.if_icmp .ne 7, 3)), (50, (.iconst 1, 1)), (51, (.goto 4, 3)), (54, (.iconst 0, 1)), (55, (.ireturn, 1))]
set_option maxRecDepth 100000 in
theorem dt_X0_closesRing : (tb_X0_closesRing.all fun q => decide (decode cX0_closesRing q.1 = .ok q.2)) = true := by decide +kernel
set_option maxRecDepth 100000 in
set_option maxHeartbeats 4000000 in
theorem lp_L0_closesRing_12 {Go : Nat → List (Option Value) → List Value → Mem → Prop} (hR : RS l G cy ad tt RX0 cX0_closesRing 4 0 Go) {out : Int} {m : Mem} (hT : RT cX0_closesRing (some (iv out)) (inZ out) m (some .boolean) Go) {v1 : Int} (qv1 : inR v1) {k45 : Int → Option Int} (hk45 : ∀ (v2 : Int), inR v2 → k45 v2 = some out → Go 45 [none, some (iv v1), some (iv v2), none] [] m) : ∀ (n : Nat) (v2 : Int) (v3 : Int), inR v2 → inR v3 → L0_closesRing_12 m v1 k45 n v2 v3 = some out → Go 12 [some (.ref (ad 31)), some (iv v1), some (iv v2), some (iv v3)] [] m := by
  intro n
  induction n with
  | zero =>
    intro v2 v3 qv2 qv3 h
    cases h
  | succ n ih =>
    intro v2 v3 qv2 qv3 h
    rw [L0_closesRing_12] at h
    refine r_iload_n (pc := 12) hR (dc dt_X0_closesRing 8 rfl) rfl ?_
    refine r_aload_n (pc := 13) hR (dc dt_X0_closesRing 9 rfl) rfl ?_
    refine r_geti (pc := 14) hR (dc dt_X0_closesRing 10 rfl) fl_X0_48 tc_31 rfl ?_
    refine r_icmp_ge (pc := 17) (tgt := 45) hR (dc dt_X0_closesRing 11 rfl) (by decide) qv3 (rd_in _ _ _) (fun hc => ?_) (fun hc => ?_)
    · replace h := ite_t hc h
      refine r_weak (L' := [none, some (iv v1), some (iv v2), none]) hR ⟨Or.inl rfl, Or.inr rfl, Or.inr rfl, Or.inl rfl, trivial⟩ ?_
      exact hk45 v2 qv2 h
    replace h := ite_f hc h
    refine r_iload_n (pc := 20) hR (dc dt_X0_closesRing 12 rfl) rfl ?_
    refine r_if_lt (pc := 21) (tgt := 45) hR (dc dt_X0_closesRing 13 rfl) (by decide) qv2 (fun hc => ?_) (fun hc => ?_)
    · replace h := ite_t hc h
      refine r_weak (L' := [none, some (iv v1), some (iv v2), none]) hR ⟨Or.inl rfl, Or.inr rfl, Or.inr rfl, Or.inl rfl, trivial⟩ ?_
      exact hk45 v2 qv2 h
    replace h := ite_f hc h
    refine r_iload_n (pc := 24) hR (dc dt_X0_closesRing 14 rfl) rfl ?_
    refine r_iload_n (pc := 25) hR (dc dt_X0_closesRing 15 rfl) rfl ?_
    refine r_icmp_ge (pc := 26) (tgt := 45) hR (dc dt_X0_closesRing 16 rfl) (by decide) qv2 qv1 (fun hc => ?_) (fun hc => ?_)
    · replace h := ite_t hc h
      refine r_weak (L' := [none, some (iv v1), some (iv v2), none]) hR ⟨Or.inl rfl, Or.inr rfl, Or.inr rfl, Or.inl rfl, trivial⟩ ?_
      exact hk45 v2 qv2 h
    replace h := ite_f hc h
    refine r_aload_n (pc := 29) hR (dc dt_X0_closesRing 17 rfl) rfl ?_
    refine r_getr (pc := 30) (k2 := 32) hR (dc dt_X0_closesRing 18 rfl) fl_X0_12 tc_31 rfl ?_
    refine r_getr (pc := 33) (k2 := 33) hR (dc dt_X0_closesRing 19 rfl) fl_X0_136 tc_32 rfl ?_
    refine r_iload_n (pc := 36) hR (dc dt_X0_closesRing 20 rfl) rfl ?_
    obtain ⟨g1, h⟩ := gd_some h
    refine r_iald (pc := 37) hR (dc dt_X0_closesRing 21 rfl) tc_33 g1 qv2 ?_
    refine r_istore_n (pc := 38) (L' := [some (.ref (ad 31)), some (iv v1), some (iv (rd m 33 v2)), some (iv v3)]) hR (dc dt_X0_closesRing 22 rfl) (by decide) rfl rfl ?_
    refine r_iinc (pc := 39) (L' := [some (.ref (ad 31)), some (iv v1), some (iv (rd m 33 v2)), some (iv (w32 (v3 + 1)))]) hR (dc dt_X0_closesRing 23 rfl) rfl (by decide) rfl rfl ?_
    refine r_goto (pc := 42) (tgt := 12) hR (dc dt_X0_closesRing 24 rfl) (by decide) ?_
    exact ih (rd m 33 v2) (w32 (v3 + 1)) (rd_in _ _ _) (w32_in _) h
set_option maxRecDepth 100000 in
set_option maxHeartbeats 4000000 in
theorem ok_F0_closesRing {m : Mem}  {v1 : Int} (q1 : inR v1) {out : Int} (h : F0_closesRing m v1 = some out) : CT l G cy ad tt yX0_closesRing cX0_closesRing 4 (some .boolean) 0 [.ref (ad 31), iv v1] m (some (iv out)) (inZ out) m := by
  refine CT_of (by decide) (Nat.le_of_ble_eq_true rfl) (fun Go hR hT => ?_)
  replace hR : RS l G cy ad tt RX0 cX0_closesRing 4 0 Go := hR
  show Go 0 [some (.ref (ad 31)), some (iv v1), none, none] [] m
  unfold F0_closesRing at h
  refine r_aload_n (pc := 0) hR (dc dt_X0_closesRing 0 rfl) rfl ?_
  refine r_getr (pc := 1) (k2 := 32) hR (dc dt_X0_closesRing 1 rfl) fl_X0_12 tc_31 rfl ?_
  refine r_getr (pc := 4) (k2 := 33) hR (dc dt_X0_closesRing 2 rfl) fl_X0_136 tc_32 rfl ?_
  refine r_iload_n (pc := 7) hR (dc dt_X0_closesRing 3 rfl) rfl ?_
  obtain ⟨g1, h⟩ := gd_some h
  refine r_iald (pc := 8) hR (dc dt_X0_closesRing 4 rfl) tc_33 g1 q1 ?_
  refine r_istore_n (pc := 9) (L' := [some (.ref (ad 31)), some (iv v1), some (iv (rd m 33 v1)), none]) hR (dc dt_X0_closesRing 5 rfl) (by decide) rfl rfl ?_
  refine r_iconst (pc := 10) hR (dc dt_X0_closesRing 6 rfl) ?_
  refine r_istore_n (pc := 11) (L' := [some (.ref (ad 31)), some (iv v1), some (iv (rd m 33 v1)), some (iv 0)]) hR (dc dt_X0_closesRing 7 rfl) (by decide) rfl rfl ?_
  refine lp_L0_closesRing_12 hR hT q1 (fun v2_45 qv2_45 h => ?_) FU (rd m 33 v1) 0 (rd_in _ _ _) (rg_c rfl) h
  show Go 45 [none, some (iv v1), some (iv v2_45), none] [] m
  refine r_iload_n (pc := 45) hR (dc dt_X0_closesRing 25 rfl) rfl ?_
  refine r_iload_n (pc := 46) hR (dc dt_X0_closesRing 26 rfl) rfl ?_
  refine r_icmp_ne (pc := 47) (tgt := 54) hR (dc dt_X0_closesRing 27 rfl) (by decide) qv2_45 q1 (fun hc => ?_) (fun hc => ?_)
  · replace h := ite_t hc h
    refine r_iconst (pc := 54) hR (dc dt_X0_closesRing 30 rfl) ?_
    exact r_zret hT (dc dt_X0_closesRing 31 rfl) (Option.some.inj h) rfl (Or.inl rfl)
  replace h := ite_f hc h
  refine r_iconst (pc := 50) hR (dc dt_X0_closesRing 28 rfl) ?_
  refine r_goto (pc := 51) (tgt := 55) hR (dc dt_X0_closesRing 29 rfl) (by decide) ?_
  exact r_zret hT (dc dt_X0_closesRing 31 rfl) (Option.some.inj h) rfl (Or.inr rfl)
def tb_X0_grow : List (Nat × (Instr × Nat)) := [(0, (.iconst 0, 1)), (1, (.istore_n 2, 1)), (2, (.aload_n 0, 1)), (3, (.iconst 0, 1)), (4, (.putfield 130, 3)), (7, (.iconst 0, 1)), (8, (.istore_n 3, 1)), (9, (.iload_n 3, 1)), (10, (.aload_n 0, 1)), (11, (.getfield 48, 3)), (14, (.if_icmp .ge 149, 3)), (17, (.aload_n 0, 1)), (18, (.iload_n 1, 1)), (19, (.iload_n 3, 1)), (20, (.invokevirtual 133, 3)), (23, (.istore 4, 2)), (25, (.iload 4, 2)), (27, (.bipush 9, 2)), (29, (.if_icmp .ne 29, 3)), (32, (.aload_n 0, 1)), (33, (.getfield 12, 3)), (36, (.getfield 136, 3)), (39, (.iload_n 3, 1)), (40, (.iconst (-1), 1)), (41, (.iastore, 1)), (42, (.iload_n 2, 1)), (43, (.ifCond .eq 10, 3)), (46, (.aload_n 0, 1)), (47, (.getfield 28, 3)), (50, (.iload_n 3, 1)), (51, (.iaload, 1)), (52, (.ireturn, 1)), (53, (.iconst 1, 1)), (54, (.istore_n 2, 1)), (55, (.goto 102, 3)), (58, (.aload_n 0, 1)), (59, (.getfield 12, 3)), (62, (.getfield 136, 3)), (65, (.iload_n 3, 1)), (66, (.iload 4, 2)), (68, (.iastore, 1)), (69, (.aload_n 0, 1)), (70, (.dup, 1)), (71, (.getfield 130, 3)), (74, (.aload_n 0, 1)), (75, (.getfield 31, 3)), (78, (.iload 4, 2)), (80, (.bipush 6, 2)), (82, (.imul, 1)), (83, (.iload_n 3, 1)), (84, (.iadd, 1)), (85, (.iaload, 1)), (86, (.iadd, 1)), (87, (.putfield 130, 3)), (90, (.aload_n 0, 1)), (91, (.getfield 130, 3)), (94, (.aload_n 0, 1)), (95, (.getfield 37, 3)), (98, (.iconst 0, 1)), (99, (.iaload, 1)), (100, (.iadd, 1)), (101, (.aload_n 0, 1)), (102, (.getfield 84, 3)), (105, (.if_icmp .le 7, 3)), (108, (.iconst 1, 1)), (109, (.goto 4, 3)), (112, (.iconst 0, 1)), (113, (.istore 5, 2)), (115, (.iload 5, 2)), (117, (.ifCond .ne 33, 3)), (120, (.aload_n 0, 1)), (121, (.getfield 12, 3)), (124, (.getfield 104, 3)), (127, (.iload 4, 2)), (129, (.iaload, 1)), (130, (.aload_n 0, 1)), (131, (.getfield 12, 3)), (134, (.getfield 108, 3)), (137, (.iload_n 3, 1)), (138, (.iaload, 1)), (139, (.if_icmp .ge 11, 3)), (142, (.aload_n 0, 1)), (143, (.iload_n 3, 1)), (144, (.invokevirtual 139, 3)), (147, (.ifCond .eq 10, 3)), (150, (.aload_n 0, 1)), (151, (.getfield 28, 3)), (154, (.iload_n 3, 1)), (155, (.iaload, 1)), (156, (.ireturn, 1)), (157, (.iinc 3 1, 3)), (160, (.goto (-151), 3)), (163, (.iload_n 2, 1)), (164, (.ifCond .eq 7, 3)), (167, (.iconst 0, 1)), (168, (.goto 4, 3)), (171, (.iconst 1, 1)), (172, (.ireturn, 1))]
set_option maxRecDepth 100000 in
theorem dt_X0_grow : (tb_X0_grow.all fun q => decide (decode cX0_grow q.1 = .ok q.2)) = true := by decide +kernel
set_option maxRecDepth 100000 in
set_option maxHeartbeats 4000000 in
theorem lp_L0_grow_9 {Go : Nat → List (Option Value) → List Value → Mem → Prop} (hR : RS l G cy ad tt RX0 cX0_grow 6 2 Go) {out : Int × Mem} (hT : RT cX0_grow (some (iv out.1)) (inR out.1) out.2 (some .int) Go) {v1 : Int} (qv1 : inR v1) {k163 : Int → Mem → Option (Int × Mem)} {k46 : Int → Mem → Option (Int × Mem)} {k150 : Int → Mem → Option (Int × Mem)} (hk163 : ∀ (v2 : Int) (m : Mem), inR v2 → k163 v2 m = some out → Go 163 [none, none, some (iv v2), none, none, none] [] m) (hk46 : ∀ (v3 : Int) (m : Mem), inR v3 → k46 v3 m = some out → Go 46 [some (.ref (ad 31)), none, none, some (iv v3), none, none] [] m) (hk150 : ∀ (v3 : Int) (m : Mem), inR v3 → k150 v3 m = some out → Go 150 [some (.ref (ad 31)), none, none, some (iv v3), none, none] [] m) : ∀ (n : Nat) (v2 : Int) (v3 : Int) (m : Mem), inR v2 → inR v3 → L0_grow_9 v1 k163 k46 k150 n v2 v3 m = some out → Go 9 [some (.ref (ad 31)), some (iv v1), some (iv v2), some (iv v3), none, none] [] m := by
  intro n
  induction n with
  | zero =>
    intro v2 v3 m qv2 qv3 h
    cases h
  | succ n ih =>
    intro v2 v3 m qv2 qv3 h
    rw [L0_grow_9] at h
    refine r_iload_n (pc := 9) hR (dc dt_X0_grow 7 rfl) rfl ?_
    refine r_aload_n (pc := 10) hR (dc dt_X0_grow 8 rfl) rfl ?_
    refine r_geti (pc := 11) hR (dc dt_X0_grow 9 rfl) fl_X0_48 tc_31 rfl ?_
    refine r_icmp_ge (pc := 14) (tgt := 163) hR (dc dt_X0_grow 10 rfl) (by decide) qv3 (rd_in _ _ _) (fun hc => ?_) (fun hc => ?_)
    · replace h := ite_t hc h
      refine r_weak (L' := [none, none, some (iv v2), none, none, none]) hR ⟨Or.inl rfl, Or.inl rfl, Or.inr rfl, Or.inl rfl, Or.inr rfl, Or.inr rfl, trivial⟩ ?_
      exact hk163 v2 m qv2 h
    replace h := ite_f hc h
    refine r_aload_n (pc := 17) hR (dc dt_X0_grow 11 rfl) rfl ?_
    refine r_iload_n (pc := 18) hR (dc dt_X0_grow 12 rfl) rfl ?_
    refine r_iload_n (pc := 19) hR (dc dt_X0_grow 13 rfl) rfl ?_
    obtain ⟨r20, e20, h⟩ := b1_some h
    refine r_callV (pc := 20) (rest := []) hR (dc dt_X0_grow 14 rfl) cl_X0_133 tc_31 rfl (ok_F0_chosen qv1 qv3 e20) (by decide) rfl (Nat.le_of_ble_eq_true rfl) rfl (fun q20r => ?_)
    show Go 23 [some (.ref (ad 31)), some (iv v1), some (iv v2), some (iv v3), none, none] [iv r20] m
    refine r_istore (pc := 23) (L' := [some (.ref (ad 31)), some (iv v1), some (iv v2), some (iv v3), some (iv r20), none]) hR (dc dt_X0_grow 15 rfl) (by decide) rfl rfl ?_
    refine r_iload (pc := 25) hR (dc dt_X0_grow 16 rfl) rfl ?_
    refine r_bipush (pc := 27) hR (dc dt_X0_grow 17 rfl) (by decide) ?_
    refine jn_e h (fun (K : Int → Mem → Option (Int × Mem)) => ∀ (v2_157 : Int) (m_157 : Mem), inR v2_157 → K v2_157 m_157 = some out → Go 157 [some (.ref (ad 31)), some (iv v1), some (iv v2_157), some (iv v3), none, none] [] m_157) (fun v2_157 m_157 qv2_157 h => ?_) (fun K157 J157 h => ?_)
    · refine r_iinc (pc := 157) (L' := [some (.ref (ad 31)), some (iv v1), some (iv v2_157), some (iv (w32 (v3 + 1))), none, none]) hR (dc dt_X0_grow 90 rfl) rfl (by decide) rfl rfl ?_
      refine r_goto (pc := 160) (tgt := 9) hR (dc dt_X0_grow 91 rfl) (by decide) ?_
      exact ih v2_157 (w32 (v3 + 1)) m_157 qv2_157 (w32_in _) h
    refine r_icmp_ne (pc := 29) (tgt := 58) hR (dc dt_X0_grow 18 rfl) (by decide) q20r (rg_c rfl) (fun hc => ?_) (fun hc => ?_)
    · replace h := ite_t hc h
      refine r_aload_n (pc := 58) hR (dc dt_X0_grow 35 rfl) rfl ?_
      refine r_getr (pc := 59) (k2 := 32) hR (dc dt_X0_grow 36 rfl) fl_X0_12 tc_31 rfl ?_
      refine r_getr (pc := 62) (k2 := 33) hR (dc dt_X0_grow 37 rfl) fl_X0_136 tc_32 rfl ?_
      refine r_iload_n (pc := 65) hR (dc dt_X0_grow 38 rfl) rfl ?_
      refine r_iload (pc := 66) hR (dc dt_X0_grow 39 rfl) rfl ?_
      obtain ⟨g1, h⟩ := gd_some h
      refine r_iast (pc := 68) hR (dc dt_X0_grow 40 rfl) tc_33 g1 qv3 ?_
      replace h := stw_e h
      generalize wr m 33 v3 r20 = m68 at h ⊢
      refine r_aload_n (pc := 69) hR (dc dt_X0_grow 41 rfl) rfl ?_
      refine r_dup (pc := 70) hR (dc dt_X0_grow 42 rfl) rfl ?_
      refine r_geti (pc := 71) hR (dc dt_X0_grow 43 rfl) fl_X0_130 tc_31 rfl ?_
      refine r_aload_n (pc := 74) hR (dc dt_X0_grow 44 rfl) rfl ?_
      refine r_getr (pc := 75) (k2 := 48) hR (dc dt_X0_grow 45 rfl) fl_X0_31 tc_31 rfl ?_
      refine r_iload (pc := 78) hR (dc dt_X0_grow 46 rfl) rfl ?_
      refine r_bipush (pc := 80) hR (dc dt_X0_grow 47 rfl) (by decide) ?_
      refine r_imul (pc := 82) hR (dc dt_X0_grow 48 rfl) ?_
      refine r_iload_n (pc := 83) hR (dc dt_X0_grow 49 rfl) rfl ?_
      refine r_iadd (pc := 84) hR (dc dt_X0_grow 50 rfl) ?_
      obtain ⟨g1, h⟩ := gd_some h
      refine r_iald (pc := 85) hR (dc dt_X0_grow 51 rfl) tc_48 g1 (w32_in _) ?_
      refine r_iadd (pc := 86) hR (dc dt_X0_grow 52 rfl) ?_
      refine r_puti (pc := 87) hR (dc dt_X0_grow 53 rfl) fl_X0_130 tc_31 rfl rfl rfl ?_
      replace h := stw_e h
      generalize wr m68 31 13 (w32 ((rd m68 31 13) + (rd m68 48 (w32 ((w32 (r20 * 6)) + v3))))) = m87 at h ⊢
      refine r_aload_n (pc := 90) hR (dc dt_X0_grow 54 rfl) rfl ?_
      refine r_geti (pc := 91) hR (dc dt_X0_grow 55 rfl) fl_X0_130 tc_31 rfl ?_
      refine r_aload_n (pc := 94) hR (dc dt_X0_grow 56 rfl) rfl ?_
      refine r_getr (pc := 95) (k2 := 50) hR (dc dt_X0_grow 57 rfl) fl_X0_37 tc_31 rfl ?_
      refine r_iconst (pc := 98) hR (dc dt_X0_grow 58 rfl) ?_
      obtain ⟨g1, h⟩ := gd_some h
      refine r_iald (pc := 99) hR (dc dt_X0_grow 59 rfl) tc_50 g1 (rg_c rfl) ?_
      refine r_iadd (pc := 100) hR (dc dt_X0_grow 60 rfl) ?_
      refine r_aload_n (pc := 101) hR (dc dt_X0_grow 61 rfl) rfl ?_
      refine r_geti (pc := 102) hR (dc dt_X0_grow 62 rfl) fl_X0_84 tc_31 rfl ?_
      refine jn_e h (fun (K : Int → Option (Int × Mem)) => ∀ (x113 : Int), inZ x113 → K x113 = some out → Go 113 [some (.ref (ad 31)), some (iv v1), some (iv v2), some (iv v3), some (iv r20), none] [iv x113] m87) (fun x113 qx113 h => ?_) (fun K113 J113 h => ?_)
      · refine r_istore (pc := 113) (L' := [some (.ref (ad 31)), some (iv v1), some (iv v2), some (iv v3), some (iv r20), some (iv x113)]) hR (dc dt_X0_grow 67 rfl) (by decide) rfl rfl ?_
        refine r_iload (pc := 115) hR (dc dt_X0_grow 68 rfl) rfl ?_
        refine r_if_ne (pc := 117) (tgt := 150) hR (dc dt_X0_grow 69 rfl) (by decide) (inZ_R qx113) (fun hc => ?_) (fun hc => ?_)
        · replace h := ite_t hc h
          refine r_weak (L' := [some (.ref (ad 31)), none, none, some (iv v3), none, none]) hR ⟨Or.inr rfl, Or.inl rfl, Or.inl rfl, Or.inr rfl, Or.inl rfl, Or.inl rfl, trivial⟩ ?_
          exact hk150 v3 m87 qv3 h
        replace h := ite_f hc h
        refine r_aload_n (pc := 120) hR (dc dt_X0_grow 70 rfl) rfl ?_
        refine r_getr (pc := 121) (k2 := 32) hR (dc dt_X0_grow 71 rfl) fl_X0_12 tc_31 rfl ?_
        refine r_getr (pc := 124) (k2 := 34) hR (dc dt_X0_grow 72 rfl) fl_X0_104 tc_32 rfl ?_
        refine r_iload (pc := 127) hR (dc dt_X0_grow 73 rfl) rfl ?_
        obtain ⟨g1, h⟩ := gd_some h
        refine r_iald (pc := 129) hR (dc dt_X0_grow 74 rfl) tc_34 g1 q20r ?_
        refine r_aload_n (pc := 130) hR (dc dt_X0_grow 75 rfl) rfl ?_
        refine r_getr (pc := 131) (k2 := 32) hR (dc dt_X0_grow 76 rfl) fl_X0_12 tc_31 rfl ?_
        refine r_getr (pc := 134) (k2 := 35) hR (dc dt_X0_grow 77 rfl) fl_X0_108 tc_32 rfl ?_
        refine r_iload_n (pc := 137) hR (dc dt_X0_grow 78 rfl) rfl ?_
        obtain ⟨g1, h⟩ := gd_some h
        refine r_iald (pc := 138) hR (dc dt_X0_grow 79 rfl) tc_35 g1 qv3 ?_
        refine r_icmp_ge (pc := 139) (tgt := 150) hR (dc dt_X0_grow 80 rfl) (by decide) (rd_in _ _ _) (rd_in _ _ _) (fun hc => ?_) (fun hc => ?_)
        · replace h := ite_t hc h
          refine r_weak (L' := [some (.ref (ad 31)), none, none, some (iv v3), none, none]) hR ⟨Or.inr rfl, Or.inl rfl, Or.inl rfl, Or.inr rfl, Or.inl rfl, Or.inl rfl, trivial⟩ ?_
          exact hk150 v3 m87 qv3 h
        replace h := ite_f hc h
        refine r_aload_n (pc := 142) hR (dc dt_X0_grow 81 rfl) rfl ?_
        refine r_iload_n (pc := 143) hR (dc dt_X0_grow 82 rfl) rfl ?_
        obtain ⟨r144, e144, h⟩ := b1_some h
        refine r_callV (pc := 144) (rest := []) hR (dc dt_X0_grow 83 rfl) cl_X0_139 tc_31 rfl (ok_F0_closesRing qv3 e144) (by decide) rfl (Nat.le_of_ble_eq_true rfl) rfl (fun q144r => ?_)
        show Go 147 [some (.ref (ad 31)), some (iv v1), some (iv v2), some (iv v3), some (iv r20), some (iv x113)] [iv r144] m87
        refine r_if_eq (pc := 147) (tgt := 157) hR (dc dt_X0_grow 84 rfl) (by decide) (inZ_R q144r) (fun hc => ?_) (fun hc => ?_)
        · replace h := ite_t hc h
          refine r_weak (L' := [some (.ref (ad 31)), some (iv v1), some (iv v2), some (iv v3), none, none]) hR ⟨Or.inr rfl, Or.inr rfl, Or.inr rfl, Or.inr rfl, Or.inl rfl, Or.inl rfl, trivial⟩ ?_
          exact J157 v2 m87 qv2 h
        replace h := ite_f hc h
        refine r_weak (L' := [some (.ref (ad 31)), none, none, some (iv v3), none, none]) hR ⟨Or.inr rfl, Or.inl rfl, Or.inl rfl, Or.inr rfl, Or.inl rfl, Or.inl rfl, trivial⟩ ?_
        exact hk150 v3 m87 qv3 h
      refine r_icmp_le (pc := 105) (tgt := 112) hR (dc dt_X0_grow 63 rfl) (by decide) (w32_in _) (rd_in _ _ _) (fun hc => ?_) (fun hc => ?_)
      · replace h := ite_t hc h
        refine r_iconst (pc := 112) hR (dc dt_X0_grow 66 rfl) ?_
        exact J113 0 (Or.inl rfl) h
      replace h := ite_f hc h
      refine r_iconst (pc := 108) hR (dc dt_X0_grow 64 rfl) ?_
      refine r_goto (pc := 109) (tgt := 113) hR (dc dt_X0_grow 65 rfl) (by decide) ?_
      exact J113 1 (Or.inr rfl) h
    replace h := ite_f hc h
    refine r_aload_n (pc := 32) hR (dc dt_X0_grow 19 rfl) rfl ?_
    refine r_getr (pc := 33) (k2 := 32) hR (dc dt_X0_grow 20 rfl) fl_X0_12 tc_31 rfl ?_
    refine r_getr (pc := 36) (k2 := 33) hR (dc dt_X0_grow 21 rfl) fl_X0_136 tc_32 rfl ?_
    refine r_iload_n (pc := 39) hR (dc dt_X0_grow 22 rfl) rfl ?_
    refine r_iconst (pc := 40) hR (dc dt_X0_grow 23 rfl) ?_
    obtain ⟨g1, h⟩ := gd_some h
    refine r_iast (pc := 41) hR (dc dt_X0_grow 24 rfl) tc_33 g1 qv3 ?_
    replace h := stw_e h
    generalize wr m 33 v3 (-1) = m41 at h ⊢
    refine r_iload_n (pc := 42) hR (dc dt_X0_grow 25 rfl) rfl ?_
    refine r_if_eq (pc := 43) (tgt := 53) hR (dc dt_X0_grow 26 rfl) (by decide) qv2 (fun hc => ?_) (fun hc => ?_)
    · replace h := ite_t hc h
      refine r_iconst (pc := 53) hR (dc dt_X0_grow 32 rfl) ?_
      refine r_istore_n (pc := 54) (L' := [some (.ref (ad 31)), some (iv v1), some (iv 1), some (iv v3), some (iv r20), none]) hR (dc dt_X0_grow 33 rfl) (by decide) rfl rfl ?_
      refine r_goto (pc := 55) (tgt := 157) hR (dc dt_X0_grow 34 rfl) (by decide) ?_
      refine r_weak (L' := [some (.ref (ad 31)), some (iv v1), some (iv 1), some (iv v3), none, none]) hR ⟨Or.inr rfl, Or.inr rfl, Or.inr rfl, Or.inr rfl, Or.inl rfl, Or.inr rfl, trivial⟩ ?_
      exact J157 1 m41 (rg_c rfl) h
    replace h := ite_f hc h
    refine r_weak (L' := [some (.ref (ad 31)), none, none, some (iv v3), none, none]) hR ⟨Or.inr rfl, Or.inl rfl, Or.inl rfl, Or.inr rfl, Or.inl rfl, Or.inr rfl, trivial⟩ ?_
    exact hk46 v3 m41 qv3 h
set_option maxRecDepth 100000 in
set_option maxHeartbeats 4000000 in
theorem ok_F0_grow {m : Mem}  {v1 : Int} (q1 : inR v1) {out : Int × Mem} (h : F0_grow m v1 = some out) : CT l G cy ad tt yX0_grow cX0_grow 6 (some .int) 2 [.ref (ad 31), iv v1] m (some (iv out.1)) (inR out.1) out.2 := by
  refine CT_of (by decide) (Nat.le_of_ble_eq_true rfl) (fun Go hR hT => ?_)
  replace hR : RS l G cy ad tt RX0 cX0_grow 6 2 Go := hR
  show Go 0 [some (.ref (ad 31)), some (iv v1), none, none, none, none] [] m
  unfold F0_grow at h
  refine r_iconst (pc := 0) hR (dc dt_X0_grow 0 rfl) ?_
  refine r_istore_n (pc := 1) (L' := [some (.ref (ad 31)), some (iv v1), some (iv 0), none, none, none]) hR (dc dt_X0_grow 1 rfl) (by decide) rfl rfl ?_
  refine r_aload_n (pc := 2) hR (dc dt_X0_grow 2 rfl) rfl ?_
  refine r_iconst (pc := 3) hR (dc dt_X0_grow 3 rfl) ?_
  refine r_puti (pc := 4) hR (dc dt_X0_grow 4 rfl) fl_X0_130 tc_31 rfl rfl rfl ?_
  replace h := stw_e h
  generalize wr m 31 13 0 = m4 at h ⊢
  refine r_iconst (pc := 7) hR (dc dt_X0_grow 5 rfl) ?_
  refine r_istore_n (pc := 8) (L' := [some (.ref (ad 31)), some (iv v1), some (iv 0), some (iv 0), none, none]) hR (dc dt_X0_grow 6 rfl) (by decide) rfl rfl ?_
  refine lp_L0_grow_9 hR hT q1 (fun v2_163 m_163 qv2_163 h => ?_) (fun v3_46 m_46 qv3_46 h => ?_) (fun v3_150 m_150 qv3_150 h => ?_) FU 0 0 m4 (rg_c rfl) (rg_c rfl) h
  · show Go 163 [none, none, some (iv v2_163), none, none, none] [] m_163
    refine r_iload_n (pc := 163) hR (dc dt_X0_grow 92 rfl) rfl ?_
    refine r_if_eq (pc := 164) (tgt := 171) hR (dc dt_X0_grow 93 rfl) (by decide) qv2_163 (fun hc => ?_) (fun hc => ?_)
    · replace h := ite_t hc h
      refine r_iconst (pc := 171) hR (dc dt_X0_grow 96 rfl) ?_
      exact r_iret hT (dc dt_X0_grow 97 rfl) (congrArg Prod.fst (Option.some.inj h)) (congrArg Prod.snd (Option.some.inj h)) (rg_c rfl)
    replace h := ite_f hc h
    refine r_iconst (pc := 167) hR (dc dt_X0_grow 94 rfl) ?_
    refine r_goto (pc := 168) (tgt := 172) hR (dc dt_X0_grow 95 rfl) (by decide) ?_
    exact r_iret hT (dc dt_X0_grow 97 rfl) (congrArg Prod.fst (Option.some.inj h)) (congrArg Prod.snd (Option.some.inj h)) (rg_c rfl)
  · show Go 46 [some (.ref (ad 31)), none, none, some (iv v3_46), none, none] [] m_46
    refine r_aload_n (pc := 46) hR (dc dt_X0_grow 27 rfl) rfl ?_
    refine r_getr (pc := 47) (k2 := 47) hR (dc dt_X0_grow 28 rfl) fl_X0_28 tc_31 rfl ?_
    refine r_iload_n (pc := 50) hR (dc dt_X0_grow 29 rfl) rfl ?_
    obtain ⟨g1, h⟩ := gd_some h
    refine r_iald (pc := 51) hR (dc dt_X0_grow 30 rfl) tc_47 g1 qv3_46 ?_
    exact r_iret hT (dc dt_X0_grow 31 rfl) (congrArg Prod.fst (Option.some.inj h)) (congrArg Prod.snd (Option.some.inj h)) (rd_in _ _ _)
  · show Go 150 [some (.ref (ad 31)), none, none, some (iv v3_150), none, none] [] m_150
    refine r_aload_n (pc := 150) hR (dc dt_X0_grow 85 rfl) rfl ?_
    refine r_getr (pc := 151) (k2 := 47) hR (dc dt_X0_grow 86 rfl) fl_X0_28 tc_31 rfl ?_
    refine r_iload_n (pc := 154) hR (dc dt_X0_grow 87 rfl) rfl ?_
    obtain ⟨g1, h⟩ := gd_some h
    refine r_iald (pc := 155) hR (dc dt_X0_grow 88 rfl) tc_47 g1 qv3_150 ?_
    exact r_iret hT (dc dt_X0_grow 89 rfl) (congrArg Prod.fst (Option.some.inj h)) (congrArg Prod.snd (Option.some.inj h)) (rd_in _ _ _)
def tb_X0_writeClause : List (Nat × (Instr × Nat)) := [(0, (.iconst 0, 1)), (1, (.istore_n 2, 1)), (2, (.iload_n 2, 1)), (3, (.aload_n 0, 1)), (4, (.getfield 48, 3)), (7, (.if_icmp .ge 32, 3)), (10, (.aload_n 0, 1)), (11, (.getfield 12, 3)), (14, (.getfield 156, 3)), (17, (.iload_n 2, 1)), (18, (.aload_n 0, 1)), (19, (.getfield 44, 3)), (22, (.aload_n 0, 1)), (23, (.getfield 18, 3)), (26, (.iload_n 2, 1)), (27, (.iaload, 1)), (28, (.iload_n 1, 1)), (29, (.invokevirtual 74, 3)), (32, (.iastore, 1)), (33, (.iinc 2 1, 3)), (36, (.goto (-34), 3)), (39, (.return_, 1))]
set_option maxRecDepth 100000 in
theorem dt_X0_writeClause : (tb_X0_writeClause.all fun q => decide (decode cX0_writeClause q.1 = .ok q.2)) = true := by decide +kernel
set_option maxRecDepth 100000 in
set_option maxHeartbeats 4000000 in
theorem lp_L0_writeClause_2 {Go : Nat → List (Option Value) → List Value → Mem → Prop} (hR : RS l G cy ad tt RX0 cX0_writeClause 3 2 Go) {out : Mem} (hT : RT cX0_writeClause none True out none Go) {v1 : Int} (qv1 : inR v1) : ∀ (n : Nat) (v2 : Int) (m : Mem), inR v2 → L0_writeClause_2 v1 n v2 m = some out → Go 2 [some (.ref (ad 31)), some (iv v1), some (iv v2)] [] m := by
  intro n
  induction n with
  | zero =>
    intro v2 m qv2 h
    cases h
  | succ n ih =>
    intro v2 m qv2 h
    rw [L0_writeClause_2] at h
    refine r_iload_n (pc := 2) hR (dc dt_X0_writeClause 2 rfl) rfl ?_
    refine r_aload_n (pc := 3) hR (dc dt_X0_writeClause 3 rfl) rfl ?_
    refine r_geti (pc := 4) hR (dc dt_X0_writeClause 4 rfl) fl_X0_48 tc_31 rfl ?_
    refine r_icmp_ge (pc := 7) (tgt := 39) hR (dc dt_X0_writeClause 5 rfl) (by decide) qv2 (rd_in _ _ _) (fun hc => ?_) (fun hc => ?_)
    · replace h := ite_t hc h
      exact r_vret hT (dc dt_X0_writeClause 21 rfl) (Option.some.inj h)
    replace h := ite_f hc h
    refine r_aload_n (pc := 10) hR (dc dt_X0_writeClause 6 rfl) rfl ?_
    refine r_getr (pc := 11) (k2 := 32) hR (dc dt_X0_writeClause 7 rfl) fl_X0_12 tc_31 rfl ?_
    refine r_getr (pc := 14) (k2 := 37) hR (dc dt_X0_writeClause 8 rfl) fl_X0_156 tc_32 rfl ?_
    refine r_iload_n (pc := 17) hR (dc dt_X0_writeClause 9 rfl) rfl ?_
    refine r_aload_n (pc := 18) hR (dc dt_X0_writeClause 10 rfl) rfl ?_
    refine r_getr (pc := 19) (k2 := 4) hR (dc dt_X0_writeClause 11 rfl) fl_X0_44 tc_31 rfl ?_
    refine r_aload_n (pc := 22) hR (dc dt_X0_writeClause 12 rfl) rfl ?_
    refine r_getr (pc := 23) (k2 := 44) hR (dc dt_X0_writeClause 13 rfl) fl_X0_18 tc_31 rfl ?_
    refine r_iload_n (pc := 26) hR (dc dt_X0_writeClause 14 rfl) rfl ?_
    obtain ⟨g1, h⟩ := gd_some h
    refine r_iald (pc := 27) hR (dc dt_X0_writeClause 15 rfl) tc_44 g1 qv2 ?_
    refine r_iload_n (pc := 28) hR (dc dt_X0_writeClause 16 rfl) rfl ?_
    obtain ⟨r29, e29, h⟩ := b1_some h
    refine r_callV (pc := 29) (rest := [iv v2, .ref (ad 37)]) hR (dc dt_X0_writeClause 17 rfl) cl_X0_74 tc_4 rfl (ok_F1_told (rd_in _ _ _) qv1 e29) (by decide) rfl (Nat.le_of_ble_eq_true rfl) rfl (fun q29r => ?_)
    show Go 32 [some (.ref (ad 31)), some (iv v1), some (iv v2)] [iv r29, iv v2, .ref (ad 37)] m
    obtain ⟨g1, h⟩ := gd_some h
    refine r_iast (pc := 32) hR (dc dt_X0_writeClause 18 rfl) tc_37 g1 qv2 ?_
    replace h := stw_e h
    generalize wr m 37 v2 r29 = m32 at h ⊢
    refine r_iinc (pc := 33) (L' := [some (.ref (ad 31)), some (iv v1), some (iv (w32 (v2 + 1)))]) hR (dc dt_X0_writeClause 19 rfl) rfl (by decide) rfl rfl ?_
    refine r_goto (pc := 36) (tgt := 2) hR (dc dt_X0_writeClause 20 rfl) (by decide) ?_
    exact ih (w32 (v2 + 1)) m32 (w32_in _) h
set_option maxRecDepth 100000 in
set_option maxHeartbeats 4000000 in
theorem ok_F0_writeClause {m : Mem}  {v1 : Int} (q1 : inR v1) {out : Mem} (h : F0_writeClause m v1 = some out) : CT l G cy ad tt yX0_writeClause cX0_writeClause 3 none 2 [.ref (ad 31), iv v1] m none True out := by
  refine CT_of (by decide) (Nat.le_of_ble_eq_true rfl) (fun Go hR hT => ?_)
  replace hR : RS l G cy ad tt RX0 cX0_writeClause 3 2 Go := hR
  show Go 0 [some (.ref (ad 31)), some (iv v1), none] [] m
  unfold F0_writeClause at h
  refine r_iconst (pc := 0) hR (dc dt_X0_writeClause 0 rfl) ?_
  refine r_istore_n (pc := 1) (L' := [some (.ref (ad 31)), some (iv v1), some (iv 0)]) hR (dc dt_X0_writeClause 1 rfl) (by decide) rfl rfl ?_
  refine lp_L0_writeClause_2 hR hT q1 FU 0 m (rg_c rfl) h
def tb_X0_weigh : List (Nat × (Instr × Nat)) := [(0, (.aload_n 0, 1)), (1, (.getfield 12, 3)), (4, (.invokevirtual 143, 3)), (7, (.ifCond .eq 13, 3)), (10, (.aload_n 0, 1)), (11, (.getfield 12, 3)), (14, (.invokevirtual 147, 3)), (17, (.ifCond .lt 4, 3)), (20, (.return_, 1)), (21, (.aload_n 0, 1)), (22, (.getfield 130, 3)), (25, (.istore_n 2, 1)), (26, (.iconst 0, 1)), (27, (.istore_n 3, 1)), (28, (.iload_n 3, 1)), (29, (.aload_n 0, 1)), (30, (.getfield 118, 3)), (33, (.if_icmp .ge 45, 3)), (36, (.iload_n 2, 1)), (37, (.aload_n 0, 1)), (38, (.getfield 37, 3)), (41, (.iload_n 3, 1)), (42, (.iaload, 1)), (43, (.iadd, 1)), (44, (.aload_n 0, 1)), (45, (.getfield 84, 3)), (48, (.if_icmp .le 4, 3)), (51, (.return_, 1)), (52, (.aload_n 0, 1)), (53, (.aload_n 0, 1)), (54, (.getfield 34, 3)), (57, (.iload_n 3, 1)), (58, (.iaload, 1)), (59, (.invokevirtual 151, 3)), (62, (.iload_n 2, 1)), (63, (.aload_n 0, 1)), (64, (.getfield 12, 3)), (67, (.invokevirtual 154, 3)), (70, (.iadd, 1)), (71, (.istore_n 2, 1)), (72, (.iinc 3 1, 3)), (75, (.goto (-47), 3)), (78, (.iload_n 2, 1)), (79, (.aload_n 0, 1)), (80, (.getfield 84, 3)), (83, (.if_icmp .ge 21, 3)), (86, (.aload_n 0, 1)), (87, (.iload_n 2, 1)), (88, (.putfield 84, 3)), (91, (.aload_n 0, 1)), (92, (.iconst 0, 1)), (93, (.putfield 80, 3)), (96, (.aload_n 0, 1)), (97, (.getfield 25, 3)), (100, (.iconst 0, 1)), (101, (.invokestatic 112, 3)), (104, (.iload_n 2, 1)), (105, (.aload_n 0, 1)), (106, (.getfield 84, 3)), (109, (.if_icmp .ne 66, 3)), (112, (.aload_n 0, 1)), (113, (.getfield 80, 3)), (116, (.sipush 7776, 3)), (119, (.if_icmp .ge 56, 3)), (122, (.aload_n 0, 1)), (123, (.getfield 22, 3)), (126, (.aload_n 0, 1)), (127, (.getfield 80, 3)), (130, (.iload_n 1, 1)), (131, (.iastore, 1)), (132, (.aload_n 0, 1)), (133, (.dup, 1)), (134, (.getfield 80, 3)), (137, (.iconst 1, 1)), (138, (.iadd, 1)), (139, (.putfield 80, 3)), (142, (.iconst 0, 1)), (143, (.istore_n 3, 1)), (144, (.iload_n 3, 1)), (145, (.aload_n 0, 1)), (146, (.getfield 48, 3)), (149, (.if_icmp .ge 26, 3)), (152, (.aload_n 0, 1)), (153, (.getfield 25, 3)), (156, (.iload_n 3, 1)), (157, (.dup2, 1)), (158, (.iaload, 1)), (159, (.iconst 1, 1)), (160, (.aload_n 0, 1)), (161, (.iload_n 1, 1)), (162, (.iload_n 3, 1)), (163, (.invokevirtual 133, 3)), (166, (.ishl, 1)), (167, (.ior, 1)), (168, (.iastore, 1)), (169, (.iinc 3 1, 3)), (172, (.goto (-28), 3)), (175, (.return_, 1))]
set_option maxRecDepth 100000 in
theorem dt_X0_weigh : (tb_X0_weigh.all fun q => decide (decode cX0_weigh q.1 = .ok q.2)) = true := by decide +kernel
set_option maxRecDepth 100000 in
set_option maxHeartbeats 4000000 in
theorem lp_L0_weigh_28 {Go : Nat → List (Option Value) → List Value → Mem → Prop} (hR : RS l G cy ad tt RX0 cX0_weigh 4 3 Go) {out : Mem} (hT : RT cX0_weigh none True out none Go) {v1 : Int} (qv1 : inR v1) {k78 : Int → Mem → Option Mem} (hk78 : ∀ (v2 : Int) (m : Mem), inR v2 → k78 v2 m = some out → Go 78 [some (.ref (ad 31)), some (iv v1), some (iv v2), none] [] m) : ∀ (n : Nat) (v2 : Int) (v3 : Int) (m : Mem), inR v2 → inR v3 → L0_weigh_28 k78 n v2 v3 m = some out → Go 28 [some (.ref (ad 31)), some (iv v1), some (iv v2), some (iv v3)] [] m := by
  intro n
  induction n with
  | zero =>
    intro v2 v3 m qv2 qv3 h
    cases h
  | succ n ih =>
    intro v2 v3 m qv2 qv3 h
    rw [L0_weigh_28] at h
    refine r_iload_n (pc := 28) hR (dc dt_X0_weigh 14 rfl) rfl ?_
    refine r_aload_n (pc := 29) hR (dc dt_X0_weigh 15 rfl) rfl ?_
    refine r_geti (pc := 30) hR (dc dt_X0_weigh 16 rfl) fl_X0_118 tc_31 rfl ?_
    refine r_icmp_ge (pc := 33) (tgt := 78) hR (dc dt_X0_weigh 17 rfl) (by decide) qv3 (rd_in _ _ _) (fun hc => ?_) (fun hc => ?_)
    · replace h := ite_t hc h
      refine r_weak (L' := [some (.ref (ad 31)), some (iv v1), some (iv v2), none]) hR ⟨Or.inr rfl, Or.inr rfl, Or.inr rfl, Or.inl rfl, trivial⟩ ?_
      exact hk78 v2 m qv2 h
    replace h := ite_f hc h
    refine r_iload_n (pc := 36) hR (dc dt_X0_weigh 18 rfl) rfl ?_
    refine r_aload_n (pc := 37) hR (dc dt_X0_weigh 19 rfl) rfl ?_
    refine r_getr (pc := 38) (k2 := 50) hR (dc dt_X0_weigh 20 rfl) fl_X0_37 tc_31 rfl ?_
    refine r_iload_n (pc := 41) hR (dc dt_X0_weigh 21 rfl) rfl ?_
    obtain ⟨g1, h⟩ := gd_some h
    refine r_iald (pc := 42) hR (dc dt_X0_weigh 22 rfl) tc_50 g1 qv3 ?_
    refine r_iadd (pc := 43) hR (dc dt_X0_weigh 23 rfl) ?_
    refine r_aload_n (pc := 44) hR (dc dt_X0_weigh 24 rfl) rfl ?_
    refine r_geti (pc := 45) hR (dc dt_X0_weigh 25 rfl) fl_X0_84 tc_31 rfl ?_
    refine r_icmp_le (pc := 48) (tgt := 52) hR (dc dt_X0_weigh 26 rfl) (by decide) (w32_in _) (rd_in _ _ _) (fun hc => ?_) (fun hc => ?_)
    · replace h := ite_t hc h
      refine r_aload_n (pc := 52) hR (dc dt_X0_weigh 28 rfl) rfl ?_
      refine r_aload_n (pc := 53) hR (dc dt_X0_weigh 29 rfl) rfl ?_
      refine r_getr (pc := 54) (k2 := 49) hR (dc dt_X0_weigh 30 rfl) fl_X0_34 tc_31 rfl ?_
      refine r_iload_n (pc := 57) hR (dc dt_X0_weigh 31 rfl) rfl ?_
      obtain ⟨g1, h⟩ := gd_some h
      refine r_iald (pc := 58) hR (dc dt_X0_weigh 32 rfl) tc_49 g1 qv3 ?_
      obtain ⟨m59, e59, h⟩ := b1_some h
      refine r_callV (pc := 59) (rest := []) hR (dc dt_X0_weigh 33 rfl) cl_X0_151 tc_31 rfl (ok_F0_writeClause (rd_in _ _ _) e59) (by decide) rfl (Nat.le_of_ble_eq_true rfl) rfl (fun q59r => ?_)
      show Go 62 [some (.ref (ad 31)), some (iv v1), some (iv v2), some (iv v3)] [] m59
      refine r_iload_n (pc := 62) hR (dc dt_X0_weigh 34 rfl) rfl ?_
      refine r_aload_n (pc := 63) hR (dc dt_X0_weigh 35 rfl) rfl ?_
      refine r_getr (pc := 64) (k2 := 32) hR (dc dt_X0_weigh 36 rfl) fl_X0_12 tc_31 rfl ?_
      obtain ⟨r67, m67, e67, h⟩ := b2_some h
      refine r_callV (pc := 67) (rest := [iv v2]) hR (dc dt_X0_weigh 37 rfl) cl_X0_154 tc_32 rfl (ok_F9_least tr_c32 e67) (by decide) rfl (Nat.le_of_ble_eq_true rfl) rfl (fun q67r => ?_)
      show Go 70 [some (.ref (ad 31)), some (iv v1), some (iv v2), some (iv v3)] [iv r67, iv v2] m67
      refine r_iadd (pc := 70) hR (dc dt_X0_weigh 38 rfl) ?_
      refine r_istore_n (pc := 71) (L' := [some (.ref (ad 31)), some (iv v1), some (iv (w32 (v2 + r67))), some (iv v3)]) hR (dc dt_X0_weigh 39 rfl) (by decide) rfl rfl ?_
      refine r_iinc (pc := 72) (L' := [some (.ref (ad 31)), some (iv v1), some (iv (w32 (v2 + r67))), some (iv (w32 (v3 + 1)))]) hR (dc dt_X0_weigh 40 rfl) rfl (by decide) rfl rfl ?_
      refine r_goto (pc := 75) (tgt := 28) hR (dc dt_X0_weigh 41 rfl) (by decide) ?_
      exact ih (w32 (v2 + r67)) (w32 (v3 + 1)) m67 (w32_in _) (w32_in _) h
    replace h := ite_f hc h
    exact r_vret hT (dc dt_X0_weigh 27 rfl) (Option.some.inj h)
set_option maxRecDepth 100000 in
set_option maxHeartbeats 4000000 in
theorem lp_L0_weigh_144 {Go : Nat → List (Option Value) → List Value → Mem → Prop} (hR : RS l G cy ad tt RX0 cX0_weigh 4 3 Go) {out : Mem} (hT : RT cX0_weigh none True out none Go) {v1 : Int} (qv1 : inR v1) : ∀ (n : Nat) (v3 : Int) (m : Mem), inR v3 → L0_weigh_144 v1 n v3 m = some out → Go 144 [some (.ref (ad 31)), some (iv v1), none, some (iv v3)] [] m := by
  intro n
  induction n with
  | zero =>
    intro v3 m qv3 h
    cases h
  | succ n ih =>
    intro v3 m qv3 h
    rw [L0_weigh_144] at h
    refine r_iload_n (pc := 144) hR (dc dt_X0_weigh 78 rfl) rfl ?_
    refine r_aload_n (pc := 145) hR (dc dt_X0_weigh 79 rfl) rfl ?_
    refine r_geti (pc := 146) hR (dc dt_X0_weigh 80 rfl) fl_X0_48 tc_31 rfl ?_
    refine r_icmp_ge (pc := 149) (tgt := 175) hR (dc dt_X0_weigh 81 rfl) (by decide) qv3 (rd_in _ _ _) (fun hc => ?_) (fun hc => ?_)
    · replace h := ite_t hc h
      exact r_vret hT (dc dt_X0_weigh 97 rfl) (Option.some.inj h)
    replace h := ite_f hc h
    refine r_aload_n (pc := 152) hR (dc dt_X0_weigh 82 rfl) rfl ?_
    refine r_getr (pc := 153) (k2 := 46) hR (dc dt_X0_weigh 83 rfl) fl_X0_25 tc_31 rfl ?_
    refine r_iload_n (pc := 156) hR (dc dt_X0_weigh 84 rfl) rfl ?_
    refine r_dup2 (pc := 157) hR (dc dt_X0_weigh 85 rfl) rfl rfl ?_
    obtain ⟨g1, h⟩ := gd_some h
    refine r_iald (pc := 158) hR (dc dt_X0_weigh 86 rfl) tc_46 g1 qv3 ?_
    refine r_iconst (pc := 159) hR (dc dt_X0_weigh 87 rfl) ?_
    refine r_aload_n (pc := 160) hR (dc dt_X0_weigh 88 rfl) rfl ?_
    refine r_iload_n (pc := 161) hR (dc dt_X0_weigh 89 rfl) rfl ?_
    refine r_iload_n (pc := 162) hR (dc dt_X0_weigh 90 rfl) rfl ?_
    obtain ⟨r163, e163, h⟩ := b1_some h
    refine r_callV (pc := 163) (rest := [iv 1, iv (rd m 46 v3), iv v3, .ref (ad 46)]) hR (dc dt_X0_weigh 91 rfl) cl_X0_133 tc_31 rfl (ok_F0_chosen qv1 qv3 e163) (by decide) rfl (Nat.le_of_ble_eq_true rfl) rfl (fun q163r => ?_)
    show Go 166 [some (.ref (ad 31)), some (iv v1), none, some (iv v3)] [iv r163, iv 1, iv (rd m 46 v3), iv v3, .ref (ad 46)] m
    refine r_ishl (pc := 166) hR (dc dt_X0_weigh 92 rfl) ?_
    refine r_ior (pc := 167) hR (dc dt_X0_weigh 93 rfl) ?_
    obtain ⟨g1, h⟩ := gd_some h
    refine r_iast (pc := 168) hR (dc dt_X0_weigh 94 rfl) tc_46 g1 qv3 ?_
    replace h := stw_e h
    generalize wr m 46 v3 (bor (rd m 46 v3) (shl 1 r163)) = m168 at h ⊢
    refine r_iinc (pc := 169) (L' := [some (.ref (ad 31)), some (iv v1), none, some (iv (w32 (v3 + 1)))]) hR (dc dt_X0_weigh 95 rfl) rfl (by decide) rfl rfl ?_
    refine r_goto (pc := 172) (tgt := 144) hR (dc dt_X0_weigh 96 rfl) (by decide) ?_
    exact ih (w32 (v3 + 1)) m168 (w32_in _) h
set_option maxRecDepth 100000 in
set_option maxHeartbeats 4000000 in
theorem ok_F0_weigh {m : Mem}  {v1 : Int} (q1 : inR v1) {out : Mem} (h : F0_weigh m v1 = some out) : CT l G cy ad tt yX0_weigh cX0_weigh 4 none 3 [.ref (ad 31), iv v1] m none True out := by
  refine CT_of (by decide) (Nat.le_of_ble_eq_true rfl) (fun Go hR hT => ?_)
  replace hR : RS l G cy ad tt RX0 cX0_weigh 4 3 Go := hR
  show Go 0 [some (.ref (ad 31)), some (iv v1), none, none] [] m
  unfold F0_weigh at h
  refine r_aload_n (pc := 0) hR (dc dt_X0_weigh 0 rfl) rfl ?_
  refine r_getr (pc := 1) (k2 := 32) hR (dc dt_X0_weigh 1 rfl) fl_X0_12 tc_31 rfl ?_
  obtain ⟨r4, m4, e4, h⟩ := b2_some h
  refine r_callV (pc := 4) (rest := []) hR (dc dt_X0_weigh 2 rfl) cl_X0_143 tc_32 rfl (ok_F9_arrange tr_c32 e4) (by decide) rfl (Nat.le_of_ble_eq_true rfl) rfl (fun q4r => ?_)
  show Go 7 [some (.ref (ad 31)), some (iv v1), none, none] [iv r4] m4
  refine r_if_eq (pc := 7) (tgt := 20) hR (dc dt_X0_weigh 3 rfl) (by decide) (inZ_R q4r) (fun hc => ?_) (fun hc => ?_)
  · replace h := ite_t hc h
    exact r_vret hT (dc dt_X0_weigh 8 rfl) (Option.some.inj h)
  replace h := ite_f hc h
  refine r_aload_n (pc := 10) hR (dc dt_X0_weigh 4 rfl) rfl ?_
  refine r_getr (pc := 11) (k2 := 32) hR (dc dt_X0_weigh 5 rfl) fl_X0_12 tc_31 rfl ?_
  obtain ⟨r14, m14, e14, h⟩ := b2_some h
  refine r_callV (pc := 14) (rest := []) hR (dc dt_X0_weigh 6 rfl) cl_X0_147 tc_32 rfl (ok_F9_firstLate tr_c32 e14) (by decide) rfl (Nat.le_of_ble_eq_true rfl) rfl (fun q14r => ?_)
  show Go 17 [some (.ref (ad 31)), some (iv v1), none, none] [iv r14] m14
  refine r_if_lt (pc := 17) (tgt := 21) hR (dc dt_X0_weigh 7 rfl) (by decide) q14r (fun hc => ?_) (fun hc => ?_)
  · replace h := ite_t hc h
    refine r_aload_n (pc := 21) hR (dc dt_X0_weigh 9 rfl) rfl ?_
    refine r_geti (pc := 22) hR (dc dt_X0_weigh 10 rfl) fl_X0_130 tc_31 rfl ?_
    refine r_istore_n (pc := 25) (L' := [some (.ref (ad 31)), some (iv v1), some (iv (rd m14 31 13)), none]) hR (dc dt_X0_weigh 11 rfl) (by decide) rfl rfl ?_
    refine r_iconst (pc := 26) hR (dc dt_X0_weigh 12 rfl) ?_
    refine r_istore_n (pc := 27) (L' := [some (.ref (ad 31)), some (iv v1), some (iv (rd m14 31 13)), some (iv 0)]) hR (dc dt_X0_weigh 13 rfl) (by decide) rfl rfl ?_
    refine lp_L0_weigh_28 hR hT q1 (fun v2_78 m_78 qv2_78 h => ?_) FU (rd m14 31 13) 0 m14 (rd_in _ _ _) (rg_c rfl) h
    show Go 78 [some (.ref (ad 31)), some (iv v1), some (iv v2_78), none] [] m_78
    refine r_iload_n (pc := 78) hR (dc dt_X0_weigh 42 rfl) rfl ?_
    refine r_aload_n (pc := 79) hR (dc dt_X0_weigh 43 rfl) rfl ?_
    refine r_geti (pc := 80) hR (dc dt_X0_weigh 44 rfl) fl_X0_84 tc_31 rfl ?_
    refine jn_e h (fun (K : Mem → Option Mem) => ∀ (m_104 : Mem), K m_104 = some out → Go 104 [some (.ref (ad 31)), some (iv v1), some (iv v2_78), none] [] m_104) (fun m_104 h => ?_) (fun K104 J104 h => ?_)
    · refine r_iload_n (pc := 104) hR (dc dt_X0_weigh 56 rfl) rfl ?_
      refine r_aload_n (pc := 105) hR (dc dt_X0_weigh 57 rfl) rfl ?_
      refine r_geti (pc := 106) hR (dc dt_X0_weigh 58 rfl) fl_X0_84 tc_31 rfl ?_
      refine r_icmp_ne (pc := 109) (tgt := 175) hR (dc dt_X0_weigh 59 rfl) (by decide) qv2_78 (rd_in _ _ _) (fun hc => ?_) (fun hc => ?_)
      · replace h := ite_t hc h
        exact r_vret hT (dc dt_X0_weigh 97 rfl) (Option.some.inj h)
      replace h := ite_f hc h
      refine r_aload_n (pc := 112) hR (dc dt_X0_weigh 60 rfl) rfl ?_
      refine r_geti (pc := 113) hR (dc dt_X0_weigh 61 rfl) fl_X0_80 tc_31 rfl ?_
      refine r_sipush (pc := 116) hR (dc dt_X0_weigh 62 rfl) (by decide) ?_
      refine r_icmp_ge (pc := 119) (tgt := 175) hR (dc dt_X0_weigh 63 rfl) (by decide) (rd_in _ _ _) (rg_c rfl) (fun hc => ?_) (fun hc => ?_)
      · replace h := ite_t hc h
        exact r_vret hT (dc dt_X0_weigh 97 rfl) (Option.some.inj h)
      replace h := ite_f hc h
      refine r_aload_n (pc := 122) hR (dc dt_X0_weigh 64 rfl) rfl ?_
      refine r_getr (pc := 123) (k2 := 45) hR (dc dt_X0_weigh 65 rfl) fl_X0_22 tc_31 rfl ?_
      refine r_aload_n (pc := 126) hR (dc dt_X0_weigh 66 rfl) rfl ?_
      refine r_geti (pc := 127) hR (dc dt_X0_weigh 67 rfl) fl_X0_80 tc_31 rfl ?_
      refine r_iload_n (pc := 130) hR (dc dt_X0_weigh 68 rfl) rfl ?_
      obtain ⟨g1, h⟩ := gd_some h
      refine r_iast (pc := 131) hR (dc dt_X0_weigh 69 rfl) tc_45 g1 (rd_in _ _ _) ?_
      replace h := stw_e h
      generalize wr m_104 45 (rd m_104 31 3) v1 = m131 at h ⊢
      refine r_aload_n (pc := 132) hR (dc dt_X0_weigh 70 rfl) rfl ?_
      refine r_dup (pc := 133) hR (dc dt_X0_weigh 71 rfl) rfl ?_
      refine r_geti (pc := 134) hR (dc dt_X0_weigh 72 rfl) fl_X0_80 tc_31 rfl ?_
      refine r_iconst (pc := 137) hR (dc dt_X0_weigh 73 rfl) ?_
      refine r_iadd (pc := 138) hR (dc dt_X0_weigh 74 rfl) ?_
      refine r_puti (pc := 139) hR (dc dt_X0_weigh 75 rfl) fl_X0_80 tc_31 rfl rfl rfl ?_
      replace h := stw_e h
      generalize wr m131 31 3 (w32 ((rd m131 31 3) + 1)) = m139 at h ⊢
      refine r_iconst (pc := 142) hR (dc dt_X0_weigh 76 rfl) ?_
      refine r_istore_n (pc := 143) (L' := [some (.ref (ad 31)), some (iv v1), some (iv v2_78), some (iv 0)]) hR (dc dt_X0_weigh 77 rfl) (by decide) rfl rfl ?_
      refine r_weak (L' := [some (.ref (ad 31)), some (iv v1), none, some (iv 0)]) hR ⟨Or.inr rfl, Or.inr rfl, Or.inl rfl, Or.inr rfl, trivial⟩ ?_
      refine lp_L0_weigh_144 hR hT q1 FU 0 m139 (rg_c rfl) h
    refine r_icmp_ge (pc := 83) (tgt := 104) hR (dc dt_X0_weigh 45 rfl) (by decide) qv2_78 (rd_in _ _ _) (fun hc => ?_) (fun hc => ?_)
    · replace h := ite_t hc h
      exact J104 m_78 h
    replace h := ite_f hc h
    refine r_aload_n (pc := 86) hR (dc dt_X0_weigh 46 rfl) rfl ?_
    refine r_iload_n (pc := 87) hR (dc dt_X0_weigh 47 rfl) rfl ?_
    refine r_puti (pc := 88) hR (dc dt_X0_weigh 48 rfl) fl_X0_84 tc_31 rfl rfl rfl ?_
    replace h := stw_e h
    generalize wr m_78 31 4 v2_78 = m88 at h ⊢
    refine r_aload_n (pc := 91) hR (dc dt_X0_weigh 49 rfl) rfl ?_
    refine r_iconst (pc := 92) hR (dc dt_X0_weigh 50 rfl) ?_
    refine r_puti (pc := 93) hR (dc dt_X0_weigh 51 rfl) fl_X0_80 tc_31 rfl rfl rfl ?_
    replace h := stw_e h
    generalize wr m88 31 3 0 = m93 at h ⊢
    refine r_aload_n (pc := 96) hR (dc dt_X0_weigh 52 rfl) rfl ?_
    refine r_getr (pc := 97) (k2 := 46) hR (dc dt_X0_weigh 53 rfl) fl_X0_25 tc_31 rfl ?_
    refine r_iconst (pc := 100) hR (dc dt_X0_weigh 54 rfl) ?_
    obtain ⟨m101, e101, h⟩ := b1_some h
    refine r_callS (pc := 101) (rest := []) hR (dc dt_X0_weigh 55 rfl) cl_X0_112 (ok_FJ7_fill_53178 tc_46 (by decide) (rg_c rfl) e101) (by decide) rfl (Nat.le_of_ble_eq_true rfl) rfl (fun q101r => ?_)
    show Go 104 [some (.ref (ad 31)), some (iv v1), some (iv v2_78), none] [] m101
    exact J104 m101 h
  replace h := ite_f hc h
  exact r_vret hT (dc dt_X0_weigh 8 rfl) (Option.some.inj h)
def tb_X0_find : List (Nat × (Instr × Nat)) := [(0, (.aload_n 0, 1)), (1, (.getfield 40, 3)), (4, (.aload_n 0, 1)), (5, (.getfield 44, 3)), (8, (.getfield 77, 3)), (11, (.if_icmp .eq 11, 3)), (14, (.aload_n 0, 1)), (15, (.getfield 48, 3)), (18, (.iconst 2, 1)), (19, (.if_icmp .ge 4, 3)), (22, (.return_, 1)), (23, (.aload_n 0, 1)), (24, (.aload_n 0, 1)), (25, (.getfield 44, 3)), (28, (.getfield 77, 3)), (31, (.putfield 40, 3)), (34, (.aload_n 0, 1)), (35, (.iconst 0, 1)), (36, (.putfield 80, 3)), (39, (.aload_n 0, 1)), (40, (.ldc 83, 2)), (42, (.putfield 84, 3)), (45, (.aload_n 0, 1)), (46, (.invokevirtual 87, 3)), (49, (.aload_n 0, 1)), (50, (.getfield 28, 3)), (53, (.iconst 0, 1)), (54, (.iaload, 1)), (55, (.aload_n 0, 1)), (56, (.getfield 48, 3)), (59, (.imul, 1)), (60, (.istore_n 1, 1)), (61, (.iconst 0, 1)), (62, (.istore_n 2, 1)), (63, (.iload_n 2, 1)), (64, (.iload_n 1, 1)), (65, (.if_icmp .ge 38, 3)), (68, (.aload_n 0, 1)), (69, (.iload_n 2, 1)), (70, (.invokevirtual 90, 3)), (73, (.istore_n 3, 1)), (74, (.iload_n 3, 1)), (75, (.ifCond .ne 8, 3)), (78, (.aload_n 0, 1)), (79, (.iload_n 2, 1)), (80, (.invokevirtual 93, 3)), (83, (.iconst 1, 1)), (84, (.iload_n 3, 1)), (85, (.invokestatic 71, 3)), (88, (.istore 4, 2)), (90, (.iload_n 2, 1)), (91, (.iload 4, 2)), (93, (.idiv, 1)), (94, (.iconst 1, 1)), (95, (.iadd, 1)), (96, (.iload 4, 2)), (98, (.imul, 1)), (99, (.istore_n 2, 1)), (100, (.goto (-37), 3)), (103, (.return_, 1))]
set_option maxRecDepth 100000 in
theorem dt_X0_find : (tb_X0_find.all fun q => decide (decode cX0_find q.1 = .ok q.2)) = true := by decide +kernel
set_option maxRecDepth 100000 in
set_option maxHeartbeats 4000000 in
theorem lp_L0_find_63 {Go : Nat → List (Option Value) → List Value → Mem → Prop} (hR : RS l G cy ad tt RX0 cX0_find 5 5 Go) {out : Mem} (hT : RT cX0_find none True out none Go) {v1 : Int} (qv1 : inR v1) : ∀ (n : Nat) (v2 : Int) (m : Mem), inR v2 → L0_find_63 v1 n v2 m = some out → Go 63 [some (.ref (ad 31)), some (iv v1), some (iv v2), none, none] [] m := by
  intro n
  induction n with
  | zero =>
    intro v2 m qv2 h
    cases h
  | succ n ih =>
    intro v2 m qv2 h
    rw [L0_find_63] at h
    refine r_iload_n (pc := 63) hR (dc dt_X0_find 34 rfl) rfl ?_
    refine r_iload_n (pc := 64) hR (dc dt_X0_find 35 rfl) rfl ?_
    refine r_icmp_ge (pc := 65) (tgt := 103) hR (dc dt_X0_find 36 rfl) (by decide) qv2 qv1 (fun hc => ?_) (fun hc => ?_)
    · replace h := ite_t hc h
      exact r_vret hT (dc dt_X0_find 59 rfl) (Option.some.inj h)
    replace h := ite_f hc h
    refine r_aload_n (pc := 68) hR (dc dt_X0_find 37 rfl) rfl ?_
    refine r_iload_n (pc := 69) hR (dc dt_X0_find 38 rfl) rfl ?_
    obtain ⟨r70, m70, e70, h⟩ := b2_some h
    refine r_callV (pc := 70) (rest := []) hR (dc dt_X0_find 39 rfl) cl_X0_90 tc_31 rfl (ok_F0_grow qv2 e70) (by decide) rfl (Nat.le_of_ble_eq_true rfl) rfl (fun q70r => ?_)
    show Go 73 [some (.ref (ad 31)), some (iv v1), some (iv v2), none, none] [iv r70] m70
    refine r_istore_n (pc := 73) (L' := [some (.ref (ad 31)), some (iv v1), some (iv v2), some (iv r70), none]) hR (dc dt_X0_find 40 rfl) (by decide) rfl rfl ?_
    refine r_iload_n (pc := 74) hR (dc dt_X0_find 41 rfl) rfl ?_
    refine jn_e h (fun (K : Mem → Option Mem) => ∀ (m_83 : Mem), K m_83 = some out → Go 83 [some (.ref (ad 31)), some (iv v1), some (iv v2), some (iv r70), none] [] m_83) (fun m_83 h => ?_) (fun K83 J83 h => ?_)
    · refine r_iconst (pc := 83) hR (dc dt_X0_find 46 rfl) ?_
      refine r_iload_n (pc := 84) hR (dc dt_X0_find 47 rfl) rfl ?_
      refine r_max (pc := 85) hR (dc dt_X0_find 48 rfl) mw_X0_71 (rg_c rfl) q70r (Nat.le_of_ble_eq_true rfl) (by decide) ?_
      refine r_istore (pc := 88) (L' := [some (.ref (ad 31)), some (iv v1), some (iv v2), some (iv r70), some (iv (imx 1 r70))]) hR (dc dt_X0_find 49 rfl) (by decide) rfl rfl ?_
      refine r_iload_n (pc := 90) hR (dc dt_X0_find 50 rfl) rfl ?_
      refine r_iload (pc := 91) hR (dc dt_X0_find 51 rfl) rfl ?_
      obtain ⟨g1, h⟩ := gd_some h
      refine r_idiv (pc := 93) hR (dc dt_X0_find 52 rfl) g1 (imx_in (rg_c rfl) q70r) ?_
      refine r_iconst (pc := 94) hR (dc dt_X0_find 53 rfl) ?_
      refine r_iadd (pc := 95) hR (dc dt_X0_find 54 rfl) ?_
      refine r_iload (pc := 96) hR (dc dt_X0_find 55 rfl) rfl ?_
      refine r_imul (pc := 98) hR (dc dt_X0_find 56 rfl) ?_
      refine r_istore_n (pc := 99) (L' := [some (.ref (ad 31)), some (iv v1), some (iv (w32 ((w32 ((idv v2 (imx 1 r70)) + 1)) * (imx 1 r70)))), some (iv r70), some (iv (imx 1 r70))]) hR (dc dt_X0_find 57 rfl) (by decide) rfl rfl ?_
      refine r_goto (pc := 100) (tgt := 63) hR (dc dt_X0_find 58 rfl) (by decide) ?_
      refine r_weak (L' := [some (.ref (ad 31)), some (iv v1), some (iv (w32 ((w32 ((idv v2 (imx 1 r70)) + 1)) * (imx 1 r70)))), none, none]) hR ⟨Or.inr rfl, Or.inr rfl, Or.inr rfl, Or.inl rfl, Or.inl rfl, trivial⟩ ?_
      exact ih (w32 ((w32 ((idv v2 (imx 1 r70)) + 1)) * (imx 1 r70))) m_83 (w32_in _) h
    refine r_if_ne (pc := 75) (tgt := 83) hR (dc dt_X0_find 42 rfl) (by decide) q70r (fun hc => ?_) (fun hc => ?_)
    · replace h := ite_t hc h
      exact J83 m70 h
    replace h := ite_f hc h
    refine r_aload_n (pc := 78) hR (dc dt_X0_find 43 rfl) rfl ?_
    refine r_iload_n (pc := 79) hR (dc dt_X0_find 44 rfl) rfl ?_
    obtain ⟨m80, e80, h⟩ := b1_some h
    refine r_callV (pc := 80) (rest := []) hR (dc dt_X0_find 45 rfl) cl_X0_93 tc_31 rfl (ok_F0_weigh qv2 e80) (by decide) rfl (Nat.le_of_ble_eq_true rfl) rfl (fun q80r => ?_)
    show Go 83 [some (.ref (ad 31)), some (iv v1), some (iv v2), some (iv r70), none] [] m80
    exact J83 m80 h
set_option maxRecDepth 100000 in
set_option maxHeartbeats 4000000 in
theorem ok_F0_find {m : Mem}   {out : Mem} (h : F0_find m = some out) : CT l G cy ad tt yX0_find cX0_find 5 none 5 [.ref (ad 31)] m none True out := by
  refine CT_of (by decide) (Nat.le_of_ble_eq_true rfl) (fun Go hR hT => ?_)
  replace hR : RS l G cy ad tt RX0 cX0_find 5 5 Go := hR
  show Go 0 [some (.ref (ad 31)), none, none, none, none] [] m
  unfold F0_find at h
  refine r_aload_n (pc := 0) hR (dc dt_X0_find 0 rfl) rfl ?_
  refine r_geti (pc := 1) hR (dc dt_X0_find 1 rfl) fl_X0_40 tc_31 rfl ?_
  refine r_aload_n (pc := 4) hR (dc dt_X0_find 2 rfl) rfl ?_
  refine r_getr (pc := 5) (k2 := 4) hR (dc dt_X0_find 3 rfl) fl_X0_44 tc_31 rfl ?_
  refine r_geti (pc := 8) hR (dc dt_X0_find 4 rfl) fl_X0_77 tc_4 rfl ?_
  refine r_icmp_eq (pc := 11) (tgt := 22) hR (dc dt_X0_find 5 rfl) (by decide) (rd_in _ _ _) (rd_in _ _ _) (fun hc => ?_) (fun hc => ?_)
  · replace h := ite_t hc h
    exact r_vret hT (dc dt_X0_find 10 rfl) (Option.some.inj h)
  replace h := ite_f hc h
  refine r_aload_n (pc := 14) hR (dc dt_X0_find 6 rfl) rfl ?_
  refine r_geti (pc := 15) hR (dc dt_X0_find 7 rfl) fl_X0_48 tc_31 rfl ?_
  refine r_iconst (pc := 18) hR (dc dt_X0_find 8 rfl) ?_
  refine r_icmp_ge (pc := 19) (tgt := 23) hR (dc dt_X0_find 9 rfl) (by decide) (rd_in _ _ _) (rg_c rfl) (fun hc => ?_) (fun hc => ?_)
  · replace h := ite_t hc h
    refine r_aload_n (pc := 23) hR (dc dt_X0_find 11 rfl) rfl ?_
    refine r_aload_n (pc := 24) hR (dc dt_X0_find 12 rfl) rfl ?_
    refine r_getr (pc := 25) (k2 := 4) hR (dc dt_X0_find 13 rfl) fl_X0_44 tc_31 rfl ?_
    refine r_geti (pc := 28) hR (dc dt_X0_find 14 rfl) fl_X0_77 tc_4 rfl ?_
    refine r_puti (pc := 31) hR (dc dt_X0_find 15 rfl) fl_X0_40 tc_31 rfl rfl rfl ?_
    replace h := stw_e h
    generalize wr m 31 14 (rd m 4 12) = m31 at h ⊢
    refine r_aload_n (pc := 34) hR (dc dt_X0_find 16 rfl) rfl ?_
    refine r_iconst (pc := 35) hR (dc dt_X0_find 17 rfl) ?_
    refine r_puti (pc := 36) hR (dc dt_X0_find 18 rfl) fl_X0_80 tc_31 rfl rfl rfl ?_
    replace h := stw_e h
    generalize wr m31 31 3 0 = m36 at h ⊢
    refine r_aload_n (pc := 39) hR (dc dt_X0_find 19 rfl) rfl ?_
    refine r_ldc (pc := 40) hR (dc dt_X0_find 20 rfl) kw_X0_83 ?_
    refine r_puti (pc := 42) hR (dc dt_X0_find 21 rfl) fl_X0_84 tc_31 rfl rfl rfl ?_
    replace h := stw_e h
    generalize wr m36 31 4 16777216 = m42 at h ⊢
    refine r_aload_n (pc := 45) hR (dc dt_X0_find 22 rfl) rfl ?_
    obtain ⟨m46, e46, h⟩ := b1_some h
    refine r_callV (pc := 46) (rest := []) hR (dc dt_X0_find 23 rfl) cl_X0_87 tc_31 rfl (ok_F0_prepare  e46) (by decide) rfl (Nat.le_of_ble_eq_true rfl) rfl (fun q46r => ?_)
    show Go 49 [some (.ref (ad 31)), none, none, none, none] [] m46
    refine r_aload_n (pc := 49) hR (dc dt_X0_find 24 rfl) rfl ?_
    refine r_getr (pc := 50) (k2 := 47) hR (dc dt_X0_find 25 rfl) fl_X0_28 tc_31 rfl ?_
    refine r_iconst (pc := 53) hR (dc dt_X0_find 26 rfl) ?_
    obtain ⟨g1, h⟩ := gd_some h
    refine r_iald (pc := 54) hR (dc dt_X0_find 27 rfl) tc_47 g1 (rg_c rfl) ?_
    refine r_aload_n (pc := 55) hR (dc dt_X0_find 28 rfl) rfl ?_
    refine r_geti (pc := 56) hR (dc dt_X0_find 29 rfl) fl_X0_48 tc_31 rfl ?_
    refine r_imul (pc := 59) hR (dc dt_X0_find 30 rfl) ?_
    refine r_istore_n (pc := 60) (L' := [some (.ref (ad 31)), some (iv (w32 ((rd m46 47 0) * (rd m46 31 2)))), none, none, none]) hR (dc dt_X0_find 31 rfl) (by decide) rfl rfl ?_
    refine r_iconst (pc := 61) hR (dc dt_X0_find 32 rfl) ?_
    refine r_istore_n (pc := 62) (L' := [some (.ref (ad 31)), some (iv (w32 ((rd m46 47 0) * (rd m46 31 2)))), some (iv 0), none, none]) hR (dc dt_X0_find 33 rfl) (by decide) rfl rfl ?_
    refine lp_L0_find_63 hR hT (w32_in _) FU 0 m46 (rg_c rfl) h
  replace h := ite_f hc h
  exact r_vret hT (dc dt_X0_find 10 rfl) (Option.some.inj h)
def tb_X0_sure : List (Nat × (Instr × Nat)) := [(0, (.iconst 0, 1)), (1, (.istore_n 1, 1)), (2, (.iconst 0, 1)), (3, (.istore_n 2, 1)), (4, (.iload_n 2, 1)), (5, (.aload_n 0, 1)), (6, (.getfield 48, 3)), (9, (.if_icmp .ge 32, 3)), (12, (.iload_n 1, 1)), (13, (.aload_n 0, 1)), (14, (.getfield 25, 3)), (17, (.iload_n 2, 1)), (18, (.iaload, 1)), (19, (.invokestatic 66, 3)), (22, (.iconst 1, 1)), (23, (.if_icmp .ne 9, 3)), (26, (.iconst 1, 1)), (27, (.iload_n 2, 1)), (28, (.ishl, 1)), (29, (.goto 4, 3)), (32, (.iconst 0, 1)), (33, (.ior, 1)), (34, (.istore_n 1, 1)), (35, (.iinc 2 1, 3)), (38, (.goto (-34), 3)), (41, (.iload_n 1, 1)), (42, (.ireturn, 1))]
set_option maxRecDepth 100000 in
theorem dt_X0_sure : (tb_X0_sure.all fun q => decide (decode cX0_sure q.1 = .ok q.2)) = true := by decide +kernel
set_option maxRecDepth 100000 in
set_option maxHeartbeats 4000000 in
theorem lp_L0_sure_4 {Go : Nat → List (Option Value) → List Value → Mem → Prop} (hR : RS l G cy ad tt RX0 cX0_sure 3 1 Go) {out : Int} {m : Mem} (hT : RT cX0_sure (some (iv out)) (inR out) m (some .int) Go) : ∀ (n : Nat) (v1 : Int) (v2 : Int), inR v1 → inR v2 → L0_sure_4 m n v1 v2 = some out → Go 4 [some (.ref (ad 31)), some (iv v1), some (iv v2)] [] m := by
  intro n
  induction n with
  | zero =>
    intro v1 v2 qv1 qv2 h
    cases h
  | succ n ih =>
    intro v1 v2 qv1 qv2 h
    rw [L0_sure_4] at h
    refine r_iload_n (pc := 4) hR (dc dt_X0_sure 4 rfl) rfl ?_
    refine r_aload_n (pc := 5) hR (dc dt_X0_sure 5 rfl) rfl ?_
    refine r_geti (pc := 6) hR (dc dt_X0_sure 6 rfl) fl_X0_48 tc_31 rfl ?_
    refine r_icmp_ge (pc := 9) (tgt := 41) hR (dc dt_X0_sure 7 rfl) (by decide) qv2 (rd_in _ _ _) (fun hc => ?_) (fun hc => ?_)
    · replace h := ite_t hc h
      refine r_iload_n (pc := 41) hR (dc dt_X0_sure 25 rfl) rfl ?_
      exact r_iret hT (dc dt_X0_sure 26 rfl) (Option.some.inj h) rfl qv1
    replace h := ite_f hc h
    refine r_iload_n (pc := 12) hR (dc dt_X0_sure 8 rfl) rfl ?_
    refine r_aload_n (pc := 13) hR (dc dt_X0_sure 9 rfl) rfl ?_
    refine r_getr (pc := 14) (k2 := 46) hR (dc dt_X0_sure 10 rfl) fl_X0_25 tc_31 rfl ?_
    refine r_iload_n (pc := 17) hR (dc dt_X0_sure 11 rfl) rfl ?_
    obtain ⟨g1, h⟩ := gd_some h
    refine r_iald (pc := 18) hR (dc dt_X0_sure 12 rfl) tc_46 g1 qv2 ?_
    refine r_callS (pc := 19) (rest := [iv v1]) hR (dc dt_X0_sure 13 rfl) cl_X0_66 (ok_FJ6_bitCount_0f7a4 (rd_in _ _ _)) (by decide) rfl (Nat.le_of_ble_eq_true rfl) rfl (fun q19r => ?_)
    show Go 22 [some (.ref (ad 31)), some (iv v1), some (iv v2)] [iv (FJ6_bitCount_0f7a4 (rd m 46 v2)), iv v1] m
    refine r_iconst (pc := 22) hR (dc dt_X0_sure 14 rfl) ?_
    refine jn_e h (fun (K : Int → Option Int) => ∀ (x33 : Int), inR x33 → K x33 = some out → Go 33 [some (.ref (ad 31)), none, some (iv v2)] [iv x33, iv v1] m) (fun x33 qx33 h => ?_) (fun K33 J33 h => ?_)
    · refine r_ior (pc := 33) hR (dc dt_X0_sure 21 rfl) ?_
      refine r_istore_n (pc := 34) (L' := [some (.ref (ad 31)), some (iv (bor v1 x33)), some (iv v2)]) hR (dc dt_X0_sure 22 rfl) (by decide) rfl rfl ?_
      refine r_iinc (pc := 35) (L' := [some (.ref (ad 31)), some (iv (bor v1 x33)), some (iv (w32 (v2 + 1)))]) hR (dc dt_X0_sure 23 rfl) rfl (by decide) rfl rfl ?_
      refine r_goto (pc := 38) (tgt := 4) hR (dc dt_X0_sure 24 rfl) (by decide) ?_
      exact ih (bor v1 x33) (w32 (v2 + 1)) (ti_in _) (w32_in _) h
    refine r_icmp_ne (pc := 23) (tgt := 32) hR (dc dt_X0_sure 15 rfl) (by decide) q19r (rg_c rfl) (fun hc => ?_) (fun hc => ?_)
    · replace h := ite_t hc h
      refine r_iconst (pc := 32) hR (dc dt_X0_sure 20 rfl) ?_
      refine r_weak (L' := [some (.ref (ad 31)), none, some (iv v2)]) hR ⟨Or.inr rfl, Or.inl rfl, Or.inr rfl, trivial⟩ ?_
      exact J33 0 (rg_c rfl) h
    replace h := ite_f hc h
    refine r_iconst (pc := 26) hR (dc dt_X0_sure 16 rfl) ?_
    refine r_iload_n (pc := 27) hR (dc dt_X0_sure 17 rfl) rfl ?_
    refine r_ishl (pc := 28) hR (dc dt_X0_sure 18 rfl) ?_
    refine r_goto (pc := 29) (tgt := 33) hR (dc dt_X0_sure 19 rfl) (by decide) ?_
    refine r_weak (L' := [some (.ref (ad 31)), none, some (iv v2)]) hR ⟨Or.inr rfl, Or.inl rfl, Or.inr rfl, trivial⟩ ?_
    exact J33 (shl 1 v2) (ti_in _) h
set_option maxRecDepth 100000 in
set_option maxHeartbeats 4000000 in
theorem ok_F0_sure {m : Mem}   {out : Int} (h : F0_sure m = some out) : CT l G cy ad tt yX0_sure cX0_sure 3 (some .int) 1 [.ref (ad 31)] m (some (iv out)) (inR out) m := by
  refine CT_of (by decide) (Nat.le_of_ble_eq_true rfl) (fun Go hR hT => ?_)
  replace hR : RS l G cy ad tt RX0 cX0_sure 3 1 Go := hR
  show Go 0 [some (.ref (ad 31)), none, none] [] m
  unfold F0_sure at h
  refine r_iconst (pc := 0) hR (dc dt_X0_sure 0 rfl) ?_
  refine r_istore_n (pc := 1) (L' := [some (.ref (ad 31)), some (iv 0), none]) hR (dc dt_X0_sure 1 rfl) (by decide) rfl rfl ?_
  refine r_iconst (pc := 2) hR (dc dt_X0_sure 2 rfl) ?_
  refine r_istore_n (pc := 3) (L' := [some (.ref (ad 31)), some (iv 0), some (iv 0)]) hR (dc dt_X0_sure 3 rfl) (by decide) rfl rfl ?_
  refine lp_L0_sure_4 hR hT FU 0 0 (rg_c rfl) (rg_c rfl) h
def tb_X10_best : List (Nat × (Instr × Nat)) := [(0, (.iload_n 1, 1)), (1, (.ifCond .lt 8, 3)), (4, (.iload_n 1, 1)), (5, (.iconst 4, 1)), (6, (.if_icmp .le 5, 3)), (9, (.iconst (-1), 1)), (10, (.ireturn, 1)), (11, (.aload_n 0, 1)), (12, (.getfield 44, 3)), (15, (.getfield 193, 3)), (18, (.iconst 2, 1)), (19, (.if_icmp .ge 6, 3)), (22, (.bipush (-5), 2)), (24, (.ireturn, 1)), (25, (.iload_n 1, 1)), (26, (.iconst 3, 1)), (27, (.if_icmp .ne 11, 3)), (30, (.aload_n 0, 1)), (31, (.getfield 44, 3)), (34, (.invokevirtual 202, 3)), (37, (.ireturn, 1)), (38, (.aload_n 0, 1)), (39, (.getfield 44, 3)), (42, (.invokevirtual 205, 3)), (45, (.aload_n 0, 1)), (46, (.getfield 44, 3)), (49, (.getfield 208, 3)), (52, (.ifCond .ne 6, 3)), (55, (.bipush (-2), 2)), (57, (.ireturn, 1)), (58, (.iload_n 1, 1)), (59, (.tableswitch 49 0 2 #[25, 33, 41], 25)), (84, (.aload_n 0, 1)), (85, (.getfield 44, 3)), (88, (.getfield 211, 3)), (91, (.ireturn, 1)), (92, (.aload_n 0, 1)), (93, (.getfield 44, 3)), (96, (.getfield 208, 3)), (99, (.ireturn, 1)), (100, (.aload_n 0, 1)), (101, (.getfield 44, 3)), (104, (.invokevirtual 213, 3)), (107, (.ireturn, 1)), (108, (.aload_n 0, 1)), (109, (.getfield 44, 3)), (112, (.getfield 211, 3)), (115, (.aload_n 0, 1)), (116, (.getfield 44, 3)), (119, (.invokevirtual 202, 3)), (122, (.isub, 1)), (123, (.ireturn, 1))]
set_option maxRecDepth 100000 in
theorem dt_X10_best : (tb_X10_best.all fun q => decide (decode cX10_best q.1 = .ok q.2)) = true := by decide +kernel
set_option maxRecDepth 100000 in
set_option maxHeartbeats 4000000 in
theorem ok_F10_best {m : Mem}  {v1 : Int} (q1 : inR v1) {out : Int × Mem} (h : F10_best m v1 = some out) : CT l G cy ad tt yX10_best cX10_best 2 (some .int) 6 [.ref (ad 0), iv v1] m (some (iv out.1)) (inR out.1) out.2 := by
  refine CT_of (by decide) (Nat.le_of_ble_eq_true rfl) (fun Go hR hT => ?_)
  replace hR : RS l G cy ad tt RX10 cX10_best 2 6 Go := hR
  show Go 0 [some (.ref (ad 0)), some (iv v1)] [] m
  unfold F10_best at h
  refine r_iload_n (pc := 0) hR (dc dt_X10_best 0 rfl) rfl ?_
  refine r_if_lt (pc := 1) (tgt := 9) hR (dc dt_X10_best 1 rfl) (by decide) q1 (fun hc => ?_) (fun hc => ?_)
  · replace h := ite_t hc h
    refine r_iconst (pc := 9) hR (dc dt_X10_best 5 rfl) ?_
    exact r_iret hT (dc dt_X10_best 6 rfl) (congrArg Prod.fst (Option.some.inj h)) (congrArg Prod.snd (Option.some.inj h)) (rg_c rfl)
  replace h := ite_f hc h
  refine r_iload_n (pc := 4) hR (dc dt_X10_best 2 rfl) rfl ?_
  refine r_iconst (pc := 5) hR (dc dt_X10_best 3 rfl) ?_
  refine r_icmp_le (pc := 6) (tgt := 11) hR (dc dt_X10_best 4 rfl) (by decide) q1 (rg_c rfl) (fun hc => ?_) (fun hc => ?_)
  · replace h := ite_t hc h
    refine r_aload_n (pc := 11) hR (dc dt_X10_best 7 rfl) rfl ?_
    refine r_getr (pc := 12) (k2 := 31) hR (dc dt_X10_best 8 rfl) fl_X10_44 tc_0 rfl ?_
    refine r_geti (pc := 15) hR (dc dt_X10_best 9 rfl) fl_X10_193 tc_31 rfl ?_
    refine r_iconst (pc := 18) hR (dc dt_X10_best 10 rfl) ?_
    refine r_icmp_ge (pc := 19) (tgt := 25) hR (dc dt_X10_best 11 rfl) (by decide) (rd_in _ _ _) (rg_c rfl) (fun hc => ?_) (fun hc => ?_)
    · replace h := ite_t hc h
      refine r_iload_n (pc := 25) hR (dc dt_X10_best 14 rfl) rfl ?_
      refine r_iconst (pc := 26) hR (dc dt_X10_best 15 rfl) ?_
      refine r_icmp_ne (pc := 27) (tgt := 38) hR (dc dt_X10_best 16 rfl) (by decide) q1 (rg_c rfl) (fun hc => ?_) (fun hc => ?_)
      · replace h := ite_t hc h
        refine r_aload_n (pc := 38) hR (dc dt_X10_best 21 rfl) rfl ?_
        refine r_getr (pc := 39) (k2 := 31) hR (dc dt_X10_best 22 rfl) fl_X10_44 tc_0 rfl ?_
        obtain ⟨m42, e42, h⟩ := b1_some h
        refine r_callV (pc := 42) (rest := []) hR (dc dt_X10_best 23 rfl) cl_X10_205 tc_31 rfl (ok_F0_find  e42) (by decide) rfl (Nat.le_of_ble_eq_true rfl) rfl (fun q42r => ?_)
        show Go 45 [some (.ref (ad 0)), some (iv v1)] [] m42
        refine r_aload_n (pc := 45) hR (dc dt_X10_best 24 rfl) rfl ?_
        refine r_getr (pc := 46) (k2 := 31) hR (dc dt_X10_best 25 rfl) fl_X10_44 tc_0 rfl ?_
        refine r_geti (pc := 49) hR (dc dt_X10_best 26 rfl) fl_X10_208 tc_31 rfl ?_
        refine r_if_ne (pc := 52) (tgt := 58) hR (dc dt_X10_best 27 rfl) (by decide) (rd_in _ _ _) (fun hc => ?_) (fun hc => ?_)
        · replace h := ite_t hc h
          refine r_iload_n (pc := 58) hR (dc dt_X10_best 30 rfl) rfl ?_
          show Go 59 [some (.ref (ad 0)), some (iv v1)] [iv v1] m42
          by_cases hc0 : v1 = 0
          · replace h := ite_t hc0 h
            refine r_tabIn (pc := 59) (tgt := 84) hR (dc dt_X10_best 31 rfl) q1 (by omega) (by omega) (by rw [hc0]; rfl) (by decide) ?_
            refine r_aload_n (pc := 84) hR (dc dt_X10_best 32 rfl) rfl ?_
            refine r_getr (pc := 85) (k2 := 31) hR (dc dt_X10_best 33 rfl) fl_X10_44 tc_0 rfl ?_
            refine r_geti (pc := 88) hR (dc dt_X10_best 34 rfl) fl_X10_211 tc_31 rfl ?_
            exact r_iret hT (dc dt_X10_best 35 rfl) (congrArg Prod.fst (Option.some.inj h)) (congrArg Prod.snd (Option.some.inj h)) (rd_in _ _ _)
          replace h := ite_f hc0 h
          by_cases hc1 : v1 = 1
          · replace h := ite_t hc1 h
            refine r_tabIn (pc := 59) (tgt := 92) hR (dc dt_X10_best 31 rfl) q1 (by omega) (by omega) (by rw [hc1]; rfl) (by decide) ?_
            refine r_aload_n (pc := 92) hR (dc dt_X10_best 36 rfl) rfl ?_
            refine r_getr (pc := 93) (k2 := 31) hR (dc dt_X10_best 37 rfl) fl_X10_44 tc_0 rfl ?_
            refine r_geti (pc := 96) hR (dc dt_X10_best 38 rfl) fl_X10_208 tc_31 rfl ?_
            exact r_iret hT (dc dt_X10_best 39 rfl) (congrArg Prod.fst (Option.some.inj h)) (congrArg Prod.snd (Option.some.inj h)) (rd_in _ _ _)
          replace h := ite_f hc1 h
          by_cases hc2 : v1 = 2
          · replace h := ite_t hc2 h
            refine r_tabIn (pc := 59) (tgt := 100) hR (dc dt_X10_best 31 rfl) q1 (by omega) (by omega) (by rw [hc2]; rfl) (by decide) ?_
            refine r_aload_n (pc := 100) hR (dc dt_X10_best 40 rfl) rfl ?_
            refine r_getr (pc := 101) (k2 := 31) hR (dc dt_X10_best 41 rfl) fl_X10_44 tc_0 rfl ?_
            obtain ⟨r104, e104, h⟩ := b1_some h
            refine r_callV (pc := 104) (rest := []) hR (dc dt_X10_best 42 rfl) cl_X10_213 tc_31 rfl (ok_F0_sure  e104) (by decide) rfl (Nat.le_of_ble_eq_true rfl) rfl (fun q104r => ?_)
            show Go 107 [some (.ref (ad 0)), some (iv v1)] [iv r104] m42
            exact r_iret hT (dc dt_X10_best 43 rfl) (congrArg Prod.fst (Option.some.inj h)) (congrArg Prod.snd (Option.some.inj h)) q104r
          replace h := ite_f hc2 h
          refine r_tabOut (pc := 59) (tgt := 108) hR (dc dt_X10_best 31 rfl) q1 (by omega) (by decide) ?_
          refine r_aload_n (pc := 108) hR (dc dt_X10_best 44 rfl) rfl ?_
          refine r_getr (pc := 109) (k2 := 31) hR (dc dt_X10_best 45 rfl) fl_X10_44 tc_0 rfl ?_
          refine r_geti (pc := 112) hR (dc dt_X10_best 46 rfl) fl_X10_211 tc_31 rfl ?_
          refine r_aload_n (pc := 115) hR (dc dt_X10_best 47 rfl) rfl ?_
          refine r_getr (pc := 116) (k2 := 31) hR (dc dt_X10_best 48 rfl) fl_X10_44 tc_0 rfl ?_
          obtain ⟨r119, e119, h⟩ := b1_some h
          refine r_callV (pc := 119) (rest := [iv (rd m42 31 4)]) hR (dc dt_X10_best 49 rfl) cl_X10_202 tc_31 rfl (ok_F0_bound  e119) (by decide) rfl (Nat.le_of_ble_eq_true rfl) rfl (fun q119r => ?_)
          show Go 122 [some (.ref (ad 0)), some (iv v1)] [iv r119, iv (rd m42 31 4)] m42
          refine r_isub (pc := 122) hR (dc dt_X10_best 50 rfl) ?_
          exact r_iret hT (dc dt_X10_best 51 rfl) (congrArg Prod.fst (Option.some.inj h)) (congrArg Prod.snd (Option.some.inj h)) (w32_in _)
        replace h := ite_f hc h
        refine r_bipush (pc := 55) hR (dc dt_X10_best 28 rfl) (by decide) ?_
        exact r_iret hT (dc dt_X10_best 29 rfl) (congrArg Prod.fst (Option.some.inj h)) (congrArg Prod.snd (Option.some.inj h)) (rg_c rfl)
      replace h := ite_f hc h
      refine r_aload_n (pc := 30) hR (dc dt_X10_best 17 rfl) rfl ?_
      refine r_getr (pc := 31) (k2 := 31) hR (dc dt_X10_best 18 rfl) fl_X10_44 tc_0 rfl ?_
      obtain ⟨r34, e34, h⟩ := b1_some h
      refine r_callV (pc := 34) (rest := []) hR (dc dt_X10_best 19 rfl) cl_X10_202 tc_31 rfl (ok_F0_bound  e34) (by decide) rfl (Nat.le_of_ble_eq_true rfl) rfl (fun q34r => ?_)
      show Go 37 [some (.ref (ad 0)), some (iv v1)] [iv r34] m
      exact r_iret hT (dc dt_X10_best 20 rfl) (congrArg Prod.fst (Option.some.inj h)) (congrArg Prod.snd (Option.some.inj h)) q34r
    replace h := ite_f hc h
    refine r_bipush (pc := 22) hR (dc dt_X10_best 12 rfl) (by decide) ?_
    exact r_iret hT (dc dt_X10_best 13 rfl) (congrArg Prod.fst (Option.some.inj h)) (congrArg Prod.snd (Option.some.inj h)) (rg_c rfl)
  replace h := ite_f hc h
  refine r_iconst (pc := 9) hR (dc dt_X10_best 5 rfl) ?_
  exact r_iret hT (dc dt_X10_best 6 rfl) (congrArg Prod.fst (Option.some.inj h)) (congrArg Prod.snd (Option.some.inj h)) (rg_c rfl)
def tb_X0_motherPlace : List (Nat × (Instr × Nat)) := [(0, (.aload_n 0, 1)), (1, (.aload_n 0, 1)), (2, (.getfield 22, 3)), (5, (.iload_n 1, 1)), (6, (.iaload, 1)), (7, (.iload_n 2, 1)), (8, (.invokevirtual 133, 3)), (11, (.ireturn, 1))]
set_option maxRecDepth 100000 in
theorem dt_X0_motherPlace : (tb_X0_motherPlace.all fun q => decide (decode cX0_motherPlace q.1 = .ok q.2)) = true := by decide +kernel
set_option maxRecDepth 100000 in
set_option maxHeartbeats 4000000 in
theorem ok_F0_motherPlace {m : Mem}  {v1 v2 : Int} (q1 : inR v1) (q2 : inR v2) {out : Int} (h : F0_motherPlace m v1 v2 = some out) : CT l G cy ad tt yX0_motherPlace cX0_motherPlace 3 (some .int) 2 [.ref (ad 31), iv v1, iv v2] m (some (iv out)) (inR out) m := by
  refine CT_of (by decide) (Nat.le_of_ble_eq_true rfl) (fun Go hR hT => ?_)
  replace hR : RS l G cy ad tt RX0 cX0_motherPlace 3 2 Go := hR
  show Go 0 [some (.ref (ad 31)), some (iv v1), some (iv v2)] [] m
  unfold F0_motherPlace at h
  refine r_aload_n (pc := 0) hR (dc dt_X0_motherPlace 0 rfl) rfl ?_
  refine r_aload_n (pc := 1) hR (dc dt_X0_motherPlace 1 rfl) rfl ?_
  refine r_getr (pc := 2) (k2 := 45) hR (dc dt_X0_motherPlace 2 rfl) fl_X0_22 tc_31 rfl ?_
  refine r_iload_n (pc := 5) hR (dc dt_X0_motherPlace 3 rfl) rfl ?_
  obtain ⟨g1, h⟩ := gd_some h
  refine r_iald (pc := 6) hR (dc dt_X0_motherPlace 4 rfl) tc_45 g1 q1 ?_
  refine r_iload_n (pc := 7) hR (dc dt_X0_motherPlace 5 rfl) rfl ?_
  obtain ⟨r8, e8, h⟩ := b1_some h
  refine r_callV (pc := 8) (rest := []) hR (dc dt_X0_motherPlace 6 rfl) cl_X0_133 tc_31 rfl (ok_F0_chosen (rd_in _ _ _) q2 e8) (by decide) rfl (Nat.le_of_ble_eq_true rfl) rfl (fun q8r => ?_)
  show Go 11 [some (.ref (ad 31)), some (iv v1), some (iv v2)] [iv r8] m
  exact r_iret hT (dc dt_X0_motherPlace 7 rfl) (Option.some.inj h) rfl q8r
def tb_X10_tree : List (Nat × (Instr × Nat)) := [(0, (.iload_n 1, 1)), (1, (.ifCond .lt 18, 3)), (4, (.iload_n 2, 1)), (5, (.ifCond .lt 14, 3)), (8, (.iload_n 2, 1)), (9, (.aload_n 0, 1)), (10, (.getfield 44, 3)), (13, (.getfield 193, 3)), (16, (.if_icmp .lt 5, 3)), (19, (.iconst (-1), 1)), (20, (.ireturn, 1)), (21, (.aload_n 0, 1)), (22, (.getfield 44, 3)), (25, (.getfield 193, 3)), (28, (.iconst 2, 1)), (29, (.if_icmp .ge 6, 3)), (32, (.bipush (-5), 2)), (34, (.ireturn, 1)), (35, (.aload_n 0, 1)), (36, (.getfield 44, 3)), (39, (.invokevirtual 205, 3)), (42, (.aload_n 0, 1)), (43, (.getfield 44, 3)), (46, (.getfield 208, 3)), (49, (.ifCond .ne 6, 3)), (52, (.bipush (-2), 2)), (54, (.ireturn, 1)), (55, (.iload_n 1, 1)), (56, (.aload_n 0, 1)), (57, (.getfield 44, 3)), (60, (.getfield 208, 3)), (63, (.if_icmp .lt 7, 3)), (66, (.iconst (-1), 1)), (67, (.goto 12, 3)), (70, (.aload_n 0, 1)), (71, (.getfield 44, 3)), (74, (.iload_n 1, 1)), (75, (.iload_n 2, 1)), (76, (.invokevirtual 216, 3)), (79, (.ireturn, 1))]
set_option maxRecDepth 100000 in
theorem dt_X10_tree : (tb_X10_tree.all fun q => decide (decode cX10_tree q.1 = .ok q.2)) = true := by decide +kernel
set_option maxRecDepth 100000 in
set_option maxHeartbeats 4000000 in
theorem ok_F10_tree {m : Mem}  {v1 v2 : Int} (q1 : inR v1) (q2 : inR v2) {out : Int × Mem} (h : F10_tree m v1 v2 = some out) : CT l G cy ad tt yX10_tree cX10_tree 3 (some .int) 6 [.ref (ad 0), iv v1, iv v2] m (some (iv out.1)) (inR out.1) out.2 := by
  refine CT_of (by decide) (Nat.le_of_ble_eq_true rfl) (fun Go hR hT => ?_)
  replace hR : RS l G cy ad tt RX10 cX10_tree 3 6 Go := hR
  show Go 0 [some (.ref (ad 0)), some (iv v1), some (iv v2)] [] m
  unfold F10_tree at h
  refine r_iload_n (pc := 0) hR (dc dt_X10_tree 0 rfl) rfl ?_
  refine r_if_lt (pc := 1) (tgt := 19) hR (dc dt_X10_tree 1 rfl) (by decide) q1 (fun hc => ?_) (fun hc => ?_)
  · replace h := ite_t hc h
    refine r_iconst (pc := 19) hR (dc dt_X10_tree 9 rfl) ?_
    exact r_iret hT (dc dt_X10_tree 10 rfl) (congrArg Prod.fst (Option.some.inj h)) (congrArg Prod.snd (Option.some.inj h)) (rg_c rfl)
  replace h := ite_f hc h
  refine r_iload_n (pc := 4) hR (dc dt_X10_tree 2 rfl) rfl ?_
  refine r_if_lt (pc := 5) (tgt := 19) hR (dc dt_X10_tree 3 rfl) (by decide) q2 (fun hc => ?_) (fun hc => ?_)
  · replace h := ite_t hc h
    refine r_iconst (pc := 19) hR (dc dt_X10_tree 9 rfl) ?_
    exact r_iret hT (dc dt_X10_tree 10 rfl) (congrArg Prod.fst (Option.some.inj h)) (congrArg Prod.snd (Option.some.inj h)) (rg_c rfl)
  replace h := ite_f hc h
  refine r_iload_n (pc := 8) hR (dc dt_X10_tree 4 rfl) rfl ?_
  refine r_aload_n (pc := 9) hR (dc dt_X10_tree 5 rfl) rfl ?_
  refine r_getr (pc := 10) (k2 := 31) hR (dc dt_X10_tree 6 rfl) fl_X10_44 tc_0 rfl ?_
  refine r_geti (pc := 13) hR (dc dt_X10_tree 7 rfl) fl_X10_193 tc_31 rfl ?_
  refine r_icmp_lt (pc := 16) (tgt := 21) hR (dc dt_X10_tree 8 rfl) (by decide) q2 (rd_in _ _ _) (fun hc => ?_) (fun hc => ?_)
  · replace h := ite_t hc h
    refine r_aload_n (pc := 21) hR (dc dt_X10_tree 11 rfl) rfl ?_
    refine r_getr (pc := 22) (k2 := 31) hR (dc dt_X10_tree 12 rfl) fl_X10_44 tc_0 rfl ?_
    refine r_geti (pc := 25) hR (dc dt_X10_tree 13 rfl) fl_X10_193 tc_31 rfl ?_
    refine r_iconst (pc := 28) hR (dc dt_X10_tree 14 rfl) ?_
    refine r_icmp_ge (pc := 29) (tgt := 35) hR (dc dt_X10_tree 15 rfl) (by decide) (rd_in _ _ _) (rg_c rfl) (fun hc => ?_) (fun hc => ?_)
    · replace h := ite_t hc h
      refine r_aload_n (pc := 35) hR (dc dt_X10_tree 18 rfl) rfl ?_
      refine r_getr (pc := 36) (k2 := 31) hR (dc dt_X10_tree 19 rfl) fl_X10_44 tc_0 rfl ?_
      obtain ⟨m39, e39, h⟩ := b1_some h
      refine r_callV (pc := 39) (rest := []) hR (dc dt_X10_tree 20 rfl) cl_X10_205 tc_31 rfl (ok_F0_find  e39) (by decide) rfl (Nat.le_of_ble_eq_true rfl) rfl (fun q39r => ?_)
      show Go 42 [some (.ref (ad 0)), some (iv v1), some (iv v2)] [] m39
      refine r_aload_n (pc := 42) hR (dc dt_X10_tree 21 rfl) rfl ?_
      refine r_getr (pc := 43) (k2 := 31) hR (dc dt_X10_tree 22 rfl) fl_X10_44 tc_0 rfl ?_
      refine r_geti (pc := 46) hR (dc dt_X10_tree 23 rfl) fl_X10_208 tc_31 rfl ?_
      refine r_if_ne (pc := 49) (tgt := 55) hR (dc dt_X10_tree 24 rfl) (by decide) (rd_in _ _ _) (fun hc => ?_) (fun hc => ?_)
      · replace h := ite_t hc h
        refine r_iload_n (pc := 55) hR (dc dt_X10_tree 27 rfl) rfl ?_
        refine r_aload_n (pc := 56) hR (dc dt_X10_tree 28 rfl) rfl ?_
        refine r_getr (pc := 57) (k2 := 31) hR (dc dt_X10_tree 29 rfl) fl_X10_44 tc_0 rfl ?_
        refine r_geti (pc := 60) hR (dc dt_X10_tree 30 rfl) fl_X10_208 tc_31 rfl ?_
        refine r_icmp_lt (pc := 63) (tgt := 70) hR (dc dt_X10_tree 31 rfl) (by decide) q1 (rd_in _ _ _) (fun hc => ?_) (fun hc => ?_)
        · replace h := ite_t hc h
          refine r_aload_n (pc := 70) hR (dc dt_X10_tree 34 rfl) rfl ?_
          refine r_getr (pc := 71) (k2 := 31) hR (dc dt_X10_tree 35 rfl) fl_X10_44 tc_0 rfl ?_
          refine r_iload_n (pc := 74) hR (dc dt_X10_tree 36 rfl) rfl ?_
          refine r_iload_n (pc := 75) hR (dc dt_X10_tree 37 rfl) rfl ?_
          obtain ⟨r76, e76, h⟩ := b1_some h
          refine r_callV (pc := 76) (rest := []) hR (dc dt_X10_tree 38 rfl) cl_X10_216 tc_31 rfl (ok_F0_motherPlace q1 q2 e76) (by decide) rfl (Nat.le_of_ble_eq_true rfl) rfl (fun q76r => ?_)
          show Go 79 [some (.ref (ad 0)), some (iv v1), some (iv v2)] [iv r76] m39
          exact r_iret hT (dc dt_X10_tree 39 rfl) (congrArg Prod.fst (Option.some.inj h)) (congrArg Prod.snd (Option.some.inj h)) q76r
        replace h := ite_f hc h
        refine r_iconst (pc := 66) hR (dc dt_X10_tree 32 rfl) ?_
        refine r_goto (pc := 67) (tgt := 79) hR (dc dt_X10_tree 33 rfl) (by decide) ?_
        exact r_iret hT (dc dt_X10_tree 39 rfl) (congrArg Prod.fst (Option.some.inj h)) (congrArg Prod.snd (Option.some.inj h)) (rg_c rfl)
      replace h := ite_f hc h
      refine r_bipush (pc := 52) hR (dc dt_X10_tree 25 rfl) (by decide) ?_
      exact r_iret hT (dc dt_X10_tree 26 rfl) (congrArg Prod.fst (Option.some.inj h)) (congrArg Prod.snd (Option.some.inj h)) (rg_c rfl)
    replace h := ite_f hc h
    refine r_bipush (pc := 32) hR (dc dt_X10_tree 16 rfl) (by decide) ?_
    exact r_iret hT (dc dt_X10_tree 17 rfl) (congrArg Prod.fst (Option.some.inj h)) (congrArg Prod.snd (Option.some.inj h)) (rg_c rfl)
  replace h := ite_f hc h
  refine r_iconst (pc := 19) hR (dc dt_X10_tree 9 rfl) ?_
  exact r_iret hT (dc dt_X10_tree 10 rfl) (congrArg Prod.fst (Option.some.inj h)) (congrArg Prod.snd (Option.some.inj h)) (rg_c rfl)
def tb_X0_neverMothers : List (Nat × (Instr × Nat)) := [(0, (.aload_n 0, 1)), (1, (.getfield 25, 3)), (4, (.iload_n 1, 1)), (5, (.iaload, 1)), (6, (.iconst (-1), 1)), (7, (.ixor, 1)), (8, (.iconst 1, 1)), (9, (.aload_n 0, 1)), (10, (.getfield 48, 3)), (13, (.ishl, 1)), (14, (.iconst 1, 1)), (15, (.isub, 1)), (16, (.iand, 1)), (17, (.ireturn, 1))]
set_option maxRecDepth 100000 in
theorem dt_X0_neverMothers : (tb_X0_neverMothers.all fun q => decide (decode cX0_neverMothers q.1 = .ok q.2)) = true := by decide +kernel
set_option maxRecDepth 100000 in
set_option maxHeartbeats 4000000 in
theorem ok_F0_neverMothers {m : Mem}  {v1 : Int} (q1 : inR v1) {out : Int} (h : F0_neverMothers m v1 = some out) : CT l G cy ad tt yX0_neverMothers cX0_neverMothers 2 (some .int) 0 [.ref (ad 31), iv v1] m (some (iv out)) (inR out) m := by
  refine CT_of (by decide) (Nat.le_of_ble_eq_true rfl) (fun Go hR hT => ?_)
  replace hR : RS l G cy ad tt RX0 cX0_neverMothers 2 0 Go := hR
  show Go 0 [some (.ref (ad 31)), some (iv v1)] [] m
  unfold F0_neverMothers at h
  refine r_aload_n (pc := 0) hR (dc dt_X0_neverMothers 0 rfl) rfl ?_
  refine r_getr (pc := 1) (k2 := 46) hR (dc dt_X0_neverMothers 1 rfl) fl_X0_25 tc_31 rfl ?_
  refine r_iload_n (pc := 4) hR (dc dt_X0_neverMothers 2 rfl) rfl ?_
  obtain ⟨g1, h⟩ := gd_some h
  refine r_iald (pc := 5) hR (dc dt_X0_neverMothers 3 rfl) tc_46 g1 q1 ?_
  refine r_iconst (pc := 6) hR (dc dt_X0_neverMothers 4 rfl) ?_
  refine r_ixor (pc := 7) hR (dc dt_X0_neverMothers 5 rfl) ?_
  refine r_iconst (pc := 8) hR (dc dt_X0_neverMothers 6 rfl) ?_
  refine r_aload_n (pc := 9) hR (dc dt_X0_neverMothers 7 rfl) rfl ?_
  refine r_geti (pc := 10) hR (dc dt_X0_neverMothers 8 rfl) fl_X0_48 tc_31 rfl ?_
  refine r_ishl (pc := 13) hR (dc dt_X0_neverMothers 9 rfl) ?_
  refine r_iconst (pc := 14) hR (dc dt_X0_neverMothers 10 rfl) ?_
  refine r_isub (pc := 15) hR (dc dt_X0_neverMothers 11 rfl) ?_
  refine r_iand (pc := 16) hR (dc dt_X0_neverMothers 12 rfl) ?_
  exact r_iret hT (dc dt_X0_neverMothers 13 rfl) (Option.some.inj h) rfl (ti_in _)
def tb_X10_never : List (Nat × (Instr × Nat)) := [(0, (.iload_n 1, 1)), (1, (.ifCond .lt 14, 3)), (4, (.iload_n 1, 1)), (5, (.aload_n 0, 1)), (6, (.getfield 44, 3)), (9, (.getfield 193, 3)), (12, (.if_icmp .lt 5, 3)), (15, (.iconst (-1), 1)), (16, (.ireturn, 1)), (17, (.aload_n 0, 1)), (18, (.getfield 44, 3)), (21, (.getfield 193, 3)), (24, (.iconst 2, 1)), (25, (.if_icmp .ge 6, 3)), (28, (.bipush (-5), 2)), (30, (.ireturn, 1)), (31, (.aload_n 0, 1)), (32, (.getfield 44, 3)), (35, (.invokevirtual 205, 3)), (38, (.aload_n 0, 1)), (39, (.getfield 44, 3)), (42, (.getfield 208, 3)), (45, (.ifCond .ne 8, 3)), (48, (.bipush (-2), 2)), (50, (.goto 11, 3)), (53, (.aload_n 0, 1)), (54, (.getfield 44, 3)), (57, (.iload_n 1, 1)), (58, (.invokevirtual 219, 3)), (61, (.ireturn, 1))]
set_option maxRecDepth 100000 in
theorem dt_X10_never : (tb_X10_never.all fun q => decide (decode cX10_never q.1 = .ok q.2)) = true := by decide +kernel
set_option maxRecDepth 100000 in
set_option maxHeartbeats 4000000 in
theorem ok_F10_never {m : Mem}  {v1 : Int} (q1 : inR v1) {out : Int × Mem} (h : F10_never m v1 = some out) : CT l G cy ad tt yX10_never cX10_never 2 (some .int) 6 [.ref (ad 0), iv v1] m (some (iv out.1)) (inR out.1) out.2 := by
  refine CT_of (by decide) (Nat.le_of_ble_eq_true rfl) (fun Go hR hT => ?_)
  replace hR : RS l G cy ad tt RX10 cX10_never 2 6 Go := hR
  show Go 0 [some (.ref (ad 0)), some (iv v1)] [] m
  unfold F10_never at h
  refine r_iload_n (pc := 0) hR (dc dt_X10_never 0 rfl) rfl ?_
  refine r_if_lt (pc := 1) (tgt := 15) hR (dc dt_X10_never 1 rfl) (by decide) q1 (fun hc => ?_) (fun hc => ?_)
  · replace h := ite_t hc h
    refine r_iconst (pc := 15) hR (dc dt_X10_never 7 rfl) ?_
    exact r_iret hT (dc dt_X10_never 8 rfl) (congrArg Prod.fst (Option.some.inj h)) (congrArg Prod.snd (Option.some.inj h)) (rg_c rfl)
  replace h := ite_f hc h
  refine r_iload_n (pc := 4) hR (dc dt_X10_never 2 rfl) rfl ?_
  refine r_aload_n (pc := 5) hR (dc dt_X10_never 3 rfl) rfl ?_
  refine r_getr (pc := 6) (k2 := 31) hR (dc dt_X10_never 4 rfl) fl_X10_44 tc_0 rfl ?_
  refine r_geti (pc := 9) hR (dc dt_X10_never 5 rfl) fl_X10_193 tc_31 rfl ?_
  refine r_icmp_lt (pc := 12) (tgt := 17) hR (dc dt_X10_never 6 rfl) (by decide) q1 (rd_in _ _ _) (fun hc => ?_) (fun hc => ?_)
  · replace h := ite_t hc h
    refine r_aload_n (pc := 17) hR (dc dt_X10_never 9 rfl) rfl ?_
    refine r_getr (pc := 18) (k2 := 31) hR (dc dt_X10_never 10 rfl) fl_X10_44 tc_0 rfl ?_
    refine r_geti (pc := 21) hR (dc dt_X10_never 11 rfl) fl_X10_193 tc_31 rfl ?_
    refine r_iconst (pc := 24) hR (dc dt_X10_never 12 rfl) ?_
    refine r_icmp_ge (pc := 25) (tgt := 31) hR (dc dt_X10_never 13 rfl) (by decide) (rd_in _ _ _) (rg_c rfl) (fun hc => ?_) (fun hc => ?_)
    · replace h := ite_t hc h
      refine r_aload_n (pc := 31) hR (dc dt_X10_never 16 rfl) rfl ?_
      refine r_getr (pc := 32) (k2 := 31) hR (dc dt_X10_never 17 rfl) fl_X10_44 tc_0 rfl ?_
      obtain ⟨m35, e35, h⟩ := b1_some h
      refine r_callV (pc := 35) (rest := []) hR (dc dt_X10_never 18 rfl) cl_X10_205 tc_31 rfl (ok_F0_find  e35) (by decide) rfl (Nat.le_of_ble_eq_true rfl) rfl (fun q35r => ?_)
      show Go 38 [some (.ref (ad 0)), some (iv v1)] [] m35
      refine r_aload_n (pc := 38) hR (dc dt_X10_never 19 rfl) rfl ?_
      refine r_getr (pc := 39) (k2 := 31) hR (dc dt_X10_never 20 rfl) fl_X10_44 tc_0 rfl ?_
      refine r_geti (pc := 42) hR (dc dt_X10_never 21 rfl) fl_X10_208 tc_31 rfl ?_
      refine r_if_ne (pc := 45) (tgt := 53) hR (dc dt_X10_never 22 rfl) (by decide) (rd_in _ _ _) (fun hc => ?_) (fun hc => ?_)
      · replace h := ite_t hc h
        refine r_aload_n (pc := 53) hR (dc dt_X10_never 25 rfl) rfl ?_
        refine r_getr (pc := 54) (k2 := 31) hR (dc dt_X10_never 26 rfl) fl_X10_44 tc_0 rfl ?_
        refine r_iload_n (pc := 57) hR (dc dt_X10_never 27 rfl) rfl ?_
        obtain ⟨r58, e58, h⟩ := b1_some h
        refine r_callV (pc := 58) (rest := []) hR (dc dt_X10_never 28 rfl) cl_X10_219 tc_31 rfl (ok_F0_neverMothers q1 e58) (by decide) rfl (Nat.le_of_ble_eq_true rfl) rfl (fun q58r => ?_)
        show Go 61 [some (.ref (ad 0)), some (iv v1)] [iv r58] m35
        exact r_iret hT (dc dt_X10_never 29 rfl) (congrArg Prod.fst (Option.some.inj h)) (congrArg Prod.snd (Option.some.inj h)) q58r
      replace h := ite_f hc h
      refine r_bipush (pc := 48) hR (dc dt_X10_never 23 rfl) (by decide) ?_
      refine r_goto (pc := 50) (tgt := 61) hR (dc dt_X10_never 24 rfl) (by decide) ?_
      exact r_iret hT (dc dt_X10_never 29 rfl) (congrArg Prod.fst (Option.some.inj h)) (congrArg Prod.snd (Option.some.inj h)) (rg_c rfl)
    replace h := ite_f hc h
    refine r_bipush (pc := 28) hR (dc dt_X10_never 14 rfl) (by decide) ?_
    exact r_iret hT (dc dt_X10_never 15 rfl) (congrArg Prod.fst (Option.some.inj h)) (congrArg Prod.snd (Option.some.inj h)) (rg_c rfl)
  replace h := ite_f hc h
  refine r_iconst (pc := 15) hR (dc dt_X10_never 7 rfl) ?_
  exact r_iret hT (dc dt_X10_never 8 rfl) (congrArg Prod.fst (Option.some.inj h)) (congrArg Prod.snd (Option.some.inj h)) (rg_c rfl)
def tb_X0_borneOut : List (Nat × (Instr × Nat)) := [(0, (.aload_n 0, 1)), (1, (.getfield 25, 3)), (4, (.iload_n 1, 1)), (5, (.iaload, 1)), (6, (.iload_n 2, 1)), (7, (.ishr, 1)), (8, (.iconst 1, 1)), (9, (.iand, 1)), (10, (.ifCond .ne 5, 3)), (13, (.iconst 0, 1)), (14, (.ireturn, 1)), (15, (.aload_n 0, 1)), (16, (.getfield 25, 3)), (19, (.iload_n 1, 1)), (20, (.iaload, 1)), (21, (.invokestatic 66, 3)), (24, (.iconst 1, 1)), (25, (.if_icmp .ne 7, 3)), (28, (.iconst 2, 1)), (29, (.goto 4, 3)), (32, (.iconst 1, 1)), (33, (.ireturn, 1))]
set_option maxRecDepth 100000 in
theorem dt_X0_borneOut : (tb_X0_borneOut.all fun q => decide (decode cX0_borneOut q.1 = .ok q.2)) = true := by decide +kernel
set_option maxRecDepth 100000 in
set_option maxHeartbeats 4000000 in
theorem ok_F0_borneOut {m : Mem}  {v1 v2 : Int} (q1 : inR v1) (q2 : inR v2) {out : Int} (h : F0_borneOut m v1 v2 = some out) : CT l G cy ad tt yX0_borneOut cX0_borneOut 3 (some .int) 1 [.ref (ad 31), iv v1, iv v2] m (some (iv out)) (inR out) m := by
  refine CT_of (by decide) (Nat.le_of_ble_eq_true rfl) (fun Go hR hT => ?_)
  replace hR : RS l G cy ad tt RX0 cX0_borneOut 3 1 Go := hR
  show Go 0 [some (.ref (ad 31)), some (iv v1), some (iv v2)] [] m
  unfold F0_borneOut at h
  refine r_aload_n (pc := 0) hR (dc dt_X0_borneOut 0 rfl) rfl ?_
  refine r_getr (pc := 1) (k2 := 46) hR (dc dt_X0_borneOut 1 rfl) fl_X0_25 tc_31 rfl ?_
  refine r_iload_n (pc := 4) hR (dc dt_X0_borneOut 2 rfl) rfl ?_
  obtain ⟨g1, h⟩ := gd_some h
  refine r_iald (pc := 5) hR (dc dt_X0_borneOut 3 rfl) tc_46 g1 q1 ?_
  refine r_iload_n (pc := 6) hR (dc dt_X0_borneOut 4 rfl) rfl ?_
  refine r_ishr (pc := 7) hR (dc dt_X0_borneOut 5 rfl) ?_
  refine r_iconst (pc := 8) hR (dc dt_X0_borneOut 6 rfl) ?_
  refine r_iand (pc := 9) hR (dc dt_X0_borneOut 7 rfl) ?_
  refine r_if_ne (pc := 10) (tgt := 15) hR (dc dt_X0_borneOut 8 rfl) (by decide) (ti_in _) (fun hc => ?_) (fun hc => ?_)
  · replace h := ite_t hc h
    refine r_aload_n (pc := 15) hR (dc dt_X0_borneOut 11 rfl) rfl ?_
    refine r_getr (pc := 16) (k2 := 46) hR (dc dt_X0_borneOut 12 rfl) fl_X0_25 tc_31 rfl ?_
    refine r_iload_n (pc := 19) hR (dc dt_X0_borneOut 13 rfl) rfl ?_
    obtain ⟨g1, h⟩ := gd_some h
    refine r_iald (pc := 20) hR (dc dt_X0_borneOut 14 rfl) tc_46 g1 q1 ?_
    refine r_callS (pc := 21) (rest := []) hR (dc dt_X0_borneOut 15 rfl) cl_X0_66 (ok_FJ6_bitCount_0f7a4 (rd_in _ _ _)) (by decide) rfl (Nat.le_of_ble_eq_true rfl) rfl (fun q21r => ?_)
    show Go 24 [some (.ref (ad 31)), some (iv v1), some (iv v2)] [iv (FJ6_bitCount_0f7a4 (rd m 46 v1))] m
    refine r_iconst (pc := 24) hR (dc dt_X0_borneOut 16 rfl) ?_
    refine r_icmp_ne (pc := 25) (tgt := 32) hR (dc dt_X0_borneOut 17 rfl) (by decide) q21r (rg_c rfl) (fun hc => ?_) (fun hc => ?_)
    · replace h := ite_t hc h
      refine r_iconst (pc := 32) hR (dc dt_X0_borneOut 20 rfl) ?_
      exact r_iret hT (dc dt_X0_borneOut 21 rfl) (Option.some.inj h) rfl (rg_c rfl)
    replace h := ite_f hc h
    refine r_iconst (pc := 28) hR (dc dt_X0_borneOut 18 rfl) ?_
    refine r_goto (pc := 29) (tgt := 33) hR (dc dt_X0_borneOut 19 rfl) (by decide) ?_
    exact r_iret hT (dc dt_X0_borneOut 21 rfl) (Option.some.inj h) rfl (rg_c rfl)
  replace h := ite_f hc h
  refine r_iconst (pc := 13) hR (dc dt_X0_borneOut 9 rfl) ?_
  exact r_iret hT (dc dt_X0_borneOut 10 rfl) (Option.some.inj h) rfl (rg_c rfl)
def tb_X10_claim : List (Nat × (Instr × Nat)) := [(0, (.aload_n 0, 1)), (1, (.getfield 19, 3)), (4, (.iload_n 1, 1)), (5, (.invokevirtual 112, 3)), (8, (.ifCond .eq 15, 3)), (11, (.aload_n 0, 1)), (12, (.getfield 19, 3)), (15, (.getfield 120, 3)), (18, (.iload_n 1, 1)), (19, (.iaload, 1)), (20, (.ifCond .ge 5, 3)), (23, (.iconst (-1), 1)), (24, (.ireturn, 1)), (25, (.aload_n 0, 1)), (26, (.getfield 44, 3)), (29, (.iload_n 1, 1)), (30, (.invokevirtual 190, 3)), (33, (.istore_n 2, 1)), (34, (.aload_n 0, 1)), (35, (.getfield 44, 3)), (38, (.aload_n 0, 1)), (39, (.getfield 19, 3)), (42, (.getfield 120, 3)), (45, (.iload_n 1, 1)), (46, (.iaload, 1)), (47, (.invokevirtual 190, 3)), (50, (.istore_n 3, 1)), (51, (.iload_n 2, 1)), (52, (.ifCond .lt 7, 3)), (55, (.iload_n 3, 1)), (56, (.ifCond .ge 5, 3)), (59, (.iconst (-1), 1)), (60, (.ireturn, 1)), (61, (.aload_n 0, 1)), (62, (.getfield 44, 3)), (65, (.invokevirtual 205, 3)), (68, (.aload_n 0, 1)), (69, (.getfield 44, 3)), (72, (.getfield 208, 3)), (75, (.ifCond .ne 8, 3)), (78, (.bipush (-2), 2)), (80, (.goto 12, 3)), (83, (.aload_n 0, 1)), (84, (.getfield 44, 3)), (87, (.iload_n 2, 1)), (88, (.iload_n 3, 1)), (89, (.invokevirtual 222, 3)), (92, (.ireturn, 1))]
set_option maxRecDepth 100000 in
theorem dt_X10_claim : (tb_X10_claim.all fun q => decide (decode cX10_claim q.1 = .ok q.2)) = true := by decide +kernel
set_option maxRecDepth 100000 in
set_option maxHeartbeats 4000000 in
theorem ok_F10_claim {m : Mem}  {v1 : Int} (q1 : inR v1) {out : Int × Mem} (h : F10_claim m v1 = some out) : CT l G cy ad tt yX10_claim cX10_claim 4 (some .int) 6 [.ref (ad 0), iv v1] m (some (iv out.1)) (inR out.1) out.2 := by
  refine CT_of (by decide) (Nat.le_of_ble_eq_true rfl) (fun Go hR hT => ?_)
  replace hR : RS l G cy ad tt RX10 cX10_claim 4 6 Go := hR
  show Go 0 [some (.ref (ad 0)), some (iv v1), none, none] [] m
  unfold F10_claim at h
  refine r_aload_n (pc := 0) hR (dc dt_X10_claim 0 rfl) rfl ?_
  refine r_getr (pc := 1) (k2 := 4) hR (dc dt_X10_claim 1 rfl) fl_X10_19 tc_0 rfl ?_
  refine r_iload_n (pc := 4) hR (dc dt_X10_claim 2 rfl) rfl ?_
  refine r_callV (pc := 5) (rest := []) hR (dc dt_X10_claim 3 rfl) cl_X10_112 tc_4 rfl (ok_F1_has q1) (by decide) rfl (Nat.le_of_ble_eq_true rfl) rfl (fun q5r => ?_)
  show Go 8 [some (.ref (ad 0)), some (iv v1), none, none] [iv (F1_has m v1)] m
  refine r_if_eq (pc := 8) (tgt := 23) hR (dc dt_X10_claim 4 rfl) (by decide) (inZ_R q5r) (fun hc => ?_) (fun hc => ?_)
  · replace h := ite_t hc h
    refine r_iconst (pc := 23) hR (dc dt_X10_claim 11 rfl) ?_
    exact r_iret hT (dc dt_X10_claim 12 rfl) (congrArg Prod.fst (Option.some.inj h)) (congrArg Prod.snd (Option.some.inj h)) (rg_c rfl)
  replace h := ite_f hc h
  refine r_aload_n (pc := 11) hR (dc dt_X10_claim 5 rfl) rfl ?_
  refine r_getr (pc := 12) (k2 := 4) hR (dc dt_X10_claim 6 rfl) fl_X10_19 tc_0 rfl ?_
  refine r_getr (pc := 15) (k2 := 7) hR (dc dt_X10_claim 7 rfl) fl_X10_120 tc_4 rfl ?_
  refine r_iload_n (pc := 18) hR (dc dt_X10_claim 8 rfl) rfl ?_
  obtain ⟨g1, h⟩ := gd_some h
  refine r_iald (pc := 19) hR (dc dt_X10_claim 9 rfl) tc_7 g1 q1 ?_
  refine r_if_ge (pc := 20) (tgt := 25) hR (dc dt_X10_claim 10 rfl) (by decide) (rd_in _ _ _) (fun hc => ?_) (fun hc => ?_)
  · replace h := ite_t hc h
    refine r_aload_n (pc := 25) hR (dc dt_X10_claim 13 rfl) rfl ?_
    refine r_getr (pc := 26) (k2 := 31) hR (dc dt_X10_claim 14 rfl) fl_X10_44 tc_0 rfl ?_
    refine r_iload_n (pc := 29) hR (dc dt_X10_claim 15 rfl) rfl ?_
    obtain ⟨r30, e30, h⟩ := b1_some h
    refine r_callV (pc := 30) (rest := []) hR (dc dt_X10_claim 16 rfl) cl_X10_190 tc_31 rfl (ok_F0_placeOf q1 e30) (by decide) rfl (Nat.le_of_ble_eq_true rfl) rfl (fun q30r => ?_)
    show Go 33 [some (.ref (ad 0)), some (iv v1), none, none] [iv r30] m
    refine r_istore_n (pc := 33) (L' := [some (.ref (ad 0)), some (iv v1), some (iv r30), none]) hR (dc dt_X10_claim 17 rfl) (by decide) rfl rfl ?_
    refine r_aload_n (pc := 34) hR (dc dt_X10_claim 18 rfl) rfl ?_
    refine r_getr (pc := 35) (k2 := 31) hR (dc dt_X10_claim 19 rfl) fl_X10_44 tc_0 rfl ?_
    refine r_aload_n (pc := 38) hR (dc dt_X10_claim 20 rfl) rfl ?_
    refine r_getr (pc := 39) (k2 := 4) hR (dc dt_X10_claim 21 rfl) fl_X10_19 tc_0 rfl ?_
    refine r_getr (pc := 42) (k2 := 7) hR (dc dt_X10_claim 22 rfl) fl_X10_120 tc_4 rfl ?_
    refine r_iload_n (pc := 45) hR (dc dt_X10_claim 23 rfl) rfl ?_
    obtain ⟨g1, h⟩ := gd_some h
    refine r_iald (pc := 46) hR (dc dt_X10_claim 24 rfl) tc_7 g1 q1 ?_
    obtain ⟨r47, e47, h⟩ := b1_some h
    refine r_callV (pc := 47) (rest := []) hR (dc dt_X10_claim 25 rfl) cl_X10_190 tc_31 rfl (ok_F0_placeOf (rd_in _ _ _) e47) (by decide) rfl (Nat.le_of_ble_eq_true rfl) rfl (fun q47r => ?_)
    show Go 50 [some (.ref (ad 0)), some (iv v1), some (iv r30), none] [iv r47] m
    refine r_istore_n (pc := 50) (L' := [some (.ref (ad 0)), some (iv v1), some (iv r30), some (iv r47)]) hR (dc dt_X10_claim 26 rfl) (by decide) rfl rfl ?_
    refine r_iload_n (pc := 51) hR (dc dt_X10_claim 27 rfl) rfl ?_
    refine r_if_lt (pc := 52) (tgt := 59) hR (dc dt_X10_claim 28 rfl) (by decide) q30r (fun hc => ?_) (fun hc => ?_)
    · replace h := ite_t hc h
      refine r_iconst (pc := 59) hR (dc dt_X10_claim 31 rfl) ?_
      exact r_iret hT (dc dt_X10_claim 32 rfl) (congrArg Prod.fst (Option.some.inj h)) (congrArg Prod.snd (Option.some.inj h)) (rg_c rfl)
    replace h := ite_f hc h
    refine r_iload_n (pc := 55) hR (dc dt_X10_claim 29 rfl) rfl ?_
    refine r_if_ge (pc := 56) (tgt := 61) hR (dc dt_X10_claim 30 rfl) (by decide) q47r (fun hc => ?_) (fun hc => ?_)
    · replace h := ite_t hc h
      refine r_aload_n (pc := 61) hR (dc dt_X10_claim 33 rfl) rfl ?_
      refine r_getr (pc := 62) (k2 := 31) hR (dc dt_X10_claim 34 rfl) fl_X10_44 tc_0 rfl ?_
      obtain ⟨m65, e65, h⟩ := b1_some h
      refine r_callV (pc := 65) (rest := []) hR (dc dt_X10_claim 35 rfl) cl_X10_205 tc_31 rfl (ok_F0_find  e65) (by decide) rfl (Nat.le_of_ble_eq_true rfl) rfl (fun q65r => ?_)
      show Go 68 [some (.ref (ad 0)), some (iv v1), some (iv r30), some (iv r47)] [] m65
      refine r_aload_n (pc := 68) hR (dc dt_X10_claim 36 rfl) rfl ?_
      refine r_getr (pc := 69) (k2 := 31) hR (dc dt_X10_claim 37 rfl) fl_X10_44 tc_0 rfl ?_
      refine r_geti (pc := 72) hR (dc dt_X10_claim 38 rfl) fl_X10_208 tc_31 rfl ?_
      refine r_if_ne (pc := 75) (tgt := 83) hR (dc dt_X10_claim 39 rfl) (by decide) (rd_in _ _ _) (fun hc => ?_) (fun hc => ?_)
      · replace h := ite_t hc h
        refine r_aload_n (pc := 83) hR (dc dt_X10_claim 42 rfl) rfl ?_
        refine r_getr (pc := 84) (k2 := 31) hR (dc dt_X10_claim 43 rfl) fl_X10_44 tc_0 rfl ?_
        refine r_iload_n (pc := 87) hR (dc dt_X10_claim 44 rfl) rfl ?_
        refine r_iload_n (pc := 88) hR (dc dt_X10_claim 45 rfl) rfl ?_
        obtain ⟨r89, e89, h⟩ := b1_some h
        refine r_callV (pc := 89) (rest := []) hR (dc dt_X10_claim 46 rfl) cl_X10_222 tc_31 rfl (ok_F0_borneOut q30r q47r e89) (by decide) rfl (Nat.le_of_ble_eq_true rfl) rfl (fun q89r => ?_)
        show Go 92 [some (.ref (ad 0)), some (iv v1), some (iv r30), some (iv r47)] [iv r89] m65
        exact r_iret hT (dc dt_X10_claim 47 rfl) (congrArg Prod.fst (Option.some.inj h)) (congrArg Prod.snd (Option.some.inj h)) q89r
      replace h := ite_f hc h
      refine r_bipush (pc := 78) hR (dc dt_X10_claim 40 rfl) (by decide) ?_
      refine r_goto (pc := 80) (tgt := 92) hR (dc dt_X10_claim 41 rfl) (by decide) ?_
      exact r_iret hT (dc dt_X10_claim 47 rfl) (congrArg Prod.fst (Option.some.inj h)) (congrArg Prod.snd (Option.some.inj h)) (rg_c rfl)
    replace h := ite_f hc h
    refine r_iconst (pc := 59) hR (dc dt_X10_claim 31 rfl) ?_
    exact r_iret hT (dc dt_X10_claim 32 rfl) (congrArg Prod.fst (Option.some.inj h)) (congrArg Prod.snd (Option.some.inj h)) (rg_c rfl)
  replace h := ite_f hc h
  refine r_iconst (pc := 23) hR (dc dt_X10_claim 11 rfl) ?_
  exact r_iret hT (dc dt_X10_claim 12 rfl) (congrArg Prod.fst (Option.some.inj h)) (congrArg Prod.snd (Option.some.inj h)) (rg_c rfl)
def tb_X4_lowest : List (Nat × (Instr × Nat)) := [(0, (.iconst 0, 1)), (1, (.istore_n 1, 1)), (2, (.iload_n 1, 1)), (3, (.iconst 3, 1)), (4, (.if_icmp .ge 17, 3)), (7, (.iload_n 0, 1)), (8, (.iload_n 1, 1)), (9, (.ishr, 1)), (10, (.iconst 1, 1)), (11, (.iand, 1)), (12, (.ifCond .ne 9, 3)), (15, (.iinc 1 1, 3)), (18, (.goto (-16), 3)), (21, (.iload_n 1, 1)), (22, (.ireturn, 1))]
set_option maxRecDepth 100000 in
theorem dt_X4_lowest : (tb_X4_lowest.all fun q => decide (decode cX4_lowest q.1 = .ok q.2)) = true := by decide +kernel
set_option maxRecDepth 100000 in
set_option maxHeartbeats 4000000 in
theorem lp_L4_lowest_2 {Go : Nat → List (Option Value) → List Value → Mem → Prop} (hR : RS l G cy ad tt RX4 cX4_lowest 2 0 Go) {out : Int} {m : Mem} (hT : RT cX4_lowest (some (iv out)) (inR out) m (some .int) Go) {v0 : Int} (qv0 : inR v0) : ∀ (n : Nat) (v1 : Int), inR v1 → L4_lowest_2 v0 n v1 = some out → Go 2 [some (iv v0), some (iv v1)] [] m := by
  intro n
  induction n with
  | zero =>
    intro v1 qv1 h
    cases h
  | succ n ih =>
    intro v1 qv1 h
    rw [L4_lowest_2] at h
    refine r_iload_n (pc := 2) hR (dc dt_X4_lowest 2 rfl) rfl ?_
    refine r_iconst (pc := 3) hR (dc dt_X4_lowest 3 rfl) ?_
    refine r_icmp_ge (pc := 4) (tgt := 21) hR (dc dt_X4_lowest 4 rfl) (by decide) qv1 (rg_c rfl) (fun hc => ?_) (fun hc => ?_)
    · replace h := ite_t hc h
      refine r_iload_n (pc := 21) hR (dc dt_X4_lowest 13 rfl) rfl ?_
      exact r_iret hT (dc dt_X4_lowest 14 rfl) (Option.some.inj h) rfl qv1
    replace h := ite_f hc h
    refine r_iload_n (pc := 7) hR (dc dt_X4_lowest 5 rfl) rfl ?_
    refine r_iload_n (pc := 8) hR (dc dt_X4_lowest 6 rfl) rfl ?_
    refine r_ishr (pc := 9) hR (dc dt_X4_lowest 7 rfl) ?_
    refine r_iconst (pc := 10) hR (dc dt_X4_lowest 8 rfl) ?_
    refine r_iand (pc := 11) hR (dc dt_X4_lowest 9 rfl) ?_
    refine r_if_ne (pc := 12) (tgt := 21) hR (dc dt_X4_lowest 10 rfl) (by decide) (ti_in _) (fun hc => ?_) (fun hc => ?_)
    · replace h := ite_t hc h
      refine r_iload_n (pc := 21) hR (dc dt_X4_lowest 13 rfl) rfl ?_
      exact r_iret hT (dc dt_X4_lowest 14 rfl) (Option.some.inj h) rfl qv1
    replace h := ite_f hc h
    refine r_iinc (pc := 15) (L' := [some (iv v0), some (iv (w32 (v1 + 1)))]) hR (dc dt_X4_lowest 11 rfl) rfl (by decide) rfl rfl ?_
    refine r_goto (pc := 18) (tgt := 2) hR (dc dt_X4_lowest 12 rfl) (by decide) ?_
    exact ih (w32 (v1 + 1)) (w32_in _) h
set_option maxRecDepth 100000 in
set_option maxHeartbeats 4000000 in
theorem ok_F4_lowest {m : Mem}  {v0 : Int} (q0 : inR v0) {out : Int} (h : F4_lowest v0 = some out) : CT l G cy ad tt yX4_lowest cX4_lowest 2 (some .int) 0 [iv v0] m (some (iv out)) (inR out) m := by
  refine CT_of (by decide) (Nat.le_of_ble_eq_true rfl) (fun Go hR hT => ?_)
  replace hR : RS l G cy ad tt RX4 cX4_lowest 2 0 Go := hR
  show Go 0 [some (iv v0), none] [] m
  unfold F4_lowest at h
  refine r_iconst (pc := 0) hR (dc dt_X4_lowest 0 rfl) ?_
  refine r_istore_n (pc := 1) (L' := [some (iv v0), some (iv 0)]) hR (dc dt_X4_lowest 1 rfl) (by decide) rfl rfl ?_
  refine lp_L4_lowest_2 hR hT q0 FU 0 (rg_c rfl) h
def tb_X4_fillClause : List (Nat × (Instr × Nat)) := [(0, (.aload_n 0, 1)), (1, (.getfield 28, 3)), (4, (.aload_n 0, 1)), (5, (.getfield 24, 3)), (8, (.iload_n 1, 1)), (9, (.invokevirtual 38, 3)), (12, (.aload_n 0, 1)), (13, (.getfield 28, 3)), (16, (.invokevirtual 45, 3)), (19, (.pop, 1)), (20, (.aload_n 0, 1)), (21, (.getfield 28, 3)), (24, (.invokevirtual 49, 3)), (27, (.iconst 0, 1)), (28, (.istore_n 2, 1)), (29, (.iload_n 2, 1)), (30, (.aload_n 0, 1)), (31, (.getfield 24, 3)), (34, (.getfield 56, 3)), (37, (.if_icmp .ge 54, 3)), (40, (.aload_n 0, 1)), (41, (.getfield 24, 3)), (44, (.iload_n 2, 1)), (45, (.iload_n 1, 1)), (46, (.invokevirtual 62, 3)), (49, (.istore_n 3, 1)), (50, (.aload_n 0, 1)), (51, (.getfield 9, 3)), (54, (.aload_n 0, 1)), (55, (.getfield 24, 3)), (58, (.iload_n 2, 1)), (59, (.iload_n 1, 1)), (60, (.invokevirtual 66, 3)), (63, (.iload_n 3, 1)), (64, (.bipush 9, 2)), (66, (.if_icmp .eq 7, 3)), (69, (.iload_n 3, 1)), (70, (.goto 14, 3)), (73, (.aload_n 0, 1)), (74, (.getfield 28, 3)), (77, (.iload_n 2, 1)), (78, (.invokevirtual 52, 3)), (81, (.invokestatic 69, 3)), (84, (.iastore, 1)), (85, (.iinc 2 1, 3)), (88, (.goto (-59), 3)), (91, (.return_, 1))]
set_option maxRecDepth 100000 in
theorem dt_X4_fillClause : (tb_X4_fillClause.all fun q => decide (decode cX4_fillClause q.1 = .ok q.2)) = true := by decide +kernel
set_option maxRecDepth 100000 in
set_option maxHeartbeats 4000000 in
theorem lp_L4_fillClause_29 {Go : Nat → List (Option Value) → List Value → Mem → Prop} (hR : RS l G cy ad tt RX4 cX4_fillClause 4 3 Go) {out : Mem} (hT : RT cX4_fillClause none True out none Go) {v1 : Int} (qv1 : inR v1) : ∀ (n : Nat) (v2 : Int) (m : Mem), inR v2 → L4_fillClause_29 v1 n v2 m = some out → Go 29 [some (.ref (ad 26)), some (iv v1), some (iv v2), none] [] m := by
  intro n
  induction n with
  | zero =>
    intro v2 m qv2 h
    cases h
  | succ n ih =>
    intro v2 m qv2 h
    rw [L4_fillClause_29] at h
    refine r_iload_n (pc := 29) hR (dc dt_X4_fillClause 15 rfl) rfl ?_
    refine r_aload_n (pc := 30) hR (dc dt_X4_fillClause 16 rfl) rfl ?_
    refine r_getr (pc := 31) (k2 := 4) hR (dc dt_X4_fillClause 17 rfl) fl_X4_24 tc_26 rfl ?_
    refine r_geti (pc := 34) hR (dc dt_X4_fillClause 18 rfl) fl_X4_56 tc_4 rfl ?_
    refine r_icmp_ge (pc := 37) (tgt := 91) hR (dc dt_X4_fillClause 19 rfl) (by decide) qv2 (rd_in _ _ _) (fun hc => ?_) (fun hc => ?_)
    · replace h := ite_t hc h
      exact r_vret hT (dc dt_X4_fillClause 46 rfl) (Option.some.inj h)
    replace h := ite_f hc h
    refine r_aload_n (pc := 40) hR (dc dt_X4_fillClause 20 rfl) rfl ?_
    refine r_getr (pc := 41) (k2 := 4) hR (dc dt_X4_fillClause 21 rfl) fl_X4_24 tc_26 rfl ?_
    refine r_iload_n (pc := 44) hR (dc dt_X4_fillClause 22 rfl) rfl ?_
    refine r_iload_n (pc := 45) hR (dc dt_X4_fillClause 23 rfl) rfl ?_
    obtain ⟨r46, e46, h⟩ := b1_some h
    refine r_callV (pc := 46) (rest := []) hR (dc dt_X4_fillClause 24 rfl) cl_X4_62 tc_4 rfl (ok_F1_told qv2 qv1 e46) (by decide) rfl (Nat.le_of_ble_eq_true rfl) rfl (fun q46r => ?_)
    show Go 49 [some (.ref (ad 26)), some (iv v1), some (iv v2), none] [iv r46] m
    refine r_istore_n (pc := 49) (L' := [some (.ref (ad 26)), some (iv v1), some (iv v2), some (iv r46)]) hR (dc dt_X4_fillClause 25 rfl) (by decide) rfl rfl ?_
    refine r_aload_n (pc := 50) hR (dc dt_X4_fillClause 26 rfl) rfl ?_
    refine r_getr (pc := 51) (k2 := 27) hR (dc dt_X4_fillClause 27 rfl) fl_X4_9 tc_26 rfl ?_
    refine r_aload_n (pc := 54) hR (dc dt_X4_fillClause 28 rfl) rfl ?_
    refine r_getr (pc := 55) (k2 := 4) hR (dc dt_X4_fillClause 29 rfl) fl_X4_24 tc_26 rfl ?_
    refine r_iload_n (pc := 58) hR (dc dt_X4_fillClause 30 rfl) rfl ?_
    refine r_iload_n (pc := 59) hR (dc dt_X4_fillClause 31 rfl) rfl ?_
    refine r_callV (pc := 60) (rest := [.ref (ad 27)]) hR (dc dt_X4_fillClause 32 rfl) cl_X4_66 tc_4 rfl (ok_F1_formCell qv2 qv1) (by decide) rfl (Nat.le_of_ble_eq_true rfl) rfl (fun q60r => ?_)
    show Go 63 [some (.ref (ad 26)), some (iv v1), some (iv v2), some (iv r46)] [iv (F1_formCell v2 v1), .ref (ad 27)] m
    refine r_iload_n (pc := 63) hR (dc dt_X4_fillClause 33 rfl) rfl ?_
    refine r_bipush (pc := 64) hR (dc dt_X4_fillClause 34 rfl) (by decide) ?_
    refine jn_e h (fun (K : Int → Option Mem) => ∀ (x84 : Int), inR x84 → K x84 = some out → Go 84 [some (.ref (ad 26)), some (iv v1), some (iv v2), none] [iv x84, iv (F1_formCell v2 v1), .ref (ad 27)] m) (fun x84 qx84 h => ?_) (fun K84 J84 h => ?_)
    · obtain ⟨g1, h⟩ := gd_some h
      refine r_iast (pc := 84) hR (dc dt_X4_fillClause 43 rfl) tc_27 g1 q60r ?_
      replace h := stw_e h
      generalize wr m 27 (F1_formCell v2 v1) x84 = m84 at h ⊢
      refine r_iinc (pc := 85) (L' := [some (.ref (ad 26)), some (iv v1), some (iv (w32 (v2 + 1))), none]) hR (dc dt_X4_fillClause 44 rfl) rfl (by decide) rfl rfl ?_
      refine r_goto (pc := 88) (tgt := 29) hR (dc dt_X4_fillClause 45 rfl) (by decide) ?_
      exact ih (w32 (v2 + 1)) m84 (w32_in _) h
    refine r_icmp_eq (pc := 66) (tgt := 73) hR (dc dt_X4_fillClause 35 rfl) (by decide) q46r (rg_c rfl) (fun hc => ?_) (fun hc => ?_)
    · replace h := ite_t hc h
      refine r_aload_n (pc := 73) hR (dc dt_X4_fillClause 38 rfl) rfl ?_
      refine r_getr (pc := 74) (k2 := 14) hR (dc dt_X4_fillClause 39 rfl) fl_X4_28 tc_26 rfl ?_
      refine r_iload_n (pc := 77) hR (dc dt_X4_fillClause 40 rfl) rfl ?_
      obtain ⟨r78, e78, h⟩ := b1_some h
      refine r_callV (pc := 78) (rest := [iv (F1_formCell v2 v1), .ref (ad 27)]) hR (dc dt_X4_fillClause 41 rfl) cl_X4_52 tc_14 rfl (ok_F9_maybe tr_c14 qv2 e78) (by decide) rfl (Nat.le_of_ble_eq_true rfl) rfl (fun q78r => ?_)
      show Go 81 [some (.ref (ad 26)), some (iv v1), some (iv v2), some (iv r46)] [iv r78, iv (F1_formCell v2 v1), .ref (ad 27)] m
      obtain ⟨r81, e81, h⟩ := b1_some h
      refine r_callS (pc := 81) (rest := [iv (F1_formCell v2 v1), .ref (ad 27)]) hR (dc dt_X4_fillClause 42 rfl) cl_X4_69 (ok_F4_lowest q78r e81) (by decide) rfl (Nat.le_of_ble_eq_true rfl) rfl (fun q81r => ?_)
      show Go 84 [some (.ref (ad 26)), some (iv v1), some (iv v2), some (iv r46)] [iv r81, iv (F1_formCell v2 v1), .ref (ad 27)] m
      refine r_weak (L' := [some (.ref (ad 26)), some (iv v1), some (iv v2), none]) hR ⟨Or.inr rfl, Or.inr rfl, Or.inr rfl, Or.inl rfl, trivial⟩ ?_
      exact J84 r81 q81r h
    replace h := ite_f hc h
    refine r_iload_n (pc := 69) hR (dc dt_X4_fillClause 36 rfl) rfl ?_
    refine r_goto (pc := 70) (tgt := 84) hR (dc dt_X4_fillClause 37 rfl) (by decide) ?_
    refine r_weak (L' := [some (.ref (ad 26)), some (iv v1), some (iv v2), none]) hR ⟨Or.inr rfl, Or.inr rfl, Or.inr rfl, Or.inl rfl, trivial⟩ ?_
    exact J84 r46 q46r h
set_option maxRecDepth 100000 in
set_option maxHeartbeats 4000000 in
theorem ok_F4_fillClause {m : Mem}  {v1 : Int} (q1 : inR v1) {out : Mem} (h : F4_fillClause m v1 = some out) : CT l G cy ad tt yX4_fillClause cX4_fillClause 4 none 3 [.ref (ad 26), iv v1] m none True out := by
  refine CT_of (by decide) (Nat.le_of_ble_eq_true rfl) (fun Go hR hT => ?_)
  replace hR : RS l G cy ad tt RX4 cX4_fillClause 4 3 Go := hR
  show Go 0 [some (.ref (ad 26)), some (iv v1), none, none] [] m
  unfold F4_fillClause at h
  refine r_aload_n (pc := 0) hR (dc dt_X4_fillClause 0 rfl) rfl ?_
  refine r_getr (pc := 1) (k2 := 14) hR (dc dt_X4_fillClause 1 rfl) fl_X4_28 tc_26 rfl ?_
  refine r_aload_n (pc := 4) hR (dc dt_X4_fillClause 2 rfl) rfl ?_
  refine r_getr (pc := 5) (k2 := 4) hR (dc dt_X4_fillClause 3 rfl) fl_X4_24 tc_26 rfl ?_
  refine r_iload_n (pc := 8) hR (dc dt_X4_fillClause 4 rfl) rfl ?_
  obtain ⟨m9, e9, h⟩ := b1_some h
  refine r_callV (pc := 9) (rest := []) hR (dc dt_X4_fillClause 5 rfl) cl_X4_38 tc_14 rfl (ok_F9_write tr_c14 q1 e9) (by decide) rfl (Nat.le_of_ble_eq_true rfl) rfl (fun q9r => ?_)
  show Go 12 [some (.ref (ad 26)), some (iv v1), none, none] [] m9
  refine r_aload_n (pc := 12) hR (dc dt_X4_fillClause 6 rfl) rfl ?_
  refine r_getr (pc := 13) (k2 := 14) hR (dc dt_X4_fillClause 7 rfl) fl_X4_28 tc_26 rfl ?_
  obtain ⟨r16, m16, e16, h⟩ := b2_some h
  refine r_callV (pc := 16) (rest := []) hR (dc dt_X4_fillClause 8 rfl) cl_X4_45 tc_14 rfl (ok_F9_least tr_c14 e16) (by decide) rfl (Nat.le_of_ble_eq_true rfl) rfl (fun q16r => ?_)
  show Go 19 [some (.ref (ad 26)), some (iv v1), none, none] [iv r16] m16
  refine r_pop (pc := 19) hR (dc dt_X4_fillClause 9 rfl) rfl ?_
  refine r_aload_n (pc := 20) hR (dc dt_X4_fillClause 10 rfl) rfl ?_
  refine r_getr (pc := 21) (k2 := 14) hR (dc dt_X4_fillClause 11 rfl) fl_X4_28 tc_26 rfl ?_
  obtain ⟨m24, e24, h⟩ := b1_some h
  refine r_callV (pc := 24) (rest := []) hR (dc dt_X4_fillClause 12 rfl) cl_X4_49 tc_14 rfl (ok_F9_spread tr_c14 e24) (by decide) rfl (Nat.le_of_ble_eq_true rfl) rfl (fun q24r => ?_)
  show Go 27 [some (.ref (ad 26)), some (iv v1), none, none] [] m24
  refine r_iconst (pc := 27) hR (dc dt_X4_fillClause 13 rfl) ?_
  refine r_istore_n (pc := 28) (L' := [some (.ref (ad 26)), some (iv v1), some (iv 0), none]) hR (dc dt_X4_fillClause 14 rfl) (by decide) rfl rfl ?_
  refine lp_L4_fillClause_29 hR hT q1 FU 0 m24 (rg_c rfl) h
def tb_X4_filledForm : List (Nat × (Instr × Nat)) := [(0, (.aload_n 0, 1)), (1, (.getfield 9, 3)), (4, (.aload_n 0, 1)), (5, (.getfield 24, 3)), (8, (.iload_n 1, 1)), (9, (.iload_n 2, 1)), (10, (.invokevirtual 66, 3)), (13, (.iaload, 1)), (14, (.ireturn, 1))]
set_option maxRecDepth 100000 in
theorem dt_X4_filledForm : (tb_X4_filledForm.all fun q => decide (decode cX4_filledForm q.1 = .ok q.2)) = true := by decide +kernel
set_option maxRecDepth 100000 in
set_option maxHeartbeats 4000000 in
theorem ok_F4_filledForm {m : Mem}  {v1 v2 : Int} (q1 : inR v1) (q2 : inR v2) {out : Int} (h : F4_filledForm m v1 v2 = some out) : CT l G cy ad tt yX4_filledForm cX4_filledForm 3 (some .int) 1 [.ref (ad 26), iv v1, iv v2] m (some (iv out)) (inR out) m := by
  refine CT_of (by decide) (Nat.le_of_ble_eq_true rfl) (fun Go hR hT => ?_)
  replace hR : RS l G cy ad tt RX4 cX4_filledForm 3 1 Go := hR
  show Go 0 [some (.ref (ad 26)), some (iv v1), some (iv v2)] [] m
  unfold F4_filledForm at h
  refine r_aload_n (pc := 0) hR (dc dt_X4_filledForm 0 rfl) rfl ?_
  refine r_getr (pc := 1) (k2 := 27) hR (dc dt_X4_filledForm 1 rfl) fl_X4_9 tc_26 rfl ?_
  refine r_aload_n (pc := 4) hR (dc dt_X4_filledForm 2 rfl) rfl ?_
  refine r_getr (pc := 5) (k2 := 4) hR (dc dt_X4_filledForm 3 rfl) fl_X4_24 tc_26 rfl ?_
  refine r_iload_n (pc := 8) hR (dc dt_X4_filledForm 4 rfl) rfl ?_
  refine r_iload_n (pc := 9) hR (dc dt_X4_filledForm 5 rfl) rfl ?_
  refine r_callV (pc := 10) (rest := [.ref (ad 27)]) hR (dc dt_X4_filledForm 6 rfl) cl_X4_66 tc_4 rfl (ok_F1_formCell q1 q2) (by decide) rfl (Nat.le_of_ble_eq_true rfl) rfl (fun q10r => ?_)
  show Go 13 [some (.ref (ad 26)), some (iv v1), some (iv v2)] [iv (F1_formCell v1 v2), .ref (ad 27)] m
  obtain ⟨g1, h⟩ := gd_some h
  refine r_iald (pc := 13) hR (dc dt_X4_filledForm 7 rfl) tc_27 g1 q10r ?_
  exact r_iret hT (dc dt_X4_filledForm 8 rfl) (Option.some.inj h) rfl (rd_in _ _ _)
def tb_X4_paid : List (Nat × (Instr × Nat)) := [(0, (.aload_n 0, 1)), (1, (.getfield 24, 3)), (4, (.iload_n 1, 1)), (5, (.invokevirtual 72, 3)), (8, (.istore_n 3, 1)), (9, (.iload_n 3, 1)), (10, (.ifCond .ge 7, 3)), (13, (.iconst 0, 1)), (14, (.goto 22, 3)), (17, (.aload_n 0, 1)), (18, (.getfield 28, 3)), (21, (.aload_n 0, 1)), (22, (.iload_n 3, 1)), (23, (.iload_n 2, 1)), (24, (.invokevirtual 75, 3)), (27, (.aload_n 0, 1)), (28, (.iload_n 1, 1)), (29, (.iload_n 2, 1)), (30, (.invokevirtual 75, 3)), (33, (.invokevirtual 78, 3)), (36, (.ireturn, 1))]
set_option maxRecDepth 100000 in
theorem dt_X4_paid : (tb_X4_paid.all fun q => decide (decode cX4_paid q.1 = .ok q.2)) = true := by decide +kernel
set_option maxRecDepth 100000 in
set_option maxHeartbeats 4000000 in
theorem ok_F4_paid {m : Mem}  {v1 v2 : Int} (q1 : inR v1) (q2 : inR v2) {out : Int} (h : F4_paid m v1 v2 = some out) : CT l G cy ad tt yX4_paid cX4_paid 4 (some .int) 2 [.ref (ad 26), iv v1, iv v2] m (some (iv out)) (inR out) m := by
  refine CT_of (by decide) (Nat.le_of_ble_eq_true rfl) (fun Go hR hT => ?_)
  replace hR : RS l G cy ad tt RX4 cX4_paid 4 2 Go := hR
  show Go 0 [some (.ref (ad 26)), some (iv v1), some (iv v2), none] [] m
  unfold F4_paid at h
  refine r_aload_n (pc := 0) hR (dc dt_X4_paid 0 rfl) rfl ?_
  refine r_getr (pc := 1) (k2 := 4) hR (dc dt_X4_paid 1 rfl) fl_X4_24 tc_26 rfl ?_
  refine r_iload_n (pc := 4) hR (dc dt_X4_paid 2 rfl) rfl ?_
  obtain ⟨r5, e5, h⟩ := b1_some h
  refine r_callV (pc := 5) (rest := []) hR (dc dt_X4_paid 3 rfl) cl_X4_72 tc_4 rfl (ok_F1_motherOf q1 e5) (by decide) rfl (Nat.le_of_ble_eq_true rfl) rfl (fun q5r => ?_)
  show Go 8 [some (.ref (ad 26)), some (iv v1), some (iv v2), none] [iv r5] m
  refine r_istore_n (pc := 8) (L' := [some (.ref (ad 26)), some (iv v1), some (iv v2), some (iv r5)]) hR (dc dt_X4_paid 4 rfl) (by decide) rfl rfl ?_
  refine r_iload_n (pc := 9) hR (dc dt_X4_paid 5 rfl) rfl ?_
  refine r_if_ge (pc := 10) (tgt := 17) hR (dc dt_X4_paid 6 rfl) (by decide) q5r (fun hc => ?_) (fun hc => ?_)
  · replace h := ite_t hc h
    refine r_aload_n (pc := 17) hR (dc dt_X4_paid 9 rfl) rfl ?_
    refine r_getr (pc := 18) (k2 := 14) hR (dc dt_X4_paid 10 rfl) fl_X4_28 tc_26 rfl ?_
    refine r_aload_n (pc := 21) hR (dc dt_X4_paid 11 rfl) rfl ?_
    refine r_iload_n (pc := 22) hR (dc dt_X4_paid 12 rfl) rfl ?_
    refine r_iload_n (pc := 23) hR (dc dt_X4_paid 13 rfl) rfl ?_
    obtain ⟨r24, e24, h⟩ := b1_some h
    refine r_callV (pc := 24) (rest := [.ref (ad 14)]) hR (dc dt_X4_paid 14 rfl) cl_X4_75 tc_26 rfl (ok_F4_filledForm q5r q2 e24) (by decide) rfl (Nat.le_of_ble_eq_true rfl) rfl (fun q24r => ?_)
    show Go 27 [some (.ref (ad 26)), some (iv v1), some (iv v2), some (iv r5)] [iv r24, .ref (ad 14)] m
    refine r_aload_n (pc := 27) hR (dc dt_X4_paid 15 rfl) rfl ?_
    refine r_iload_n (pc := 28) hR (dc dt_X4_paid 16 rfl) rfl ?_
    refine r_iload_n (pc := 29) hR (dc dt_X4_paid 17 rfl) rfl ?_
    obtain ⟨r30, e30, h⟩ := b1_some h
    refine r_callV (pc := 30) (rest := [iv r24, .ref (ad 14)]) hR (dc dt_X4_paid 18 rfl) cl_X4_75 tc_26 rfl (ok_F4_filledForm q1 q2 e30) (by decide) rfl (Nat.le_of_ble_eq_true rfl) rfl (fun q30r => ?_)
    show Go 33 [some (.ref (ad 26)), some (iv v1), some (iv v2), some (iv r5)] [iv r30, iv r24, .ref (ad 14)] m
    obtain ⟨r33, e33, h⟩ := b1_some h
    refine r_callV (pc := 33) (rest := []) hR (dc dt_X4_paid 19 rfl) cl_X4_78 tc_14 rfl (ok_F9_stepOf tr_c14 q24r q30r e33) (by decide) rfl (Nat.le_of_ble_eq_true rfl) rfl (fun q33r => ?_)
    show Go 36 [some (.ref (ad 26)), some (iv v1), some (iv v2), some (iv r5)] [iv r33] m
    exact r_iret hT (dc dt_X4_paid 20 rfl) (Option.some.inj h) rfl q33r
  replace h := ite_f hc h
  refine r_iconst (pc := 13) hR (dc dt_X4_paid 7 rfl) ?_
  refine r_goto (pc := 14) (tgt := 36) hR (dc dt_X4_paid 8 rfl) (by decide) ?_
  exact r_iret hT (dc dt_X4_paid 20 rfl) (Option.some.inj h) rfl (rg_c rfl)
def tb_X4_lends : List (Nat × (Instr × Nat)) := [(0, (.iload_n 1, 1)), (1, (.aload_n 0, 1)), (2, (.getfield 24, 3)), (5, (.iload_n 2, 1)), (6, (.invokevirtual 72, 3)), (9, (.if_icmp .eq 40, 3)), (12, (.aload_n 0, 1)), (13, (.getfield 24, 3)), (16, (.iload_n 1, 1)), (17, (.iload_n 2, 1)), (18, (.invokevirtual 85, 3)), (21, (.ifCond .ne 28, 3)), (24, (.aload_n 0, 1)), (25, (.getfield 24, 3)), (28, (.getfield 89, 3)), (31, (.iload_n 1, 1)), (32, (.iaload, 1)), (33, (.aload_n 0, 1)), (34, (.getfield 24, 3)), (37, (.getfield 92, 3)), (40, (.iload_n 2, 1)), (41, (.iaload, 1)), (42, (.if_icmp .ge 7, 3)), (45, (.iconst 1, 1)), (46, (.goto 4, 3)), (49, (.iconst 0, 1)), (50, (.ireturn, 1))]
set_option maxRecDepth 100000 in
theorem dt_X4_lends : (tb_X4_lends.all fun q => decide (decode cX4_lends q.1 = .ok q.2)) = true := by decide +kernel
set_option maxRecDepth 100000 in
set_option maxHeartbeats 4000000 in
theorem ok_F4_lends {m : Mem}  {v1 v2 : Int} (q1 : inR v1) (q2 : inR v2) {out : Int} (h : F4_lends m v1 v2 = some out) : CT l G cy ad tt yX4_lends cX4_lends 3 (some .boolean) 2 [.ref (ad 26), iv v1, iv v2] m (some (iv out)) (inZ out) m := by
  refine CT_of (by decide) (Nat.le_of_ble_eq_true rfl) (fun Go hR hT => ?_)
  replace hR : RS l G cy ad tt RX4 cX4_lends 3 2 Go := hR
  show Go 0 [some (.ref (ad 26)), some (iv v1), some (iv v2)] [] m
  unfold F4_lends at h
  refine r_iload_n (pc := 0) hR (dc dt_X4_lends 0 rfl) rfl ?_
  refine r_aload_n (pc := 1) hR (dc dt_X4_lends 1 rfl) rfl ?_
  refine r_getr (pc := 2) (k2 := 4) hR (dc dt_X4_lends 2 rfl) fl_X4_24 tc_26 rfl ?_
  refine r_iload_n (pc := 5) hR (dc dt_X4_lends 3 rfl) rfl ?_
  obtain ⟨r6, e6, h⟩ := b1_some h
  refine r_callV (pc := 6) (rest := [iv v1]) hR (dc dt_X4_lends 4 rfl) cl_X4_72 tc_4 rfl (ok_F1_motherOf q2 e6) (by decide) rfl (Nat.le_of_ble_eq_true rfl) rfl (fun q6r => ?_)
  show Go 9 [some (.ref (ad 26)), some (iv v1), some (iv v2)] [iv r6, iv v1] m
  refine jn_e h (fun (K : Option Int) => K = some out → Go 49 [none, none, none] [] m) (fun h => ?_) (fun K49 J49 h => ?_)
  · refine r_iconst (pc := 49) hR (dc dt_X4_lends 25 rfl) ?_
    exact r_zret hT (dc dt_X4_lends 26 rfl) (Option.some.inj h) rfl (Or.inl rfl)
  refine r_icmp_eq (pc := 9) (tgt := 49) hR (dc dt_X4_lends 5 rfl) (by decide) q1 q6r (fun hc => ?_) (fun hc => ?_)
  · replace h := ite_t hc h
    refine r_weak (L' := [none, none, none]) hR ⟨Or.inl rfl, Or.inl rfl, Or.inl rfl, trivial⟩ ?_
    exact J49 h
  replace h := ite_f hc h
  refine r_aload_n (pc := 12) hR (dc dt_X4_lends 6 rfl) rfl ?_
  refine r_getr (pc := 13) (k2 := 4) hR (dc dt_X4_lends 7 rfl) fl_X4_24 tc_26 rfl ?_
  refine r_iload_n (pc := 16) hR (dc dt_X4_lends 8 rfl) rfl ?_
  refine r_iload_n (pc := 17) hR (dc dt_X4_lends 9 rfl) rfl ?_
  obtain ⟨r18, e18, h⟩ := b1_some h
  refine r_callV (pc := 18) (rest := []) hR (dc dt_X4_lends 10 rfl) cl_X4_85 tc_4 rfl (ok_F1_isUnder q1 q2 e18) (by decide) rfl (Nat.le_of_ble_eq_true rfl) rfl (fun q18r => ?_)
  show Go 21 [some (.ref (ad 26)), some (iv v1), some (iv v2)] [iv r18] m
  refine r_if_ne (pc := 21) (tgt := 49) hR (dc dt_X4_lends 11 rfl) (by decide) (inZ_R q18r) (fun hc => ?_) (fun hc => ?_)
  · replace h := ite_t hc h
    refine r_weak (L' := [none, none, none]) hR ⟨Or.inl rfl, Or.inl rfl, Or.inl rfl, trivial⟩ ?_
    exact J49 h
  replace h := ite_f hc h
  refine r_aload_n (pc := 24) hR (dc dt_X4_lends 12 rfl) rfl ?_
  refine r_getr (pc := 25) (k2 := 4) hR (dc dt_X4_lends 13 rfl) fl_X4_24 tc_26 rfl ?_
  refine r_getr (pc := 28) (k2 := 5) hR (dc dt_X4_lends 14 rfl) fl_X4_89 tc_4 rfl ?_
  refine r_iload_n (pc := 31) hR (dc dt_X4_lends 15 rfl) rfl ?_
  obtain ⟨g1, h⟩ := gd_some h
  refine r_iald (pc := 32) hR (dc dt_X4_lends 16 rfl) tc_5 g1 q1 ?_
  refine r_aload_n (pc := 33) hR (dc dt_X4_lends 17 rfl) rfl ?_
  refine r_getr (pc := 34) (k2 := 4) hR (dc dt_X4_lends 18 rfl) fl_X4_24 tc_26 rfl ?_
  refine r_getr (pc := 37) (k2 := 6) hR (dc dt_X4_lends 19 rfl) fl_X4_92 tc_4 rfl ?_
  refine r_iload_n (pc := 40) hR (dc dt_X4_lends 20 rfl) rfl ?_
  obtain ⟨g1, h⟩ := gd_some h
  refine r_iald (pc := 41) hR (dc dt_X4_lends 21 rfl) tc_6 g1 q2 ?_
  refine r_icmp_ge (pc := 42) (tgt := 49) hR (dc dt_X4_lends 22 rfl) (by decide) (rd_in _ _ _) (rd_in _ _ _) (fun hc => ?_) (fun hc => ?_)
  · replace h := ite_t hc h
    refine r_weak (L' := [none, none, none]) hR ⟨Or.inl rfl, Or.inl rfl, Or.inl rfl, trivial⟩ ?_
    exact J49 h
  replace h := ite_f hc h
  refine r_iconst (pc := 45) hR (dc dt_X4_lends 23 rfl) ?_
  refine r_goto (pc := 46) (tgt := 50) hR (dc dt_X4_lends 24 rfl) (by decide) ?_
  exact r_zret hT (dc dt_X4_lends 26 rfl) (Option.some.inj h) rfl (Or.inr rfl)
def tb_X4_leastLender : List (Nat × (Instr × Nat)) := [(0, (.iconst 0, 1)), (1, (.istore_n 3, 1)), (2, (.iload_n 3, 1)), (3, (.aload_n 0, 1)), (4, (.getfield 24, 3)), (7, (.getfield 56, 3)), (10, (.if_icmp .ge 35, 3)), (13, (.aload_n 0, 1)), (14, (.iload_n 3, 1)), (15, (.iload_n 2, 1)), (16, (.invokevirtual 75, 3)), (19, (.aload_n 0, 1)), (20, (.iload_n 1, 1)), (21, (.iload_n 2, 1)), (22, (.invokevirtual 75, 3)), (25, (.if_icmp .ne 14, 3)), (28, (.aload_n 0, 1)), (29, (.iload_n 3, 1)), (30, (.iload_n 1, 1)), (31, (.invokevirtual 95, 3)), (34, (.ifCond .eq 5, 3)), (37, (.iload_n 3, 1)), (38, (.ireturn, 1)), (39, (.iinc 3 1, 3)), (42, (.goto (-40), 3)), (45, (.bipush (-2), 2)), (47, (.ireturn, 1))]
set_option maxRecDepth 100000 in
theorem dt_X4_leastLender : (tb_X4_leastLender.all fun q => decide (decode cX4_leastLender q.1 = .ok q.2)) = true := by decide +kernel
set_option maxRecDepth 100000 in
set_option maxHeartbeats 4000000 in
theorem lp_L4_leastLender_2 {Go : Nat → List (Option Value) → List Value → Mem → Prop} (hR : RS l G cy ad tt RX4 cX4_leastLender 4 3 Go) {out : Int} {m : Mem} (hT : RT cX4_leastLender (some (iv out)) (inR out) m (some .int) Go) {v1 : Int} {v2 : Int} (qv1 : inR v1) (qv2 : inR v2) : ∀ (n : Nat) (v3 : Int), inR v3 → L4_leastLender_2 m v1 v2 n v3 = some out → Go 2 [some (.ref (ad 26)), some (iv v1), some (iv v2), some (iv v3)] [] m := by
  intro n
  induction n with
  | zero =>
    intro v3 qv3 h
    cases h
  | succ n ih =>
    intro v3 qv3 h
    rw [L4_leastLender_2] at h
    refine r_iload_n (pc := 2) hR (dc dt_X4_leastLender 2 rfl) rfl ?_
    refine r_aload_n (pc := 3) hR (dc dt_X4_leastLender 3 rfl) rfl ?_
    refine r_getr (pc := 4) (k2 := 4) hR (dc dt_X4_leastLender 4 rfl) fl_X4_24 tc_26 rfl ?_
    refine r_geti (pc := 7) hR (dc dt_X4_leastLender 5 rfl) fl_X4_56 tc_4 rfl ?_
    refine r_icmp_ge (pc := 10) (tgt := 45) hR (dc dt_X4_leastLender 6 rfl) (by decide) qv3 (rd_in _ _ _) (fun hc => ?_) (fun hc => ?_)
    · replace h := ite_t hc h
      refine r_bipush (pc := 45) hR (dc dt_X4_leastLender 25 rfl) (by decide) ?_
      exact r_iret hT (dc dt_X4_leastLender 26 rfl) (Option.some.inj h) rfl (rg_c rfl)
    replace h := ite_f hc h
    refine r_aload_n (pc := 13) hR (dc dt_X4_leastLender 7 rfl) rfl ?_
    refine r_iload_n (pc := 14) hR (dc dt_X4_leastLender 8 rfl) rfl ?_
    refine r_iload_n (pc := 15) hR (dc dt_X4_leastLender 9 rfl) rfl ?_
    obtain ⟨r16, e16, h⟩ := b1_some h
    refine r_callV (pc := 16) (rest := []) hR (dc dt_X4_leastLender 10 rfl) cl_X4_75 tc_26 rfl (ok_F4_filledForm qv3 qv2 e16) (by decide) rfl (Nat.le_of_ble_eq_true rfl) rfl (fun q16r => ?_)
    show Go 19 [some (.ref (ad 26)), some (iv v1), some (iv v2), some (iv v3)] [iv r16] m
    refine r_aload_n (pc := 19) hR (dc dt_X4_leastLender 11 rfl) rfl ?_
    refine r_iload_n (pc := 20) hR (dc dt_X4_leastLender 12 rfl) rfl ?_
    refine r_iload_n (pc := 21) hR (dc dt_X4_leastLender 13 rfl) rfl ?_
    obtain ⟨r22, e22, h⟩ := b1_some h
    refine r_callV (pc := 22) (rest := [iv r16]) hR (dc dt_X4_leastLender 14 rfl) cl_X4_75 tc_26 rfl (ok_F4_filledForm qv1 qv2 e22) (by decide) rfl (Nat.le_of_ble_eq_true rfl) rfl (fun q22r => ?_)
    show Go 25 [some (.ref (ad 26)), some (iv v1), some (iv v2), some (iv v3)] [iv r22, iv r16] m
    refine jn_e h (fun (K : Option Int) => K = some out → Go 39 [some (.ref (ad 26)), some (iv v1), some (iv v2), some (iv v3)] [] m) (fun h => ?_) (fun K39 J39 h => ?_)
    · refine r_iinc (pc := 39) (L' := [some (.ref (ad 26)), some (iv v1), some (iv v2), some (iv (w32 (v3 + 1)))]) hR (dc dt_X4_leastLender 23 rfl) rfl (by decide) rfl rfl ?_
      refine r_goto (pc := 42) (tgt := 2) hR (dc dt_X4_leastLender 24 rfl) (by decide) ?_
      exact ih (w32 (v3 + 1)) (w32_in _) h
    refine r_icmp_ne (pc := 25) (tgt := 39) hR (dc dt_X4_leastLender 15 rfl) (by decide) q16r q22r (fun hc => ?_) (fun hc => ?_)
    · replace h := ite_t hc h
      exact J39 h
    replace h := ite_f hc h
    refine r_aload_n (pc := 28) hR (dc dt_X4_leastLender 16 rfl) rfl ?_
    refine r_iload_n (pc := 29) hR (dc dt_X4_leastLender 17 rfl) rfl ?_
    refine r_iload_n (pc := 30) hR (dc dt_X4_leastLender 18 rfl) rfl ?_
    obtain ⟨r31, e31, h⟩ := b1_some h
    refine r_callV (pc := 31) (rest := []) hR (dc dt_X4_leastLender 19 rfl) cl_X4_95 tc_26 rfl (ok_F4_lends qv3 qv1 e31) (by decide) rfl (Nat.le_of_ble_eq_true rfl) rfl (fun q31r => ?_)
    show Go 34 [some (.ref (ad 26)), some (iv v1), some (iv v2), some (iv v3)] [iv r31] m
    refine r_if_eq (pc := 34) (tgt := 39) hR (dc dt_X4_leastLender 20 rfl) (by decide) (inZ_R q31r) (fun hc => ?_) (fun hc => ?_)
    · replace h := ite_t hc h
      exact J39 h
    replace h := ite_f hc h
    refine r_iload_n (pc := 37) hR (dc dt_X4_leastLender 21 rfl) rfl ?_
    exact r_iret hT (dc dt_X4_leastLender 22 rfl) (Option.some.inj h) rfl qv3
set_option maxRecDepth 100000 in
set_option maxHeartbeats 4000000 in
theorem ok_F4_leastLender {m : Mem}  {v1 v2 : Int} (q1 : inR v1) (q2 : inR v2) {out : Int} (h : F4_leastLender m v1 v2 = some out) : CT l G cy ad tt yX4_leastLender cX4_leastLender 4 (some .int) 3 [.ref (ad 26), iv v1, iv v2] m (some (iv out)) (inR out) m := by
  refine CT_of (by decide) (Nat.le_of_ble_eq_true rfl) (fun Go hR hT => ?_)
  replace hR : RS l G cy ad tt RX4 cX4_leastLender 4 3 Go := hR
  show Go 0 [some (.ref (ad 26)), some (iv v1), some (iv v2), none] [] m
  unfold F4_leastLender at h
  refine r_iconst (pc := 0) hR (dc dt_X4_leastLender 0 rfl) ?_
  refine r_istore_n (pc := 1) (L' := [some (.ref (ad 26)), some (iv v1), some (iv v2), some (iv 0)]) hR (dc dt_X4_leastLender 1 rfl) (by decide) rfl rfl ?_
  refine lp_L4_leastLender_2 hR hT q1 q2 FU 0 (rg_c rfl) h
def tb_X4_gainBeside : List (Nat × (Instr × Nat)) := [(0, (.iconst 0, 1)), (1, (.istore 4, 2)), (3, (.iload 4, 2)), (5, (.bipush 16, 2)), (7, (.if_icmp .ge 101, 3)), (10, (.iload 4, 2)), (12, (.iload_n 1, 1)), (13, (.iand, 1)), (14, (.ifCond .eq 6, 3)), (17, (.goto 85, 3)), (20, (.iload_n 3, 1)), (21, (.istore 5, 2)), (23, (.iconst 0, 1)), (24, (.istore 6, 2)), (26, (.iload 6, 2)), (28, (.iconst 4, 1)), (29, (.if_icmp .ge 35, 3)), (32, (.iload 5, 2)), (34, (.iload 4, 2)), (36, (.iload 6, 2)), (38, (.ishr, 1)), (39, (.iconst 1, 1)), (40, (.iand, 1)), (41, (.ifCond .eq 13, 3)), (44, (.aload_n 0, 1)), (45, (.getfield 21, 3)), (48, (.iload 6, 2)), (50, (.iaload, 1)), (51, (.goto 4, 3)), (54, (.iconst 0, 1)), (55, (.iadd, 1)), (56, (.istore 5, 2)), (58, (.iinc 6 1, 3)), (61, (.goto (-35), 3)), (64, (.iload_n 2, 1)), (65, (.iload 4, 2)), (67, (.invokestatic 130, 3)), (70, (.iadd, 1)), (71, (.istore 6, 2)), (73, (.iload 6, 2)), (75, (.aload_n 0, 1)), (76, (.getfield 15, 3)), (79, (.arraylength, 1)), (80, (.if_icmp .ge 22, 3)), (83, (.aload_n 0, 1)), (84, (.getfield 15, 3)), (87, (.iload 6, 2)), (89, (.aload_n 0, 1)), (90, (.getfield 15, 3)), (93, (.iload 6, 2)), (95, (.iaload, 1)), (96, (.iload 5, 2)), (98, (.invokestatic 118, 3)), (101, (.iastore, 1)), (102, (.iinc 4 1, 3)), (105, (.goto (-102), 3)), (108, (.return_, 1))]
set_option maxRecDepth 100000 in
theorem dt_X4_gainBeside : (tb_X4_gainBeside.all fun q => decide (decode cX4_gainBeside q.1 = .ok q.2)) = true := by decide +kernel
set_option maxRecDepth 100000 in
set_option maxHeartbeats 4000000 in
theorem lp_L4_gainBeside_26 {Go : Nat → List (Option Value) → List Value → Mem → Prop} (hR : RS l G cy ad tt RX4 cX4_gainBeside 7 1 Go) {out : Mem} {m : Mem} (hT : RT cX4_gainBeside none True out none Go) {v1 : Int} {v2 : Int} {v3 : Int} {v4 : Int} (qv1 : inR v1) (qv2 : inR v2) (qv3 : inR v3) (qv4 : inR v4) {k64 : Int → Option Mem} (hk64 : ∀ (v5 : Int), inR v5 → k64 v5 = some out → Go 64 [some (.ref (ad 26)), some (iv v1), some (iv v2), some (iv v3), some (iv v4), some (iv v5), none] [] m) : ∀ (n : Nat) (v5 : Int) (v6 : Int), inR v5 → inR v6 → L4_gainBeside_26 m v4 k64 n v5 v6 = some out → Go 26 [some (.ref (ad 26)), some (iv v1), some (iv v2), some (iv v3), some (iv v4), some (iv v5), some (iv v6)] [] m := by
  intro n
  induction n with
  | zero =>
    intro v5 v6 qv5 qv6 h
    cases h
  | succ n ih =>
    intro v5 v6 qv5 qv6 h
    rw [L4_gainBeside_26] at h
    refine r_iload (pc := 26) hR (dc dt_X4_gainBeside 14 rfl) rfl ?_
    refine r_iconst (pc := 28) hR (dc dt_X4_gainBeside 15 rfl) ?_
    refine r_icmp_ge (pc := 29) (tgt := 64) hR (dc dt_X4_gainBeside 16 rfl) (by decide) qv6 (rg_c rfl) (fun hc => ?_) (fun hc => ?_)
    · replace h := ite_t hc h
      refine r_weak (L' := [some (.ref (ad 26)), some (iv v1), some (iv v2), some (iv v3), some (iv v4), some (iv v5), none]) hR ⟨Or.inr rfl, Or.inr rfl, Or.inr rfl, Or.inr rfl, Or.inr rfl, Or.inr rfl, Or.inl rfl, trivial⟩ ?_
      exact hk64 v5 qv5 h
    replace h := ite_f hc h
    refine r_iload (pc := 32) hR (dc dt_X4_gainBeside 17 rfl) rfl ?_
    refine r_iload (pc := 34) hR (dc dt_X4_gainBeside 18 rfl) rfl ?_
    refine r_iload (pc := 36) hR (dc dt_X4_gainBeside 19 rfl) rfl ?_
    refine r_ishr (pc := 38) hR (dc dt_X4_gainBeside 20 rfl) ?_
    refine r_iconst (pc := 39) hR (dc dt_X4_gainBeside 21 rfl) ?_
    refine r_iand (pc := 40) hR (dc dt_X4_gainBeside 22 rfl) ?_
    refine jn_e h (fun (K : Int → Option Mem) => ∀ (x55 : Int), inR x55 → K x55 = some out → Go 55 [some (.ref (ad 26)), some (iv v1), some (iv v2), some (iv v3), some (iv v4), none, some (iv v6)] [iv x55, iv v5] m) (fun x55 qx55 h => ?_) (fun K55 J55 h => ?_)
    · refine r_iadd (pc := 55) hR (dc dt_X4_gainBeside 30 rfl) ?_
      refine r_istore (pc := 56) (L' := [some (.ref (ad 26)), some (iv v1), some (iv v2), some (iv v3), some (iv v4), some (iv (w32 (v5 + x55))), some (iv v6)]) hR (dc dt_X4_gainBeside 31 rfl) (by decide) rfl rfl ?_
      refine r_iinc (pc := 58) (L' := [some (.ref (ad 26)), some (iv v1), some (iv v2), some (iv v3), some (iv v4), some (iv (w32 (v5 + x55))), some (iv (w32 (v6 + 1)))]) hR (dc dt_X4_gainBeside 32 rfl) rfl (by decide) rfl rfl ?_
      refine r_goto (pc := 61) (tgt := 26) hR (dc dt_X4_gainBeside 33 rfl) (by decide) ?_
      exact ih (w32 (v5 + x55)) (w32 (v6 + 1)) (w32_in _) (w32_in _) h
    refine r_if_eq (pc := 41) (tgt := 54) hR (dc dt_X4_gainBeside 23 rfl) (by decide) (ti_in _) (fun hc => ?_) (fun hc => ?_)
    · replace h := ite_t hc h
      refine r_iconst (pc := 54) hR (dc dt_X4_gainBeside 29 rfl) ?_
      refine r_weak (L' := [some (.ref (ad 26)), some (iv v1), some (iv v2), some (iv v3), some (iv v4), none, some (iv v6)]) hR ⟨Or.inr rfl, Or.inr rfl, Or.inr rfl, Or.inr rfl, Or.inr rfl, Or.inl rfl, Or.inr rfl, trivial⟩ ?_
      exact J55 0 (rg_c rfl) h
    replace h := ite_f hc h
    refine r_aload_n (pc := 44) hR (dc dt_X4_gainBeside 24 rfl) rfl ?_
    refine r_getr (pc := 45) (k2 := 30) hR (dc dt_X4_gainBeside 25 rfl) fl_X4_21 tc_26 rfl ?_
    refine r_iload (pc := 48) hR (dc dt_X4_gainBeside 26 rfl) rfl ?_
    obtain ⟨g1, h⟩ := gd_some h
    refine r_iald (pc := 50) hR (dc dt_X4_gainBeside 27 rfl) tc_30 g1 qv6 ?_
    refine r_goto (pc := 51) (tgt := 55) hR (dc dt_X4_gainBeside 28 rfl) (by decide) ?_
    refine r_weak (L' := [some (.ref (ad 26)), some (iv v1), some (iv v2), some (iv v3), some (iv v4), none, some (iv v6)]) hR ⟨Or.inr rfl, Or.inr rfl, Or.inr rfl, Or.inr rfl, Or.inr rfl, Or.inl rfl, Or.inr rfl, trivial⟩ ?_
    exact J55 (rd m 30 v6) (rd_in _ _ _) h
set_option maxRecDepth 100000 in
set_option maxHeartbeats 4000000 in
theorem lp_L4_gainBeside_3 {Go : Nat → List (Option Value) → List Value → Mem → Prop} (hR : RS l G cy ad tt RX4 cX4_gainBeside 7 1 Go) {out : Mem} (hT : RT cX4_gainBeside none True out none Go) {v1 : Int} {v2 : Int} {v3 : Int} (qv1 : inR v1) (qv2 : inR v2) (qv3 : inR v3) : ∀ (n : Nat) (v4 : Int) (m : Mem), inR v4 → L4_gainBeside_3 v1 v2 v3 n v4 m = some out → Go 3 [some (.ref (ad 26)), some (iv v1), some (iv v2), some (iv v3), some (iv v4), none, none] [] m := by
  intro n
  induction n with
  | zero =>
    intro v4 m qv4 h
    cases h
  | succ n ih =>
    intro v4 m qv4 h
    rw [L4_gainBeside_3] at h
    refine r_iload (pc := 3) hR (dc dt_X4_gainBeside 2 rfl) rfl ?_
    refine r_bipush (pc := 5) hR (dc dt_X4_gainBeside 3 rfl) (by decide) ?_
    refine r_icmp_ge (pc := 7) (tgt := 108) hR (dc dt_X4_gainBeside 4 rfl) (by decide) qv4 (rg_c rfl) (fun hc => ?_) (fun hc => ?_)
    · replace h := ite_t hc h
      exact r_vret hT (dc dt_X4_gainBeside 56 rfl) (Option.some.inj h)
    replace h := ite_f hc h
    refine r_iload (pc := 10) hR (dc dt_X4_gainBeside 5 rfl) rfl ?_
    refine r_iload_n (pc := 12) hR (dc dt_X4_gainBeside 6 rfl) rfl ?_
    refine r_iand (pc := 13) hR (dc dt_X4_gainBeside 7 rfl) ?_
    refine jn_e h (fun (K : Mem → Option Mem) => ∀ (m_102 : Mem), K m_102 = some out → Go 102 [some (.ref (ad 26)), some (iv v1), some (iv v2), some (iv v3), some (iv v4), none, none] [] m_102) (fun m_102 h => ?_) (fun K102 J102 h => ?_)
    · refine r_iinc (pc := 102) (L' := [some (.ref (ad 26)), some (iv v1), some (iv v2), some (iv v3), some (iv (w32 (v4 + 1))), none, none]) hR (dc dt_X4_gainBeside 54 rfl) rfl (by decide) rfl rfl ?_
      refine r_goto (pc := 105) (tgt := 3) hR (dc dt_X4_gainBeside 55 rfl) (by decide) ?_
      exact ih (w32 (v4 + 1)) m_102 (w32_in _) h
    refine r_if_eq (pc := 14) (tgt := 20) hR (dc dt_X4_gainBeside 8 rfl) (by decide) (ti_in _) (fun hc => ?_) (fun hc => ?_)
    · replace h := ite_t hc h
      refine r_iload_n (pc := 20) hR (dc dt_X4_gainBeside 10 rfl) rfl ?_
      refine r_istore (pc := 21) (L' := [some (.ref (ad 26)), some (iv v1), some (iv v2), some (iv v3), some (iv v4), some (iv v3), none]) hR (dc dt_X4_gainBeside 11 rfl) (by decide) rfl rfl ?_
      refine r_iconst (pc := 23) hR (dc dt_X4_gainBeside 12 rfl) ?_
      refine r_istore (pc := 24) (L' := [some (.ref (ad 26)), some (iv v1), some (iv v2), some (iv v3), some (iv v4), some (iv v3), some (iv 0)]) hR (dc dt_X4_gainBeside 13 rfl) (by decide) rfl rfl ?_
      refine lp_L4_gainBeside_26 hR hT qv1 qv2 qv3 qv4 (fun v5_64 qv5_64 h => ?_) FU v3 0 qv3 (rg_c rfl) h
      show Go 64 [some (.ref (ad 26)), some (iv v1), some (iv v2), some (iv v3), some (iv v4), some (iv v5_64), none] [] m
      refine r_iload_n (pc := 64) hR (dc dt_X4_gainBeside 34 rfl) rfl ?_
      refine r_iload (pc := 65) hR (dc dt_X4_gainBeside 35 rfl) rfl ?_
      refine r_callS (pc := 67) (rest := [iv v2]) hR (dc dt_X4_gainBeside 36 rfl) cl_X4_130 (ok_FJ6_bitCount_0f7a4 qv4) (by decide) rfl (Nat.le_of_ble_eq_true rfl) rfl (fun q67r => ?_)
      show Go 70 [some (.ref (ad 26)), some (iv v1), some (iv v2), some (iv v3), some (iv v4), some (iv v5_64), none] [iv (FJ6_bitCount_0f7a4 v4), iv v2] m
      refine r_iadd (pc := 70) hR (dc dt_X4_gainBeside 37 rfl) ?_
      refine r_istore (pc := 71) (L' := [some (.ref (ad 26)), some (iv v1), some (iv v2), some (iv v3), some (iv v4), some (iv v5_64), some (iv (w32 (v2 + (FJ6_bitCount_0f7a4 v4))))]) hR (dc dt_X4_gainBeside 38 rfl) (by decide) rfl rfl ?_
      refine r_iload (pc := 73) hR (dc dt_X4_gainBeside 39 rfl) rfl ?_
      refine r_aload_n (pc := 75) hR (dc dt_X4_gainBeside 40 rfl) rfl ?_
      refine r_getr (pc := 76) (k2 := 28) hR (dc dt_X4_gainBeside 41 rfl) fl_X4_15 tc_26 rfl ?_
      refine r_alen (pc := 79) hR (dc dt_X4_gainBeside 42 rfl) tc_28 (by decide) ?_
      refine r_icmp_ge (pc := 80) (tgt := 102) hR (dc dt_X4_gainBeside 43 rfl) (by decide) (w32_in _) (rg_c rfl) (fun hc => ?_) (fun hc => ?_)
      · replace h := ite_t hc h
        refine r_weak (L' := [some (.ref (ad 26)), some (iv v1), some (iv v2), some (iv v3), some (iv v4), none, none]) hR ⟨Or.inr rfl, Or.inr rfl, Or.inr rfl, Or.inr rfl, Or.inr rfl, Or.inl rfl, Or.inl rfl, trivial⟩ ?_
        exact J102 m h
      replace h := ite_f hc h
      refine r_aload_n (pc := 83) hR (dc dt_X4_gainBeside 44 rfl) rfl ?_
      refine r_getr (pc := 84) (k2 := 28) hR (dc dt_X4_gainBeside 45 rfl) fl_X4_15 tc_26 rfl ?_
      refine r_iload (pc := 87) hR (dc dt_X4_gainBeside 46 rfl) rfl ?_
      refine r_aload_n (pc := 89) hR (dc dt_X4_gainBeside 47 rfl) rfl ?_
      refine r_getr (pc := 90) (k2 := 28) hR (dc dt_X4_gainBeside 48 rfl) fl_X4_15 tc_26 rfl ?_
      refine r_iload (pc := 93) hR (dc dt_X4_gainBeside 49 rfl) rfl ?_
      obtain ⟨g1, h⟩ := gd_some h
      refine r_iald (pc := 95) hR (dc dt_X4_gainBeside 50 rfl) tc_28 g1 (w32_in _) ?_
      refine r_iload (pc := 96) hR (dc dt_X4_gainBeside 51 rfl) rfl ?_
      refine r_max (pc := 98) hR (dc dt_X4_gainBeside 52 rfl) mw_X4_118 (rd_in _ _ _) qv5_64 (Nat.le_of_ble_eq_true rfl) (by decide) ?_
      obtain ⟨g1, h⟩ := gd_some h
      refine r_iast (pc := 101) hR (dc dt_X4_gainBeside 53 rfl) tc_28 g1 (w32_in _) ?_
      replace h := stw_e h
      generalize wr m 28 (w32 (v2 + (FJ6_bitCount_0f7a4 v4))) (imx (rd m 28 (w32 (v2 + (FJ6_bitCount_0f7a4 v4)))) v5_64) = m101 at h ⊢
      refine r_weak (L' := [some (.ref (ad 26)), some (iv v1), some (iv v2), some (iv v3), some (iv v4), none, none]) hR ⟨Or.inr rfl, Or.inr rfl, Or.inr rfl, Or.inr rfl, Or.inr rfl, Or.inl rfl, Or.inl rfl, trivial⟩ ?_
      exact J102 m101 h
    replace h := ite_f hc h
    refine r_goto (pc := 17) (tgt := 102) hR (dc dt_X4_gainBeside 9 rfl) (by decide) ?_
    exact J102 m h
set_option maxRecDepth 100000 in
set_option maxHeartbeats 4000000 in
theorem ok_F4_gainBeside {m : Mem}  {v1 v2 v3 : Int} (q1 : inR v1) (q2 : inR v2) (q3 : inR v3) {out : Mem} (h : F4_gainBeside m v1 v2 v3 = some out) : CT l G cy ad tt yX4_gainBeside cX4_gainBeside 7 none 1 [.ref (ad 26), iv v1, iv v2, iv v3] m none True out := by
  refine CT_of (by decide) (Nat.le_of_ble_eq_true rfl) (fun Go hR hT => ?_)
  replace hR : RS l G cy ad tt RX4 cX4_gainBeside 7 1 Go := hR
  show Go 0 [some (.ref (ad 26)), some (iv v1), some (iv v2), some (iv v3), none, none, none] [] m
  unfold F4_gainBeside at h
  refine r_iconst (pc := 0) hR (dc dt_X4_gainBeside 0 rfl) ?_
  refine r_istore (pc := 1) (L' := [some (.ref (ad 26)), some (iv v1), some (iv v2), some (iv v3), some (iv 0), none, none]) hR (dc dt_X4_gainBeside 1 rfl) (by decide) rfl rfl ?_
  refine lp_L4_gainBeside_3 hR hT q1 q2 q3 FU 0 m (rg_c rfl) h
end SIM
