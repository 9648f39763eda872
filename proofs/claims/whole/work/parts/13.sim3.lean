section SIM
variable {l : Launch} {G : va_G} {cy ad tt : Nat → Nat}
def tb_X5_isUnder : List (Nat × (Instr × Nat)) := [(0, (.iload_n 0, 1)), (1, (.istore_n 2, 1)), (2, (.iconst 0, 1)), (3, (.istore_n 3, 1)), (4, (.iload_n 3, 1)), (5, (.getstatic 19, 3)), (8, (.arraylength, 1)), (9, (.if_icmp .ge 29, 3)), (12, (.iload_n 2, 1)), (13, (.invokestatic 22, 3)), (16, (.ifCond .eq 22, 3)), (19, (.iload_n 2, 1)), (20, (.iload_n 1, 1)), (21, (.if_icmp .ne 5, 3)), (24, (.iconst 1, 1)), (25, (.ireturn, 1)), (26, (.getstatic 19, 3)), (29, (.iload_n 2, 1)), (30, (.iaload, 1)), (31, (.istore_n 2, 1)), (32, (.iinc 3 1, 3)), (35, (.goto (-31), 3)), (38, (.iconst 0, 1)), (39, (.ireturn, 1))]
set_option maxRecDepth 100000 in
theorem dt_X5_isUnder : (tb_X5_isUnder.all fun q => decide (decode cX5_isUnder q.1 = .ok q.2)) = true := by decide +kernel
set_option maxRecDepth 100000 in
set_option maxHeartbeats 4000000 in
theorem lp_L5_isUnder_4 {Go : Nat → List (Option Value) → List Value → Mem → Prop} (hR : RS l G cy ad tt RX5 cX5_isUnder 4 1 Go) {out : Int} {m : Mem} (hT : RT cX5_isUnder (some (iv out)) (inZ out) m (some .boolean) Go) {v1 : Int} (qv1 : inR v1) : ∀ (n : Nat) (v2 : Int) (v3 : Int), inR v2 → inR v3 → L5_isUnder_4 v1 n v2 v3 = some out → Go 4 [none, some (iv v1), some (iv v2), some (iv v3)] [] m := by
  intro n
  induction n with
  | zero =>
    intro v2 v3 qv2 qv3 h
    cases h
  | succ n ih =>
    intro v2 v3 qv2 qv3 h
    rw [L5_isUnder_4] at h
    refine r_iload_n (pc := 4) hR (dc dt_X5_isUnder 4 rfl) rfl ?_
    refine r_gets (pc := 5) hR (dc dt_X5_isUnder 5 rfl) sl_X5_19 ?_
    refine r_tlen (pc := 8) hR (dc dt_X5_isUnder 6 rfl) st_3 ?_
    show Go 9 [none, some (iv v1), some (iv v2), some (iv v3)] [iv 7, iv v3] m
    refine r_icmp_ge (pc := 9) (tgt := 38) hR (dc dt_X5_isUnder 7 rfl) (by decide) qv3 (rg_c rfl) (fun hc => ?_) (fun hc => ?_)
    · replace h := ite_t hc h
      refine r_iconst (pc := 38) hR (dc dt_X5_isUnder 22 rfl) ?_
      exact r_zret hT (dc dt_X5_isUnder 23 rfl) (Option.some.inj h) rfl (Or.inl rfl)
    replace h := ite_f hc h
    refine r_iload_n (pc := 12) hR (dc dt_X5_isUnder 8 rfl) rfl ?_
    refine r_callS (pc := 13) (rest := []) hR (dc dt_X5_isUnder 9 rfl) cl_X5_22 (ok_F5_isKind qv2) (by decide) rfl (Nat.le_of_ble_eq_true rfl) rfl (fun q13r => ?_)
    show Go 16 [none, some (iv v1), some (iv v2), some (iv v3)] [iv (F5_isKind v2)] m
    refine r_if_eq (pc := 16) (tgt := 38) hR (dc dt_X5_isUnder 10 rfl) (by decide) (inZ_R q13r) (fun hc => ?_) (fun hc => ?_)
    · replace h := ite_t hc h
      refine r_iconst (pc := 38) hR (dc dt_X5_isUnder 22 rfl) ?_
      exact r_zret hT (dc dt_X5_isUnder 23 rfl) (Option.some.inj h) rfl (Or.inl rfl)
    replace h := ite_f hc h
    refine r_iload_n (pc := 19) hR (dc dt_X5_isUnder 11 rfl) rfl ?_
    refine r_iload_n (pc := 20) hR (dc dt_X5_isUnder 12 rfl) rfl ?_
    refine r_icmp_ne (pc := 21) (tgt := 26) hR (dc dt_X5_isUnder 13 rfl) (by decide) qv2 qv1 (fun hc => ?_) (fun hc => ?_)
    · replace h := ite_t hc h
      refine r_gets (pc := 26) hR (dc dt_X5_isUnder 16 rfl) sl_X5_19 ?_
      refine r_iload_n (pc := 29) hR (dc dt_X5_isUnder 17 rfl) rfl ?_
      obtain ⟨g1, h⟩ := gd_some h
      refine r_tald (pc := 30) hR (dc dt_X5_isUnder 18 rfl) st_3 g1 qv2 ?_
      show Go 31 [none, some (iv v1), some (iv v2), some (iv v3)] [iv (stv 3 v2)] m
      refine r_istore_n (pc := 31) (L' := [none, some (iv v1), some (iv (stv 3 v2)), some (iv v3)]) hR (dc dt_X5_isUnder 19 rfl) (by decide) rfl rfl ?_
      refine r_iinc (pc := 32) (L' := [none, some (iv v1), some (iv (stv 3 v2)), some (iv (w32 (v3 + 1)))]) hR (dc dt_X5_isUnder 20 rfl) rfl (by decide) rfl rfl ?_
      refine r_goto (pc := 35) (tgt := 4) hR (dc dt_X5_isUnder 21 rfl) (by decide) ?_
      exact ih (stv 3 v2) (w32 (v3 + 1)) (stv_in _ _) (w32_in _) h
    replace h := ite_f hc h
    refine r_iconst (pc := 24) hR (dc dt_X5_isUnder 14 rfl) ?_
    exact r_zret hT (dc dt_X5_isUnder 15 rfl) (Option.some.inj h) rfl (Or.inr rfl)
set_option maxRecDepth 100000 in
set_option maxHeartbeats 4000000 in
theorem ok_F5_isUnder {m : Mem}  {v0 v1 : Int} (q0 : inR v0) (q1 : inR v1) {out : Int} (h : F5_isUnder v0 v1 = some out) : CT l G cy ad tt yX5_isUnder cX5_isUnder 4 (some .boolean) 1 [iv v0, iv v1] m (some (iv out)) (inZ out) m := by
  refine CT_of (by decide) (Nat.le_of_ble_eq_true rfl) (fun Go hR hT => ?_)
  replace hR : RS l G cy ad tt RX5 cX5_isUnder 4 1 Go := hR
  show Go 0 [some (iv v0), some (iv v1), none, none] [] m
  unfold F5_isUnder at h
  refine r_iload_n (pc := 0) hR (dc dt_X5_isUnder 0 rfl) rfl ?_
  refine r_istore_n (pc := 1) (L' := [some (iv v0), some (iv v1), some (iv v0), none]) hR (dc dt_X5_isUnder 1 rfl) (by decide) rfl rfl ?_
  refine r_iconst (pc := 2) hR (dc dt_X5_isUnder 2 rfl) ?_
  refine r_istore_n (pc := 3) (L' := [some (iv v0), some (iv v1), some (iv v0), some (iv 0)]) hR (dc dt_X5_isUnder 3 rfl) (by decide) rfl rfl ?_
  refine r_weak (L' := [none, some (iv v1), some (iv v0), some (iv 0)]) hR ⟨Or.inl rfl, Or.inr rfl, Or.inr rfl, Or.inr rfl, trivial⟩ ?_
  refine lp_L5_isUnder_4 hR hT q1 FU v0 0 q0 (rg_c rfl) h
def tb_X5_holds : List (Nat × (Instr × Nat)) := [(0, (.aload_n 0, 1)), (1, (.getfield 30, 3)), (4, (.iconst 2, 1)), (5, (.if_icmp .ne 24, 3)), (8, (.aload_n 0, 1)), (9, (.bipush 30, 2)), (11, (.invokevirtual 55, 3)), (14, (.aload_n 0, 1)), (15, (.bipush 11, 2)), (17, (.invokevirtual 55, 3)), (20, (.iload_n 1, 1)), (21, (.aload_n 0, 1)), (22, (.getfield 33, 3)), (25, (.ixor, 1)), (26, (.iconst 3, 1)), (27, (.imul, 1)), (28, (.ireturn, 1)), (29, (.aload_n 0, 1)), (30, (.getfield 30, 3)), (33, (.iconst 5, 1)), (34, (.if_icmp .ne 9, 3)), (37, (.aload_n 0, 1)), (38, (.bipush 61, 2)), (40, (.invokevirtual 55, 3)), (43, (.aload_n 0, 1)), (44, (.getfield 30, 3)), (47, (.iconst 4, 1)), (48, (.invokestatic 59, 3)), (51, (.ifCond .eq 9, 3)), (54, (.aload_n 0, 1)), (55, (.bipush 50, 2)), (57, (.invokevirtual 55, 3)), (60, (.aload_n 0, 1)), (61, (.bipush 11, 2)), (63, (.invokevirtual 55, 3)), (66, (.aload_n 0, 1)), (67, (.getfield 30, 3)), (70, (.iconst 4, 1)), (71, (.invokestatic 59, 3)), (74, (.ifCond .eq 13, 3)), (77, (.iload_n 1, 1)), (78, (.aload_n 0, 1)), (79, (.getfield 33, 3)), (82, (.ixor, 1)), (83, (.ineg, 1)), (84, (.goto 9, 3)), (87, (.iload_n 1, 1)), (88, (.aload_n 0, 1)), (89, (.getfield 33, 3)), (92, (.ixor, 1)), (93, (.istore_n 2, 1)), (94, (.aload_n 0, 1)), (95, (.getfield 30, 3)), (98, (.iconst 5, 1)), (99, (.if_icmp .ne 13, 3)), (102, (.iload_n 2, 1)), (103, (.aload_n 0, 1)), (104, (.iconst 2, 1)), (105, (.invokevirtual 39, 3)), (108, (.iadd, 1)), (109, (.goto 4, 3)), (112, (.iload_n 2, 1)), (113, (.ireturn, 1))]
set_option maxRecDepth 100000 in
theorem dt_X5_holds : (tb_X5_holds.all fun q => decide (decode cX5_holds q.1 = .ok q.2)) = true := by decide +kernel
set_option maxRecDepth 100000 in
set_option maxHeartbeats 4000000 in
theorem ok_F5_holds {m : Mem}  {v1 : Int} (q1 : inR v1) {out : Int × Mem} (h : F5_holds m v1 = some out) : CT l G cy ad tt yX5_holds cX5_holds 3 (some .int) 2 [.ref (ad 66), iv v1] m (some (iv out.1)) (inR out.1) out.2 := by
  refine CT_of (by decide) (Nat.le_of_ble_eq_true rfl) (fun Go hR hT => ?_)
  replace hR : RS l G cy ad tt RX5 cX5_holds 3 2 Go := hR
  show Go 0 [some (.ref (ad 66)), some (iv v1), none] [] m
  unfold F5_holds at h
  refine r_aload_n (pc := 0) hR (dc dt_X5_holds 0 rfl) rfl ?_
  refine r_geti (pc := 1) hR (dc dt_X5_holds 1 rfl) fl_X5_30 tc_66 rfl ?_
  refine r_iconst (pc := 4) hR (dc dt_X5_holds 2 rfl) ?_
  refine r_icmp_ne (pc := 5) (tgt := 29) hR (dc dt_X5_holds 3 rfl) (by decide) (rd_in _ _ _) (rg_c rfl) (fun hc => ?_) (fun hc => ?_)
  · replace h := ite_t hc h
    refine r_aload_n (pc := 29) hR (dc dt_X5_holds 17 rfl) rfl ?_
    refine r_geti (pc := 30) hR (dc dt_X5_holds 18 rfl) fl_X5_30 tc_66 rfl ?_
    refine r_iconst (pc := 33) hR (dc dt_X5_holds 19 rfl) ?_
    refine jn_e h (fun (K : Mem → Option (Int × Mem)) => ∀ (m_43 : Mem), K m_43 = some out → Go 43 [some (.ref (ad 66)), some (iv v1), none] [] m_43) (fun m_43 h => ?_) (fun K43 J43 h => ?_)
    · refine r_aload_n (pc := 43) hR (dc dt_X5_holds 24 rfl) rfl ?_
      refine r_geti (pc := 44) hR (dc dt_X5_holds 25 rfl) fl_X5_30 tc_66 rfl ?_
      refine r_iconst (pc := 47) hR (dc dt_X5_holds 26 rfl) ?_
      obtain ⟨r48, e48, h⟩ := b1_some h
      refine r_callS (pc := 48) (rest := []) hR (dc dt_X5_holds 27 rfl) cl_X5_59 (ok_F5_isUnder (rd_in _ _ _) (rg_c rfl) e48) (by decide) rfl (Nat.le_of_ble_eq_true rfl) rfl (fun q48r => ?_)
      show Go 51 [some (.ref (ad 66)), some (iv v1), none] [iv r48] m_43
      refine jn_e h (fun (K : Mem → Option (Int × Mem)) => ∀ (m_60 : Mem), K m_60 = some out → Go 60 [some (.ref (ad 66)), some (iv v1), none] [] m_60) (fun m_60 h => ?_) (fun K60 J60 h => ?_)
      · refine r_aload_n (pc := 60) hR (dc dt_X5_holds 32 rfl) rfl ?_
        refine r_bipush (pc := 61) hR (dc dt_X5_holds 33 rfl) (by decide) ?_
        obtain ⟨m63, e63, h⟩ := b1_some h
        refine r_callV (pc := 63) (rest := []) hR (dc dt_X5_holds 34 rfl) cl_X5_55 tc_66 rfl (ok_F5_began (rg_c rfl) e63) (by decide) rfl (Nat.le_of_ble_eq_true rfl) rfl (fun q63r => ?_)
        show Go 66 [some (.ref (ad 66)), some (iv v1), none] [] m63
        refine r_aload_n (pc := 66) hR (dc dt_X5_holds 35 rfl) rfl ?_
        refine r_geti (pc := 67) hR (dc dt_X5_holds 36 rfl) fl_X5_30 tc_66 rfl ?_
        refine r_iconst (pc := 70) hR (dc dt_X5_holds 37 rfl) ?_
        obtain ⟨r71, e71, h⟩ := b1_some h
        refine r_callS (pc := 71) (rest := []) hR (dc dt_X5_holds 38 rfl) cl_X5_59 (ok_F5_isUnder (rd_in _ _ _) (rg_c rfl) e71) (by decide) rfl (Nat.le_of_ble_eq_true rfl) rfl (fun q71r => ?_)
        show Go 74 [some (.ref (ad 66)), some (iv v1), none] [iv r71] m63
        refine jn_e h (fun (K : Int → Option (Int × Mem)) => ∀ (x93 : Int), inR x93 → K x93 = some out → Go 93 [some (.ref (ad 66)), none, none] [iv x93] m63) (fun x93 qx93 h => ?_) (fun K93 J93 h => ?_)
        · refine r_istore_n (pc := 93) (L' := [some (.ref (ad 66)), none, some (iv x93)]) hR (dc dt_X5_holds 50 rfl) (by decide) rfl rfl ?_
          refine r_aload_n (pc := 94) hR (dc dt_X5_holds 51 rfl) rfl ?_
          refine r_geti (pc := 95) hR (dc dt_X5_holds 52 rfl) fl_X5_30 tc_66 rfl ?_
          refine r_iconst (pc := 98) hR (dc dt_X5_holds 53 rfl) ?_
          refine r_icmp_ne (pc := 99) (tgt := 112) hR (dc dt_X5_holds 54 rfl) (by decide) (rd_in _ _ _) (rg_c rfl) (fun hc => ?_) (fun hc => ?_)
          · replace h := ite_t hc h
            refine r_iload_n (pc := 112) hR (dc dt_X5_holds 61 rfl) rfl ?_
            exact r_iret hT (dc dt_X5_holds 62 rfl) (congrArg Prod.fst (Option.some.inj h)) (congrArg Prod.snd (Option.some.inj h)) qx93
          replace h := ite_f hc h
          refine r_iload_n (pc := 102) hR (dc dt_X5_holds 55 rfl) rfl ?_
          refine r_aload_n (pc := 103) hR (dc dt_X5_holds 56 rfl) rfl ?_
          refine r_iconst (pc := 104) hR (dc dt_X5_holds 57 rfl) ?_
          obtain ⟨r105, m105, e105, h⟩ := b2_some h
          refine r_callV (pc := 105) (rest := [iv x93]) hR (dc dt_X5_holds 58 rfl) cl_X5_39 tc_66 rfl (ok_F5_costs (rg_c rfl) e105) (by decide) rfl (Nat.le_of_ble_eq_true rfl) rfl (fun q105r => ?_)
          show Go 108 [some (.ref (ad 66)), none, some (iv x93)] [iv r105, iv x93] m105
          refine r_iadd (pc := 108) hR (dc dt_X5_holds 59 rfl) ?_
          refine r_goto (pc := 109) (tgt := 113) hR (dc dt_X5_holds 60 rfl) (by decide) ?_
          exact r_iret hT (dc dt_X5_holds 62 rfl) (congrArg Prod.fst (Option.some.inj h)) (congrArg Prod.snd (Option.some.inj h)) (w32_in _)
        refine r_if_eq (pc := 74) (tgt := 87) hR (dc dt_X5_holds 39 rfl) (by decide) (inZ_R q71r) (fun hc => ?_) (fun hc => ?_)
        · replace h := ite_t hc h
          refine r_iload_n (pc := 87) hR (dc dt_X5_holds 46 rfl) rfl ?_
          refine r_aload_n (pc := 88) hR (dc dt_X5_holds 47 rfl) rfl ?_
          refine r_geti (pc := 89) hR (dc dt_X5_holds 48 rfl) fl_X5_33 tc_66 rfl ?_
          refine r_ixor (pc := 92) hR (dc dt_X5_holds 49 rfl) ?_
          refine r_weak (L' := [some (.ref (ad 66)), none, none]) hR ⟨Or.inr rfl, Or.inl rfl, Or.inr rfl, trivial⟩ ?_
          exact J93 (bxor v1 (rd m63 66 6)) (ti_in _) h
        replace h := ite_f hc h
        refine r_iload_n (pc := 77) hR (dc dt_X5_holds 40 rfl) rfl ?_
        refine r_aload_n (pc := 78) hR (dc dt_X5_holds 41 rfl) rfl ?_
        refine r_geti (pc := 79) hR (dc dt_X5_holds 42 rfl) fl_X5_33 tc_66 rfl ?_
        refine r_ixor (pc := 82) hR (dc dt_X5_holds 43 rfl) ?_
        refine r_ineg (pc := 83) hR (dc dt_X5_holds 44 rfl) ?_
        refine r_goto (pc := 84) (tgt := 93) hR (dc dt_X5_holds 45 rfl) (by decide) ?_
        refine r_weak (L' := [some (.ref (ad 66)), none, none]) hR ⟨Or.inr rfl, Or.inl rfl, Or.inr rfl, trivial⟩ ?_
        exact J93 (w32 (-(bxor v1 (rd m63 66 6)))) (w32_in _) h
      refine r_if_eq (pc := 51) (tgt := 60) hR (dc dt_X5_holds 28 rfl) (by decide) (inZ_R q48r) (fun hc => ?_) (fun hc => ?_)
      · replace h := ite_t hc h
        exact J60 m_43 h
      replace h := ite_f hc h
      refine r_aload_n (pc := 54) hR (dc dt_X5_holds 29 rfl) rfl ?_
      refine r_bipush (pc := 55) hR (dc dt_X5_holds 30 rfl) (by decide) ?_
      obtain ⟨m57, e57, h⟩ := b1_some h
      refine r_callV (pc := 57) (rest := []) hR (dc dt_X5_holds 31 rfl) cl_X5_55 tc_66 rfl (ok_F5_began (rg_c rfl) e57) (by decide) rfl (Nat.le_of_ble_eq_true rfl) rfl (fun q57r => ?_)
      show Go 60 [some (.ref (ad 66)), some (iv v1), none] [] m57
      exact J60 m57 h
    refine r_icmp_ne (pc := 34) (tgt := 43) hR (dc dt_X5_holds 20 rfl) (by decide) (rd_in _ _ _) (rg_c rfl) (fun hc => ?_) (fun hc => ?_)
    · replace h := ite_t hc h
      exact J43 m h
    replace h := ite_f hc h
    refine r_aload_n (pc := 37) hR (dc dt_X5_holds 21 rfl) rfl ?_
    refine r_bipush (pc := 38) hR (dc dt_X5_holds 22 rfl) (by decide) ?_
    obtain ⟨m40, e40, h⟩ := b1_some h
    refine r_callV (pc := 40) (rest := []) hR (dc dt_X5_holds 23 rfl) cl_X5_55 tc_66 rfl (ok_F5_began (rg_c rfl) e40) (by decide) rfl (Nat.le_of_ble_eq_true rfl) rfl (fun q40r => ?_)
    show Go 43 [some (.ref (ad 66)), some (iv v1), none] [] m40
    exact J43 m40 h
  replace h := ite_f hc h
  refine r_aload_n (pc := 8) hR (dc dt_X5_holds 4 rfl) rfl ?_
  refine r_bipush (pc := 9) hR (dc dt_X5_holds 5 rfl) (by decide) ?_
  obtain ⟨m11, e11, h⟩ := b1_some h
  refine r_callV (pc := 11) (rest := []) hR (dc dt_X5_holds 6 rfl) cl_X5_55 tc_66 rfl (ok_F5_began (rg_c rfl) e11) (by decide) rfl (Nat.le_of_ble_eq_true rfl) rfl (fun q11r => ?_)
  show Go 14 [some (.ref (ad 66)), some (iv v1), none] [] m11
  refine r_aload_n (pc := 14) hR (dc dt_X5_holds 7 rfl) rfl ?_
  refine r_bipush (pc := 15) hR (dc dt_X5_holds 8 rfl) (by decide) ?_
  obtain ⟨m17, e17, h⟩ := b1_some h
  refine r_callV (pc := 17) (rest := []) hR (dc dt_X5_holds 9 rfl) cl_X5_55 tc_66 rfl (ok_F5_began (rg_c rfl) e17) (by decide) rfl (Nat.le_of_ble_eq_true rfl) rfl (fun q17r => ?_)
  show Go 20 [some (.ref (ad 66)), some (iv v1), none] [] m17
  refine r_iload_n (pc := 20) hR (dc dt_X5_holds 10 rfl) rfl ?_
  refine r_aload_n (pc := 21) hR (dc dt_X5_holds 11 rfl) rfl ?_
  refine r_geti (pc := 22) hR (dc dt_X5_holds 12 rfl) fl_X5_33 tc_66 rfl ?_
  refine r_ixor (pc := 25) hR (dc dt_X5_holds 13 rfl) ?_
  refine r_iconst (pc := 26) hR (dc dt_X5_holds 14 rfl) ?_
  refine r_imul (pc := 27) hR (dc dt_X5_holds 15 rfl) ?_
  exact r_iret hT (dc dt_X5_holds 16 rfl) (congrArg Prod.fst (Option.some.inj h)) (congrArg Prod.snd (Option.some.inj h)) (w32_in _)
def tb_X5_lets : List (Nat × (Instr × Nat)) := [(0, (.aload_n 0, 1)), (1, (.getfield 30, 3)), (4, (.bipush 6, 2)), (6, (.if_icmp .ne 9, 3)), (9, (.aload_n 0, 1)), (10, (.bipush 70, 2)), (12, (.invokevirtual 55, 3)), (15, (.aload_n 0, 1)), (16, (.getfield 30, 3)), (19, (.iconst 1, 1)), (20, (.invokestatic 59, 3)), (23, (.ifCond .eq 9, 3)), (26, (.aload_n 0, 1)), (27, (.bipush 20, 2)), (29, (.invokevirtual 55, 3)), (32, (.aload_n 0, 1)), (33, (.bipush 10, 2)), (35, (.invokevirtual 55, 3)), (38, (.aload_n 0, 1)), (39, (.iload_n 1, 1)), (40, (.invokevirtual 39, 3)), (43, (.iconst 2, 1)), (44, (.imul, 1)), (45, (.istore_n 2, 1)), (46, (.aload_n 0, 1)), (47, (.getfield 30, 3)), (50, (.iconst 1, 1)), (51, (.invokestatic 59, 3)), (54, (.ifCond .eq 10, 3)), (57, (.iload_n 2, 1)), (58, (.aload_n 0, 1)), (59, (.getfield 36, 3)), (62, (.iadd, 1)), (63, (.istore_n 2, 1)), (64, (.aload_n 0, 1)), (65, (.getfield 30, 3)), (68, (.bipush 6, 2)), (70, (.if_icmp .ne 13, 3)), (73, (.iload_n 2, 1)), (74, (.aload_n 0, 1)), (75, (.iconst 2, 1)), (76, (.invokevirtual 46, 3)), (79, (.isub, 1)), (80, (.goto 4, 3)), (83, (.iload_n 2, 1)), (84, (.ireturn, 1))]
set_option maxRecDepth 100000 in
theorem dt_X5_lets : (tb_X5_lets.all fun q => decide (decode cX5_lets q.1 = .ok q.2)) = true := by decide +kernel
set_option maxRecDepth 100000 in
set_option maxHeartbeats 4000000 in
theorem ok_F5_lets {m : Mem}  {v1 : Int} (q1 : inR v1) {out : Int × Mem} (h : F5_lets m v1 = some out) : CT l G cy ad tt yX5_lets cX5_lets 3 (some .int) 3 [.ref (ad 66), iv v1] m (some (iv out.1)) (inR out.1) out.2 := by
  refine CT_of (by decide) (Nat.le_of_ble_eq_true rfl) (fun Go hR hT => ?_)
  replace hR : RS l G cy ad tt RX5 cX5_lets 3 3 Go := hR
  show Go 0 [some (.ref (ad 66)), some (iv v1), none] [] m
  unfold F5_lets at h
  refine r_aload_n (pc := 0) hR (dc dt_X5_lets 0 rfl) rfl ?_
  refine r_geti (pc := 1) hR (dc dt_X5_lets 1 rfl) fl_X5_30 tc_66 rfl ?_
  refine r_bipush (pc := 4) hR (dc dt_X5_lets 2 rfl) (by decide) ?_
  refine jn_e h (fun (K : Mem → Option (Int × Mem)) => ∀ (m_15 : Mem), K m_15 = some out → Go 15 [some (.ref (ad 66)), some (iv v1), none] [] m_15) (fun m_15 h => ?_) (fun K15 J15 h => ?_)
  · refine r_aload_n (pc := 15) hR (dc dt_X5_lets 7 rfl) rfl ?_
    refine r_geti (pc := 16) hR (dc dt_X5_lets 8 rfl) fl_X5_30 tc_66 rfl ?_
    refine r_iconst (pc := 19) hR (dc dt_X5_lets 9 rfl) ?_
    obtain ⟨r20, e20, h⟩ := b1_some h
    refine r_callS (pc := 20) (rest := []) hR (dc dt_X5_lets 10 rfl) cl_X5_59 (ok_F5_isUnder (rd_in _ _ _) (rg_c rfl) e20) (by decide) rfl (Nat.le_of_ble_eq_true rfl) rfl (fun q20r => ?_)
    show Go 23 [some (.ref (ad 66)), some (iv v1), none] [iv r20] m_15
    refine jn_e h (fun (K : Mem → Option (Int × Mem)) => ∀ (m_32 : Mem), K m_32 = some out → Go 32 [some (.ref (ad 66)), some (iv v1), none] [] m_32) (fun m_32 h => ?_) (fun K32 J32 h => ?_)
    · refine r_aload_n (pc := 32) hR (dc dt_X5_lets 15 rfl) rfl ?_
      refine r_bipush (pc := 33) hR (dc dt_X5_lets 16 rfl) (by decide) ?_
      obtain ⟨m35, e35, h⟩ := b1_some h
      refine r_callV (pc := 35) (rest := []) hR (dc dt_X5_lets 17 rfl) cl_X5_55 tc_66 rfl (ok_F5_began (rg_c rfl) e35) (by decide) rfl (Nat.le_of_ble_eq_true rfl) rfl (fun q35r => ?_)
      show Go 38 [some (.ref (ad 66)), some (iv v1), none] [] m35
      refine r_aload_n (pc := 38) hR (dc dt_X5_lets 18 rfl) rfl ?_
      refine r_iload_n (pc := 39) hR (dc dt_X5_lets 19 rfl) rfl ?_
      obtain ⟨r40, m40, e40, h⟩ := b2_some h
      refine r_callV (pc := 40) (rest := []) hR (dc dt_X5_lets 20 rfl) cl_X5_39 tc_66 rfl (ok_F5_costs q1 e40) (by decide) rfl (Nat.le_of_ble_eq_true rfl) rfl (fun q40r => ?_)
      show Go 43 [some (.ref (ad 66)), some (iv v1), none] [iv r40] m40
      refine r_iconst (pc := 43) hR (dc dt_X5_lets 21 rfl) ?_
      refine r_imul (pc := 44) hR (dc dt_X5_lets 22 rfl) ?_
      refine r_istore_n (pc := 45) (L' := [some (.ref (ad 66)), some (iv v1), some (iv (w32 (r40 * 2)))]) hR (dc dt_X5_lets 23 rfl) (by decide) rfl rfl ?_
      refine r_aload_n (pc := 46) hR (dc dt_X5_lets 24 rfl) rfl ?_
      refine r_geti (pc := 47) hR (dc dt_X5_lets 25 rfl) fl_X5_30 tc_66 rfl ?_
      refine r_iconst (pc := 50) hR (dc dt_X5_lets 26 rfl) ?_
      obtain ⟨r51, e51, h⟩ := b1_some h
      refine r_callS (pc := 51) (rest := []) hR (dc dt_X5_lets 27 rfl) cl_X5_59 (ok_F5_isUnder (rd_in _ _ _) (rg_c rfl) e51) (by decide) rfl (Nat.le_of_ble_eq_true rfl) rfl (fun q51r => ?_)
      show Go 54 [some (.ref (ad 66)), some (iv v1), some (iv (w32 (r40 * 2)))] [iv r51] m40
      refine jn_e h (fun (K : Int → Option (Int × Mem)) => ∀ (v2_64 : Int), inR v2_64 → K v2_64 = some out → Go 64 [some (.ref (ad 66)), none, some (iv v2_64)] [] m40) (fun v2_64 qv2_64 h => ?_) (fun K64 J64 h => ?_)
      · refine r_aload_n (pc := 64) hR (dc dt_X5_lets 34 rfl) rfl ?_
        refine r_geti (pc := 65) hR (dc dt_X5_lets 35 rfl) fl_X5_30 tc_66 rfl ?_
        refine r_bipush (pc := 68) hR (dc dt_X5_lets 36 rfl) (by decide) ?_
        refine r_icmp_ne (pc := 70) (tgt := 83) hR (dc dt_X5_lets 37 rfl) (by decide) (rd_in _ _ _) (rg_c rfl) (fun hc => ?_) (fun hc => ?_)
        · replace h := ite_t hc h
          refine r_iload_n (pc := 83) hR (dc dt_X5_lets 44 rfl) rfl ?_
          exact r_iret hT (dc dt_X5_lets 45 rfl) (congrArg Prod.fst (Option.some.inj h)) (congrArg Prod.snd (Option.some.inj h)) qv2_64
        replace h := ite_f hc h
        refine r_iload_n (pc := 73) hR (dc dt_X5_lets 38 rfl) rfl ?_
        refine r_aload_n (pc := 74) hR (dc dt_X5_lets 39 rfl) rfl ?_
        refine r_iconst (pc := 75) hR (dc dt_X5_lets 40 rfl) ?_
        obtain ⟨r76, m76, e76, h⟩ := b2_some h
        refine r_callV (pc := 76) (rest := [iv v2_64]) hR (dc dt_X5_lets 41 rfl) cl_X5_46 tc_66 rfl (ok_F5_holds (rg_c rfl) e76) (by decide) rfl (Nat.le_of_ble_eq_true rfl) rfl (fun q76r => ?_)
        show Go 79 [some (.ref (ad 66)), none, some (iv v2_64)] [iv r76, iv v2_64] m76
        refine r_isub (pc := 79) hR (dc dt_X5_lets 42 rfl) ?_
        refine r_goto (pc := 80) (tgt := 84) hR (dc dt_X5_lets 43 rfl) (by decide) ?_
        exact r_iret hT (dc dt_X5_lets 45 rfl) (congrArg Prod.fst (Option.some.inj h)) (congrArg Prod.snd (Option.some.inj h)) (w32_in _)
      refine r_if_eq (pc := 54) (tgt := 64) hR (dc dt_X5_lets 28 rfl) (by decide) (inZ_R q51r) (fun hc => ?_) (fun hc => ?_)
      · replace h := ite_t hc h
        refine r_weak (L' := [some (.ref (ad 66)), none, some (iv (w32 (r40 * 2)))]) hR ⟨Or.inr rfl, Or.inl rfl, Or.inr rfl, trivial⟩ ?_
        exact J64 (w32 (r40 * 2)) (w32_in _) h
      replace h := ite_f hc h
      refine r_iload_n (pc := 57) hR (dc dt_X5_lets 29 rfl) rfl ?_
      refine r_aload_n (pc := 58) hR (dc dt_X5_lets 30 rfl) rfl ?_
      refine r_geti (pc := 59) hR (dc dt_X5_lets 31 rfl) fl_X5_36 tc_66 rfl ?_
      refine r_iadd (pc := 62) hR (dc dt_X5_lets 32 rfl) ?_
      refine r_istore_n (pc := 63) (L' := [some (.ref (ad 66)), some (iv v1), some (iv (w32 ((w32 (r40 * 2)) + (rd m40 66 7))))]) hR (dc dt_X5_lets 33 rfl) (by decide) rfl rfl ?_
      refine r_weak (L' := [some (.ref (ad 66)), none, some (iv (w32 ((w32 (r40 * 2)) + (rd m40 66 7))))]) hR ⟨Or.inr rfl, Or.inl rfl, Or.inr rfl, trivial⟩ ?_
      exact J64 (w32 ((w32 (r40 * 2)) + (rd m40 66 7))) (w32_in _) h
    refine r_if_eq (pc := 23) (tgt := 32) hR (dc dt_X5_lets 11 rfl) (by decide) (inZ_R q20r) (fun hc => ?_) (fun hc => ?_)
    · replace h := ite_t hc h
      exact J32 m_15 h
    replace h := ite_f hc h
    refine r_aload_n (pc := 26) hR (dc dt_X5_lets 12 rfl) rfl ?_
    refine r_bipush (pc := 27) hR (dc dt_X5_lets 13 rfl) (by decide) ?_
    obtain ⟨m29, e29, h⟩ := b1_some h
    refine r_callV (pc := 29) (rest := []) hR (dc dt_X5_lets 14 rfl) cl_X5_55 tc_66 rfl (ok_F5_began (rg_c rfl) e29) (by decide) rfl (Nat.le_of_ble_eq_true rfl) rfl (fun q29r => ?_)
    show Go 32 [some (.ref (ad 66)), some (iv v1), none] [] m29
    exact J32 m29 h
  refine r_icmp_ne (pc := 6) (tgt := 15) hR (dc dt_X5_lets 3 rfl) (by decide) (rd_in _ _ _) (rg_c rfl) (fun hc => ?_) (fun hc => ?_)
  · replace h := ite_t hc h
    exact J15 m h
  replace h := ite_f hc h
  refine r_aload_n (pc := 9) hR (dc dt_X5_lets 4 rfl) rfl ?_
  refine r_bipush (pc := 10) hR (dc dt_X5_lets 5 rfl) (by decide) ?_
  obtain ⟨m12, e12, h⟩ := b1_some h
  refine r_callV (pc := 12) (rest := []) hR (dc dt_X5_lets 6 rfl) cl_X5_55 tc_66 rfl (ok_F5_began (rg_c rfl) e12) (by decide) rfl (Nat.le_of_ble_eq_true rfl) rfl (fun q12r => ?_)
  show Go 15 [some (.ref (ad 66)), some (iv v1), none] [] m12
  exact J15 m12 h
def tb_X5_tells : List (Nat × (Instr × Nat)) := [(0, (.aload_n 0, 1)), (1, (.getfield 30, 3)), (4, (.iconst 3, 1)), (5, (.if_icmp .ne 9, 3)), (8, (.aload_n 0, 1)), (9, (.bipush 41, 2)), (11, (.invokevirtual 55, 3)), (14, (.aload_n 0, 1)), (15, (.iconst 2, 1)), (16, (.invokevirtual 55, 3)), (19, (.aload_n 0, 1)), (20, (.iload_n 1, 1)), (21, (.invokevirtual 43, 3)), (24, (.istore_n 2, 1)), (25, (.iload_n 2, 1)), (26, (.aload_n 0, 1)), (27, (.iconst 1, 1)), (28, (.invokevirtual 46, 3)), (31, (.isub, 1)), (32, (.istore_n 2, 1)), (33, (.aload_n 0, 1)), (34, (.getfield 30, 3)), (37, (.iconst 3, 1)), (38, (.if_icmp .ne 9, 3)), (41, (.iload_n 2, 1)), (42, (.iconst 5, 1)), (43, (.ixor, 1)), (44, (.goto 4, 3)), (47, (.iload_n 2, 1)), (48, (.ireturn, 1))]
set_option maxRecDepth 100000 in
theorem dt_X5_tells : (tb_X5_tells.all fun q => decide (decode cX5_tells q.1 = .ok q.2)) = true := by decide +kernel
set_option maxRecDepth 100000 in
set_option maxHeartbeats 4000000 in
theorem ok_F5_tells {m : Mem}  {v1 : Int} (q1 : inR v1) {out : Int × Mem} (h : F5_tells m v1 = some out) : CT l G cy ad tt yX5_tells cX5_tells 3 (some .int) 4 [.ref (ad 66), iv v1] m (some (iv out.1)) (inR out.1) out.2 := by
  refine CT_of (by decide) (Nat.le_of_ble_eq_true rfl) (fun Go hR hT => ?_)
  replace hR : RS l G cy ad tt RX5 cX5_tells 3 4 Go := hR
  show Go 0 [some (.ref (ad 66)), some (iv v1), none] [] m
  unfold F5_tells at h
  refine r_aload_n (pc := 0) hR (dc dt_X5_tells 0 rfl) rfl ?_
  refine r_geti (pc := 1) hR (dc dt_X5_tells 1 rfl) fl_X5_30 tc_66 rfl ?_
  refine r_iconst (pc := 4) hR (dc dt_X5_tells 2 rfl) ?_
  refine jn_e h (fun (K : Mem → Option (Int × Mem)) => ∀ (m_14 : Mem), K m_14 = some out → Go 14 [some (.ref (ad 66)), some (iv v1), none] [] m_14) (fun m_14 h => ?_) (fun K14 J14 h => ?_)
  · refine r_aload_n (pc := 14) hR (dc dt_X5_tells 7 rfl) rfl ?_
    refine r_iconst (pc := 15) hR (dc dt_X5_tells 8 rfl) ?_
    obtain ⟨m16, e16, h⟩ := b1_some h
    refine r_callV (pc := 16) (rest := []) hR (dc dt_X5_tells 9 rfl) cl_X5_55 tc_66 rfl (ok_F5_began (rg_c rfl) e16) (by decide) rfl (Nat.le_of_ble_eq_true rfl) rfl (fun q16r => ?_)
    show Go 19 [some (.ref (ad 66)), some (iv v1), none] [] m16
    refine r_aload_n (pc := 19) hR (dc dt_X5_tells 10 rfl) rfl ?_
    refine r_iload_n (pc := 20) hR (dc dt_X5_tells 11 rfl) rfl ?_
    obtain ⟨r21, m21, e21, h⟩ := b2_some h
    refine r_callV (pc := 21) (rest := []) hR (dc dt_X5_tells 12 rfl) cl_X5_43 tc_66 rfl (ok_F5_lets q1 e21) (by decide) rfl (Nat.le_of_ble_eq_true rfl) rfl (fun q21r => ?_)
    show Go 24 [some (.ref (ad 66)), some (iv v1), none] [iv r21] m21
    refine r_istore_n (pc := 24) (L' := [some (.ref (ad 66)), some (iv v1), some (iv r21)]) hR (dc dt_X5_tells 13 rfl) (by decide) rfl rfl ?_
    refine r_iload_n (pc := 25) hR (dc dt_X5_tells 14 rfl) rfl ?_
    refine r_aload_n (pc := 26) hR (dc dt_X5_tells 15 rfl) rfl ?_
    refine r_iconst (pc := 27) hR (dc dt_X5_tells 16 rfl) ?_
    obtain ⟨r28, m28, e28, h⟩ := b2_some h
    refine r_callV (pc := 28) (rest := [iv r21]) hR (dc dt_X5_tells 17 rfl) cl_X5_46 tc_66 rfl (ok_F5_holds (rg_c rfl) e28) (by decide) rfl (Nat.le_of_ble_eq_true rfl) rfl (fun q28r => ?_)
    show Go 31 [some (.ref (ad 66)), some (iv v1), some (iv r21)] [iv r28, iv r21] m28
    refine r_isub (pc := 31) hR (dc dt_X5_tells 18 rfl) ?_
    refine r_istore_n (pc := 32) (L' := [some (.ref (ad 66)), some (iv v1), some (iv (w32 (r21 - r28)))]) hR (dc dt_X5_tells 19 rfl) (by decide) rfl rfl ?_
    refine r_aload_n (pc := 33) hR (dc dt_X5_tells 20 rfl) rfl ?_
    refine r_geti (pc := 34) hR (dc dt_X5_tells 21 rfl) fl_X5_30 tc_66 rfl ?_
    refine r_iconst (pc := 37) hR (dc dt_X5_tells 22 rfl) ?_
    refine r_icmp_ne (pc := 38) (tgt := 47) hR (dc dt_X5_tells 23 rfl) (by decide) (rd_in _ _ _) (rg_c rfl) (fun hc => ?_) (fun hc => ?_)
    · replace h := ite_t hc h
      refine r_iload_n (pc := 47) hR (dc dt_X5_tells 28 rfl) rfl ?_
      exact r_iret hT (dc dt_X5_tells 29 rfl) (congrArg Prod.fst (Option.some.inj h)) (congrArg Prod.snd (Option.some.inj h)) (w32_in _)
    replace h := ite_f hc h
    refine r_iload_n (pc := 41) hR (dc dt_X5_tells 24 rfl) rfl ?_
    refine r_iconst (pc := 42) hR (dc dt_X5_tells 25 rfl) ?_
    refine r_ixor (pc := 43) hR (dc dt_X5_tells 26 rfl) ?_
    refine r_goto (pc := 44) (tgt := 48) hR (dc dt_X5_tells 27 rfl) (by decide) ?_
    exact r_iret hT (dc dt_X5_tells 29 rfl) (congrArg Prod.fst (Option.some.inj h)) (congrArg Prod.snd (Option.some.inj h)) (ti_in _)
  refine r_icmp_ne (pc := 5) (tgt := 14) hR (dc dt_X5_tells 3 rfl) (by decide) (rd_in _ _ _) (rg_c rfl) (fun hc => ?_) (fun hc => ?_)
  · replace h := ite_t hc h
    exact J14 m h
  replace h := ite_f hc h
  refine r_aload_n (pc := 8) hR (dc dt_X5_tells 4 rfl) rfl ?_
  refine r_bipush (pc := 9) hR (dc dt_X5_tells 5 rfl) (by decide) ?_
  obtain ⟨m11, e11, h⟩ := b1_some h
  refine r_callV (pc := 11) (rest := []) hR (dc dt_X5_tells 6 rfl) cl_X5_55 tc_66 rfl (ok_F5_began (rg_c rfl) e11) (by decide) rfl (Nat.le_of_ble_eq_true rfl) rfl (fun q11r => ?_)
  show Go 14 [some (.ref (ad 66)), some (iv v1), none] [] m11
  exact J14 m11 h
def tb_X5_perform : List (Nat × (Instr × Nat)) := [(0, (.aload_n 0, 1)), (1, (.aload_n 0, 1)), (2, (.getfield 9, 3)), (5, (.iload_n 1, 1)), (6, (.iaload, 1)), (7, (.putfield 30, 3)), (10, (.aload_n 0, 1)), (11, (.iload_n 1, 1)), (12, (.putfield 33, 3)), (15, (.aload_n 0, 1)), (16, (.aload_n 0, 1)), (17, (.getfield 16, 3)), (20, (.iload_n 1, 1)), (21, (.iaload, 1)), (22, (.putfield 36, 3)), (25, (.iload_n 2, 1)), (26, (.tableswitch 54 0 3 #[30, 36, 42, 48], 30)), (56, (.aload_n 0, 1)), (57, (.iload_n 3, 1)), (58, (.invokevirtual 39, 3)), (61, (.ireturn, 1)), (62, (.aload_n 0, 1)), (63, (.iload_n 3, 1)), (64, (.invokevirtual 43, 3)), (67, (.ireturn, 1)), (68, (.aload_n 0, 1)), (69, (.iload_n 3, 1)), (70, (.invokevirtual 46, 3)), (73, (.ireturn, 1)), (74, (.aload_n 0, 1)), (75, (.iload_n 3, 1)), (76, (.invokevirtual 49, 3)), (79, (.ireturn, 1)), (80, (.iconst 0, 1)), (81, (.ireturn, 1))]
set_option maxRecDepth 100000 in
theorem dt_X5_perform : (tb_X5_perform.all fun q => decide (decode cX5_perform q.1 = .ok q.2)) = true := by decide +kernel
set_option maxRecDepth 100000 in
set_option maxHeartbeats 4000000 in
theorem ok_F5_perform {m : Mem}  {v1 v2 v3 : Int} (q1 : inR v1) (q2 : inR v2) (q3 : inR v3) {out : Int × Mem} (h : F5_perform m v1 v2 v3 = some out) : CT l G cy ad tt yX5_perform cX5_perform 4 (some .int) 5 [.ref (ad 66), iv v1, iv v2, iv v3] m (some (iv out.1)) (inR out.1) out.2 := by
  refine CT_of (by decide) (Nat.le_of_ble_eq_true rfl) (fun Go hR hT => ?_)
  replace hR : RS l G cy ad tt RX5 cX5_perform 4 5 Go := hR
  show Go 0 [some (.ref (ad 66)), some (iv v1), some (iv v2), some (iv v3)] [] m
  unfold F5_perform at h
  refine r_aload_n (pc := 0) hR (dc dt_X5_perform 0 rfl) rfl ?_
  refine r_aload_n (pc := 1) hR (dc dt_X5_perform 1 rfl) rfl ?_
  refine r_getr (pc := 2) (k2 := 67) hR (dc dt_X5_perform 2 rfl) fl_X5_9 tc_66 rfl ?_
  refine r_iload_n (pc := 5) hR (dc dt_X5_perform 3 rfl) rfl ?_
  obtain ⟨g1, h⟩ := gd_some h
  refine r_iald (pc := 6) hR (dc dt_X5_perform 4 rfl) tc_67 g1 q1 ?_
  refine r_puti (pc := 7) hR (dc dt_X5_perform 5 rfl) fl_X5_30 tc_66 rfl rfl rfl ?_
  replace h := stw_e h
  generalize wr m 66 5 (rd m 67 v1) = m7 at h ⊢
  refine r_aload_n (pc := 10) hR (dc dt_X5_perform 6 rfl) rfl ?_
  refine r_iload_n (pc := 11) hR (dc dt_X5_perform 7 rfl) rfl ?_
  refine r_puti (pc := 12) hR (dc dt_X5_perform 8 rfl) fl_X5_33 tc_66 rfl rfl rfl ?_
  replace h := stw_e h
  generalize wr m7 66 6 v1 = m12 at h ⊢
  refine r_aload_n (pc := 15) hR (dc dt_X5_perform 9 rfl) rfl ?_
  refine r_aload_n (pc := 16) hR (dc dt_X5_perform 10 rfl) rfl ?_
  refine r_getr (pc := 17) (k2 := 69) hR (dc dt_X5_perform 11 rfl) fl_X5_16 tc_66 rfl ?_
  refine r_iload_n (pc := 20) hR (dc dt_X5_perform 12 rfl) rfl ?_
  obtain ⟨g1, h⟩ := gd_some h
  refine r_iald (pc := 21) hR (dc dt_X5_perform 13 rfl) tc_69 g1 q1 ?_
  refine r_puti (pc := 22) hR (dc dt_X5_perform 14 rfl) fl_X5_36 tc_66 rfl rfl rfl ?_
  replace h := stw_e h
  generalize wr m12 66 7 (rd m12 69 v1) = m22 at h ⊢
  refine r_iload_n (pc := 25) hR (dc dt_X5_perform 15 rfl) rfl ?_
  show Go 26 [some (.ref (ad 66)), some (iv v1), some (iv v2), some (iv v3)] [iv v2] m22
  by_cases hc0 : v2 = 0
  · replace h := ite_t hc0 h
    refine r_tabIn (pc := 26) (tgt := 56) hR (dc dt_X5_perform 16 rfl) q2 (by omega) (by omega) (by rw [hc0]; rfl) (by decide) ?_
    refine r_aload_n (pc := 56) hR (dc dt_X5_perform 17 rfl) rfl ?_
    refine r_iload_n (pc := 57) hR (dc dt_X5_perform 18 rfl) rfl ?_
    obtain ⟨r58, m58, e58, h⟩ := b2_some h
    refine r_callV (pc := 58) (rest := []) hR (dc dt_X5_perform 19 rfl) cl_X5_39 tc_66 rfl (ok_F5_costs q3 e58) (by decide) rfl (Nat.le_of_ble_eq_true rfl) rfl (fun q58r => ?_)
    show Go 61 [some (.ref (ad 66)), some (iv v1), some (iv v2), some (iv v3)] [iv r58] m58
    exact r_iret hT (dc dt_X5_perform 20 rfl) (congrArg Prod.fst (Option.some.inj h)) (congrArg Prod.snd (Option.some.inj h)) q58r
  replace h := ite_f hc0 h
  by_cases hc1 : v2 = 1
  · replace h := ite_t hc1 h
    refine r_tabIn (pc := 26) (tgt := 62) hR (dc dt_X5_perform 16 rfl) q2 (by omega) (by omega) (by rw [hc1]; rfl) (by decide) ?_
    refine r_aload_n (pc := 62) hR (dc dt_X5_perform 21 rfl) rfl ?_
    refine r_iload_n (pc := 63) hR (dc dt_X5_perform 22 rfl) rfl ?_
    obtain ⟨r64, m64, e64, h⟩ := b2_some h
    refine r_callV (pc := 64) (rest := []) hR (dc dt_X5_perform 23 rfl) cl_X5_43 tc_66 rfl (ok_F5_lets q3 e64) (by decide) rfl (Nat.le_of_ble_eq_true rfl) rfl (fun q64r => ?_)
    show Go 67 [some (.ref (ad 66)), some (iv v1), some (iv v2), some (iv v3)] [iv r64] m64
    exact r_iret hT (dc dt_X5_perform 24 rfl) (congrArg Prod.fst (Option.some.inj h)) (congrArg Prod.snd (Option.some.inj h)) q64r
  replace h := ite_f hc1 h
  by_cases hc2 : v2 = 2
  · replace h := ite_t hc2 h
    refine r_tabIn (pc := 26) (tgt := 68) hR (dc dt_X5_perform 16 rfl) q2 (by omega) (by omega) (by rw [hc2]; rfl) (by decide) ?_
    refine r_aload_n (pc := 68) hR (dc dt_X5_perform 25 rfl) rfl ?_
    refine r_iload_n (pc := 69) hR (dc dt_X5_perform 26 rfl) rfl ?_
    obtain ⟨r70, m70, e70, h⟩ := b2_some h
    refine r_callV (pc := 70) (rest := []) hR (dc dt_X5_perform 27 rfl) cl_X5_46 tc_66 rfl (ok_F5_holds q3 e70) (by decide) rfl (Nat.le_of_ble_eq_true rfl) rfl (fun q70r => ?_)
    show Go 73 [some (.ref (ad 66)), some (iv v1), some (iv v2), some (iv v3)] [iv r70] m70
    exact r_iret hT (dc dt_X5_perform 28 rfl) (congrArg Prod.fst (Option.some.inj h)) (congrArg Prod.snd (Option.some.inj h)) q70r
  replace h := ite_f hc2 h
  by_cases hc3 : v2 = 3
  · replace h := ite_t hc3 h
    refine r_tabIn (pc := 26) (tgt := 74) hR (dc dt_X5_perform 16 rfl) q2 (by omega) (by omega) (by rw [hc3]; rfl) (by decide) ?_
    refine r_aload_n (pc := 74) hR (dc dt_X5_perform 29 rfl) rfl ?_
    refine r_iload_n (pc := 75) hR (dc dt_X5_perform 30 rfl) rfl ?_
    obtain ⟨r76, m76, e76, h⟩ := b2_some h
    refine r_callV (pc := 76) (rest := []) hR (dc dt_X5_perform 31 rfl) cl_X5_49 tc_66 rfl (ok_F5_tells q3 e76) (by decide) rfl (Nat.le_of_ble_eq_true rfl) rfl (fun q76r => ?_)
    show Go 79 [some (.ref (ad 66)), some (iv v1), some (iv v2), some (iv v3)] [iv r76] m76
    exact r_iret hT (dc dt_X5_perform 32 rfl) (congrArg Prod.fst (Option.some.inj h)) (congrArg Prod.snd (Option.some.inj h)) q76r
  replace h := ite_f hc3 h
  refine r_tabOut (pc := 26) (tgt := 80) hR (dc dt_X5_perform 16 rfl) q2 (by omega) (by decide) ?_
  refine r_iconst (pc := 80) hR (dc dt_X5_perform 33 rfl) ?_
  exact r_iret hT (dc dt_X5_perform 34 rfl) (congrArg Prod.fst (Option.some.inj h)) (congrArg Prod.snd (Option.some.inj h)) (rg_c rfl)
def tb_X10_act : List (Nat × (Instr × Nat)) := [(0, (.aload_n 0, 1)), (1, (.getfield 65, 3)), (4, (.iconst 0, 1)), (5, (.putfield 275, 3)), (8, (.aload_n 0, 1)), (9, (.getfield 65, 3)), (12, (.iload_n 1, 1)), (13, (.invokevirtual 278, 3)), (16, (.ifCond .eq 16, 3)), (19, (.aload_n 0, 1)), (20, (.getfield 65, 3)), (23, (.iload_n 1, 1)), (24, (.iload_n 2, 1)), (25, (.iload_n 3, 1)), (26, (.invokevirtual 279, 3)), (29, (.goto 4, 3)), (32, (.iconst 0, 1)), (33, (.ireturn, 1))]
set_option maxRecDepth 100000 in
theorem dt_X10_act : (tb_X10_act.all fun q => decide (decode cX10_act q.1 = .ok q.2)) = true := by decide +kernel
set_option maxRecDepth 100000 in
set_option maxHeartbeats 4000000 in
theorem ok_F10_act {m : Mem}  {v1 v2 v3 : Int} (q1 : inR v1) (q2 : inR v2) (q3 : inR v3) {out : Int × Mem} (h : F10_act m v1 v2 v3 = some out) : CT l G cy ad tt yX10_act cX10_act 4 (some .int) 6 [.ref (ad 0), iv v1, iv v2, iv v3] m (some (iv out.1)) (inR out.1) out.2 := by
  refine CT_of (by decide) (Nat.le_of_ble_eq_true rfl) (fun Go hR hT => ?_)
  replace hR : RS l G cy ad tt RX10 cX10_act 4 6 Go := hR
  show Go 0 [some (.ref (ad 0)), some (iv v1), some (iv v2), some (iv v3)] [] m
  unfold F10_act at h
  refine r_aload_n (pc := 0) hR (dc dt_X10_act 0 rfl) rfl ?_
  refine r_getr (pc := 1) (k2 := 66) hR (dc dt_X10_act 1 rfl) fl_X10_65 tc_0 rfl ?_
  refine r_iconst (pc := 4) hR (dc dt_X10_act 2 rfl) ?_
  refine r_puti (pc := 5) hR (dc dt_X10_act 3 rfl) fl_X10_275 tc_66 rfl rfl rfl ?_
  replace h := stw_e h
  generalize wr m 66 1 0 = m5 at h ⊢
  refine r_aload_n (pc := 8) hR (dc dt_X10_act 4 rfl) rfl ?_
  refine r_getr (pc := 9) (k2 := 66) hR (dc dt_X10_act 5 rfl) fl_X10_65 tc_0 rfl ?_
  refine r_iload_n (pc := 12) hR (dc dt_X10_act 6 rfl) rfl ?_
  refine r_callV (pc := 13) (rest := []) hR (dc dt_X10_act 7 rfl) cl_X10_278 tc_66 rfl (ok_F5_has q1) (by decide) rfl (Nat.le_of_ble_eq_true rfl) rfl (fun q13r => ?_)
  show Go 16 [some (.ref (ad 0)), some (iv v1), some (iv v2), some (iv v3)] [iv (F5_has m5 v1)] m5
  refine r_if_eq (pc := 16) (tgt := 32) hR (dc dt_X10_act 8 rfl) (by decide) (inZ_R q13r) (fun hc => ?_) (fun hc => ?_)
  · replace h := ite_t hc h
    refine r_iconst (pc := 32) hR (dc dt_X10_act 16 rfl) ?_
    exact r_iret hT (dc dt_X10_act 17 rfl) (congrArg Prod.fst (Option.some.inj h)) (congrArg Prod.snd (Option.some.inj h)) (rg_c rfl)
  replace h := ite_f hc h
  refine r_aload_n (pc := 19) hR (dc dt_X10_act 9 rfl) rfl ?_
  refine r_getr (pc := 20) (k2 := 66) hR (dc dt_X10_act 10 rfl) fl_X10_65 tc_0 rfl ?_
  refine r_iload_n (pc := 23) hR (dc dt_X10_act 11 rfl) rfl ?_
  refine r_iload_n (pc := 24) hR (dc dt_X10_act 12 rfl) rfl ?_
  refine r_iload_n (pc := 25) hR (dc dt_X10_act 13 rfl) rfl ?_
  obtain ⟨r26, m26, e26, h⟩ := b2_some h
  refine r_callV (pc := 26) (rest := []) hR (dc dt_X10_act 14 rfl) cl_X10_279 tc_66 rfl (ok_F5_perform q1 q2 q3 e26) (by decide) rfl (Nat.le_of_ble_eq_true rfl) rfl (fun q26r => ?_)
  show Go 29 [some (.ref (ad 0)), some (iv v1), some (iv v2), some (iv v3)] [iv r26] m26
  refine r_goto (pc := 29) (tgt := 33) hR (dc dt_X10_act 15 rfl) (by decide) ?_
  exact r_iret hT (dc dt_X10_act 17 rfl) (congrArg Prod.fst (Option.some.inj h)) (congrArg Prod.snd (Option.some.inj h)) q26r
def tb_X10_trace : List (Nat × (Instr × Nat)) := [(0, (.iload_n 1, 1)), (1, (.ifCond .lt 20, 3)), (4, (.iload_n 1, 1)), (5, (.aload_n 0, 1)), (6, (.getfield 65, 3)), (9, (.getfield 275, 3)), (12, (.if_icmp .ge 9, 3)), (15, (.iload_n 1, 1)), (16, (.bipush 24, 2)), (18, (.if_icmp .lt 7, 3)), (21, (.iconst (-1), 1)), (22, (.goto 12, 3)), (25, (.aload_n 0, 1)), (26, (.getfield 65, 3)), (29, (.getfield 283, 3)), (32, (.iload_n 1, 1)), (33, (.iaload, 1)), (34, (.ireturn, 1))]
set_option maxRecDepth 100000 in
theorem dt_X10_trace : (tb_X10_trace.all fun q => decide (decode cX10_trace q.1 = .ok q.2)) = true := by decide +kernel
set_option maxRecDepth 100000 in
set_option maxHeartbeats 4000000 in
theorem ok_F10_trace {m : Mem}  {v1 : Int} (q1 : inR v1) {out : Int} (h : F10_trace m v1 = some out) : CT l G cy ad tt yX10_trace cX10_trace 2 (some .int) 0 [.ref (ad 0), iv v1] m (some (iv out)) (inR out) m := by
  refine CT_of (by decide) (Nat.le_of_ble_eq_true rfl) (fun Go hR hT => ?_)
  replace hR : RS l G cy ad tt RX10 cX10_trace 2 0 Go := hR
  show Go 0 [some (.ref (ad 0)), some (iv v1)] [] m
  unfold F10_trace at h
  refine r_iload_n (pc := 0) hR (dc dt_X10_trace 0 rfl) rfl ?_
  refine jn_e h (fun (K : Option Int) => K = some out → Go 21 [none, none] [] m) (fun h => ?_) (fun K21 J21 h => ?_)
  · refine r_iconst (pc := 21) hR (dc dt_X10_trace 10 rfl) ?_
    refine r_goto (pc := 22) (tgt := 34) hR (dc dt_X10_trace 11 rfl) (by decide) ?_
    exact r_iret hT (dc dt_X10_trace 17 rfl) (Option.some.inj h) rfl (rg_c rfl)
  refine r_if_lt (pc := 1) (tgt := 21) hR (dc dt_X10_trace 1 rfl) (by decide) q1 (fun hc => ?_) (fun hc => ?_)
  · replace h := ite_t hc h
    refine r_weak (L' := [none, none]) hR ⟨Or.inl rfl, Or.inl rfl, trivial⟩ ?_
    exact J21 h
  replace h := ite_f hc h
  refine r_iload_n (pc := 4) hR (dc dt_X10_trace 2 rfl) rfl ?_
  refine r_aload_n (pc := 5) hR (dc dt_X10_trace 3 rfl) rfl ?_
  refine r_getr (pc := 6) (k2 := 66) hR (dc dt_X10_trace 4 rfl) fl_X10_65 tc_0 rfl ?_
  refine r_geti (pc := 9) hR (dc dt_X10_trace 5 rfl) fl_X10_275 tc_66 rfl ?_
  refine r_icmp_ge (pc := 12) (tgt := 21) hR (dc dt_X10_trace 6 rfl) (by decide) q1 (rd_in _ _ _) (fun hc => ?_) (fun hc => ?_)
  · replace h := ite_t hc h
    refine r_weak (L' := [none, none]) hR ⟨Or.inl rfl, Or.inl rfl, trivial⟩ ?_
    exact J21 h
  replace h := ite_f hc h
  refine r_iload_n (pc := 15) hR (dc dt_X10_trace 7 rfl) rfl ?_
  refine r_bipush (pc := 16) hR (dc dt_X10_trace 8 rfl) (by decide) ?_
  refine r_icmp_lt (pc := 18) (tgt := 25) hR (dc dt_X10_trace 9 rfl) (by decide) q1 (rg_c rfl) (fun hc => ?_) (fun hc => ?_)
  · replace h := ite_t hc h
    refine r_aload_n (pc := 25) hR (dc dt_X10_trace 12 rfl) rfl ?_
    refine r_getr (pc := 26) (k2 := 66) hR (dc dt_X10_trace 13 rfl) fl_X10_65 tc_0 rfl ?_
    refine r_getr (pc := 29) (k2 := 68) hR (dc dt_X10_trace 14 rfl) fl_X10_283 tc_66 rfl ?_
    refine r_iload_n (pc := 32) hR (dc dt_X10_trace 15 rfl) rfl ?_
    obtain ⟨g1, h⟩ := gd_some h
    refine r_iald (pc := 33) hR (dc dt_X10_trace 16 rfl) tc_68 g1 q1 ?_
    exact r_iret hT (dc dt_X10_trace 17 rfl) (Option.some.inj h) rfl (rd_in _ _ _)
  replace h := ite_f hc h
  refine r_weak (L' := [none, none]) hR ⟨Or.inl rfl, Or.inl rfl, trivial⟩ ?_
  exact J21 h
def tb_X6_keepPath : List (Nat × (Instr × Nat)) := [(0, (.aload_n 0, 1)), (1, (.iload_n 1, 1)), (2, (.ifCond .ge 7, 3)), (5, (.iconst 0, 1)), (6, (.goto 4, 3)), (9, (.iconst 1, 1)), (10, (.putfield 9, 3)), (13, (.aload_n 0, 1)), (14, (.iload_n 1, 1)), (15, (.putfield 17, 3)), (18, (.return_, 1))]
set_option maxRecDepth 100000 in
theorem dt_X6_keepPath : (tb_X6_keepPath.all fun q => decide (decode cX6_keepPath q.1 = .ok q.2)) = true := by decide +kernel
set_option maxRecDepth 100000 in
set_option maxHeartbeats 4000000 in
theorem ok_F6_keepPath {m : Mem} {o : Nat} {v1 : Int} (hS0 : isSh o) (q1 : inR v1) {out : Mem} (h : F6_keepPath m o v1 = some out) : CT l G cy ad tt yX6_keepPath cX6_keepPath 2 none 0 [.ref (ad o), iv v1] m none True out := by
  refine CT_of (by decide) (Nat.le_of_ble_eq_true rfl) (fun Go hR hT => ?_)
  replace hR : RS l G cy ad tt RX6 cX6_keepPath 2 0 Go := hR
  show Go 0 [some (.ref (ad o)), some (iv v1)] [] m
  unfold F6_keepPath at h
  refine r_aload_n (pc := 0) hR (dc dt_X6_keepPath 0 rfl) rfl ?_
  refine r_iload_n (pc := 1) hR (dc dt_X6_keepPath 1 rfl) rfl ?_
  refine jn_e h (fun (K : Int → Option Mem) => ∀ (x10 : Int), inZ x10 → K x10 = some out → Go 10 [some (.ref (ad o)), some (iv v1)] [iv x10, .ref (ad o)] m) (fun x10 qx10 h => ?_) (fun K10 J10 h => ?_)
  · refine r_puti (pc := 10) hR (dc dt_X6_keepPath 6 rfl) fl_X6_9 hS0.1 rfl rfl rfl ?_
    replace h := stw_e h
    generalize wr m o 0 x10 = m10 at h ⊢
    refine r_aload_n (pc := 13) hR (dc dt_X6_keepPath 7 rfl) rfl ?_
    refine r_iload_n (pc := 14) hR (dc dt_X6_keepPath 8 rfl) rfl ?_
    refine r_puti (pc := 15) hR (dc dt_X6_keepPath 9 rfl) fl_X6_17 hS0.1 rfl rfl rfl ?_
    replace h := stw_e h
    generalize wr m10 o 1 v1 = m15 at h ⊢
    exact r_vret hT (dc dt_X6_keepPath 10 rfl) (Option.some.inj h)
  refine r_if_ge (pc := 2) (tgt := 9) hR (dc dt_X6_keepPath 2 rfl) (by decide) q1 (fun hc => ?_) (fun hc => ?_)
  · replace h := ite_t hc h
    refine r_iconst (pc := 9) hR (dc dt_X6_keepPath 5 rfl) ?_
    exact J10 1 (Or.inr rfl) h
  replace h := ite_f hc h
  refine r_iconst (pc := 5) hR (dc dt_X6_keepPath 3 rfl) ?_
  refine r_goto (pc := 6) (tgt := 10) hR (dc dt_X6_keepPath 4 rfl) (by decide) ?_
  exact J10 0 (Or.inl rfl) h
def tb_X10_keep : List (Nat × (Instr × Nat)) := [(0, (.iload_n 1, 1)), (1, (.invokestatic 140, 3)), (4, (.ifCond .eq 19, 3)), (7, (.iload_n 2, 1)), (8, (.iconst (-1), 1)), (9, (.if_icmp .eq 16, 3)), (12, (.aload_n 0, 1)), (13, (.getfield 65, 3)), (16, (.iload_n 2, 1)), (17, (.invokevirtual 278, 3)), (20, (.ifCond .ne 5, 3)), (23, (.iconst (-1), 1)), (24, (.ireturn, 1)), (25, (.aload_n 0, 1)), (26, (.getfield 71, 3)), (29, (.iload_n 1, 1)), (30, (.aaload, 1)), (31, (.iload_n 2, 1)), (32, (.invokevirtual 286, 3)), (35, (.iconst 1, 1)), (36, (.ireturn, 1))]
set_option maxRecDepth 100000 in
theorem dt_X10_keep : (tb_X10_keep.all fun q => decide (decode cX10_keep q.1 = .ok q.2)) = true := by decide +kernel
set_option maxRecDepth 100000 in
set_option maxHeartbeats 4000000 in
theorem ok_F10_keep {m : Mem}  {v1 v2 : Int} (q1 : inR v1) (q2 : inR v2) {out : Int × Mem} (h : F10_keep m v1 v2 = some out) : CT l G cy ad tt yX10_keep cX10_keep 3 (some .int) 1 [.ref (ad 0), iv v1, iv v2] m (some (iv out.1)) (inR out.1) out.2 := by
  refine CT_of (by decide) (Nat.le_of_ble_eq_true rfl) (fun Go hR hT => ?_)
  replace hR : RS l G cy ad tt RX10 cX10_keep 3 1 Go := hR
  show Go 0 [some (.ref (ad 0)), some (iv v1), some (iv v2)] [] m
  unfold F10_keep at h
  refine r_iload_n (pc := 0) hR (dc dt_X10_keep 0 rfl) rfl ?_
  refine r_callS (pc := 1) (rest := []) hR (dc dt_X10_keep 1 rfl) cl_X10_140 (ok_F10_isShelf q1) (by decide) rfl (Nat.le_of_ble_eq_true rfl) rfl (fun q1r => ?_)
  show Go 4 [some (.ref (ad 0)), some (iv v1), some (iv v2)] [iv (F10_isShelf v1)] m
  refine r_if_eq (pc := 4) (tgt := 23) hR (dc dt_X10_keep 2 rfl) (by decide) (inZ_R q1r) (fun hc => ?_) (fun hc => ?_)
  · replace h := ite_t hc h
    refine r_iconst (pc := 23) hR (dc dt_X10_keep 11 rfl) ?_
    exact r_iret hT (dc dt_X10_keep 12 rfl) (congrArg Prod.fst (Option.some.inj h)) (congrArg Prod.snd (Option.some.inj h)) (rg_c rfl)
  replace h := ite_f hc h
  refine r_iload_n (pc := 7) hR (dc dt_X10_keep 3 rfl) rfl ?_
  refine r_iconst (pc := 8) hR (dc dt_X10_keep 4 rfl) ?_
  refine jn_e h (fun (K : Option (Int × Mem)) => K = some out → Go 25 [some (.ref (ad 0)), some (iv v1), some (iv v2)] [] m) (fun h => ?_) (fun K25 J25 h => ?_)
  · refine r_aload_n (pc := 25) hR (dc dt_X10_keep 13 rfl) rfl ?_
    refine r_getr (pc := 26) (k2 := 70) hR (dc dt_X10_keep 14 rfl) fl_X10_71 tc_0 rfl ?_
    refine r_iload_n (pc := 29) hR (dc dt_X10_keep 15 rfl) rfl ?_
    obtain ⟨g1, h⟩ := gd_some h
    have hs30 : isSh (71 + 2 * (v1).toNat) := sh_of g1.1 g1.2
    refine r_aald (pc := 30) hR (dc dt_X10_keep 16 rfl) tc_70 g1 q1 ?_
    refine r_iload_n (pc := 31) hR (dc dt_X10_keep 17 rfl) rfl ?_
    obtain ⟨m32, e32, h⟩ := b1_some h
    refine r_callV (pc := 32) (rest := []) hR (dc dt_X10_keep 18 rfl) cl_X10_286 hs30.1 rfl (ok_F6_keepPath hs30 q2 e32) (by decide) rfl (Nat.le_of_ble_eq_true rfl) rfl (fun q32r => ?_)
    show Go 35 [some (.ref (ad 0)), some (iv v1), some (iv v2)] [] m32
    refine r_iconst (pc := 35) hR (dc dt_X10_keep 19 rfl) ?_
    exact r_iret hT (dc dt_X10_keep 20 rfl) (congrArg Prod.fst (Option.some.inj h)) (congrArg Prod.snd (Option.some.inj h)) (rg_c rfl)
  refine r_icmp_eq (pc := 9) (tgt := 25) hR (dc dt_X10_keep 5 rfl) (by decide) q2 (rg_c rfl) (fun hc => ?_) (fun hc => ?_)
  · replace h := ite_t hc h
    exact J25 h
  replace h := ite_f hc h
  refine r_aload_n (pc := 12) hR (dc dt_X10_keep 6 rfl) rfl ?_
  refine r_getr (pc := 13) (k2 := 66) hR (dc dt_X10_keep 7 rfl) fl_X10_65 tc_0 rfl ?_
  refine r_iload_n (pc := 16) hR (dc dt_X10_keep 8 rfl) rfl ?_
  refine r_callV (pc := 17) (rest := []) hR (dc dt_X10_keep 9 rfl) cl_X10_278 tc_66 rfl (ok_F5_has q2) (by decide) rfl (Nat.le_of_ble_eq_true rfl) rfl (fun q17r => ?_)
  show Go 20 [some (.ref (ad 0)), some (iv v1), some (iv v2)] [iv (F5_has m v2)] m
  refine r_if_ne (pc := 20) (tgt := 25) hR (dc dt_X10_keep 10 rfl) (by decide) (inZ_R q17r) (fun hc => ?_) (fun hc => ?_)
  · replace h := ite_t hc h
    exact J25 h
  replace h := ite_f hc h
  refine r_iconst (pc := 23) hR (dc dt_X10_keep 11 rfl) ?_
  exact r_iret hT (dc dt_X10_keep 12 rfl) (congrArg Prod.fst (Option.some.inj h)) (congrArg Prod.snd (Option.some.inj h)) (rg_c rfl)
def tb_J7_fill_d0a16 : List (Nat × (Instr × Nat)) := [(0, (.iconst 0, 1)), (1, (.istore_n 3, 1)), (2, (.aload_n 0, 1)), (3, (.arraylength, 1)), (4, (.istore 4, 2)), (6, (.iload_n 3, 1)), (7, (.iload 4, 2)), (9, (.if_icmp .ge 13, 3)), (12, (.aload_n 0, 1)), (13, (.iload_n 3, 1)), (14, (.lload_n 1, 1)), (15, (.lastore, 1)), (16, (.iinc 3 1, 3)), (19, (.goto (-13), 3)), (22, (.return_, 1))]
set_option maxRecDepth 100000 in
theorem dt_J7_fill_d0a16 : (tb_J7_fill_d0a16.all fun q => decide (decode cJ7_fill_d0a16 q.1 = .ok q.2)) = true := by decide +kernel
set_option maxRecDepth 100000 in
set_option maxHeartbeats 4000000 in
theorem lp_LJ7_fill_d0a16_6 {Go : Nat → List (Option Value) → List Value → Mem → Prop} (hR : RS l G cy ad tt RJ7 cJ7_fill_d0a16 5 0 Go) {out : Mem} (hT : RT cJ7_fill_d0a16 none True out none Go) {a0 : Nat} {len : Nat} (ha0 : tab[a0]? = some (.inl (1, len))) (hn : len < 2147483648) {v1 : Int} {v4 : Int} (qv1 : inL v1) (qv4 : inR v4) : ∀ (n : Nat) (v3 : Int) (m : Mem), inR v3 → LJ7_fill_d0a16_6 a0 len v1 v4 n v3 m = some out → Go 6 [some (.ref (ad a0)), some (jv v1), none, some (iv v3), some (iv v4)] [] m := by
  intro n
  induction n with
  | zero =>
    intro v3 m qv3 h
    cases h
  | succ n ih =>
    intro v3 m qv3 h
    rw [LJ7_fill_d0a16_6] at h
    refine r_iload_n (pc := 6) hR (dc dt_J7_fill_d0a16 5 rfl) rfl ?_
    refine r_iload (pc := 7) hR (dc dt_J7_fill_d0a16 6 rfl) rfl ?_
    refine r_icmp_ge (pc := 9) (tgt := 22) hR (dc dt_J7_fill_d0a16 7 rfl) (by decide) qv3 qv4 (fun hc => ?_) (fun hc => ?_)
    · replace h := ite_t hc h
      exact r_vret hT (dc dt_J7_fill_d0a16 14 rfl) (Option.some.inj h)
    replace h := ite_f hc h
    refine r_aload_n (pc := 12) hR (dc dt_J7_fill_d0a16 8 rfl) rfl ?_
    refine r_iload_n (pc := 13) hR (dc dt_J7_fill_d0a16 9 rfl) rfl ?_
    refine r_lload_n (pc := 14) hR (dc dt_J7_fill_d0a16 10 rfl) rfl ?_
    obtain ⟨g1, h⟩ := gd_some h
    refine r_last (pc := 15) hR (dc dt_J7_fill_d0a16 11 rfl) ha0 g1 qv3 ?_
    replace h := stw_e h
    generalize wr m a0 v3 v1 = m15 at h ⊢
    refine r_iinc (pc := 16) (L' := [some (.ref (ad a0)), some (jv v1), none, some (iv (w32 (v3 + 1))), some (iv v4)]) hR (dc dt_J7_fill_d0a16 12 rfl) rfl (by decide) rfl rfl ?_
    refine r_goto (pc := 19) (tgt := 6) hR (dc dt_J7_fill_d0a16 13 rfl) (by decide) ?_
    exact ih (w32 (v3 + 1)) m15 (w32_in _) h
set_option maxRecDepth 100000 in
set_option maxHeartbeats 4000000 in
theorem ok_FJ7_fill_d0a16 {m : Mem} {a0 : Nat} {len : Nat} {v1 : Int} (ha0 : tab[a0]? = some (.inl (1, len))) (hn : len < 2147483648) (q1 : inL v1) {out : Mem} (h : FJ7_fill_d0a16 m a0 len v1 = some out) : CT l G cy ad tt yJ7_fill_d0a16 cJ7_fill_d0a16 5 none 0 [.ref (ad a0), jv v1] m none True out := by
  refine CT_of (by decide) (Nat.le_of_ble_eq_true rfl) (fun Go hR hT => ?_)
  replace hR : RS l G cy ad tt RJ7 cJ7_fill_d0a16 5 0 Go := hR
  show Go 0 [some (.ref (ad a0)), some (jv v1), none, none, none] [] m
  unfold FJ7_fill_d0a16 at h
  refine r_iconst (pc := 0) hR (dc dt_J7_fill_d0a16 0 rfl) ?_
  refine r_istore_n (pc := 1) (L' := [some (.ref (ad a0)), some (jv v1), none, some (iv 0), none]) hR (dc dt_J7_fill_d0a16 1 rfl) (by decide) rfl rfl ?_
  refine r_aload_n (pc := 2) hR (dc dt_J7_fill_d0a16 2 rfl) rfl ?_
  refine r_alen (pc := 3) hR (dc dt_J7_fill_d0a16 3 rfl) ha0 (by decide) ?_
  refine r_istore (pc := 4) (L' := [some (.ref (ad a0)), some (jv v1), none, some (iv 0), some (iv (len : Int))]) hR (dc dt_J7_fill_d0a16 4 rfl) (by decide) rfl rfl ?_
  refine lp_LJ7_fill_d0a16_6 hR hT ha0 hn q1 (nat_in hn) FU 0 m (rg_c rfl) h
def tb_X6_keepRow : List (Nat × (Instr × Nat)) := [(0, (.aload_n 0, 1)), (1, (.iconst 2, 1)), (2, (.putfield 9, 3)), (5, (.aload_n 0, 1)), (6, (.iload_n 1, 1)), (7, (.putfield 20, 3)), (10, (.aload_n 0, 1)), (11, (.iload_n 2, 1)), (12, (.putfield 23, 3)), (15, (.aload_n 0, 1)), (16, (.getfield 13, 3)), (19, (.lconst 0, 1)), (20, (.invokestatic 26, 3)), (23, (.return_, 1))]
set_option maxRecDepth 100000 in
theorem dt_X6_keepRow : (tb_X6_keepRow.all fun q => decide (decode cX6_keepRow q.1 = .ok q.2)) = true := by decide +kernel
set_option maxRecDepth 100000 in
set_option maxHeartbeats 4000000 in
theorem ok_F6_keepRow {m : Mem} {o : Nat} {v1 v2 : Int} (hS0 : isSh o) (q1 : inR v1) (q2 : inR v2) {out : Mem} (h : F6_keepRow m o v1 v2 = some out) : CT l G cy ad tt yX6_keepRow cX6_keepRow 3 none 1 [.ref (ad o), iv v1, iv v2] m none True out := by
  refine CT_of (by decide) (Nat.le_of_ble_eq_true rfl) (fun Go hR hT => ?_)
  replace hR : RS l G cy ad tt RX6 cX6_keepRow 3 1 Go := hR
  show Go 0 [some (.ref (ad o)), some (iv v1), some (iv v2)] [] m
  unfold F6_keepRow at h
  refine r_aload_n (pc := 0) hR (dc dt_X6_keepRow 0 rfl) rfl ?_
  refine r_iconst (pc := 1) hR (dc dt_X6_keepRow 1 rfl) ?_
  refine r_puti (pc := 2) hR (dc dt_X6_keepRow 2 rfl) fl_X6_9 hS0.1 rfl rfl rfl ?_
  replace h := stw_e h
  generalize wr m o 0 2 = m2 at h ⊢
  refine r_aload_n (pc := 5) hR (dc dt_X6_keepRow 3 rfl) rfl ?_
  refine r_iload_n (pc := 6) hR (dc dt_X6_keepRow 4 rfl) rfl ?_
  refine r_puti (pc := 7) hR (dc dt_X6_keepRow 5 rfl) fl_X6_20 hS0.1 rfl rfl rfl ?_
  replace h := stw_e h
  generalize wr m2 o 2 v1 = m7 at h ⊢
  refine r_aload_n (pc := 10) hR (dc dt_X6_keepRow 6 rfl) rfl ?_
  refine r_iload_n (pc := 11) hR (dc dt_X6_keepRow 7 rfl) rfl ?_
  refine r_puti (pc := 12) hR (dc dt_X6_keepRow 8 rfl) fl_X6_23 hS0.1 rfl rfl rfl ?_
  replace h := stw_e h
  generalize wr m7 o 3 v2 = m12 at h ⊢
  refine r_aload_n (pc := 15) hR (dc dt_X6_keepRow 9 rfl) rfl ?_
  refine r_getr (pc := 16) (k2 := o + 1) hR (dc dt_X6_keepRow 10 rfl) fl_X6_13 hS0.1 rfl ?_
  refine r_lconst (pc := 19) hR (dc dt_X6_keepRow 11 rfl) ?_
  show Go 20 [some (.ref (ad o)), some (iv v1), some (iv v2)] [jv 0, .ref (ad (o + 1))] m12
  obtain ⟨m20, e20, h⟩ := b1_some h
  refine r_callS (pc := 20) (rest := []) hR (dc dt_X6_keepRow 12 rfl) cl_X6_26 (ok_FJ7_fill_d0a16 hS0.2 (by decide) (rg_l (by decide)) e20) (by decide) rfl (Nat.le_of_ble_eq_true rfl) rfl (fun q20r => ?_)
  show Go 23 [some (.ref (ad o)), some (iv v1), some (iv v2)] [] m20
  exact r_vret hT (dc dt_X6_keepRow 13 rfl) (Option.some.inj h)
def tb_X10_row : List (Nat × (Instr × Nat)) := [(0, (.iload_n 1, 1)), (1, (.invokestatic 140, 3)), (4, (.ifCond .eq 18, 3)), (7, (.iload_n 2, 1)), (8, (.ifCond .lt 14, 3)), (11, (.iload_n 2, 1)), (12, (.iconst 4, 1)), (13, (.if_icmp .gt 9, 3)), (16, (.iload_n 3, 1)), (17, (.bipush 60, 2)), (19, (.if_icmp .le 5, 3)), (22, (.iconst (-1), 1)), (23, (.ireturn, 1)), (24, (.iload_n 3, 1)), (25, (.ifCond .ge 6, 3)), (28, (.bipush (-14), 2)), (30, (.ireturn, 1)), (31, (.aload_n 0, 1)), (32, (.getfield 71, 3)), (35, (.iload_n 1, 1)), (36, (.aaload, 1)), (37, (.iload_n 2, 1)), (38, (.iload_n 3, 1)), (39, (.invokevirtual 290, 3)), (42, (.iconst 1, 1)), (43, (.ireturn, 1))]
set_option maxRecDepth 100000 in
theorem dt_X10_row : (tb_X10_row.all fun q => decide (decode cX10_row q.1 = .ok q.2)) = true := by decide +kernel
set_option maxRecDepth 100000 in
set_option maxHeartbeats 4000000 in
theorem ok_F10_row {m : Mem}  {v1 v2 v3 : Int} (q1 : inR v1) (q2 : inR v2) (q3 : inR v3) {out : Int × Mem} (h : F10_row m v1 v2 v3 = some out) : CT l G cy ad tt yX10_row cX10_row 4 (some .int) 2 [.ref (ad 0), iv v1, iv v2, iv v3] m (some (iv out.1)) (inR out.1) out.2 := by
  refine CT_of (by decide) (Nat.le_of_ble_eq_true rfl) (fun Go hR hT => ?_)
  replace hR : RS l G cy ad tt RX10 cX10_row 4 2 Go := hR
  show Go 0 [some (.ref (ad 0)), some (iv v1), some (iv v2), some (iv v3)] [] m
  unfold F10_row at h
  refine r_iload_n (pc := 0) hR (dc dt_X10_row 0 rfl) rfl ?_
  refine r_callS (pc := 1) (rest := []) hR (dc dt_X10_row 1 rfl) cl_X10_140 (ok_F10_isShelf q1) (by decide) rfl (Nat.le_of_ble_eq_true rfl) rfl (fun q1r => ?_)
  show Go 4 [some (.ref (ad 0)), some (iv v1), some (iv v2), some (iv v3)] [iv (F10_isShelf v1)] m
  refine r_if_eq (pc := 4) (tgt := 22) hR (dc dt_X10_row 2 rfl) (by decide) (inZ_R q1r) (fun hc => ?_) (fun hc => ?_)
  · replace h := ite_t hc h
    refine r_iconst (pc := 22) hR (dc dt_X10_row 11 rfl) ?_
    exact r_iret hT (dc dt_X10_row 12 rfl) (congrArg Prod.fst (Option.some.inj h)) (congrArg Prod.snd (Option.some.inj h)) (rg_c rfl)
  replace h := ite_f hc h
  refine r_iload_n (pc := 7) hR (dc dt_X10_row 3 rfl) rfl ?_
  refine r_if_lt (pc := 8) (tgt := 22) hR (dc dt_X10_row 4 rfl) (by decide) q2 (fun hc => ?_) (fun hc => ?_)
  · replace h := ite_t hc h
    refine r_iconst (pc := 22) hR (dc dt_X10_row 11 rfl) ?_
    exact r_iret hT (dc dt_X10_row 12 rfl) (congrArg Prod.fst (Option.some.inj h)) (congrArg Prod.snd (Option.some.inj h)) (rg_c rfl)
  replace h := ite_f hc h
  refine r_iload_n (pc := 11) hR (dc dt_X10_row 5 rfl) rfl ?_
  refine r_iconst (pc := 12) hR (dc dt_X10_row 6 rfl) ?_
  refine r_icmp_gt (pc := 13) (tgt := 22) hR (dc dt_X10_row 7 rfl) (by decide) q2 (rg_c rfl) (fun hc => ?_) (fun hc => ?_)
  · replace h := ite_t hc h
    refine r_iconst (pc := 22) hR (dc dt_X10_row 11 rfl) ?_
    exact r_iret hT (dc dt_X10_row 12 rfl) (congrArg Prod.fst (Option.some.inj h)) (congrArg Prod.snd (Option.some.inj h)) (rg_c rfl)
  replace h := ite_f hc h
  refine r_iload_n (pc := 16) hR (dc dt_X10_row 8 rfl) rfl ?_
  refine r_bipush (pc := 17) hR (dc dt_X10_row 9 rfl) (by decide) ?_
  refine r_icmp_le (pc := 19) (tgt := 24) hR (dc dt_X10_row 10 rfl) (by decide) q3 (rg_c rfl) (fun hc => ?_) (fun hc => ?_)
  · replace h := ite_t hc h
    refine r_iload_n (pc := 24) hR (dc dt_X10_row 13 rfl) rfl ?_
    refine r_if_ge (pc := 25) (tgt := 31) hR (dc dt_X10_row 14 rfl) (by decide) q3 (fun hc => ?_) (fun hc => ?_)
    · replace h := ite_t hc h
      refine r_aload_n (pc := 31) hR (dc dt_X10_row 17 rfl) rfl ?_
      refine r_getr (pc := 32) (k2 := 70) hR (dc dt_X10_row 18 rfl) fl_X10_71 tc_0 rfl ?_
      refine r_iload_n (pc := 35) hR (dc dt_X10_row 19 rfl) rfl ?_
      obtain ⟨g1, h⟩ := gd_some h
      have hs36 : isSh (71 + 2 * (v1).toNat) := sh_of g1.1 g1.2
      refine r_aald (pc := 36) hR (dc dt_X10_row 20 rfl) tc_70 g1 q1 ?_
      refine r_iload_n (pc := 37) hR (dc dt_X10_row 21 rfl) rfl ?_
      refine r_iload_n (pc := 38) hR (dc dt_X10_row 22 rfl) rfl ?_
      obtain ⟨m39, e39, h⟩ := b1_some h
      refine r_callV (pc := 39) (rest := []) hR (dc dt_X10_row 23 rfl) cl_X10_290 hs36.1 rfl (ok_F6_keepRow hs36 q2 q3 e39) (by decide) rfl (Nat.le_of_ble_eq_true rfl) rfl (fun q39r => ?_)
      show Go 42 [some (.ref (ad 0)), some (iv v1), some (iv v2), some (iv v3)] [] m39
      refine r_iconst (pc := 42) hR (dc dt_X10_row 24 rfl) ?_
      exact r_iret hT (dc dt_X10_row 25 rfl) (congrArg Prod.fst (Option.some.inj h)) (congrArg Prod.snd (Option.some.inj h)) (rg_c rfl)
    replace h := ite_f hc h
    refine r_bipush (pc := 28) hR (dc dt_X10_row 15 rfl) (by decide) ?_
    exact r_iret hT (dc dt_X10_row 16 rfl) (congrArg Prod.fst (Option.some.inj h)) (congrArg Prod.snd (Option.some.inj h)) (rg_c rfl)
  replace h := ite_f hc h
  refine r_iconst (pc := 22) hR (dc dt_X10_row 11 rfl) ?_
  exact r_iret hT (dc dt_X10_row 12 rfl) (congrArg Prod.fst (Option.some.inj h)) (congrArg Prod.snd (Option.some.inj h)) (rg_c rfl)
def tb_X10_elementRefusal : List (Nat × (Instr × Nat)) := [(0, (.iload_n 1, 1)), (1, (.invokestatic 140, 3)), (4, (.ifCond .ne 5, 3)), (7, (.iconst (-1), 1)), (8, (.ireturn, 1)), (9, (.aload_n 0, 1)), (10, (.getfield 71, 3)), (13, (.iload_n 1, 1)), (14, (.aaload, 1)), (15, (.astore_n 3, 1)), (16, (.aload_n 3, 1)), (17, (.getfield 143, 3)), (20, (.ifCond .ne 6, 3)), (23, (.bipush (-11), 2)), (25, (.ireturn, 1)), (26, (.aload_n 3, 1)), (27, (.getfield 143, 3)), (30, (.iconst 2, 1)), (31, (.if_icmp .eq 6, 3)), (34, (.bipush (-12), 2)), (36, (.ireturn, 1)), (37, (.aload_n 3, 1)), (38, (.iload_n 2, 1)), (39, (.i2l, 1)), (40, (.invokevirtual 149, 3)), (43, (.ifCond .eq 7, 3)), (46, (.iconst 0, 1)), (47, (.goto 5, 3)), (50, (.bipush (-13), 2)), (52, (.ireturn, 1))]
set_option maxRecDepth 100000 in
theorem dt_X10_elementRefusal : (tb_X10_elementRefusal.all fun q => decide (decode cX10_elementRefusal q.1 = .ok q.2)) = true := by decide +kernel
set_option maxRecDepth 100000 in
set_option maxHeartbeats 4000000 in
theorem ok_F10_elementRefusal {m : Mem}  {v1 v2 : Int} (q1 : inR v1) (q2 : inR v2) {out : Int} (h : F10_elementRefusal m v1 v2 = some out) : CT l G cy ad tt yX10_elementRefusal cX10_elementRefusal 4 (some .int) 1 [.ref (ad 0), iv v1, iv v2] m (some (iv out)) (inR out) m := by
  refine CT_of (by decide) (Nat.le_of_ble_eq_true rfl) (fun Go hR hT => ?_)
  replace hR : RS l G cy ad tt RX10 cX10_elementRefusal 4 1 Go := hR
  show Go 0 [some (.ref (ad 0)), some (iv v1), some (iv v2), none] [] m
  unfold F10_elementRefusal at h
  refine r_iload_n (pc := 0) hR (dc dt_X10_elementRefusal 0 rfl) rfl ?_
  refine r_callS (pc := 1) (rest := []) hR (dc dt_X10_elementRefusal 1 rfl) cl_X10_140 (ok_F10_isShelf q1) (by decide) rfl (Nat.le_of_ble_eq_true rfl) rfl (fun q1r => ?_)
  show Go 4 [some (.ref (ad 0)), some (iv v1), some (iv v2), none] [iv (F10_isShelf v1)] m
  refine r_if_ne (pc := 4) (tgt := 9) hR (dc dt_X10_elementRefusal 2 rfl) (by decide) (inZ_R q1r) (fun hc => ?_) (fun hc => ?_)
  · replace h := ite_t hc h
    refine r_aload_n (pc := 9) hR (dc dt_X10_elementRefusal 5 rfl) rfl ?_
    refine r_getr (pc := 10) (k2 := 70) hR (dc dt_X10_elementRefusal 6 rfl) fl_X10_71 tc_0 rfl ?_
    refine r_iload_n (pc := 13) hR (dc dt_X10_elementRefusal 7 rfl) rfl ?_
    obtain ⟨g1, h⟩ := gd_some h
    have hs14 : isSh (71 + 2 * (v1).toNat) := sh_of g1.1 g1.2
    refine r_aald (pc := 14) hR (dc dt_X10_elementRefusal 8 rfl) tc_70 g1 q1 ?_
    refine r_astore_n (pc := 15) (L' := [some (.ref (ad 0)), some (iv v1), some (iv v2), some (.ref (ad (71 + 2 * (v1).toNat)))]) hR (dc dt_X10_elementRefusal 9 rfl) (by decide) rfl rfl ?_
    refine r_aload_n (pc := 16) hR (dc dt_X10_elementRefusal 10 rfl) rfl ?_
    refine r_geti (pc := 17) hR (dc dt_X10_elementRefusal 11 rfl) fl_X10_143 hs14.1 rfl ?_
    refine r_if_ne (pc := 20) (tgt := 26) hR (dc dt_X10_elementRefusal 12 rfl) (by decide) (rd_in _ _ _) (fun hc => ?_) (fun hc => ?_)
    · replace h := ite_t hc h
      refine r_aload_n (pc := 26) hR (dc dt_X10_elementRefusal 15 rfl) rfl ?_
      refine r_geti (pc := 27) hR (dc dt_X10_elementRefusal 16 rfl) fl_X10_143 hs14.1 rfl ?_
      refine r_iconst (pc := 30) hR (dc dt_X10_elementRefusal 17 rfl) ?_
      refine r_icmp_eq (pc := 31) (tgt := 37) hR (dc dt_X10_elementRefusal 18 rfl) (by decide) (rd_in _ _ _) (rg_c rfl) (fun hc => ?_) (fun hc => ?_)
      · replace h := ite_t hc h
        refine r_aload_n (pc := 37) hR (dc dt_X10_elementRefusal 21 rfl) rfl ?_
        refine r_iload_n (pc := 38) hR (dc dt_X10_elementRefusal 22 rfl) rfl ?_
        refine r_i2l (pc := 39) hR (dc dt_X10_elementRefusal 23 rfl) q2 ?_
        refine r_callV (pc := 40) (rest := []) hR (dc dt_X10_elementRefusal 24 rfl) cl_X10_149 hs14.1 rfl (ok_F6_hasPlace hs14 (R_L q2)) (by decide) rfl (Nat.le_of_ble_eq_true rfl) rfl (fun q40r => ?_)
        show Go 43 [some (.ref (ad 0)), some (iv v1), some (iv v2), some (.ref (ad (71 + 2 * (v1).toNat)))] [iv (F6_hasPlace m (71 + 2 * (v1).toNat) v2)] m
        refine r_if_eq (pc := 43) (tgt := 50) hR (dc dt_X10_elementRefusal 25 rfl) (by decide) (inZ_R q40r) (fun hc => ?_) (fun hc => ?_)
        · replace h := ite_t hc h
          refine r_bipush (pc := 50) hR (dc dt_X10_elementRefusal 28 rfl) (by decide) ?_
          exact r_iret hT (dc dt_X10_elementRefusal 29 rfl) (Option.some.inj h) rfl (rg_c rfl)
        replace h := ite_f hc h
        refine r_iconst (pc := 46) hR (dc dt_X10_elementRefusal 26 rfl) ?_
        refine r_goto (pc := 47) (tgt := 52) hR (dc dt_X10_elementRefusal 27 rfl) (by decide) ?_
        exact r_iret hT (dc dt_X10_elementRefusal 29 rfl) (Option.some.inj h) rfl (rg_c rfl)
      replace h := ite_f hc h
      refine r_bipush (pc := 34) hR (dc dt_X10_elementRefusal 19 rfl) (by decide) ?_
      exact r_iret hT (dc dt_X10_elementRefusal 20 rfl) (Option.some.inj h) rfl (rg_c rfl)
    replace h := ite_f hc h
    refine r_bipush (pc := 23) hR (dc dt_X10_elementRefusal 13 rfl) (by decide) ?_
    exact r_iret hT (dc dt_X10_elementRefusal 14 rfl) (Option.some.inj h) rfl (rg_c rfl)
  replace h := ite_f hc h
  refine r_iconst (pc := 7) hR (dc dt_X10_elementRefusal 3 rfl) ?_
  exact r_iret hT (dc dt_X10_elementRefusal 4 rfl) (Option.some.inj h) rfl (rg_c rfl)
def tb_X6_lowest : List (Nat × (Instr × Nat)) := [(0, (.aload_n 0, 1)), (1, (.getfield 20, 3)), (4, (.tableswitch 62 0 4 #[36, 41, 46, 62, 50], 36)), (40, (.lload_n 1, 1)), (41, (.l2i, 1)), (42, (.i2b, 1)), (43, (.i2l, 1)), (44, (.lreturn, 1)), (45, (.lload_n 1, 1)), (46, (.l2i, 1)), (47, (.i2s, 1)), (48, (.i2l, 1)), (49, (.lreturn, 1)), (50, (.lload_n 1, 1)), (51, (.l2i, 1)), (52, (.i2l, 1)), (53, (.lreturn, 1)), (54, (.lload_n 1, 1)), (55, (.lconst 0, 1)), (56, (.lcmp, 1)), (57, (.ifCond .eq 7, 3)), (60, (.lconst 1, 1)), (61, (.goto 4, 3)), (64, (.lconst 0, 1)), (65, (.lreturn, 1)), (66, (.lload_n 1, 1)), (67, (.lreturn, 1))]
set_option maxRecDepth 100000 in
theorem dt_X6_lowest : (tb_X6_lowest.all fun q => decide (decode cX6_lowest q.1 = .ok q.2)) = true := by decide +kernel
set_option maxRecDepth 100000 in
set_option maxHeartbeats 4000000 in
theorem ok_F6_lowest {m : Mem} {o : Nat} {v1 : Int} (hS0 : isSh o) (q1 : inL v1) : CT l G cy ad tt yX6_lowest cX6_lowest 3 (some .long) 0 [.ref (ad o), jv v1] m (some (jv (F6_lowest m o v1))) (inL (F6_lowest m o v1)) m := by
  refine CT_of (by decide) (Nat.le_of_ble_eq_true rfl) (fun Go hR hT => ?_)
  replace hR : RS l G cy ad tt RX6 cX6_lowest 3 0 Go := hR
  show Go 0 [some (.ref (ad o)), some (jv v1), none] [] m
  obtain ⟨out, h⟩ : ∃ out, F6_lowest m o v1 = out := ⟨_, rfl⟩
  rw [h] at hT
  unfold F6_lowest at h
  refine r_aload_n (pc := 0) hR (dc dt_X6_lowest 0 rfl) rfl ?_
  refine r_geti (pc := 1) hR (dc dt_X6_lowest 1 rfl) fl_X6_20 hS0.1 rfl ?_
  show Go 4 [some (.ref (ad o)), some (jv v1), none] [iv (rd m o 2)] m
  by_cases hc0 : rd m o 2 = 0
  · replace h := ite_t hc0 h
    refine r_tabIn (pc := 4) (tgt := 40) hR (dc dt_X6_lowest 2 rfl) (rd_in _ _ _) (by omega) (by omega) (by rw [hc0]; rfl) (by decide) ?_
    refine r_lload_n (pc := 40) hR (dc dt_X6_lowest 3 rfl) rfl ?_
    refine r_l2i (pc := 41) hR (dc dt_X6_lowest 4 rfl) ?_
    refine r_i2b (pc := 42) hR (dc dt_X6_lowest 5 rfl) ?_
    refine r_i2l (pc := 43) hR (dc dt_X6_lowest 6 rfl) (ti_in _) ?_
    exact r_lret hT (dc dt_X6_lowest 7 rfl) h rfl (R_L (ti_in _))
  replace h := ite_f hc0 h
  by_cases hc1 : rd m o 2 = 1
  · replace h := ite_t hc1 h
    refine r_tabIn (pc := 4) (tgt := 45) hR (dc dt_X6_lowest 2 rfl) (rd_in _ _ _) (by omega) (by omega) (by rw [hc1]; rfl) (by decide) ?_
    refine r_lload_n (pc := 45) hR (dc dt_X6_lowest 8 rfl) rfl ?_
    refine r_l2i (pc := 46) hR (dc dt_X6_lowest 9 rfl) ?_
    refine r_i2s (pc := 47) hR (dc dt_X6_lowest 10 rfl) ?_
    refine r_i2l (pc := 48) hR (dc dt_X6_lowest 11 rfl) (ti_in _) ?_
    exact r_lret hT (dc dt_X6_lowest 12 rfl) h rfl (R_L (ti_in _))
  replace h := ite_f hc1 h
  by_cases hc2 : rd m o 2 = 2
  · replace h := ite_t hc2 h
    refine r_tabIn (pc := 4) (tgt := 50) hR (dc dt_X6_lowest 2 rfl) (rd_in _ _ _) (by omega) (by omega) (by rw [hc2]; rfl) (by decide) ?_
    refine r_lload_n (pc := 50) hR (dc dt_X6_lowest 13 rfl) rfl ?_
    refine r_l2i (pc := 51) hR (dc dt_X6_lowest 14 rfl) ?_
    refine r_i2l (pc := 52) hR (dc dt_X6_lowest 15 rfl) (w32_in _) ?_
    exact r_lret hT (dc dt_X6_lowest 16 rfl) h rfl (R_L (w32_in _))
  replace h := ite_f hc2 h
  by_cases hc3 : rd m o 2 = 3
  · replace h := ite_t hc3 h
    refine r_tabIn (pc := 4) (tgt := 66) hR (dc dt_X6_lowest 2 rfl) (rd_in _ _ _) (by omega) (by omega) (by rw [hc3]; rfl) (by decide) ?_
    refine r_lload_n (pc := 66) hR (dc dt_X6_lowest 25 rfl) rfl ?_
    exact r_lret hT (dc dt_X6_lowest 26 rfl) h rfl q1
  replace h := ite_f hc3 h
  by_cases hc4 : rd m o 2 = 4
  · replace h := ite_t hc4 h
    refine r_tabIn (pc := 4) (tgt := 54) hR (dc dt_X6_lowest 2 rfl) (rd_in _ _ _) (by omega) (by omega) (by rw [hc4]; rfl) (by decide) ?_
    refine r_lload_n (pc := 54) hR (dc dt_X6_lowest 17 rfl) rfl ?_
    refine r_lconst (pc := 55) hR (dc dt_X6_lowest 18 rfl) ?_
    show Go 56 [some (.ref (ad o)), some (jv v1), none] [jv 0, jv v1] m
    refine r_lcmp (pc := 56) hR (dc dt_X6_lowest 19 rfl) q1 (rg_l (by decide)) ?_
    refine r_if_eq (pc := 57) (tgt := 64) hR (dc dt_X6_lowest 20 rfl) (by decide) (lcm_in _ _) (fun hc => ?_) (fun hc => ?_)
    · replace h := ite_t hc h
      refine r_lconst (pc := 64) hR (dc dt_X6_lowest 23 rfl) ?_
      show Go 65 [some (.ref (ad o)), some (jv v1), none] [jv 0] m
      exact r_lret hT (dc dt_X6_lowest 24 rfl) h rfl (rg_l (by decide))
    replace h := ite_f hc h
    refine r_lconst (pc := 60) hR (dc dt_X6_lowest 21 rfl) ?_
    show Go 61 [some (.ref (ad o)), some (jv v1), none] [jv 1] m
    refine r_goto (pc := 61) (tgt := 65) hR (dc dt_X6_lowest 22 rfl) (by decide) ?_
    exact r_lret hT (dc dt_X6_lowest 24 rfl) h rfl (rg_l (by decide))
  replace h := ite_f hc4 h
  refine r_tabOut (pc := 4) (tgt := 66) hR (dc dt_X6_lowest 2 rfl) (rd_in _ _ _) (by omega) (by decide) ?_
  refine r_lload_n (pc := 66) hR (dc dt_X6_lowest 25 rfl) rfl ?_
  exact r_lret hT (dc dt_X6_lowest 26 rfl) h rfl q1
def tb_X10_put : List (Nat × (Instr × Nat)) := [(0, (.aload_n 0, 1)), (1, (.iload_n 1, 1)), (2, (.iload_n 2, 1)), (3, (.invokevirtual 294, 3)), (6, (.istore 5, 2)), (8, (.iload 5, 2)), (10, (.ifCond .eq 6, 3)), (13, (.iload 5, 2)), (15, (.ireturn, 1)), (16, (.aload_n 0, 1)), (17, (.getfield 71, 3)), (20, (.iload_n 1, 1)), (21, (.aaload, 1)), (22, (.getfield 153, 3)), (25, (.iload_n 2, 1)), (26, (.aload_n 0, 1)), (27, (.getfield 71, 3)), (30, (.iload_n 1, 1)), (31, (.aaload, 1)), (32, (.lload_n 3, 1)), (33, (.invokevirtual 297, 3)), (36, (.lastore, 1)), (37, (.iconst 1, 1)), (38, (.ireturn, 1))]
set_option maxRecDepth 100000 in
theorem dt_X10_put : (tb_X10_put.all fun q => decide (decode cX10_put q.1 = .ok q.2)) = true := by decide +kernel
set_option maxRecDepth 100000 in
set_option maxHeartbeats 4000000 in
theorem ok_F10_put {m : Mem}  {v1 v2 v3 : Int} (q1 : inR v1) (q2 : inR v2) (q3 : inL v3) {out : Int × Mem} (h : F10_put m v1 v2 v3 = some out) : CT l G cy ad tt yX10_put cX10_put 6 (some .int) 2 [.ref (ad 0), iv v1, iv v2, jv v3] m (some (iv out.1)) (inR out.1) out.2 := by
  refine CT_of (by decide) (Nat.le_of_ble_eq_true rfl) (fun Go hR hT => ?_)
  replace hR : RS l G cy ad tt RX10 cX10_put 6 2 Go := hR
  show Go 0 [some (.ref (ad 0)), some (iv v1), some (iv v2), some (jv v3), none, none] [] m
  unfold F10_put at h
  refine r_aload_n (pc := 0) hR (dc dt_X10_put 0 rfl) rfl ?_
  refine r_iload_n (pc := 1) hR (dc dt_X10_put 1 rfl) rfl ?_
  refine r_iload_n (pc := 2) hR (dc dt_X10_put 2 rfl) rfl ?_
  obtain ⟨r3, e3, h⟩ := b1_some h
  refine r_callV (pc := 3) (rest := []) hR (dc dt_X10_put 3 rfl) cl_X10_294 tc_0 rfl (ok_F10_elementRefusal q1 q2 e3) (by decide) rfl (Nat.le_of_ble_eq_true rfl) rfl (fun q3r => ?_)
  show Go 6 [some (.ref (ad 0)), some (iv v1), some (iv v2), some (jv v3), none, none] [iv r3] m
  refine r_istore (pc := 6) (L' := [some (.ref (ad 0)), some (iv v1), some (iv v2), some (jv v3), none, some (iv r3)]) hR (dc dt_X10_put 4 rfl) (by decide) rfl rfl ?_
  refine r_iload (pc := 8) hR (dc dt_X10_put 5 rfl) rfl ?_
  refine r_if_eq (pc := 10) (tgt := 16) hR (dc dt_X10_put 6 rfl) (by decide) q3r (fun hc => ?_) (fun hc => ?_)
  · replace h := ite_t hc h
    refine r_aload_n (pc := 16) hR (dc dt_X10_put 9 rfl) rfl ?_
    refine r_getr (pc := 17) (k2 := 70) hR (dc dt_X10_put 10 rfl) fl_X10_71 tc_0 rfl ?_
    refine r_iload_n (pc := 20) hR (dc dt_X10_put 11 rfl) rfl ?_
    obtain ⟨g1, h⟩ := gd_some h
    have hs21 : isSh (71 + 2 * (v1).toNat) := sh_of g1.1 g1.2
    refine r_aald (pc := 21) hR (dc dt_X10_put 12 rfl) tc_70 g1 q1 ?_
    refine r_getr (pc := 22) (k2 := 71 + 2 * (v1).toNat + 1) hR (dc dt_X10_put 13 rfl) fl_X10_153 hs21.1 rfl ?_
    refine r_iload_n (pc := 25) hR (dc dt_X10_put 14 rfl) rfl ?_
    refine r_aload_n (pc := 26) hR (dc dt_X10_put 15 rfl) rfl ?_
    refine r_getr (pc := 27) (k2 := 70) hR (dc dt_X10_put 16 rfl) fl_X10_71 tc_0 rfl ?_
    refine r_iload_n (pc := 30) hR (dc dt_X10_put 17 rfl) rfl ?_
    obtain ⟨g1, h⟩ := gd_some h
    have hs31 : isSh (71 + 2 * (v1).toNat) := sh_of g1.1 g1.2
    refine r_aald (pc := 31) hR (dc dt_X10_put 18 rfl) tc_70 g1 q1 ?_
    refine r_lload_n (pc := 32) hR (dc dt_X10_put 19 rfl) rfl ?_
    refine r_callV (pc := 33) (rest := [iv v2, .ref (ad (71 + 2 * (v1).toNat + 1))]) hR (dc dt_X10_put 20 rfl) cl_X10_297 hs31.1 rfl (ok_F6_lowest hs31 q3) (by decide) rfl (Nat.le_of_ble_eq_true rfl) rfl (fun q33r => ?_)
    show Go 36 [some (.ref (ad 0)), some (iv v1), some (iv v2), some (jv v3), none, some (iv r3)] [jv (F6_lowest m (71 + 2 * (v1).toNat) v3), iv v2, .ref (ad (71 + 2 * (v1).toNat + 1))] m
    obtain ⟨g1, h⟩ := gd_some h
    refine r_last (pc := 36) hR (dc dt_X10_put 21 rfl) hs21.2 g1 q2 ?_
    replace h := stw_e h
    generalize wr m (71 + 2 * (v1).toNat + 1) v2 (F6_lowest m (71 + 2 * (v1).toNat) v3) = m36 at h ⊢
    refine r_iconst (pc := 37) hR (dc dt_X10_put 22 rfl) ?_
    exact r_iret hT (dc dt_X10_put 23 rfl) (congrArg Prod.fst (Option.some.inj h)) (congrArg Prod.snd (Option.some.inj h)) (rg_c rfl)
  replace h := ite_f hc h
  refine r_iload (pc := 13) hR (dc dt_X10_put 7 rfl) rfl ?_
  exact r_iret hT (dc dt_X10_put 8 rfl) (congrArg Prod.fst (Option.some.inj h)) (congrArg Prod.snd (Option.some.inj h)) q3r
def tb_X10_element : List (Nat × (Instr × Nat)) := [(0, (.aload_n 0, 1)), (1, (.iload_n 1, 1)), (2, (.iload_n 2, 1)), (3, (.invokevirtual 294, 3)), (6, (.ifCond .eq 9, 3)), (9, (.ldc2_w 303, 3)), (12, (.goto 14, 3)), (15, (.aload_n 0, 1)), (16, (.getfield 71, 3)), (19, (.iload_n 1, 1)), (20, (.aaload, 1)), (21, (.getfield 153, 3)), (24, (.iload_n 2, 1)), (25, (.laload, 1)), (26, (.lreturn, 1))]
set_option maxRecDepth 100000 in
theorem dt_X10_element : (tb_X10_element.all fun q => decide (decode cX10_element q.1 = .ok q.2)) = true := by decide +kernel
set_option maxRecDepth 100000 in
set_option maxHeartbeats 4000000 in
theorem ok_F10_element {m : Mem}  {v1 v2 : Int} (q1 : inR v1) (q2 : inR v2) {out : Int} (h : F10_element m v1 v2 = some out) : CT l G cy ad tt yX10_element cX10_element 3 (some .long) 2 [.ref (ad 0), iv v1, iv v2] m (some (jv out)) (inL out) m := by
  refine CT_of (by decide) (Nat.le_of_ble_eq_true rfl) (fun Go hR hT => ?_)
  replace hR : RS l G cy ad tt RX10 cX10_element 3 2 Go := hR
  show Go 0 [some (.ref (ad 0)), some (iv v1), some (iv v2)] [] m
  unfold F10_element at h
  refine r_aload_n (pc := 0) hR (dc dt_X10_element 0 rfl) rfl ?_
  refine r_iload_n (pc := 1) hR (dc dt_X10_element 1 rfl) rfl ?_
  refine r_iload_n (pc := 2) hR (dc dt_X10_element 2 rfl) rfl ?_
  obtain ⟨r3, e3, h⟩ := b1_some h
  refine r_callV (pc := 3) (rest := []) hR (dc dt_X10_element 3 rfl) cl_X10_294 tc_0 rfl (ok_F10_elementRefusal q1 q2 e3) (by decide) rfl (Nat.le_of_ble_eq_true rfl) rfl (fun q3r => ?_)
  show Go 6 [some (.ref (ad 0)), some (iv v1), some (iv v2)] [iv r3] m
  refine r_if_eq (pc := 6) (tgt := 15) hR (dc dt_X10_element 4 rfl) (by decide) q3r (fun hc => ?_) (fun hc => ?_)
  · replace h := ite_t hc h
    refine r_aload_n (pc := 15) hR (dc dt_X10_element 7 rfl) rfl ?_
    refine r_getr (pc := 16) (k2 := 70) hR (dc dt_X10_element 8 rfl) fl_X10_71 tc_0 rfl ?_
    refine r_iload_n (pc := 19) hR (dc dt_X10_element 9 rfl) rfl ?_
    obtain ⟨g1, h⟩ := gd_some h
    have hs20 : isSh (71 + 2 * (v1).toNat) := sh_of g1.1 g1.2
    refine r_aald (pc := 20) hR (dc dt_X10_element 10 rfl) tc_70 g1 q1 ?_
    refine r_getr (pc := 21) (k2 := 71 + 2 * (v1).toNat + 1) hR (dc dt_X10_element 11 rfl) fl_X10_153 hs20.1 rfl ?_
    refine r_iload_n (pc := 24) hR (dc dt_X10_element 12 rfl) rfl ?_
    obtain ⟨g1, h⟩ := gd_some h
    refine r_lald (pc := 25) hR (dc dt_X10_element 13 rfl) hs20.2 g1 q2 ?_
    exact r_lret hT (dc dt_X10_element 14 rfl) (Option.some.inj h) rfl (rl_in _ _ _)
  replace h := ite_f hc h
  refine r_ldc2 (pc := 9) hR (dc dt_X10_element 5 rfl) kw_X10_303 ?_
  refine r_goto (pc := 12) (tgt := 26) hR (dc dt_X10_element 6 rfl) (by decide) ?_
  exact r_lret hT (dc dt_X10_element 14 rfl) (Option.some.inj h) rfl (rg_l (by decide))
def tb_X6_hasPlaces : List (Nat × (Instr × Nat)) := [(0, (.iload_n 1, 1)), (1, (.ifCond .lt 25, 3)), (4, (.iload_n 2, 1)), (5, (.ifCond .lt 21, 3)), (8, (.iload_n 1, 1)), (9, (.i2l, 1)), (10, (.iload_n 2, 1)), (11, (.i2l, 1)), (12, (.ladd, 1)), (13, (.aload_n 0, 1)), (14, (.getfield 23, 3)), (17, (.i2l, 1)), (18, (.lcmp, 1)), (19, (.ifCond .gt 7, 3)), (22, (.iconst 1, 1)), (23, (.goto 4, 3)), (26, (.iconst 0, 1)), (27, (.ireturn, 1))]
set_option maxRecDepth 100000 in
theorem dt_X6_hasPlaces : (tb_X6_hasPlaces.all fun q => decide (decode cX6_hasPlaces q.1 = .ok q.2)) = true := by decide +kernel
set_option maxRecDepth 100000 in
set_option maxHeartbeats 4000000 in
theorem ok_F6_hasPlaces {m : Mem} {o : Nat} {v1 v2 : Int} (hS0 : isSh o) (q1 : inR v1) (q2 : inR v2) : CT l G cy ad tt yX6_hasPlaces cX6_hasPlaces 3 (some .boolean) 0 [.ref (ad o), iv v1, iv v2] m (some (iv (F6_hasPlaces m o v1 v2))) (inZ (F6_hasPlaces m o v1 v2)) m := by
  refine CT_of (by decide) (Nat.le_of_ble_eq_true rfl) (fun Go hR hT => ?_)
  replace hR : RS l G cy ad tt RX6 cX6_hasPlaces 3 0 Go := hR
  show Go 0 [some (.ref (ad o)), some (iv v1), some (iv v2)] [] m
  obtain ⟨out, h⟩ : ∃ out, F6_hasPlaces m o v1 v2 = out := ⟨_, rfl⟩
  rw [h] at hT
  unfold F6_hasPlaces at h
  refine r_iload_n (pc := 0) hR (dc dt_X6_hasPlaces 0 rfl) rfl ?_
  refine jn_e h (fun (K : Int) => K = out → Go 26 [none, none, none] [] m) (fun h => ?_) (fun K26 J26 h => ?_)
  · refine r_iconst (pc := 26) hR (dc dt_X6_hasPlaces 16 rfl) ?_
    exact r_zret hT (dc dt_X6_hasPlaces 17 rfl) h rfl (Or.inl rfl)
  refine r_if_lt (pc := 1) (tgt := 26) hR (dc dt_X6_hasPlaces 1 rfl) (by decide) q1 (fun hc => ?_) (fun hc => ?_)
  · replace h := ite_t hc h
    refine r_weak (L' := [none, none, none]) hR ⟨Or.inl rfl, Or.inl rfl, Or.inl rfl, trivial⟩ ?_
    exact J26 h
  replace h := ite_f hc h
  refine r_iload_n (pc := 4) hR (dc dt_X6_hasPlaces 2 rfl) rfl ?_
  refine r_if_lt (pc := 5) (tgt := 26) hR (dc dt_X6_hasPlaces 3 rfl) (by decide) q2 (fun hc => ?_) (fun hc => ?_)
  · replace h := ite_t hc h
    refine r_weak (L' := [none, none, none]) hR ⟨Or.inl rfl, Or.inl rfl, Or.inl rfl, trivial⟩ ?_
    exact J26 h
  replace h := ite_f hc h
  refine r_iload_n (pc := 8) hR (dc dt_X6_hasPlaces 4 rfl) rfl ?_
  refine r_i2l (pc := 9) hR (dc dt_X6_hasPlaces 5 rfl) q1 ?_
  refine r_iload_n (pc := 10) hR (dc dt_X6_hasPlaces 6 rfl) rfl ?_
  refine r_i2l (pc := 11) hR (dc dt_X6_hasPlaces 7 rfl) q2 ?_
  refine r_ladd (pc := 12) hR (dc dt_X6_hasPlaces 8 rfl) ?_
  refine r_aload_n (pc := 13) hR (dc dt_X6_hasPlaces 9 rfl) rfl ?_
  refine r_geti (pc := 14) hR (dc dt_X6_hasPlaces 10 rfl) fl_X6_23 hS0.1 rfl ?_
  refine r_i2l (pc := 17) hR (dc dt_X6_hasPlaces 11 rfl) (rd_in _ _ _) ?_
  refine r_lcmp (pc := 18) hR (dc dt_X6_hasPlaces 12 rfl) (w64_in _) (R_L (rd_in _ _ _)) ?_
  refine r_if_gt (pc := 19) (tgt := 26) hR (dc dt_X6_hasPlaces 13 rfl) (by decide) (lcm_in _ _) (fun hc => ?_) (fun hc => ?_)
  · replace h := ite_t hc h
    refine r_weak (L' := [none, none, none]) hR ⟨Or.inl rfl, Or.inl rfl, Or.inl rfl, trivial⟩ ?_
    exact J26 h
  replace h := ite_f hc h
  refine r_iconst (pc := 22) hR (dc dt_X6_hasPlaces 14 rfl) ?_
  refine r_goto (pc := 23) (tgt := 27) hR (dc dt_X6_hasPlaces 15 rfl) (by decide) ?_
  exact r_zret hT (dc dt_X6_hasPlaces 17 rfl) h rfl (Or.inr rfl)
def tb_X10_shift : List (Nat × (Instr × Nat)) := [(0, (.iload_n 1, 1)), (1, (.invokestatic 140, 3)), (4, (.ifCond .eq 10, 3)), (7, (.iload_n 3, 1)), (8, (.invokestatic 140, 3)), (11, (.ifCond .ne 5, 3)), (14, (.iconst (-1), 1)), (15, (.ireturn, 1)), (16, (.aload_n 0, 1)), (17, (.getfield 71, 3)), (20, (.iload_n 1, 1)), (21, (.aaload, 1)), (22, (.astore 6, 2)), (24, (.aload_n 0, 1)), (25, (.getfield 71, 3)), (28, (.iload_n 3, 1)), (29, (.aaload, 1)), (30, (.astore 7, 2)), (32, (.aload 6, 2)), (34, (.getfield 143, 3)), (37, (.ifCond .eq 11, 3)), (40, (.aload 7, 2)), (42, (.getfield 143, 3)), (45, (.ifCond .ne 6, 3)), (48, (.bipush (-11), 2)), (50, (.ireturn, 1)), (51, (.aload 6, 2)), (53, (.getfield 143, 3)), (56, (.iconst 2, 1)), (57, (.if_icmp .ne 25, 3)), (60, (.aload 7, 2)), (62, (.getfield 143, 3)), (65, (.iconst 2, 1)), (66, (.if_icmp .ne 16, 3)), (69, (.aload 6, 2)), (71, (.getfield 146, 3)), (74, (.aload 7, 2)), (76, (.getfield 146, 3)), (79, (.if_icmp .eq 6, 3)), (82, (.bipush (-12), 2)), (84, (.ireturn, 1)), (85, (.aload 6, 2)), (87, (.iload_n 2, 1)), (88, (.iload 5, 2)), (90, (.invokevirtual 305, 3)), (93, (.ifCond .eq 15, 3)), (96, (.aload 7, 2)), (98, (.iload 4, 2)), (100, (.iload 5, 2)), (102, (.invokevirtual 305, 3)), (105, (.ifCond .ne 6, 3)), (108, (.bipush (-13), 2)), (110, (.ireturn, 1)), (111, (.aload 6, 2)), (113, (.getfield 153, 3)), (116, (.iload_n 2, 1)), (117, (.aload 7, 2)), (119, (.getfield 153, 3)), (122, (.iload 4, 2)), (124, (.iload 5, 2)), (126, (.invokestatic 308, 3)), (129, (.iload 5, 2)), (131, (.ireturn, 1))]
set_option maxRecDepth 100000 in
theorem dt_X10_shift : (tb_X10_shift.all fun q => decide (decode cX10_shift q.1 = .ok q.2)) = true := by decide +kernel
set_option maxRecDepth 100000 in
set_option maxHeartbeats 4000000 in
theorem ok_F10_shift {m : Mem}  {v1 v2 v3 v4 v5 : Int} (q1 : inR v1) (q2 : inR v2) (q3 : inR v3) (q4 : inR v4) (q5 : inR v5) {out : Int × Mem} (h : F10_shift m v1 v2 v3 v4 v5 = some out) : CT l G cy ad tt yX10_shift cX10_shift 8 (some .int) 1 [.ref (ad 0), iv v1, iv v2, iv v3, iv v4, iv v5] m (some (iv out.1)) (inR out.1) out.2 := by
  refine CT_of (by decide) (Nat.le_of_ble_eq_true rfl) (fun Go hR hT => ?_)
  replace hR : RS l G cy ad tt RX10 cX10_shift 8 1 Go := hR
  show Go 0 [some (.ref (ad 0)), some (iv v1), some (iv v2), some (iv v3), some (iv v4), some (iv v5), none, none] [] m
  unfold F10_shift at h
  refine r_iload_n (pc := 0) hR (dc dt_X10_shift 0 rfl) rfl ?_
  refine r_callS (pc := 1) (rest := []) hR (dc dt_X10_shift 1 rfl) cl_X10_140 (ok_F10_isShelf q1) (by decide) rfl (Nat.le_of_ble_eq_true rfl) rfl (fun q1r => ?_)
  show Go 4 [some (.ref (ad 0)), some (iv v1), some (iv v2), some (iv v3), some (iv v4), some (iv v5), none, none] [iv (F10_isShelf v1)] m
  refine r_if_eq (pc := 4) (tgt := 14) hR (dc dt_X10_shift 2 rfl) (by decide) (inZ_R q1r) (fun hc => ?_) (fun hc => ?_)
  · replace h := ite_t hc h
    refine r_iconst (pc := 14) hR (dc dt_X10_shift 6 rfl) ?_
    exact r_iret hT (dc dt_X10_shift 7 rfl) (congrArg Prod.fst (Option.some.inj h)) (congrArg Prod.snd (Option.some.inj h)) (rg_c rfl)
  replace h := ite_f hc h
  refine r_iload_n (pc := 7) hR (dc dt_X10_shift 3 rfl) rfl ?_
  refine r_callS (pc := 8) (rest := []) hR (dc dt_X10_shift 4 rfl) cl_X10_140 (ok_F10_isShelf q3) (by decide) rfl (Nat.le_of_ble_eq_true rfl) rfl (fun q8r => ?_)
  show Go 11 [some (.ref (ad 0)), some (iv v1), some (iv v2), some (iv v3), some (iv v4), some (iv v5), none, none] [iv (F10_isShelf v3)] m
  refine r_if_ne (pc := 11) (tgt := 16) hR (dc dt_X10_shift 5 rfl) (by decide) (inZ_R q8r) (fun hc => ?_) (fun hc => ?_)
  · replace h := ite_t hc h
    refine r_aload_n (pc := 16) hR (dc dt_X10_shift 8 rfl) rfl ?_
    refine r_getr (pc := 17) (k2 := 70) hR (dc dt_X10_shift 9 rfl) fl_X10_71 tc_0 rfl ?_
    refine r_iload_n (pc := 20) hR (dc dt_X10_shift 10 rfl) rfl ?_
    obtain ⟨g1, h⟩ := gd_some h
    have hs21 : isSh (71 + 2 * (v1).toNat) := sh_of g1.1 g1.2
    refine r_aald (pc := 21) hR (dc dt_X10_shift 11 rfl) tc_70 g1 q1 ?_
    refine r_astore (pc := 22) (L' := [some (.ref (ad 0)), some (iv v1), some (iv v2), some (iv v3), some (iv v4), some (iv v5), some (.ref (ad (71 + 2 * (v1).toNat))), none]) hR (dc dt_X10_shift 12 rfl) (by decide) rfl rfl ?_
    refine r_aload_n (pc := 24) hR (dc dt_X10_shift 13 rfl) rfl ?_
    refine r_getr (pc := 25) (k2 := 70) hR (dc dt_X10_shift 14 rfl) fl_X10_71 tc_0 rfl ?_
    refine r_iload_n (pc := 28) hR (dc dt_X10_shift 15 rfl) rfl ?_
    obtain ⟨g1, h⟩ := gd_some h
    have hs29 : isSh (71 + 2 * (v3).toNat) := sh_of g1.1 g1.2
    refine r_aald (pc := 29) hR (dc dt_X10_shift 16 rfl) tc_70 g1 q3 ?_
    refine r_astore (pc := 30) (L' := [some (.ref (ad 0)), some (iv v1), some (iv v2), some (iv v3), some (iv v4), some (iv v5), some (.ref (ad (71 + 2 * (v1).toNat))), some (.ref (ad (71 + 2 * (v3).toNat)))]) hR (dc dt_X10_shift 17 rfl) (by decide) rfl rfl ?_
    refine r_aload (pc := 32) hR (dc dt_X10_shift 18 rfl) rfl ?_
    refine r_geti (pc := 34) hR (dc dt_X10_shift 19 rfl) fl_X10_143 hs21.1 rfl ?_
    refine r_if_eq (pc := 37) (tgt := 48) hR (dc dt_X10_shift 20 rfl) (by decide) (rd_in _ _ _) (fun hc => ?_) (fun hc => ?_)
    · replace h := ite_t hc h
      refine r_bipush (pc := 48) hR (dc dt_X10_shift 24 rfl) (by decide) ?_
      exact r_iret hT (dc dt_X10_shift 25 rfl) (congrArg Prod.fst (Option.some.inj h)) (congrArg Prod.snd (Option.some.inj h)) (rg_c rfl)
    replace h := ite_f hc h
    refine r_aload (pc := 40) hR (dc dt_X10_shift 21 rfl) rfl ?_
    refine r_geti (pc := 42) hR (dc dt_X10_shift 22 rfl) fl_X10_143 hs29.1 rfl ?_
    refine r_if_ne (pc := 45) (tgt := 51) hR (dc dt_X10_shift 23 rfl) (by decide) (rd_in _ _ _) (fun hc => ?_) (fun hc => ?_)
    · replace h := ite_t hc h
      refine r_aload (pc := 51) hR (dc dt_X10_shift 26 rfl) rfl ?_
      refine r_geti (pc := 53) hR (dc dt_X10_shift 27 rfl) fl_X10_143 hs21.1 rfl ?_
      refine r_iconst (pc := 56) hR (dc dt_X10_shift 28 rfl) ?_
      refine r_icmp_ne (pc := 57) (tgt := 82) hR (dc dt_X10_shift 29 rfl) (by decide) (rd_in _ _ _) (rg_c rfl) (fun hc => ?_) (fun hc => ?_)
      · replace h := ite_t hc h
        refine r_bipush (pc := 82) hR (dc dt_X10_shift 39 rfl) (by decide) ?_
        exact r_iret hT (dc dt_X10_shift 40 rfl) (congrArg Prod.fst (Option.some.inj h)) (congrArg Prod.snd (Option.some.inj h)) (rg_c rfl)
      replace h := ite_f hc h
      refine r_aload (pc := 60) hR (dc dt_X10_shift 30 rfl) rfl ?_
      refine r_geti (pc := 62) hR (dc dt_X10_shift 31 rfl) fl_X10_143 hs29.1 rfl ?_
      refine r_iconst (pc := 65) hR (dc dt_X10_shift 32 rfl) ?_
      refine r_icmp_ne (pc := 66) (tgt := 82) hR (dc dt_X10_shift 33 rfl) (by decide) (rd_in _ _ _) (rg_c rfl) (fun hc => ?_) (fun hc => ?_)
      · replace h := ite_t hc h
        refine r_bipush (pc := 82) hR (dc dt_X10_shift 39 rfl) (by decide) ?_
        exact r_iret hT (dc dt_X10_shift 40 rfl) (congrArg Prod.fst (Option.some.inj h)) (congrArg Prod.snd (Option.some.inj h)) (rg_c rfl)
      replace h := ite_f hc h
      refine r_aload (pc := 69) hR (dc dt_X10_shift 34 rfl) rfl ?_
      refine r_geti (pc := 71) hR (dc dt_X10_shift 35 rfl) fl_X10_146 hs21.1 rfl ?_
      refine r_aload (pc := 74) hR (dc dt_X10_shift 36 rfl) rfl ?_
      refine r_geti (pc := 76) hR (dc dt_X10_shift 37 rfl) fl_X10_146 hs29.1 rfl ?_
      refine r_icmp_eq (pc := 79) (tgt := 85) hR (dc dt_X10_shift 38 rfl) (by decide) (rd_in _ _ _) (rd_in _ _ _) (fun hc => ?_) (fun hc => ?_)
      · replace h := ite_t hc h
        refine r_aload (pc := 85) hR (dc dt_X10_shift 41 rfl) rfl ?_
        refine r_iload_n (pc := 87) hR (dc dt_X10_shift 42 rfl) rfl ?_
        refine r_iload (pc := 88) hR (dc dt_X10_shift 43 rfl) rfl ?_
        refine r_callV (pc := 90) (rest := []) hR (dc dt_X10_shift 44 rfl) cl_X10_305 hs21.1 rfl (ok_F6_hasPlaces hs21 q2 q5) (by decide) rfl (Nat.le_of_ble_eq_true rfl) rfl (fun q90r => ?_)
        show Go 93 [some (.ref (ad 0)), some (iv v1), some (iv v2), some (iv v3), some (iv v4), some (iv v5), some (.ref (ad (71 + 2 * (v1).toNat))), some (.ref (ad (71 + 2 * (v3).toNat)))] [iv (F6_hasPlaces m (71 + 2 * (v1).toNat) v2 v5)] m
        refine r_if_eq (pc := 93) (tgt := 108) hR (dc dt_X10_shift 45 rfl) (by decide) (inZ_R q90r) (fun hc => ?_) (fun hc => ?_)
        · replace h := ite_t hc h
          refine r_bipush (pc := 108) hR (dc dt_X10_shift 51 rfl) (by decide) ?_
          exact r_iret hT (dc dt_X10_shift 52 rfl) (congrArg Prod.fst (Option.some.inj h)) (congrArg Prod.snd (Option.some.inj h)) (rg_c rfl)
        replace h := ite_f hc h
        refine r_aload (pc := 96) hR (dc dt_X10_shift 46 rfl) rfl ?_
        refine r_iload (pc := 98) hR (dc dt_X10_shift 47 rfl) rfl ?_
        refine r_iload (pc := 100) hR (dc dt_X10_shift 48 rfl) rfl ?_
        refine r_callV (pc := 102) (rest := []) hR (dc dt_X10_shift 49 rfl) cl_X10_305 hs29.1 rfl (ok_F6_hasPlaces hs29 q4 q5) (by decide) rfl (Nat.le_of_ble_eq_true rfl) rfl (fun q102r => ?_)
        show Go 105 [some (.ref (ad 0)), some (iv v1), some (iv v2), some (iv v3), some (iv v4), some (iv v5), some (.ref (ad (71 + 2 * (v1).toNat))), some (.ref (ad (71 + 2 * (v3).toNat)))] [iv (F6_hasPlaces m (71 + 2 * (v3).toNat) v4 v5)] m
        refine r_if_ne (pc := 105) (tgt := 111) hR (dc dt_X10_shift 50 rfl) (by decide) (inZ_R q102r) (fun hc => ?_) (fun hc => ?_)
        · replace h := ite_t hc h
          refine r_aload (pc := 111) hR (dc dt_X10_shift 53 rfl) rfl ?_
          refine r_getr (pc := 113) (k2 := 71 + 2 * (v1).toNat + 1) hR (dc dt_X10_shift 54 rfl) fl_X10_153 hs21.1 rfl ?_
          refine r_iload_n (pc := 116) hR (dc dt_X10_shift 55 rfl) rfl ?_
          refine r_aload (pc := 117) hR (dc dt_X10_shift 56 rfl) rfl ?_
          refine r_getr (pc := 119) (k2 := 71 + 2 * (v3).toNat + 1) hR (dc dt_X10_shift 57 rfl) fl_X10_153 hs29.1 rfl ?_
          refine r_iload (pc := 122) hR (dc dt_X10_shift 58 rfl) rfl ?_
          refine r_iload (pc := 124) hR (dc dt_X10_shift 59 rfl) rfl ?_
          obtain ⟨g1, h⟩ := gd_some h
          refine r_copyl (pc := 126) hR (dc dt_X10_shift 60 rfl) mw_X10_308 hs21.2 hs29.2 g1 q2 q4 q5 (Nat.le_of_ble_eq_true rfl) (by decide) ?_
          replace h := cpw_e h
          generalize cpy m (71 + 2 * (v1).toNat + 1) v2 (71 + 2 * (v3).toNat + 1) v4 v5 = m126 at h ⊢
          refine r_iload (pc := 129) hR (dc dt_X10_shift 61 rfl) rfl ?_
          exact r_iret hT (dc dt_X10_shift 62 rfl) (congrArg Prod.fst (Option.some.inj h)) (congrArg Prod.snd (Option.some.inj h)) q5
        replace h := ite_f hc h
        refine r_bipush (pc := 108) hR (dc dt_X10_shift 51 rfl) (by decide) ?_
        exact r_iret hT (dc dt_X10_shift 52 rfl) (congrArg Prod.fst (Option.some.inj h)) (congrArg Prod.snd (Option.some.inj h)) (rg_c rfl)
      replace h := ite_f hc h
      refine r_bipush (pc := 82) hR (dc dt_X10_shift 39 rfl) (by decide) ?_
      exact r_iret hT (dc dt_X10_shift 40 rfl) (congrArg Prod.fst (Option.some.inj h)) (congrArg Prod.snd (Option.some.inj h)) (rg_c rfl)
    replace h := ite_f hc h
    refine r_bipush (pc := 48) hR (dc dt_X10_shift 24 rfl) (by decide) ?_
    exact r_iret hT (dc dt_X10_shift 25 rfl) (congrArg Prod.fst (Option.some.inj h)) (congrArg Prod.snd (Option.some.inj h)) (rg_c rfl)
  replace h := ite_f hc h
  refine r_iconst (pc := 14) hR (dc dt_X10_shift 6 rfl) ?_
  exact r_iret hT (dc dt_X10_shift 7 rfl) (congrArg Prod.fst (Option.some.inj h)) (congrArg Prod.snd (Option.some.inj h)) (rg_c rfl)
def tb_X10_taken : List (Nat × (Instr × Nat)) := [(0, (.iload_n 1, 1)), (1, (.invokestatic 140, 3)), (4, (.ifCond .eq 10, 3)), (7, (.iload_n 2, 1)), (8, (.invokestatic 269, 3)), (11, (.ifCond .ne 5, 3)), (14, (.iconst (-1), 1)), (15, (.ireturn, 1)), (16, (.aload_n 0, 1)), (17, (.getfield 71, 3)), (20, (.iload_n 1, 1)), (21, (.aaload, 1)), (22, (.astore_n 3, 1)), (23, (.aload_n 3, 1)), (24, (.getfield 143, 3)), (27, (.ifCond .ne 6, 3)), (30, (.bipush (-11), 2)), (32, (.ireturn, 1)), (33, (.aload_n 3, 1)), (34, (.getfield 143, 3)), (37, (.iconst 1, 1)), (38, (.if_icmp .ne 17, 3)), (41, (.aload_n 0, 1)), (42, (.getfield 65, 3)), (45, (.aload_n 3, 1)), (46, (.getfield 314, 3)), (49, (.invokevirtual 278, 3)), (52, (.ifCond .ne 6, 3)), (55, (.bipush (-12), 2)), (57, (.ireturn, 1)), (58, (.aload_n 0, 1)), (59, (.getfield 65, 3)), (62, (.getfield 317, 3)), (65, (.aload_n 3, 1)), (66, (.getfield 314, 3)), (69, (.iaload, 1)), (70, (.istore 4, 2)), (72, (.iload 4, 2)), (74, (.iload_n 2, 1)), (75, (.invokestatic 320, 3)), (78, (.ifCond .eq 8, 3)), (81, (.iload 4, 2)), (83, (.goto 5, 3)), (86, (.bipush (-12), 2)), (88, (.ireturn, 1))]
set_option maxRecDepth 100000 in
theorem dt_X10_taken : (tb_X10_taken.all fun q => decide (decode cX10_taken q.1 = .ok q.2)) = true := by decide +kernel
set_option maxRecDepth 100000 in
set_option maxHeartbeats 4000000 in
theorem ok_F10_taken {m : Mem}  {v1 v2 : Int} (q1 : inR v1) (q2 : inR v2) {out : Int} (h : F10_taken m v1 v2 = some out) : CT l G cy ad tt yX10_taken cX10_taken 5 (some .int) 2 [.ref (ad 0), iv v1, iv v2] m (some (iv out)) (inR out) m := by
  refine CT_of (by decide) (Nat.le_of_ble_eq_true rfl) (fun Go hR hT => ?_)
  replace hR : RS l G cy ad tt RX10 cX10_taken 5 2 Go := hR
  show Go 0 [some (.ref (ad 0)), some (iv v1), some (iv v2), none, none] [] m
  unfold F10_taken at h
  refine r_iload_n (pc := 0) hR (dc dt_X10_taken 0 rfl) rfl ?_
  refine r_callS (pc := 1) (rest := []) hR (dc dt_X10_taken 1 rfl) cl_X10_140 (ok_F10_isShelf q1) (by decide) rfl (Nat.le_of_ble_eq_true rfl) rfl (fun q1r => ?_)
  show Go 4 [some (.ref (ad 0)), some (iv v1), some (iv v2), none, none] [iv (F10_isShelf v1)] m
  refine r_if_eq (pc := 4) (tgt := 14) hR (dc dt_X10_taken 2 rfl) (by decide) (inZ_R q1r) (fun hc => ?_) (fun hc => ?_)
  · replace h := ite_t hc h
    refine r_iconst (pc := 14) hR (dc dt_X10_taken 6 rfl) ?_
    exact r_iret hT (dc dt_X10_taken 7 rfl) (Option.some.inj h) rfl (rg_c rfl)
  replace h := ite_f hc h
  refine r_iload_n (pc := 7) hR (dc dt_X10_taken 3 rfl) rfl ?_
  refine r_callS (pc := 8) (rest := []) hR (dc dt_X10_taken 4 rfl) cl_X10_269 (ok_F5_isKind q2) (by decide) rfl (Nat.le_of_ble_eq_true rfl) rfl (fun q8r => ?_)
  show Go 11 [some (.ref (ad 0)), some (iv v1), some (iv v2), none, none] [iv (F5_isKind v2)] m
  refine r_if_ne (pc := 11) (tgt := 16) hR (dc dt_X10_taken 5 rfl) (by decide) (inZ_R q8r) (fun hc => ?_) (fun hc => ?_)
  · replace h := ite_t hc h
    refine r_aload_n (pc := 16) hR (dc dt_X10_taken 8 rfl) rfl ?_
    refine r_getr (pc := 17) (k2 := 70) hR (dc dt_X10_taken 9 rfl) fl_X10_71 tc_0 rfl ?_
    refine r_iload_n (pc := 20) hR (dc dt_X10_taken 10 rfl) rfl ?_
    obtain ⟨g1, h⟩ := gd_some h
    have hs21 : isSh (71 + 2 * (v1).toNat) := sh_of g1.1 g1.2
    refine r_aald (pc := 21) hR (dc dt_X10_taken 11 rfl) tc_70 g1 q1 ?_
    refine r_astore_n (pc := 22) (L' := [some (.ref (ad 0)), some (iv v1), some (iv v2), some (.ref (ad (71 + 2 * (v1).toNat))), none]) hR (dc dt_X10_taken 12 rfl) (by decide) rfl rfl ?_
    refine r_aload_n (pc := 23) hR (dc dt_X10_taken 13 rfl) rfl ?_
    refine r_geti (pc := 24) hR (dc dt_X10_taken 14 rfl) fl_X10_143 hs21.1 rfl ?_
    refine r_if_ne (pc := 27) (tgt := 33) hR (dc dt_X10_taken 15 rfl) (by decide) (rd_in _ _ _) (fun hc => ?_) (fun hc => ?_)
    · replace h := ite_t hc h
      refine r_aload_n (pc := 33) hR (dc dt_X10_taken 18 rfl) rfl ?_
      refine r_geti (pc := 34) hR (dc dt_X10_taken 19 rfl) fl_X10_143 hs21.1 rfl ?_
      refine r_iconst (pc := 37) hR (dc dt_X10_taken 20 rfl) ?_
      refine r_icmp_ne (pc := 38) (tgt := 55) hR (dc dt_X10_taken 21 rfl) (by decide) (rd_in _ _ _) (rg_c rfl) (fun hc => ?_) (fun hc => ?_)
      · replace h := ite_t hc h
        refine r_bipush (pc := 55) hR (dc dt_X10_taken 28 rfl) (by decide) ?_
        exact r_iret hT (dc dt_X10_taken 29 rfl) (Option.some.inj h) rfl (rg_c rfl)
      replace h := ite_f hc h
      refine r_aload_n (pc := 41) hR (dc dt_X10_taken 22 rfl) rfl ?_
      refine r_getr (pc := 42) (k2 := 66) hR (dc dt_X10_taken 23 rfl) fl_X10_65 tc_0 rfl ?_
      refine r_aload_n (pc := 45) hR (dc dt_X10_taken 24 rfl) rfl ?_
      refine r_geti (pc := 46) hR (dc dt_X10_taken 25 rfl) fl_X10_314 hs21.1 rfl ?_
      refine r_callV (pc := 49) (rest := []) hR (dc dt_X10_taken 26 rfl) cl_X10_278 tc_66 rfl (ok_F5_has (rd_in _ _ _)) (by decide) rfl (Nat.le_of_ble_eq_true rfl) rfl (fun q49r => ?_)
      show Go 52 [some (.ref (ad 0)), some (iv v1), some (iv v2), some (.ref (ad (71 + 2 * (v1).toNat))), none] [iv (F5_has m (rd m (71 + 2 * (v1).toNat) 1))] m
      refine r_if_ne (pc := 52) (tgt := 58) hR (dc dt_X10_taken 27 rfl) (by decide) (inZ_R q49r) (fun hc => ?_) (fun hc => ?_)
      · replace h := ite_t hc h
        refine r_aload_n (pc := 58) hR (dc dt_X10_taken 30 rfl) rfl ?_
        refine r_getr (pc := 59) (k2 := 66) hR (dc dt_X10_taken 31 rfl) fl_X10_65 tc_0 rfl ?_
        refine r_getr (pc := 62) (k2 := 67) hR (dc dt_X10_taken 32 rfl) fl_X10_317 tc_66 rfl ?_
        refine r_aload_n (pc := 65) hR (dc dt_X10_taken 33 rfl) rfl ?_
        refine r_geti (pc := 66) hR (dc dt_X10_taken 34 rfl) fl_X10_314 hs21.1 rfl ?_
        obtain ⟨g1, h⟩ := gd_some h
        refine r_iald (pc := 69) hR (dc dt_X10_taken 35 rfl) tc_67 g1 (rd_in _ _ _) ?_
        refine r_istore (pc := 70) (L' := [some (.ref (ad 0)), some (iv v1), some (iv v2), some (.ref (ad (71 + 2 * (v1).toNat))), some (iv (rd m 67 (rd m (71 + 2 * (v1).toNat) 1)))]) hR (dc dt_X10_taken 36 rfl) (by decide) rfl rfl ?_
        refine r_iload (pc := 72) hR (dc dt_X10_taken 37 rfl) rfl ?_
        refine r_iload_n (pc := 74) hR (dc dt_X10_taken 38 rfl) rfl ?_
        obtain ⟨r75, e75, h⟩ := b1_some h
        refine r_callS (pc := 75) (rest := []) hR (dc dt_X10_taken 39 rfl) cl_X10_320 (ok_F5_isUnder (rd_in _ _ _) q2 e75) (by decide) rfl (Nat.le_of_ble_eq_true rfl) rfl (fun q75r => ?_)
        show Go 78 [some (.ref (ad 0)), some (iv v1), some (iv v2), some (.ref (ad (71 + 2 * (v1).toNat))), some (iv (rd m 67 (rd m (71 + 2 * (v1).toNat) 1)))] [iv r75] m
        refine r_if_eq (pc := 78) (tgt := 86) hR (dc dt_X10_taken 40 rfl) (by decide) (inZ_R q75r) (fun hc => ?_) (fun hc => ?_)
        · replace h := ite_t hc h
          refine r_bipush (pc := 86) hR (dc dt_X10_taken 43 rfl) (by decide) ?_
          exact r_iret hT (dc dt_X10_taken 44 rfl) (Option.some.inj h) rfl (rg_c rfl)
        replace h := ite_f hc h
        refine r_iload (pc := 81) hR (dc dt_X10_taken 41 rfl) rfl ?_
        refine r_goto (pc := 83) (tgt := 88) hR (dc dt_X10_taken 42 rfl) (by decide) ?_
        exact r_iret hT (dc dt_X10_taken 44 rfl) (Option.some.inj h) rfl (rd_in _ _ _)
      replace h := ite_f hc h
      refine r_bipush (pc := 55) hR (dc dt_X10_taken 28 rfl) (by decide) ?_
      exact r_iret hT (dc dt_X10_taken 29 rfl) (Option.some.inj h) rfl (rg_c rfl)
    replace h := ite_f hc h
    refine r_bipush (pc := 30) hR (dc dt_X10_taken 16 rfl) (by decide) ?_
    exact r_iret hT (dc dt_X10_taken 17 rfl) (Option.some.inj h) rfl (rg_c rfl)
  replace h := ite_f hc h
  refine r_iconst (pc := 14) hR (dc dt_X10_taken 6 rfl) ?_
  exact r_iret hT (dc dt_X10_taken 7 rfl) (Option.some.inj h) rfl (rg_c rfl)
def tb_X10_count : List (Nat × (Instr × Nat)) := [(0, (.iload_n 1, 1)), (1, (.tableswitch 87 0 5 #[39, 47, 55, 63, 71, 79], 39)), (40, (.aload_n 0, 1)), (41, (.getfield 19, 3)), (44, (.getfield 80, 3)), (47, (.ireturn, 1)), (48, (.aload_n 0, 1)), (49, (.getfield 10, 3)), (52, (.getfield 88, 3)), (55, (.ireturn, 1)), (56, (.aload_n 0, 1)), (57, (.getfield 44, 3)), (60, (.getfield 193, 3)), (63, (.ireturn, 1)), (64, (.aload_n 0, 1)), (65, (.getfield 19, 3)), (68, (.getfield 321, 3)), (71, (.ireturn, 1)), (72, (.aload_n 0, 1)), (73, (.getfield 65, 3)), (76, (.getfield 272, 3)), (79, (.ireturn, 1)), (80, (.aload_n 0, 1)), (81, (.getfield 65, 3)), (84, (.getfield 275, 3)), (87, (.ireturn, 1)), (88, (.iconst (-1), 1)), (89, (.ireturn, 1))]
set_option maxRecDepth 100000 in
theorem dt_X10_count : (tb_X10_count.all fun q => decide (decode cX10_count q.1 = .ok q.2)) = true := by decide +kernel
set_option maxRecDepth 100000 in
set_option maxHeartbeats 4000000 in
theorem ok_F10_count {m : Mem}  {v1 : Int} (q1 : inR v1) : CT l G cy ad tt yX10_count cX10_count 2 (some .int) 0 [.ref (ad 0), iv v1] m (some (iv (F10_count m v1))) (inR (F10_count m v1)) m := by
  refine CT_of (by decide) (Nat.le_of_ble_eq_true rfl) (fun Go hR hT => ?_)
  replace hR : RS l G cy ad tt RX10 cX10_count 2 0 Go := hR
  show Go 0 [some (.ref (ad 0)), some (iv v1)] [] m
  obtain ⟨out, h⟩ : ∃ out, F10_count m v1 = out := ⟨_, rfl⟩
  rw [h] at hT
  unfold F10_count at h
  refine r_iload_n (pc := 0) hR (dc dt_X10_count 0 rfl) rfl ?_
  show Go 1 [some (.ref (ad 0)), some (iv v1)] [iv v1] m
  by_cases hc0 : v1 = 0
  · replace h := ite_t hc0 h
    refine r_tabIn (pc := 1) (tgt := 40) hR (dc dt_X10_count 1 rfl) q1 (by omega) (by omega) (by rw [hc0]; rfl) (by decide) ?_
    refine r_aload_n (pc := 40) hR (dc dt_X10_count 2 rfl) rfl ?_
    refine r_getr (pc := 41) (k2 := 4) hR (dc dt_X10_count 3 rfl) fl_X10_19 tc_0 rfl ?_
    refine r_geti (pc := 44) hR (dc dt_X10_count 4 rfl) fl_X10_80 tc_4 rfl ?_
    exact r_iret hT (dc dt_X10_count 5 rfl) h rfl (rd_in _ _ _)
  replace h := ite_f hc0 h
  by_cases hc1 : v1 = 1
  · replace h := ite_t hc1 h
    refine r_tabIn (pc := 1) (tgt := 48) hR (dc dt_X10_count 1 rfl) q1 (by omega) (by omega) (by rw [hc1]; rfl) (by decide) ?_
    refine r_aload_n (pc := 48) hR (dc dt_X10_count 6 rfl) rfl ?_
    refine r_getr (pc := 49) (k2 := 1) hR (dc dt_X10_count 7 rfl) fl_X10_10 tc_0 rfl ?_
    refine r_geti (pc := 52) hR (dc dt_X10_count 8 rfl) fl_X10_88 tc_1 rfl ?_
    exact r_iret hT (dc dt_X10_count 9 rfl) h rfl (rd_in _ _ _)
  replace h := ite_f hc1 h
  by_cases hc2 : v1 = 2
  · replace h := ite_t hc2 h
    refine r_tabIn (pc := 1) (tgt := 56) hR (dc dt_X10_count 1 rfl) q1 (by omega) (by omega) (by rw [hc2]; rfl) (by decide) ?_
    refine r_aload_n (pc := 56) hR (dc dt_X10_count 10 rfl) rfl ?_
    refine r_getr (pc := 57) (k2 := 31) hR (dc dt_X10_count 11 rfl) fl_X10_44 tc_0 rfl ?_
    refine r_geti (pc := 60) hR (dc dt_X10_count 12 rfl) fl_X10_193 tc_31 rfl ?_
    exact r_iret hT (dc dt_X10_count 13 rfl) h rfl (rd_in _ _ _)
  replace h := ite_f hc2 h
  by_cases hc3 : v1 = 3
  · replace h := ite_t hc3 h
    refine r_tabIn (pc := 1) (tgt := 64) hR (dc dt_X10_count 1 rfl) q1 (by omega) (by omega) (by rw [hc3]; rfl) (by decide) ?_
    refine r_aload_n (pc := 64) hR (dc dt_X10_count 14 rfl) rfl ?_
    refine r_getr (pc := 65) (k2 := 4) hR (dc dt_X10_count 15 rfl) fl_X10_19 tc_0 rfl ?_
    refine r_geti (pc := 68) hR (dc dt_X10_count 16 rfl) fl_X10_321 tc_4 rfl ?_
    exact r_iret hT (dc dt_X10_count 17 rfl) h rfl (rd_in _ _ _)
  replace h := ite_f hc3 h
  by_cases hc4 : v1 = 4
  · replace h := ite_t hc4 h
    refine r_tabIn (pc := 1) (tgt := 72) hR (dc dt_X10_count 1 rfl) q1 (by omega) (by omega) (by rw [hc4]; rfl) (by decide) ?_
    refine r_aload_n (pc := 72) hR (dc dt_X10_count 18 rfl) rfl ?_
    refine r_getr (pc := 73) (k2 := 66) hR (dc dt_X10_count 19 rfl) fl_X10_65 tc_0 rfl ?_
    refine r_geti (pc := 76) hR (dc dt_X10_count 20 rfl) fl_X10_272 tc_66 rfl ?_
    exact r_iret hT (dc dt_X10_count 21 rfl) h rfl (rd_in _ _ _)
  replace h := ite_f hc4 h
  by_cases hc5 : v1 = 5
  · replace h := ite_t hc5 h
    refine r_tabIn (pc := 1) (tgt := 80) hR (dc dt_X10_count 1 rfl) q1 (by omega) (by omega) (by rw [hc5]; rfl) (by decide) ?_
    refine r_aload_n (pc := 80) hR (dc dt_X10_count 22 rfl) rfl ?_
    refine r_getr (pc := 81) (k2 := 66) hR (dc dt_X10_count 23 rfl) fl_X10_65 tc_0 rfl ?_
    refine r_geti (pc := 84) hR (dc dt_X10_count 24 rfl) fl_X10_275 tc_66 rfl ?_
    exact r_iret hT (dc dt_X10_count 25 rfl) h rfl (rd_in _ _ _)
  replace h := ite_f hc5 h
  refine r_tabOut (pc := 1) (tgt := 88) hR (dc dt_X10_count 1 rfl) q1 (by omega) (by decide) ?_
  refine r_iconst (pc := 88) hR (dc dt_X10_count 26 rfl) ?_
  exact r_iret hT (dc dt_X10_count 27 rfl) h rfl (rg_c rfl)
def tb_X11_in : List (Nat × (Instr × Nat)) := [(0, (.iload_n 0, 1)), (1, (.iload_n 1, 1)), (2, (.if_icmp .lt 12, 3)), (5, (.iload_n 0, 1)), (6, (.iload_n 2, 1)), (7, (.if_icmp .gt 7, 3)), (10, (.iconst 1, 1)), (11, (.goto 4, 3)), (14, (.iconst 0, 1)), (15, (.ireturn, 1))]
set_option maxRecDepth 100000 in
theorem dt_X11_in : (tb_X11_in.all fun q => decide (decode cX11_in q.1 = .ok q.2)) = true := by decide +kernel
set_option maxRecDepth 100000 in
set_option maxHeartbeats 4000000 in
theorem ok_F11_in {m : Mem}  {v0 v1 v2 : Int} (q0 : inR v0) (q1 : inR v1) (q2 : inR v2) : CT l G cy ad tt yX11_in cX11_in 3 (some .boolean) 0 [iv v0, iv v1, iv v2] m (some (iv (F11_in v0 v1 v2))) (inZ (F11_in v0 v1 v2)) m := by
  refine CT_of (by decide) (Nat.le_of_ble_eq_true rfl) (fun Go hR hT => ?_)
  replace hR : RS l G cy ad tt RX11 cX11_in 3 0 Go := hR
  show Go 0 [some (iv v0), some (iv v1), some (iv v2)] [] m
  obtain ⟨out, h⟩ : ∃ out, F11_in v0 v1 v2 = out := ⟨_, rfl⟩
  rw [h] at hT
  unfold F11_in at h
  refine r_iload_n (pc := 0) hR (dc dt_X11_in 0 rfl) rfl ?_
  refine r_iload_n (pc := 1) hR (dc dt_X11_in 1 rfl) rfl ?_
  refine jn_e h (fun (K : Int) => K = out → Go 14 [none, none, none] [] m) (fun h => ?_) (fun K14 J14 h => ?_)
  · refine r_iconst (pc := 14) hR (dc dt_X11_in 8 rfl) ?_
    exact r_zret hT (dc dt_X11_in 9 rfl) h rfl (Or.inl rfl)
  refine r_icmp_lt (pc := 2) (tgt := 14) hR (dc dt_X11_in 2 rfl) (by decide) q0 q1 (fun hc => ?_) (fun hc => ?_)
  · replace h := ite_t hc h
    refine r_weak (L' := [none, none, none]) hR ⟨Or.inl rfl, Or.inl rfl, Or.inl rfl, trivial⟩ ?_
    exact J14 h
  replace h := ite_f hc h
  refine r_iload_n (pc := 5) hR (dc dt_X11_in 3 rfl) rfl ?_
  refine r_iload_n (pc := 6) hR (dc dt_X11_in 4 rfl) rfl ?_
  refine r_icmp_gt (pc := 7) (tgt := 14) hR (dc dt_X11_in 5 rfl) (by decide) q0 q2 (fun hc => ?_) (fun hc => ?_)
  · replace h := ite_t hc h
    refine r_weak (L' := [none, none, none]) hR ⟨Or.inl rfl, Or.inl rfl, Or.inl rfl, trivial⟩ ?_
    exact J14 h
  replace h := ite_f hc h
  refine r_iconst (pc := 10) hR (dc dt_X11_in 6 rfl) ?_
  refine r_goto (pc := 11) (tgt := 15) hR (dc dt_X11_in 7 rfl) (by decide) ?_
  exact r_zret hT (dc dt_X11_in 9 rfl) h rfl (Or.inr rfl)
def tb_X11_lesser : List (Nat × (Instr × Nat)) := [(0, (.iload_n 0, 1)), (1, (.iload_n 1, 1)), (2, (.if_icmp .ge 7, 3)), (5, (.iload_n 0, 1)), (6, (.goto 4, 3)), (9, (.iload_n 1, 1)), (10, (.ireturn, 1))]
set_option maxRecDepth 100000 in
theorem dt_X11_lesser : (tb_X11_lesser.all fun q => decide (decode cX11_lesser q.1 = .ok q.2)) = true := by decide +kernel
set_option maxRecDepth 100000 in
set_option maxHeartbeats 4000000 in
theorem ok_F11_lesser {m : Mem}  {v0 v1 : Int} (q0 : inR v0) (q1 : inR v1) : CT l G cy ad tt yX11_lesser cX11_lesser 2 (some .int) 0 [iv v0, iv v1] m (some (iv (F11_lesser v0 v1))) (inR (F11_lesser v0 v1)) m := by
  refine CT_of (by decide) (Nat.le_of_ble_eq_true rfl) (fun Go hR hT => ?_)
  replace hR : RS l G cy ad tt RX11 cX11_lesser 2 0 Go := hR
  show Go 0 [some (iv v0), some (iv v1)] [] m
  obtain ⟨out, h⟩ : ∃ out, F11_lesser v0 v1 = out := ⟨_, rfl⟩
  rw [h] at hT
  unfold F11_lesser at h
  refine r_iload_n (pc := 0) hR (dc dt_X11_lesser 0 rfl) rfl ?_
  refine r_iload_n (pc := 1) hR (dc dt_X11_lesser 1 rfl) rfl ?_
  refine r_icmp_ge (pc := 2) (tgt := 9) hR (dc dt_X11_lesser 2 rfl) (by decide) q0 q1 (fun hc => ?_) (fun hc => ?_)
  · replace h := ite_t hc h
    refine r_iload_n (pc := 9) hR (dc dt_X11_lesser 5 rfl) rfl ?_
    exact r_iret hT (dc dt_X11_lesser 6 rfl) h rfl q1
  replace h := ite_f hc h
  refine r_iload_n (pc := 5) hR (dc dt_X11_lesser 3 rfl) rfl ?_
  refine r_goto (pc := 6) (tgt := 10) hR (dc dt_X11_lesser 4 rfl) (by decide) ?_
  exact r_iret hT (dc dt_X11_lesser 6 rfl) h rfl q0
def tb_X11_greater : List (Nat × (Instr × Nat)) := [(0, (.iload_n 0, 1)), (1, (.iload_n 1, 1)), (2, (.if_icmp .le 7, 3)), (5, (.iload_n 0, 1)), (6, (.goto 4, 3)), (9, (.iload_n 1, 1)), (10, (.ireturn, 1))]
set_option maxRecDepth 100000 in
theorem dt_X11_greater : (tb_X11_greater.all fun q => decide (decode cX11_greater q.1 = .ok q.2)) = true := by decide +kernel
set_option maxRecDepth 100000 in
set_option maxHeartbeats 4000000 in
theorem ok_F11_greater {m : Mem}  {v0 v1 : Int} (q0 : inR v0) (q1 : inR v1) : CT l G cy ad tt yX11_greater cX11_greater 2 (some .int) 0 [iv v0, iv v1] m (some (iv (F11_greater v0 v1))) (inR (F11_greater v0 v1)) m := by
  refine CT_of (by decide) (Nat.le_of_ble_eq_true rfl) (fun Go hR hT => ?_)
  replace hR : RS l G cy ad tt RX11 cX11_greater 2 0 Go := hR
  show Go 0 [some (iv v0), some (iv v1)] [] m
  obtain ⟨out, h⟩ : ∃ out, F11_greater v0 v1 = out := ⟨_, rfl⟩
  rw [h] at hT
  unfold F11_greater at h
  refine r_iload_n (pc := 0) hR (dc dt_X11_greater 0 rfl) rfl ?_
  refine r_iload_n (pc := 1) hR (dc dt_X11_greater 1 rfl) rfl ?_
  refine r_icmp_le (pc := 2) (tgt := 9) hR (dc dt_X11_greater 2 rfl) (by decide) q0 q1 (fun hc => ?_) (fun hc => ?_)
  · replace h := ite_t hc h
    refine r_iload_n (pc := 9) hR (dc dt_X11_greater 5 rfl) rfl ?_
    exact r_iret hT (dc dt_X11_greater 6 rfl) h rfl q1
  replace h := ite_f hc h
  refine r_iload_n (pc := 5) hR (dc dt_X11_greater 3 rfl) rfl ?_
  refine r_goto (pc := 6) (tgt := 10) hR (dc dt_X11_greater 4 rfl) (by decide) ?_
  exact r_iret hT (dc dt_X11_greater 6 rfl) h rfl q0
def tb_X11_isForm : List (Nat × (Instr × Nat)) := [(0, (.iload_n 0, 1)), (1, (.iconst 0, 1)), (2, (.iconst 3, 1)), (3, (.invokestatic 134, 3)), (6, (.ifCond .ne 9, 3)), (9, (.iload_n 0, 1)), (10, (.bipush 9, 2)), (12, (.if_icmp .ne 7, 3)), (15, (.iconst 1, 1)), (16, (.goto 4, 3)), (19, (.iconst 0, 1)), (20, (.ireturn, 1))]
set_option maxRecDepth 100000 in
theorem dt_X11_isForm : (tb_X11_isForm.all fun q => decide (decode cX11_isForm q.1 = .ok q.2)) = true := by decide +kernel
set_option maxRecDepth 100000 in
set_option maxHeartbeats 4000000 in
theorem ok_F11_isForm {m : Mem}  {v0 : Int} (q0 : inR v0) : CT l G cy ad tt yX11_isForm cX11_isForm 1 (some .boolean) 1 [iv v0] m (some (iv (F11_isForm v0))) (inZ (F11_isForm v0)) m := by
  refine CT_of (by decide) (Nat.le_of_ble_eq_true rfl) (fun Go hR hT => ?_)
  replace hR : RS l G cy ad tt RX11 cX11_isForm 1 1 Go := hR
  show Go 0 [some (iv v0)] [] m
  obtain ⟨out, h⟩ : ∃ out, F11_isForm v0 = out := ⟨_, rfl⟩
  rw [h] at hT
  unfold F11_isForm at h
  refine r_iload_n (pc := 0) hR (dc dt_X11_isForm 0 rfl) rfl ?_
  refine r_iconst (pc := 1) hR (dc dt_X11_isForm 1 rfl) ?_
  refine r_iconst (pc := 2) hR (dc dt_X11_isForm 2 rfl) ?_
  refine r_callS (pc := 3) (rest := []) hR (dc dt_X11_isForm 3 rfl) cl_X11_134 (ok_F11_in q0 (rg_c rfl) (rg_c rfl)) (by decide) rfl (Nat.le_of_ble_eq_true rfl) rfl (fun q3r => ?_)
  show Go 6 [some (iv v0)] [iv (F11_in v0 0 3)] m
  refine jn_e h (fun (K : Int) => K = out → Go 15 [none] [] m) (fun h => ?_) (fun K15 J15 h => ?_)
  · refine r_iconst (pc := 15) hR (dc dt_X11_isForm 8 rfl) ?_
    refine r_goto (pc := 16) (tgt := 20) hR (dc dt_X11_isForm 9 rfl) (by decide) ?_
    exact r_zret hT (dc dt_X11_isForm 11 rfl) h rfl (Or.inr rfl)
  refine r_if_ne (pc := 6) (tgt := 15) hR (dc dt_X11_isForm 4 rfl) (by decide) (inZ_R q3r) (fun hc => ?_) (fun hc => ?_)
  · replace h := ite_t hc h
    refine r_weak (L' := [none]) hR ⟨Or.inl rfl, trivial⟩ ?_
    exact J15 h
  replace h := ite_f hc h
  refine r_iload_n (pc := 9) hR (dc dt_X11_isForm 5 rfl) rfl ?_
  refine r_bipush (pc := 10) hR (dc dt_X11_isForm 6 rfl) (by decide) ?_
  refine r_icmp_ne (pc := 12) (tgt := 19) hR (dc dt_X11_isForm 7 rfl) (by decide) q0 (rg_c rfl) (fun hc => ?_) (fun hc => ?_)
  · replace h := ite_t hc h
    refine r_iconst (pc := 19) hR (dc dt_X11_isForm 10 rfl) ?_
    exact r_zret hT (dc dt_X11_isForm 11 rfl) h rfl (Or.inl rfl)
  replace h := ite_f hc h
  refine r_weak (L' := [none]) hR ⟨Or.inl rfl, trivial⟩ ?_
  exact J15 h
def tb_X11_isCharter : List (Nat × (Instr × Nat)) := [(0, (.iload_n 1, 1)), (1, (.iconst 0, 1)), (2, (.aload_n 0, 1)), (3, (.getfield 138, 3)), (6, (.iconst 1, 1)), (7, (.isub, 1)), (8, (.invokestatic 134, 3)), (11, (.ireturn, 1))]
set_option maxRecDepth 100000 in
theorem dt_X11_isCharter : (tb_X11_isCharter.all fun q => decide (decode cX11_isCharter q.1 = .ok q.2)) = true := by decide +kernel
set_option maxRecDepth 100000 in
set_option maxHeartbeats 4000000 in
theorem ok_F11_isCharter {m : Mem}  {v1 : Int} (q1 : inR v1) : CT l G cy ad tt yX11_isCharter cX11_isCharter 2 (some .boolean) 1 [.ref (ad 83), iv v1] m (some (iv (F11_isCharter m v1))) (inZ (F11_isCharter m v1)) m := by
  refine CT_of (by decide) (Nat.le_of_ble_eq_true rfl) (fun Go hR hT => ?_)
  replace hR : RS l G cy ad tt RX11 cX11_isCharter 2 1 Go := hR
  show Go 0 [some (.ref (ad 83)), some (iv v1)] [] m
  obtain ⟨out, h⟩ : ∃ out, F11_isCharter m v1 = out := ⟨_, rfl⟩
  rw [h] at hT
  unfold F11_isCharter at h
  refine r_iload_n (pc := 0) hR (dc dt_X11_isCharter 0 rfl) rfl ?_
  refine r_iconst (pc := 1) hR (dc dt_X11_isCharter 1 rfl) ?_
  refine r_aload_n (pc := 2) hR (dc dt_X11_isCharter 2 rfl) rfl ?_
  refine r_geti (pc := 3) hR (dc dt_X11_isCharter 3 rfl) fl_X11_138 tc_83 rfl ?_
  refine r_iconst (pc := 6) hR (dc dt_X11_isCharter 4 rfl) ?_
  refine r_isub (pc := 7) hR (dc dt_X11_isCharter 5 rfl) ?_
  refine r_callS (pc := 8) (rest := []) hR (dc dt_X11_isCharter 6 rfl) cl_X11_134 (ok_F11_in q1 (rg_c rfl) (w32_in _)) (by decide) rfl (Nat.le_of_ble_eq_true rfl) rfl (fun q8r => ?_)
  show Go 11 [some (.ref (ad 83)), some (iv v1)] [iv (F11_in v1 0 (w32 ((rd m 83 1) - 1)))] m
  exact r_zret hT (dc dt_X11_isCharter 7 rfl) h rfl q8r
def tb_X11_isClause : List (Nat × (Instr × Nat)) := [(0, (.iload_n 0, 1)), (1, (.iconst 0, 1)), (2, (.bipush 15, 2)), (4, (.invokestatic 134, 3)), (7, (.ireturn, 1))]
set_option maxRecDepth 100000 in
theorem dt_X11_isClause : (tb_X11_isClause.all fun q => decide (decode cX11_isClause q.1 = .ok q.2)) = true := by decide +kernel
set_option maxRecDepth 100000 in
set_option maxHeartbeats 4000000 in
theorem ok_F11_isClause {m : Mem}  {v0 : Int} (q0 : inR v0) : CT l G cy ad tt yX11_isClause cX11_isClause 1 (some .boolean) 1 [iv v0] m (some (iv (F11_isClause v0))) (inZ (F11_isClause v0)) m := by
  refine CT_of (by decide) (Nat.le_of_ble_eq_true rfl) (fun Go hR hT => ?_)
  replace hR : RS l G cy ad tt RX11 cX11_isClause 1 1 Go := hR
  show Go 0 [some (iv v0)] [] m
  obtain ⟨out, h⟩ : ∃ out, F11_isClause v0 = out := ⟨_, rfl⟩
  rw [h] at hT
  unfold F11_isClause at h
  refine r_iload_n (pc := 0) hR (dc dt_X11_isClause 0 rfl) rfl ?_
  refine r_iconst (pc := 1) hR (dc dt_X11_isClause 1 rfl) ?_
  refine r_bipush (pc := 2) hR (dc dt_X11_isClause 2 rfl) (by decide) ?_
  refine r_callS (pc := 4) (rest := []) hR (dc dt_X11_isClause 3 rfl) cl_X11_134 (ok_F11_in q0 (rg_c rfl) (rg_c rfl)) (by decide) rfl (Nat.le_of_ble_eq_true rfl) rfl (fun q4r => ?_)
  show Go 7 [some (iv v0)] [iv (F11_in v0 0 15)] m
  exact r_zret hT (dc dt_X11_isClause 4 rfl) h rfl q4r
def tb_X11_feed : List (Nat × (Instr × Nat)) := [(0, (.iload_n 1, 1)), (1, (.iconst 1, 1)), (2, (.iconst 4, 1)), (3, (.invokestatic 134, 3)), (6, (.ifCond .ne 5, 3)), (9, (.iconst (-1), 1)), (10, (.ireturn, 1)), (11, (.aload_n 0, 1)), (12, (.getfield 141, 3)), (15, (.iload_n 1, 1)), (16, (.iadd, 1)), (17, (.bipush 120, 2)), (19, (.if_icmp .le 6, 3)), (22, (.bipush (-3), 2)), (24, (.ireturn, 1)), (25, (.iconst 0, 1)), (26, (.istore_n 3, 1)), (27, (.iload_n 3, 1)), (28, (.iload_n 1, 1)), (29, (.if_icmp .ge 35, 3)), (32, (.aload_n 0, 1)), (33, (.getfield 32, 3)), (36, (.aload_n 0, 1)), (37, (.getfield 141, 3)), (40, (.iload_n 2, 1)), (41, (.bipush 8, 2)), (43, (.iload_n 3, 1)), (44, (.imul, 1)), (45, (.ishr, 1)), (46, (.i2b, 1)), (47, (.bastore, 1)), (48, (.aload_n 0, 1)), (49, (.dup, 1)), (50, (.getfield 141, 3)), (53, (.iconst 1, 1)), (54, (.iadd, 1)), (55, (.putfield 141, 3)), (58, (.iinc 3 1, 3)), (61, (.goto (-34), 3)), (64, (.aload_n 0, 1)), (65, (.getfield 141, 3)), (68, (.ireturn, 1))]
set_option maxRecDepth 100000 in
theorem dt_X11_feed : (tb_X11_feed.all fun q => decide (decode cX11_feed q.1 = .ok q.2)) = true := by decide +kernel
set_option maxRecDepth 100000 in
set_option maxHeartbeats 4000000 in
theorem lp_L11_feed_27 {Go : Nat → List (Option Value) → List Value → Mem → Prop} (hR : RS l G cy ad tt RX11 cX11_feed 4 1 Go) {out : Int × Mem} (hT : RT cX11_feed (some (iv out.1)) (inR out.1) out.2 (some .int) Go) {v1 : Int} {v2 : Int} (qv1 : inR v1) (qv2 : inR v2) {k64 : Mem → Option (Int × Mem)} (hk64 : ∀ (m : Mem), k64 m = some out → Go 64 [some (.ref (ad 83)), none, none, none] [] m) : ∀ (n : Nat) (v3 : Int) (m : Mem), inR v3 → L11_feed_27 v1 v2 k64 n v3 m = some out → Go 27 [some (.ref (ad 83)), some (iv v1), some (iv v2), some (iv v3)] [] m := by
  intro n
  induction n with
  | zero =>
    intro v3 m qv3 h
    cases h
  | succ n ih =>
    intro v3 m qv3 h
    rw [L11_feed_27] at h
    refine r_iload_n (pc := 27) hR (dc dt_X11_feed 17 rfl) rfl ?_
    refine r_iload_n (pc := 28) hR (dc dt_X11_feed 18 rfl) rfl ?_
    refine r_icmp_ge (pc := 29) (tgt := 64) hR (dc dt_X11_feed 19 rfl) (by decide) qv3 qv1 (fun hc => ?_) (fun hc => ?_)
    · replace h := ite_t hc h
      refine r_weak (L' := [some (.ref (ad 83)), none, none, none]) hR ⟨Or.inr rfl, Or.inl rfl, Or.inl rfl, Or.inl rfl, trivial⟩ ?_
      exact hk64 m h
    replace h := ite_f hc h
    refine r_aload_n (pc := 32) hR (dc dt_X11_feed 20 rfl) rfl ?_
    refine r_getr (pc := 33) (k2 := 91) hR (dc dt_X11_feed 21 rfl) fl_X11_32 tc_83 rfl ?_
    refine r_aload_n (pc := 36) hR (dc dt_X11_feed 22 rfl) rfl ?_
    refine r_geti (pc := 37) hR (dc dt_X11_feed 23 rfl) fl_X11_141 tc_83 rfl ?_
    refine r_iload_n (pc := 40) hR (dc dt_X11_feed 24 rfl) rfl ?_
    refine r_bipush (pc := 41) hR (dc dt_X11_feed 25 rfl) (by decide) ?_
    refine r_iload_n (pc := 43) hR (dc dt_X11_feed 26 rfl) rfl ?_
    refine r_imul (pc := 44) hR (dc dt_X11_feed 27 rfl) ?_
    refine r_ishr (pc := 45) hR (dc dt_X11_feed 28 rfl) ?_
    refine r_i2b (pc := 46) hR (dc dt_X11_feed 29 rfl) ?_
    obtain ⟨g1, h⟩ := gd_some h
    refine r_bast (pc := 47) hR (dc dt_X11_feed 30 rfl) tc_91 g1 (rd_in _ _ _) ?_
    replace h := stw_e h
    generalize wr m 91 (rd m 83 10) (i8 (i8 (shr v2 (w32 (8 * v3))))) = m47 at h ⊢
    refine r_aload_n (pc := 48) hR (dc dt_X11_feed 31 rfl) rfl ?_
    refine r_dup (pc := 49) hR (dc dt_X11_feed 32 rfl) rfl ?_
    refine r_geti (pc := 50) hR (dc dt_X11_feed 33 rfl) fl_X11_141 tc_83 rfl ?_
    refine r_iconst (pc := 53) hR (dc dt_X11_feed 34 rfl) ?_
    refine r_iadd (pc := 54) hR (dc dt_X11_feed 35 rfl) ?_
    refine r_puti (pc := 55) hR (dc dt_X11_feed 36 rfl) fl_X11_141 tc_83 rfl rfl rfl ?_
    replace h := stw_e h
    generalize wr m47 83 10 (w32 ((rd m47 83 10) + 1)) = m55 at h ⊢
    refine r_iinc (pc := 58) (L' := [some (.ref (ad 83)), some (iv v1), some (iv v2), some (iv (w32 (v3 + 1)))]) hR (dc dt_X11_feed 37 rfl) rfl (by decide) rfl rfl ?_
    refine r_goto (pc := 61) (tgt := 27) hR (dc dt_X11_feed 38 rfl) (by decide) ?_
    exact ih (w32 (v3 + 1)) m55 (w32_in _) h
set_option maxRecDepth 100000 in
set_option maxHeartbeats 4000000 in
theorem ok_F11_feed {m : Mem}  {v1 v2 : Int} (q1 : inR v1) (q2 : inR v2) {out : Int × Mem} (h : F11_feed m v1 v2 = some out) : CT l G cy ad tt yX11_feed cX11_feed 4 (some .int) 1 [.ref (ad 83), iv v1, iv v2] m (some (iv out.1)) (inR out.1) out.2 := by
  refine CT_of (by decide) (Nat.le_of_ble_eq_true rfl) (fun Go hR hT => ?_)
  replace hR : RS l G cy ad tt RX11 cX11_feed 4 1 Go := hR
  show Go 0 [some (.ref (ad 83)), some (iv v1), some (iv v2), none] [] m
  unfold F11_feed at h
  refine r_iload_n (pc := 0) hR (dc dt_X11_feed 0 rfl) rfl ?_
  refine r_iconst (pc := 1) hR (dc dt_X11_feed 1 rfl) ?_
  refine r_iconst (pc := 2) hR (dc dt_X11_feed 2 rfl) ?_
  refine r_callS (pc := 3) (rest := []) hR (dc dt_X11_feed 3 rfl) cl_X11_134 (ok_F11_in q1 (rg_c rfl) (rg_c rfl)) (by decide) rfl (Nat.le_of_ble_eq_true rfl) rfl (fun q3r => ?_)
  show Go 6 [some (.ref (ad 83)), some (iv v1), some (iv v2), none] [iv (F11_in v1 1 4)] m
  refine r_if_ne (pc := 6) (tgt := 11) hR (dc dt_X11_feed 4 rfl) (by decide) (inZ_R q3r) (fun hc => ?_) (fun hc => ?_)
  · replace h := ite_t hc h
    refine r_aload_n (pc := 11) hR (dc dt_X11_feed 7 rfl) rfl ?_
    refine r_geti (pc := 12) hR (dc dt_X11_feed 8 rfl) fl_X11_141 tc_83 rfl ?_
    refine r_iload_n (pc := 15) hR (dc dt_X11_feed 9 rfl) rfl ?_
    refine r_iadd (pc := 16) hR (dc dt_X11_feed 10 rfl) ?_
    refine r_bipush (pc := 17) hR (dc dt_X11_feed 11 rfl) (by decide) ?_
    refine r_icmp_le (pc := 19) (tgt := 25) hR (dc dt_X11_feed 12 rfl) (by decide) (w32_in _) (rg_c rfl) (fun hc => ?_) (fun hc => ?_)
    · replace h := ite_t hc h
      refine r_iconst (pc := 25) hR (dc dt_X11_feed 15 rfl) ?_
      refine r_istore_n (pc := 26) (L' := [some (.ref (ad 83)), some (iv v1), some (iv v2), some (iv 0)]) hR (dc dt_X11_feed 16 rfl) (by decide) rfl rfl ?_
      refine lp_L11_feed_27 hR hT q1 q2 (fun m_64 h => ?_) FU 0 m (rg_c rfl) h
      show Go 64 [some (.ref (ad 83)), none, none, none] [] m_64
      refine r_aload_n (pc := 64) hR (dc dt_X11_feed 39 rfl) rfl ?_
      refine r_geti (pc := 65) hR (dc dt_X11_feed 40 rfl) fl_X11_141 tc_83 rfl ?_
      exact r_iret hT (dc dt_X11_feed 41 rfl) (congrArg Prod.fst (Option.some.inj h)) (congrArg Prod.snd (Option.some.inj h)) (rd_in _ _ _)
    replace h := ite_f hc h
    refine r_bipush (pc := 22) hR (dc dt_X11_feed 13 rfl) (by decide) ?_
    exact r_iret hT (dc dt_X11_feed 14 rfl) (congrArg Prod.fst (Option.some.inj h)) (congrArg Prod.snd (Option.some.inj h)) (rg_c rfl)
  replace h := ite_f hc h
  refine r_iconst (pc := 9) hR (dc dt_X11_feed 5 rfl) ?_
  exact r_iret hT (dc dt_X11_feed 6 rfl) (congrArg Prod.fst (Option.some.inj h)) (congrArg Prod.snd (Option.some.inj h)) (rg_c rfl)
def tb_X11_look : List (Nat × (Instr × Nat)) := [(0, (.aload_n 0, 1)), (1, (.getfield 144, 3)), (4, (.aload_n 0, 1)), (5, (.getfield 141, 3)), (8, (.if_icmp .ge 15, 3)), (11, (.aload_n 0, 1)), (12, (.getfield 32, 3)), (15, (.aload_n 0, 1)), (16, (.getfield 144, 3)), (19, (.baload, 1)), (20, (.goto 4, 3)), (23, (.iconst (-1), 1)), (24, (.ireturn, 1))]
set_option maxRecDepth 100000 in
theorem dt_X11_look : (tb_X11_look.all fun q => decide (decode cX11_look q.1 = .ok q.2)) = true := by decide +kernel
set_option maxRecDepth 100000 in
set_option maxHeartbeats 4000000 in
theorem ok_F11_look {m : Mem}   {out : Int} (h : F11_look m = some out) : CT l G cy ad tt yX11_look cX11_look 1 (some .int) 0 [.ref (ad 83)] m (some (iv out)) (inR out) m := by
  refine CT_of (by decide) (Nat.le_of_ble_eq_true rfl) (fun Go hR hT => ?_)
  replace hR : RS l G cy ad tt RX11 cX11_look 1 0 Go := hR
  show Go 0 [some (.ref (ad 83))] [] m
  unfold F11_look at h
  refine r_aload_n (pc := 0) hR (dc dt_X11_look 0 rfl) rfl ?_
  refine r_geti (pc := 1) hR (dc dt_X11_look 1 rfl) fl_X11_144 tc_83 rfl ?_
  refine r_aload_n (pc := 4) hR (dc dt_X11_look 2 rfl) rfl ?_
  refine r_geti (pc := 5) hR (dc dt_X11_look 3 rfl) fl_X11_141 tc_83 rfl ?_
  refine r_icmp_ge (pc := 8) (tgt := 23) hR (dc dt_X11_look 4 rfl) (by decide) (rd_in _ _ _) (rd_in _ _ _) (fun hc => ?_) (fun hc => ?_)
  · replace h := ite_t hc h
    refine r_iconst (pc := 23) hR (dc dt_X11_look 11 rfl) ?_
    exact r_iret hT (dc dt_X11_look 12 rfl) (Option.some.inj h) rfl (rg_c rfl)
  replace h := ite_f hc h
  refine r_aload_n (pc := 11) hR (dc dt_X11_look 5 rfl) rfl ?_
  refine r_getr (pc := 12) (k2 := 91) hR (dc dt_X11_look 6 rfl) fl_X11_32 tc_83 rfl ?_
  refine r_aload_n (pc := 15) hR (dc dt_X11_look 7 rfl) rfl ?_
  refine r_geti (pc := 16) hR (dc dt_X11_look 8 rfl) fl_X11_144 tc_83 rfl ?_
  obtain ⟨g1, h⟩ := gd_some h
  refine r_bald (pc := 19) hR (dc dt_X11_look 9 rfl) tc_91 g1 (rd_in _ _ _) ?_
  refine r_goto (pc := 20) (tgt := 24) hR (dc dt_X11_look 10 rfl) (by decide) ?_
  exact r_iret hT (dc dt_X11_look 12 rfl) (Option.some.inj h) rfl (rd_in _ _ _)
def tb_X11_wrong : List (Nat × (Instr × Nat)) := [(0, (.aload_n 0, 1)), (1, (.getfield 147, 3)), (4, (.ifCond .ge 8, 3)), (7, (.aload_n 0, 1)), (8, (.iload_n 1, 1)), (9, (.putfield 147, 3)), (12, (.return_, 1))]
set_option maxRecDepth 100000 in
theorem dt_X11_wrong : (tb_X11_wrong.all fun q => decide (decode cX11_wrong q.1 = .ok q.2)) = true := by decide +kernel
set_option maxRecDepth 100000 in
set_option maxHeartbeats 4000000 in
theorem ok_F11_wrong {m : Mem}  {v1 : Int} (q1 : inR v1) {out : Mem} (h : F11_wrong m v1 = some out) : CT l G cy ad tt yX11_wrong cX11_wrong 2 none 0 [.ref (ad 83), iv v1] m none True out := by
  refine CT_of (by decide) (Nat.le_of_ble_eq_true rfl) (fun Go hR hT => ?_)
  replace hR : RS l G cy ad tt RX11 cX11_wrong 2 0 Go := hR
  show Go 0 [some (.ref (ad 83)), some (iv v1)] [] m
  unfold F11_wrong at h
  refine r_aload_n (pc := 0) hR (dc dt_X11_wrong 0 rfl) rfl ?_
  refine r_geti (pc := 1) hR (dc dt_X11_wrong 1 rfl) fl_X11_147 tc_83 rfl ?_
  refine r_if_ge (pc := 4) (tgt := 12) hR (dc dt_X11_wrong 2 rfl) (by decide) (rd_in _ _ _) (fun hc => ?_) (fun hc => ?_)
  · replace h := ite_t hc h
    exact r_vret hT (dc dt_X11_wrong 6 rfl) (Option.some.inj h)
  replace h := ite_f hc h
  refine r_aload_n (pc := 7) hR (dc dt_X11_wrong 3 rfl) rfl ?_
  refine r_iload_n (pc := 8) hR (dc dt_X11_wrong 4 rfl) rfl ?_
  refine r_puti (pc := 9) hR (dc dt_X11_wrong 5 rfl) fl_X11_147 tc_83 rfl rfl rfl ?_
  replace h := stw_e h
  generalize wr m 83 12 v1 = m9 at h ⊢
  exact r_vret hT (dc dt_X11_wrong 6 rfl) (Option.some.inj h)
def tb_X11_number : List (Nat × (Instr × Nat)) := [(0, (.iconst 0, 1)), (1, (.istore_n 2, 1)), (2, (.iconst 0, 1)), (3, (.istore_n 3, 1)), (4, (.iload_n 3, 1)), (5, (.iload_n 1, 1)), (6, (.if_icmp .ge 46, 3)), (9, (.aload_n 0, 1)), (10, (.invokevirtual 150, 3)), (13, (.bipush 48, 2)), (15, (.bipush 57, 2)), (17, (.invokestatic 134, 3)), (20, (.ifCond .eq 32, 3)), (23, (.bipush 10, 2)), (25, (.iload_n 2, 1)), (26, (.imul, 1)), (27, (.aload_n 0, 1)), (28, (.invokevirtual 150, 3)), (31, (.iadd, 1)), (32, (.bipush 48, 2)), (34, (.isub, 1)), (35, (.istore_n 2, 1)), (36, (.iinc 3 1, 3)), (39, (.aload_n 0, 1)), (40, (.dup, 1)), (41, (.getfield 144, 3)), (44, (.iconst 1, 1)), (45, (.iadd, 1)), (46, (.putfield 144, 3)), (49, (.goto (-45), 3)), (52, (.iload_n 3, 1)), (53, (.ifCond .ne 11, 3)), (56, (.aload_n 0, 1)), (57, (.aload_n 0, 1)), (58, (.getfield 144, 3)), (61, (.invokevirtual 154, 3)), (64, (.iload_n 2, 1)), (65, (.ireturn, 1))]
set_option maxRecDepth 100000 in
theorem dt_X11_number : (tb_X11_number.all fun q => decide (decode cX11_number q.1 = .ok q.2)) = true := by decide +kernel
set_option maxRecDepth 100000 in
set_option maxHeartbeats 4000000 in
theorem lp_L11_number_4 {Go : Nat → List (Option Value) → List Value → Mem → Prop} (hR : RS l G cy ad tt RX11 cX11_number 4 1 Go) {out : Int × Mem} (hT : RT cX11_number (some (iv out.1)) (inR out.1) out.2 (some .int) Go) {v1 : Int} (qv1 : inR v1) {k52 : Int → Int → Mem → Option (Int × Mem)} (hk52 : ∀ (v2 : Int) (v3 : Int) (m : Mem), inR v2 → inR v3 → k52 v2 v3 m = some out → Go 52 [some (.ref (ad 83)), none, some (iv v2), some (iv v3)] [] m) : ∀ (n : Nat) (v2 : Int) (v3 : Int) (m : Mem), inR v2 → inR v3 → L11_number_4 v1 k52 n v2 v3 m = some out → Go 4 [some (.ref (ad 83)), some (iv v1), some (iv v2), some (iv v3)] [] m := by
  intro n
  induction n with
  | zero =>
    intro v2 v3 m qv2 qv3 h
    cases h
  | succ n ih =>
    intro v2 v3 m qv2 qv3 h
    rw [L11_number_4] at h
    refine r_iload_n (pc := 4) hR (dc dt_X11_number 4 rfl) rfl ?_
    refine r_iload_n (pc := 5) hR (dc dt_X11_number 5 rfl) rfl ?_
    refine r_icmp_ge (pc := 6) (tgt := 52) hR (dc dt_X11_number 6 rfl) (by decide) qv3 qv1 (fun hc => ?_) (fun hc => ?_)
    · replace h := ite_t hc h
      refine r_weak (L' := [some (.ref (ad 83)), none, some (iv v2), some (iv v3)]) hR ⟨Or.inr rfl, Or.inl rfl, Or.inr rfl, Or.inr rfl, trivial⟩ ?_
      exact hk52 v2 v3 m qv2 qv3 h
    replace h := ite_f hc h
    refine r_aload_n (pc := 9) hR (dc dt_X11_number 7 rfl) rfl ?_
    obtain ⟨r10, e10, h⟩ := b1_some h
    refine r_callV (pc := 10) (rest := []) hR (dc dt_X11_number 8 rfl) cl_X11_150 tc_83 rfl (ok_F11_look  e10) (by decide) rfl (Nat.le_of_ble_eq_true rfl) rfl (fun q10r => ?_)
    show Go 13 [some (.ref (ad 83)), some (iv v1), some (iv v2), some (iv v3)] [iv r10] m
    refine r_bipush (pc := 13) hR (dc dt_X11_number 9 rfl) (by decide) ?_
    refine r_bipush (pc := 15) hR (dc dt_X11_number 10 rfl) (by decide) ?_
    refine r_callS (pc := 17) (rest := []) hR (dc dt_X11_number 11 rfl) cl_X11_134 (ok_F11_in q10r (rg_c rfl) (rg_c rfl)) (by decide) rfl (Nat.le_of_ble_eq_true rfl) rfl (fun q17r => ?_)
    show Go 20 [some (.ref (ad 83)), some (iv v1), some (iv v2), some (iv v3)] [iv (F11_in r10 48 57)] m
    refine r_if_eq (pc := 20) (tgt := 52) hR (dc dt_X11_number 12 rfl) (by decide) (inZ_R q17r) (fun hc => ?_) (fun hc => ?_)
    · replace h := ite_t hc h
      refine r_weak (L' := [some (.ref (ad 83)), none, some (iv v2), some (iv v3)]) hR ⟨Or.inr rfl, Or.inl rfl, Or.inr rfl, Or.inr rfl, trivial⟩ ?_
      exact hk52 v2 v3 m qv2 qv3 h
    replace h := ite_f hc h
    refine r_bipush (pc := 23) hR (dc dt_X11_number 13 rfl) (by decide) ?_
    refine r_iload_n (pc := 25) hR (dc dt_X11_number 14 rfl) rfl ?_
    refine r_imul (pc := 26) hR (dc dt_X11_number 15 rfl) ?_
    refine r_aload_n (pc := 27) hR (dc dt_X11_number 16 rfl) rfl ?_
    obtain ⟨r28, e28, h⟩ := b1_some h
    refine r_callV (pc := 28) (rest := [iv (w32 (10 * v2))]) hR (dc dt_X11_number 17 rfl) cl_X11_150 tc_83 rfl (ok_F11_look  e28) (by decide) rfl (Nat.le_of_ble_eq_true rfl) rfl (fun q28r => ?_)
    show Go 31 [some (.ref (ad 83)), some (iv v1), some (iv v2), some (iv v3)] [iv r28, iv (w32 (10 * v2))] m
    refine r_iadd (pc := 31) hR (dc dt_X11_number 18 rfl) ?_
    refine r_bipush (pc := 32) hR (dc dt_X11_number 19 rfl) (by decide) ?_
    refine r_isub (pc := 34) hR (dc dt_X11_number 20 rfl) ?_
    refine r_istore_n (pc := 35) (L' := [some (.ref (ad 83)), some (iv v1), some (iv (w32 ((w32 ((w32 (10 * v2)) + r28)) - 48))), some (iv v3)]) hR (dc dt_X11_number 21 rfl) (by decide) rfl rfl ?_
    refine r_iinc (pc := 36) (L' := [some (.ref (ad 83)), some (iv v1), some (iv (w32 ((w32 ((w32 (10 * v2)) + r28)) - 48))), some (iv (w32 (v3 + 1)))]) hR (dc dt_X11_number 22 rfl) rfl (by decide) rfl rfl ?_
    refine r_aload_n (pc := 39) hR (dc dt_X11_number 23 rfl) rfl ?_
    refine r_dup (pc := 40) hR (dc dt_X11_number 24 rfl) rfl ?_
    refine r_geti (pc := 41) hR (dc dt_X11_number 25 rfl) fl_X11_144 tc_83 rfl ?_
    refine r_iconst (pc := 44) hR (dc dt_X11_number 26 rfl) ?_
    refine r_iadd (pc := 45) hR (dc dt_X11_number 27 rfl) ?_
    refine r_puti (pc := 46) hR (dc dt_X11_number 28 rfl) fl_X11_144 tc_83 rfl rfl rfl ?_
    replace h := stw_e h
    generalize wr m 83 11 (w32 ((rd m 83 11) + 1)) = m46 at h ⊢
    refine r_goto (pc := 49) (tgt := 4) hR (dc dt_X11_number 29 rfl) (by decide) ?_
    exact ih (w32 ((w32 ((w32 (10 * v2)) + r28)) - 48)) (w32 (v3 + 1)) m46 (w32_in _) (w32_in _) h
set_option maxRecDepth 100000 in
set_option maxHeartbeats 4000000 in
theorem ok_F11_number {m : Mem}  {v1 : Int} (q1 : inR v1) {out : Int × Mem} (h : F11_number m v1 = some out) : CT l G cy ad tt yX11_number cX11_number 4 (some .int) 1 [.ref (ad 83), iv v1] m (some (iv out.1)) (inR out.1) out.2 := by
  refine CT_of (by decide) (Nat.le_of_ble_eq_true rfl) (fun Go hR hT => ?_)
  replace hR : RS l G cy ad tt RX11 cX11_number 4 1 Go := hR
  show Go 0 [some (.ref (ad 83)), some (iv v1), none, none] [] m
  unfold F11_number at h
  refine r_iconst (pc := 0) hR (dc dt_X11_number 0 rfl) ?_
  refine r_istore_n (pc := 1) (L' := [some (.ref (ad 83)), some (iv v1), some (iv 0), none]) hR (dc dt_X11_number 1 rfl) (by decide) rfl rfl ?_
  refine r_iconst (pc := 2) hR (dc dt_X11_number 2 rfl) ?_
  refine r_istore_n (pc := 3) (L' := [some (.ref (ad 83)), some (iv v1), some (iv 0), some (iv 0)]) hR (dc dt_X11_number 3 rfl) (by decide) rfl rfl ?_
  refine lp_L11_number_4 hR hT q1 (fun v2_52 v3_52 m_52 qv2_52 qv3_52 h => ?_) FU 0 0 m (rg_c rfl) (rg_c rfl) h
  show Go 52 [some (.ref (ad 83)), none, some (iv v2_52), some (iv v3_52)] [] m_52
  refine r_iload_n (pc := 52) hR (dc dt_X11_number 30 rfl) rfl ?_
  refine r_if_ne (pc := 53) (tgt := 64) hR (dc dt_X11_number 31 rfl) (by decide) qv3_52 (fun hc => ?_) (fun hc => ?_)
  · replace h := ite_t hc h
    refine r_iload_n (pc := 64) hR (dc dt_X11_number 36 rfl) rfl ?_
    exact r_iret hT (dc dt_X11_number 37 rfl) (congrArg Prod.fst (Option.some.inj h)) (congrArg Prod.snd (Option.some.inj h)) qv2_52
  replace h := ite_f hc h
  refine r_aload_n (pc := 56) hR (dc dt_X11_number 32 rfl) rfl ?_
  refine r_aload_n (pc := 57) hR (dc dt_X11_number 33 rfl) rfl ?_
  refine r_geti (pc := 58) hR (dc dt_X11_number 34 rfl) fl_X11_144 tc_83 rfl ?_
  obtain ⟨m61, e61, h⟩ := b1_some h
  refine r_callV (pc := 61) (rest := []) hR (dc dt_X11_number 35 rfl) cl_X11_154 tc_83 rfl (ok_F11_wrong (rd_in _ _ _) e61) (by decide) rfl (Nat.le_of_ble_eq_true rfl) rfl (fun q61r => ?_)
  show Go 64 [some (.ref (ad 83)), none, some (iv v2_52), some (iv v3_52)] [] m61
  refine r_iload_n (pc := 64) hR (dc dt_X11_number 36 rfl) rfl ?_
  exact r_iret hT (dc dt_X11_number 37 rfl) (congrArg Prod.fst (Option.some.inj h)) (congrArg Prod.snd (Option.some.inj h)) qv2_52
def tb_X11_isNext : List (Nat × (Instr × Nat)) := [(0, (.aload_n 0, 1)), (1, (.invokevirtual 150, 3)), (4, (.iload_n 1, 1)), (5, (.if_icmp .eq 5, 3)), (8, (.iconst 0, 1)), (9, (.ireturn, 1)), (10, (.aload_n 0, 1)), (11, (.dup, 1)), (12, (.getfield 144, 3)), (15, (.iconst 1, 1)), (16, (.iadd, 1)), (17, (.putfield 144, 3)), (20, (.iconst 1, 1)), (21, (.ireturn, 1))]
set_option maxRecDepth 100000 in
theorem dt_X11_isNext : (tb_X11_isNext.all fun q => decide (decode cX11_isNext q.1 = .ok q.2)) = true := by decide +kernel
set_option maxRecDepth 100000 in
set_option maxHeartbeats 4000000 in
theorem ok_F11_isNext {m : Mem}  {v1 : Int} (q1 : inR v1) {out : Int × Mem} (h : F11_isNext m v1 = some out) : CT l G cy ad tt yX11_isNext cX11_isNext 2 (some .boolean) 1 [.ref (ad 83), iv v1] m (some (iv out.1)) (inZ out.1) out.2 := by
  refine CT_of (by decide) (Nat.le_of_ble_eq_true rfl) (fun Go hR hT => ?_)
  replace hR : RS l G cy ad tt RX11 cX11_isNext 2 1 Go := hR
  show Go 0 [some (.ref (ad 83)), some (iv v1)] [] m
  unfold F11_isNext at h
  refine r_aload_n (pc := 0) hR (dc dt_X11_isNext 0 rfl) rfl ?_
  obtain ⟨r1, e1, h⟩ := b1_some h
  refine r_callV (pc := 1) (rest := []) hR (dc dt_X11_isNext 1 rfl) cl_X11_150 tc_83 rfl (ok_F11_look  e1) (by decide) rfl (Nat.le_of_ble_eq_true rfl) rfl (fun q1r => ?_)
  show Go 4 [some (.ref (ad 83)), some (iv v1)] [iv r1] m
  refine r_iload_n (pc := 4) hR (dc dt_X11_isNext 2 rfl) rfl ?_
  refine r_icmp_eq (pc := 5) (tgt := 10) hR (dc dt_X11_isNext 3 rfl) (by decide) q1r q1 (fun hc => ?_) (fun hc => ?_)
  · replace h := ite_t hc h
    refine r_aload_n (pc := 10) hR (dc dt_X11_isNext 6 rfl) rfl ?_
    refine r_dup (pc := 11) hR (dc dt_X11_isNext 7 rfl) rfl ?_
    refine r_geti (pc := 12) hR (dc dt_X11_isNext 8 rfl) fl_X11_144 tc_83 rfl ?_
    refine r_iconst (pc := 15) hR (dc dt_X11_isNext 9 rfl) ?_
    refine r_iadd (pc := 16) hR (dc dt_X11_isNext 10 rfl) ?_
    refine r_puti (pc := 17) hR (dc dt_X11_isNext 11 rfl) fl_X11_144 tc_83 rfl rfl rfl ?_
    replace h := stw_e h
    generalize wr m 83 11 (w32 ((rd m 83 11) + 1)) = m17 at h ⊢
    refine r_iconst (pc := 20) hR (dc dt_X11_isNext 12 rfl) ?_
    exact r_zret hT (dc dt_X11_isNext 13 rfl) (congrArg Prod.fst (Option.some.inj h)) (congrArg Prod.snd (Option.some.inj h)) (Or.inr rfl)
  replace h := ite_f hc h
  refine r_iconst (pc := 8) hR (dc dt_X11_isNext 4 rfl) ?_
  exact r_zret hT (dc dt_X11_isNext 5 rfl) (congrArg Prod.fst (Option.some.inj h)) (congrArg Prod.snd (Option.some.inj h)) (Or.inl rfl)
def tb_X11_clear : List (Nat × (Instr × Nat)) := [(0, (.aload_n 0, 1)), (1, (.getfield 7, 3)), (4, (.iload_n 1, 1)), (5, (.iconst 0, 1)), (6, (.iastore, 1)), (7, (.aload_n 0, 1)), (8, (.getfield 13, 3)), (11, (.iload_n 1, 1)), (12, (.sipush 999, 3)), (15, (.iastore, 1)), (16, (.aload_n 0, 1)), (17, (.getfield 16, 3)), (20, (.iload_n 1, 1)), (21, (.iconst (-1), 1)), (22, (.iastore, 1)), (23, (.aload_n 0, 1)), (24, (.getfield 19, 3)), (27, (.iload_n 1, 1)), (28, (.iconst 0, 1)), (29, (.bastore, 1)), (30, (.aload_n 0, 1)), (31, (.getfield 23, 3)), (34, (.iload_n 1, 1)), (35, (.iconst (-1), 1)), (36, (.iastore, 1)), (37, (.iconst 0, 1)), (38, (.istore_n 2, 1)), (39, (.iload_n 2, 1)), (40, (.bipush 16, 2)), (42, (.if_icmp .ge 22, 3)), (45, (.aload_n 0, 1)), (46, (.getfield 26, 3)), (49, (.bipush 16, 2)), (51, (.iload_n 1, 1)), (52, (.imul, 1)), (53, (.iload_n 2, 1)), (54, (.iadd, 1)), (55, (.bipush 9, 2)), (57, (.iastore, 1)), (58, (.iinc 2 1, 3)), (61, (.goto (-22), 3)), (64, (.return_, 1))]
set_option maxRecDepth 100000 in
theorem dt_X11_clear : (tb_X11_clear.all fun q => decide (decode cX11_clear q.1 = .ok q.2)) = true := by decide +kernel
set_option maxRecDepth 100000 in
set_option maxHeartbeats 4000000 in
theorem lp_L11_clear_39 {Go : Nat → List (Option Value) → List Value → Mem → Prop} (hR : RS l G cy ad tt RX11 cX11_clear 3 0 Go) {out : Mem} (hT : RT cX11_clear none True out none Go) {v1 : Int} (qv1 : inR v1) : ∀ (n : Nat) (v2 : Int) (m : Mem), inR v2 → L11_clear_39 v1 n v2 m = some out → Go 39 [some (.ref (ad 83)), some (iv v1), some (iv v2)] [] m := by
  intro n
  induction n with
  | zero =>
    intro v2 m qv2 h
    cases h
  | succ n ih =>
    intro v2 m qv2 h
    rw [L11_clear_39] at h
    refine r_iload_n (pc := 39) hR (dc dt_X11_clear 27 rfl) rfl ?_
    refine r_bipush (pc := 40) hR (dc dt_X11_clear 28 rfl) (by decide) ?_
    refine r_icmp_ge (pc := 42) (tgt := 64) hR (dc dt_X11_clear 29 rfl) (by decide) qv2 (rg_c rfl) (fun hc => ?_) (fun hc => ?_)
    · replace h := ite_t hc h
      exact r_vret hT (dc dt_X11_clear 41 rfl) (Option.some.inj h)
    replace h := ite_f hc h
    refine r_aload_n (pc := 45) hR (dc dt_X11_clear 30 rfl) rfl ?_
    refine r_getr (pc := 46) (k2 := 89) hR (dc dt_X11_clear 31 rfl) fl_X11_26 tc_83 rfl ?_
    refine r_bipush (pc := 49) hR (dc dt_X11_clear 32 rfl) (by decide) ?_
    refine r_iload_n (pc := 51) hR (dc dt_X11_clear 33 rfl) rfl ?_
    refine r_imul (pc := 52) hR (dc dt_X11_clear 34 rfl) ?_
    refine r_iload_n (pc := 53) hR (dc dt_X11_clear 35 rfl) rfl ?_
    refine r_iadd (pc := 54) hR (dc dt_X11_clear 36 rfl) ?_
    refine r_bipush (pc := 55) hR (dc dt_X11_clear 37 rfl) (by decide) ?_
    obtain ⟨g1, h⟩ := gd_some h
    refine r_iast (pc := 57) hR (dc dt_X11_clear 38 rfl) tc_89 g1 (w32_in _) ?_
    replace h := stw_e h
    generalize wr m 89 (w32 ((w32 (16 * v1)) + v2)) 9 = m57 at h ⊢
    refine r_iinc (pc := 58) (L' := [some (.ref (ad 83)), some (iv v1), some (iv (w32 (v2 + 1)))]) hR (dc dt_X11_clear 39 rfl) rfl (by decide) rfl rfl ?_
    refine r_goto (pc := 61) (tgt := 39) hR (dc dt_X11_clear 40 rfl) (by decide) ?_
    exact ih (w32 (v2 + 1)) m57 (w32_in _) h
set_option maxRecDepth 100000 in
set_option maxHeartbeats 4000000 in
theorem ok_F11_clear {m : Mem}  {v1 : Int} (q1 : inR v1) {out : Mem} (h : F11_clear m v1 = some out) : CT l G cy ad tt yX11_clear cX11_clear 3 none 0 [.ref (ad 83), iv v1] m none True out := by
  refine CT_of (by decide) (Nat.le_of_ble_eq_true rfl) (fun Go hR hT => ?_)
  replace hR : RS l G cy ad tt RX11 cX11_clear 3 0 Go := hR
  show Go 0 [some (.ref (ad 83)), some (iv v1), none] [] m
  unfold F11_clear at h
  refine r_aload_n (pc := 0) hR (dc dt_X11_clear 0 rfl) rfl ?_
  refine r_getr (pc := 1) (k2 := 84) hR (dc dt_X11_clear 1 rfl) fl_X11_7 tc_83 rfl ?_
  refine r_iload_n (pc := 4) hR (dc dt_X11_clear 2 rfl) rfl ?_
  refine r_iconst (pc := 5) hR (dc dt_X11_clear 3 rfl) ?_
  obtain ⟨g1, h⟩ := gd_some h
  refine r_iast (pc := 6) hR (dc dt_X11_clear 4 rfl) tc_84 g1 q1 ?_
  replace h := stw_e h
  generalize wr m 84 v1 0 = m6 at h ⊢
  refine r_aload_n (pc := 7) hR (dc dt_X11_clear 5 rfl) rfl ?_
  refine r_getr (pc := 8) (k2 := 85) hR (dc dt_X11_clear 6 rfl) fl_X11_13 tc_83 rfl ?_
  refine r_iload_n (pc := 11) hR (dc dt_X11_clear 7 rfl) rfl ?_
  refine r_sipush (pc := 12) hR (dc dt_X11_clear 8 rfl) (by decide) ?_
  obtain ⟨g1, h⟩ := gd_some h
  refine r_iast (pc := 15) hR (dc dt_X11_clear 9 rfl) tc_85 g1 q1 ?_
  replace h := stw_e h
  generalize wr m6 85 v1 999 = m15 at h ⊢
  refine r_aload_n (pc := 16) hR (dc dt_X11_clear 10 rfl) rfl ?_
  refine r_getr (pc := 17) (k2 := 86) hR (dc dt_X11_clear 11 rfl) fl_X11_16 tc_83 rfl ?_
  refine r_iload_n (pc := 20) hR (dc dt_X11_clear 12 rfl) rfl ?_
  refine r_iconst (pc := 21) hR (dc dt_X11_clear 13 rfl) ?_
  obtain ⟨g1, h⟩ := gd_some h
  refine r_iast (pc := 22) hR (dc dt_X11_clear 14 rfl) tc_86 g1 q1 ?_
  replace h := stw_e h
  generalize wr m15 86 v1 (-1) = m22 at h ⊢
  refine r_aload_n (pc := 23) hR (dc dt_X11_clear 15 rfl) rfl ?_
  refine r_getr (pc := 24) (k2 := 87) hR (dc dt_X11_clear 16 rfl) fl_X11_19 tc_83 rfl ?_
  refine r_iload_n (pc := 27) hR (dc dt_X11_clear 17 rfl) rfl ?_
  refine r_iconst (pc := 28) hR (dc dt_X11_clear 18 rfl) ?_
  obtain ⟨g1, h⟩ := gd_some h
  refine r_zast (pc := 29) hR (dc dt_X11_clear 19 rfl) tc_87 g1 q1 (Or.inl rfl) ?_
  replace h := stw_e h
  generalize wr m22 87 v1 0 = m29 at h ⊢
  refine r_aload_n (pc := 30) hR (dc dt_X11_clear 20 rfl) rfl ?_
  refine r_getr (pc := 31) (k2 := 88) hR (dc dt_X11_clear 21 rfl) fl_X11_23 tc_83 rfl ?_
  refine r_iload_n (pc := 34) hR (dc dt_X11_clear 22 rfl) rfl ?_
  refine r_iconst (pc := 35) hR (dc dt_X11_clear 23 rfl) ?_
  obtain ⟨g1, h⟩ := gd_some h
  refine r_iast (pc := 36) hR (dc dt_X11_clear 24 rfl) tc_88 g1 q1 ?_
  replace h := stw_e h
  generalize wr m29 88 v1 (-1) = m36 at h ⊢
  refine r_iconst (pc := 37) hR (dc dt_X11_clear 25 rfl) ?_
  refine r_istore_n (pc := 38) (L' := [some (.ref (ad 83)), some (iv v1), some (iv 0)]) hR (dc dt_X11_clear 26 rfl) (by decide) rfl rfl ?_
  refine lp_L11_clear_39 hR hT q1 FU 0 m36 (rg_c rfl) h
def tb_X11_readClause : List (Nat × (Instr × Nat)) := [(0, (.aload_n 0, 1)), (1, (.invokevirtual 150, 3)), (4, (.bipush 97, 2)), (6, (.isub, 1)), (7, (.istore_n 3, 1)), (8, (.iload_n 3, 1)), (9, (.invokestatic 158, 3)), (12, (.ifCond .eq 12, 3)), (15, (.iload_n 2, 1)), (16, (.iload_n 3, 1)), (17, (.ishr, 1)), (18, (.iconst 1, 1)), (19, (.iand, 1)), (20, (.iconst 1, 1)), (21, (.if_icmp .ne 13, 3)), (24, (.aload_n 0, 1)), (25, (.aload_n 0, 1)), (26, (.getfield 144, 3)), (29, (.invokevirtual 154, 3)), (32, (.iload_n 2, 1)), (33, (.ireturn, 1)), (34, (.aload_n 0, 1)), (35, (.dup, 1)), (36, (.getfield 144, 3)), (39, (.iconst 1, 1)), (40, (.iadd, 1)), (41, (.putfield 144, 3)), (44, (.aload_n 0, 1)), (45, (.invokevirtual 150, 3)), (48, (.bipush 63, 2)), (50, (.if_icmp .ne 8, 3)), (53, (.bipush 9, 2)), (55, (.goto 10, 3)), (58, (.aload_n 0, 1)), (59, (.invokevirtual 150, 3)), (62, (.bipush 48, 2)), (64, (.isub, 1)), (65, (.istore 4, 2)), (67, (.iload 4, 2)), (69, (.invokestatic 162, 3)), (72, (.ifCond .eq 12, 3)), (75, (.aload_n 0, 1)), (76, (.invokevirtual 150, 3)), (79, (.bipush 57, 2)), (81, (.if_icmp .ne 13, 3)), (84, (.aload_n 0, 1)), (85, (.aload_n 0, 1)), (86, (.getfield 144, 3)), (89, (.invokevirtual 154, 3)), (92, (.iload_n 2, 1)), (93, (.ireturn, 1)), (94, (.aload_n 0, 1)), (95, (.getfield 26, 3)), (98, (.bipush 16, 2)), (100, (.iload_n 1, 1)), (101, (.imul, 1)), (102, (.iload_n 3, 1)), (103, (.iadd, 1)), (104, (.iload 4, 2)), (106, (.iastore, 1)), (107, (.aload_n 0, 1)), (108, (.dup, 1)), (109, (.getfield 144, 3)), (112, (.iconst 1, 1)), (113, (.iadd, 1)), (114, (.putfield 144, 3)), (117, (.iload_n 2, 1)), (118, (.iconst 1, 1)), (119, (.iload_n 3, 1)), (120, (.ishl, 1)), (121, (.ior, 1)), (122, (.ireturn, 1))]
set_option maxRecDepth 100000 in
theorem dt_X11_readClause : (tb_X11_readClause.all fun q => decide (decode cX11_readClause q.1 = .ok q.2)) = true := by decide +kernel
set_option maxRecDepth 100000 in
set_option maxHeartbeats 4000000 in
theorem ok_F11_readClause {m : Mem}  {v1 v2 : Int} (q1 : inR v1) (q2 : inR v2) {out : Int × Mem} (h : F11_readClause m v1 v2 = some out) : CT l G cy ad tt yX11_readClause cX11_readClause 5 (some .int) 2 [.ref (ad 83), iv v1, iv v2] m (some (iv out.1)) (inR out.1) out.2 := by
  refine CT_of (by decide) (Nat.le_of_ble_eq_true rfl) (fun Go hR hT => ?_)
  replace hR : RS l G cy ad tt RX11 cX11_readClause 5 2 Go := hR
  show Go 0 [some (.ref (ad 83)), some (iv v1), some (iv v2), none, none] [] m
  unfold F11_readClause at h
  refine r_aload_n (pc := 0) hR (dc dt_X11_readClause 0 rfl) rfl ?_
  obtain ⟨r1, e1, h⟩ := b1_some h
  refine r_callV (pc := 1) (rest := []) hR (dc dt_X11_readClause 1 rfl) cl_X11_150 tc_83 rfl (ok_F11_look  e1) (by decide) rfl (Nat.le_of_ble_eq_true rfl) rfl (fun q1r => ?_)
  show Go 4 [some (.ref (ad 83)), some (iv v1), some (iv v2), none, none] [iv r1] m
  refine r_bipush (pc := 4) hR (dc dt_X11_readClause 2 rfl) (by decide) ?_
  refine r_isub (pc := 6) hR (dc dt_X11_readClause 3 rfl) ?_
  refine r_istore_n (pc := 7) (L' := [some (.ref (ad 83)), some (iv v1), some (iv v2), some (iv (w32 (r1 - 97))), none]) hR (dc dt_X11_readClause 4 rfl) (by decide) rfl rfl ?_
  refine r_iload_n (pc := 8) hR (dc dt_X11_readClause 5 rfl) rfl ?_
  refine r_callS (pc := 9) (rest := []) hR (dc dt_X11_readClause 6 rfl) cl_X11_158 (ok_F11_isClause (w32_in _)) (by decide) rfl (Nat.le_of_ble_eq_true rfl) rfl (fun q9r => ?_)
  show Go 12 [some (.ref (ad 83)), some (iv v1), some (iv v2), some (iv (w32 (r1 - 97))), none] [iv (F11_isClause (w32 (r1 - 97)))] m
  refine jn_e h (fun (K : Option (Int × Mem)) => K = some out → Go 24 [some (.ref (ad 83)), none, some (iv v2), none, none] [] m) (fun h => ?_) (fun K24 J24 h => ?_)
  · refine r_aload_n (pc := 24) hR (dc dt_X11_readClause 15 rfl) rfl ?_
    refine r_aload_n (pc := 25) hR (dc dt_X11_readClause 16 rfl) rfl ?_
    refine r_geti (pc := 26) hR (dc dt_X11_readClause 17 rfl) fl_X11_144 tc_83 rfl ?_
    obtain ⟨m29, e29, h⟩ := b1_some h
    refine r_callV (pc := 29) (rest := []) hR (dc dt_X11_readClause 18 rfl) cl_X11_154 tc_83 rfl (ok_F11_wrong (rd_in _ _ _) e29) (by decide) rfl (Nat.le_of_ble_eq_true rfl) rfl (fun q29r => ?_)
    show Go 32 [some (.ref (ad 83)), none, some (iv v2), none, none] [] m29
    refine r_iload_n (pc := 32) hR (dc dt_X11_readClause 19 rfl) rfl ?_
    exact r_iret hT (dc dt_X11_readClause 20 rfl) (congrArg Prod.fst (Option.some.inj h)) (congrArg Prod.snd (Option.some.inj h)) q2
  refine r_if_eq (pc := 12) (tgt := 24) hR (dc dt_X11_readClause 7 rfl) (by decide) (inZ_R q9r) (fun hc => ?_) (fun hc => ?_)
  · replace h := ite_t hc h
    refine r_weak (L' := [some (.ref (ad 83)), none, some (iv v2), none, none]) hR ⟨Or.inr rfl, Or.inl rfl, Or.inr rfl, Or.inl rfl, Or.inr rfl, trivial⟩ ?_
    exact J24 h
  replace h := ite_f hc h
  refine r_iload_n (pc := 15) hR (dc dt_X11_readClause 8 rfl) rfl ?_
  refine r_iload_n (pc := 16) hR (dc dt_X11_readClause 9 rfl) rfl ?_
  refine r_ishr (pc := 17) hR (dc dt_X11_readClause 10 rfl) ?_
  refine r_iconst (pc := 18) hR (dc dt_X11_readClause 11 rfl) ?_
  refine r_iand (pc := 19) hR (dc dt_X11_readClause 12 rfl) ?_
  refine r_iconst (pc := 20) hR (dc dt_X11_readClause 13 rfl) ?_
  refine r_icmp_ne (pc := 21) (tgt := 34) hR (dc dt_X11_readClause 14 rfl) (by decide) (ti_in _) (rg_c rfl) (fun hc => ?_) (fun hc => ?_)
  · replace h := ite_t hc h
    refine r_aload_n (pc := 34) hR (dc dt_X11_readClause 21 rfl) rfl ?_
    refine r_dup (pc := 35) hR (dc dt_X11_readClause 22 rfl) rfl ?_
    refine r_geti (pc := 36) hR (dc dt_X11_readClause 23 rfl) fl_X11_144 tc_83 rfl ?_
    refine r_iconst (pc := 39) hR (dc dt_X11_readClause 24 rfl) ?_
    refine r_iadd (pc := 40) hR (dc dt_X11_readClause 25 rfl) ?_
    refine r_puti (pc := 41) hR (dc dt_X11_readClause 26 rfl) fl_X11_144 tc_83 rfl rfl rfl ?_
    replace h := stw_e h
    generalize wr m 83 11 (w32 ((rd m 83 11) + 1)) = m41 at h ⊢
    refine r_aload_n (pc := 44) hR (dc dt_X11_readClause 27 rfl) rfl ?_
    obtain ⟨r45, e45, h⟩ := b1_some h
    refine r_callV (pc := 45) (rest := []) hR (dc dt_X11_readClause 28 rfl) cl_X11_150 tc_83 rfl (ok_F11_look  e45) (by decide) rfl (Nat.le_of_ble_eq_true rfl) rfl (fun q45r => ?_)
    show Go 48 [some (.ref (ad 83)), some (iv v1), some (iv v2), some (iv (w32 (r1 - 97))), none] [iv r45] m41
    refine r_bipush (pc := 48) hR (dc dt_X11_readClause 29 rfl) (by decide) ?_
    refine jn_e h (fun (K : Int → Option (Int × Mem)) => ∀ (x65 : Int), inR x65 → K x65 = some out → Go 65 [some (.ref (ad 83)), some (iv v1), some (iv v2), some (iv (w32 (r1 - 97))), none] [iv x65] m41) (fun x65 qx65 h => ?_) (fun K65 J65 h => ?_)
    · refine r_istore (pc := 65) (L' := [some (.ref (ad 83)), some (iv v1), some (iv v2), some (iv (w32 (r1 - 97))), some (iv x65)]) hR (dc dt_X11_readClause 37 rfl) (by decide) rfl rfl ?_
      refine r_iload (pc := 67) hR (dc dt_X11_readClause 38 rfl) rfl ?_
      refine r_callS (pc := 69) (rest := []) hR (dc dt_X11_readClause 39 rfl) cl_X11_162 (ok_F11_isForm qx65) (by decide) rfl (Nat.le_of_ble_eq_true rfl) rfl (fun q69r => ?_)
      show Go 72 [some (.ref (ad 83)), some (iv v1), some (iv v2), some (iv (w32 (r1 - 97))), some (iv x65)] [iv (F11_isForm x65)] m41
      refine jn_e h (fun (K : Option (Int × Mem)) => K = some out → Go 84 [some (.ref (ad 83)), none, some (iv v2), none, none] [] m41) (fun h => ?_) (fun K84 J84 h => ?_)
      · refine r_aload_n (pc := 84) hR (dc dt_X11_readClause 45 rfl) rfl ?_
        refine r_aload_n (pc := 85) hR (dc dt_X11_readClause 46 rfl) rfl ?_
        refine r_geti (pc := 86) hR (dc dt_X11_readClause 47 rfl) fl_X11_144 tc_83 rfl ?_
        obtain ⟨m89, e89, h⟩ := b1_some h
        refine r_callV (pc := 89) (rest := []) hR (dc dt_X11_readClause 48 rfl) cl_X11_154 tc_83 rfl (ok_F11_wrong (rd_in _ _ _) e89) (by decide) rfl (Nat.le_of_ble_eq_true rfl) rfl (fun q89r => ?_)
        show Go 92 [some (.ref (ad 83)), none, some (iv v2), none, none] [] m89
        refine r_iload_n (pc := 92) hR (dc dt_X11_readClause 49 rfl) rfl ?_
        exact r_iret hT (dc dt_X11_readClause 50 rfl) (congrArg Prod.fst (Option.some.inj h)) (congrArg Prod.snd (Option.some.inj h)) q2
      refine r_if_eq (pc := 72) (tgt := 84) hR (dc dt_X11_readClause 40 rfl) (by decide) (inZ_R q69r) (fun hc => ?_) (fun hc => ?_)
      · replace h := ite_t hc h
        refine r_weak (L' := [some (.ref (ad 83)), none, some (iv v2), none, none]) hR ⟨Or.inr rfl, Or.inl rfl, Or.inr rfl, Or.inl rfl, Or.inl rfl, trivial⟩ ?_
        exact J84 h
      replace h := ite_f hc h
      refine r_aload_n (pc := 75) hR (dc dt_X11_readClause 41 rfl) rfl ?_
      obtain ⟨r76, e76, h⟩ := b1_some h
      refine r_callV (pc := 76) (rest := []) hR (dc dt_X11_readClause 42 rfl) cl_X11_150 tc_83 rfl (ok_F11_look  e76) (by decide) rfl (Nat.le_of_ble_eq_true rfl) rfl (fun q76r => ?_)
      show Go 79 [some (.ref (ad 83)), some (iv v1), some (iv v2), some (iv (w32 (r1 - 97))), some (iv x65)] [iv r76] m41
      refine r_bipush (pc := 79) hR (dc dt_X11_readClause 43 rfl) (by decide) ?_
      refine r_icmp_ne (pc := 81) (tgt := 94) hR (dc dt_X11_readClause 44 rfl) (by decide) q76r (rg_c rfl) (fun hc => ?_) (fun hc => ?_)
      · replace h := ite_t hc h
        refine r_aload_n (pc := 94) hR (dc dt_X11_readClause 51 rfl) rfl ?_
        refine r_getr (pc := 95) (k2 := 89) hR (dc dt_X11_readClause 52 rfl) fl_X11_26 tc_83 rfl ?_
        refine r_bipush (pc := 98) hR (dc dt_X11_readClause 53 rfl) (by decide) ?_
        refine r_iload_n (pc := 100) hR (dc dt_X11_readClause 54 rfl) rfl ?_
        refine r_imul (pc := 101) hR (dc dt_X11_readClause 55 rfl) ?_
        refine r_iload_n (pc := 102) hR (dc dt_X11_readClause 56 rfl) rfl ?_
        refine r_iadd (pc := 103) hR (dc dt_X11_readClause 57 rfl) ?_
        refine r_iload (pc := 104) hR (dc dt_X11_readClause 58 rfl) rfl ?_
        obtain ⟨g1, h⟩ := gd_some h
        refine r_iast (pc := 106) hR (dc dt_X11_readClause 59 rfl) tc_89 g1 (w32_in _) ?_
        replace h := stw_e h
        generalize wr m41 89 (w32 ((w32 (16 * v1)) + (w32 (r1 - 97)))) x65 = m106 at h ⊢
        refine r_aload_n (pc := 107) hR (dc dt_X11_readClause 60 rfl) rfl ?_
        refine r_dup (pc := 108) hR (dc dt_X11_readClause 61 rfl) rfl ?_
        refine r_geti (pc := 109) hR (dc dt_X11_readClause 62 rfl) fl_X11_144 tc_83 rfl ?_
        refine r_iconst (pc := 112) hR (dc dt_X11_readClause 63 rfl) ?_
        refine r_iadd (pc := 113) hR (dc dt_X11_readClause 64 rfl) ?_
        refine r_puti (pc := 114) hR (dc dt_X11_readClause 65 rfl) fl_X11_144 tc_83 rfl rfl rfl ?_
        replace h := stw_e h
        generalize wr m106 83 11 (w32 ((rd m106 83 11) + 1)) = m114 at h ⊢
        refine r_iload_n (pc := 117) hR (dc dt_X11_readClause 66 rfl) rfl ?_
        refine r_iconst (pc := 118) hR (dc dt_X11_readClause 67 rfl) ?_
        refine r_iload_n (pc := 119) hR (dc dt_X11_readClause 68 rfl) rfl ?_
        refine r_ishl (pc := 120) hR (dc dt_X11_readClause 69 rfl) ?_
        refine r_ior (pc := 121) hR (dc dt_X11_readClause 70 rfl) ?_
        exact r_iret hT (dc dt_X11_readClause 71 rfl) (congrArg Prod.fst (Option.some.inj h)) (congrArg Prod.snd (Option.some.inj h)) (ti_in _)
      replace h := ite_f hc h
      refine r_weak (L' := [some (.ref (ad 83)), none, some (iv v2), none, none]) hR ⟨Or.inr rfl, Or.inl rfl, Or.inr rfl, Or.inl rfl, Or.inl rfl, trivial⟩ ?_
      exact J84 h
    refine r_icmp_ne (pc := 50) (tgt := 58) hR (dc dt_X11_readClause 30 rfl) (by decide) q45r (rg_c rfl) (fun hc => ?_) (fun hc => ?_)
    · replace h := ite_t hc h
      refine r_aload_n (pc := 58) hR (dc dt_X11_readClause 33 rfl) rfl ?_
      obtain ⟨r59, e59, h⟩ := b1_some h
      refine r_callV (pc := 59) (rest := []) hR (dc dt_X11_readClause 34 rfl) cl_X11_150 tc_83 rfl (ok_F11_look  e59) (by decide) rfl (Nat.le_of_ble_eq_true rfl) rfl (fun q59r => ?_)
      show Go 62 [some (.ref (ad 83)), some (iv v1), some (iv v2), some (iv (w32 (r1 - 97))), none] [iv r59] m41
      refine r_bipush (pc := 62) hR (dc dt_X11_readClause 35 rfl) (by decide) ?_
      refine r_isub (pc := 64) hR (dc dt_X11_readClause 36 rfl) ?_
      exact J65 (w32 (r59 - 48)) (w32_in _) h
    replace h := ite_f hc h
    refine r_bipush (pc := 53) hR (dc dt_X11_readClause 31 rfl) (by decide) ?_
    refine r_goto (pc := 55) (tgt := 65) hR (dc dt_X11_readClause 32 rfl) (by decide) ?_
    exact J65 9 (rg_c rfl) h
  replace h := ite_f hc h
  refine r_weak (L' := [some (.ref (ad 83)), none, some (iv v2), none, none]) hR ⟨Or.inr rfl, Or.inl rfl, Or.inr rfl, Or.inl rfl, Or.inr rfl, trivial⟩ ?_
  exact J24 h
def tb_X11_readAll : List (Nat × (Instr × Nat)) := [(0, (.aload_n 0, 1)), (1, (.getfield 7, 3)), (4, (.iload_n 1, 1)), (5, (.aload_n 0, 1)), (6, (.iconst 3, 1)), (7, (.invokevirtual 165, 3)), (10, (.iastore, 1)), (11, (.aload_n 0, 1)), (12, (.getfield 13, 3)), (15, (.iload_n 1, 1)), (16, (.aload_n 0, 1)), (17, (.getfield 7, 3)), (20, (.iload_n 1, 1)), (21, (.iaload, 1)), (22, (.iastore, 1)), (23, (.aload_n 0, 1)), (24, (.getfield 147, 3)), (27, (.ifCond .ge 55, 3)), (30, (.aload_n 0, 1)), (31, (.bipush 45, 2)), (33, (.invokevirtual 169, 3)), (36, (.ifCond .eq 46, 3)), (39, (.aload_n 0, 1)), (40, (.getfield 144, 3)), (43, (.istore_n 2, 1)), (44, (.aload_n 0, 1)), (45, (.getfield 13, 3)), (48, (.iload_n 1, 1)), (49, (.aload_n 0, 1)), (50, (.iconst 3, 1)), (51, (.invokevirtual 165, 3)), (54, (.iastore, 1)), (55, (.aload_n 0, 1)), (56, (.getfield 147, 3)), (59, (.ifCond .ge 23, 3)), (62, (.aload_n 0, 1)), (63, (.getfield 13, 3)), (66, (.iload_n 1, 1)), (67, (.iaload, 1)), (68, (.aload_n 0, 1)), (69, (.getfield 7, 3)), (72, (.iload_n 1, 1)), (73, (.iaload, 1)), (74, (.if_icmp .ge 8, 3)), (77, (.aload_n 0, 1)), (78, (.iload_n 2, 1)), (79, (.invokevirtual 154, 3)), (82, (.iconst 0, 1)), (83, (.istore_n 2, 1)), (84, (.aload_n 0, 1)), (85, (.getfield 147, 3)), (88, (.ifCond .ge 22, 3)), (91, (.aload_n 0, 1)), (92, (.bipush 44, 2)), (94, (.invokevirtual 169, 3)), (97, (.ifCond .eq 13, 3)), (100, (.aload_n 0, 1)), (101, (.iload_n 1, 1)), (102, (.iload_n 2, 1)), (103, (.invokevirtual 172, 3)), (106, (.istore_n 2, 1)), (107, (.goto (-23), 3)), (110, (.aload_n 0, 1)), (111, (.getfield 147, 3)), (114, (.ifCond .ge 50, 3)), (117, (.aload_n 0, 1)), (118, (.bipush 60, 2)), (120, (.invokevirtual 169, 3)), (123, (.ifCond .eq 41, 3)), (126, (.aload_n 0, 1)), (127, (.getfield 144, 3)), (130, (.istore_n 3, 1)), (131, (.aload_n 0, 1)), (132, (.getfield 16, 3)), (135, (.iload_n 1, 1)), (136, (.aload_n 0, 1)), (137, (.iconst 2, 1)), (138, (.invokevirtual 165, 3)), (141, (.iastore, 1)), (142, (.aload_n 0, 1)), (143, (.getfield 147, 3)), (146, (.ifCond .ge 18, 3)), (149, (.aload_n 0, 1)), (150, (.getfield 16, 3)), (153, (.iload_n 1, 1)), (154, (.iaload, 1)), (155, (.iload_n 1, 1)), (156, (.if_icmp .lt 8, 3)), (159, (.aload_n 0, 1)), (160, (.iload_n 3, 1)), (161, (.invokevirtual 154, 3)), (164, (.aload_n 0, 1)), (165, (.getfield 147, 3)), (168, (.ifCond .ge 22, 3)), (171, (.aload_n 0, 1)), (172, (.getfield 144, 3)), (175, (.aload_n 0, 1)), (176, (.getfield 141, 3)), (179, (.if_icmp .ge 11, 3)), (182, (.aload_n 0, 1)), (183, (.aload_n 0, 1)), (184, (.getfield 144, 3)), (187, (.invokevirtual 154, 3)), (190, (.return_, 1))]
set_option maxRecDepth 100000 in
theorem dt_X11_readAll : (tb_X11_readAll.all fun q => decide (decode cX11_readAll q.1 = .ok q.2)) = true := by decide +kernel
set_option maxRecDepth 100000 in
set_option maxHeartbeats 4000000 in
theorem lp_L11_readAll_84 {Go : Nat → List (Option Value) → List Value → Mem → Prop} (hR : RS l G cy ad tt RX11 cX11_readAll 4 3 Go) {out : Mem} (hT : RT cX11_readAll none True out none Go) {v1 : Int} (qv1 : inR v1) {k110 : Mem → Option Mem} (hk110 : ∀ (m : Mem), k110 m = some out → Go 110 [some (.ref (ad 83)), some (iv v1), none, none] [] m) : ∀ (n : Nat) (v2 : Int) (m : Mem), inR v2 → L11_readAll_84 v1 k110 n v2 m = some out → Go 84 [some (.ref (ad 83)), some (iv v1), some (iv v2), none] [] m := by
  intro n
  induction n with
  | zero =>
    intro v2 m qv2 h
    cases h
  | succ n ih =>
    intro v2 m qv2 h
    rw [L11_readAll_84] at h
    refine r_aload_n (pc := 84) hR (dc dt_X11_readAll 49 rfl) rfl ?_
    refine r_geti (pc := 85) hR (dc dt_X11_readAll 50 rfl) fl_X11_147 tc_83 rfl ?_
    refine r_if_ge (pc := 88) (tgt := 110) hR (dc dt_X11_readAll 51 rfl) (by decide) (rd_in _ _ _) (fun hc => ?_) (fun hc => ?_)
    · replace h := ite_t hc h
      refine r_weak (L' := [some (.ref (ad 83)), some (iv v1), none, none]) hR ⟨Or.inr rfl, Or.inr rfl, Or.inl rfl, Or.inr rfl, trivial⟩ ?_
      exact hk110 m h
    replace h := ite_f hc h
    refine r_aload_n (pc := 91) hR (dc dt_X11_readAll 52 rfl) rfl ?_
    refine r_bipush (pc := 92) hR (dc dt_X11_readAll 53 rfl) (by decide) ?_
    obtain ⟨r94, m94, e94, h⟩ := b2_some h
    refine r_callV (pc := 94) (rest := []) hR (dc dt_X11_readAll 54 rfl) cl_X11_169 tc_83 rfl (ok_F11_isNext (rg_c rfl) e94) (by decide) rfl (Nat.le_of_ble_eq_true rfl) rfl (fun q94r => ?_)
    show Go 97 [some (.ref (ad 83)), some (iv v1), some (iv v2), none] [iv r94] m94
    refine r_if_eq (pc := 97) (tgt := 110) hR (dc dt_X11_readAll 55 rfl) (by decide) (inZ_R q94r) (fun hc => ?_) (fun hc => ?_)
    · replace h := ite_t hc h
      refine r_weak (L' := [some (.ref (ad 83)), some (iv v1), none, none]) hR ⟨Or.inr rfl, Or.inr rfl, Or.inl rfl, Or.inr rfl, trivial⟩ ?_
      exact hk110 m94 h
    replace h := ite_f hc h
    refine r_aload_n (pc := 100) hR (dc dt_X11_readAll 56 rfl) rfl ?_
    refine r_iload_n (pc := 101) hR (dc dt_X11_readAll 57 rfl) rfl ?_
    refine r_iload_n (pc := 102) hR (dc dt_X11_readAll 58 rfl) rfl ?_
    obtain ⟨r103, m103, e103, h⟩ := b2_some h
    refine r_callV (pc := 103) (rest := []) hR (dc dt_X11_readAll 59 rfl) cl_X11_172 tc_83 rfl (ok_F11_readClause qv1 qv2 e103) (by decide) rfl (Nat.le_of_ble_eq_true rfl) rfl (fun q103r => ?_)
    show Go 106 [some (.ref (ad 83)), some (iv v1), some (iv v2), none] [iv r103] m103
    refine r_istore_n (pc := 106) (L' := [some (.ref (ad 83)), some (iv v1), some (iv r103), none]) hR (dc dt_X11_readAll 60 rfl) (by decide) rfl rfl ?_
    refine r_goto (pc := 107) (tgt := 84) hR (dc dt_X11_readAll 61 rfl) (by decide) ?_
    exact ih r103 m103 q103r h
set_option maxRecDepth 100000 in
set_option maxHeartbeats 4000000 in
theorem ok_F11_readAll {m : Mem}  {v1 : Int} (q1 : inR v1) {out : Mem} (h : F11_readAll m v1 = some out) : CT l G cy ad tt yX11_readAll cX11_readAll 4 none 3 [.ref (ad 83), iv v1] m none True out := by
  refine CT_of (by decide) (Nat.le_of_ble_eq_true rfl) (fun Go hR hT => ?_)
  replace hR : RS l G cy ad tt RX11 cX11_readAll 4 3 Go := hR
  show Go 0 [some (.ref (ad 83)), some (iv v1), none, none] [] m
  unfold F11_readAll at h
  refine r_aload_n (pc := 0) hR (dc dt_X11_readAll 0 rfl) rfl ?_
  refine r_getr (pc := 1) (k2 := 84) hR (dc dt_X11_readAll 1 rfl) fl_X11_7 tc_83 rfl ?_
  refine r_iload_n (pc := 4) hR (dc dt_X11_readAll 2 rfl) rfl ?_
  refine r_aload_n (pc := 5) hR (dc dt_X11_readAll 3 rfl) rfl ?_
  refine r_iconst (pc := 6) hR (dc dt_X11_readAll 4 rfl) ?_
  obtain ⟨r7, m7, e7, h⟩ := b2_some h
  refine r_callV (pc := 7) (rest := [iv v1, .ref (ad 84)]) hR (dc dt_X11_readAll 5 rfl) cl_X11_165 tc_83 rfl (ok_F11_number (rg_c rfl) e7) (by decide) rfl (Nat.le_of_ble_eq_true rfl) rfl (fun q7r => ?_)
  show Go 10 [some (.ref (ad 83)), some (iv v1), none, none] [iv r7, iv v1, .ref (ad 84)] m7
  obtain ⟨g1, h⟩ := gd_some h
  refine r_iast (pc := 10) hR (dc dt_X11_readAll 6 rfl) tc_84 g1 q1 ?_
  replace h := stw_e h
  generalize wr m7 84 v1 r7 = m10 at h ⊢
  refine r_aload_n (pc := 11) hR (dc dt_X11_readAll 7 rfl) rfl ?_
  refine r_getr (pc := 12) (k2 := 85) hR (dc dt_X11_readAll 8 rfl) fl_X11_13 tc_83 rfl ?_
  refine r_iload_n (pc := 15) hR (dc dt_X11_readAll 9 rfl) rfl ?_
  refine r_aload_n (pc := 16) hR (dc dt_X11_readAll 10 rfl) rfl ?_
  refine r_getr (pc := 17) (k2 := 84) hR (dc dt_X11_readAll 11 rfl) fl_X11_7 tc_83 rfl ?_
  refine r_iload_n (pc := 20) hR (dc dt_X11_readAll 12 rfl) rfl ?_
  obtain ⟨g1, h⟩ := gd_some h
  refine r_iald (pc := 21) hR (dc dt_X11_readAll 13 rfl) tc_84 g1 q1 ?_
  obtain ⟨g1, h⟩ := gd_some h
  refine r_iast (pc := 22) hR (dc dt_X11_readAll 14 rfl) tc_85 g1 q1 ?_
  replace h := stw_e h
  generalize wr m10 85 v1 (rd m10 84 v1) = m22 at h ⊢
  refine r_aload_n (pc := 23) hR (dc dt_X11_readAll 15 rfl) rfl ?_
  refine r_geti (pc := 24) hR (dc dt_X11_readAll 16 rfl) fl_X11_147 tc_83 rfl ?_
  refine jn_e h (fun (K : Mem → Option Mem) => ∀ (m_82 : Mem), K m_82 = some out → Go 82 [some (.ref (ad 83)), some (iv v1), none, none] [] m_82) (fun m_82 h => ?_) (fun K82 J82 h => ?_)
  · refine r_iconst (pc := 82) hR (dc dt_X11_readAll 47 rfl) ?_
    refine r_istore_n (pc := 83) (L' := [some (.ref (ad 83)), some (iv v1), some (iv 0), none]) hR (dc dt_X11_readAll 48 rfl) (by decide) rfl rfl ?_
    refine lp_L11_readAll_84 hR hT q1 (fun m_110 h => ?_) FU 0 m_82 (rg_c rfl) h
    show Go 110 [some (.ref (ad 83)), some (iv v1), none, none] [] m_110
    refine r_aload_n (pc := 110) hR (dc dt_X11_readAll 62 rfl) rfl ?_
    refine r_geti (pc := 111) hR (dc dt_X11_readAll 63 rfl) fl_X11_147 tc_83 rfl ?_
    refine jn_e h (fun (K : Mem → Option Mem) => ∀ (m_164 : Mem), K m_164 = some out → Go 164 [some (.ref (ad 83)), none, none, none] [] m_164) (fun m_164 h => ?_) (fun K164 J164 h => ?_)
    · refine r_aload_n (pc := 164) hR (dc dt_X11_readAll 91 rfl) rfl ?_
      refine r_geti (pc := 165) hR (dc dt_X11_readAll 92 rfl) fl_X11_147 tc_83 rfl ?_
      refine r_if_ge (pc := 168) (tgt := 190) hR (dc dt_X11_readAll 93 rfl) (by decide) (rd_in _ _ _) (fun hc => ?_) (fun hc => ?_)
      · replace h := ite_t hc h
        exact r_vret hT (dc dt_X11_readAll 103 rfl) (Option.some.inj h)
      replace h := ite_f hc h
      refine r_aload_n (pc := 171) hR (dc dt_X11_readAll 94 rfl) rfl ?_
      refine r_geti (pc := 172) hR (dc dt_X11_readAll 95 rfl) fl_X11_144 tc_83 rfl ?_
      refine r_aload_n (pc := 175) hR (dc dt_X11_readAll 96 rfl) rfl ?_
      refine r_geti (pc := 176) hR (dc dt_X11_readAll 97 rfl) fl_X11_141 tc_83 rfl ?_
      refine r_icmp_ge (pc := 179) (tgt := 190) hR (dc dt_X11_readAll 98 rfl) (by decide) (rd_in _ _ _) (rd_in _ _ _) (fun hc => ?_) (fun hc => ?_)
      · replace h := ite_t hc h
        exact r_vret hT (dc dt_X11_readAll 103 rfl) (Option.some.inj h)
      replace h := ite_f hc h
      refine r_aload_n (pc := 182) hR (dc dt_X11_readAll 99 rfl) rfl ?_
      refine r_aload_n (pc := 183) hR (dc dt_X11_readAll 100 rfl) rfl ?_
      refine r_geti (pc := 184) hR (dc dt_X11_readAll 101 rfl) fl_X11_144 tc_83 rfl ?_
      obtain ⟨m187, e187, h⟩ := b1_some h
      refine r_callV (pc := 187) (rest := []) hR (dc dt_X11_readAll 102 rfl) cl_X11_154 tc_83 rfl (ok_F11_wrong (rd_in _ _ _) e187) (by decide) rfl (Nat.le_of_ble_eq_true rfl) rfl (fun q187r => ?_)
      show Go 190 [some (.ref (ad 83)), none, none, none] [] m187
      exact r_vret hT (dc dt_X11_readAll 103 rfl) (Option.some.inj h)
    refine r_if_ge (pc := 114) (tgt := 164) hR (dc dt_X11_readAll 64 rfl) (by decide) (rd_in _ _ _) (fun hc => ?_) (fun hc => ?_)
    · replace h := ite_t hc h
      refine r_weak (L' := [some (.ref (ad 83)), none, none, none]) hR ⟨Or.inr rfl, Or.inl rfl, Or.inr rfl, Or.inr rfl, trivial⟩ ?_
      exact J164 m_110 h
    replace h := ite_f hc h
    refine r_aload_n (pc := 117) hR (dc dt_X11_readAll 65 rfl) rfl ?_
    refine r_bipush (pc := 118) hR (dc dt_X11_readAll 66 rfl) (by decide) ?_
    obtain ⟨r120, m120, e120, h⟩ := b2_some h
    refine r_callV (pc := 120) (rest := []) hR (dc dt_X11_readAll 67 rfl) cl_X11_169 tc_83 rfl (ok_F11_isNext (rg_c rfl) e120) (by decide) rfl (Nat.le_of_ble_eq_true rfl) rfl (fun q120r => ?_)
    show Go 123 [some (.ref (ad 83)), some (iv v1), none, none] [iv r120] m120
    refine r_if_eq (pc := 123) (tgt := 164) hR (dc dt_X11_readAll 68 rfl) (by decide) (inZ_R q120r) (fun hc => ?_) (fun hc => ?_)
    · replace h := ite_t hc h
      refine r_weak (L' := [some (.ref (ad 83)), none, none, none]) hR ⟨Or.inr rfl, Or.inl rfl, Or.inr rfl, Or.inr rfl, trivial⟩ ?_
      exact J164 m120 h
    replace h := ite_f hc h
    refine r_aload_n (pc := 126) hR (dc dt_X11_readAll 69 rfl) rfl ?_
    refine r_geti (pc := 127) hR (dc dt_X11_readAll 70 rfl) fl_X11_144 tc_83 rfl ?_
    refine r_istore_n (pc := 130) (L' := [some (.ref (ad 83)), some (iv v1), none, some (iv (rd m120 83 11))]) hR (dc dt_X11_readAll 71 rfl) (by decide) rfl rfl ?_
    refine r_aload_n (pc := 131) hR (dc dt_X11_readAll 72 rfl) rfl ?_
    refine r_getr (pc := 132) (k2 := 86) hR (dc dt_X11_readAll 73 rfl) fl_X11_16 tc_83 rfl ?_
    refine r_iload_n (pc := 135) hR (dc dt_X11_readAll 74 rfl) rfl ?_
    refine r_aload_n (pc := 136) hR (dc dt_X11_readAll 75 rfl) rfl ?_
    refine r_iconst (pc := 137) hR (dc dt_X11_readAll 76 rfl) ?_
    obtain ⟨r138, m138, e138, h⟩ := b2_some h
    refine r_callV (pc := 138) (rest := [iv v1, .ref (ad 86)]) hR (dc dt_X11_readAll 77 rfl) cl_X11_165 tc_83 rfl (ok_F11_number (rg_c rfl) e138) (by decide) rfl (Nat.le_of_ble_eq_true rfl) rfl (fun q138r => ?_)
    show Go 141 [some (.ref (ad 83)), some (iv v1), none, some (iv (rd m120 83 11))] [iv r138, iv v1, .ref (ad 86)] m138
    obtain ⟨g1, h⟩ := gd_some h
    refine r_iast (pc := 141) hR (dc dt_X11_readAll 78 rfl) tc_86 g1 q1 ?_
    replace h := stw_e h
    generalize wr m138 86 v1 r138 = m141 at h ⊢
    refine r_aload_n (pc := 142) hR (dc dt_X11_readAll 79 rfl) rfl ?_
    refine r_geti (pc := 143) hR (dc dt_X11_readAll 80 rfl) fl_X11_147 tc_83 rfl ?_
    refine r_if_ge (pc := 146) (tgt := 164) hR (dc dt_X11_readAll 81 rfl) (by decide) (rd_in _ _ _) (fun hc => ?_) (fun hc => ?_)
    · replace h := ite_t hc h
      refine r_weak (L' := [some (.ref (ad 83)), none, none, none]) hR ⟨Or.inr rfl, Or.inl rfl, Or.inr rfl, Or.inl rfl, trivial⟩ ?_
      exact J164 m141 h
    replace h := ite_f hc h
    refine r_aload_n (pc := 149) hR (dc dt_X11_readAll 82 rfl) rfl ?_
    refine r_getr (pc := 150) (k2 := 86) hR (dc dt_X11_readAll 83 rfl) fl_X11_16 tc_83 rfl ?_
    refine r_iload_n (pc := 153) hR (dc dt_X11_readAll 84 rfl) rfl ?_
    obtain ⟨g1, h⟩ := gd_some h
    refine r_iald (pc := 154) hR (dc dt_X11_readAll 85 rfl) tc_86 g1 q1 ?_
    refine r_iload_n (pc := 155) hR (dc dt_X11_readAll 86 rfl) rfl ?_
    refine r_icmp_lt (pc := 156) (tgt := 164) hR (dc dt_X11_readAll 87 rfl) (by decide) (rd_in _ _ _) q1 (fun hc => ?_) (fun hc => ?_)
    · replace h := ite_t hc h
      refine r_weak (L' := [some (.ref (ad 83)), none, none, none]) hR ⟨Or.inr rfl, Or.inl rfl, Or.inr rfl, Or.inl rfl, trivial⟩ ?_
      exact J164 m141 h
    replace h := ite_f hc h
    refine r_aload_n (pc := 159) hR (dc dt_X11_readAll 88 rfl) rfl ?_
    refine r_iload_n (pc := 160) hR (dc dt_X11_readAll 89 rfl) rfl ?_
    obtain ⟨m161, e161, h⟩ := b1_some h
    refine r_callV (pc := 161) (rest := []) hR (dc dt_X11_readAll 90 rfl) cl_X11_154 tc_83 rfl (ok_F11_wrong (rd_in _ _ _) e161) (by decide) rfl (Nat.le_of_ble_eq_true rfl) rfl (fun q161r => ?_)
    show Go 164 [some (.ref (ad 83)), some (iv v1), none, some (iv (rd m120 83 11))] [] m161
    refine r_weak (L' := [some (.ref (ad 83)), none, none, none]) hR ⟨Or.inr rfl, Or.inl rfl, Or.inr rfl, Or.inl rfl, trivial⟩ ?_
    exact J164 m161 h
  refine r_if_ge (pc := 27) (tgt := 82) hR (dc dt_X11_readAll 17 rfl) (by decide) (rd_in _ _ _) (fun hc => ?_) (fun hc => ?_)
  · replace h := ite_t hc h
    exact J82 m22 h
  replace h := ite_f hc h
  refine r_aload_n (pc := 30) hR (dc dt_X11_readAll 18 rfl) rfl ?_
  refine r_bipush (pc := 31) hR (dc dt_X11_readAll 19 rfl) (by decide) ?_
  obtain ⟨r33, m33, e33, h⟩ := b2_some h
  refine r_callV (pc := 33) (rest := []) hR (dc dt_X11_readAll 20 rfl) cl_X11_169 tc_83 rfl (ok_F11_isNext (rg_c rfl) e33) (by decide) rfl (Nat.le_of_ble_eq_true rfl) rfl (fun q33r => ?_)
  show Go 36 [some (.ref (ad 83)), some (iv v1), none, none] [iv r33] m33
  refine r_if_eq (pc := 36) (tgt := 82) hR (dc dt_X11_readAll 21 rfl) (by decide) (inZ_R q33r) (fun hc => ?_) (fun hc => ?_)
  · replace h := ite_t hc h
    exact J82 m33 h
  replace h := ite_f hc h
  refine r_aload_n (pc := 39) hR (dc dt_X11_readAll 22 rfl) rfl ?_
  refine r_geti (pc := 40) hR (dc dt_X11_readAll 23 rfl) fl_X11_144 tc_83 rfl ?_
  refine r_istore_n (pc := 43) (L' := [some (.ref (ad 83)), some (iv v1), some (iv (rd m33 83 11)), none]) hR (dc dt_X11_readAll 24 rfl) (by decide) rfl rfl ?_
  refine r_aload_n (pc := 44) hR (dc dt_X11_readAll 25 rfl) rfl ?_
  refine r_getr (pc := 45) (k2 := 85) hR (dc dt_X11_readAll 26 rfl) fl_X11_13 tc_83 rfl ?_
  refine r_iload_n (pc := 48) hR (dc dt_X11_readAll 27 rfl) rfl ?_
  refine r_aload_n (pc := 49) hR (dc dt_X11_readAll 28 rfl) rfl ?_
  refine r_iconst (pc := 50) hR (dc dt_X11_readAll 29 rfl) ?_
  obtain ⟨r51, m51, e51, h⟩ := b2_some h
  refine r_callV (pc := 51) (rest := [iv v1, .ref (ad 85)]) hR (dc dt_X11_readAll 30 rfl) cl_X11_165 tc_83 rfl (ok_F11_number (rg_c rfl) e51) (by decide) rfl (Nat.le_of_ble_eq_true rfl) rfl (fun q51r => ?_)
  show Go 54 [some (.ref (ad 83)), some (iv v1), some (iv (rd m33 83 11)), none] [iv r51, iv v1, .ref (ad 85)] m51
  obtain ⟨g1, h⟩ := gd_some h
  refine r_iast (pc := 54) hR (dc dt_X11_readAll 31 rfl) tc_85 g1 q1 ?_
  replace h := stw_e h
  generalize wr m51 85 v1 r51 = m54 at h ⊢
  refine r_aload_n (pc := 55) hR (dc dt_X11_readAll 32 rfl) rfl ?_
  refine r_geti (pc := 56) hR (dc dt_X11_readAll 33 rfl) fl_X11_147 tc_83 rfl ?_
  refine r_if_ge (pc := 59) (tgt := 82) hR (dc dt_X11_readAll 34 rfl) (by decide) (rd_in _ _ _) (fun hc => ?_) (fun hc => ?_)
  · replace h := ite_t hc h
    refine r_weak (L' := [some (.ref (ad 83)), some (iv v1), none, none]) hR ⟨Or.inr rfl, Or.inr rfl, Or.inl rfl, Or.inr rfl, trivial⟩ ?_
    exact J82 m54 h
  replace h := ite_f hc h
  refine r_aload_n (pc := 62) hR (dc dt_X11_readAll 35 rfl) rfl ?_
  refine r_getr (pc := 63) (k2 := 85) hR (dc dt_X11_readAll 36 rfl) fl_X11_13 tc_83 rfl ?_
  refine r_iload_n (pc := 66) hR (dc dt_X11_readAll 37 rfl) rfl ?_
  obtain ⟨g1, h⟩ := gd_some h
  refine r_iald (pc := 67) hR (dc dt_X11_readAll 38 rfl) tc_85 g1 q1 ?_
  refine r_aload_n (pc := 68) hR (dc dt_X11_readAll 39 rfl) rfl ?_
  refine r_getr (pc := 69) (k2 := 84) hR (dc dt_X11_readAll 40 rfl) fl_X11_7 tc_83 rfl ?_
  refine r_iload_n (pc := 72) hR (dc dt_X11_readAll 41 rfl) rfl ?_
  obtain ⟨g1, h⟩ := gd_some h
  refine r_iald (pc := 73) hR (dc dt_X11_readAll 42 rfl) tc_84 g1 q1 ?_
  refine r_icmp_ge (pc := 74) (tgt := 82) hR (dc dt_X11_readAll 43 rfl) (by decide) (rd_in _ _ _) (rd_in _ _ _) (fun hc => ?_) (fun hc => ?_)
  · replace h := ite_t hc h
    refine r_weak (L' := [some (.ref (ad 83)), some (iv v1), none, none]) hR ⟨Or.inr rfl, Or.inr rfl, Or.inl rfl, Or.inr rfl, trivial⟩ ?_
    exact J82 m54 h
  replace h := ite_f hc h
  refine r_aload_n (pc := 77) hR (dc dt_X11_readAll 44 rfl) rfl ?_
  refine r_iload_n (pc := 78) hR (dc dt_X11_readAll 45 rfl) rfl ?_
  obtain ⟨m79, e79, h⟩ := b1_some h
  refine r_callV (pc := 79) (rest := []) hR (dc dt_X11_readAll 46 rfl) cl_X11_154 tc_83 rfl (ok_F11_wrong (rd_in _ _ _) e79) (by decide) rfl (Nat.le_of_ble_eq_true rfl) rfl (fun q79r => ?_)
  show Go 82 [some (.ref (ad 83)), some (iv v1), some (iv (rd m33 83 11)), none] [] m79
  refine r_weak (L' := [some (.ref (ad 83)), some (iv v1), none, none]) hR ⟨Or.inr rfl, Or.inr rfl, Or.inl rfl, Or.inr rfl, trivial⟩ ?_
  exact J82 m79 h
def tb_X11_charter : List (Nat × (Instr × Nat)) := [(0, (.aload_n 0, 1)), (1, (.getfield 138, 3)), (4, (.bipush 12, 2)), (6, (.if_icmp .ne 6, 3)), (9, (.bipush (-3), 2)), (11, (.ireturn, 1)), (12, (.aload_n 0, 1)), (13, (.aload_n 0, 1)), (14, (.getfield 138, 3)), (17, (.invokevirtual 176, 3)), (20, (.aload_n 0, 1)), (21, (.iconst 0, 1)), (22, (.putfield 144, 3)), (25, (.aload_n 0, 1)), (26, (.iconst (-1), 1)), (27, (.putfield 147, 3)), (30, (.aload_n 0, 1)), (31, (.aload_n 0, 1)), (32, (.getfield 138, 3)), (35, (.invokevirtual 179, 3)), (38, (.aload_n 0, 1)), (39, (.iconst 0, 1)), (40, (.putfield 141, 3)), (43, (.aload_n 0, 1)), (44, (.getfield 147, 3)), (47, (.ifCond .lt 11, 3)), (50, (.bipush (-100), 2)), (52, (.aload_n 0, 1)), (53, (.getfield 147, 3)), (56, (.isub, 1)), (57, (.ireturn, 1)), (58, (.aload_n 0, 1)), (59, (.dup, 1)), (60, (.getfield 138, 3)), (63, (.iconst 1, 1)), (64, (.iadd, 1)), (65, (.putfield 138, 3)), (68, (.aload_n 0, 1)), (69, (.getfield 138, 3)), (72, (.iconst 1, 1)), (73, (.isub, 1)), (74, (.ireturn, 1))]
set_option maxRecDepth 100000 in
theorem dt_X11_charter : (tb_X11_charter.all fun q => decide (decode cX11_charter q.1 = .ok q.2)) = true := by decide +kernel
set_option maxRecDepth 100000 in
set_option maxHeartbeats 4000000 in
theorem ok_F11_charter {m : Mem}   {out : Int × Mem} (h : F11_charter m = some out) : CT l G cy ad tt yX11_charter cX11_charter 1 (some .int) 4 [.ref (ad 83)] m (some (iv out.1)) (inR out.1) out.2 := by
  refine CT_of (by decide) (Nat.le_of_ble_eq_true rfl) (fun Go hR hT => ?_)
  replace hR : RS l G cy ad tt RX11 cX11_charter 1 4 Go := hR
  show Go 0 [some (.ref (ad 83))] [] m
  unfold F11_charter at h
  refine r_aload_n (pc := 0) hR (dc dt_X11_charter 0 rfl) rfl ?_
  refine r_geti (pc := 1) hR (dc dt_X11_charter 1 rfl) fl_X11_138 tc_83 rfl ?_
  refine r_bipush (pc := 4) hR (dc dt_X11_charter 2 rfl) (by decide) ?_
  refine r_icmp_ne (pc := 6) (tgt := 12) hR (dc dt_X11_charter 3 rfl) (by decide) (rd_in _ _ _) (rg_c rfl) (fun hc => ?_) (fun hc => ?_)
  · replace h := ite_t hc h
    refine r_aload_n (pc := 12) hR (dc dt_X11_charter 6 rfl) rfl ?_
    refine r_aload_n (pc := 13) hR (dc dt_X11_charter 7 rfl) rfl ?_
    refine r_geti (pc := 14) hR (dc dt_X11_charter 8 rfl) fl_X11_138 tc_83 rfl ?_
    obtain ⟨m17, e17, h⟩ := b1_some h
    refine r_callV (pc := 17) (rest := []) hR (dc dt_X11_charter 9 rfl) cl_X11_176 tc_83 rfl (ok_F11_clear (rd_in _ _ _) e17) (by decide) rfl (Nat.le_of_ble_eq_true rfl) rfl (fun q17r => ?_)
    show Go 20 [some (.ref (ad 83))] [] m17
    refine r_aload_n (pc := 20) hR (dc dt_X11_charter 10 rfl) rfl ?_
    refine r_iconst (pc := 21) hR (dc dt_X11_charter 11 rfl) ?_
    refine r_puti (pc := 22) hR (dc dt_X11_charter 12 rfl) fl_X11_144 tc_83 rfl rfl rfl ?_
    replace h := stw_e h
    generalize wr m17 83 11 0 = m22 at h ⊢
    refine r_aload_n (pc := 25) hR (dc dt_X11_charter 13 rfl) rfl ?_
    refine r_iconst (pc := 26) hR (dc dt_X11_charter 14 rfl) ?_
    refine r_puti (pc := 27) hR (dc dt_X11_charter 15 rfl) fl_X11_147 tc_83 rfl rfl rfl ?_
    replace h := stw_e h
    generalize wr m22 83 12 (-1) = m27 at h ⊢
    refine r_aload_n (pc := 30) hR (dc dt_X11_charter 16 rfl) rfl ?_
    refine r_aload_n (pc := 31) hR (dc dt_X11_charter 17 rfl) rfl ?_
    refine r_geti (pc := 32) hR (dc dt_X11_charter 18 rfl) fl_X11_138 tc_83 rfl ?_
    obtain ⟨m35, e35, h⟩ := b1_some h
    refine r_callV (pc := 35) (rest := []) hR (dc dt_X11_charter 19 rfl) cl_X11_179 tc_83 rfl (ok_F11_readAll (rd_in _ _ _) e35) (by decide) rfl (Nat.le_of_ble_eq_true rfl) rfl (fun q35r => ?_)
    show Go 38 [some (.ref (ad 83))] [] m35
    refine r_aload_n (pc := 38) hR (dc dt_X11_charter 20 rfl) rfl ?_
    refine r_iconst (pc := 39) hR (dc dt_X11_charter 21 rfl) ?_
    refine r_puti (pc := 40) hR (dc dt_X11_charter 22 rfl) fl_X11_141 tc_83 rfl rfl rfl ?_
    replace h := stw_e h
    generalize wr m35 83 10 0 = m40 at h ⊢
    refine r_aload_n (pc := 43) hR (dc dt_X11_charter 23 rfl) rfl ?_
    refine r_geti (pc := 44) hR (dc dt_X11_charter 24 rfl) fl_X11_147 tc_83 rfl ?_
    refine r_if_lt (pc := 47) (tgt := 58) hR (dc dt_X11_charter 25 rfl) (by decide) (rd_in _ _ _) (fun hc => ?_) (fun hc => ?_)
    · replace h := ite_t hc h
      refine r_aload_n (pc := 58) hR (dc dt_X11_charter 31 rfl) rfl ?_
      refine r_dup (pc := 59) hR (dc dt_X11_charter 32 rfl) rfl ?_
      refine r_geti (pc := 60) hR (dc dt_X11_charter 33 rfl) fl_X11_138 tc_83 rfl ?_
      refine r_iconst (pc := 63) hR (dc dt_X11_charter 34 rfl) ?_
      refine r_iadd (pc := 64) hR (dc dt_X11_charter 35 rfl) ?_
      refine r_puti (pc := 65) hR (dc dt_X11_charter 36 rfl) fl_X11_138 tc_83 rfl rfl rfl ?_
      replace h := stw_e h
      generalize wr m40 83 1 (w32 ((rd m40 83 1) + 1)) = m65 at h ⊢
      refine r_aload_n (pc := 68) hR (dc dt_X11_charter 37 rfl) rfl ?_
      refine r_geti (pc := 69) hR (dc dt_X11_charter 38 rfl) fl_X11_138 tc_83 rfl ?_
      refine r_iconst (pc := 72) hR (dc dt_X11_charter 39 rfl) ?_
      refine r_isub (pc := 73) hR (dc dt_X11_charter 40 rfl) ?_
      exact r_iret hT (dc dt_X11_charter 41 rfl) (congrArg Prod.fst (Option.some.inj h)) (congrArg Prod.snd (Option.some.inj h)) (w32_in _)
    replace h := ite_f hc h
    refine r_bipush (pc := 50) hR (dc dt_X11_charter 26 rfl) (by decide) ?_
    refine r_aload_n (pc := 52) hR (dc dt_X11_charter 27 rfl) rfl ?_
    refine r_geti (pc := 53) hR (dc dt_X11_charter 28 rfl) fl_X11_147 tc_83 rfl ?_
    refine r_isub (pc := 56) hR (dc dt_X11_charter 29 rfl) ?_
    exact r_iret hT (dc dt_X11_charter 30 rfl) (congrArg Prod.fst (Option.some.inj h)) (congrArg Prod.snd (Option.some.inj h)) (w32_in _)
  replace h := ite_f hc h
  refine r_bipush (pc := 9) hR (dc dt_X11_charter 4 rfl) (by decide) ?_
  exact r_iret hT (dc dt_X11_charter 5 rfl) (congrArg Prod.fst (Option.some.inj h)) (congrArg Prod.snd (Option.some.inj h)) (rg_c rfl)
def tb_X11_lost : List (Nat × (Instr × Nat)) := [(0, (.aload_n 0, 1)), (1, (.getfield 138, 3)), (4, (.bipush 12, 2)), (6, (.if_icmp .ne 6, 3)), (9, (.bipush (-3), 2)), (11, (.ireturn, 1)), (12, (.aload_n 0, 1)), (13, (.aload_n 0, 1)), (14, (.getfield 138, 3)), (17, (.invokevirtual 176, 3)), (20, (.aload_n 0, 1)), (21, (.getfield 19, 3)), (24, (.aload_n 0, 1)), (25, (.getfield 138, 3)), (28, (.iconst 1, 1)), (29, (.bastore, 1)), (30, (.aload_n 0, 1)), (31, (.dup, 1)), (32, (.getfield 138, 3)), (35, (.iconst 1, 1)), (36, (.iadd, 1)), (37, (.putfield 138, 3)), (40, (.aload_n 0, 1)), (41, (.getfield 138, 3)), (44, (.iconst 1, 1)), (45, (.isub, 1)), (46, (.ireturn, 1))]
set_option maxRecDepth 100000 in
theorem dt_X11_lost : (tb_X11_lost.all fun q => decide (decode cX11_lost q.1 = .ok q.2)) = true := by decide +kernel
set_option maxRecDepth 100000 in
set_option maxHeartbeats 4000000 in
theorem ok_F11_lost {m : Mem}   {out : Int × Mem} (h : F11_lost m = some out) : CT l G cy ad tt yX11_lost cX11_lost 1 (some .int) 1 [.ref (ad 83)] m (some (iv out.1)) (inR out.1) out.2 := by
  refine CT_of (by decide) (Nat.le_of_ble_eq_true rfl) (fun Go hR hT => ?_)
  replace hR : RS l G cy ad tt RX11 cX11_lost 1 1 Go := hR
  show Go 0 [some (.ref (ad 83))] [] m
  unfold F11_lost at h
  refine r_aload_n (pc := 0) hR (dc dt_X11_lost 0 rfl) rfl ?_
  refine r_geti (pc := 1) hR (dc dt_X11_lost 1 rfl) fl_X11_138 tc_83 rfl ?_
  refine r_bipush (pc := 4) hR (dc dt_X11_lost 2 rfl) (by decide) ?_
  refine r_icmp_ne (pc := 6) (tgt := 12) hR (dc dt_X11_lost 3 rfl) (by decide) (rd_in _ _ _) (rg_c rfl) (fun hc => ?_) (fun hc => ?_)
  · replace h := ite_t hc h
    refine r_aload_n (pc := 12) hR (dc dt_X11_lost 6 rfl) rfl ?_
    refine r_aload_n (pc := 13) hR (dc dt_X11_lost 7 rfl) rfl ?_
    refine r_geti (pc := 14) hR (dc dt_X11_lost 8 rfl) fl_X11_138 tc_83 rfl ?_
    obtain ⟨m17, e17, h⟩ := b1_some h
    refine r_callV (pc := 17) (rest := []) hR (dc dt_X11_lost 9 rfl) cl_X11_176 tc_83 rfl (ok_F11_clear (rd_in _ _ _) e17) (by decide) rfl (Nat.le_of_ble_eq_true rfl) rfl (fun q17r => ?_)
    show Go 20 [some (.ref (ad 83))] [] m17
    refine r_aload_n (pc := 20) hR (dc dt_X11_lost 10 rfl) rfl ?_
    refine r_getr (pc := 21) (k2 := 87) hR (dc dt_X11_lost 11 rfl) fl_X11_19 tc_83 rfl ?_
    refine r_aload_n (pc := 24) hR (dc dt_X11_lost 12 rfl) rfl ?_
    refine r_geti (pc := 25) hR (dc dt_X11_lost 13 rfl) fl_X11_138 tc_83 rfl ?_
    refine r_iconst (pc := 28) hR (dc dt_X11_lost 14 rfl) ?_
    obtain ⟨g1, h⟩ := gd_some h
    refine r_zast (pc := 29) hR (dc dt_X11_lost 15 rfl) tc_87 g1 (rd_in _ _ _) (Or.inr rfl) ?_
    replace h := stw_e h
    generalize wr m17 87 (rd m17 83 1) 1 = m29 at h ⊢
    refine r_aload_n (pc := 30) hR (dc dt_X11_lost 16 rfl) rfl ?_
    refine r_dup (pc := 31) hR (dc dt_X11_lost 17 rfl) rfl ?_
    refine r_geti (pc := 32) hR (dc dt_X11_lost 18 rfl) fl_X11_138 tc_83 rfl ?_
    refine r_iconst (pc := 35) hR (dc dt_X11_lost 19 rfl) ?_
    refine r_iadd (pc := 36) hR (dc dt_X11_lost 20 rfl) ?_
    refine r_puti (pc := 37) hR (dc dt_X11_lost 21 rfl) fl_X11_138 tc_83 rfl rfl rfl ?_
    replace h := stw_e h
    generalize wr m29 83 1 (w32 ((rd m29 83 1) + 1)) = m37 at h ⊢
    refine r_aload_n (pc := 40) hR (dc dt_X11_lost 22 rfl) rfl ?_
    refine r_geti (pc := 41) hR (dc dt_X11_lost 23 rfl) fl_X11_138 tc_83 rfl ?_
    refine r_iconst (pc := 44) hR (dc dt_X11_lost 24 rfl) ?_
    refine r_isub (pc := 45) hR (dc dt_X11_lost 25 rfl) ?_
    exact r_iret hT (dc dt_X11_lost 26 rfl) (congrArg Prod.fst (Option.some.inj h)) (congrArg Prod.snd (Option.some.inj h)) (w32_in _)
  replace h := ite_f hc h
  refine r_bipush (pc := 9) hR (dc dt_X11_lost 4 rfl) (by decide) ?_
  exact r_iret hT (dc dt_X11_lost 5 rfl) (congrArg Prod.fst (Option.some.inj h)) (congrArg Prod.snd (Option.some.inj h)) (rg_c rfl)
def tb_X11_ofCharter : List (Nat × (Instr × Nat)) := [(0, (.aload_n 0, 1)), (1, (.iload_n 1, 1)), (2, (.invokevirtual 182, 3)), (5, (.ifCond .ne 5, 3)), (8, (.iconst (-1), 1)), (9, (.ireturn, 1)), (10, (.iload_n 2, 1)), (11, (.tableswitch 65 0 3 #[29, 36, 43, 50], 29)), (40, (.aload_n 0, 1)), (41, (.getfield 7, 3)), (44, (.iload_n 1, 1)), (45, (.iaload, 1)), (46, (.ireturn, 1)), (47, (.aload_n 0, 1)), (48, (.getfield 13, 3)), (51, (.iload_n 1, 1)), (52, (.iaload, 1)), (53, (.ireturn, 1)), (54, (.aload_n 0, 1)), (55, (.getfield 16, 3)), (58, (.iload_n 1, 1)), (59, (.iaload, 1)), (60, (.ireturn, 1)), (61, (.aload_n 0, 1)), (62, (.getfield 19, 3)), (65, (.iload_n 1, 1)), (66, (.baload, 1)), (67, (.ifCond .eq 7, 3)), (70, (.iconst 1, 1)), (71, (.goto 4, 3)), (74, (.iconst 0, 1)), (75, (.ireturn, 1)), (76, (.iload_n 2, 1)), (77, (.bipush 10, 2)), (79, (.bipush 25, 2)), (81, (.invokestatic 134, 3)), (84, (.ifCond .eq 20, 3)), (87, (.aload_n 0, 1)), (88, (.getfield 26, 3)), (91, (.bipush 16, 2)), (93, (.iload_n 1, 1)), (94, (.imul, 1)), (95, (.iload_n 2, 1)), (96, (.iadd, 1)), (97, (.bipush 10, 2)), (99, (.isub, 1)), (100, (.iaload, 1)), (101, (.goto 4, 3)), (104, (.iconst (-1), 1)), (105, (.ireturn, 1))]
set_option maxRecDepth 100000 in
theorem dt_X11_ofCharter : (tb_X11_ofCharter.all fun q => decide (decode cX11_ofCharter q.1 = .ok q.2)) = true := by decide +kernel
set_option maxRecDepth 100000 in
set_option maxHeartbeats 4000000 in
theorem ok_F11_ofCharter {m : Mem}  {v1 v2 : Int} (q1 : inR v1) (q2 : inR v2) {out : Int} (h : F11_ofCharter m v1 v2 = some out) : CT l G cy ad tt yX11_ofCharter cX11_ofCharter 3 (some .int) 2 [.ref (ad 83), iv v1, iv v2] m (some (iv out)) (inR out) m := by
  refine CT_of (by decide) (Nat.le_of_ble_eq_true rfl) (fun Go hR hT => ?_)
  replace hR : RS l G cy ad tt RX11 cX11_ofCharter 3 2 Go := hR
  show Go 0 [some (.ref (ad 83)), some (iv v1), some (iv v2)] [] m
  unfold F11_ofCharter at h
  refine r_aload_n (pc := 0) hR (dc dt_X11_ofCharter 0 rfl) rfl ?_
  refine r_iload_n (pc := 1) hR (dc dt_X11_ofCharter 1 rfl) rfl ?_
  refine r_callV (pc := 2) (rest := []) hR (dc dt_X11_ofCharter 2 rfl) cl_X11_182 tc_83 rfl (ok_F11_isCharter q1) (by decide) rfl (Nat.le_of_ble_eq_true rfl) rfl (fun q2r => ?_)
  show Go 5 [some (.ref (ad 83)), some (iv v1), some (iv v2)] [iv (F11_isCharter m v1)] m
  refine r_if_ne (pc := 5) (tgt := 10) hR (dc dt_X11_ofCharter 3 rfl) (by decide) (inZ_R q2r) (fun hc => ?_) (fun hc => ?_)
  · replace h := ite_t hc h
    refine r_iload_n (pc := 10) hR (dc dt_X11_ofCharter 6 rfl) rfl ?_
    show Go 11 [some (.ref (ad 83)), some (iv v1), some (iv v2)] [iv v2] m
    by_cases hc0 : v2 = 0
    · replace h := ite_t hc0 h
      refine r_tabIn (pc := 11) (tgt := 40) hR (dc dt_X11_ofCharter 7 rfl) q2 (by omega) (by omega) (by rw [hc0]; rfl) (by decide) ?_
      refine r_aload_n (pc := 40) hR (dc dt_X11_ofCharter 8 rfl) rfl ?_
      refine r_getr (pc := 41) (k2 := 84) hR (dc dt_X11_ofCharter 9 rfl) fl_X11_7 tc_83 rfl ?_
      refine r_iload_n (pc := 44) hR (dc dt_X11_ofCharter 10 rfl) rfl ?_
      obtain ⟨g1, h⟩ := gd_some h
      refine r_iald (pc := 45) hR (dc dt_X11_ofCharter 11 rfl) tc_84 g1 q1 ?_
      exact r_iret hT (dc dt_X11_ofCharter 12 rfl) (Option.some.inj h) rfl (rd_in _ _ _)
    replace h := ite_f hc0 h
    by_cases hc1 : v2 = 1
    · replace h := ite_t hc1 h
      refine r_tabIn (pc := 11) (tgt := 47) hR (dc dt_X11_ofCharter 7 rfl) q2 (by omega) (by omega) (by rw [hc1]; rfl) (by decide) ?_
      refine r_aload_n (pc := 47) hR (dc dt_X11_ofCharter 13 rfl) rfl ?_
      refine r_getr (pc := 48) (k2 := 85) hR (dc dt_X11_ofCharter 14 rfl) fl_X11_13 tc_83 rfl ?_
      refine r_iload_n (pc := 51) hR (dc dt_X11_ofCharter 15 rfl) rfl ?_
      obtain ⟨g1, h⟩ := gd_some h
      refine r_iald (pc := 52) hR (dc dt_X11_ofCharter 16 rfl) tc_85 g1 q1 ?_
      exact r_iret hT (dc dt_X11_ofCharter 17 rfl) (Option.some.inj h) rfl (rd_in _ _ _)
    replace h := ite_f hc1 h
    by_cases hc2 : v2 = 2
    · replace h := ite_t hc2 h
      refine r_tabIn (pc := 11) (tgt := 54) hR (dc dt_X11_ofCharter 7 rfl) q2 (by omega) (by omega) (by rw [hc2]; rfl) (by decide) ?_
      refine r_aload_n (pc := 54) hR (dc dt_X11_ofCharter 18 rfl) rfl ?_
      refine r_getr (pc := 55) (k2 := 86) hR (dc dt_X11_ofCharter 19 rfl) fl_X11_16 tc_83 rfl ?_
      refine r_iload_n (pc := 58) hR (dc dt_X11_ofCharter 20 rfl) rfl ?_
      obtain ⟨g1, h⟩ := gd_some h
      refine r_iald (pc := 59) hR (dc dt_X11_ofCharter 21 rfl) tc_86 g1 q1 ?_
      exact r_iret hT (dc dt_X11_ofCharter 22 rfl) (Option.some.inj h) rfl (rd_in _ _ _)
    replace h := ite_f hc2 h
    by_cases hc3 : v2 = 3
    · replace h := ite_t hc3 h
      refine r_tabIn (pc := 11) (tgt := 61) hR (dc dt_X11_ofCharter 7 rfl) q2 (by omega) (by omega) (by rw [hc3]; rfl) (by decide) ?_
      refine r_aload_n (pc := 61) hR (dc dt_X11_ofCharter 23 rfl) rfl ?_
      refine r_getr (pc := 62) (k2 := 87) hR (dc dt_X11_ofCharter 24 rfl) fl_X11_19 tc_83 rfl ?_
      refine r_iload_n (pc := 65) hR (dc dt_X11_ofCharter 25 rfl) rfl ?_
      obtain ⟨g1, h⟩ := gd_some h
      refine r_zald (pc := 66) hR (dc dt_X11_ofCharter 26 rfl) tc_87 g1 q1 ?_
      refine r_if_eq (pc := 67) (tgt := 74) hR (dc dt_X11_ofCharter 27 rfl) (by decide) (rd_in _ _ _) (fun hc => ?_) (fun hc => ?_)
      · replace h := ite_t hc h
        refine r_iconst (pc := 74) hR (dc dt_X11_ofCharter 30 rfl) ?_
        exact r_iret hT (dc dt_X11_ofCharter 31 rfl) (Option.some.inj h) rfl (rg_c rfl)
      replace h := ite_f hc h
      refine r_iconst (pc := 70) hR (dc dt_X11_ofCharter 28 rfl) ?_
      refine r_goto (pc := 71) (tgt := 75) hR (dc dt_X11_ofCharter 29 rfl) (by decide) ?_
      exact r_iret hT (dc dt_X11_ofCharter 31 rfl) (Option.some.inj h) rfl (rg_c rfl)
    replace h := ite_f hc3 h
    refine r_tabOut (pc := 11) (tgt := 76) hR (dc dt_X11_ofCharter 7 rfl) q2 (by omega) (by decide) ?_
    refine r_iload_n (pc := 76) hR (dc dt_X11_ofCharter 32 rfl) rfl ?_
    refine r_bipush (pc := 77) hR (dc dt_X11_ofCharter 33 rfl) (by decide) ?_
    refine r_bipush (pc := 79) hR (dc dt_X11_ofCharter 34 rfl) (by decide) ?_
    refine r_callS (pc := 81) (rest := []) hR (dc dt_X11_ofCharter 35 rfl) cl_X11_134 (ok_F11_in q2 (rg_c rfl) (rg_c rfl)) (by decide) rfl (Nat.le_of_ble_eq_true rfl) rfl (fun q81r => ?_)
    show Go 84 [some (.ref (ad 83)), some (iv v1), some (iv v2)] [iv (F11_in v2 10 25)] m
    refine r_if_eq (pc := 84) (tgt := 104) hR (dc dt_X11_ofCharter 36 rfl) (by decide) (inZ_R q81r) (fun hc => ?_) (fun hc => ?_)
    · replace h := ite_t hc h
      refine r_iconst (pc := 104) hR (dc dt_X11_ofCharter 48 rfl) ?_
      exact r_iret hT (dc dt_X11_ofCharter 49 rfl) (Option.some.inj h) rfl (rg_c rfl)
    replace h := ite_f hc h
    refine r_aload_n (pc := 87) hR (dc dt_X11_ofCharter 37 rfl) rfl ?_
    refine r_getr (pc := 88) (k2 := 89) hR (dc dt_X11_ofCharter 38 rfl) fl_X11_26 tc_83 rfl ?_
    refine r_bipush (pc := 91) hR (dc dt_X11_ofCharter 39 rfl) (by decide) ?_
    refine r_iload_n (pc := 93) hR (dc dt_X11_ofCharter 40 rfl) rfl ?_
    refine r_imul (pc := 94) hR (dc dt_X11_ofCharter 41 rfl) ?_
    refine r_iload_n (pc := 95) hR (dc dt_X11_ofCharter 42 rfl) rfl ?_
    refine r_iadd (pc := 96) hR (dc dt_X11_ofCharter 43 rfl) ?_
    refine r_bipush (pc := 97) hR (dc dt_X11_ofCharter 44 rfl) (by decide) ?_
    refine r_isub (pc := 99) hR (dc dt_X11_ofCharter 45 rfl) ?_
    obtain ⟨g1, h⟩ := gd_some h
    refine r_iald (pc := 100) hR (dc dt_X11_ofCharter 46 rfl) tc_89 g1 (w32_in _) ?_
    refine r_goto (pc := 101) (tgt := 105) hR (dc dt_X11_ofCharter 47 rfl) (by decide) ?_
    exact r_iret hT (dc dt_X11_ofCharter 49 rfl) (Option.some.inj h) rfl (rd_in _ _ _)
  replace h := ite_f hc h
  refine r_iconst (pc := 8) hR (dc dt_X11_ofCharter 4 rfl) ?_
  exact r_iret hT (dc dt_X11_ofCharter 5 rfl) (Option.some.inj h) rfl (rg_c rfl)
def tb_X11_valueAt : List (Nat × (Instr × Nat)) := [(0, (.iload_n 1, 1)), (1, (.ifCond .ne 12, 3)), (4, (.aload_n 0, 1)), (5, (.getfield 26, 3)), (8, (.iload_n 2, 1)), (9, (.iaload, 1)), (10, (.goto 23, 3)), (13, (.iload_n 1, 1)), (14, (.iconst 1, 1)), (15, (.if_icmp .ne 12, 3)), (18, (.aload_n 0, 1)), (19, (.getfield 29, 3)), (22, (.iload_n 2, 1)), (23, (.iaload, 1)), (24, (.goto 9, 3)), (27, (.aload_n 0, 1)), (28, (.getfield 23, 3)), (31, (.iload_n 2, 1)), (32, (.iaload, 1)), (33, (.ireturn, 1))]
set_option maxRecDepth 100000 in
theorem dt_X11_valueAt : (tb_X11_valueAt.all fun q => decide (decode cX11_valueAt q.1 = .ok q.2)) = true := by decide +kernel
set_option maxRecDepth 100000 in
set_option maxHeartbeats 4000000 in
theorem ok_F11_valueAt {m : Mem}  {v1 v2 : Int} (q1 : inR v1) (q2 : inR v2) {out : Int} (h : F11_valueAt m v1 v2 = some out) : CT l G cy ad tt yX11_valueAt cX11_valueAt 3 (some .int) 0 [.ref (ad 83), iv v1, iv v2] m (some (iv out)) (inR out) m := by
  refine CT_of (by decide) (Nat.le_of_ble_eq_true rfl) (fun Go hR hT => ?_)
  replace hR : RS l G cy ad tt RX11 cX11_valueAt 3 0 Go := hR
  show Go 0 [some (.ref (ad 83)), some (iv v1), some (iv v2)] [] m
  unfold F11_valueAt at h
  refine r_iload_n (pc := 0) hR (dc dt_X11_valueAt 0 rfl) rfl ?_
  refine r_if_ne (pc := 1) (tgt := 13) hR (dc dt_X11_valueAt 1 rfl) (by decide) q1 (fun hc => ?_) (fun hc => ?_)
  · replace h := ite_t hc h
    refine r_iload_n (pc := 13) hR (dc dt_X11_valueAt 7 rfl) rfl ?_
    refine r_iconst (pc := 14) hR (dc dt_X11_valueAt 8 rfl) ?_
    refine r_icmp_ne (pc := 15) (tgt := 27) hR (dc dt_X11_valueAt 9 rfl) (by decide) q1 (rg_c rfl) (fun hc => ?_) (fun hc => ?_)
    · replace h := ite_t hc h
      refine r_aload_n (pc := 27) hR (dc dt_X11_valueAt 15 rfl) rfl ?_
      refine r_getr (pc := 28) (k2 := 88) hR (dc dt_X11_valueAt 16 rfl) fl_X11_23 tc_83 rfl ?_
      refine r_iload_n (pc := 31) hR (dc dt_X11_valueAt 17 rfl) rfl ?_
      obtain ⟨g1, h⟩ := gd_some h
      refine r_iald (pc := 32) hR (dc dt_X11_valueAt 18 rfl) tc_88 g1 q2 ?_
      exact r_iret hT (dc dt_X11_valueAt 19 rfl) (Option.some.inj h) rfl (rd_in _ _ _)
    replace h := ite_f hc h
    refine r_aload_n (pc := 18) hR (dc dt_X11_valueAt 10 rfl) rfl ?_
    refine r_getr (pc := 19) (k2 := 90) hR (dc dt_X11_valueAt 11 rfl) fl_X11_29 tc_83 rfl ?_
    refine r_iload_n (pc := 22) hR (dc dt_X11_valueAt 12 rfl) rfl ?_
    obtain ⟨g1, h⟩ := gd_some h
    refine r_iald (pc := 23) hR (dc dt_X11_valueAt 13 rfl) tc_90 g1 q2 ?_
    refine r_goto (pc := 24) (tgt := 33) hR (dc dt_X11_valueAt 14 rfl) (by decide) ?_
    exact r_iret hT (dc dt_X11_valueAt 19 rfl) (Option.some.inj h) rfl (rd_in _ _ _)
  replace h := ite_f hc h
  refine r_aload_n (pc := 4) hR (dc dt_X11_valueAt 2 rfl) rfl ?_
  refine r_getr (pc := 5) (k2 := 89) hR (dc dt_X11_valueAt 3 rfl) fl_X11_26 tc_83 rfl ?_
  refine r_iload_n (pc := 8) hR (dc dt_X11_valueAt 4 rfl) rfl ?_
  obtain ⟨g1, h⟩ := gd_some h
  refine r_iald (pc := 9) hR (dc dt_X11_valueAt 5 rfl) tc_89 g1 q2 ?_
  refine r_goto (pc := 10) (tgt := 33) hR (dc dt_X11_valueAt 6 rfl) (by decide) ?_
  exact r_iret hT (dc dt_X11_valueAt 19 rfl) (Option.some.inj h) rfl (rd_in _ _ _)
def tb_X11_set : List (Nat × (Instr × Nat)) := [(0, (.iload_n 1, 1)), (1, (.ifCond .ne 13, 3)), (4, (.aload_n 0, 1)), (5, (.getfield 26, 3)), (8, (.iload_n 2, 1)), (9, (.iload_n 3, 1)), (10, (.iastore, 1)), (11, (.goto 25, 3)), (14, (.iload_n 1, 1)), (15, (.iconst 1, 1)), (16, (.if_icmp .ne 13, 3)), (19, (.aload_n 0, 1)), (20, (.getfield 29, 3)), (23, (.iload_n 2, 1)), (24, (.iload_n 3, 1)), (25, (.iastore, 1)), (26, (.goto 10, 3)), (29, (.aload_n 0, 1)), (30, (.getfield 23, 3)), (33, (.iload_n 2, 1)), (34, (.iload_n 3, 1)), (35, (.iastore, 1)), (36, (.return_, 1))]
set_option maxRecDepth 100000 in
theorem dt_X11_set : (tb_X11_set.all fun q => decide (decode cX11_set q.1 = .ok q.2)) = true := by decide +kernel
set_option maxRecDepth 100000 in
set_option maxHeartbeats 4000000 in
theorem ok_F11_set {m : Mem}  {v1 v2 v3 : Int} (q1 : inR v1) (q2 : inR v2) (q3 : inR v3) {out : Mem} (h : F11_set m v1 v2 v3 = some out) : CT l G cy ad tt yX11_set cX11_set 4 none 0 [.ref (ad 83), iv v1, iv v2, iv v3] m none True out := by
  refine CT_of (by decide) (Nat.le_of_ble_eq_true rfl) (fun Go hR hT => ?_)
  replace hR : RS l G cy ad tt RX11 cX11_set 4 0 Go := hR
  show Go 0 [some (.ref (ad 83)), some (iv v1), some (iv v2), some (iv v3)] [] m
  unfold F11_set at h
  refine r_iload_n (pc := 0) hR (dc dt_X11_set 0 rfl) rfl ?_
  refine r_if_ne (pc := 1) (tgt := 14) hR (dc dt_X11_set 1 rfl) (by decide) q1 (fun hc => ?_) (fun hc => ?_)
  · replace h := ite_t hc h
    refine r_iload_n (pc := 14) hR (dc dt_X11_set 8 rfl) rfl ?_
    refine r_iconst (pc := 15) hR (dc dt_X11_set 9 rfl) ?_
    refine r_icmp_ne (pc := 16) (tgt := 29) hR (dc dt_X11_set 10 rfl) (by decide) q1 (rg_c rfl) (fun hc => ?_) (fun hc => ?_)
    · replace h := ite_t hc h
      refine r_aload_n (pc := 29) hR (dc dt_X11_set 17 rfl) rfl ?_
      refine r_getr (pc := 30) (k2 := 88) hR (dc dt_X11_set 18 rfl) fl_X11_23 tc_83 rfl ?_
      refine r_iload_n (pc := 33) hR (dc dt_X11_set 19 rfl) rfl ?_
      refine r_iload_n (pc := 34) hR (dc dt_X11_set 20 rfl) rfl ?_
      obtain ⟨g1, h⟩ := gd_some h
      refine r_iast (pc := 35) hR (dc dt_X11_set 21 rfl) tc_88 g1 q2 ?_
      replace h := stw_e h
      generalize wr m 88 v2 v3 = m35 at h ⊢
      exact r_vret hT (dc dt_X11_set 22 rfl) (Option.some.inj h)
    replace h := ite_f hc h
    refine r_aload_n (pc := 19) hR (dc dt_X11_set 11 rfl) rfl ?_
    refine r_getr (pc := 20) (k2 := 90) hR (dc dt_X11_set 12 rfl) fl_X11_29 tc_83 rfl ?_
    refine r_iload_n (pc := 23) hR (dc dt_X11_set 13 rfl) rfl ?_
    refine r_iload_n (pc := 24) hR (dc dt_X11_set 14 rfl) rfl ?_
    obtain ⟨g1, h⟩ := gd_some h
    refine r_iast (pc := 25) hR (dc dt_X11_set 15 rfl) tc_90 g1 q2 ?_
    replace h := stw_e h
    generalize wr m 90 v2 v3 = m25 at h ⊢
    refine r_goto (pc := 26) (tgt := 36) hR (dc dt_X11_set 16 rfl) (by decide) ?_
    exact r_vret hT (dc dt_X11_set 22 rfl) (Option.some.inj h)
  replace h := ite_f hc h
  refine r_aload_n (pc := 4) hR (dc dt_X11_set 2 rfl) rfl ?_
  refine r_getr (pc := 5) (k2 := 89) hR (dc dt_X11_set 3 rfl) fl_X11_26 tc_83 rfl ?_
  refine r_iload_n (pc := 8) hR (dc dt_X11_set 4 rfl) rfl ?_
  refine r_iload_n (pc := 9) hR (dc dt_X11_set 5 rfl) rfl ?_
  obtain ⟨g1, h⟩ := gd_some h
  refine r_iast (pc := 10) hR (dc dt_X11_set 6 rfl) tc_89 g1 q2 ?_
  replace h := stw_e h
  generalize wr m 89 v2 v3 = m10 at h ⊢
  refine r_goto (pc := 11) (tgt := 36) hR (dc dt_X11_set 7 rfl) (by decide) ?_
  exact r_vret hT (dc dt_X11_set 22 rfl) (Option.some.inj h)
def tb_X11_changes : List (Nat × (Instr × Nat)) := [(0, (.aload_n 0, 1)), (1, (.iload_n 1, 1)), (2, (.iload_n 2, 1)), (3, (.invokevirtual 185, 3)), (6, (.istore 4, 2)), (8, (.iload 4, 2)), (10, (.iload_n 3, 1)), (11, (.if_icmp .ne 6, 3)), (14, (.iload 4, 2)), (16, (.ireturn, 1)), (17, (.aload_n 0, 1)), (18, (.iconst 0, 1)), (19, (.putfield 188, 3)), (22, (.aload_n 0, 1)), (23, (.getfield 191, 3)), (26, (.bipush 40, 2)), (28, (.if_icmp .ne 93, 3)), (31, (.iconst 1, 1)), (32, (.istore 5, 2)), (34, (.iload 5, 2)), (36, (.bipush 40, 2)), (38, (.if_icmp .ge 73, 3)), (41, (.aload_n 0, 1)), (42, (.getfield 36, 3)), (45, (.iload 5, 2)), (47, (.iconst 1, 1)), (48, (.isub, 1)), (49, (.aload_n 0, 1)), (50, (.getfield 36, 3)), (53, (.iload 5, 2)), (55, (.iaload, 1)), (56, (.iastore, 1)), (57, (.aload_n 0, 1)), (58, (.getfield 39, 3)), (61, (.iload 5, 2)), (63, (.iconst 1, 1)), (64, (.isub, 1)), (65, (.aload_n 0, 1)), (66, (.getfield 39, 3)), (69, (.iload 5, 2)), (71, (.iaload, 1)), (72, (.iastore, 1)), (73, (.aload_n 0, 1)), (74, (.getfield 42, 3)), (77, (.iload 5, 2)), (79, (.iconst 1, 1)), (80, (.isub, 1)), (81, (.aload_n 0, 1)), (82, (.getfield 42, 3)), (85, (.iload 5, 2)), (87, (.iaload, 1)), (88, (.iastore, 1)), (89, (.aload_n 0, 1)), (90, (.getfield 45, 3)), (93, (.iload 5, 2)), (95, (.iconst 1, 1)), (96, (.isub, 1)), (97, (.aload_n 0, 1)), (98, (.getfield 45, 3)), (101, (.iload 5, 2)), (103, (.iaload, 1)), (104, (.iastore, 1)), (105, (.iinc 5 1, 3)), (108, (.goto (-74), 3)), (111, (.aload_n 0, 1)), (112, (.dup, 1)), (113, (.getfield 191, 3)), (116, (.iconst 1, 1)), (117, (.isub, 1)), (118, (.putfield 191, 3)), (121, (.aload_n 0, 1)), (122, (.getfield 36, 3)), (125, (.aload_n 0, 1)), (126, (.getfield 191, 3)), (129, (.iload_n 1, 1)), (130, (.iastore, 1)), (131, (.aload_n 0, 1)), (132, (.getfield 39, 3)), (135, (.aload_n 0, 1)), (136, (.getfield 191, 3)), (139, (.iload_n 2, 1)), (140, (.iastore, 1)), (141, (.aload_n 0, 1)), (142, (.getfield 42, 3)), (145, (.aload_n 0, 1)), (146, (.getfield 191, 3)), (149, (.iload 4, 2)), (151, (.iastore, 1)), (152, (.aload_n 0, 1)), (153, (.getfield 45, 3)), (156, (.aload_n 0, 1)), (157, (.getfield 191, 3)), (160, (.iload_n 3, 1)), (161, (.iastore, 1)), (162, (.aload_n 0, 1)), (163, (.dup, 1)), (164, (.getfield 191, 3)), (167, (.iconst 1, 1)), (168, (.iadd, 1)), (169, (.putfield 191, 3)), (172, (.aload_n 0, 1)), (173, (.iload_n 1, 1)), (174, (.iload_n 2, 1)), (175, (.iload_n 3, 1)), (176, (.invokevirtual 194, 3)), (179, (.aload_n 0, 1)), (180, (.iconst 0, 1)), (181, (.putfield 198, 3)), (184, (.iload 4, 2)), (186, (.ireturn, 1))]
set_option maxRecDepth 100000 in
theorem dt_X11_changes : (tb_X11_changes.all fun q => decide (decode cX11_changes q.1 = .ok q.2)) = true := by decide +kernel
set_option maxRecDepth 100000 in
set_option maxHeartbeats 4000000 in
theorem lp_L11_changes_34 {Go : Nat → List (Option Value) → List Value → Mem → Prop} (hR : RS l G cy ad tt RX11 cX11_changes 6 1 Go) {out : Int × Mem} (hT : RT cX11_changes (some (iv out.1)) (inR out.1) out.2 (some .int) Go) {v1 : Int} {v2 : Int} {v3 : Int} {v4 : Int} (qv1 : inR v1) (qv2 : inR v2) (qv3 : inR v3) (qv4 : inR v4) {k111 : Mem → Option (Int × Mem)} (hk111 : ∀ (m : Mem), k111 m = some out → Go 111 [some (.ref (ad 83)), some (iv v1), some (iv v2), some (iv v3), some (iv v4), none] [] m) : ∀ (n : Nat) (v5 : Int) (m : Mem), inR v5 → L11_changes_34 k111 n v5 m = some out → Go 34 [some (.ref (ad 83)), some (iv v1), some (iv v2), some (iv v3), some (iv v4), some (iv v5)] [] m := by
  intro n
  induction n with
  | zero =>
    intro v5 m qv5 h
    cases h
  | succ n ih =>
    intro v5 m qv5 h
    rw [L11_changes_34] at h
    refine r_iload (pc := 34) hR (dc dt_X11_changes 19 rfl) rfl ?_
    refine r_bipush (pc := 36) hR (dc dt_X11_changes 20 rfl) (by decide) ?_
    refine r_icmp_ge (pc := 38) (tgt := 111) hR (dc dt_X11_changes 21 rfl) (by decide) qv5 (rg_c rfl) (fun hc => ?_) (fun hc => ?_)
    · replace h := ite_t hc h
      refine r_weak (L' := [some (.ref (ad 83)), some (iv v1), some (iv v2), some (iv v3), some (iv v4), none]) hR ⟨Or.inr rfl, Or.inr rfl, Or.inr rfl, Or.inr rfl, Or.inr rfl, Or.inl rfl, trivial⟩ ?_
      exact hk111 m h
    replace h := ite_f hc h
    refine r_aload_n (pc := 41) hR (dc dt_X11_changes 22 rfl) rfl ?_
    refine r_getr (pc := 42) (k2 := 92) hR (dc dt_X11_changes 23 rfl) fl_X11_36 tc_83 rfl ?_
    refine r_iload (pc := 45) hR (dc dt_X11_changes 24 rfl) rfl ?_
    refine r_iconst (pc := 47) hR (dc dt_X11_changes 25 rfl) ?_
    refine r_isub (pc := 48) hR (dc dt_X11_changes 26 rfl) ?_
    refine r_aload_n (pc := 49) hR (dc dt_X11_changes 27 rfl) rfl ?_
    refine r_getr (pc := 50) (k2 := 92) hR (dc dt_X11_changes 28 rfl) fl_X11_36 tc_83 rfl ?_
    refine r_iload (pc := 53) hR (dc dt_X11_changes 29 rfl) rfl ?_
    obtain ⟨g1, h⟩ := gd_some h
    refine r_iald (pc := 55) hR (dc dt_X11_changes 30 rfl) tc_92 g1 qv5 ?_
    obtain ⟨g1, h⟩ := gd_some h
    refine r_iast (pc := 56) hR (dc dt_X11_changes 31 rfl) tc_92 g1 (w32_in _) ?_
    replace h := stw_e h
    generalize wr m 92 (w32 (v5 - 1)) (rd m 92 v5) = m56 at h ⊢
    refine r_aload_n (pc := 57) hR (dc dt_X11_changes 32 rfl) rfl ?_
    refine r_getr (pc := 58) (k2 := 93) hR (dc dt_X11_changes 33 rfl) fl_X11_39 tc_83 rfl ?_
    refine r_iload (pc := 61) hR (dc dt_X11_changes 34 rfl) rfl ?_
    refine r_iconst (pc := 63) hR (dc dt_X11_changes 35 rfl) ?_
    refine r_isub (pc := 64) hR (dc dt_X11_changes 36 rfl) ?_
    refine r_aload_n (pc := 65) hR (dc dt_X11_changes 37 rfl) rfl ?_
    refine r_getr (pc := 66) (k2 := 93) hR (dc dt_X11_changes 38 rfl) fl_X11_39 tc_83 rfl ?_
    refine r_iload (pc := 69) hR (dc dt_X11_changes 39 rfl) rfl ?_
    obtain ⟨g1, h⟩ := gd_some h
    refine r_iald (pc := 71) hR (dc dt_X11_changes 40 rfl) tc_93 g1 qv5 ?_
    obtain ⟨g1, h⟩ := gd_some h
    refine r_iast (pc := 72) hR (dc dt_X11_changes 41 rfl) tc_93 g1 (w32_in _) ?_
    replace h := stw_e h
    generalize wr m56 93 (w32 (v5 - 1)) (rd m56 93 v5) = m72 at h ⊢
    refine r_aload_n (pc := 73) hR (dc dt_X11_changes 42 rfl) rfl ?_
    refine r_getr (pc := 74) (k2 := 94) hR (dc dt_X11_changes 43 rfl) fl_X11_42 tc_83 rfl ?_
    refine r_iload (pc := 77) hR (dc dt_X11_changes 44 rfl) rfl ?_
    refine r_iconst (pc := 79) hR (dc dt_X11_changes 45 rfl) ?_
    refine r_isub (pc := 80) hR (dc dt_X11_changes 46 rfl) ?_
    refine r_aload_n (pc := 81) hR (dc dt_X11_changes 47 rfl) rfl ?_
    refine r_getr (pc := 82) (k2 := 94) hR (dc dt_X11_changes 48 rfl) fl_X11_42 tc_83 rfl ?_
    refine r_iload (pc := 85) hR (dc dt_X11_changes 49 rfl) rfl ?_
    obtain ⟨g1, h⟩ := gd_some h
    refine r_iald (pc := 87) hR (dc dt_X11_changes 50 rfl) tc_94 g1 qv5 ?_
    obtain ⟨g1, h⟩ := gd_some h
    refine r_iast (pc := 88) hR (dc dt_X11_changes 51 rfl) tc_94 g1 (w32_in _) ?_
    replace h := stw_e h
    generalize wr m72 94 (w32 (v5 - 1)) (rd m72 94 v5) = m88 at h ⊢
    refine r_aload_n (pc := 89) hR (dc dt_X11_changes 52 rfl) rfl ?_
    refine r_getr (pc := 90) (k2 := 95) hR (dc dt_X11_changes 53 rfl) fl_X11_45 tc_83 rfl ?_
    refine r_iload (pc := 93) hR (dc dt_X11_changes 54 rfl) rfl ?_
    refine r_iconst (pc := 95) hR (dc dt_X11_changes 55 rfl) ?_
    refine r_isub (pc := 96) hR (dc dt_X11_changes 56 rfl) ?_
    refine r_aload_n (pc := 97) hR (dc dt_X11_changes 57 rfl) rfl ?_
    refine r_getr (pc := 98) (k2 := 95) hR (dc dt_X11_changes 58 rfl) fl_X11_45 tc_83 rfl ?_
    refine r_iload (pc := 101) hR (dc dt_X11_changes 59 rfl) rfl ?_
    obtain ⟨g1, h⟩ := gd_some h
    refine r_iald (pc := 103) hR (dc dt_X11_changes 60 rfl) tc_95 g1 qv5 ?_
    obtain ⟨g1, h⟩ := gd_some h
    refine r_iast (pc := 104) hR (dc dt_X11_changes 61 rfl) tc_95 g1 (w32_in _) ?_
    replace h := stw_e h
    generalize wr m88 95 (w32 (v5 - 1)) (rd m88 95 v5) = m104 at h ⊢
    refine r_iinc (pc := 105) (L' := [some (.ref (ad 83)), some (iv v1), some (iv v2), some (iv v3), some (iv v4), some (iv (w32 (v5 + 1)))]) hR (dc dt_X11_changes 62 rfl) rfl (by decide) rfl rfl ?_
    refine r_goto (pc := 108) (tgt := 34) hR (dc dt_X11_changes 63 rfl) (by decide) ?_
    exact ih (w32 (v5 + 1)) m104 (w32_in _) h
set_option maxRecDepth 100000 in
set_option maxHeartbeats 4000000 in
theorem ok_F11_changes {m : Mem}  {v1 v2 v3 : Int} (q1 : inR v1) (q2 : inR v2) (q3 : inR v3) {out : Int × Mem} (h : F11_changes m v1 v2 v3 = some out) : CT l G cy ad tt yX11_changes cX11_changes 6 (some .int) 1 [.ref (ad 83), iv v1, iv v2, iv v3] m (some (iv out.1)) (inR out.1) out.2 := by
  refine CT_of (by decide) (Nat.le_of_ble_eq_true rfl) (fun Go hR hT => ?_)
  replace hR : RS l G cy ad tt RX11 cX11_changes 6 1 Go := hR
  show Go 0 [some (.ref (ad 83)), some (iv v1), some (iv v2), some (iv v3), none, none] [] m
  unfold F11_changes at h
  refine r_aload_n (pc := 0) hR (dc dt_X11_changes 0 rfl) rfl ?_
  refine r_iload_n (pc := 1) hR (dc dt_X11_changes 1 rfl) rfl ?_
  refine r_iload_n (pc := 2) hR (dc dt_X11_changes 2 rfl) rfl ?_
  obtain ⟨r3, e3, h⟩ := b1_some h
  refine r_callV (pc := 3) (rest := []) hR (dc dt_X11_changes 3 rfl) cl_X11_185 tc_83 rfl (ok_F11_valueAt q1 q2 e3) (by decide) rfl (Nat.le_of_ble_eq_true rfl) rfl (fun q3r => ?_)
  show Go 6 [some (.ref (ad 83)), some (iv v1), some (iv v2), some (iv v3), none, none] [iv r3] m
  refine r_istore (pc := 6) (L' := [some (.ref (ad 83)), some (iv v1), some (iv v2), some (iv v3), some (iv r3), none]) hR (dc dt_X11_changes 4 rfl) (by decide) rfl rfl ?_
  refine r_iload (pc := 8) hR (dc dt_X11_changes 5 rfl) rfl ?_
  refine r_iload_n (pc := 10) hR (dc dt_X11_changes 6 rfl) rfl ?_
  refine r_icmp_ne (pc := 11) (tgt := 17) hR (dc dt_X11_changes 7 rfl) (by decide) q3r q3 (fun hc => ?_) (fun hc => ?_)
  · replace h := ite_t hc h
    refine r_aload_n (pc := 17) hR (dc dt_X11_changes 10 rfl) rfl ?_
    refine r_iconst (pc := 18) hR (dc dt_X11_changes 11 rfl) ?_
    refine r_puti (pc := 19) hR (dc dt_X11_changes 12 rfl) fl_X11_188 tc_83 rfl rfl rfl ?_
    replace h := stw_e h
    generalize wr m 83 14 0 = m19 at h ⊢
    refine r_aload_n (pc := 22) hR (dc dt_X11_changes 13 rfl) rfl ?_
    refine r_geti (pc := 23) hR (dc dt_X11_changes 14 rfl) fl_X11_191 tc_83 rfl ?_
    refine r_bipush (pc := 26) hR (dc dt_X11_changes 15 rfl) (by decide) ?_
    refine jn_e h (fun (K : Mem → Option (Int × Mem)) => ∀ (m_121 : Mem), K m_121 = some out → Go 121 [some (.ref (ad 83)), some (iv v1), some (iv v2), some (iv v3), some (iv r3), none] [] m_121) (fun m_121 h => ?_) (fun K121 J121 h => ?_)
    · refine r_aload_n (pc := 121) hR (dc dt_X11_changes 70 rfl) rfl ?_
      refine r_getr (pc := 122) (k2 := 92) hR (dc dt_X11_changes 71 rfl) fl_X11_36 tc_83 rfl ?_
      refine r_aload_n (pc := 125) hR (dc dt_X11_changes 72 rfl) rfl ?_
      refine r_geti (pc := 126) hR (dc dt_X11_changes 73 rfl) fl_X11_191 tc_83 rfl ?_
      refine r_iload_n (pc := 129) hR (dc dt_X11_changes 74 rfl) rfl ?_
      obtain ⟨g1, h⟩ := gd_some h
      refine r_iast (pc := 130) hR (dc dt_X11_changes 75 rfl) tc_92 g1 (rd_in _ _ _) ?_
      replace h := stw_e h
      generalize wr m_121 92 (rd m_121 83 13) v1 = m130 at h ⊢
      refine r_aload_n (pc := 131) hR (dc dt_X11_changes 76 rfl) rfl ?_
      refine r_getr (pc := 132) (k2 := 93) hR (dc dt_X11_changes 77 rfl) fl_X11_39 tc_83 rfl ?_
      refine r_aload_n (pc := 135) hR (dc dt_X11_changes 78 rfl) rfl ?_
      refine r_geti (pc := 136) hR (dc dt_X11_changes 79 rfl) fl_X11_191 tc_83 rfl ?_
      refine r_iload_n (pc := 139) hR (dc dt_X11_changes 80 rfl) rfl ?_
      obtain ⟨g1, h⟩ := gd_some h
      refine r_iast (pc := 140) hR (dc dt_X11_changes 81 rfl) tc_93 g1 (rd_in _ _ _) ?_
      replace h := stw_e h
      generalize wr m130 93 (rd m130 83 13) v2 = m140 at h ⊢
      refine r_aload_n (pc := 141) hR (dc dt_X11_changes 82 rfl) rfl ?_
      refine r_getr (pc := 142) (k2 := 94) hR (dc dt_X11_changes 83 rfl) fl_X11_42 tc_83 rfl ?_
      refine r_aload_n (pc := 145) hR (dc dt_X11_changes 84 rfl) rfl ?_
      refine r_geti (pc := 146) hR (dc dt_X11_changes 85 rfl) fl_X11_191 tc_83 rfl ?_
      refine r_iload (pc := 149) hR (dc dt_X11_changes 86 rfl) rfl ?_
      obtain ⟨g1, h⟩ := gd_some h
      refine r_iast (pc := 151) hR (dc dt_X11_changes 87 rfl) tc_94 g1 (rd_in _ _ _) ?_
      replace h := stw_e h
      generalize wr m140 94 (rd m140 83 13) r3 = m151 at h ⊢
      refine r_aload_n (pc := 152) hR (dc dt_X11_changes 88 rfl) rfl ?_
      refine r_getr (pc := 153) (k2 := 95) hR (dc dt_X11_changes 89 rfl) fl_X11_45 tc_83 rfl ?_
      refine r_aload_n (pc := 156) hR (dc dt_X11_changes 90 rfl) rfl ?_
      refine r_geti (pc := 157) hR (dc dt_X11_changes 91 rfl) fl_X11_191 tc_83 rfl ?_
      refine r_iload_n (pc := 160) hR (dc dt_X11_changes 92 rfl) rfl ?_
      obtain ⟨g1, h⟩ := gd_some h
      refine r_iast (pc := 161) hR (dc dt_X11_changes 93 rfl) tc_95 g1 (rd_in _ _ _) ?_
      replace h := stw_e h
      generalize wr m151 95 (rd m151 83 13) v3 = m161 at h ⊢
      refine r_aload_n (pc := 162) hR (dc dt_X11_changes 94 rfl) rfl ?_
      refine r_dup (pc := 163) hR (dc dt_X11_changes 95 rfl) rfl ?_
      refine r_geti (pc := 164) hR (dc dt_X11_changes 96 rfl) fl_X11_191 tc_83 rfl ?_
      refine r_iconst (pc := 167) hR (dc dt_X11_changes 97 rfl) ?_
      refine r_iadd (pc := 168) hR (dc dt_X11_changes 98 rfl) ?_
      refine r_puti (pc := 169) hR (dc dt_X11_changes 99 rfl) fl_X11_191 tc_83 rfl rfl rfl ?_
      replace h := stw_e h
      generalize wr m161 83 13 (w32 ((rd m161 83 13) + 1)) = m169 at h ⊢
      refine r_aload_n (pc := 172) hR (dc dt_X11_changes 100 rfl) rfl ?_
      refine r_iload_n (pc := 173) hR (dc dt_X11_changes 101 rfl) rfl ?_
      refine r_iload_n (pc := 174) hR (dc dt_X11_changes 102 rfl) rfl ?_
      refine r_iload_n (pc := 175) hR (dc dt_X11_changes 103 rfl) rfl ?_
      obtain ⟨m176, e176, h⟩ := b1_some h
      refine r_callV (pc := 176) (rest := []) hR (dc dt_X11_changes 104 rfl) cl_X11_194 tc_83 rfl (ok_F11_set q1 q2 q3 e176) (by decide) rfl (Nat.le_of_ble_eq_true rfl) rfl (fun q176r => ?_)
      show Go 179 [some (.ref (ad 83)), some (iv v1), some (iv v2), some (iv v3), some (iv r3), none] [] m176
      refine r_aload_n (pc := 179) hR (dc dt_X11_changes 105 rfl) rfl ?_
      refine r_iconst (pc := 180) hR (dc dt_X11_changes 106 rfl) ?_
      refine r_puti (pc := 181) hR (dc dt_X11_changes 107 rfl) fl_X11_198 tc_83 rfl (narZ (Or.inl rfl)) rfl ?_
      replace h := stw_e h
      generalize wr m176 83 31 0 = m181 at h ⊢
      refine r_iload (pc := 184) hR (dc dt_X11_changes 108 rfl) rfl ?_
      exact r_iret hT (dc dt_X11_changes 109 rfl) (congrArg Prod.fst (Option.some.inj h)) (congrArg Prod.snd (Option.some.inj h)) q3r
    refine r_icmp_ne (pc := 28) (tgt := 121) hR (dc dt_X11_changes 16 rfl) (by decide) (rd_in _ _ _) (rg_c rfl) (fun hc => ?_) (fun hc => ?_)
    · replace h := ite_t hc h
      exact J121 m19 h
    replace h := ite_f hc h
    refine r_iconst (pc := 31) hR (dc dt_X11_changes 17 rfl) ?_
    refine r_istore (pc := 32) (L' := [some (.ref (ad 83)), some (iv v1), some (iv v2), some (iv v3), some (iv r3), some (iv 1)]) hR (dc dt_X11_changes 18 rfl) (by decide) rfl rfl ?_
    refine lp_L11_changes_34 hR hT q1 q2 q3 q3r (fun m_111 h => ?_) FU 1 m19 (rg_c rfl) h
    show Go 111 [some (.ref (ad 83)), some (iv v1), some (iv v2), some (iv v3), some (iv r3), none] [] m_111
    refine r_aload_n (pc := 111) hR (dc dt_X11_changes 64 rfl) rfl ?_
    refine r_dup (pc := 112) hR (dc dt_X11_changes 65 rfl) rfl ?_
    refine r_geti (pc := 113) hR (dc dt_X11_changes 66 rfl) fl_X11_191 tc_83 rfl ?_
    refine r_iconst (pc := 116) hR (dc dt_X11_changes 67 rfl) ?_
    refine r_isub (pc := 117) hR (dc dt_X11_changes 68 rfl) ?_
    refine r_puti (pc := 118) hR (dc dt_X11_changes 69 rfl) fl_X11_191 tc_83 rfl rfl rfl ?_
    replace h := stw_e h
    generalize wr m_111 83 13 (w32 ((rd m_111 83 13) - 1)) = m118 at h ⊢
    exact J121 m118 h
  replace h := ite_f hc h
  refine r_iload (pc := 14) hR (dc dt_X11_changes 8 rfl) rfl ?_
  exact r_iret hT (dc dt_X11_changes 9 rfl) (congrArg Prod.fst (Option.some.inj h)) (congrArg Prod.snd (Option.some.inj h)) q3r
def tb_X11_undo : List (Nat × (Instr × Nat)) := [(0, (.aload_n 0, 1)), (1, (.getfield 191, 3)), (4, (.ifCond .ne 6, 3)), (7, (.bipush (-5), 2)), (9, (.ireturn, 1)), (10, (.aload_n 0, 1)), (11, (.dup, 1)), (12, (.getfield 191, 3)), (15, (.iconst 1, 1)), (16, (.isub, 1)), (17, (.putfield 191, 3)), (20, (.aload_n 0, 1)), (21, (.dup, 1)), (22, (.getfield 188, 3)), (25, (.iconst 1, 1)), (26, (.iadd, 1)), (27, (.putfield 188, 3)), (30, (.aload_n 0, 1)), (31, (.aload_n 0, 1)), (32, (.getfield 36, 3)), (35, (.aload_n 0, 1)), (36, (.getfield 191, 3)), (39, (.iaload, 1)), (40, (.aload_n 0, 1)), (41, (.getfield 39, 3)), (44, (.aload_n 0, 1)), (45, (.getfield 191, 3)), (48, (.iaload, 1)), (49, (.aload_n 0, 1)), (50, (.getfield 42, 3)), (53, (.aload_n 0, 1)), (54, (.getfield 191, 3)), (57, (.iaload, 1)), (58, (.invokevirtual 194, 3)), (61, (.aload_n 0, 1)), (62, (.iconst 0, 1)), (63, (.putfield 198, 3)), (66, (.aload_n 0, 1)), (67, (.getfield 191, 3)), (70, (.ireturn, 1))]
set_option maxRecDepth 100000 in
theorem dt_X11_undo : (tb_X11_undo.all fun q => decide (decode cX11_undo q.1 = .ok q.2)) = true := by decide +kernel
set_option maxRecDepth 100000 in
set_option maxHeartbeats 4000000 in
theorem ok_F11_undo {m : Mem}   {out : Int × Mem} (h : F11_undo m = some out) : CT l G cy ad tt yX11_undo cX11_undo 1 (some .int) 1 [.ref (ad 83)] m (some (iv out.1)) (inR out.1) out.2 := by
  refine CT_of (by decide) (Nat.le_of_ble_eq_true rfl) (fun Go hR hT => ?_)
  replace hR : RS l G cy ad tt RX11 cX11_undo 1 1 Go := hR
  show Go 0 [some (.ref (ad 83))] [] m
  unfold F11_undo at h
  refine r_aload_n (pc := 0) hR (dc dt_X11_undo 0 rfl) rfl ?_
  refine r_geti (pc := 1) hR (dc dt_X11_undo 1 rfl) fl_X11_191 tc_83 rfl ?_
  refine r_if_ne (pc := 4) (tgt := 10) hR (dc dt_X11_undo 2 rfl) (by decide) (rd_in _ _ _) (fun hc => ?_) (fun hc => ?_)
  · replace h := ite_t hc h
    refine r_aload_n (pc := 10) hR (dc dt_X11_undo 5 rfl) rfl ?_
    refine r_dup (pc := 11) hR (dc dt_X11_undo 6 rfl) rfl ?_
    refine r_geti (pc := 12) hR (dc dt_X11_undo 7 rfl) fl_X11_191 tc_83 rfl ?_
    refine r_iconst (pc := 15) hR (dc dt_X11_undo 8 rfl) ?_
    refine r_isub (pc := 16) hR (dc dt_X11_undo 9 rfl) ?_
    refine r_puti (pc := 17) hR (dc dt_X11_undo 10 rfl) fl_X11_191 tc_83 rfl rfl rfl ?_
    replace h := stw_e h
    generalize wr m 83 13 (w32 ((rd m 83 13) - 1)) = m17 at h ⊢
    refine r_aload_n (pc := 20) hR (dc dt_X11_undo 11 rfl) rfl ?_
    refine r_dup (pc := 21) hR (dc dt_X11_undo 12 rfl) rfl ?_
    refine r_geti (pc := 22) hR (dc dt_X11_undo 13 rfl) fl_X11_188 tc_83 rfl ?_
    refine r_iconst (pc := 25) hR (dc dt_X11_undo 14 rfl) ?_
    refine r_iadd (pc := 26) hR (dc dt_X11_undo 15 rfl) ?_
    refine r_puti (pc := 27) hR (dc dt_X11_undo 16 rfl) fl_X11_188 tc_83 rfl rfl rfl ?_
    replace h := stw_e h
    generalize wr m17 83 14 (w32 ((rd m17 83 14) + 1)) = m27 at h ⊢
    refine r_aload_n (pc := 30) hR (dc dt_X11_undo 17 rfl) rfl ?_
    refine r_aload_n (pc := 31) hR (dc dt_X11_undo 18 rfl) rfl ?_
    refine r_getr (pc := 32) (k2 := 92) hR (dc dt_X11_undo 19 rfl) fl_X11_36 tc_83 rfl ?_
    refine r_aload_n (pc := 35) hR (dc dt_X11_undo 20 rfl) rfl ?_
    refine r_geti (pc := 36) hR (dc dt_X11_undo 21 rfl) fl_X11_191 tc_83 rfl ?_
    obtain ⟨g1, h⟩ := gd_some h
    refine r_iald (pc := 39) hR (dc dt_X11_undo 22 rfl) tc_92 g1 (rd_in _ _ _) ?_
    refine r_aload_n (pc := 40) hR (dc dt_X11_undo 23 rfl) rfl ?_
    refine r_getr (pc := 41) (k2 := 93) hR (dc dt_X11_undo 24 rfl) fl_X11_39 tc_83 rfl ?_
    refine r_aload_n (pc := 44) hR (dc dt_X11_undo 25 rfl) rfl ?_
    refine r_geti (pc := 45) hR (dc dt_X11_undo 26 rfl) fl_X11_191 tc_83 rfl ?_
    obtain ⟨g1, h⟩ := gd_some h
    refine r_iald (pc := 48) hR (dc dt_X11_undo 27 rfl) tc_93 g1 (rd_in _ _ _) ?_
    refine r_aload_n (pc := 49) hR (dc dt_X11_undo 28 rfl) rfl ?_
    refine r_getr (pc := 50) (k2 := 94) hR (dc dt_X11_undo 29 rfl) fl_X11_42 tc_83 rfl ?_
    refine r_aload_n (pc := 53) hR (dc dt_X11_undo 30 rfl) rfl ?_
    refine r_geti (pc := 54) hR (dc dt_X11_undo 31 rfl) fl_X11_191 tc_83 rfl ?_
    obtain ⟨g1, h⟩ := gd_some h
    refine r_iald (pc := 57) hR (dc dt_X11_undo 32 rfl) tc_94 g1 (rd_in _ _ _) ?_
    obtain ⟨m58, e58, h⟩ := b1_some h
    refine r_callV (pc := 58) (rest := []) hR (dc dt_X11_undo 33 rfl) cl_X11_194 tc_83 rfl (ok_F11_set (rd_in _ _ _) (rd_in _ _ _) (rd_in _ _ _) e58) (by decide) rfl (Nat.le_of_ble_eq_true rfl) rfl (fun q58r => ?_)
    show Go 61 [some (.ref (ad 83))] [] m58
    refine r_aload_n (pc := 61) hR (dc dt_X11_undo 34 rfl) rfl ?_
    refine r_iconst (pc := 62) hR (dc dt_X11_undo 35 rfl) ?_
    refine r_puti (pc := 63) hR (dc dt_X11_undo 36 rfl) fl_X11_198 tc_83 rfl (narZ (Or.inl rfl)) rfl ?_
    replace h := stw_e h
    generalize wr m58 83 31 0 = m63 at h ⊢
    refine r_aload_n (pc := 66) hR (dc dt_X11_undo 37 rfl) rfl ?_
    refine r_geti (pc := 67) hR (dc dt_X11_undo 38 rfl) fl_X11_191 tc_83 rfl ?_
    exact r_iret hT (dc dt_X11_undo 39 rfl) (congrArg Prod.fst (Option.some.inj h)) (congrArg Prod.snd (Option.some.inj h)) (rd_in _ _ _)
  replace h := ite_f hc h
  refine r_bipush (pc := 7) hR (dc dt_X11_undo 3 rfl) (by decide) ?_
  exact r_iret hT (dc dt_X11_undo 4 rfl) (congrArg Prod.fst (Option.some.inj h)) (congrArg Prod.snd (Option.some.inj h)) (rg_c rfl)
def tb_X11_redo : List (Nat × (Instr × Nat)) := [(0, (.aload_n 0, 1)), (1, (.getfield 188, 3)), (4, (.ifCond .ne 6, 3)), (7, (.bipush (-5), 2)), (9, (.ireturn, 1)), (10, (.aload_n 0, 1)), (11, (.aload_n 0, 1)), (12, (.getfield 36, 3)), (15, (.aload_n 0, 1)), (16, (.getfield 191, 3)), (19, (.iaload, 1)), (20, (.aload_n 0, 1)), (21, (.getfield 39, 3)), (24, (.aload_n 0, 1)), (25, (.getfield 191, 3)), (28, (.iaload, 1)), (29, (.aload_n 0, 1)), (30, (.getfield 45, 3)), (33, (.aload_n 0, 1)), (34, (.getfield 191, 3)), (37, (.iaload, 1)), (38, (.invokevirtual 194, 3)), (41, (.aload_n 0, 1)), (42, (.dup, 1)), (43, (.getfield 191, 3)), (46, (.iconst 1, 1)), (47, (.iadd, 1)), (48, (.putfield 191, 3)), (51, (.aload_n 0, 1)), (52, (.dup, 1)), (53, (.getfield 188, 3)), (56, (.iconst 1, 1)), (57, (.isub, 1)), (58, (.putfield 188, 3)), (61, (.aload_n 0, 1)), (62, (.iconst 0, 1)), (63, (.putfield 198, 3)), (66, (.aload_n 0, 1)), (67, (.getfield 188, 3)), (70, (.ireturn, 1))]
set_option maxRecDepth 100000 in
theorem dt_X11_redo : (tb_X11_redo.all fun q => decide (decode cX11_redo q.1 = .ok q.2)) = true := by decide +kernel
set_option maxRecDepth 100000 in
set_option maxHeartbeats 4000000 in
theorem ok_F11_redo {m : Mem}   {out : Int × Mem} (h : F11_redo m = some out) : CT l G cy ad tt yX11_redo cX11_redo 1 (some .int) 1 [.ref (ad 83)] m (some (iv out.1)) (inR out.1) out.2 := by
  refine CT_of (by decide) (Nat.le_of_ble_eq_true rfl) (fun Go hR hT => ?_)
  replace hR : RS l G cy ad tt RX11 cX11_redo 1 1 Go := hR
  show Go 0 [some (.ref (ad 83))] [] m
  unfold F11_redo at h
  refine r_aload_n (pc := 0) hR (dc dt_X11_redo 0 rfl) rfl ?_
  refine r_geti (pc := 1) hR (dc dt_X11_redo 1 rfl) fl_X11_188 tc_83 rfl ?_
  refine r_if_ne (pc := 4) (tgt := 10) hR (dc dt_X11_redo 2 rfl) (by decide) (rd_in _ _ _) (fun hc => ?_) (fun hc => ?_)
  · replace h := ite_t hc h
    refine r_aload_n (pc := 10) hR (dc dt_X11_redo 5 rfl) rfl ?_
    refine r_aload_n (pc := 11) hR (dc dt_X11_redo 6 rfl) rfl ?_
    refine r_getr (pc := 12) (k2 := 92) hR (dc dt_X11_redo 7 rfl) fl_X11_36 tc_83 rfl ?_
    refine r_aload_n (pc := 15) hR (dc dt_X11_redo 8 rfl) rfl ?_
    refine r_geti (pc := 16) hR (dc dt_X11_redo 9 rfl) fl_X11_191 tc_83 rfl ?_
    obtain ⟨g1, h⟩ := gd_some h
    refine r_iald (pc := 19) hR (dc dt_X11_redo 10 rfl) tc_92 g1 (rd_in _ _ _) ?_
    refine r_aload_n (pc := 20) hR (dc dt_X11_redo 11 rfl) rfl ?_
    refine r_getr (pc := 21) (k2 := 93) hR (dc dt_X11_redo 12 rfl) fl_X11_39 tc_83 rfl ?_
    refine r_aload_n (pc := 24) hR (dc dt_X11_redo 13 rfl) rfl ?_
    refine r_geti (pc := 25) hR (dc dt_X11_redo 14 rfl) fl_X11_191 tc_83 rfl ?_
    obtain ⟨g1, h⟩ := gd_some h
    refine r_iald (pc := 28) hR (dc dt_X11_redo 15 rfl) tc_93 g1 (rd_in _ _ _) ?_
    refine r_aload_n (pc := 29) hR (dc dt_X11_redo 16 rfl) rfl ?_
    refine r_getr (pc := 30) (k2 := 95) hR (dc dt_X11_redo 17 rfl) fl_X11_45 tc_83 rfl ?_
    refine r_aload_n (pc := 33) hR (dc dt_X11_redo 18 rfl) rfl ?_
    refine r_geti (pc := 34) hR (dc dt_X11_redo 19 rfl) fl_X11_191 tc_83 rfl ?_
    obtain ⟨g1, h⟩ := gd_some h
    refine r_iald (pc := 37) hR (dc dt_X11_redo 20 rfl) tc_95 g1 (rd_in _ _ _) ?_
    obtain ⟨m38, e38, h⟩ := b1_some h
    refine r_callV (pc := 38) (rest := []) hR (dc dt_X11_redo 21 rfl) cl_X11_194 tc_83 rfl (ok_F11_set (rd_in _ _ _) (rd_in _ _ _) (rd_in _ _ _) e38) (by decide) rfl (Nat.le_of_ble_eq_true rfl) rfl (fun q38r => ?_)
    show Go 41 [some (.ref (ad 83))] [] m38
    refine r_aload_n (pc := 41) hR (dc dt_X11_redo 22 rfl) rfl ?_
    refine r_dup (pc := 42) hR (dc dt_X11_redo 23 rfl) rfl ?_
    refine r_geti (pc := 43) hR (dc dt_X11_redo 24 rfl) fl_X11_191 tc_83 rfl ?_
    refine r_iconst (pc := 46) hR (dc dt_X11_redo 25 rfl) ?_
    refine r_iadd (pc := 47) hR (dc dt_X11_redo 26 rfl) ?_
    refine r_puti (pc := 48) hR (dc dt_X11_redo 27 rfl) fl_X11_191 tc_83 rfl rfl rfl ?_
    replace h := stw_e h
    generalize wr m38 83 13 (w32 ((rd m38 83 13) + 1)) = m48 at h ⊢
    refine r_aload_n (pc := 51) hR (dc dt_X11_redo 28 rfl) rfl ?_
    refine r_dup (pc := 52) hR (dc dt_X11_redo 29 rfl) rfl ?_
    refine r_geti (pc := 53) hR (dc dt_X11_redo 30 rfl) fl_X11_188 tc_83 rfl ?_
    refine r_iconst (pc := 56) hR (dc dt_X11_redo 31 rfl) ?_
    refine r_isub (pc := 57) hR (dc dt_X11_redo 32 rfl) ?_
    refine r_puti (pc := 58) hR (dc dt_X11_redo 33 rfl) fl_X11_188 tc_83 rfl rfl rfl ?_
    replace h := stw_e h
    generalize wr m48 83 14 (w32 ((rd m48 83 14) - 1)) = m58 at h ⊢
    refine r_aload_n (pc := 61) hR (dc dt_X11_redo 34 rfl) rfl ?_
    refine r_iconst (pc := 62) hR (dc dt_X11_redo 35 rfl) ?_
    refine r_puti (pc := 63) hR (dc dt_X11_redo 36 rfl) fl_X11_198 tc_83 rfl (narZ (Or.inl rfl)) rfl ?_
    replace h := stw_e h
    generalize wr m58 83 31 0 = m63 at h ⊢
    refine r_aload_n (pc := 66) hR (dc dt_X11_redo 37 rfl) rfl ?_
    refine r_geti (pc := 67) hR (dc dt_X11_redo 38 rfl) fl_X11_188 tc_83 rfl ?_
    exact r_iret hT (dc dt_X11_redo 39 rfl) (congrArg Prod.fst (Option.some.inj h)) (congrArg Prod.snd (Option.some.inj h)) (rd_in _ _ _)
  replace h := ite_f hc h
  refine r_bipush (pc := 7) hR (dc dt_X11_redo 3 rfl) (by decide) ?_
  exact r_iret hT (dc dt_X11_redo 4 rfl) (congrArg Prod.fst (Option.some.inj h)) (congrArg Prod.snd (Option.some.inj h)) (rg_c rfl)
def tb_X11_form : List (Nat × (Instr × Nat)) := [(0, (.aload_n 0, 1)), (1, (.iload_n 1, 1)), (2, (.invokevirtual 182, 3)), (5, (.ifCond .eq 32, 3)), (8, (.iload_n 2, 1)), (9, (.invokestatic 158, 3)), (12, (.ifCond .eq 25, 3)), (15, (.iload_n 3, 1)), (16, (.invokestatic 162, 3)), (19, (.ifCond .eq 18, 3)), (22, (.aload_n 0, 1)), (23, (.iconst 0, 1)), (24, (.bipush 16, 2)), (26, (.iload_n 1, 1)), (27, (.imul, 1)), (28, (.iload_n 2, 1)), (29, (.iadd, 1)), (30, (.iload_n 3, 1)), (31, (.invokevirtual 202, 3)), (34, (.goto 4, 3)), (37, (.iconst (-1), 1)), (38, (.ireturn, 1))]
set_option maxRecDepth 100000 in
theorem dt_X11_form : (tb_X11_form.all fun q => decide (decode cX11_form q.1 = .ok q.2)) = true := by decide +kernel
set_option maxRecDepth 100000 in
set_option maxHeartbeats 4000000 in
theorem ok_F11_form {m : Mem}  {v1 v2 v3 : Int} (q1 : inR v1) (q2 : inR v2) (q3 : inR v3) {out : Int × Mem} (h : F11_form m v1 v2 v3 = some out) : CT l G cy ad tt yX11_form cX11_form 4 (some .int) 2 [.ref (ad 83), iv v1, iv v2, iv v3] m (some (iv out.1)) (inR out.1) out.2 := by
  refine CT_of (by decide) (Nat.le_of_ble_eq_true rfl) (fun Go hR hT => ?_)
  replace hR : RS l G cy ad tt RX11 cX11_form 4 2 Go := hR
  show Go 0 [some (.ref (ad 83)), some (iv v1), some (iv v2), some (iv v3)] [] m
  unfold F11_form at h
  refine r_aload_n (pc := 0) hR (dc dt_X11_form 0 rfl) rfl ?_
  refine r_iload_n (pc := 1) hR (dc dt_X11_form 1 rfl) rfl ?_
  refine r_callV (pc := 2) (rest := []) hR (dc dt_X11_form 2 rfl) cl_X11_182 tc_83 rfl (ok_F11_isCharter q1) (by decide) rfl (Nat.le_of_ble_eq_true rfl) rfl (fun q2r => ?_)
  show Go 5 [some (.ref (ad 83)), some (iv v1), some (iv v2), some (iv v3)] [iv (F11_isCharter m v1)] m
  refine jn_e h (fun (K : Option (Int × Mem)) => K = some out → Go 37 [none, none, none, none] [] m) (fun h => ?_) (fun K37 J37 h => ?_)
  · refine r_iconst (pc := 37) hR (dc dt_X11_form 20 rfl) ?_
    exact r_iret hT (dc dt_X11_form 21 rfl) (congrArg Prod.fst (Option.some.inj h)) (congrArg Prod.snd (Option.some.inj h)) (rg_c rfl)
  refine r_if_eq (pc := 5) (tgt := 37) hR (dc dt_X11_form 3 rfl) (by decide) (inZ_R q2r) (fun hc => ?_) (fun hc => ?_)
  · replace h := ite_t hc h
    refine r_weak (L' := [none, none, none, none]) hR ⟨Or.inl rfl, Or.inl rfl, Or.inl rfl, Or.inl rfl, trivial⟩ ?_
    exact J37 h
  replace h := ite_f hc h
  refine r_iload_n (pc := 8) hR (dc dt_X11_form 4 rfl) rfl ?_
  refine r_callS (pc := 9) (rest := []) hR (dc dt_X11_form 5 rfl) cl_X11_158 (ok_F11_isClause q2) (by decide) rfl (Nat.le_of_ble_eq_true rfl) rfl (fun q9r => ?_)
  show Go 12 [some (.ref (ad 83)), some (iv v1), some (iv v2), some (iv v3)] [iv (F11_isClause v2)] m
  refine r_if_eq (pc := 12) (tgt := 37) hR (dc dt_X11_form 6 rfl) (by decide) (inZ_R q9r) (fun hc => ?_) (fun hc => ?_)
  · replace h := ite_t hc h
    refine r_weak (L' := [none, none, none, none]) hR ⟨Or.inl rfl, Or.inl rfl, Or.inl rfl, Or.inl rfl, trivial⟩ ?_
    exact J37 h
  replace h := ite_f hc h
  refine r_iload_n (pc := 15) hR (dc dt_X11_form 7 rfl) rfl ?_
  refine r_callS (pc := 16) (rest := []) hR (dc dt_X11_form 8 rfl) cl_X11_162 (ok_F11_isForm q3) (by decide) rfl (Nat.le_of_ble_eq_true rfl) rfl (fun q16r => ?_)
  show Go 19 [some (.ref (ad 83)), some (iv v1), some (iv v2), some (iv v3)] [iv (F11_isForm v3)] m
  refine r_if_eq (pc := 19) (tgt := 37) hR (dc dt_X11_form 9 rfl) (by decide) (inZ_R q16r) (fun hc => ?_) (fun hc => ?_)
  · replace h := ite_t hc h
    refine r_weak (L' := [none, none, none, none]) hR ⟨Or.inl rfl, Or.inl rfl, Or.inl rfl, Or.inl rfl, trivial⟩ ?_
    exact J37 h
  replace h := ite_f hc h
  refine r_aload_n (pc := 22) hR (dc dt_X11_form 10 rfl) rfl ?_
  refine r_iconst (pc := 23) hR (dc dt_X11_form 11 rfl) ?_
  refine r_bipush (pc := 24) hR (dc dt_X11_form 12 rfl) (by decide) ?_
  refine r_iload_n (pc := 26) hR (dc dt_X11_form 13 rfl) rfl ?_
  refine r_imul (pc := 27) hR (dc dt_X11_form 14 rfl) ?_
  refine r_iload_n (pc := 28) hR (dc dt_X11_form 15 rfl) rfl ?_
  refine r_iadd (pc := 29) hR (dc dt_X11_form 16 rfl) ?_
  refine r_iload_n (pc := 30) hR (dc dt_X11_form 17 rfl) rfl ?_
  obtain ⟨r31, m31, e31, h⟩ := b2_some h
  refine r_callV (pc := 31) (rest := []) hR (dc dt_X11_form 18 rfl) cl_X11_202 tc_83 rfl (ok_F11_changes (rg_c rfl) (w32_in _) q3 e31) (by decide) rfl (Nat.le_of_ble_eq_true rfl) rfl (fun q31r => ?_)
  show Go 34 [some (.ref (ad 83)), some (iv v1), some (iv v2), some (iv v3)] [iv r31] m31
  refine r_goto (pc := 34) (tgt := 38) hR (dc dt_X11_form 19 rfl) (by decide) ?_
  exact r_iret hT (dc dt_X11_form 21 rfl) (congrArg Prod.fst (Option.some.inj h)) (congrArg Prod.snd (Option.some.inj h)) q31r
def tb_X11_isShelf : List (Nat × (Instr × Nat)) := [(0, (.iload_n 0, 1)), (1, (.iconst 0, 1)), (2, (.iconst 5, 1)), (3, (.invokestatic 134, 3)), (6, (.ireturn, 1))]
set_option maxRecDepth 100000 in
theorem dt_X11_isShelf : (tb_X11_isShelf.all fun q => decide (decode cX11_isShelf q.1 = .ok q.2)) = true := by decide +kernel
set_option maxRecDepth 100000 in
set_option maxHeartbeats 4000000 in
theorem ok_F11_isShelf {m : Mem}  {v0 : Int} (q0 : inR v0) : CT l G cy ad tt yX11_isShelf cX11_isShelf 1 (some .boolean) 1 [iv v0] m (some (iv (F11_isShelf v0))) (inZ (F11_isShelf v0)) m := by
  refine CT_of (by decide) (Nat.le_of_ble_eq_true rfl) (fun Go hR hT => ?_)
  replace hR : RS l G cy ad tt RX11 cX11_isShelf 1 1 Go := hR
  show Go 0 [some (iv v0)] [] m
  obtain ⟨out, h⟩ : ∃ out, F11_isShelf v0 = out := ⟨_, rfl⟩
  rw [h] at hT
  unfold F11_isShelf at h
  refine r_iload_n (pc := 0) hR (dc dt_X11_isShelf 0 rfl) rfl ?_
  refine r_iconst (pc := 1) hR (dc dt_X11_isShelf 1 rfl) ?_
  refine r_iconst (pc := 2) hR (dc dt_X11_isShelf 2 rfl) ?_
  refine r_callS (pc := 3) (rest := []) hR (dc dt_X11_isShelf 3 rfl) cl_X11_134 (ok_F11_in q0 (rg_c rfl) (rg_c rfl)) (by decide) rfl (Nat.le_of_ble_eq_true rfl) rfl (fun q3r => ?_)
  show Go 6 [some (iv v0)] [iv (F11_in v0 0 5)] m
  exact r_zret hT (dc dt_X11_isShelf 4 rfl) h rfl q3r
def tb_X11_forms : List (Nat × (Instr × Nat)) := [(0, (.aload_n 0, 1)), (1, (.iload_n 1, 1)), (2, (.invokevirtual 182, 3)), (5, (.ifCond .eq 21, 3)), (8, (.iload_n 2, 1)), (9, (.invokestatic 206, 3)), (12, (.ifCond .eq 14, 3)), (15, (.iload 4, 2)), (17, (.iconst 1, 1)), (18, (.bipush 16, 2)), (20, (.invokestatic 134, 3)), (23, (.ifCond .ne 5, 3)), (26, (.iconst (-1), 1)), (27, (.ireturn, 1)), (28, (.aload_n 0, 1)), (29, (.getfield 117, 3)), (32, (.iload_n 2, 1)), (33, (.iaload, 1)), (34, (.iconst (-1), 1)), (35, (.if_icmp .eq 17, 3)), (38, (.aload_n 0, 1)), (39, (.getfield 117, 3)), (42, (.iload_n 2, 1)), (43, (.iaload, 1)), (44, (.bipush (-2), 2)), (46, (.if_icmp .eq 6, 3)), (49, (.bipush (-12), 2)), (51, (.ireturn, 1)), (52, (.aload_n 0, 1)), (53, (.getfield 117, 3)), (56, (.iload_n 2, 1)), (57, (.iaload, 1)), (58, (.iconst (-1), 1)), (59, (.if_icmp .ne 5, 3)), (62, (.iconst 0, 1)), (63, (.ireturn, 1)), (64, (.iconst 0, 1)), (65, (.istore 5, 2)), (67, (.iload 5, 2)), (69, (.iload 4, 2)), (71, (.if_icmp .ge 87, 3)), (74, (.iload_n 3, 1)), (75, (.i2l, 1)), (76, (.iload 5, 2)), (78, (.i2l, 1)), (79, (.ladd, 1)), (80, (.lstore 6, 2)), (82, (.lload 6, 2)), (84, (.lconst 0, 1)), (85, (.lcmp, 1)), (86, (.ifCond .lt 36, 3)), (89, (.lload 6, 2)), (91, (.aload_n 0, 1)), (92, (.getfield 120, 3)), (95, (.iload_n 2, 1)), (96, (.iaload, 1)), (97, (.i2l, 1)), (98, (.lcmp, 1)), (99, (.ifCond .ge 23, 3)), (102, (.aload_n 0, 1)), (103, (.getfield 123, 3)), (106, (.bipush 60, 2)), (108, (.iload_n 2, 1)), (109, (.imul, 1)), (110, (.lload 6, 2)), (112, (.l2i, 1)), (113, (.iadd, 1)), (114, (.laload, 1)), (115, (.l2i, 1)), (116, (.invokestatic 162, 3)), (119, (.ifCond .ne 6, 3)), (122, (.iload 5, 2)), (124, (.ireturn, 1)), (125, (.aload_n 0, 1)), (126, (.iconst 0, 1)), (127, (.bipush 16, 2)), (129, (.iload_n 1, 1)), (130, (.imul, 1)), (131, (.iload 5, 2)), (133, (.iadd, 1)), (134, (.aload_n 0, 1)), (135, (.getfield 123, 3)), (138, (.bipush 60, 2)), (140, (.iload_n 2, 1)), (141, (.imul, 1)), (142, (.lload 6, 2)), (144, (.l2i, 1)), (145, (.iadd, 1)), (146, (.laload, 1)), (147, (.l2i, 1)), (148, (.invokevirtual 202, 3)), (151, (.pop, 1)), (152, (.iinc 5 1, 3)), (155, (.goto (-88), 3)), (158, (.iload 4, 2)), (160, (.ireturn, 1))]
set_option maxRecDepth 100000 in
theorem dt_X11_forms : (tb_X11_forms.all fun q => decide (decode cX11_forms q.1 = .ok q.2)) = true := by decide +kernel
set_option maxRecDepth 100000 in
set_option maxHeartbeats 4000000 in
theorem lp_L11_forms_67 {Go : Nat → List (Option Value) → List Value → Mem → Prop} (hR : RS l G cy ad tt RX11 cX11_forms 8 2 Go) {out : Int × Mem} (hT : RT cX11_forms (some (iv out.1)) (inR out.1) out.2 (some .int) Go) {v1 : Int} {v2 : Int} {v3 : Int} {v4 : Int} (qv1 : inR v1) (qv2 : inR v2) (qv3 : inR v3) (qv4 : inR v4) : ∀ (n : Nat) (v5 : Int) (m : Mem), inR v5 → L11_forms_67 v1 v2 v3 v4 n v5 m = some out → Go 67 [some (.ref (ad 83)), some (iv v1), some (iv v2), some (iv v3), some (iv v4), some (iv v5), none, none] [] m := by
  intro n
  induction n with
  | zero =>
    intro v5 m qv5 h
    cases h
  | succ n ih =>
    intro v5 m qv5 h
    rw [L11_forms_67] at h
    refine r_iload (pc := 67) hR (dc dt_X11_forms 38 rfl) rfl ?_
    refine r_iload (pc := 69) hR (dc dt_X11_forms 39 rfl) rfl ?_
    refine r_icmp_ge (pc := 71) (tgt := 158) hR (dc dt_X11_forms 40 rfl) (by decide) qv5 qv4 (fun hc => ?_) (fun hc => ?_)
    · replace h := ite_t hc h
      refine r_iload (pc := 158) hR (dc dt_X11_forms 94 rfl) rfl ?_
      exact r_iret hT (dc dt_X11_forms 95 rfl) (congrArg Prod.fst (Option.some.inj h)) (congrArg Prod.snd (Option.some.inj h)) qv4
    replace h := ite_f hc h
    refine r_iload_n (pc := 74) hR (dc dt_X11_forms 41 rfl) rfl ?_
    refine r_i2l (pc := 75) hR (dc dt_X11_forms 42 rfl) qv3 ?_
    refine r_iload (pc := 76) hR (dc dt_X11_forms 43 rfl) rfl ?_
    refine r_i2l (pc := 78) hR (dc dt_X11_forms 44 rfl) qv5 ?_
    refine r_ladd (pc := 79) hR (dc dt_X11_forms 45 rfl) ?_
    refine r_lstore (pc := 80) (L' := [some (.ref (ad 83)), some (iv v1), some (iv v2), some (iv v3), some (iv v4), some (iv v5), some (jv (w64 (v3 + v5))), none]) hR (dc dt_X11_forms 46 rfl) (by decide) rfl rfl ?_
    refine r_lload (pc := 82) hR (dc dt_X11_forms 47 rfl) rfl ?_
    refine r_lconst (pc := 84) hR (dc dt_X11_forms 48 rfl) ?_
    show Go 85 [some (.ref (ad 83)), some (iv v1), some (iv v2), some (iv v3), some (iv v4), some (iv v5), some (jv (w64 (v3 + v5))), none] [jv 0, jv (w64 (v3 + v5))] m
    refine r_lcmp (pc := 85) hR (dc dt_X11_forms 49 rfl) (w64_in _) (rg_l (by decide)) ?_
    refine r_if_lt (pc := 86) (tgt := 122) hR (dc dt_X11_forms 50 rfl) (by decide) (lcm_in _ _) (fun hc => ?_) (fun hc => ?_)
    · replace h := ite_t hc h
      refine r_iload (pc := 122) hR (dc dt_X11_forms 71 rfl) rfl ?_
      exact r_iret hT (dc dt_X11_forms 72 rfl) (congrArg Prod.fst (Option.some.inj h)) (congrArg Prod.snd (Option.some.inj h)) qv5
    replace h := ite_f hc h
    refine r_lload (pc := 89) hR (dc dt_X11_forms 51 rfl) rfl ?_
    refine r_aload_n (pc := 91) hR (dc dt_X11_forms 52 rfl) rfl ?_
    refine r_getr (pc := 92) (k2 := 120) hR (dc dt_X11_forms 53 rfl) fl_X11_120 tc_83 rfl ?_
    refine r_iload_n (pc := 95) hR (dc dt_X11_forms 54 rfl) rfl ?_
    obtain ⟨g1, h⟩ := gd_some h
    refine r_iald (pc := 96) hR (dc dt_X11_forms 55 rfl) tc_120 g1 qv2 ?_
    refine r_i2l (pc := 97) hR (dc dt_X11_forms 56 rfl) (rd_in _ _ _) ?_
    refine r_lcmp (pc := 98) hR (dc dt_X11_forms 57 rfl) (w64_in _) (R_L (rd_in _ _ _)) ?_
    refine r_if_ge (pc := 99) (tgt := 122) hR (dc dt_X11_forms 58 rfl) (by decide) (lcm_in _ _) (fun hc => ?_) (fun hc => ?_)
    · replace h := ite_t hc h
      refine r_iload (pc := 122) hR (dc dt_X11_forms 71 rfl) rfl ?_
      exact r_iret hT (dc dt_X11_forms 72 rfl) (congrArg Prod.fst (Option.some.inj h)) (congrArg Prod.snd (Option.some.inj h)) qv5
    replace h := ite_f hc h
    refine r_aload_n (pc := 102) hR (dc dt_X11_forms 59 rfl) rfl ?_
    refine r_getr (pc := 103) (k2 := 121) hR (dc dt_X11_forms 60 rfl) fl_X11_123 tc_83 rfl ?_
    refine r_bipush (pc := 106) hR (dc dt_X11_forms 61 rfl) (by decide) ?_
    refine r_iload_n (pc := 108) hR (dc dt_X11_forms 62 rfl) rfl ?_
    refine r_imul (pc := 109) hR (dc dt_X11_forms 63 rfl) ?_
    refine r_lload (pc := 110) hR (dc dt_X11_forms 64 rfl) rfl ?_
    refine r_l2i (pc := 112) hR (dc dt_X11_forms 65 rfl) ?_
    refine r_iadd (pc := 113) hR (dc dt_X11_forms 66 rfl) ?_
    obtain ⟨g1, h⟩ := gd_some h
    refine r_lald (pc := 114) hR (dc dt_X11_forms 67 rfl) tc_121 g1 (w32_in _) ?_
    refine r_l2i (pc := 115) hR (dc dt_X11_forms 68 rfl) ?_
    refine r_callS (pc := 116) (rest := []) hR (dc dt_X11_forms 69 rfl) cl_X11_162 (ok_F11_isForm (w32_in _)) (by decide) rfl (Nat.le_of_ble_eq_true rfl) rfl (fun q116r => ?_)
    show Go 119 [some (.ref (ad 83)), some (iv v1), some (iv v2), some (iv v3), some (iv v4), some (iv v5), some (jv (w64 (v3 + v5))), none] [iv (F11_isForm (w32 (rl m 121 (w32 ((w32 (60 * v2)) + (w32 (w64 (v3 + v5))))))))] m
    refine r_if_ne (pc := 119) (tgt := 125) hR (dc dt_X11_forms 70 rfl) (by decide) (inZ_R q116r) (fun hc => ?_) (fun hc => ?_)
    · replace h := ite_t hc h
      refine r_aload_n (pc := 125) hR (dc dt_X11_forms 73 rfl) rfl ?_
      refine r_iconst (pc := 126) hR (dc dt_X11_forms 74 rfl) ?_
      refine r_bipush (pc := 127) hR (dc dt_X11_forms 75 rfl) (by decide) ?_
      refine r_iload_n (pc := 129) hR (dc dt_X11_forms 76 rfl) rfl ?_
      refine r_imul (pc := 130) hR (dc dt_X11_forms 77 rfl) ?_
      refine r_iload (pc := 131) hR (dc dt_X11_forms 78 rfl) rfl ?_
      refine r_iadd (pc := 133) hR (dc dt_X11_forms 79 rfl) ?_
      refine r_aload_n (pc := 134) hR (dc dt_X11_forms 80 rfl) rfl ?_
      refine r_getr (pc := 135) (k2 := 121) hR (dc dt_X11_forms 81 rfl) fl_X11_123 tc_83 rfl ?_
      refine r_bipush (pc := 138) hR (dc dt_X11_forms 82 rfl) (by decide) ?_
      refine r_iload_n (pc := 140) hR (dc dt_X11_forms 83 rfl) rfl ?_
      refine r_imul (pc := 141) hR (dc dt_X11_forms 84 rfl) ?_
      refine r_lload (pc := 142) hR (dc dt_X11_forms 85 rfl) rfl ?_
      refine r_l2i (pc := 144) hR (dc dt_X11_forms 86 rfl) ?_
      refine r_iadd (pc := 145) hR (dc dt_X11_forms 87 rfl) ?_
      obtain ⟨g1, h⟩ := gd_some h
      refine r_lald (pc := 146) hR (dc dt_X11_forms 88 rfl) tc_121 g1 (w32_in _) ?_
      refine r_l2i (pc := 147) hR (dc dt_X11_forms 89 rfl) ?_
      obtain ⟨r148, m148, e148, h⟩ := b2_some h
      refine r_callV (pc := 148) (rest := []) hR (dc dt_X11_forms 90 rfl) cl_X11_202 tc_83 rfl (ok_F11_changes (rg_c rfl) (w32_in _) (w32_in _) e148) (by decide) rfl (Nat.le_of_ble_eq_true rfl) rfl (fun q148r => ?_)
      show Go 151 [some (.ref (ad 83)), some (iv v1), some (iv v2), some (iv v3), some (iv v4), some (iv v5), some (jv (w64 (v3 + v5))), none] [iv r148] m148
      refine r_pop (pc := 151) hR (dc dt_X11_forms 91 rfl) rfl ?_
      refine r_iinc (pc := 152) (L' := [some (.ref (ad 83)), some (iv v1), some (iv v2), some (iv v3), some (iv v4), some (iv (w32 (v5 + 1))), some (jv (w64 (v3 + v5))), none]) hR (dc dt_X11_forms 92 rfl) rfl (by decide) rfl rfl ?_
      refine r_goto (pc := 155) (tgt := 67) hR (dc dt_X11_forms 93 rfl) (by decide) ?_
      refine r_weak (L' := [some (.ref (ad 83)), some (iv v1), some (iv v2), some (iv v3), some (iv v4), some (iv (w32 (v5 + 1))), none, none]) hR ⟨Or.inr rfl, Or.inr rfl, Or.inr rfl, Or.inr rfl, Or.inr rfl, Or.inr rfl, Or.inl rfl, Or.inr rfl, trivial⟩ ?_
      exact ih (w32 (v5 + 1)) m148 (w32_in _) h
    replace h := ite_f hc h
    refine r_iload (pc := 122) hR (dc dt_X11_forms 71 rfl) rfl ?_
    exact r_iret hT (dc dt_X11_forms 72 rfl) (congrArg Prod.fst (Option.some.inj h)) (congrArg Prod.snd (Option.some.inj h)) qv5
set_option maxRecDepth 100000 in
set_option maxHeartbeats 4000000 in
theorem ok_F11_forms {m : Mem}  {v1 v2 v3 v4 : Int} (q1 : inR v1) (q2 : inR v2) (q3 : inR v3) (q4 : inR v4) {out : Int × Mem} (h : F11_forms m v1 v2 v3 v4 = some out) : CT l G cy ad tt yX11_forms cX11_forms 8 (some .int) 2 [.ref (ad 83), iv v1, iv v2, iv v3, iv v4] m (some (iv out.1)) (inR out.1) out.2 := by
  refine CT_of (by decide) (Nat.le_of_ble_eq_true rfl) (fun Go hR hT => ?_)
  replace hR : RS l G cy ad tt RX11 cX11_forms 8 2 Go := hR
  show Go 0 [some (.ref (ad 83)), some (iv v1), some (iv v2), some (iv v3), some (iv v4), none, none, none] [] m
  unfold F11_forms at h
  refine r_aload_n (pc := 0) hR (dc dt_X11_forms 0 rfl) rfl ?_
  refine r_iload_n (pc := 1) hR (dc dt_X11_forms 1 rfl) rfl ?_
  refine r_callV (pc := 2) (rest := []) hR (dc dt_X11_forms 2 rfl) cl_X11_182 tc_83 rfl (ok_F11_isCharter q1) (by decide) rfl (Nat.le_of_ble_eq_true rfl) rfl (fun q2r => ?_)
  show Go 5 [some (.ref (ad 83)), some (iv v1), some (iv v2), some (iv v3), some (iv v4), none, none, none] [iv (F11_isCharter m v1)] m
  refine r_if_eq (pc := 5) (tgt := 26) hR (dc dt_X11_forms 3 rfl) (by decide) (inZ_R q2r) (fun hc => ?_) (fun hc => ?_)
  · replace h := ite_t hc h
    refine r_iconst (pc := 26) hR (dc dt_X11_forms 12 rfl) ?_
    exact r_iret hT (dc dt_X11_forms 13 rfl) (congrArg Prod.fst (Option.some.inj h)) (congrArg Prod.snd (Option.some.inj h)) (rg_c rfl)
  replace h := ite_f hc h
  refine r_iload_n (pc := 8) hR (dc dt_X11_forms 4 rfl) rfl ?_
  refine r_callS (pc := 9) (rest := []) hR (dc dt_X11_forms 5 rfl) cl_X11_206 (ok_F11_isShelf q2) (by decide) rfl (Nat.le_of_ble_eq_true rfl) rfl (fun q9r => ?_)
  show Go 12 [some (.ref (ad 83)), some (iv v1), some (iv v2), some (iv v3), some (iv v4), none, none, none] [iv (F11_isShelf v2)] m
  refine r_if_eq (pc := 12) (tgt := 26) hR (dc dt_X11_forms 6 rfl) (by decide) (inZ_R q9r) (fun hc => ?_) (fun hc => ?_)
  · replace h := ite_t hc h
    refine r_iconst (pc := 26) hR (dc dt_X11_forms 12 rfl) ?_
    exact r_iret hT (dc dt_X11_forms 13 rfl) (congrArg Prod.fst (Option.some.inj h)) (congrArg Prod.snd (Option.some.inj h)) (rg_c rfl)
  replace h := ite_f hc h
  refine r_iload (pc := 15) hR (dc dt_X11_forms 7 rfl) rfl ?_
  refine r_iconst (pc := 17) hR (dc dt_X11_forms 8 rfl) ?_
  refine r_bipush (pc := 18) hR (dc dt_X11_forms 9 rfl) (by decide) ?_
  refine r_callS (pc := 20) (rest := []) hR (dc dt_X11_forms 10 rfl) cl_X11_134 (ok_F11_in q4 (rg_c rfl) (rg_c rfl)) (by decide) rfl (Nat.le_of_ble_eq_true rfl) rfl (fun q20r => ?_)
  show Go 23 [some (.ref (ad 83)), some (iv v1), some (iv v2), some (iv v3), some (iv v4), none, none, none] [iv (F11_in v4 1 16)] m
  refine r_if_ne (pc := 23) (tgt := 28) hR (dc dt_X11_forms 11 rfl) (by decide) (inZ_R q20r) (fun hc => ?_) (fun hc => ?_)
  · replace h := ite_t hc h
    refine r_aload_n (pc := 28) hR (dc dt_X11_forms 14 rfl) rfl ?_
    refine r_getr (pc := 29) (k2 := 119) hR (dc dt_X11_forms 15 rfl) fl_X11_117 tc_83 rfl ?_
    refine r_iload_n (pc := 32) hR (dc dt_X11_forms 16 rfl) rfl ?_
    obtain ⟨g1, h⟩ := gd_some h
    refine r_iald (pc := 33) hR (dc dt_X11_forms 17 rfl) tc_119 g1 q2 ?_
    refine r_iconst (pc := 34) hR (dc dt_X11_forms 18 rfl) ?_
    refine jn_e h (fun (K : Option (Int × Mem)) => K = some out → Go 52 [some (.ref (ad 83)), some (iv v1), some (iv v2), some (iv v3), some (iv v4), none, none, none] [] m) (fun h => ?_) (fun K52 J52 h => ?_)
    · refine r_aload_n (pc := 52) hR (dc dt_X11_forms 28 rfl) rfl ?_
      refine r_getr (pc := 53) (k2 := 119) hR (dc dt_X11_forms 29 rfl) fl_X11_117 tc_83 rfl ?_
      refine r_iload_n (pc := 56) hR (dc dt_X11_forms 30 rfl) rfl ?_
      obtain ⟨g1, h⟩ := gd_some h
      refine r_iald (pc := 57) hR (dc dt_X11_forms 31 rfl) tc_119 g1 q2 ?_
      refine r_iconst (pc := 58) hR (dc dt_X11_forms 32 rfl) ?_
      refine r_icmp_ne (pc := 59) (tgt := 64) hR (dc dt_X11_forms 33 rfl) (by decide) (rd_in _ _ _) (rg_c rfl) (fun hc => ?_) (fun hc => ?_)
      · replace h := ite_t hc h
        refine r_iconst (pc := 64) hR (dc dt_X11_forms 36 rfl) ?_
        refine r_istore (pc := 65) (L' := [some (.ref (ad 83)), some (iv v1), some (iv v2), some (iv v3), some (iv v4), some (iv 0), none, none]) hR (dc dt_X11_forms 37 rfl) (by decide) rfl rfl ?_
        refine lp_L11_forms_67 hR hT q1 q2 q3 q4 FU 0 m (rg_c rfl) h
      replace h := ite_f hc h
      refine r_iconst (pc := 62) hR (dc dt_X11_forms 34 rfl) ?_
      exact r_iret hT (dc dt_X11_forms 35 rfl) (congrArg Prod.fst (Option.some.inj h)) (congrArg Prod.snd (Option.some.inj h)) (rg_c rfl)
    refine r_icmp_eq (pc := 35) (tgt := 52) hR (dc dt_X11_forms 19 rfl) (by decide) (rd_in _ _ _) (rg_c rfl) (fun hc => ?_) (fun hc => ?_)
    · replace h := ite_t hc h
      exact J52 h
    replace h := ite_f hc h
    refine r_aload_n (pc := 38) hR (dc dt_X11_forms 20 rfl) rfl ?_
    refine r_getr (pc := 39) (k2 := 119) hR (dc dt_X11_forms 21 rfl) fl_X11_117 tc_83 rfl ?_
    refine r_iload_n (pc := 42) hR (dc dt_X11_forms 22 rfl) rfl ?_
    obtain ⟨g1, h⟩ := gd_some h
    refine r_iald (pc := 43) hR (dc dt_X11_forms 23 rfl) tc_119 g1 q2 ?_
    refine r_bipush (pc := 44) hR (dc dt_X11_forms 24 rfl) (by decide) ?_
    refine r_icmp_eq (pc := 46) (tgt := 52) hR (dc dt_X11_forms 25 rfl) (by decide) (rd_in _ _ _) (rg_c rfl) (fun hc => ?_) (fun hc => ?_)
    · replace h := ite_t hc h
      exact J52 h
    replace h := ite_f hc h
    refine r_bipush (pc := 49) hR (dc dt_X11_forms 26 rfl) (by decide) ?_
    exact r_iret hT (dc dt_X11_forms 27 rfl) (congrArg Prod.fst (Option.some.inj h)) (congrArg Prod.snd (Option.some.inj h)) (rg_c rfl)
  replace h := ite_f hc h
  refine r_iconst (pc := 26) hR (dc dt_X11_forms 12 rfl) ?_
  exact r_iret hT (dc dt_X11_forms 13 rfl) (congrArg Prod.fst (Option.some.inj h)) (congrArg Prod.snd (Option.some.inj h)) (rg_c rfl)
def tb_X11_price : List (Nat × (Instr × Nat)) := [(0, (.iload_n 1, 1)), (1, (.iconst 0, 1)), (2, (.iconst 4, 1)), (3, (.invokestatic 134, 3)), (6, (.ifCond .eq 23, 3)), (9, (.iload_n 2, 1)), (10, (.iconst 0, 1)), (11, (.bipush 99, 2)), (13, (.invokestatic 134, 3)), (16, (.ifCond .eq 13, 3)), (19, (.aload_n 0, 1)), (20, (.iconst 1, 1)), (21, (.iload_n 1, 1)), (22, (.iload_n 2, 1)), (23, (.invokevirtual 202, 3)), (26, (.goto 4, 3)), (29, (.iconst (-1), 1)), (30, (.ireturn, 1))]
set_option maxRecDepth 100000 in
theorem dt_X11_price : (tb_X11_price.all fun q => decide (decode cX11_price q.1 = .ok q.2)) = true := by decide +kernel
set_option maxRecDepth 100000 in
set_option maxHeartbeats 4000000 in
theorem ok_F11_price {m : Mem}  {v1 v2 : Int} (q1 : inR v1) (q2 : inR v2) {out : Int × Mem} (h : F11_price m v1 v2 = some out) : CT l G cy ad tt yX11_price cX11_price 3 (some .int) 2 [.ref (ad 83), iv v1, iv v2] m (some (iv out.1)) (inR out.1) out.2 := by
  refine CT_of (by decide) (Nat.le_of_ble_eq_true rfl) (fun Go hR hT => ?_)
  replace hR : RS l G cy ad tt RX11 cX11_price 3 2 Go := hR
  show Go 0 [some (.ref (ad 83)), some (iv v1), some (iv v2)] [] m
  unfold F11_price at h
  refine r_iload_n (pc := 0) hR (dc dt_X11_price 0 rfl) rfl ?_
  refine r_iconst (pc := 1) hR (dc dt_X11_price 1 rfl) ?_
  refine r_iconst (pc := 2) hR (dc dt_X11_price 2 rfl) ?_
  refine r_callS (pc := 3) (rest := []) hR (dc dt_X11_price 3 rfl) cl_X11_134 (ok_F11_in q1 (rg_c rfl) (rg_c rfl)) (by decide) rfl (Nat.le_of_ble_eq_true rfl) rfl (fun q3r => ?_)
  show Go 6 [some (.ref (ad 83)), some (iv v1), some (iv v2)] [iv (F11_in v1 0 4)] m
  refine jn_e h (fun (K : Option (Int × Mem)) => K = some out → Go 29 [none, none, none] [] m) (fun h => ?_) (fun K29 J29 h => ?_)
  · refine r_iconst (pc := 29) hR (dc dt_X11_price 16 rfl) ?_
    exact r_iret hT (dc dt_X11_price 17 rfl) (congrArg Prod.fst (Option.some.inj h)) (congrArg Prod.snd (Option.some.inj h)) (rg_c rfl)
  refine r_if_eq (pc := 6) (tgt := 29) hR (dc dt_X11_price 4 rfl) (by decide) (inZ_R q3r) (fun hc => ?_) (fun hc => ?_)
  · replace h := ite_t hc h
    refine r_weak (L' := [none, none, none]) hR ⟨Or.inl rfl, Or.inl rfl, Or.inl rfl, trivial⟩ ?_
    exact J29 h
  replace h := ite_f hc h
  refine r_iload_n (pc := 9) hR (dc dt_X11_price 5 rfl) rfl ?_
  refine r_iconst (pc := 10) hR (dc dt_X11_price 6 rfl) ?_
  refine r_bipush (pc := 11) hR (dc dt_X11_price 7 rfl) (by decide) ?_
  refine r_callS (pc := 13) (rest := []) hR (dc dt_X11_price 8 rfl) cl_X11_134 (ok_F11_in q2 (rg_c rfl) (rg_c rfl)) (by decide) rfl (Nat.le_of_ble_eq_true rfl) rfl (fun q13r => ?_)
  show Go 16 [some (.ref (ad 83)), some (iv v1), some (iv v2)] [iv (F11_in v2 0 99)] m
  refine r_if_eq (pc := 16) (tgt := 29) hR (dc dt_X11_price 9 rfl) (by decide) (inZ_R q13r) (fun hc => ?_) (fun hc => ?_)
  · replace h := ite_t hc h
    refine r_weak (L' := [none, none, none]) hR ⟨Or.inl rfl, Or.inl rfl, Or.inl rfl, trivial⟩ ?_
    exact J29 h
  replace h := ite_f hc h
  refine r_aload_n (pc := 19) hR (dc dt_X11_price 10 rfl) rfl ?_
  refine r_iconst (pc := 20) hR (dc dt_X11_price 11 rfl) ?_
  refine r_iload_n (pc := 21) hR (dc dt_X11_price 12 rfl) rfl ?_
  refine r_iload_n (pc := 22) hR (dc dt_X11_price 13 rfl) rfl ?_
  obtain ⟨r23, m23, e23, h⟩ := b2_some h
  refine r_callV (pc := 23) (rest := []) hR (dc dt_X11_price 14 rfl) cl_X11_202 tc_83 rfl (ok_F11_changes (rg_c rfl) q1 q2 e23) (by decide) rfl (Nat.le_of_ble_eq_true rfl) rfl (fun q23r => ?_)
  show Go 26 [some (.ref (ad 83)), some (iv v1), some (iv v2)] [iv r23] m23
  refine r_goto (pc := 26) (tgt := 30) hR (dc dt_X11_price 15 rfl) (by decide) ?_
  exact r_iret hT (dc dt_X11_price 17 rfl) (congrArg Prod.fst (Option.some.inj h)) (congrArg Prod.snd (Option.some.inj h)) q23r
def tb_X11_same : List (Nat × (Instr × Nat)) := [(0, (.aload_n 0, 1)), (1, (.iload_n 1, 1)), (2, (.invokevirtual 182, 3)), (5, (.ifCond .eq 20, 3)), (8, (.aload_n 0, 1)), (9, (.iload_n 2, 1)), (10, (.invokevirtual 182, 3)), (13, (.ifCond .eq 12, 3)), (16, (.iload_n 3, 1)), (17, (.iconst 0, 1)), (18, (.iconst 2, 1)), (19, (.invokestatic 134, 3)), (22, (.ifCond .ne 5, 3)), (25, (.iconst (-1), 1)), (26, (.ireturn, 1)), (27, (.iconst 0, 1)), (28, (.istore 4, 2)), (30, (.iconst 0, 1)), (31, (.istore 5, 2)), (33, (.iload 5, 2)), (35, (.bipush 16, 2)), (37, (.if_icmp .ge 84, 3)), (40, (.aload_n 0, 1)), (41, (.getfield 26, 3)), (44, (.bipush 16, 2)), (46, (.iload_n 1, 1)), (47, (.imul, 1)), (48, (.iload 5, 2)), (50, (.iadd, 1)), (51, (.iaload, 1)), (52, (.istore 6, 2)), (54, (.aload_n 0, 1)), (55, (.getfield 26, 3)), (58, (.bipush 16, 2)), (60, (.iload_n 2, 1)), (61, (.imul, 1)), (62, (.iload 5, 2)), (64, (.iadd, 1)), (65, (.iaload, 1)), (66, (.istore 7, 2)), (68, (.iload 6, 2)), (70, (.bipush 9, 2)), (72, (.if_icmp .eq 10, 3)), (75, (.iload 7, 2)), (77, (.bipush 9, 2)), (79, (.if_icmp .ne 7, 3)), (82, (.iconst 2, 1)), (83, (.goto 15, 3)), (86, (.iload 6, 2)), (88, (.iload 7, 2)), (90, (.if_icmp .ne 7, 3)), (93, (.iconst 0, 1)), (94, (.goto 4, 3)), (97, (.iconst 1, 1)), (98, (.istore 8, 2)), (100, (.iload 8, 2)), (102, (.iload_n 3, 1)), (103, (.if_icmp .ne 12, 3)), (106, (.iload 4, 2)), (108, (.iconst 1, 1)), (109, (.iload 5, 2)), (111, (.ishl, 1)), (112, (.ior, 1)), (113, (.istore 4, 2)), (115, (.iinc 5 1, 3)), (118, (.goto (-85), 3)), (121, (.iload 4, 2)), (123, (.ireturn, 1))]
set_option maxRecDepth 100000 in
theorem dt_X11_same : (tb_X11_same.all fun q => decide (decode cX11_same q.1 = .ok q.2)) = true := by decide +kernel
set_option maxRecDepth 100000 in
set_option maxHeartbeats 4000000 in
theorem lp_L11_same_33 {Go : Nat → List (Option Value) → List Value → Mem → Prop} (hR : RS l G cy ad tt RX11 cX11_same 9 2 Go) {out : Int} {m : Mem} (hT : RT cX11_same (some (iv out)) (inR out) m (some .int) Go) {v1 : Int} {v2 : Int} {v3 : Int} (qv1 : inR v1) (qv2 : inR v2) (qv3 : inR v3) : ∀ (n : Nat) (v4 : Int) (v5 : Int), inR v4 → inR v5 → L11_same_33 m v1 v2 v3 n v4 v5 = some out → Go 33 [some (.ref (ad 83)), some (iv v1), some (iv v2), some (iv v3), some (iv v4), some (iv v5), none, none, none] [] m := by
  intro n
  induction n with
  | zero =>
    intro v4 v5 qv4 qv5 h
    cases h
  | succ n ih =>
    intro v4 v5 qv4 qv5 h
    rw [L11_same_33] at h
    refine r_iload (pc := 33) hR (dc dt_X11_same 19 rfl) rfl ?_
    refine r_bipush (pc := 35) hR (dc dt_X11_same 20 rfl) (by decide) ?_
    refine r_icmp_ge (pc := 37) (tgt := 121) hR (dc dt_X11_same 21 rfl) (by decide) qv5 (rg_c rfl) (fun hc => ?_) (fun hc => ?_)
    · replace h := ite_t hc h
      refine r_iload (pc := 121) hR (dc dt_X11_same 66 rfl) rfl ?_
      exact r_iret hT (dc dt_X11_same 67 rfl) (Option.some.inj h) rfl qv4
    replace h := ite_f hc h
    refine r_aload_n (pc := 40) hR (dc dt_X11_same 22 rfl) rfl ?_
    refine r_getr (pc := 41) (k2 := 89) hR (dc dt_X11_same 23 rfl) fl_X11_26 tc_83 rfl ?_
    refine r_bipush (pc := 44) hR (dc dt_X11_same 24 rfl) (by decide) ?_
    refine r_iload_n (pc := 46) hR (dc dt_X11_same 25 rfl) rfl ?_
    refine r_imul (pc := 47) hR (dc dt_X11_same 26 rfl) ?_
    refine r_iload (pc := 48) hR (dc dt_X11_same 27 rfl) rfl ?_
    refine r_iadd (pc := 50) hR (dc dt_X11_same 28 rfl) ?_
    obtain ⟨g1, h⟩ := gd_some h
    refine r_iald (pc := 51) hR (dc dt_X11_same 29 rfl) tc_89 g1 (w32_in _) ?_
    refine r_istore (pc := 52) (L' := [some (.ref (ad 83)), some (iv v1), some (iv v2), some (iv v3), some (iv v4), some (iv v5), some (iv (rd m 89 (w32 ((w32 (16 * v1)) + v5)))), none, none]) hR (dc dt_X11_same 30 rfl) (by decide) rfl rfl ?_
    refine r_aload_n (pc := 54) hR (dc dt_X11_same 31 rfl) rfl ?_
    refine r_getr (pc := 55) (k2 := 89) hR (dc dt_X11_same 32 rfl) fl_X11_26 tc_83 rfl ?_
    refine r_bipush (pc := 58) hR (dc dt_X11_same 33 rfl) (by decide) ?_
    refine r_iload_n (pc := 60) hR (dc dt_X11_same 34 rfl) rfl ?_
    refine r_imul (pc := 61) hR (dc dt_X11_same 35 rfl) ?_
    refine r_iload (pc := 62) hR (dc dt_X11_same 36 rfl) rfl ?_
    refine r_iadd (pc := 64) hR (dc dt_X11_same 37 rfl) ?_
    obtain ⟨g1, h⟩ := gd_some h
    refine r_iald (pc := 65) hR (dc dt_X11_same 38 rfl) tc_89 g1 (w32_in _) ?_
    refine r_istore (pc := 66) (L' := [some (.ref (ad 83)), some (iv v1), some (iv v2), some (iv v3), some (iv v4), some (iv v5), some (iv (rd m 89 (w32 ((w32 (16 * v1)) + v5)))), some (iv (rd m 89 (w32 ((w32 (16 * v2)) + v5)))), none]) hR (dc dt_X11_same 39 rfl) (by decide) rfl rfl ?_
    refine r_iload (pc := 68) hR (dc dt_X11_same 40 rfl) rfl ?_
    refine r_bipush (pc := 70) hR (dc dt_X11_same 41 rfl) (by decide) ?_
    refine jn_e h (fun (K : Int → Option Int) => ∀ (x98 : Int), inR x98 → K x98 = some out → Go 98 [some (.ref (ad 83)), some (iv v1), some (iv v2), some (iv v3), some (iv v4), some (iv v5), none, none, none] [iv x98] m) (fun x98 qx98 h => ?_) (fun K98 J98 h => ?_)
    · refine r_istore (pc := 98) (L' := [some (.ref (ad 83)), some (iv v1), some (iv v2), some (iv v3), some (iv v4), some (iv v5), none, none, some (iv x98)]) hR (dc dt_X11_same 54 rfl) (by decide) rfl rfl ?_
      refine r_iload (pc := 100) hR (dc dt_X11_same 55 rfl) rfl ?_
      refine r_iload_n (pc := 102) hR (dc dt_X11_same 56 rfl) rfl ?_
      refine jn_e h (fun (K : Int → Option Int) => ∀ (v4_115 : Int), inR v4_115 → K v4_115 = some out → Go 115 [some (.ref (ad 83)), some (iv v1), some (iv v2), some (iv v3), some (iv v4_115), some (iv v5), none, none, none] [] m) (fun v4_115 qv4_115 h => ?_) (fun K115 J115 h => ?_)
      · refine r_iinc (pc := 115) (L' := [some (.ref (ad 83)), some (iv v1), some (iv v2), some (iv v3), some (iv v4_115), some (iv (w32 (v5 + 1))), none, none, none]) hR (dc dt_X11_same 64 rfl) rfl (by decide) rfl rfl ?_
        refine r_goto (pc := 118) (tgt := 33) hR (dc dt_X11_same 65 rfl) (by decide) ?_
        exact ih v4_115 (w32 (v5 + 1)) qv4_115 (w32_in _) h
      refine r_icmp_ne (pc := 103) (tgt := 115) hR (dc dt_X11_same 57 rfl) (by decide) qx98 qv3 (fun hc => ?_) (fun hc => ?_)
      · replace h := ite_t hc h
        refine r_weak (L' := [some (.ref (ad 83)), some (iv v1), some (iv v2), some (iv v3), some (iv v4), some (iv v5), none, none, none]) hR ⟨Or.inr rfl, Or.inr rfl, Or.inr rfl, Or.inr rfl, Or.inr rfl, Or.inr rfl, Or.inr rfl, Or.inr rfl, Or.inl rfl, trivial⟩ ?_
        exact J115 v4 qv4 h
      replace h := ite_f hc h
      refine r_iload (pc := 106) hR (dc dt_X11_same 58 rfl) rfl ?_
      refine r_iconst (pc := 108) hR (dc dt_X11_same 59 rfl) ?_
      refine r_iload (pc := 109) hR (dc dt_X11_same 60 rfl) rfl ?_
      refine r_ishl (pc := 111) hR (dc dt_X11_same 61 rfl) ?_
      refine r_ior (pc := 112) hR (dc dt_X11_same 62 rfl) ?_
      refine r_istore (pc := 113) (L' := [some (.ref (ad 83)), some (iv v1), some (iv v2), some (iv v3), some (iv (bor v4 (shl 1 v5))), some (iv v5), none, none, some (iv x98)]) hR (dc dt_X11_same 63 rfl) (by decide) rfl rfl ?_
      refine r_weak (L' := [some (.ref (ad 83)), some (iv v1), some (iv v2), some (iv v3), some (iv (bor v4 (shl 1 v5))), some (iv v5), none, none, none]) hR ⟨Or.inr rfl, Or.inr rfl, Or.inr rfl, Or.inr rfl, Or.inr rfl, Or.inr rfl, Or.inr rfl, Or.inr rfl, Or.inl rfl, trivial⟩ ?_
      exact J115 (bor v4 (shl 1 v5)) (ti_in _) h
    refine jn_e h (fun (K : Option Int) => K = some out → Go 82 [some (.ref (ad 83)), some (iv v1), some (iv v2), some (iv v3), some (iv v4), some (iv v5), none, none, none] [] m) (fun h => ?_) (fun K82 J82 h => ?_)
    · refine r_iconst (pc := 82) hR (dc dt_X11_same 46 rfl) ?_
      refine r_goto (pc := 83) (tgt := 98) hR (dc dt_X11_same 47 rfl) (by decide) ?_
      exact J98 2 (rg_c rfl) h
    refine r_icmp_eq (pc := 72) (tgt := 82) hR (dc dt_X11_same 42 rfl) (by decide) (rd_in _ _ _) (rg_c rfl) (fun hc => ?_) (fun hc => ?_)
    · replace h := ite_t hc h
      refine r_weak (L' := [some (.ref (ad 83)), some (iv v1), some (iv v2), some (iv v3), some (iv v4), some (iv v5), none, none, none]) hR ⟨Or.inr rfl, Or.inr rfl, Or.inr rfl, Or.inr rfl, Or.inr rfl, Or.inr rfl, Or.inl rfl, Or.inl rfl, Or.inr rfl, trivial⟩ ?_
      exact J82 h
    replace h := ite_f hc h
    refine r_iload (pc := 75) hR (dc dt_X11_same 43 rfl) rfl ?_
    refine r_bipush (pc := 77) hR (dc dt_X11_same 44 rfl) (by decide) ?_
    refine r_icmp_ne (pc := 79) (tgt := 86) hR (dc dt_X11_same 45 rfl) (by decide) (rd_in _ _ _) (rg_c rfl) (fun hc => ?_) (fun hc => ?_)
    · replace h := ite_t hc h
      refine r_iload (pc := 86) hR (dc dt_X11_same 48 rfl) rfl ?_
      refine r_iload (pc := 88) hR (dc dt_X11_same 49 rfl) rfl ?_
      refine r_icmp_ne (pc := 90) (tgt := 97) hR (dc dt_X11_same 50 rfl) (by decide) (rd_in _ _ _) (rd_in _ _ _) (fun hc => ?_) (fun hc => ?_)
      · replace h := ite_t hc h
        refine r_iconst (pc := 97) hR (dc dt_X11_same 53 rfl) ?_
        refine r_weak (L' := [some (.ref (ad 83)), some (iv v1), some (iv v2), some (iv v3), some (iv v4), some (iv v5), none, none, none]) hR ⟨Or.inr rfl, Or.inr rfl, Or.inr rfl, Or.inr rfl, Or.inr rfl, Or.inr rfl, Or.inl rfl, Or.inl rfl, Or.inr rfl, trivial⟩ ?_
        exact J98 1 (rg_c rfl) h
      replace h := ite_f hc h
      refine r_iconst (pc := 93) hR (dc dt_X11_same 51 rfl) ?_
      refine r_goto (pc := 94) (tgt := 98) hR (dc dt_X11_same 52 rfl) (by decide) ?_
      refine r_weak (L' := [some (.ref (ad 83)), some (iv v1), some (iv v2), some (iv v3), some (iv v4), some (iv v5), none, none, none]) hR ⟨Or.inr rfl, Or.inr rfl, Or.inr rfl, Or.inr rfl, Or.inr rfl, Or.inr rfl, Or.inl rfl, Or.inl rfl, Or.inr rfl, trivial⟩ ?_
      exact J98 0 (rg_c rfl) h
    replace h := ite_f hc h
    refine r_weak (L' := [some (.ref (ad 83)), some (iv v1), some (iv v2), some (iv v3), some (iv v4), some (iv v5), none, none, none]) hR ⟨Or.inr rfl, Or.inr rfl, Or.inr rfl, Or.inr rfl, Or.inr rfl, Or.inr rfl, Or.inl rfl, Or.inl rfl, Or.inr rfl, trivial⟩ ?_
    exact J82 h
set_option maxRecDepth 100000 in
set_option maxHeartbeats 4000000 in
theorem ok_F11_same {m : Mem}  {v1 v2 v3 : Int} (q1 : inR v1) (q2 : inR v2) (q3 : inR v3) {out : Int} (h : F11_same m v1 v2 v3 = some out) : CT l G cy ad tt yX11_same cX11_same 9 (some .int) 2 [.ref (ad 83), iv v1, iv v2, iv v3] m (some (iv out)) (inR out) m := by
  refine CT_of (by decide) (Nat.le_of_ble_eq_true rfl) (fun Go hR hT => ?_)
  replace hR : RS l G cy ad tt RX11 cX11_same 9 2 Go := hR
  show Go 0 [some (.ref (ad 83)), some (iv v1), some (iv v2), some (iv v3), none, none, none, none, none] [] m
  unfold F11_same at h
  refine r_aload_n (pc := 0) hR (dc dt_X11_same 0 rfl) rfl ?_
  refine r_iload_n (pc := 1) hR (dc dt_X11_same 1 rfl) rfl ?_
  refine r_callV (pc := 2) (rest := []) hR (dc dt_X11_same 2 rfl) cl_X11_182 tc_83 rfl (ok_F11_isCharter q1) (by decide) rfl (Nat.le_of_ble_eq_true rfl) rfl (fun q2r => ?_)
  show Go 5 [some (.ref (ad 83)), some (iv v1), some (iv v2), some (iv v3), none, none, none, none, none] [iv (F11_isCharter m v1)] m
  refine r_if_eq (pc := 5) (tgt := 25) hR (dc dt_X11_same 3 rfl) (by decide) (inZ_R q2r) (fun hc => ?_) (fun hc => ?_)
  · replace h := ite_t hc h
    refine r_iconst (pc := 25) hR (dc dt_X11_same 13 rfl) ?_
    exact r_iret hT (dc dt_X11_same 14 rfl) (Option.some.inj h) rfl (rg_c rfl)
  replace h := ite_f hc h
  refine r_aload_n (pc := 8) hR (dc dt_X11_same 4 rfl) rfl ?_
  refine r_iload_n (pc := 9) hR (dc dt_X11_same 5 rfl) rfl ?_
  refine r_callV (pc := 10) (rest := []) hR (dc dt_X11_same 6 rfl) cl_X11_182 tc_83 rfl (ok_F11_isCharter q2) (by decide) rfl (Nat.le_of_ble_eq_true rfl) rfl (fun q10r => ?_)
  show Go 13 [some (.ref (ad 83)), some (iv v1), some (iv v2), some (iv v3), none, none, none, none, none] [iv (F11_isCharter m v2)] m
  refine r_if_eq (pc := 13) (tgt := 25) hR (dc dt_X11_same 7 rfl) (by decide) (inZ_R q10r) (fun hc => ?_) (fun hc => ?_)
  · replace h := ite_t hc h
    refine r_iconst (pc := 25) hR (dc dt_X11_same 13 rfl) ?_
    exact r_iret hT (dc dt_X11_same 14 rfl) (Option.some.inj h) rfl (rg_c rfl)
  replace h := ite_f hc h
  refine r_iload_n (pc := 16) hR (dc dt_X11_same 8 rfl) rfl ?_
  refine r_iconst (pc := 17) hR (dc dt_X11_same 9 rfl) ?_
  refine r_iconst (pc := 18) hR (dc dt_X11_same 10 rfl) ?_
  refine r_callS (pc := 19) (rest := []) hR (dc dt_X11_same 11 rfl) cl_X11_134 (ok_F11_in q3 (rg_c rfl) (rg_c rfl)) (by decide) rfl (Nat.le_of_ble_eq_true rfl) rfl (fun q19r => ?_)
  show Go 22 [some (.ref (ad 83)), some (iv v1), some (iv v2), some (iv v3), none, none, none, none, none] [iv (F11_in v3 0 2)] m
  refine r_if_ne (pc := 22) (tgt := 27) hR (dc dt_X11_same 12 rfl) (by decide) (inZ_R q19r) (fun hc => ?_) (fun hc => ?_)
  · replace h := ite_t hc h
    refine r_iconst (pc := 27) hR (dc dt_X11_same 15 rfl) ?_
    refine r_istore (pc := 28) (L' := [some (.ref (ad 83)), some (iv v1), some (iv v2), some (iv v3), some (iv 0), none, none, none, none]) hR (dc dt_X11_same 16 rfl) (by decide) rfl rfl ?_
    refine r_iconst (pc := 30) hR (dc dt_X11_same 17 rfl) ?_
    refine r_istore (pc := 31) (L' := [some (.ref (ad 83)), some (iv v1), some (iv v2), some (iv v3), some (iv 0), some (iv 0), none, none, none]) hR (dc dt_X11_same 18 rfl) (by decide) rfl rfl ?_
    refine lp_L11_same_33 hR hT q1 q2 q3 FU 0 0 (rg_c rfl) (rg_c rfl) h
  replace h := ite_f hc h
  refine r_iconst (pc := 25) hR (dc dt_X11_same 13 rfl) ?_
  exact r_iret hT (dc dt_X11_same 14 rfl) (Option.some.inj h) rfl (rg_c rfl)
end SIM
