section SIM
variable {l : Launch} {G : va_G} {cy ad tt : Nat → Nat}
def tb_X11_claim : List (Nat × (Instr × Nat)) := [(0, (.aload_n 0, 1)), (1, (.iload_n 1, 1)), (2, (.invokevirtual 182, 3)), (5, (.ifCond .eq 33, 3)), (8, (.aload_n 0, 1)), (9, (.getfield 16, 3)), (12, (.iload_n 1, 1)), (13, (.iaload, 1)), (14, (.ifCond .lt 24, 3)), (17, (.aload_n 0, 1)), (18, (.iload_n 1, 1)), (19, (.invokevirtual 257, 3)), (22, (.ifCond .lt 16, 3)), (25, (.aload_n 0, 1)), (26, (.aload_n 0, 1)), (27, (.getfield 16, 3)), (30, (.iload_n 1, 1)), (31, (.iaload, 1)), (32, (.invokevirtual 257, 3)), (35, (.ifCond .ge 5, 3)), (38, (.iconst (-1), 1)), (39, (.ireturn, 1)), (40, (.aload_n 0, 1)), (41, (.invokevirtual 283, 3)), (44, (.aload_n 0, 1)), (45, (.getfield 267, 3)), (48, (.ifCond .ne 6, 3)), (51, (.bipush (-2), 2)), (53, (.ireturn, 1)), (54, (.aload_n 0, 1)), (55, (.getfield 78, 3)), (58, (.bipush 10, 2)), (60, (.aload_n 0, 1)), (61, (.iload_n 1, 1)), (62, (.invokevirtual 257, 3)), (65, (.imul, 1)), (66, (.aload_n 0, 1)), (67, (.aload_n 0, 1)), (68, (.getfield 16, 3)), (71, (.iload_n 1, 1)), (72, (.iaload, 1)), (73, (.invokevirtual 257, 3)), (76, (.iadd, 1)), (77, (.iaload, 1)), (78, (.istore_n 2, 1)), (79, (.iload_n 2, 1)), (80, (.aload_n 0, 1)), (81, (.getfield 267, 3)), (84, (.if_icmp .ne 7, 3)), (87, (.iconst 2, 1)), (88, (.goto 12, 3)), (91, (.iload_n 2, 1)), (92, (.ifCond .le 7, 3)), (95, (.iconst 1, 1)), (96, (.goto 4, 3)), (99, (.iconst 0, 1)), (100, (.ireturn, 1))]
set_option maxRecDepth 100000 in
theorem dt_X11_claim : (tb_X11_claim.all fun q => decide (decode cX11_claim q.1 = .ok q.2)) = true := by decide +kernel
set_option maxRecDepth 100000 in
set_option maxHeartbeats 4000000 in
theorem ok_F11_claim {m : Mem}  {v1 : Int} (q1 : inR v1) {out : Int × Mem} (h : F11_claim m v1 = some out) : CT l G cy ad tt yX11_claim cX11_claim 3 (some .int) 15 [.ref (ad 83), iv v1] m (some (iv out.1)) (inR out.1) out.2 := by
  refine CT_of (by decide) (Nat.le_of_ble_eq_true rfl) (fun Go hR hT => ?_)
  replace hR : RS l G cy ad tt RX11 cX11_claim 3 15 Go := hR
  show Go 0 [some (.ref (ad 83)), some (iv v1), none] [] m
  unfold F11_claim at h
  refine r_aload_n (pc := 0) hR (dc dt_X11_claim 0 rfl) rfl ?_
  refine r_iload_n (pc := 1) hR (dc dt_X11_claim 1 rfl) rfl ?_
  refine r_callV (pc := 2) (rest := []) hR (dc dt_X11_claim 2 rfl) cl_X11_182 tc_83 rfl (ok_F11_isCharter q1) (by decide) rfl (Nat.le_of_ble_eq_true rfl) rfl (fun q2r => ?_)
  show Go 5 [some (.ref (ad 83)), some (iv v1), none] [iv (F11_isCharter m v1)] m
  refine r_if_eq (pc := 5) (tgt := 38) hR (dc dt_X11_claim 3 rfl) (by decide) (inZ_R q2r) (fun hc => ?_) (fun hc => ?_)
  · replace h := ite_t hc h
    refine r_iconst (pc := 38) hR (dc dt_X11_claim 20 rfl) ?_
    exact r_iret hT (dc dt_X11_claim 21 rfl) (congrArg Prod.fst (Option.some.inj h)) (congrArg Prod.snd (Option.some.inj h)) (rg_c rfl)
  replace h := ite_f hc h
  refine r_aload_n (pc := 8) hR (dc dt_X11_claim 4 rfl) rfl ?_
  refine r_getr (pc := 9) (k2 := 86) hR (dc dt_X11_claim 5 rfl) fl_X11_16 tc_83 rfl ?_
  refine r_iload_n (pc := 12) hR (dc dt_X11_claim 6 rfl) rfl ?_
  obtain ⟨g1, h⟩ := gd_some h
  refine r_iald (pc := 13) hR (dc dt_X11_claim 7 rfl) tc_86 g1 q1 ?_
  refine r_if_lt (pc := 14) (tgt := 38) hR (dc dt_X11_claim 8 rfl) (by decide) (rd_in _ _ _) (fun hc => ?_) (fun hc => ?_)
  · replace h := ite_t hc h
    refine r_iconst (pc := 38) hR (dc dt_X11_claim 20 rfl) ?_
    exact r_iret hT (dc dt_X11_claim 21 rfl) (congrArg Prod.fst (Option.some.inj h)) (congrArg Prod.snd (Option.some.inj h)) (rg_c rfl)
  replace h := ite_f hc h
  refine r_aload_n (pc := 17) hR (dc dt_X11_claim 9 rfl) rfl ?_
  refine r_iload_n (pc := 18) hR (dc dt_X11_claim 10 rfl) rfl ?_
  obtain ⟨r19, e19, h⟩ := b1_some h
  refine r_callV (pc := 19) (rest := []) hR (dc dt_X11_claim 11 rfl) cl_X11_257 tc_83 rfl (ok_F11_placeOf q1 e19) (by decide) rfl (Nat.le_of_ble_eq_true rfl) rfl (fun q19r => ?_)
  show Go 22 [some (.ref (ad 83)), some (iv v1), none] [iv r19] m
  refine r_if_lt (pc := 22) (tgt := 38) hR (dc dt_X11_claim 12 rfl) (by decide) q19r (fun hc => ?_) (fun hc => ?_)
  · replace h := ite_t hc h
    refine r_iconst (pc := 38) hR (dc dt_X11_claim 20 rfl) ?_
    exact r_iret hT (dc dt_X11_claim 21 rfl) (congrArg Prod.fst (Option.some.inj h)) (congrArg Prod.snd (Option.some.inj h)) (rg_c rfl)
  replace h := ite_f hc h
  refine r_aload_n (pc := 25) hR (dc dt_X11_claim 13 rfl) rfl ?_
  refine r_aload_n (pc := 26) hR (dc dt_X11_claim 14 rfl) rfl ?_
  refine r_getr (pc := 27) (k2 := 86) hR (dc dt_X11_claim 15 rfl) fl_X11_16 tc_83 rfl ?_
  refine r_iload_n (pc := 30) hR (dc dt_X11_claim 16 rfl) rfl ?_
  obtain ⟨g1, h⟩ := gd_some h
  refine r_iald (pc := 31) hR (dc dt_X11_claim 17 rfl) tc_86 g1 q1 ?_
  obtain ⟨r32, e32, h⟩ := b1_some h
  refine r_callV (pc := 32) (rest := []) hR (dc dt_X11_claim 18 rfl) cl_X11_257 tc_83 rfl (ok_F11_placeOf (rd_in _ _ _) e32) (by decide) rfl (Nat.le_of_ble_eq_true rfl) rfl (fun q32r => ?_)
  show Go 35 [some (.ref (ad 83)), some (iv v1), none] [iv r32] m
  refine r_if_ge (pc := 35) (tgt := 40) hR (dc dt_X11_claim 19 rfl) (by decide) q32r (fun hc => ?_) (fun hc => ?_)
  · replace h := ite_t hc h
    refine r_aload_n (pc := 40) hR (dc dt_X11_claim 22 rfl) rfl ?_
    obtain ⟨m41, e41, h⟩ := b1_some h
    refine r_callV (pc := 41) (rest := []) hR (dc dt_X11_claim 23 rfl) cl_X11_283 tc_83 rfl (ok_F11_findBest  e41) (by decide) rfl (Nat.le_of_ble_eq_true rfl) rfl (fun q41r => ?_)
    show Go 44 [some (.ref (ad 83)), some (iv v1), none] [] m41
    refine r_aload_n (pc := 44) hR (dc dt_X11_claim 24 rfl) rfl ?_
    refine r_geti (pc := 45) hR (dc dt_X11_claim 25 rfl) fl_X11_267 tc_83 rfl ?_
    refine r_if_ne (pc := 48) (tgt := 54) hR (dc dt_X11_claim 26 rfl) (by decide) (rd_in _ _ _) (fun hc => ?_) (fun hc => ?_)
    · replace h := ite_t hc h
      refine r_aload_n (pc := 54) hR (dc dt_X11_claim 29 rfl) rfl ?_
      refine r_getr (pc := 55) (k2 := 106) hR (dc dt_X11_claim 30 rfl) fl_X11_78 tc_83 rfl ?_
      refine r_bipush (pc := 58) hR (dc dt_X11_claim 31 rfl) (by decide) ?_
      refine r_aload_n (pc := 60) hR (dc dt_X11_claim 32 rfl) rfl ?_
      refine r_iload_n (pc := 61) hR (dc dt_X11_claim 33 rfl) rfl ?_
      obtain ⟨r62, e62, h⟩ := b1_some h
      refine r_callV (pc := 62) (rest := [iv 10, .ref (ad 106)]) hR (dc dt_X11_claim 34 rfl) cl_X11_257 tc_83 rfl (ok_F11_placeOf q1 e62) (by decide) rfl (Nat.le_of_ble_eq_true rfl) rfl (fun q62r => ?_)
      show Go 65 [some (.ref (ad 83)), some (iv v1), none] [iv r62, iv 10, .ref (ad 106)] m41
      refine r_imul (pc := 65) hR (dc dt_X11_claim 35 rfl) ?_
      refine r_aload_n (pc := 66) hR (dc dt_X11_claim 36 rfl) rfl ?_
      refine r_aload_n (pc := 67) hR (dc dt_X11_claim 37 rfl) rfl ?_
      refine r_getr (pc := 68) (k2 := 86) hR (dc dt_X11_claim 38 rfl) fl_X11_16 tc_83 rfl ?_
      refine r_iload_n (pc := 71) hR (dc dt_X11_claim 39 rfl) rfl ?_
      obtain ⟨g1, h⟩ := gd_some h
      refine r_iald (pc := 72) hR (dc dt_X11_claim 40 rfl) tc_86 g1 q1 ?_
      obtain ⟨r73, e73, h⟩ := b1_some h
      refine r_callV (pc := 73) (rest := [iv (w32 (10 * r62)), .ref (ad 106)]) hR (dc dt_X11_claim 41 rfl) cl_X11_257 tc_83 rfl (ok_F11_placeOf (rd_in _ _ _) e73) (by decide) rfl (Nat.le_of_ble_eq_true rfl) rfl (fun q73r => ?_)
      show Go 76 [some (.ref (ad 83)), some (iv v1), none] [iv r73, iv (w32 (10 * r62)), .ref (ad 106)] m41
      refine r_iadd (pc := 76) hR (dc dt_X11_claim 42 rfl) ?_
      obtain ⟨g1, h⟩ := gd_some h
      refine r_iald (pc := 77) hR (dc dt_X11_claim 43 rfl) tc_106 g1 (w32_in _) ?_
      refine r_istore_n (pc := 78) (L' := [some (.ref (ad 83)), some (iv v1), some (iv (rd m41 106 (w32 ((w32 (10 * r62)) + r73))))]) hR (dc dt_X11_claim 44 rfl) (by decide) rfl rfl ?_
      refine r_iload_n (pc := 79) hR (dc dt_X11_claim 45 rfl) rfl ?_
      refine r_aload_n (pc := 80) hR (dc dt_X11_claim 46 rfl) rfl ?_
      refine r_geti (pc := 81) hR (dc dt_X11_claim 47 rfl) fl_X11_267 tc_83 rfl ?_
      refine r_icmp_ne (pc := 84) (tgt := 91) hR (dc dt_X11_claim 48 rfl) (by decide) (rd_in _ _ _) (rd_in _ _ _) (fun hc => ?_) (fun hc => ?_)
      · replace h := ite_t hc h
        refine r_iload_n (pc := 91) hR (dc dt_X11_claim 51 rfl) rfl ?_
        refine r_if_le (pc := 92) (tgt := 99) hR (dc dt_X11_claim 52 rfl) (by decide) (rd_in _ _ _) (fun hc => ?_) (fun hc => ?_)
        · replace h := ite_t hc h
          refine r_iconst (pc := 99) hR (dc dt_X11_claim 55 rfl) ?_
          exact r_iret hT (dc dt_X11_claim 56 rfl) (congrArg Prod.fst (Option.some.inj h)) (congrArg Prod.snd (Option.some.inj h)) (rg_c rfl)
        replace h := ite_f hc h
        refine r_iconst (pc := 95) hR (dc dt_X11_claim 53 rfl) ?_
        refine r_goto (pc := 96) (tgt := 100) hR (dc dt_X11_claim 54 rfl) (by decide) ?_
        exact r_iret hT (dc dt_X11_claim 56 rfl) (congrArg Prod.fst (Option.some.inj h)) (congrArg Prod.snd (Option.some.inj h)) (rg_c rfl)
      replace h := ite_f hc h
      refine r_iconst (pc := 87) hR (dc dt_X11_claim 49 rfl) ?_
      refine r_goto (pc := 88) (tgt := 100) hR (dc dt_X11_claim 50 rfl) (by decide) ?_
      exact r_iret hT (dc dt_X11_claim 56 rfl) (congrArg Prod.fst (Option.some.inj h)) (congrArg Prod.snd (Option.some.inj h)) (rg_c rfl)
    replace h := ite_f hc h
    refine r_bipush (pc := 51) hR (dc dt_X11_claim 27 rfl) (by decide) ?_
    exact r_iret hT (dc dt_X11_claim 28 rfl) (congrArg Prod.fst (Option.some.inj h)) (congrArg Prod.snd (Option.some.inj h)) (rg_c rfl)
  replace h := ite_f hc h
  refine r_iconst (pc := 38) hR (dc dt_X11_claim 20 rfl) ?_
  exact r_iret hT (dc dt_X11_claim 21 rfl) (congrArg Prod.fst (Option.some.inj h)) (congrArg Prod.snd (Option.some.inj h)) (rg_c rfl)
def tb_X11_fillAll : List (Nat × (Instr × Nat)) := [(0, (.aload_n 0, 1)), (1, (.invokevirtual 239, 3)), (4, (.iconst 0, 1)), (5, (.istore_n 1, 1)), (6, (.iload_n 1, 1)), (7, (.bipush 16, 2)), (9, (.if_icmp .ge 63, 3)), (12, (.iconst 0, 1)), (13, (.istore_n 2, 1)), (14, (.iload_n 2, 1)), (15, (.aload_n 0, 1)), (16, (.getfield 138, 3)), (19, (.if_icmp .ge 47, 3)), (22, (.aload_n 0, 1)), (23, (.iload_n 2, 1)), (24, (.iload_n 1, 1)), (25, (.invokevirtual 248, 3)), (28, (.istore_n 3, 1)), (29, (.iconst 0, 1)), (30, (.istore 4, 2)), (32, (.iload_n 3, 1)), (33, (.iload 4, 2)), (35, (.ishr, 1)), (36, (.iconst 1, 1)), (37, (.iand, 1)), (38, (.ifCond .ne 9, 3)), (41, (.iinc 4 1, 3)), (44, (.goto (-12), 3)), (47, (.aload_n 0, 1)), (48, (.getfield 81, 3)), (51, (.bipush 16, 2)), (53, (.iload_n 2, 1)), (54, (.imul, 1)), (55, (.iload_n 1, 1)), (56, (.iadd, 1)), (57, (.iload 4, 2)), (59, (.iastore, 1)), (60, (.iinc 2 1, 3)), (63, (.goto (-49), 3)), (66, (.iinc 1 1, 3)), (69, (.goto (-63), 3)), (72, (.return_, 1))]
set_option maxRecDepth 100000 in
theorem dt_X11_fillAll : (tb_X11_fillAll.all fun q => decide (decode cX11_fillAll q.1 = .ok q.2)) = true := by decide +kernel
set_option maxRecDepth 100000 in
set_option maxHeartbeats 4000000 in
theorem lp_L11_fillAll_32 {Go : Nat → List (Option Value) → List Value → Mem → Prop} (hR : RS l G cy ad tt RX11 cX11_fillAll 5 4 Go) {out : Mem} {m : Mem} (hT : RT cX11_fillAll none True out none Go) {v1 : Int} {v2 : Int} {v3 : Int} (qv1 : inR v1) (qv2 : inR v2) (qv3 : inR v3) {k47 : Int → Option Mem} (hk47 : ∀ (v4 : Int), inR v4 → k47 v4 = some out → Go 47 [some (.ref (ad 83)), some (iv v1), some (iv v2), none, some (iv v4)] [] m) : ∀ (n : Nat) (v4 : Int), inR v4 → L11_fillAll_32 v3 k47 n v4 = some out → Go 32 [some (.ref (ad 83)), some (iv v1), some (iv v2), some (iv v3), some (iv v4)] [] m := by
  intro n
  induction n with
  | zero =>
    intro v4 qv4 h
    cases h
  | succ n ih =>
    intro v4 qv4 h
    rw [L11_fillAll_32] at h
    refine r_iload_n (pc := 32) hR (dc dt_X11_fillAll 20 rfl) rfl ?_
    refine r_iload (pc := 33) hR (dc dt_X11_fillAll 21 rfl) rfl ?_
    refine r_ishr (pc := 35) hR (dc dt_X11_fillAll 22 rfl) ?_
    refine r_iconst (pc := 36) hR (dc dt_X11_fillAll 23 rfl) ?_
    refine r_iand (pc := 37) hR (dc dt_X11_fillAll 24 rfl) ?_
    refine r_if_ne (pc := 38) (tgt := 47) hR (dc dt_X11_fillAll 25 rfl) (by decide) (ti_in _) (fun hc => ?_) (fun hc => ?_)
    · replace h := ite_t hc h
      refine r_weak (L' := [some (.ref (ad 83)), some (iv v1), some (iv v2), none, some (iv v4)]) hR ⟨Or.inr rfl, Or.inr rfl, Or.inr rfl, Or.inl rfl, Or.inr rfl, trivial⟩ ?_
      exact hk47 v4 qv4 h
    replace h := ite_f hc h
    refine r_iinc (pc := 41) (L' := [some (.ref (ad 83)), some (iv v1), some (iv v2), some (iv v3), some (iv (w32 (v4 + 1)))]) hR (dc dt_X11_fillAll 26 rfl) rfl (by decide) rfl rfl ?_
    refine r_goto (pc := 44) (tgt := 32) hR (dc dt_X11_fillAll 27 rfl) (by decide) ?_
    exact ih (w32 (v4 + 1)) (w32_in _) h
set_option maxRecDepth 100000 in
set_option maxHeartbeats 4000000 in
theorem lp_L11_fillAll_14 {Go : Nat → List (Option Value) → List Value → Mem → Prop} (hR : RS l G cy ad tt RX11 cX11_fillAll 5 4 Go) {out : Mem} (hT : RT cX11_fillAll none True out none Go) {v1 : Int} (qv1 : inR v1) {k66 : Mem → Option Mem} (hk66 : ∀ (m : Mem), k66 m = some out → Go 66 [some (.ref (ad 83)), some (iv v1), none, none, none] [] m) : ∀ (n : Nat) (v2 : Int) (m : Mem), inR v2 → L11_fillAll_14 v1 k66 n v2 m = some out → Go 14 [some (.ref (ad 83)), some (iv v1), some (iv v2), none, none] [] m := by
  intro n
  induction n with
  | zero =>
    intro v2 m qv2 h
    cases h
  | succ n ih =>
    intro v2 m qv2 h
    rw [L11_fillAll_14] at h
    refine r_iload_n (pc := 14) hR (dc dt_X11_fillAll 9 rfl) rfl ?_
    refine r_aload_n (pc := 15) hR (dc dt_X11_fillAll 10 rfl) rfl ?_
    refine r_geti (pc := 16) hR (dc dt_X11_fillAll 11 rfl) fl_X11_138 tc_83 rfl ?_
    refine r_icmp_ge (pc := 19) (tgt := 66) hR (dc dt_X11_fillAll 12 rfl) (by decide) qv2 (rd_in _ _ _) (fun hc => ?_) (fun hc => ?_)
    · replace h := ite_t hc h
      refine r_weak (L' := [some (.ref (ad 83)), some (iv v1), none, none, none]) hR ⟨Or.inr rfl, Or.inr rfl, Or.inl rfl, Or.inr rfl, Or.inr rfl, trivial⟩ ?_
      exact hk66 m h
    replace h := ite_f hc h
    refine r_aload_n (pc := 22) hR (dc dt_X11_fillAll 13 rfl) rfl ?_
    refine r_iload_n (pc := 23) hR (dc dt_X11_fillAll 14 rfl) rfl ?_
    refine r_iload_n (pc := 24) hR (dc dt_X11_fillAll 15 rfl) rfl ?_
    obtain ⟨r25, m25, e25, h⟩ := b2_some h
    refine r_callV (pc := 25) (rest := []) hR (dc dt_X11_fillAll 16 rfl) cl_X11_248 tc_83 rfl (ok_F11_filledBy qv2 qv1 e25) (by decide) rfl (Nat.le_of_ble_eq_true rfl) rfl (fun q25r => ?_)
    show Go 28 [some (.ref (ad 83)), some (iv v1), some (iv v2), none, none] [iv r25] m25
    refine r_istore_n (pc := 28) (L' := [some (.ref (ad 83)), some (iv v1), some (iv v2), some (iv r25), none]) hR (dc dt_X11_fillAll 17 rfl) (by decide) rfl rfl ?_
    refine r_iconst (pc := 29) hR (dc dt_X11_fillAll 18 rfl) ?_
    refine r_istore (pc := 30) (L' := [some (.ref (ad 83)), some (iv v1), some (iv v2), some (iv r25), some (iv 0)]) hR (dc dt_X11_fillAll 19 rfl) (by decide) rfl rfl ?_
    refine lp_L11_fillAll_32 hR hT qv1 qv2 q25r (fun v4_47 qv4_47 h => ?_) FU 0 (rg_c rfl) h
    show Go 47 [some (.ref (ad 83)), some (iv v1), some (iv v2), none, some (iv v4_47)] [] m25
    refine r_aload_n (pc := 47) hR (dc dt_X11_fillAll 28 rfl) rfl ?_
    refine r_getr (pc := 48) (k2 := 107) hR (dc dt_X11_fillAll 29 rfl) fl_X11_81 tc_83 rfl ?_
    refine r_bipush (pc := 51) hR (dc dt_X11_fillAll 30 rfl) (by decide) ?_
    refine r_iload_n (pc := 53) hR (dc dt_X11_fillAll 31 rfl) rfl ?_
    refine r_imul (pc := 54) hR (dc dt_X11_fillAll 32 rfl) ?_
    refine r_iload_n (pc := 55) hR (dc dt_X11_fillAll 33 rfl) rfl ?_
    refine r_iadd (pc := 56) hR (dc dt_X11_fillAll 34 rfl) ?_
    refine r_iload (pc := 57) hR (dc dt_X11_fillAll 35 rfl) rfl ?_
    obtain ⟨g1, h⟩ := gd_some h
    refine r_iast (pc := 59) hR (dc dt_X11_fillAll 36 rfl) tc_107 g1 (w32_in _) ?_
    replace h := stw_e h
    generalize wr m25 107 (w32 ((w32 (16 * v2)) + v1)) v4_47 = m59 at h ⊢
    refine r_iinc (pc := 60) (L' := [some (.ref (ad 83)), some (iv v1), some (iv (w32 (v2 + 1))), none, some (iv v4_47)]) hR (dc dt_X11_fillAll 37 rfl) rfl (by decide) rfl rfl ?_
    refine r_goto (pc := 63) (tgt := 14) hR (dc dt_X11_fillAll 38 rfl) (by decide) ?_
    refine r_weak (L' := [some (.ref (ad 83)), some (iv v1), some (iv (w32 (v2 + 1))), none, none]) hR ⟨Or.inr rfl, Or.inr rfl, Or.inr rfl, Or.inr rfl, Or.inl rfl, trivial⟩ ?_
    exact ih (w32 (v2 + 1)) m59 (w32_in _) h
set_option maxRecDepth 100000 in
set_option maxHeartbeats 4000000 in
theorem lp_L11_fillAll_6 {Go : Nat → List (Option Value) → List Value → Mem → Prop} (hR : RS l G cy ad tt RX11 cX11_fillAll 5 4 Go) {out : Mem} (hT : RT cX11_fillAll none True out none Go) : ∀ (n : Nat) (v1 : Int) (m : Mem), inR v1 → L11_fillAll_6 n v1 m = some out → Go 6 [some (.ref (ad 83)), some (iv v1), none, none, none] [] m := by
  intro n
  induction n with
  | zero =>
    intro v1 m qv1 h
    cases h
  | succ n ih =>
    intro v1 m qv1 h
    rw [L11_fillAll_6] at h
    refine r_iload_n (pc := 6) hR (dc dt_X11_fillAll 4 rfl) rfl ?_
    refine r_bipush (pc := 7) hR (dc dt_X11_fillAll 5 rfl) (by decide) ?_
    refine r_icmp_ge (pc := 9) (tgt := 72) hR (dc dt_X11_fillAll 6 rfl) (by decide) qv1 (rg_c rfl) (fun hc => ?_) (fun hc => ?_)
    · replace h := ite_t hc h
      exact r_vret hT (dc dt_X11_fillAll 41 rfl) (Option.some.inj h)
    replace h := ite_f hc h
    refine r_iconst (pc := 12) hR (dc dt_X11_fillAll 7 rfl) ?_
    refine r_istore_n (pc := 13) (L' := [some (.ref (ad 83)), some (iv v1), some (iv 0), none, none]) hR (dc dt_X11_fillAll 8 rfl) (by decide) rfl rfl ?_
    refine lp_L11_fillAll_14 hR hT qv1 (fun m_66 h => ?_) FU 0 m (rg_c rfl) h
    show Go 66 [some (.ref (ad 83)), some (iv v1), none, none, none] [] m_66
    refine r_iinc (pc := 66) (L' := [some (.ref (ad 83)), some (iv (w32 (v1 + 1))), none, none, none]) hR (dc dt_X11_fillAll 39 rfl) rfl (by decide) rfl rfl ?_
    refine r_goto (pc := 69) (tgt := 6) hR (dc dt_X11_fillAll 40 rfl) (by decide) ?_
    exact ih (w32 (v1 + 1)) m_66 (w32_in _) h
set_option maxRecDepth 100000 in
set_option maxHeartbeats 4000000 in
theorem ok_F11_fillAll {m : Mem}   {out : Mem} (h : F11_fillAll m = some out) : CT l G cy ad tt yX11_fillAll cX11_fillAll 5 none 4 [.ref (ad 83)] m none True out := by
  refine CT_of (by decide) (Nat.le_of_ble_eq_true rfl) (fun Go hR hT => ?_)
  replace hR : RS l G cy ad tt RX11 cX11_fillAll 5 4 Go := hR
  show Go 0 [some (.ref (ad 83)), none, none, none, none] [] m
  unfold F11_fillAll at h
  refine r_aload_n (pc := 0) hR (dc dt_X11_fillAll 0 rfl) rfl ?_
  obtain ⟨m1, e1, h⟩ := b1_some h
  refine r_callV (pc := 1) (rest := []) hR (dc dt_X11_fillAll 1 rfl) cl_X11_239 tc_83 rfl (ok_F11_lookAtAll  e1) (by decide) rfl (Nat.le_of_ble_eq_true rfl) rfl (fun q1r => ?_)
  show Go 4 [some (.ref (ad 83)), none, none, none, none] [] m1
  refine r_iconst (pc := 4) hR (dc dt_X11_fillAll 2 rfl) ?_
  refine r_istore_n (pc := 5) (L' := [some (.ref (ad 83)), some (iv 0), none, none, none]) hR (dc dt_X11_fillAll 3 rfl) (by decide) rfl rfl ?_
  refine lp_L11_fillAll_6 hR hT FU 0 m1 (rg_c rfl) h
def tb_X11_canLend : List (Nat × (Instr × Nat)) := [(0, (.iload_n 1, 1)), (1, (.iload_n 2, 1)), (2, (.if_icmp .eq 41, 3)), (5, (.iload_n 1, 1)), (6, (.aload_n 0, 1)), (7, (.getfield 23, 3)), (10, (.iload_n 2, 1)), (11, (.iaload, 1)), (12, (.if_icmp .eq 31, 3)), (15, (.aload_n 0, 1)), (16, (.iload_n 2, 1)), (17, (.iload_n 1, 1)), (18, (.invokevirtual 210, 3)), (21, (.ifCond .ne 22, 3)), (24, (.aload_n 0, 1)), (25, (.getfield 7, 3)), (28, (.iload_n 1, 1)), (29, (.iaload, 1)), (30, (.aload_n 0, 1)), (31, (.getfield 13, 3)), (34, (.iload_n 2, 1)), (35, (.iaload, 1)), (36, (.if_icmp .ge 7, 3)), (39, (.iconst 1, 1)), (40, (.goto 4, 3)), (43, (.iconst 0, 1)), (44, (.ireturn, 1))]
set_option maxRecDepth 100000 in
theorem dt_X11_canLend : (tb_X11_canLend.all fun q => decide (decode cX11_canLend q.1 = .ok q.2)) = true := by decide +kernel
set_option maxRecDepth 100000 in
set_option maxHeartbeats 4000000 in
theorem ok_F11_canLend {m : Mem}  {v1 v2 : Int} (q1 : inR v1) (q2 : inR v2) {out : Int} (h : F11_canLend m v1 v2 = some out) : CT l G cy ad tt yX11_canLend cX11_canLend 3 (some .boolean) 1 [.ref (ad 83), iv v1, iv v2] m (some (iv out)) (inZ out) m := by
  refine CT_of (by decide) (Nat.le_of_ble_eq_true rfl) (fun Go hR hT => ?_)
  replace hR : RS l G cy ad tt RX11 cX11_canLend 3 1 Go := hR
  show Go 0 [some (.ref (ad 83)), some (iv v1), some (iv v2)] [] m
  unfold F11_canLend at h
  refine r_iload_n (pc := 0) hR (dc dt_X11_canLend 0 rfl) rfl ?_
  refine r_iload_n (pc := 1) hR (dc dt_X11_canLend 1 rfl) rfl ?_
  refine jn_e h (fun (K : Option Int) => K = some out → Go 43 [none, none, none] [] m) (fun h => ?_) (fun K43 J43 h => ?_)
  · refine r_iconst (pc := 43) hR (dc dt_X11_canLend 25 rfl) ?_
    exact r_zret hT (dc dt_X11_canLend 26 rfl) (Option.some.inj h) rfl (Or.inl rfl)
  refine r_icmp_eq (pc := 2) (tgt := 43) hR (dc dt_X11_canLend 2 rfl) (by decide) q1 q2 (fun hc => ?_) (fun hc => ?_)
  · replace h := ite_t hc h
    refine r_weak (L' := [none, none, none]) hR ⟨Or.inl rfl, Or.inl rfl, Or.inl rfl, trivial⟩ ?_
    exact J43 h
  replace h := ite_f hc h
  refine r_iload_n (pc := 5) hR (dc dt_X11_canLend 3 rfl) rfl ?_
  refine r_aload_n (pc := 6) hR (dc dt_X11_canLend 4 rfl) rfl ?_
  refine r_getr (pc := 7) (k2 := 88) hR (dc dt_X11_canLend 5 rfl) fl_X11_23 tc_83 rfl ?_
  refine r_iload_n (pc := 10) hR (dc dt_X11_canLend 6 rfl) rfl ?_
  obtain ⟨g1, h⟩ := gd_some h
  refine r_iald (pc := 11) hR (dc dt_X11_canLend 7 rfl) tc_88 g1 q2 ?_
  refine r_icmp_eq (pc := 12) (tgt := 43) hR (dc dt_X11_canLend 8 rfl) (by decide) q1 (rd_in _ _ _) (fun hc => ?_) (fun hc => ?_)
  · replace h := ite_t hc h
    refine r_weak (L' := [none, none, none]) hR ⟨Or.inl rfl, Or.inl rfl, Or.inl rfl, trivial⟩ ?_
    exact J43 h
  replace h := ite_f hc h
  refine r_aload_n (pc := 15) hR (dc dt_X11_canLend 9 rfl) rfl ?_
  refine r_iload_n (pc := 16) hR (dc dt_X11_canLend 10 rfl) rfl ?_
  refine r_iload_n (pc := 17) hR (dc dt_X11_canLend 11 rfl) rfl ?_
  obtain ⟨r18, e18, h⟩ := b1_some h
  refine r_callV (pc := 18) (rest := []) hR (dc dt_X11_canLend 12 rfl) cl_X11_210 tc_83 rfl (ok_F11_isAbove q2 q1 e18) (by decide) rfl (Nat.le_of_ble_eq_true rfl) rfl (fun q18r => ?_)
  show Go 21 [some (.ref (ad 83)), some (iv v1), some (iv v2)] [iv r18] m
  refine r_if_ne (pc := 21) (tgt := 43) hR (dc dt_X11_canLend 13 rfl) (by decide) (inZ_R q18r) (fun hc => ?_) (fun hc => ?_)
  · replace h := ite_t hc h
    refine r_weak (L' := [none, none, none]) hR ⟨Or.inl rfl, Or.inl rfl, Or.inl rfl, trivial⟩ ?_
    exact J43 h
  replace h := ite_f hc h
  refine r_aload_n (pc := 24) hR (dc dt_X11_canLend 14 rfl) rfl ?_
  refine r_getr (pc := 25) (k2 := 84) hR (dc dt_X11_canLend 15 rfl) fl_X11_7 tc_83 rfl ?_
  refine r_iload_n (pc := 28) hR (dc dt_X11_canLend 16 rfl) rfl ?_
  obtain ⟨g1, h⟩ := gd_some h
  refine r_iald (pc := 29) hR (dc dt_X11_canLend 17 rfl) tc_84 g1 q1 ?_
  refine r_aload_n (pc := 30) hR (dc dt_X11_canLend 18 rfl) rfl ?_
  refine r_getr (pc := 31) (k2 := 85) hR (dc dt_X11_canLend 19 rfl) fl_X11_13 tc_83 rfl ?_
  refine r_iload_n (pc := 34) hR (dc dt_X11_canLend 20 rfl) rfl ?_
  obtain ⟨g1, h⟩ := gd_some h
  refine r_iald (pc := 35) hR (dc dt_X11_canLend 21 rfl) tc_85 g1 q2 ?_
  refine r_icmp_ge (pc := 36) (tgt := 43) hR (dc dt_X11_canLend 22 rfl) (by decide) (rd_in _ _ _) (rd_in _ _ _) (fun hc => ?_) (fun hc => ?_)
  · replace h := ite_t hc h
    refine r_weak (L' := [none, none, none]) hR ⟨Or.inl rfl, Or.inl rfl, Or.inl rfl, trivial⟩ ?_
    exact J43 h
  replace h := ite_f hc h
  refine r_iconst (pc := 39) hR (dc dt_X11_canLend 23 rfl) ?_
  refine r_goto (pc := 40) (tgt := 44) hR (dc dt_X11_canLend 24 rfl) (by decide) ?_
  exact r_zret hT (dc dt_X11_canLend 26 rfl) (Option.some.inj h) rfl (Or.inr rfl)
def tb_X11_baseOf : List (Nat × (Instr × Nat)) := [(0, (.aload_n 0, 1)), (1, (.aload_n 0, 1)), (2, (.getfield 81, 3)), (5, (.bipush 16, 2)), (7, (.aload_n 0, 1)), (8, (.getfield 23, 3)), (11, (.iload_n 1, 1)), (12, (.iaload, 1)), (13, (.imul, 1)), (14, (.iload_n 2, 1)), (15, (.iadd, 1)), (16, (.iaload, 1)), (17, (.aload_n 0, 1)), (18, (.getfield 81, 3)), (21, (.bipush 16, 2)), (23, (.iload_n 1, 1)), (24, (.imul, 1)), (25, (.iload_n 2, 1)), (26, (.iadd, 1)), (27, (.iaload, 1)), (28, (.invokevirtual 224, 3)), (31, (.ireturn, 1))]
set_option maxRecDepth 100000 in
theorem dt_X11_baseOf : (tb_X11_baseOf.all fun q => decide (decode cX11_baseOf q.1 = .ok q.2)) = true := by decide +kernel
set_option maxRecDepth 100000 in
set_option maxHeartbeats 4000000 in
theorem ok_F11_baseOf {m : Mem}  {v1 v2 : Int} (q1 : inR v1) (q2 : inR v2) {out : Int} (h : F11_baseOf m v1 v2 = some out) : CT l G cy ad tt yX11_baseOf cX11_baseOf 3 (some .int) 1 [.ref (ad 83), iv v1, iv v2] m (some (iv out)) (inR out) m := by
  refine CT_of (by decide) (Nat.le_of_ble_eq_true rfl) (fun Go hR hT => ?_)
  replace hR : RS l G cy ad tt RX11 cX11_baseOf 3 1 Go := hR
  show Go 0 [some (.ref (ad 83)), some (iv v1), some (iv v2)] [] m
  unfold F11_baseOf at h
  refine r_aload_n (pc := 0) hR (dc dt_X11_baseOf 0 rfl) rfl ?_
  refine r_aload_n (pc := 1) hR (dc dt_X11_baseOf 1 rfl) rfl ?_
  refine r_getr (pc := 2) (k2 := 107) hR (dc dt_X11_baseOf 2 rfl) fl_X11_81 tc_83 rfl ?_
  refine r_bipush (pc := 5) hR (dc dt_X11_baseOf 3 rfl) (by decide) ?_
  refine r_aload_n (pc := 7) hR (dc dt_X11_baseOf 4 rfl) rfl ?_
  refine r_getr (pc := 8) (k2 := 88) hR (dc dt_X11_baseOf 5 rfl) fl_X11_23 tc_83 rfl ?_
  refine r_iload_n (pc := 11) hR (dc dt_X11_baseOf 6 rfl) rfl ?_
  obtain ⟨g1, h⟩ := gd_some h
  refine r_iald (pc := 12) hR (dc dt_X11_baseOf 7 rfl) tc_88 g1 q1 ?_
  refine r_imul (pc := 13) hR (dc dt_X11_baseOf 8 rfl) ?_
  refine r_iload_n (pc := 14) hR (dc dt_X11_baseOf 9 rfl) rfl ?_
  refine r_iadd (pc := 15) hR (dc dt_X11_baseOf 10 rfl) ?_
  obtain ⟨g1, h⟩ := gd_some h
  refine r_iald (pc := 16) hR (dc dt_X11_baseOf 11 rfl) tc_107 g1 (w32_in _) ?_
  refine r_aload_n (pc := 17) hR (dc dt_X11_baseOf 12 rfl) rfl ?_
  refine r_getr (pc := 18) (k2 := 107) hR (dc dt_X11_baseOf 13 rfl) fl_X11_81 tc_83 rfl ?_
  refine r_bipush (pc := 21) hR (dc dt_X11_baseOf 14 rfl) (by decide) ?_
  refine r_iload_n (pc := 23) hR (dc dt_X11_baseOf 15 rfl) rfl ?_
  refine r_imul (pc := 24) hR (dc dt_X11_baseOf 16 rfl) ?_
  refine r_iload_n (pc := 25) hR (dc dt_X11_baseOf 17 rfl) rfl ?_
  refine r_iadd (pc := 26) hR (dc dt_X11_baseOf 18 rfl) ?_
  obtain ⟨g1, h⟩ := gd_some h
  refine r_iald (pc := 27) hR (dc dt_X11_baseOf 19 rfl) tc_107 g1 (w32_in _) ?_
  obtain ⟨r28, e28, h⟩ := b1_some h
  refine r_callV (pc := 28) (rest := []) hR (dc dt_X11_baseOf 20 rfl) cl_X11_224 tc_83 rfl (ok_F11_priceOf (rd_in _ _ _) (rd_in _ _ _) e28) (by decide) rfl (Nat.le_of_ble_eq_true rfl) rfl (fun q28r => ?_)
  show Go 31 [some (.ref (ad 83)), some (iv v1), some (iv v2)] [iv r28] m
  exact r_iret hT (dc dt_X11_baseOf 21 rfl) (Option.some.inj h) rfl q28r
def tb_X11_isAlike : List (Nat × (Instr × Nat)) := [(0, (.aload_n 0, 1)), (1, (.getfield 81, 3)), (4, (.bipush 16, 2)), (6, (.iload_n 1, 1)), (7, (.imul, 1)), (8, (.iload_n 3, 1)), (9, (.iadd, 1)), (10, (.iaload, 1)), (11, (.aload_n 0, 1)), (12, (.getfield 81, 3)), (15, (.bipush 16, 2)), (17, (.iload_n 2, 1)), (18, (.imul, 1)), (19, (.iload_n 3, 1)), (20, (.iadd, 1)), (21, (.iaload, 1)), (22, (.if_icmp .ne 7, 3)), (25, (.iconst 1, 1)), (26, (.goto 4, 3)), (29, (.iconst 0, 1)), (30, (.ireturn, 1))]
set_option maxRecDepth 100000 in
theorem dt_X11_isAlike : (tb_X11_isAlike.all fun q => decide (decode cX11_isAlike q.1 = .ok q.2)) = true := by decide +kernel
set_option maxRecDepth 100000 in
set_option maxHeartbeats 4000000 in
theorem ok_F11_isAlike {m : Mem}  {v1 v2 v3 : Int} (q1 : inR v1) (q2 : inR v2) (q3 : inR v3) {out : Int} (h : F11_isAlike m v1 v2 v3 = some out) : CT l G cy ad tt yX11_isAlike cX11_isAlike 4 (some .boolean) 0 [.ref (ad 83), iv v1, iv v2, iv v3] m (some (iv out)) (inZ out) m := by
  refine CT_of (by decide) (Nat.le_of_ble_eq_true rfl) (fun Go hR hT => ?_)
  replace hR : RS l G cy ad tt RX11 cX11_isAlike 4 0 Go := hR
  show Go 0 [some (.ref (ad 83)), some (iv v1), some (iv v2), some (iv v3)] [] m
  unfold F11_isAlike at h
  refine r_aload_n (pc := 0) hR (dc dt_X11_isAlike 0 rfl) rfl ?_
  refine r_getr (pc := 1) (k2 := 107) hR (dc dt_X11_isAlike 1 rfl) fl_X11_81 tc_83 rfl ?_
  refine r_bipush (pc := 4) hR (dc dt_X11_isAlike 2 rfl) (by decide) ?_
  refine r_iload_n (pc := 6) hR (dc dt_X11_isAlike 3 rfl) rfl ?_
  refine r_imul (pc := 7) hR (dc dt_X11_isAlike 4 rfl) ?_
  refine r_iload_n (pc := 8) hR (dc dt_X11_isAlike 5 rfl) rfl ?_
  refine r_iadd (pc := 9) hR (dc dt_X11_isAlike 6 rfl) ?_
  obtain ⟨g1, h⟩ := gd_some h
  refine r_iald (pc := 10) hR (dc dt_X11_isAlike 7 rfl) tc_107 g1 (w32_in _) ?_
  refine r_aload_n (pc := 11) hR (dc dt_X11_isAlike 8 rfl) rfl ?_
  refine r_getr (pc := 12) (k2 := 107) hR (dc dt_X11_isAlike 9 rfl) fl_X11_81 tc_83 rfl ?_
  refine r_bipush (pc := 15) hR (dc dt_X11_isAlike 10 rfl) (by decide) ?_
  refine r_iload_n (pc := 17) hR (dc dt_X11_isAlike 11 rfl) rfl ?_
  refine r_imul (pc := 18) hR (dc dt_X11_isAlike 12 rfl) ?_
  refine r_iload_n (pc := 19) hR (dc dt_X11_isAlike 13 rfl) rfl ?_
  refine r_iadd (pc := 20) hR (dc dt_X11_isAlike 14 rfl) ?_
  obtain ⟨g1, h⟩ := gd_some h
  refine r_iald (pc := 21) hR (dc dt_X11_isAlike 15 rfl) tc_107 g1 (w32_in _) ?_
  refine r_icmp_ne (pc := 22) (tgt := 29) hR (dc dt_X11_isAlike 16 rfl) (by decide) (rd_in _ _ _) (rd_in _ _ _) (fun hc => ?_) (fun hc => ?_)
  · replace h := ite_t hc h
    refine r_iconst (pc := 29) hR (dc dt_X11_isAlike 19 rfl) ?_
    exact r_zret hT (dc dt_X11_isAlike 20 rfl) (Option.some.inj h) rfl (Or.inl rfl)
  replace h := ite_f hc h
  refine r_iconst (pc := 25) hR (dc dt_X11_isAlike 17 rfl) ?_
  refine r_goto (pc := 26) (tgt := 30) hR (dc dt_X11_isAlike 18 rfl) (by decide) ?_
  exact r_zret hT (dc dt_X11_isAlike 20 rfl) (Option.some.inj h) rfl (Or.inr rfl)
def tb_X11_canBorrow : List (Nat × (Instr × Nat)) := [(0, (.iconst 0, 1)), (1, (.istore_n 3, 1)), (2, (.iload_n 3, 1)), (3, (.aload_n 0, 1)), (4, (.getfield 138, 3)), (7, (.if_icmp .ge 30, 3)), (10, (.aload_n 0, 1)), (11, (.iload_n 3, 1)), (12, (.iload_n 1, 1)), (13, (.invokevirtual 286, 3)), (16, (.ifCond .eq 15, 3)), (19, (.aload_n 0, 1)), (20, (.iload_n 3, 1)), (21, (.iload_n 1, 1)), (22, (.iload_n 2, 1)), (23, (.invokevirtual 289, 3)), (26, (.ifCond .eq 5, 3)), (29, (.iconst 1, 1)), (30, (.ireturn, 1)), (31, (.iinc 3 1, 3)), (34, (.goto (-32), 3)), (37, (.iconst 0, 1)), (38, (.ireturn, 1))]
set_option maxRecDepth 100000 in
theorem dt_X11_canBorrow : (tb_X11_canBorrow.all fun q => decide (decode cX11_canBorrow q.1 = .ok q.2)) = true := by decide +kernel
set_option maxRecDepth 100000 in
set_option maxHeartbeats 4000000 in
theorem lp_L11_canBorrow_2 {Go : Nat → List (Option Value) → List Value → Mem → Prop} (hR : RS l G cy ad tt RX11 cX11_canBorrow 4 2 Go) {out : Int} {m : Mem} (hT : RT cX11_canBorrow (some (iv out)) (inZ out) m (some .boolean) Go) {v1 : Int} {v2 : Int} (qv1 : inR v1) (qv2 : inR v2) : ∀ (n : Nat) (v3 : Int), inR v3 → L11_canBorrow_2 m v1 v2 n v3 = some out → Go 2 [some (.ref (ad 83)), some (iv v1), some (iv v2), some (iv v3)] [] m := by
  intro n
  induction n with
  | zero =>
    intro v3 qv3 h
    cases h
  | succ n ih =>
    intro v3 qv3 h
    rw [L11_canBorrow_2] at h
    refine r_iload_n (pc := 2) hR (dc dt_X11_canBorrow 2 rfl) rfl ?_
    refine r_aload_n (pc := 3) hR (dc dt_X11_canBorrow 3 rfl) rfl ?_
    refine r_geti (pc := 4) hR (dc dt_X11_canBorrow 4 rfl) fl_X11_138 tc_83 rfl ?_
    refine r_icmp_ge (pc := 7) (tgt := 37) hR (dc dt_X11_canBorrow 5 rfl) (by decide) qv3 (rd_in _ _ _) (fun hc => ?_) (fun hc => ?_)
    · replace h := ite_t hc h
      refine r_iconst (pc := 37) hR (dc dt_X11_canBorrow 21 rfl) ?_
      exact r_zret hT (dc dt_X11_canBorrow 22 rfl) (Option.some.inj h) rfl (Or.inl rfl)
    replace h := ite_f hc h
    refine r_aload_n (pc := 10) hR (dc dt_X11_canBorrow 6 rfl) rfl ?_
    refine r_iload_n (pc := 11) hR (dc dt_X11_canBorrow 7 rfl) rfl ?_
    refine r_iload_n (pc := 12) hR (dc dt_X11_canBorrow 8 rfl) rfl ?_
    obtain ⟨r13, e13, h⟩ := b1_some h
    refine r_callV (pc := 13) (rest := []) hR (dc dt_X11_canBorrow 9 rfl) cl_X11_286 tc_83 rfl (ok_F11_canLend qv3 qv1 e13) (by decide) rfl (Nat.le_of_ble_eq_true rfl) rfl (fun q13r => ?_)
    show Go 16 [some (.ref (ad 83)), some (iv v1), some (iv v2), some (iv v3)] [iv r13] m
    refine jn_e h (fun (K : Option Int) => K = some out → Go 31 [some (.ref (ad 83)), some (iv v1), some (iv v2), some (iv v3)] [] m) (fun h => ?_) (fun K31 J31 h => ?_)
    · refine r_iinc (pc := 31) (L' := [some (.ref (ad 83)), some (iv v1), some (iv v2), some (iv (w32 (v3 + 1)))]) hR (dc dt_X11_canBorrow 19 rfl) rfl (by decide) rfl rfl ?_
      refine r_goto (pc := 34) (tgt := 2) hR (dc dt_X11_canBorrow 20 rfl) (by decide) ?_
      exact ih (w32 (v3 + 1)) (w32_in _) h
    refine r_if_eq (pc := 16) (tgt := 31) hR (dc dt_X11_canBorrow 10 rfl) (by decide) (inZ_R q13r) (fun hc => ?_) (fun hc => ?_)
    · replace h := ite_t hc h
      exact J31 h
    replace h := ite_f hc h
    refine r_aload_n (pc := 19) hR (dc dt_X11_canBorrow 11 rfl) rfl ?_
    refine r_iload_n (pc := 20) hR (dc dt_X11_canBorrow 12 rfl) rfl ?_
    refine r_iload_n (pc := 21) hR (dc dt_X11_canBorrow 13 rfl) rfl ?_
    refine r_iload_n (pc := 22) hR (dc dt_X11_canBorrow 14 rfl) rfl ?_
    obtain ⟨r23, e23, h⟩ := b1_some h
    refine r_callV (pc := 23) (rest := []) hR (dc dt_X11_canBorrow 15 rfl) cl_X11_289 tc_83 rfl (ok_F11_isAlike qv3 qv1 qv2 e23) (by decide) rfl (Nat.le_of_ble_eq_true rfl) rfl (fun q23r => ?_)
    show Go 26 [some (.ref (ad 83)), some (iv v1), some (iv v2), some (iv v3)] [iv r23] m
    refine r_if_eq (pc := 26) (tgt := 31) hR (dc dt_X11_canBorrow 16 rfl) (by decide) (inZ_R q23r) (fun hc => ?_) (fun hc => ?_)
    · replace h := ite_t hc h
      exact J31 h
    replace h := ite_f hc h
    refine r_iconst (pc := 29) hR (dc dt_X11_canBorrow 17 rfl) ?_
    exact r_zret hT (dc dt_X11_canBorrow 18 rfl) (Option.some.inj h) rfl (Or.inr rfl)
set_option maxRecDepth 100000 in
set_option maxHeartbeats 4000000 in
theorem ok_F11_canBorrow {m : Mem}  {v1 v2 : Int} (q1 : inR v1) (q2 : inR v2) {out : Int} (h : F11_canBorrow m v1 v2 = some out) : CT l G cy ad tt yX11_canBorrow cX11_canBorrow 4 (some .boolean) 2 [.ref (ad 83), iv v1, iv v2] m (some (iv out)) (inZ out) m := by
  refine CT_of (by decide) (Nat.le_of_ble_eq_true rfl) (fun Go hR hT => ?_)
  replace hR : RS l G cy ad tt RX11 cX11_canBorrow 4 2 Go := hR
  show Go 0 [some (.ref (ad 83)), some (iv v1), some (iv v2), none] [] m
  unfold F11_canBorrow at h
  refine r_iconst (pc := 0) hR (dc dt_X11_canBorrow 0 rfl) ?_
  refine r_istore_n (pc := 1) (L' := [some (.ref (ad 83)), some (iv v1), some (iv v2), some (iv 0)]) hR (dc dt_X11_canBorrow 1 rfl) (by decide) rfl rfl ?_
  refine lp_L11_canBorrow_2 hR hT q1 q2 FU 0 (rg_c rfl) h
def tb_X11_addGain : List (Nat × (Instr × Nat)) := [(0, (.iload_n 1, 1)), (1, (.istore_n 3, 1)), (2, (.iload_n 3, 1)), (3, (.ifCond .le 35, 3)), (6, (.aload_n 0, 1)), (7, (.getfield 84, 3)), (10, (.iload_n 3, 1)), (11, (.iconst 1, 1)), (12, (.isub, 1)), (13, (.iaload, 1)), (14, (.iload_n 2, 1)), (15, (.if_icmp .ge 23, 3)), (18, (.aload_n 0, 1)), (19, (.getfield 84, 3)), (22, (.iload_n 3, 1)), (23, (.aload_n 0, 1)), (24, (.getfield 84, 3)), (27, (.iload_n 3, 1)), (28, (.iconst 1, 1)), (29, (.isub, 1)), (30, (.iaload, 1)), (31, (.iastore, 1)), (32, (.iinc 3 (-1), 3)), (35, (.goto (-33), 3)), (38, (.aload_n 0, 1)), (39, (.getfield 84, 3)), (42, (.iload_n 3, 1)), (43, (.iload_n 2, 1)), (44, (.iastore, 1)), (45, (.return_, 1))]
set_option maxRecDepth 100000 in
theorem dt_X11_addGain : (tb_X11_addGain.all fun q => decide (decode cX11_addGain q.1 = .ok q.2)) = true := by decide +kernel
set_option maxRecDepth 100000 in
set_option maxHeartbeats 4000000 in
theorem lp_L11_addGain_2 {Go : Nat → List (Option Value) → List Value → Mem → Prop} (hR : RS l G cy ad tt RX11 cX11_addGain 4 0 Go) {out : Mem} (hT : RT cX11_addGain none True out none Go) {v2 : Int} (qv2 : inR v2) {k38 : Int → Mem → Option Mem} (hk38 : ∀ (v3 : Int) (m : Mem), inR v3 → k38 v3 m = some out → Go 38 [some (.ref (ad 83)), none, some (iv v2), some (iv v3)] [] m) : ∀ (n : Nat) (v3 : Int) (m : Mem), inR v3 → L11_addGain_2 v2 k38 n v3 m = some out → Go 2 [some (.ref (ad 83)), none, some (iv v2), some (iv v3)] [] m := by
  intro n
  induction n with
  | zero =>
    intro v3 m qv3 h
    cases h
  | succ n ih =>
    intro v3 m qv3 h
    rw [L11_addGain_2] at h
    refine r_iload_n (pc := 2) hR (dc dt_X11_addGain 2 rfl) rfl ?_
    refine r_if_le (pc := 3) (tgt := 38) hR (dc dt_X11_addGain 3 rfl) (by decide) qv3 (fun hc => ?_) (fun hc => ?_)
    · replace h := ite_t hc h
      exact hk38 v3 m qv3 h
    replace h := ite_f hc h
    refine r_aload_n (pc := 6) hR (dc dt_X11_addGain 4 rfl) rfl ?_
    refine r_getr (pc := 7) (k2 := 108) hR (dc dt_X11_addGain 5 rfl) fl_X11_84 tc_83 rfl ?_
    refine r_iload_n (pc := 10) hR (dc dt_X11_addGain 6 rfl) rfl ?_
    refine r_iconst (pc := 11) hR (dc dt_X11_addGain 7 rfl) ?_
    refine r_isub (pc := 12) hR (dc dt_X11_addGain 8 rfl) ?_
    obtain ⟨g1, h⟩ := gd_some h
    refine r_iald (pc := 13) hR (dc dt_X11_addGain 9 rfl) tc_108 g1 (w32_in _) ?_
    refine r_iload_n (pc := 14) hR (dc dt_X11_addGain 10 rfl) rfl ?_
    refine r_icmp_ge (pc := 15) (tgt := 38) hR (dc dt_X11_addGain 11 rfl) (by decide) (rd_in _ _ _) qv2 (fun hc => ?_) (fun hc => ?_)
    · replace h := ite_t hc h
      exact hk38 v3 m qv3 h
    replace h := ite_f hc h
    refine r_aload_n (pc := 18) hR (dc dt_X11_addGain 12 rfl) rfl ?_
    refine r_getr (pc := 19) (k2 := 108) hR (dc dt_X11_addGain 13 rfl) fl_X11_84 tc_83 rfl ?_
    refine r_iload_n (pc := 22) hR (dc dt_X11_addGain 14 rfl) rfl ?_
    refine r_aload_n (pc := 23) hR (dc dt_X11_addGain 15 rfl) rfl ?_
    refine r_getr (pc := 24) (k2 := 108) hR (dc dt_X11_addGain 16 rfl) fl_X11_84 tc_83 rfl ?_
    refine r_iload_n (pc := 27) hR (dc dt_X11_addGain 17 rfl) rfl ?_
    refine r_iconst (pc := 28) hR (dc dt_X11_addGain 18 rfl) ?_
    refine r_isub (pc := 29) hR (dc dt_X11_addGain 19 rfl) ?_
    obtain ⟨g1, h⟩ := gd_some h
    refine r_iald (pc := 30) hR (dc dt_X11_addGain 20 rfl) tc_108 g1 (w32_in _) ?_
    obtain ⟨g1, h⟩ := gd_some h
    refine r_iast (pc := 31) hR (dc dt_X11_addGain 21 rfl) tc_108 g1 qv3 ?_
    replace h := stw_e h
    generalize wr m 108 v3 (rd m 108 (w32 (v3 - 1))) = m31 at h ⊢
    refine r_iinc (pc := 32) (L' := [some (.ref (ad 83)), none, some (iv v2), some (iv (w32 (v3 + (-1))))]) hR (dc dt_X11_addGain 22 rfl) rfl (by decide) rfl rfl ?_
    refine r_goto (pc := 35) (tgt := 2) hR (dc dt_X11_addGain 23 rfl) (by decide) ?_
    exact ih (w32 (v3 + (-1))) m31 (w32_in _) h
set_option maxRecDepth 100000 in
set_option maxHeartbeats 4000000 in
theorem ok_F11_addGain {m : Mem}  {v1 v2 : Int} (q1 : inR v1) (q2 : inR v2) {out : Mem} (h : F11_addGain m v1 v2 = some out) : CT l G cy ad tt yX11_addGain cX11_addGain 4 none 0 [.ref (ad 83), iv v1, iv v2] m none True out := by
  refine CT_of (by decide) (Nat.le_of_ble_eq_true rfl) (fun Go hR hT => ?_)
  replace hR : RS l G cy ad tt RX11 cX11_addGain 4 0 Go := hR
  show Go 0 [some (.ref (ad 83)), some (iv v1), some (iv v2), none] [] m
  unfold F11_addGain at h
  refine r_iload_n (pc := 0) hR (dc dt_X11_addGain 0 rfl) rfl ?_
  refine r_istore_n (pc := 1) (L' := [some (.ref (ad 83)), some (iv v1), some (iv v2), some (iv v1)]) hR (dc dt_X11_addGain 1 rfl) (by decide) rfl rfl ?_
  refine r_weak (L' := [some (.ref (ad 83)), none, some (iv v2), some (iv v1)]) hR ⟨Or.inr rfl, Or.inl rfl, Or.inr rfl, Or.inr rfl, trivial⟩ ?_
  refine lp_L11_addGain_2 hR hT q2 (fun v3_38 m_38 qv3_38 h => ?_) FU v1 m q1 h
  show Go 38 [some (.ref (ad 83)), none, some (iv v2), some (iv v3_38)] [] m_38
  refine r_aload_n (pc := 38) hR (dc dt_X11_addGain 24 rfl) rfl ?_
  refine r_getr (pc := 39) (k2 := 108) hR (dc dt_X11_addGain 25 rfl) fl_X11_84 tc_83 rfl ?_
  refine r_iload_n (pc := 42) hR (dc dt_X11_addGain 26 rfl) rfl ?_
  refine r_iload_n (pc := 43) hR (dc dt_X11_addGain 27 rfl) rfl ?_
  obtain ⟨g1, h⟩ := gd_some h
  refine r_iast (pc := 44) hR (dc dt_X11_addGain 28 rfl) tc_108 g1 qv3_38 ?_
  replace h := stw_e h
  generalize wr m_38 108 v3_38 v2 = m44 at h ⊢
  exact r_vret hT (dc dt_X11_addGain 29 rfl) (Option.some.inj h)
def tb_X11_tryChapter : List (Nat × (Instr × Nat)) := [(0, (.iload_n 3, 1)), (1, (.ifCond .ge 7, 3)), (4, (.iconst 0, 1)), (5, (.goto 9, 3)), (8, (.aload_n 0, 1)), (9, (.getfield 29, 3)), (12, (.iconst 4, 1)), (13, (.iaload, 1)), (14, (.istore 4, 2)), (16, (.iconst 0, 1)), (17, (.istore 5, 2)), (19, (.iconst 4, 1)), (20, (.iload_n 2, 1)), (21, (.imul, 1)), (22, (.istore 6, 2)), (24, (.iload 6, 2)), (26, (.iconst 4, 1)), (27, (.iload_n 2, 1)), (28, (.imul, 1)), (29, (.iconst 4, 1)), (30, (.iadd, 1)), (31, (.if_icmp .ge 91, 3)), (34, (.iload_n 3, 1)), (35, (.ifCond .lt 17, 3)), (38, (.aload_n 0, 1)), (39, (.iload_n 3, 1)), (40, (.iload_n 1, 1)), (41, (.iload 6, 2)), (43, (.invokevirtual 289, 3)), (46, (.ifCond .eq 6, 3)), (49, (.goto 67, 3)), (52, (.iload 4, 2)), (54, (.aload_n 0, 1)), (55, (.iload_n 1, 1)), (56, (.iload 6, 2)), (58, (.invokevirtual 292, 3)), (61, (.iadd, 1)), (62, (.istore 4, 2)), (64, (.aload_n 0, 1)), (65, (.iload_n 1, 1)), (66, (.iload 6, 2)), (68, (.invokevirtual 295, 3)), (71, (.ifCond .eq 45, 3)), (74, (.aload_n 0, 1)), (75, (.iload_n 1, 1)), (76, (.iload 6, 2)), (78, (.invokevirtual 292, 3)), (81, (.aload_n 0, 1)), (82, (.getfield 29, 3)), (85, (.iconst 3, 1)), (86, (.iaload, 1)), (87, (.if_icmp .gt 6, 3)), (90, (.goto 26, 3)), (93, (.aload_n 0, 1)), (94, (.iload 5, 2)), (96, (.aload_n 0, 1)), (97, (.iload_n 1, 1)), (98, (.iload 6, 2)), (100, (.invokevirtual 292, 3)), (103, (.aload_n 0, 1)), (104, (.getfield 29, 3)), (107, (.iconst 3, 1)), (108, (.iaload, 1)), (109, (.isub, 1)), (110, (.invokevirtual 298, 3)), (113, (.iinc 5 1, 3)), (116, (.iinc 6 1, 3)), (119, (.goto (-95), 3)), (122, (.iload_n 3, 1)), (123, (.ifCond .ge 7, 3)), (126, (.iconst 0, 1)), (127, (.goto 4, 3)), (130, (.iconst 1, 1)), (131, (.istore 6, 2)), (133, (.iconst 0, 1)), (134, (.istore 7, 2)), (136, (.iload 6, 2)), (138, (.iload 7, 2)), (140, (.iadd, 1)), (141, (.bipush 6, 2)), (143, (.if_icmp .ge 53, 3)), (146, (.aload_n 0, 1)), (147, (.getfield 87, 3)), (150, (.iload 6, 2)), (152, (.iload 7, 2)), (154, (.iadd, 1)), (155, (.aload_n 0, 1)), (156, (.getfield 87, 3)), (159, (.iload 6, 2)), (161, (.iload 7, 2)), (163, (.iadd, 1)), (164, (.iaload, 1)), (165, (.iload 4, 2)), (167, (.invokestatic 227, 3)), (170, (.iastore, 1)), (171, (.iload 7, 2)), (173, (.iload 5, 2)), (175, (.if_icmp .ge 15, 3)), (178, (.iload 4, 2)), (180, (.aload_n 0, 1)), (181, (.getfield 84, 3)), (184, (.iload 7, 2)), (186, (.iaload, 1)), (187, (.isub, 1)), (188, (.istore 4, 2)), (190, (.iinc 7 1, 3)), (193, (.goto (-57), 3)), (196, (.return_, 1))]
set_option maxRecDepth 100000 in
theorem dt_X11_tryChapter : (tb_X11_tryChapter.all fun q => decide (decode cX11_tryChapter q.1 = .ok q.2)) = true := by decide +kernel
set_option maxRecDepth 100000 in
set_option maxHeartbeats 4000000 in
theorem lp_L11_tryChapter_24 {Go : Nat → List (Option Value) → List Value → Mem → Prop} (hR : RS l G cy ad tt RX11 cX11_tryChapter 8 3 Go) {out : Mem} (hT : RT cX11_tryChapter none True out none Go) {v1 : Int} {v2 : Int} {v3 : Int} (qv1 : inR v1) (qv2 : inR v2) (qv3 : inR v3) {k122 : Int → Int → Mem → Option Mem} (hk122 : ∀ (v4 : Int) (v5 : Int) (m : Mem), inR v4 → inR v5 → k122 v4 v5 m = some out → Go 122 [some (.ref (ad 83)), none, none, some (iv v3), some (iv v4), some (iv v5), none, none] [] m) : ∀ (n : Nat) (v4 : Int) (v5 : Int) (v6 : Int) (m : Mem), inR v4 → inR v5 → inR v6 → L11_tryChapter_24 v1 v2 v3 k122 n v4 v5 v6 m = some out → Go 24 [some (.ref (ad 83)), some (iv v1), some (iv v2), some (iv v3), some (iv v4), some (iv v5), some (iv v6), none] [] m := by
  intro n
  induction n with
  | zero =>
    intro v4 v5 v6 m qv4 qv5 qv6 h
    cases h
  | succ n ih =>
    intro v4 v5 v6 m qv4 qv5 qv6 h
    rw [L11_tryChapter_24] at h
    refine r_iload (pc := 24) hR (dc dt_X11_tryChapter 15 rfl) rfl ?_
    refine r_iconst (pc := 26) hR (dc dt_X11_tryChapter 16 rfl) ?_
    refine r_iload_n (pc := 27) hR (dc dt_X11_tryChapter 17 rfl) rfl ?_
    refine r_imul (pc := 28) hR (dc dt_X11_tryChapter 18 rfl) ?_
    refine r_iconst (pc := 29) hR (dc dt_X11_tryChapter 19 rfl) ?_
    refine r_iadd (pc := 30) hR (dc dt_X11_tryChapter 20 rfl) ?_
    refine r_icmp_ge (pc := 31) (tgt := 122) hR (dc dt_X11_tryChapter 21 rfl) (by decide) qv6 (w32_in _) (fun hc => ?_) (fun hc => ?_)
    · replace h := ite_t hc h
      refine r_weak (L' := [some (.ref (ad 83)), none, none, some (iv v3), some (iv v4), some (iv v5), none, none]) hR ⟨Or.inr rfl, Or.inl rfl, Or.inl rfl, Or.inr rfl, Or.inr rfl, Or.inr rfl, Or.inl rfl, Or.inr rfl, trivial⟩ ?_
      exact hk122 v4 v5 m qv4 qv5 h
    replace h := ite_f hc h
    refine r_iload_n (pc := 34) hR (dc dt_X11_tryChapter 22 rfl) rfl ?_
    refine jn_e h (fun (K : Int → Int → Mem → Option Mem) => ∀ (v4_116 : Int) (v5_116 : Int) (m_116 : Mem), inR v4_116 → inR v5_116 → K v4_116 v5_116 m_116 = some out → Go 116 [some (.ref (ad 83)), some (iv v1), some (iv v2), some (iv v3), some (iv v4_116), some (iv v5_116), some (iv v6), none] [] m_116) (fun v4_116 v5_116 m_116 qv4_116 qv5_116 h => ?_) (fun K116 J116 h => ?_)
    · refine r_iinc (pc := 116) (L' := [some (.ref (ad 83)), some (iv v1), some (iv v2), some (iv v3), some (iv v4_116), some (iv v5_116), some (iv (w32 (v6 + 1))), none]) hR (dc dt_X11_tryChapter 66 rfl) rfl (by decide) rfl rfl ?_
      refine r_goto (pc := 119) (tgt := 24) hR (dc dt_X11_tryChapter 67 rfl) (by decide) ?_
      exact ih v4_116 v5_116 (w32 (v6 + 1)) m_116 qv4_116 qv5_116 (w32_in _) h
    refine jn_e h (fun (K : Option Mem) => K = some out → Go 52 [some (.ref (ad 83)), some (iv v1), some (iv v2), some (iv v3), some (iv v4), some (iv v5), some (iv v6), none] [] m) (fun h => ?_) (fun K52 J52 h => ?_)
    · refine r_iload (pc := 52) hR (dc dt_X11_tryChapter 31 rfl) rfl ?_
      refine r_aload_n (pc := 54) hR (dc dt_X11_tryChapter 32 rfl) rfl ?_
      refine r_iload_n (pc := 55) hR (dc dt_X11_tryChapter 33 rfl) rfl ?_
      refine r_iload (pc := 56) hR (dc dt_X11_tryChapter 34 rfl) rfl ?_
      obtain ⟨r58, e58, h⟩ := b1_some h
      refine r_callV (pc := 58) (rest := [iv v4]) hR (dc dt_X11_tryChapter 35 rfl) cl_X11_292 tc_83 rfl (ok_F11_baseOf qv1 qv6 e58) (by decide) rfl (Nat.le_of_ble_eq_true rfl) rfl (fun q58r => ?_)
      show Go 61 [some (.ref (ad 83)), some (iv v1), some (iv v2), some (iv v3), some (iv v4), some (iv v5), some (iv v6), none] [iv r58, iv v4] m
      refine r_iadd (pc := 61) hR (dc dt_X11_tryChapter 36 rfl) ?_
      refine r_istore (pc := 62) (L' := [some (.ref (ad 83)), some (iv v1), some (iv v2), some (iv v3), some (iv (w32 (v4 + r58))), some (iv v5), some (iv v6), none]) hR (dc dt_X11_tryChapter 37 rfl) (by decide) rfl rfl ?_
      refine r_aload_n (pc := 64) hR (dc dt_X11_tryChapter 38 rfl) rfl ?_
      refine r_iload_n (pc := 65) hR (dc dt_X11_tryChapter 39 rfl) rfl ?_
      refine r_iload (pc := 66) hR (dc dt_X11_tryChapter 40 rfl) rfl ?_
      obtain ⟨r68, e68, h⟩ := b1_some h
      refine r_callV (pc := 68) (rest := []) hR (dc dt_X11_tryChapter 41 rfl) cl_X11_295 tc_83 rfl (ok_F11_canBorrow qv1 qv6 e68) (by decide) rfl (Nat.le_of_ble_eq_true rfl) rfl (fun q68r => ?_)
      show Go 71 [some (.ref (ad 83)), some (iv v1), some (iv v2), some (iv v3), some (iv (w32 (v4 + r58))), some (iv v5), some (iv v6), none] [iv r68] m
      refine r_if_eq (pc := 71) (tgt := 116) hR (dc dt_X11_tryChapter 42 rfl) (by decide) (inZ_R q68r) (fun hc => ?_) (fun hc => ?_)
      · replace h := ite_t hc h
        exact J116 (w32 (v4 + r58)) v5 m (w32_in _) qv5 h
      replace h := ite_f hc h
      refine r_aload_n (pc := 74) hR (dc dt_X11_tryChapter 43 rfl) rfl ?_
      refine r_iload_n (pc := 75) hR (dc dt_X11_tryChapter 44 rfl) rfl ?_
      refine r_iload (pc := 76) hR (dc dt_X11_tryChapter 45 rfl) rfl ?_
      obtain ⟨r78, e78, h⟩ := b1_some h
      refine r_callV (pc := 78) (rest := []) hR (dc dt_X11_tryChapter 46 rfl) cl_X11_292 tc_83 rfl (ok_F11_baseOf qv1 qv6 e78) (by decide) rfl (Nat.le_of_ble_eq_true rfl) rfl (fun q78r => ?_)
      show Go 81 [some (.ref (ad 83)), some (iv v1), some (iv v2), some (iv v3), some (iv (w32 (v4 + r58))), some (iv v5), some (iv v6), none] [iv r78] m
      refine r_aload_n (pc := 81) hR (dc dt_X11_tryChapter 47 rfl) rfl ?_
      refine r_getr (pc := 82) (k2 := 90) hR (dc dt_X11_tryChapter 48 rfl) fl_X11_29 tc_83 rfl ?_
      refine r_iconst (pc := 85) hR (dc dt_X11_tryChapter 49 rfl) ?_
      obtain ⟨g1, h⟩ := gd_some h
      refine r_iald (pc := 86) hR (dc dt_X11_tryChapter 50 rfl) tc_90 g1 (rg_c rfl) ?_
      refine r_icmp_gt (pc := 87) (tgt := 93) hR (dc dt_X11_tryChapter 51 rfl) (by decide) q78r (rd_in _ _ _) (fun hc => ?_) (fun hc => ?_)
      · replace h := ite_t hc h
        refine r_aload_n (pc := 93) hR (dc dt_X11_tryChapter 53 rfl) rfl ?_
        refine r_iload (pc := 94) hR (dc dt_X11_tryChapter 54 rfl) rfl ?_
        refine r_aload_n (pc := 96) hR (dc dt_X11_tryChapter 55 rfl) rfl ?_
        refine r_iload_n (pc := 97) hR (dc dt_X11_tryChapter 56 rfl) rfl ?_
        refine r_iload (pc := 98) hR (dc dt_X11_tryChapter 57 rfl) rfl ?_
        obtain ⟨r100, e100, h⟩ := b1_some h
        refine r_callV (pc := 100) (rest := [iv v5, .ref (ad 83)]) hR (dc dt_X11_tryChapter 58 rfl) cl_X11_292 tc_83 rfl (ok_F11_baseOf qv1 qv6 e100) (by decide) rfl (Nat.le_of_ble_eq_true rfl) rfl (fun q100r => ?_)
        show Go 103 [some (.ref (ad 83)), some (iv v1), some (iv v2), some (iv v3), some (iv (w32 (v4 + r58))), some (iv v5), some (iv v6), none] [iv r100, iv v5, .ref (ad 83)] m
        refine r_aload_n (pc := 103) hR (dc dt_X11_tryChapter 59 rfl) rfl ?_
        refine r_getr (pc := 104) (k2 := 90) hR (dc dt_X11_tryChapter 60 rfl) fl_X11_29 tc_83 rfl ?_
        refine r_iconst (pc := 107) hR (dc dt_X11_tryChapter 61 rfl) ?_
        obtain ⟨g1, h⟩ := gd_some h
        refine r_iald (pc := 108) hR (dc dt_X11_tryChapter 62 rfl) tc_90 g1 (rg_c rfl) ?_
        refine r_isub (pc := 109) hR (dc dt_X11_tryChapter 63 rfl) ?_
        obtain ⟨m110, e110, h⟩ := b1_some h
        refine r_callV (pc := 110) (rest := []) hR (dc dt_X11_tryChapter 64 rfl) cl_X11_298 tc_83 rfl (ok_F11_addGain qv5 (w32_in _) e110) (by decide) rfl (Nat.le_of_ble_eq_true rfl) rfl (fun q110r => ?_)
        show Go 113 [some (.ref (ad 83)), some (iv v1), some (iv v2), some (iv v3), some (iv (w32 (v4 + r58))), some (iv v5), some (iv v6), none] [] m110
        refine r_iinc (pc := 113) (L' := [some (.ref (ad 83)), some (iv v1), some (iv v2), some (iv v3), some (iv (w32 (v4 + r58))), some (iv (w32 (v5 + 1))), some (iv v6), none]) hR (dc dt_X11_tryChapter 65 rfl) rfl (by decide) rfl rfl ?_
        exact J116 (w32 (v4 + r58)) (w32 (v5 + 1)) m110 (w32_in _) (w32_in _) h
      replace h := ite_f hc h
      refine r_goto (pc := 90) (tgt := 116) hR (dc dt_X11_tryChapter 52 rfl) (by decide) ?_
      exact J116 (w32 (v4 + r58)) v5 m (w32_in _) qv5 h
    refine r_if_lt (pc := 35) (tgt := 52) hR (dc dt_X11_tryChapter 23 rfl) (by decide) qv3 (fun hc => ?_) (fun hc => ?_)
    · replace h := ite_t hc h
      exact J52 h
    replace h := ite_f hc h
    refine r_aload_n (pc := 38) hR (dc dt_X11_tryChapter 24 rfl) rfl ?_
    refine r_iload_n (pc := 39) hR (dc dt_X11_tryChapter 25 rfl) rfl ?_
    refine r_iload_n (pc := 40) hR (dc dt_X11_tryChapter 26 rfl) rfl ?_
    refine r_iload (pc := 41) hR (dc dt_X11_tryChapter 27 rfl) rfl ?_
    obtain ⟨r43, e43, h⟩ := b1_some h
    refine r_callV (pc := 43) (rest := []) hR (dc dt_X11_tryChapter 28 rfl) cl_X11_289 tc_83 rfl (ok_F11_isAlike qv3 qv1 qv6 e43) (by decide) rfl (Nat.le_of_ble_eq_true rfl) rfl (fun q43r => ?_)
    show Go 46 [some (.ref (ad 83)), some (iv v1), some (iv v2), some (iv v3), some (iv v4), some (iv v5), some (iv v6), none] [iv r43] m
    refine r_if_eq (pc := 46) (tgt := 52) hR (dc dt_X11_tryChapter 29 rfl) (by decide) (inZ_R q43r) (fun hc => ?_) (fun hc => ?_)
    · replace h := ite_t hc h
      exact J52 h
    replace h := ite_f hc h
    refine r_goto (pc := 49) (tgt := 116) hR (dc dt_X11_tryChapter 30 rfl) (by decide) ?_
    exact J116 v4 v5 m qv4 qv5 h
set_option maxRecDepth 100000 in
set_option maxHeartbeats 4000000 in
theorem lp_L11_tryChapter_136 {Go : Nat → List (Option Value) → List Value → Mem → Prop} (hR : RS l G cy ad tt RX11 cX11_tryChapter 8 3 Go) {out : Mem} (hT : RT cX11_tryChapter none True out none Go) {v5 : Int} {v6 : Int} (qv5 : inR v5) (qv6 : inZ v6) : ∀ (n : Nat) (v4 : Int) (v7 : Int) (m : Mem), inR v4 → inR v7 → L11_tryChapter_136 v5 v6 n v4 v7 m = some out → Go 136 [some (.ref (ad 83)), none, none, none, some (iv v4), some (iv v5), some (iv v6), some (iv v7)] [] m := by
  intro n
  induction n with
  | zero =>
    intro v4 v7 m qv4 qv7 h
    cases h
  | succ n ih =>
    intro v4 v7 m qv4 qv7 h
    rw [L11_tryChapter_136] at h
    refine r_iload (pc := 136) hR (dc dt_X11_tryChapter 76 rfl) rfl ?_
    refine r_iload (pc := 138) hR (dc dt_X11_tryChapter 77 rfl) rfl ?_
    refine r_iadd (pc := 140) hR (dc dt_X11_tryChapter 78 rfl) ?_
    refine r_bipush (pc := 141) hR (dc dt_X11_tryChapter 79 rfl) (by decide) ?_
    refine r_icmp_ge (pc := 143) (tgt := 196) hR (dc dt_X11_tryChapter 80 rfl) (by decide) (w32_in _) (rg_c rfl) (fun hc => ?_) (fun hc => ?_)
    · replace h := ite_t hc h
      exact r_vret hT (dc dt_X11_tryChapter 107 rfl) (Option.some.inj h)
    replace h := ite_f hc h
    refine r_aload_n (pc := 146) hR (dc dt_X11_tryChapter 81 rfl) rfl ?_
    refine r_getr (pc := 147) (k2 := 109) hR (dc dt_X11_tryChapter 82 rfl) fl_X11_87 tc_83 rfl ?_
    refine r_iload (pc := 150) hR (dc dt_X11_tryChapter 83 rfl) rfl ?_
    refine r_iload (pc := 152) hR (dc dt_X11_tryChapter 84 rfl) rfl ?_
    refine r_iadd (pc := 154) hR (dc dt_X11_tryChapter 85 rfl) ?_
    refine r_aload_n (pc := 155) hR (dc dt_X11_tryChapter 86 rfl) rfl ?_
    refine r_getr (pc := 156) (k2 := 109) hR (dc dt_X11_tryChapter 87 rfl) fl_X11_87 tc_83 rfl ?_
    refine r_iload (pc := 159) hR (dc dt_X11_tryChapter 88 rfl) rfl ?_
    refine r_iload (pc := 161) hR (dc dt_X11_tryChapter 89 rfl) rfl ?_
    refine r_iadd (pc := 163) hR (dc dt_X11_tryChapter 90 rfl) ?_
    obtain ⟨g1, h⟩ := gd_some h
    refine r_iald (pc := 164) hR (dc dt_X11_tryChapter 91 rfl) tc_109 g1 (w32_in _) ?_
    refine r_iload (pc := 165) hR (dc dt_X11_tryChapter 92 rfl) rfl ?_
    refine r_callS (pc := 167) (rest := [iv (w32 (v6 + v7)), .ref (ad 109)]) hR (dc dt_X11_tryChapter 93 rfl) cl_X11_227 (ok_F11_lesser (rd_in _ _ _) qv4) (by decide) rfl (Nat.le_of_ble_eq_true rfl) rfl (fun q167r => ?_)
    show Go 170 [some (.ref (ad 83)), none, none, none, some (iv v4), some (iv v5), some (iv v6), some (iv v7)] [iv (F11_lesser (rd m 109 (w32 (v6 + v7))) v4), iv (w32 (v6 + v7)), .ref (ad 109)] m
    obtain ⟨g1, h⟩ := gd_some h
    refine r_iast (pc := 170) hR (dc dt_X11_tryChapter 94 rfl) tc_109 g1 (w32_in _) ?_
    replace h := stw_e h
    generalize wr m 109 (w32 (v6 + v7)) (F11_lesser (rd m 109 (w32 (v6 + v7))) v4) = m170 at h ⊢
    refine r_iload (pc := 171) hR (dc dt_X11_tryChapter 95 rfl) rfl ?_
    refine r_iload (pc := 173) hR (dc dt_X11_tryChapter 96 rfl) rfl ?_
    refine jn_e h (fun (K : Int → Option Mem) => ∀ (v4_190 : Int), inR v4_190 → K v4_190 = some out → Go 190 [some (.ref (ad 83)), none, none, none, some (iv v4_190), some (iv v5), some (iv v6), some (iv v7)] [] m170) (fun v4_190 qv4_190 h => ?_) (fun K190 J190 h => ?_)
    · refine r_iinc (pc := 190) (L' := [some (.ref (ad 83)), none, none, none, some (iv v4_190), some (iv v5), some (iv v6), some (iv (w32 (v7 + 1)))]) hR (dc dt_X11_tryChapter 105 rfl) rfl (by decide) rfl rfl ?_
      refine r_goto (pc := 193) (tgt := 136) hR (dc dt_X11_tryChapter 106 rfl) (by decide) ?_
      exact ih v4_190 (w32 (v7 + 1)) m170 qv4_190 (w32_in _) h
    refine r_icmp_ge (pc := 175) (tgt := 190) hR (dc dt_X11_tryChapter 97 rfl) (by decide) qv7 qv5 (fun hc => ?_) (fun hc => ?_)
    · replace h := ite_t hc h
      exact J190 v4 qv4 h
    replace h := ite_f hc h
    refine r_iload (pc := 178) hR (dc dt_X11_tryChapter 98 rfl) rfl ?_
    refine r_aload_n (pc := 180) hR (dc dt_X11_tryChapter 99 rfl) rfl ?_
    refine r_getr (pc := 181) (k2 := 108) hR (dc dt_X11_tryChapter 100 rfl) fl_X11_84 tc_83 rfl ?_
    refine r_iload (pc := 184) hR (dc dt_X11_tryChapter 101 rfl) rfl ?_
    obtain ⟨g1, h⟩ := gd_some h
    refine r_iald (pc := 186) hR (dc dt_X11_tryChapter 102 rfl) tc_108 g1 qv7 ?_
    refine r_isub (pc := 187) hR (dc dt_X11_tryChapter 103 rfl) ?_
    refine r_istore (pc := 188) (L' := [some (.ref (ad 83)), none, none, none, some (iv (w32 (v4 - (rd m170 108 v7)))), some (iv v5), some (iv v6), some (iv v7)]) hR (dc dt_X11_tryChapter 104 rfl) (by decide) rfl rfl ?_
    exact J190 (w32 (v4 - (rd m170 108 v7))) (w32_in _) h
set_option maxRecDepth 100000 in
set_option maxHeartbeats 4000000 in
theorem ok_F11_tryChapter {m : Mem}  {v1 v2 v3 : Int} (q1 : inR v1) (q2 : inR v2) (q3 : inR v3) {out : Mem} (h : F11_tryChapter m v1 v2 v3 = some out) : CT l G cy ad tt yX11_tryChapter cX11_tryChapter 8 none 3 [.ref (ad 83), iv v1, iv v2, iv v3] m none True out := by
  refine CT_of (by decide) (Nat.le_of_ble_eq_true rfl) (fun Go hR hT => ?_)
  replace hR : RS l G cy ad tt RX11 cX11_tryChapter 8 3 Go := hR
  show Go 0 [some (.ref (ad 83)), some (iv v1), some (iv v2), some (iv v3), none, none, none, none] [] m
  unfold F11_tryChapter at h
  refine r_iload_n (pc := 0) hR (dc dt_X11_tryChapter 0 rfl) rfl ?_
  refine jn_e h (fun (K : Int → Option Mem) => ∀ (x14 : Int), inR x14 → K x14 = some out → Go 14 [some (.ref (ad 83)), some (iv v1), some (iv v2), some (iv v3), none, none, none, none] [iv x14] m) (fun x14 qx14 h => ?_) (fun K14 J14 h => ?_)
  · refine r_istore (pc := 14) (L' := [some (.ref (ad 83)), some (iv v1), some (iv v2), some (iv v3), some (iv x14), none, none, none]) hR (dc dt_X11_tryChapter 8 rfl) (by decide) rfl rfl ?_
    refine r_iconst (pc := 16) hR (dc dt_X11_tryChapter 9 rfl) ?_
    refine r_istore (pc := 17) (L' := [some (.ref (ad 83)), some (iv v1), some (iv v2), some (iv v3), some (iv x14), some (iv 0), none, none]) hR (dc dt_X11_tryChapter 10 rfl) (by decide) rfl rfl ?_
    refine r_iconst (pc := 19) hR (dc dt_X11_tryChapter 11 rfl) ?_
    refine r_iload_n (pc := 20) hR (dc dt_X11_tryChapter 12 rfl) rfl ?_
    refine r_imul (pc := 21) hR (dc dt_X11_tryChapter 13 rfl) ?_
    refine r_istore (pc := 22) (L' := [some (.ref (ad 83)), some (iv v1), some (iv v2), some (iv v3), some (iv x14), some (iv 0), some (iv (w32 (4 * v2))), none]) hR (dc dt_X11_tryChapter 14 rfl) (by decide) rfl rfl ?_
    refine lp_L11_tryChapter_24 hR hT q1 q2 q3 (fun v4_122 v5_122 m_122 qv4_122 qv5_122 h => ?_) FU x14 0 (w32 (4 * v2)) m qx14 (rg_c rfl) (w32_in _) h
    show Go 122 [some (.ref (ad 83)), none, none, some (iv v3), some (iv v4_122), some (iv v5_122), none, none] [] m_122
    refine r_iload_n (pc := 122) hR (dc dt_X11_tryChapter 68 rfl) rfl ?_
    refine jn_e h (fun (K : Int → Option Mem) => ∀ (x131 : Int), inZ x131 → K x131 = some out → Go 131 [some (.ref (ad 83)), none, none, none, some (iv v4_122), some (iv v5_122), none, none] [iv x131] m_122) (fun x131 qx131 h => ?_) (fun K131 J131 h => ?_)
    · refine r_istore (pc := 131) (L' := [some (.ref (ad 83)), none, none, none, some (iv v4_122), some (iv v5_122), some (iv x131), none]) hR (dc dt_X11_tryChapter 73 rfl) (by decide) rfl rfl ?_
      refine r_iconst (pc := 133) hR (dc dt_X11_tryChapter 74 rfl) ?_
      refine r_istore (pc := 134) (L' := [some (.ref (ad 83)), none, none, none, some (iv v4_122), some (iv v5_122), some (iv x131), some (iv 0)]) hR (dc dt_X11_tryChapter 75 rfl) (by decide) rfl rfl ?_
      refine lp_L11_tryChapter_136 hR hT qv5_122 qx131 FU v4_122 0 m_122 qv4_122 (rg_c rfl) h
    refine r_if_ge (pc := 123) (tgt := 130) hR (dc dt_X11_tryChapter 69 rfl) (by decide) q3 (fun hc => ?_) (fun hc => ?_)
    · replace h := ite_t hc h
      refine r_iconst (pc := 130) hR (dc dt_X11_tryChapter 72 rfl) ?_
      refine r_weak (L' := [some (.ref (ad 83)), none, none, none, some (iv v4_122), some (iv v5_122), none, none]) hR ⟨Or.inr rfl, Or.inr rfl, Or.inr rfl, Or.inl rfl, Or.inr rfl, Or.inr rfl, Or.inr rfl, Or.inr rfl, trivial⟩ ?_
      exact J131 1 (Or.inr rfl) h
    replace h := ite_f hc h
    refine r_iconst (pc := 126) hR (dc dt_X11_tryChapter 70 rfl) ?_
    refine r_goto (pc := 127) (tgt := 131) hR (dc dt_X11_tryChapter 71 rfl) (by decide) ?_
    refine r_weak (L' := [some (.ref (ad 83)), none, none, none, some (iv v4_122), some (iv v5_122), none, none]) hR ⟨Or.inr rfl, Or.inr rfl, Or.inr rfl, Or.inl rfl, Or.inr rfl, Or.inr rfl, Or.inr rfl, Or.inr rfl, trivial⟩ ?_
    exact J131 0 (Or.inl rfl) h
  refine r_if_ge (pc := 1) (tgt := 8) hR (dc dt_X11_tryChapter 1 rfl) (by decide) q3 (fun hc => ?_) (fun hc => ?_)
  · replace h := ite_t hc h
    refine r_aload_n (pc := 8) hR (dc dt_X11_tryChapter 4 rfl) rfl ?_
    refine r_getr (pc := 9) (k2 := 90) hR (dc dt_X11_tryChapter 5 rfl) fl_X11_29 tc_83 rfl ?_
    refine r_iconst (pc := 12) hR (dc dt_X11_tryChapter 6 rfl) ?_
    obtain ⟨g1, h⟩ := gd_some h
    refine r_iald (pc := 13) hR (dc dt_X11_tryChapter 7 rfl) tc_90 g1 (rg_c rfl) ?_
    exact J14 (rd m 90 4) (rd_in _ _ _) h
  replace h := ite_f hc h
  refine r_iconst (pc := 4) hR (dc dt_X11_tryChapter 2 rfl) ?_
  refine r_goto (pc := 5) (tgt := 14) hR (dc dt_X11_tryChapter 3 rfl) (by decide) ?_
  exact J14 0 (rg_c rfl) h
def tb_X11_findChapter : List (Nat × (Instr × Nat)) := [(0, (.iconst 0, 1)), (1, (.istore_n 3, 1)), (2, (.iload_n 3, 1)), (3, (.bipush 6, 2)), (5, (.if_icmp .ge 17, 3)), (8, (.aload_n 0, 1)), (9, (.getfield 87, 3)), (12, (.iload_n 3, 1)), (13, (.ldc 223, 2)), (15, (.iastore, 1)), (16, (.iinc 3 1, 3)), (19, (.goto (-17), 3)), (22, (.aload_n 0, 1)), (23, (.iload_n 1, 1)), (24, (.iload_n 2, 1)), (25, (.iconst (-1), 1)), (26, (.invokevirtual 301, 3)), (29, (.iconst 0, 1)), (30, (.istore_n 3, 1)), (31, (.iload_n 3, 1)), (32, (.aload_n 0, 1)), (33, (.getfield 138, 3)), (36, (.if_icmp .ge 25, 3)), (39, (.aload_n 0, 1)), (40, (.iload_n 3, 1)), (41, (.iload_n 1, 1)), (42, (.invokevirtual 286, 3)), (45, (.ifCond .eq 10, 3)), (48, (.aload_n 0, 1)), (49, (.iload_n 1, 1)), (50, (.iload_n 2, 1)), (51, (.iload_n 3, 1)), (52, (.invokevirtual 301, 3)), (55, (.iinc 3 1, 3)), (58, (.goto (-27), 3)), (61, (.return_, 1))]
set_option maxRecDepth 100000 in
theorem dt_X11_findChapter : (tb_X11_findChapter.all fun q => decide (decode cX11_findChapter q.1 = .ok q.2)) = true := by decide +kernel
set_option maxRecDepth 100000 in
set_option maxHeartbeats 4000000 in
theorem lp_L11_findChapter_2 {Go : Nat → List (Option Value) → List Value → Mem → Prop} (hR : RS l G cy ad tt RX11 cX11_findChapter 4 4 Go) {out : Mem} (hT : RT cX11_findChapter none True out none Go) {v1 : Int} {v2 : Int} (qv1 : inR v1) (qv2 : inR v2) {k22 : Mem → Option Mem} (hk22 : ∀ (m : Mem), k22 m = some out → Go 22 [some (.ref (ad 83)), some (iv v1), some (iv v2), none] [] m) : ∀ (n : Nat) (v3 : Int) (m : Mem), inR v3 → L11_findChapter_2 k22 n v3 m = some out → Go 2 [some (.ref (ad 83)), some (iv v1), some (iv v2), some (iv v3)] [] m := by
  intro n
  induction n with
  | zero =>
    intro v3 m qv3 h
    cases h
  | succ n ih =>
    intro v3 m qv3 h
    rw [L11_findChapter_2] at h
    refine r_iload_n (pc := 2) hR (dc dt_X11_findChapter 2 rfl) rfl ?_
    refine r_bipush (pc := 3) hR (dc dt_X11_findChapter 3 rfl) (by decide) ?_
    refine r_icmp_ge (pc := 5) (tgt := 22) hR (dc dt_X11_findChapter 4 rfl) (by decide) qv3 (rg_c rfl) (fun hc => ?_) (fun hc => ?_)
    · replace h := ite_t hc h
      refine r_weak (L' := [some (.ref (ad 83)), some (iv v1), some (iv v2), none]) hR ⟨Or.inr rfl, Or.inr rfl, Or.inr rfl, Or.inl rfl, trivial⟩ ?_
      exact hk22 m h
    replace h := ite_f hc h
    refine r_aload_n (pc := 8) hR (dc dt_X11_findChapter 5 rfl) rfl ?_
    refine r_getr (pc := 9) (k2 := 109) hR (dc dt_X11_findChapter 6 rfl) fl_X11_87 tc_83 rfl ?_
    refine r_iload_n (pc := 12) hR (dc dt_X11_findChapter 7 rfl) rfl ?_
    refine r_ldc (pc := 13) hR (dc dt_X11_findChapter 8 rfl) kw_X11_223 ?_
    obtain ⟨g1, h⟩ := gd_some h
    refine r_iast (pc := 15) hR (dc dt_X11_findChapter 9 rfl) tc_109 g1 qv3 ?_
    replace h := stw_e h
    generalize wr m 109 v3 1000000 = m15 at h ⊢
    refine r_iinc (pc := 16) (L' := [some (.ref (ad 83)), some (iv v1), some (iv v2), some (iv (w32 (v3 + 1)))]) hR (dc dt_X11_findChapter 10 rfl) rfl (by decide) rfl rfl ?_
    refine r_goto (pc := 19) (tgt := 2) hR (dc dt_X11_findChapter 11 rfl) (by decide) ?_
    exact ih (w32 (v3 + 1)) m15 (w32_in _) h
set_option maxRecDepth 100000 in
set_option maxHeartbeats 4000000 in
theorem lp_L11_findChapter_31 {Go : Nat → List (Option Value) → List Value → Mem → Prop} (hR : RS l G cy ad tt RX11 cX11_findChapter 4 4 Go) {out : Mem} (hT : RT cX11_findChapter none True out none Go) {v1 : Int} {v2 : Int} (qv1 : inR v1) (qv2 : inR v2) : ∀ (n : Nat) (v3 : Int) (m : Mem), inR v3 → L11_findChapter_31 v1 v2 n v3 m = some out → Go 31 [some (.ref (ad 83)), some (iv v1), some (iv v2), some (iv v3)] [] m := by
  intro n
  induction n with
  | zero =>
    intro v3 m qv3 h
    cases h
  | succ n ih =>
    intro v3 m qv3 h
    rw [L11_findChapter_31] at h
    refine r_iload_n (pc := 31) hR (dc dt_X11_findChapter 19 rfl) rfl ?_
    refine r_aload_n (pc := 32) hR (dc dt_X11_findChapter 20 rfl) rfl ?_
    refine r_geti (pc := 33) hR (dc dt_X11_findChapter 21 rfl) fl_X11_138 tc_83 rfl ?_
    refine r_icmp_ge (pc := 36) (tgt := 61) hR (dc dt_X11_findChapter 22 rfl) (by decide) qv3 (rd_in _ _ _) (fun hc => ?_) (fun hc => ?_)
    · replace h := ite_t hc h
      exact r_vret hT (dc dt_X11_findChapter 35 rfl) (Option.some.inj h)
    replace h := ite_f hc h
    refine r_aload_n (pc := 39) hR (dc dt_X11_findChapter 23 rfl) rfl ?_
    refine r_iload_n (pc := 40) hR (dc dt_X11_findChapter 24 rfl) rfl ?_
    refine r_iload_n (pc := 41) hR (dc dt_X11_findChapter 25 rfl) rfl ?_
    obtain ⟨r42, e42, h⟩ := b1_some h
    refine r_callV (pc := 42) (rest := []) hR (dc dt_X11_findChapter 26 rfl) cl_X11_286 tc_83 rfl (ok_F11_canLend qv3 qv1 e42) (by decide) rfl (Nat.le_of_ble_eq_true rfl) rfl (fun q42r => ?_)
    show Go 45 [some (.ref (ad 83)), some (iv v1), some (iv v2), some (iv v3)] [iv r42] m
    refine jn_e h (fun (K : Mem → Option Mem) => ∀ (m_55 : Mem), K m_55 = some out → Go 55 [some (.ref (ad 83)), some (iv v1), some (iv v2), some (iv v3)] [] m_55) (fun m_55 h => ?_) (fun K55 J55 h => ?_)
    · refine r_iinc (pc := 55) (L' := [some (.ref (ad 83)), some (iv v1), some (iv v2), some (iv (w32 (v3 + 1)))]) hR (dc dt_X11_findChapter 33 rfl) rfl (by decide) rfl rfl ?_
      refine r_goto (pc := 58) (tgt := 31) hR (dc dt_X11_findChapter 34 rfl) (by decide) ?_
      exact ih (w32 (v3 + 1)) m_55 (w32_in _) h
    refine r_if_eq (pc := 45) (tgt := 55) hR (dc dt_X11_findChapter 27 rfl) (by decide) (inZ_R q42r) (fun hc => ?_) (fun hc => ?_)
    · replace h := ite_t hc h
      exact J55 m h
    replace h := ite_f hc h
    refine r_aload_n (pc := 48) hR (dc dt_X11_findChapter 28 rfl) rfl ?_
    refine r_iload_n (pc := 49) hR (dc dt_X11_findChapter 29 rfl) rfl ?_
    refine r_iload_n (pc := 50) hR (dc dt_X11_findChapter 30 rfl) rfl ?_
    refine r_iload_n (pc := 51) hR (dc dt_X11_findChapter 31 rfl) rfl ?_
    obtain ⟨m52, e52, h⟩ := b1_some h
    refine r_callV (pc := 52) (rest := []) hR (dc dt_X11_findChapter 32 rfl) cl_X11_301 tc_83 rfl (ok_F11_tryChapter qv1 qv2 qv3 e52) (by decide) rfl (Nat.le_of_ble_eq_true rfl) rfl (fun q52r => ?_)
    show Go 55 [some (.ref (ad 83)), some (iv v1), some (iv v2), some (iv v3)] [] m52
    exact J55 m52 h
set_option maxRecDepth 100000 in
set_option maxHeartbeats 4000000 in
theorem ok_F11_findChapter {m : Mem}  {v1 v2 : Int} (q1 : inR v1) (q2 : inR v2) {out : Mem} (h : F11_findChapter m v1 v2 = some out) : CT l G cy ad tt yX11_findChapter cX11_findChapter 4 none 4 [.ref (ad 83), iv v1, iv v2] m none True out := by
  refine CT_of (by decide) (Nat.le_of_ble_eq_true rfl) (fun Go hR hT => ?_)
  replace hR : RS l G cy ad tt RX11 cX11_findChapter 4 4 Go := hR
  show Go 0 [some (.ref (ad 83)), some (iv v1), some (iv v2), none] [] m
  unfold F11_findChapter at h
  refine r_iconst (pc := 0) hR (dc dt_X11_findChapter 0 rfl) ?_
  refine r_istore_n (pc := 1) (L' := [some (.ref (ad 83)), some (iv v1), some (iv v2), some (iv 0)]) hR (dc dt_X11_findChapter 1 rfl) (by decide) rfl rfl ?_
  refine lp_L11_findChapter_2 hR hT q1 q2 (fun m_22 h => ?_) FU 0 m (rg_c rfl) h
  show Go 22 [some (.ref (ad 83)), some (iv v1), some (iv v2), none] [] m_22
  refine r_aload_n (pc := 22) hR (dc dt_X11_findChapter 12 rfl) rfl ?_
  refine r_iload_n (pc := 23) hR (dc dt_X11_findChapter 13 rfl) rfl ?_
  refine r_iload_n (pc := 24) hR (dc dt_X11_findChapter 14 rfl) rfl ?_
  refine r_iconst (pc := 25) hR (dc dt_X11_findChapter 15 rfl) ?_
  obtain ⟨m26, e26, h⟩ := b1_some h
  refine r_callV (pc := 26) (rest := []) hR (dc dt_X11_findChapter 16 rfl) cl_X11_301 tc_83 rfl (ok_F11_tryChapter q1 q2 (rg_c rfl) e26) (by decide) rfl (Nat.le_of_ble_eq_true rfl) rfl (fun q26r => ?_)
  show Go 29 [some (.ref (ad 83)), some (iv v1), some (iv v2), none] [] m26
  refine r_iconst (pc := 29) hR (dc dt_X11_findChapter 17 rfl) ?_
  refine r_istore_n (pc := 30) (L' := [some (.ref (ad 83)), some (iv v1), some (iv v2), some (iv 0)]) hR (dc dt_X11_findChapter 18 rfl) (by decide) rfl rfl ?_
  refine lp_L11_findChapter_31 hR hT q1 q2 FU 0 m26 (rg_c rfl) h
def tb_X11_few : List (Nat × (Instr × Nat)) := [(0, (.iload_n 1, 1)), (1, (.iconst 0, 1)), (2, (.bipush 20, 2)), (4, (.invokestatic 134, 3)), (7, (.ifCond .ne 5, 3)), (10, (.iconst (-1), 1)), (11, (.ireturn, 1)), (12, (.aload_n 0, 1)), (13, (.invokevirtual 304, 3)), (16, (.iconst 0, 1)), (17, (.istore_n 2, 1)), (18, (.iload_n 2, 1)), (19, (.bipush 20, 2)), (21, (.if_icmp .gt 16, 3)), (24, (.aload_n 0, 1)), (25, (.getfield 90, 3)), (28, (.iload_n 2, 1)), (29, (.iconst 0, 1)), (30, (.iastore, 1)), (31, (.iinc 2 1, 3)), (34, (.goto (-16), 3)), (37, (.iconst 0, 1)), (38, (.istore_n 2, 1)), (39, (.iload_n 2, 1)), (40, (.aload_n 0, 1)), (41, (.getfield 138, 3)), (44, (.if_icmp .ge 116, 3)), (47, (.aload_n 0, 1)), (48, (.getfield 23, 3)), (51, (.iload_n 2, 1)), (52, (.iaload, 1)), (53, (.ifCond .ge 6, 3)), (56, (.goto 98, 3)), (59, (.iconst 0, 1)), (60, (.istore_n 3, 1)), (61, (.iload_n 3, 1)), (62, (.iconst 4, 1)), (63, (.if_icmp .ge 91, 3)), (66, (.aload_n 0, 1)), (67, (.iload_n 2, 1)), (68, (.iload_n 3, 1)), (69, (.invokevirtual 307, 3)), (72, (.bipush 20, 2)), (74, (.istore 4, 2)), (76, (.iload 4, 2)), (78, (.ifCond .lt 70, 3)), (81, (.ldc 223, 2)), (83, (.istore 5, 2)), (85, (.iconst 0, 1)), (86, (.istore 6, 2)), (88, (.iload 6, 2)), (90, (.bipush 6, 2)), (92, (.if_icmp .ge 41, 3)), (95, (.iload 6, 2)), (97, (.iload 4, 2)), (99, (.if_icmp .gt 34, 3)), (102, (.iload 5, 2)), (104, (.aload_n 0, 1)), (105, (.getfield 90, 3)), (108, (.iload 4, 2)), (110, (.iload 6, 2)), (112, (.isub, 1)), (113, (.iaload, 1)), (114, (.aload_n 0, 1)), (115, (.getfield 87, 3)), (118, (.iload 6, 2)), (120, (.iaload, 1)), (121, (.iadd, 1)), (122, (.invokestatic 227, 3)), (125, (.istore 5, 2)), (127, (.iinc 6 1, 3)), (130, (.goto (-42), 3)), (133, (.aload_n 0, 1)), (134, (.getfield 90, 3)), (137, (.iload 4, 2)), (139, (.iload 5, 2)), (141, (.iastore, 1)), (142, (.iinc 4 (-1), 3)), (145, (.goto (-69), 3)), (148, (.iinc 3 1, 3)), (151, (.goto (-90), 3)), (154, (.iinc 2 1, 3)), (157, (.goto (-118), 3)), (160, (.aload_n 0, 1)), (161, (.getfield 90, 3)), (164, (.iload_n 1, 1)), (165, (.iaload, 1)), (166, (.ireturn, 1))]
set_option maxRecDepth 100000 in
theorem dt_X11_few : (tb_X11_few.all fun q => decide (decode cX11_few q.1 = .ok q.2)) = true := by decide +kernel
set_option maxRecDepth 100000 in
set_option maxHeartbeats 4000000 in
theorem lp_L11_few_18 {Go : Nat → List (Option Value) → List Value → Mem → Prop} (hR : RS l G cy ad tt RX11 cX11_few 7 5 Go) {out : Int × Mem} (hT : RT cX11_few (some (iv out.1)) (inR out.1) out.2 (some .int) Go) {v1 : Int} (qv1 : inR v1) {k37 : Mem → Option (Int × Mem)} (hk37 : ∀ (m : Mem), k37 m = some out → Go 37 [some (.ref (ad 83)), some (iv v1), none, none, none, none, none] [] m) : ∀ (n : Nat) (v2 : Int) (m : Mem), inR v2 → L11_few_18 k37 n v2 m = some out → Go 18 [some (.ref (ad 83)), some (iv v1), some (iv v2), none, none, none, none] [] m := by
  intro n
  induction n with
  | zero =>
    intro v2 m qv2 h
    cases h
  | succ n ih =>
    intro v2 m qv2 h
    rw [L11_few_18] at h
    refine r_iload_n (pc := 18) hR (dc dt_X11_few 11 rfl) rfl ?_
    refine r_bipush (pc := 19) hR (dc dt_X11_few 12 rfl) (by decide) ?_
    refine r_icmp_gt (pc := 21) (tgt := 37) hR (dc dt_X11_few 13 rfl) (by decide) qv2 (rg_c rfl) (fun hc => ?_) (fun hc => ?_)
    · replace h := ite_t hc h
      refine r_weak (L' := [some (.ref (ad 83)), some (iv v1), none, none, none, none, none]) hR ⟨Or.inr rfl, Or.inr rfl, Or.inl rfl, Or.inr rfl, Or.inr rfl, Or.inr rfl, Or.inr rfl, trivial⟩ ?_
      exact hk37 m h
    replace h := ite_f hc h
    refine r_aload_n (pc := 24) hR (dc dt_X11_few 14 rfl) rfl ?_
    refine r_getr (pc := 25) (k2 := 110) hR (dc dt_X11_few 15 rfl) fl_X11_90 tc_83 rfl ?_
    refine r_iload_n (pc := 28) hR (dc dt_X11_few 16 rfl) rfl ?_
    refine r_iconst (pc := 29) hR (dc dt_X11_few 17 rfl) ?_
    obtain ⟨g1, h⟩ := gd_some h
    refine r_iast (pc := 30) hR (dc dt_X11_few 18 rfl) tc_110 g1 qv2 ?_
    replace h := stw_e h
    generalize wr m 110 v2 0 = m30 at h ⊢
    refine r_iinc (pc := 31) (L' := [some (.ref (ad 83)), some (iv v1), some (iv (w32 (v2 + 1))), none, none, none, none]) hR (dc dt_X11_few 19 rfl) rfl (by decide) rfl rfl ?_
    refine r_goto (pc := 34) (tgt := 18) hR (dc dt_X11_few 20 rfl) (by decide) ?_
    exact ih (w32 (v2 + 1)) m30 (w32_in _) h
set_option maxRecDepth 100000 in
set_option maxHeartbeats 4000000 in
theorem lp_L11_few_88 {Go : Nat → List (Option Value) → List Value → Mem → Prop} (hR : RS l G cy ad tt RX11 cX11_few 7 5 Go) {out : Int × Mem} {m : Mem} (hT : RT cX11_few (some (iv out.1)) (inR out.1) out.2 (some .int) Go) {v1 : Int} {v2 : Int} {v3 : Int} {v4 : Int} (qv1 : inR v1) (qv2 : inR v2) (qv3 : inR v3) (qv4 : inR v4) {k133 : Int → Option (Int × Mem)} (hk133 : ∀ (v5 : Int), inR v5 → k133 v5 = some out → Go 133 [some (.ref (ad 83)), some (iv v1), some (iv v2), some (iv v3), some (iv v4), some (iv v5), none] [] m) : ∀ (n : Nat) (v5 : Int) (v6 : Int), inR v5 → inR v6 → L11_few_88 m v4 k133 n v5 v6 = some out → Go 88 [some (.ref (ad 83)), some (iv v1), some (iv v2), some (iv v3), some (iv v4), some (iv v5), some (iv v6)] [] m := by
  intro n
  induction n with
  | zero =>
    intro v5 v6 qv5 qv6 h
    cases h
  | succ n ih =>
    intro v5 v6 qv5 qv6 h
    rw [L11_few_88] at h
    refine r_iload (pc := 88) hR (dc dt_X11_few 50 rfl) rfl ?_
    refine r_bipush (pc := 90) hR (dc dt_X11_few 51 rfl) (by decide) ?_
    refine r_icmp_ge (pc := 92) (tgt := 133) hR (dc dt_X11_few 52 rfl) (by decide) qv6 (rg_c rfl) (fun hc => ?_) (fun hc => ?_)
    · replace h := ite_t hc h
      refine r_weak (L' := [some (.ref (ad 83)), some (iv v1), some (iv v2), some (iv v3), some (iv v4), some (iv v5), none]) hR ⟨Or.inr rfl, Or.inr rfl, Or.inr rfl, Or.inr rfl, Or.inr rfl, Or.inr rfl, Or.inl rfl, trivial⟩ ?_
      exact hk133 v5 qv5 h
    replace h := ite_f hc h
    refine r_iload (pc := 95) hR (dc dt_X11_few 53 rfl) rfl ?_
    refine r_iload (pc := 97) hR (dc dt_X11_few 54 rfl) rfl ?_
    refine r_icmp_gt (pc := 99) (tgt := 133) hR (dc dt_X11_few 55 rfl) (by decide) qv6 qv4 (fun hc => ?_) (fun hc => ?_)
    · replace h := ite_t hc h
      refine r_weak (L' := [some (.ref (ad 83)), some (iv v1), some (iv v2), some (iv v3), some (iv v4), some (iv v5), none]) hR ⟨Or.inr rfl, Or.inr rfl, Or.inr rfl, Or.inr rfl, Or.inr rfl, Or.inr rfl, Or.inl rfl, trivial⟩ ?_
      exact hk133 v5 qv5 h
    replace h := ite_f hc h
    refine r_iload (pc := 102) hR (dc dt_X11_few 56 rfl) rfl ?_
    refine r_aload_n (pc := 104) hR (dc dt_X11_few 57 rfl) rfl ?_
    refine r_getr (pc := 105) (k2 := 110) hR (dc dt_X11_few 58 rfl) fl_X11_90 tc_83 rfl ?_
    refine r_iload (pc := 108) hR (dc dt_X11_few 59 rfl) rfl ?_
    refine r_iload (pc := 110) hR (dc dt_X11_few 60 rfl) rfl ?_
    refine r_isub (pc := 112) hR (dc dt_X11_few 61 rfl) ?_
    obtain ⟨g1, h⟩ := gd_some h
    refine r_iald (pc := 113) hR (dc dt_X11_few 62 rfl) tc_110 g1 (w32_in _) ?_
    refine r_aload_n (pc := 114) hR (dc dt_X11_few 63 rfl) rfl ?_
    refine r_getr (pc := 115) (k2 := 109) hR (dc dt_X11_few 64 rfl) fl_X11_87 tc_83 rfl ?_
    refine r_iload (pc := 118) hR (dc dt_X11_few 65 rfl) rfl ?_
    obtain ⟨g1, h⟩ := gd_some h
    refine r_iald (pc := 120) hR (dc dt_X11_few 66 rfl) tc_109 g1 qv6 ?_
    refine r_iadd (pc := 121) hR (dc dt_X11_few 67 rfl) ?_
    refine r_callS (pc := 122) (rest := []) hR (dc dt_X11_few 68 rfl) cl_X11_227 (ok_F11_lesser qv5 (w32_in _)) (by decide) rfl (Nat.le_of_ble_eq_true rfl) rfl (fun q122r => ?_)
    show Go 125 [some (.ref (ad 83)), some (iv v1), some (iv v2), some (iv v3), some (iv v4), some (iv v5), some (iv v6)] [iv (F11_lesser v5 (w32 ((rd m 110 (w32 (v4 - v6))) + (rd m 109 v6))))] m
    refine r_istore (pc := 125) (L' := [some (.ref (ad 83)), some (iv v1), some (iv v2), some (iv v3), some (iv v4), some (iv (F11_lesser v5 (w32 ((rd m 110 (w32 (v4 - v6))) + (rd m 109 v6))))), some (iv v6)]) hR (dc dt_X11_few 69 rfl) (by decide) rfl rfl ?_
    refine r_iinc (pc := 127) (L' := [some (.ref (ad 83)), some (iv v1), some (iv v2), some (iv v3), some (iv v4), some (iv (F11_lesser v5 (w32 ((rd m 110 (w32 (v4 - v6))) + (rd m 109 v6))))), some (iv (w32 (v6 + 1)))]) hR (dc dt_X11_few 70 rfl) rfl (by decide) rfl rfl ?_
    refine r_goto (pc := 130) (tgt := 88) hR (dc dt_X11_few 71 rfl) (by decide) ?_
    exact ih (F11_lesser v5 (w32 ((rd m 110 (w32 (v4 - v6))) + (rd m 109 v6)))) (w32 (v6 + 1)) q122r (w32_in _) h
set_option maxRecDepth 100000 in
set_option maxHeartbeats 4000000 in
theorem lp_L11_few_76 {Go : Nat → List (Option Value) → List Value → Mem → Prop} (hR : RS l G cy ad tt RX11 cX11_few 7 5 Go) {out : Int × Mem} (hT : RT cX11_few (some (iv out.1)) (inR out.1) out.2 (some .int) Go) {v1 : Int} {v2 : Int} {v3 : Int} (qv1 : inR v1) (qv2 : inR v2) (qv3 : inR v3) {k148 : Mem → Option (Int × Mem)} (hk148 : ∀ (m : Mem), k148 m = some out → Go 148 [some (.ref (ad 83)), some (iv v1), some (iv v2), some (iv v3), none, none, none] [] m) : ∀ (n : Nat) (v4 : Int) (m : Mem), inR v4 → L11_few_76 k148 n v4 m = some out → Go 76 [some (.ref (ad 83)), some (iv v1), some (iv v2), some (iv v3), some (iv v4), none, none] [] m := by
  intro n
  induction n with
  | zero =>
    intro v4 m qv4 h
    cases h
  | succ n ih =>
    intro v4 m qv4 h
    rw [L11_few_76] at h
    refine r_iload (pc := 76) hR (dc dt_X11_few 44 rfl) rfl ?_
    refine r_if_lt (pc := 78) (tgt := 148) hR (dc dt_X11_few 45 rfl) (by decide) qv4 (fun hc => ?_) (fun hc => ?_)
    · replace h := ite_t hc h
      refine r_weak (L' := [some (.ref (ad 83)), some (iv v1), some (iv v2), some (iv v3), none, none, none]) hR ⟨Or.inr rfl, Or.inr rfl, Or.inr rfl, Or.inr rfl, Or.inl rfl, Or.inr rfl, Or.inr rfl, trivial⟩ ?_
      exact hk148 m h
    replace h := ite_f hc h
    refine r_ldc (pc := 81) hR (dc dt_X11_few 46 rfl) kw_X11_223 ?_
    refine r_istore (pc := 83) (L' := [some (.ref (ad 83)), some (iv v1), some (iv v2), some (iv v3), some (iv v4), some (iv 1000000), none]) hR (dc dt_X11_few 47 rfl) (by decide) rfl rfl ?_
    refine r_iconst (pc := 85) hR (dc dt_X11_few 48 rfl) ?_
    refine r_istore (pc := 86) (L' := [some (.ref (ad 83)), some (iv v1), some (iv v2), some (iv v3), some (iv v4), some (iv 1000000), some (iv 0)]) hR (dc dt_X11_few 49 rfl) (by decide) rfl rfl ?_
    refine lp_L11_few_88 hR hT qv1 qv2 qv3 qv4 (fun v5_133 qv5_133 h => ?_) FU 1000000 0 (rg_c rfl) (rg_c rfl) h
    show Go 133 [some (.ref (ad 83)), some (iv v1), some (iv v2), some (iv v3), some (iv v4), some (iv v5_133), none] [] m
    refine r_aload_n (pc := 133) hR (dc dt_X11_few 72 rfl) rfl ?_
    refine r_getr (pc := 134) (k2 := 110) hR (dc dt_X11_few 73 rfl) fl_X11_90 tc_83 rfl ?_
    refine r_iload (pc := 137) hR (dc dt_X11_few 74 rfl) rfl ?_
    refine r_iload (pc := 139) hR (dc dt_X11_few 75 rfl) rfl ?_
    obtain ⟨g1, h⟩ := gd_some h
    refine r_iast (pc := 141) hR (dc dt_X11_few 76 rfl) tc_110 g1 qv4 ?_
    replace h := stw_e h
    generalize wr m 110 v4 v5_133 = m141 at h ⊢
    refine r_iinc (pc := 142) (L' := [some (.ref (ad 83)), some (iv v1), some (iv v2), some (iv v3), some (iv (w32 (v4 + (-1)))), some (iv v5_133), none]) hR (dc dt_X11_few 77 rfl) rfl (by decide) rfl rfl ?_
    refine r_goto (pc := 145) (tgt := 76) hR (dc dt_X11_few 78 rfl) (by decide) ?_
    refine r_weak (L' := [some (.ref (ad 83)), some (iv v1), some (iv v2), some (iv v3), some (iv (w32 (v4 + (-1)))), none, none]) hR ⟨Or.inr rfl, Or.inr rfl, Or.inr rfl, Or.inr rfl, Or.inr rfl, Or.inl rfl, Or.inr rfl, trivial⟩ ?_
    exact ih (w32 (v4 + (-1))) m141 (w32_in _) h
set_option maxRecDepth 100000 in
set_option maxHeartbeats 4000000 in
theorem lp_L11_few_61 {Go : Nat → List (Option Value) → List Value → Mem → Prop} (hR : RS l G cy ad tt RX11 cX11_few 7 5 Go) {out : Int × Mem} (hT : RT cX11_few (some (iv out.1)) (inR out.1) out.2 (some .int) Go) {v1 : Int} {v2 : Int} (qv1 : inR v1) (qv2 : inR v2) {k154 : Mem → Option (Int × Mem)} (hk154 : ∀ (m : Mem), k154 m = some out → Go 154 [some (.ref (ad 83)), some (iv v1), some (iv v2), none, none, none, none] [] m) : ∀ (n : Nat) (v3 : Int) (m : Mem), inR v3 → L11_few_61 v2 k154 n v3 m = some out → Go 61 [some (.ref (ad 83)), some (iv v1), some (iv v2), some (iv v3), none, none, none] [] m := by
  intro n
  induction n with
  | zero =>
    intro v3 m qv3 h
    cases h
  | succ n ih =>
    intro v3 m qv3 h
    rw [L11_few_61] at h
    refine r_iload_n (pc := 61) hR (dc dt_X11_few 35 rfl) rfl ?_
    refine r_iconst (pc := 62) hR (dc dt_X11_few 36 rfl) ?_
    refine r_icmp_ge (pc := 63) (tgt := 154) hR (dc dt_X11_few 37 rfl) (by decide) qv3 (rg_c rfl) (fun hc => ?_) (fun hc => ?_)
    · replace h := ite_t hc h
      refine r_weak (L' := [some (.ref (ad 83)), some (iv v1), some (iv v2), none, none, none, none]) hR ⟨Or.inr rfl, Or.inr rfl, Or.inr rfl, Or.inl rfl, Or.inr rfl, Or.inr rfl, Or.inr rfl, trivial⟩ ?_
      exact hk154 m h
    replace h := ite_f hc h
    refine r_aload_n (pc := 66) hR (dc dt_X11_few 38 rfl) rfl ?_
    refine r_iload_n (pc := 67) hR (dc dt_X11_few 39 rfl) rfl ?_
    refine r_iload_n (pc := 68) hR (dc dt_X11_few 40 rfl) rfl ?_
    obtain ⟨m69, e69, h⟩ := b1_some h
    refine r_callV (pc := 69) (rest := []) hR (dc dt_X11_few 41 rfl) cl_X11_307 tc_83 rfl (ok_F11_findChapter qv2 qv3 e69) (by decide) rfl (Nat.le_of_ble_eq_true rfl) rfl (fun q69r => ?_)
    show Go 72 [some (.ref (ad 83)), some (iv v1), some (iv v2), some (iv v3), none, none, none] [] m69
    refine r_bipush (pc := 72) hR (dc dt_X11_few 42 rfl) (by decide) ?_
    refine r_istore (pc := 74) (L' := [some (.ref (ad 83)), some (iv v1), some (iv v2), some (iv v3), some (iv 20), none, none]) hR (dc dt_X11_few 43 rfl) (by decide) rfl rfl ?_
    refine lp_L11_few_76 hR hT qv1 qv2 qv3 (fun m_148 h => ?_) FU 20 m69 (rg_c rfl) h
    show Go 148 [some (.ref (ad 83)), some (iv v1), some (iv v2), some (iv v3), none, none, none] [] m_148
    refine r_iinc (pc := 148) (L' := [some (.ref (ad 83)), some (iv v1), some (iv v2), some (iv (w32 (v3 + 1))), none, none, none]) hR (dc dt_X11_few 79 rfl) rfl (by decide) rfl rfl ?_
    refine r_goto (pc := 151) (tgt := 61) hR (dc dt_X11_few 80 rfl) (by decide) ?_
    exact ih (w32 (v3 + 1)) m_148 (w32_in _) h
set_option maxRecDepth 100000 in
set_option maxHeartbeats 4000000 in
theorem lp_L11_few_39 {Go : Nat → List (Option Value) → List Value → Mem → Prop} (hR : RS l G cy ad tt RX11 cX11_few 7 5 Go) {out : Int × Mem} (hT : RT cX11_few (some (iv out.1)) (inR out.1) out.2 (some .int) Go) {v1 : Int} (qv1 : inR v1) {k160 : Mem → Option (Int × Mem)} (hk160 : ∀ (m : Mem), k160 m = some out → Go 160 [some (.ref (ad 83)), some (iv v1), none, none, none, none, none] [] m) : ∀ (n : Nat) (v2 : Int) (m : Mem), inR v2 → L11_few_39 k160 n v2 m = some out → Go 39 [some (.ref (ad 83)), some (iv v1), some (iv v2), none, none, none, none] [] m := by
  intro n
  induction n with
  | zero =>
    intro v2 m qv2 h
    cases h
  | succ n ih =>
    intro v2 m qv2 h
    rw [L11_few_39] at h
    refine r_iload_n (pc := 39) hR (dc dt_X11_few 23 rfl) rfl ?_
    refine r_aload_n (pc := 40) hR (dc dt_X11_few 24 rfl) rfl ?_
    refine r_geti (pc := 41) hR (dc dt_X11_few 25 rfl) fl_X11_138 tc_83 rfl ?_
    refine r_icmp_ge (pc := 44) (tgt := 160) hR (dc dt_X11_few 26 rfl) (by decide) qv2 (rd_in _ _ _) (fun hc => ?_) (fun hc => ?_)
    · replace h := ite_t hc h
      refine r_weak (L' := [some (.ref (ad 83)), some (iv v1), none, none, none, none, none]) hR ⟨Or.inr rfl, Or.inr rfl, Or.inl rfl, Or.inr rfl, Or.inr rfl, Or.inr rfl, Or.inr rfl, trivial⟩ ?_
      exact hk160 m h
    replace h := ite_f hc h
    refine r_aload_n (pc := 47) hR (dc dt_X11_few 27 rfl) rfl ?_
    refine r_getr (pc := 48) (k2 := 88) hR (dc dt_X11_few 28 rfl) fl_X11_23 tc_83 rfl ?_
    refine r_iload_n (pc := 51) hR (dc dt_X11_few 29 rfl) rfl ?_
    obtain ⟨g1, h⟩ := gd_some h
    refine r_iald (pc := 52) hR (dc dt_X11_few 30 rfl) tc_88 g1 qv2 ?_
    refine jn_e h (fun (K : Mem → Option (Int × Mem)) => ∀ (m_154 : Mem), K m_154 = some out → Go 154 [some (.ref (ad 83)), some (iv v1), some (iv v2), none, none, none, none] [] m_154) (fun m_154 h => ?_) (fun K154 J154 h => ?_)
    · refine r_iinc (pc := 154) (L' := [some (.ref (ad 83)), some (iv v1), some (iv (w32 (v2 + 1))), none, none, none, none]) hR (dc dt_X11_few 81 rfl) rfl (by decide) rfl rfl ?_
      refine r_goto (pc := 157) (tgt := 39) hR (dc dt_X11_few 82 rfl) (by decide) ?_
      exact ih (w32 (v2 + 1)) m_154 (w32_in _) h
    refine r_if_ge (pc := 53) (tgt := 59) hR (dc dt_X11_few 31 rfl) (by decide) (rd_in _ _ _) (fun hc => ?_) (fun hc => ?_)
    · replace h := ite_t hc h
      refine r_iconst (pc := 59) hR (dc dt_X11_few 33 rfl) ?_
      refine r_istore_n (pc := 60) (L' := [some (.ref (ad 83)), some (iv v1), some (iv v2), some (iv 0), none, none, none]) hR (dc dt_X11_few 34 rfl) (by decide) rfl rfl ?_
      refine lp_L11_few_61 hR hT qv1 qv2 (fun m_154 h => ?_) FU 0 m (rg_c rfl) h
      show Go 154 [some (.ref (ad 83)), some (iv v1), some (iv v2), none, none, none, none] [] m_154
      exact J154 m_154 h
    replace h := ite_f hc h
    refine r_goto (pc := 56) (tgt := 154) hR (dc dt_X11_few 32 rfl) (by decide) ?_
    exact J154 m h
set_option maxRecDepth 100000 in
set_option maxHeartbeats 4000000 in
theorem ok_F11_few {m : Mem}  {v1 : Int} (q1 : inR v1) {out : Int × Mem} (h : F11_few m v1 = some out) : CT l G cy ad tt yX11_few cX11_few 7 (some .int) 5 [.ref (ad 83), iv v1] m (some (iv out.1)) (inR out.1) out.2 := by
  refine CT_of (by decide) (Nat.le_of_ble_eq_true rfl) (fun Go hR hT => ?_)
  replace hR : RS l G cy ad tt RX11 cX11_few 7 5 Go := hR
  show Go 0 [some (.ref (ad 83)), some (iv v1), none, none, none, none, none] [] m
  unfold F11_few at h
  refine r_iload_n (pc := 0) hR (dc dt_X11_few 0 rfl) rfl ?_
  refine r_iconst (pc := 1) hR (dc dt_X11_few 1 rfl) ?_
  refine r_bipush (pc := 2) hR (dc dt_X11_few 2 rfl) (by decide) ?_
  refine r_callS (pc := 4) (rest := []) hR (dc dt_X11_few 3 rfl) cl_X11_134 (ok_F11_in q1 (rg_c rfl) (rg_c rfl)) (by decide) rfl (Nat.le_of_ble_eq_true rfl) rfl (fun q4r => ?_)
  show Go 7 [some (.ref (ad 83)), some (iv v1), none, none, none, none, none] [iv (F11_in v1 0 20)] m
  refine r_if_ne (pc := 7) (tgt := 12) hR (dc dt_X11_few 4 rfl) (by decide) (inZ_R q4r) (fun hc => ?_) (fun hc => ?_)
  · replace h := ite_t hc h
    refine r_aload_n (pc := 12) hR (dc dt_X11_few 7 rfl) rfl ?_
    obtain ⟨m13, e13, h⟩ := b1_some h
    refine r_callV (pc := 13) (rest := []) hR (dc dt_X11_few 8 rfl) cl_X11_304 tc_83 rfl (ok_F11_fillAll  e13) (by decide) rfl (Nat.le_of_ble_eq_true rfl) rfl (fun q13r => ?_)
    show Go 16 [some (.ref (ad 83)), some (iv v1), none, none, none, none, none] [] m13
    refine r_iconst (pc := 16) hR (dc dt_X11_few 9 rfl) ?_
    refine r_istore_n (pc := 17) (L' := [some (.ref (ad 83)), some (iv v1), some (iv 0), none, none, none, none]) hR (dc dt_X11_few 10 rfl) (by decide) rfl rfl ?_
    refine lp_L11_few_18 hR hT q1 (fun m_37 h => ?_) FU 0 m13 (rg_c rfl) h
    show Go 37 [some (.ref (ad 83)), some (iv v1), none, none, none, none, none] [] m_37
    refine r_iconst (pc := 37) hR (dc dt_X11_few 21 rfl) ?_
    refine r_istore_n (pc := 38) (L' := [some (.ref (ad 83)), some (iv v1), some (iv 0), none, none, none, none]) hR (dc dt_X11_few 22 rfl) (by decide) rfl rfl ?_
    refine lp_L11_few_39 hR hT q1 (fun m_160 h => ?_) FU 0 m_37 (rg_c rfl) h
    show Go 160 [some (.ref (ad 83)), some (iv v1), none, none, none, none, none] [] m_160
    refine r_aload_n (pc := 160) hR (dc dt_X11_few 83 rfl) rfl ?_
    refine r_getr (pc := 161) (k2 := 110) hR (dc dt_X11_few 84 rfl) fl_X11_90 tc_83 rfl ?_
    refine r_iload_n (pc := 164) hR (dc dt_X11_few 85 rfl) rfl ?_
    obtain ⟨g1, h⟩ := gd_some h
    refine r_iald (pc := 165) hR (dc dt_X11_few 86 rfl) tc_110 g1 q1 ?_
    exact r_iret hT (dc dt_X11_few 87 rfl) (congrArg Prod.fst (Option.some.inj h)) (congrArg Prod.snd (Option.some.inj h)) (rd_in _ _ _)
  replace h := ite_f hc h
  refine r_iconst (pc := 10) hR (dc dt_X11_few 5 rfl) ?_
  exact r_iret hT (dc dt_X11_few 6 rfl) (congrArg Prod.fst (Option.some.inj h)) (congrArg Prod.snd (Option.some.inj h)) (rg_c rfl)
def tb_X11_from : List (Nat × (Instr × Nat)) := [(0, (.aload_n 0, 1)), (1, (.iload_n 1, 1)), (2, (.invokevirtual 182, 3)), (5, (.ifCond .eq 10, 3)), (8, (.iload_n 2, 1)), (9, (.invokestatic 158, 3)), (12, (.ifCond .ne 5, 3)), (15, (.iconst (-1), 1)), (16, (.ireturn, 1)), (17, (.aload_n 0, 1)), (18, (.getfield 23, 3)), (21, (.iload_n 1, 1)), (22, (.iaload, 1)), (23, (.ifCond .ge 6, 3)), (26, (.bipush (-2), 2)), (28, (.ireturn, 1)), (29, (.aload_n 0, 1)), (30, (.invokevirtual 304, 3)), (33, (.aload_n 0, 1)), (34, (.iload_n 1, 1)), (35, (.iload_n 2, 1)), (36, (.invokevirtual 292, 3)), (39, (.aload_n 0, 1)), (40, (.getfield 29, 3)), (43, (.iconst 3, 1)), (44, (.iaload, 1)), (45, (.if_icmp .gt 6, 3)), (48, (.bipush (-2), 2)), (50, (.ireturn, 1)), (51, (.iconst 0, 1)), (52, (.istore_n 3, 1)), (53, (.iload_n 3, 1)), (54, (.aload_n 0, 1)), (55, (.getfield 138, 3)), (58, (.if_icmp .ge 30, 3)), (61, (.aload_n 0, 1)), (62, (.iload_n 3, 1)), (63, (.iload_n 1, 1)), (64, (.invokevirtual 286, 3)), (67, (.ifCond .eq 15, 3)), (70, (.aload_n 0, 1)), (71, (.iload_n 3, 1)), (72, (.iload_n 1, 1)), (73, (.iload_n 2, 1)), (74, (.invokevirtual 289, 3)), (77, (.ifCond .eq 5, 3)), (80, (.iload_n 3, 1)), (81, (.ireturn, 1)), (82, (.iinc 3 1, 3)), (85, (.goto (-32), 3)), (88, (.bipush (-2), 2)), (90, (.ireturn, 1))]
set_option maxRecDepth 100000 in
theorem dt_X11_from : (tb_X11_from.all fun q => decide (decode cX11_from q.1 = .ok q.2)) = true := by decide +kernel
set_option maxRecDepth 100000 in
set_option maxHeartbeats 4000000 in
theorem lp_L11_from_53 {Go : Nat → List (Option Value) → List Value → Mem → Prop} (hR : RS l G cy ad tt RX11 cX11_from 4 5 Go) {out : Int × Mem} {m : Mem} (hT : RT cX11_from (some (iv out.1)) (inR out.1) out.2 (some .int) Go) {v1 : Int} {v2 : Int} (qv1 : inR v1) (qv2 : inR v2) : ∀ (n : Nat) (v3 : Int), inR v3 → L11_from_53 m v1 v2 n v3 = some out → Go 53 [some (.ref (ad 83)), some (iv v1), some (iv v2), some (iv v3)] [] m := by
  intro n
  induction n with
  | zero =>
    intro v3 qv3 h
    cases h
  | succ n ih =>
    intro v3 qv3 h
    rw [L11_from_53] at h
    refine r_iload_n (pc := 53) hR (dc dt_X11_from 31 rfl) rfl ?_
    refine r_aload_n (pc := 54) hR (dc dt_X11_from 32 rfl) rfl ?_
    refine r_geti (pc := 55) hR (dc dt_X11_from 33 rfl) fl_X11_138 tc_83 rfl ?_
    refine r_icmp_ge (pc := 58) (tgt := 88) hR (dc dt_X11_from 34 rfl) (by decide) qv3 (rd_in _ _ _) (fun hc => ?_) (fun hc => ?_)
    · replace h := ite_t hc h
      refine r_bipush (pc := 88) hR (dc dt_X11_from 50 rfl) (by decide) ?_
      exact r_iret hT (dc dt_X11_from 51 rfl) (congrArg Prod.fst (Option.some.inj h)) (congrArg Prod.snd (Option.some.inj h)) (rg_c rfl)
    replace h := ite_f hc h
    refine r_aload_n (pc := 61) hR (dc dt_X11_from 35 rfl) rfl ?_
    refine r_iload_n (pc := 62) hR (dc dt_X11_from 36 rfl) rfl ?_
    refine r_iload_n (pc := 63) hR (dc dt_X11_from 37 rfl) rfl ?_
    obtain ⟨r64, e64, h⟩ := b1_some h
    refine r_callV (pc := 64) (rest := []) hR (dc dt_X11_from 38 rfl) cl_X11_286 tc_83 rfl (ok_F11_canLend qv3 qv1 e64) (by decide) rfl (Nat.le_of_ble_eq_true rfl) rfl (fun q64r => ?_)
    show Go 67 [some (.ref (ad 83)), some (iv v1), some (iv v2), some (iv v3)] [iv r64] m
    refine jn_e h (fun (K : Option (Int × Mem)) => K = some out → Go 82 [some (.ref (ad 83)), some (iv v1), some (iv v2), some (iv v3)] [] m) (fun h => ?_) (fun K82 J82 h => ?_)
    · refine r_iinc (pc := 82) (L' := [some (.ref (ad 83)), some (iv v1), some (iv v2), some (iv (w32 (v3 + 1)))]) hR (dc dt_X11_from 48 rfl) rfl (by decide) rfl rfl ?_
      refine r_goto (pc := 85) (tgt := 53) hR (dc dt_X11_from 49 rfl) (by decide) ?_
      exact ih (w32 (v3 + 1)) (w32_in _) h
    refine r_if_eq (pc := 67) (tgt := 82) hR (dc dt_X11_from 39 rfl) (by decide) (inZ_R q64r) (fun hc => ?_) (fun hc => ?_)
    · replace h := ite_t hc h
      exact J82 h
    replace h := ite_f hc h
    refine r_aload_n (pc := 70) hR (dc dt_X11_from 40 rfl) rfl ?_
    refine r_iload_n (pc := 71) hR (dc dt_X11_from 41 rfl) rfl ?_
    refine r_iload_n (pc := 72) hR (dc dt_X11_from 42 rfl) rfl ?_
    refine r_iload_n (pc := 73) hR (dc dt_X11_from 43 rfl) rfl ?_
    obtain ⟨r74, e74, h⟩ := b1_some h
    refine r_callV (pc := 74) (rest := []) hR (dc dt_X11_from 44 rfl) cl_X11_289 tc_83 rfl (ok_F11_isAlike qv3 qv1 qv2 e74) (by decide) rfl (Nat.le_of_ble_eq_true rfl) rfl (fun q74r => ?_)
    show Go 77 [some (.ref (ad 83)), some (iv v1), some (iv v2), some (iv v3)] [iv r74] m
    refine r_if_eq (pc := 77) (tgt := 82) hR (dc dt_X11_from 45 rfl) (by decide) (inZ_R q74r) (fun hc => ?_) (fun hc => ?_)
    · replace h := ite_t hc h
      exact J82 h
    replace h := ite_f hc h
    refine r_iload_n (pc := 80) hR (dc dt_X11_from 46 rfl) rfl ?_
    exact r_iret hT (dc dt_X11_from 47 rfl) (congrArg Prod.fst (Option.some.inj h)) (congrArg Prod.snd (Option.some.inj h)) qv3
set_option maxRecDepth 100000 in
set_option maxHeartbeats 4000000 in
theorem ok_F11_from {m : Mem}  {v1 v2 : Int} (q1 : inR v1) (q2 : inR v2) {out : Int × Mem} (h : F11_from m v1 v2 = some out) : CT l G cy ad tt yX11_from cX11_from 4 (some .int) 5 [.ref (ad 83), iv v1, iv v2] m (some (iv out.1)) (inR out.1) out.2 := by
  refine CT_of (by decide) (Nat.le_of_ble_eq_true rfl) (fun Go hR hT => ?_)
  replace hR : RS l G cy ad tt RX11 cX11_from 4 5 Go := hR
  show Go 0 [some (.ref (ad 83)), some (iv v1), some (iv v2), none] [] m
  unfold F11_from at h
  refine r_aload_n (pc := 0) hR (dc dt_X11_from 0 rfl) rfl ?_
  refine r_iload_n (pc := 1) hR (dc dt_X11_from 1 rfl) rfl ?_
  refine r_callV (pc := 2) (rest := []) hR (dc dt_X11_from 2 rfl) cl_X11_182 tc_83 rfl (ok_F11_isCharter q1) (by decide) rfl (Nat.le_of_ble_eq_true rfl) rfl (fun q2r => ?_)
  show Go 5 [some (.ref (ad 83)), some (iv v1), some (iv v2), none] [iv (F11_isCharter m v1)] m
  refine r_if_eq (pc := 5) (tgt := 15) hR (dc dt_X11_from 3 rfl) (by decide) (inZ_R q2r) (fun hc => ?_) (fun hc => ?_)
  · replace h := ite_t hc h
    refine r_iconst (pc := 15) hR (dc dt_X11_from 7 rfl) ?_
    exact r_iret hT (dc dt_X11_from 8 rfl) (congrArg Prod.fst (Option.some.inj h)) (congrArg Prod.snd (Option.some.inj h)) (rg_c rfl)
  replace h := ite_f hc h
  refine r_iload_n (pc := 8) hR (dc dt_X11_from 4 rfl) rfl ?_
  refine r_callS (pc := 9) (rest := []) hR (dc dt_X11_from 5 rfl) cl_X11_158 (ok_F11_isClause q2) (by decide) rfl (Nat.le_of_ble_eq_true rfl) rfl (fun q9r => ?_)
  show Go 12 [some (.ref (ad 83)), some (iv v1), some (iv v2), none] [iv (F11_isClause v2)] m
  refine r_if_ne (pc := 12) (tgt := 17) hR (dc dt_X11_from 6 rfl) (by decide) (inZ_R q9r) (fun hc => ?_) (fun hc => ?_)
  · replace h := ite_t hc h
    refine r_aload_n (pc := 17) hR (dc dt_X11_from 9 rfl) rfl ?_
    refine r_getr (pc := 18) (k2 := 88) hR (dc dt_X11_from 10 rfl) fl_X11_23 tc_83 rfl ?_
    refine r_iload_n (pc := 21) hR (dc dt_X11_from 11 rfl) rfl ?_
    obtain ⟨g1, h⟩ := gd_some h
    refine r_iald (pc := 22) hR (dc dt_X11_from 12 rfl) tc_88 g1 q1 ?_
    refine r_if_ge (pc := 23) (tgt := 29) hR (dc dt_X11_from 13 rfl) (by decide) (rd_in _ _ _) (fun hc => ?_) (fun hc => ?_)
    · replace h := ite_t hc h
      refine r_aload_n (pc := 29) hR (dc dt_X11_from 16 rfl) rfl ?_
      obtain ⟨m30, e30, h⟩ := b1_some h
      refine r_callV (pc := 30) (rest := []) hR (dc dt_X11_from 17 rfl) cl_X11_304 tc_83 rfl (ok_F11_fillAll  e30) (by decide) rfl (Nat.le_of_ble_eq_true rfl) rfl (fun q30r => ?_)
      show Go 33 [some (.ref (ad 83)), some (iv v1), some (iv v2), none] [] m30
      refine r_aload_n (pc := 33) hR (dc dt_X11_from 18 rfl) rfl ?_
      refine r_iload_n (pc := 34) hR (dc dt_X11_from 19 rfl) rfl ?_
      refine r_iload_n (pc := 35) hR (dc dt_X11_from 20 rfl) rfl ?_
      obtain ⟨r36, e36, h⟩ := b1_some h
      refine r_callV (pc := 36) (rest := []) hR (dc dt_X11_from 21 rfl) cl_X11_292 tc_83 rfl (ok_F11_baseOf q1 q2 e36) (by decide) rfl (Nat.le_of_ble_eq_true rfl) rfl (fun q36r => ?_)
      show Go 39 [some (.ref (ad 83)), some (iv v1), some (iv v2), none] [iv r36] m30
      refine r_aload_n (pc := 39) hR (dc dt_X11_from 22 rfl) rfl ?_
      refine r_getr (pc := 40) (k2 := 90) hR (dc dt_X11_from 23 rfl) fl_X11_29 tc_83 rfl ?_
      refine r_iconst (pc := 43) hR (dc dt_X11_from 24 rfl) ?_
      obtain ⟨g1, h⟩ := gd_some h
      refine r_iald (pc := 44) hR (dc dt_X11_from 25 rfl) tc_90 g1 (rg_c rfl) ?_
      refine r_icmp_gt (pc := 45) (tgt := 51) hR (dc dt_X11_from 26 rfl) (by decide) q36r (rd_in _ _ _) (fun hc => ?_) (fun hc => ?_)
      · replace h := ite_t hc h
        refine r_iconst (pc := 51) hR (dc dt_X11_from 29 rfl) ?_
        refine r_istore_n (pc := 52) (L' := [some (.ref (ad 83)), some (iv v1), some (iv v2), some (iv 0)]) hR (dc dt_X11_from 30 rfl) (by decide) rfl rfl ?_
        refine lp_L11_from_53 hR hT q1 q2 FU 0 (rg_c rfl) h
      replace h := ite_f hc h
      refine r_bipush (pc := 48) hR (dc dt_X11_from 27 rfl) (by decide) ?_
      exact r_iret hT (dc dt_X11_from 28 rfl) (congrArg Prod.fst (Option.some.inj h)) (congrArg Prod.snd (Option.some.inj h)) (rg_c rfl)
    replace h := ite_f hc h
    refine r_bipush (pc := 26) hR (dc dt_X11_from 14 rfl) (by decide) ?_
    exact r_iret hT (dc dt_X11_from 15 rfl) (congrArg Prod.fst (Option.some.inj h)) (congrArg Prod.snd (Option.some.inj h)) (rg_c rfl)
  replace h := ite_f hc h
  refine r_iconst (pc := 15) hR (dc dt_X11_from 7 rfl) ?_
  exact r_iret hT (dc dt_X11_from 8 rfl) (congrArg Prod.fst (Option.some.inj h)) (congrArg Prod.snd (Option.some.inj h)) (rg_c rfl)
def tb_X11_cameIn : List (Nat × (Instr × Nat)) := [(0, (.aload_n 0, 1)), (1, (.iload_n 1, 1)), (2, (.invokevirtual 182, 3)), (5, (.ifCond .eq 10, 3)), (8, (.iload_n 2, 1)), (9, (.invokestatic 158, 3)), (12, (.ifCond .ne 5, 3)), (15, (.iconst (-1), 1)), (16, (.ireturn, 1)), (17, (.aload_n 0, 1)), (18, (.invokevirtual 304, 3)), (21, (.aload_n 0, 1)), (22, (.getfield 81, 3)), (25, (.bipush 16, 2)), (27, (.iload_n 1, 1)), (28, (.imul, 1)), (29, (.iload_n 2, 1)), (30, (.iadd, 1)), (31, (.iaload, 1)), (32, (.ifCond .ne 6, 3)), (35, (.bipush (-2), 2)), (37, (.ireturn, 1)), (38, (.iload_n 1, 1)), (39, (.istore_n 3, 1)), (40, (.aload_n 0, 1)), (41, (.getfield 23, 3)), (44, (.iload_n 3, 1)), (45, (.iaload, 1)), (46, (.ifCond .lt 28, 3)), (49, (.aload_n 0, 1)), (50, (.aload_n 0, 1)), (51, (.getfield 23, 3)), (54, (.iload_n 3, 1)), (55, (.iaload, 1)), (56, (.iload_n 1, 1)), (57, (.iload_n 2, 1)), (58, (.invokevirtual 289, 3)), (61, (.ifCond .eq 13, 3)), (64, (.aload_n 0, 1)), (65, (.getfield 23, 3)), (68, (.iload_n 3, 1)), (69, (.iaload, 1)), (70, (.istore_n 3, 1)), (71, (.goto (-31), 3)), (74, (.iload_n 3, 1)), (75, (.ireturn, 1))]
set_option maxRecDepth 100000 in
theorem dt_X11_cameIn : (tb_X11_cameIn.all fun q => decide (decode cX11_cameIn q.1 = .ok q.2)) = true := by decide +kernel
set_option maxRecDepth 100000 in
set_option maxHeartbeats 4000000 in
theorem lp_L11_cameIn_40 {Go : Nat → List (Option Value) → List Value → Mem → Prop} (hR : RS l G cy ad tt RX11 cX11_cameIn 4 5 Go) {out : Int × Mem} {m : Mem} (hT : RT cX11_cameIn (some (iv out.1)) (inR out.1) out.2 (some .int) Go) {v1 : Int} {v2 : Int} (qv1 : inR v1) (qv2 : inR v2) : ∀ (n : Nat) (v3 : Int), inR v3 → L11_cameIn_40 m v1 v2 n v3 = some out → Go 40 [some (.ref (ad 83)), some (iv v1), some (iv v2), some (iv v3)] [] m := by
  intro n
  induction n with
  | zero =>
    intro v3 qv3 h
    cases h
  | succ n ih =>
    intro v3 qv3 h
    rw [L11_cameIn_40] at h
    refine r_aload_n (pc := 40) hR (dc dt_X11_cameIn 24 rfl) rfl ?_
    refine r_getr (pc := 41) (k2 := 88) hR (dc dt_X11_cameIn 25 rfl) fl_X11_23 tc_83 rfl ?_
    refine r_iload_n (pc := 44) hR (dc dt_X11_cameIn 26 rfl) rfl ?_
    obtain ⟨g1, h⟩ := gd_some h
    refine r_iald (pc := 45) hR (dc dt_X11_cameIn 27 rfl) tc_88 g1 qv3 ?_
    refine r_if_lt (pc := 46) (tgt := 74) hR (dc dt_X11_cameIn 28 rfl) (by decide) (rd_in _ _ _) (fun hc => ?_) (fun hc => ?_)
    · replace h := ite_t hc h
      refine r_iload_n (pc := 74) hR (dc dt_X11_cameIn 44 rfl) rfl ?_
      exact r_iret hT (dc dt_X11_cameIn 45 rfl) (congrArg Prod.fst (Option.some.inj h)) (congrArg Prod.snd (Option.some.inj h)) qv3
    replace h := ite_f hc h
    refine r_aload_n (pc := 49) hR (dc dt_X11_cameIn 29 rfl) rfl ?_
    refine r_aload_n (pc := 50) hR (dc dt_X11_cameIn 30 rfl) rfl ?_
    refine r_getr (pc := 51) (k2 := 88) hR (dc dt_X11_cameIn 31 rfl) fl_X11_23 tc_83 rfl ?_
    refine r_iload_n (pc := 54) hR (dc dt_X11_cameIn 32 rfl) rfl ?_
    obtain ⟨g1, h⟩ := gd_some h
    refine r_iald (pc := 55) hR (dc dt_X11_cameIn 33 rfl) tc_88 g1 qv3 ?_
    refine r_iload_n (pc := 56) hR (dc dt_X11_cameIn 34 rfl) rfl ?_
    refine r_iload_n (pc := 57) hR (dc dt_X11_cameIn 35 rfl) rfl ?_
    obtain ⟨r58, e58, h⟩ := b1_some h
    refine r_callV (pc := 58) (rest := []) hR (dc dt_X11_cameIn 36 rfl) cl_X11_289 tc_83 rfl (ok_F11_isAlike (rd_in _ _ _) qv1 qv2 e58) (by decide) rfl (Nat.le_of_ble_eq_true rfl) rfl (fun q58r => ?_)
    show Go 61 [some (.ref (ad 83)), some (iv v1), some (iv v2), some (iv v3)] [iv r58] m
    refine r_if_eq (pc := 61) (tgt := 74) hR (dc dt_X11_cameIn 37 rfl) (by decide) (inZ_R q58r) (fun hc => ?_) (fun hc => ?_)
    · replace h := ite_t hc h
      refine r_iload_n (pc := 74) hR (dc dt_X11_cameIn 44 rfl) rfl ?_
      exact r_iret hT (dc dt_X11_cameIn 45 rfl) (congrArg Prod.fst (Option.some.inj h)) (congrArg Prod.snd (Option.some.inj h)) qv3
    replace h := ite_f hc h
    refine r_aload_n (pc := 64) hR (dc dt_X11_cameIn 38 rfl) rfl ?_
    refine r_getr (pc := 65) (k2 := 88) hR (dc dt_X11_cameIn 39 rfl) fl_X11_23 tc_83 rfl ?_
    refine r_iload_n (pc := 68) hR (dc dt_X11_cameIn 40 rfl) rfl ?_
    obtain ⟨g1, h⟩ := gd_some h
    refine r_iald (pc := 69) hR (dc dt_X11_cameIn 41 rfl) tc_88 g1 qv3 ?_
    refine r_istore_n (pc := 70) (L' := [some (.ref (ad 83)), some (iv v1), some (iv v2), some (iv (rd m 88 v3))]) hR (dc dt_X11_cameIn 42 rfl) (by decide) rfl rfl ?_
    refine r_goto (pc := 71) (tgt := 40) hR (dc dt_X11_cameIn 43 rfl) (by decide) ?_
    exact ih (rd m 88 v3) (rd_in _ _ _) h
set_option maxRecDepth 100000 in
set_option maxHeartbeats 4000000 in
theorem ok_F11_cameIn {m : Mem}  {v1 v2 : Int} (q1 : inR v1) (q2 : inR v2) {out : Int × Mem} (h : F11_cameIn m v1 v2 = some out) : CT l G cy ad tt yX11_cameIn cX11_cameIn 4 (some .int) 5 [.ref (ad 83), iv v1, iv v2] m (some (iv out.1)) (inR out.1) out.2 := by
  refine CT_of (by decide) (Nat.le_of_ble_eq_true rfl) (fun Go hR hT => ?_)
  replace hR : RS l G cy ad tt RX11 cX11_cameIn 4 5 Go := hR
  show Go 0 [some (.ref (ad 83)), some (iv v1), some (iv v2), none] [] m
  unfold F11_cameIn at h
  refine r_aload_n (pc := 0) hR (dc dt_X11_cameIn 0 rfl) rfl ?_
  refine r_iload_n (pc := 1) hR (dc dt_X11_cameIn 1 rfl) rfl ?_
  refine r_callV (pc := 2) (rest := []) hR (dc dt_X11_cameIn 2 rfl) cl_X11_182 tc_83 rfl (ok_F11_isCharter q1) (by decide) rfl (Nat.le_of_ble_eq_true rfl) rfl (fun q2r => ?_)
  show Go 5 [some (.ref (ad 83)), some (iv v1), some (iv v2), none] [iv (F11_isCharter m v1)] m
  refine r_if_eq (pc := 5) (tgt := 15) hR (dc dt_X11_cameIn 3 rfl) (by decide) (inZ_R q2r) (fun hc => ?_) (fun hc => ?_)
  · replace h := ite_t hc h
    refine r_iconst (pc := 15) hR (dc dt_X11_cameIn 7 rfl) ?_
    exact r_iret hT (dc dt_X11_cameIn 8 rfl) (congrArg Prod.fst (Option.some.inj h)) (congrArg Prod.snd (Option.some.inj h)) (rg_c rfl)
  replace h := ite_f hc h
  refine r_iload_n (pc := 8) hR (dc dt_X11_cameIn 4 rfl) rfl ?_
  refine r_callS (pc := 9) (rest := []) hR (dc dt_X11_cameIn 5 rfl) cl_X11_158 (ok_F11_isClause q2) (by decide) rfl (Nat.le_of_ble_eq_true rfl) rfl (fun q9r => ?_)
  show Go 12 [some (.ref (ad 83)), some (iv v1), some (iv v2), none] [iv (F11_isClause v2)] m
  refine r_if_ne (pc := 12) (tgt := 17) hR (dc dt_X11_cameIn 6 rfl) (by decide) (inZ_R q9r) (fun hc => ?_) (fun hc => ?_)
  · replace h := ite_t hc h
    refine r_aload_n (pc := 17) hR (dc dt_X11_cameIn 9 rfl) rfl ?_
    obtain ⟨m18, e18, h⟩ := b1_some h
    refine r_callV (pc := 18) (rest := []) hR (dc dt_X11_cameIn 10 rfl) cl_X11_304 tc_83 rfl (ok_F11_fillAll  e18) (by decide) rfl (Nat.le_of_ble_eq_true rfl) rfl (fun q18r => ?_)
    show Go 21 [some (.ref (ad 83)), some (iv v1), some (iv v2), none] [] m18
    refine r_aload_n (pc := 21) hR (dc dt_X11_cameIn 11 rfl) rfl ?_
    refine r_getr (pc := 22) (k2 := 107) hR (dc dt_X11_cameIn 12 rfl) fl_X11_81 tc_83 rfl ?_
    refine r_bipush (pc := 25) hR (dc dt_X11_cameIn 13 rfl) (by decide) ?_
    refine r_iload_n (pc := 27) hR (dc dt_X11_cameIn 14 rfl) rfl ?_
    refine r_imul (pc := 28) hR (dc dt_X11_cameIn 15 rfl) ?_
    refine r_iload_n (pc := 29) hR (dc dt_X11_cameIn 16 rfl) rfl ?_
    refine r_iadd (pc := 30) hR (dc dt_X11_cameIn 17 rfl) ?_
    obtain ⟨g1, h⟩ := gd_some h
    refine r_iald (pc := 31) hR (dc dt_X11_cameIn 18 rfl) tc_107 g1 (w32_in _) ?_
    refine r_if_ne (pc := 32) (tgt := 38) hR (dc dt_X11_cameIn 19 rfl) (by decide) (rd_in _ _ _) (fun hc => ?_) (fun hc => ?_)
    · replace h := ite_t hc h
      refine r_iload_n (pc := 38) hR (dc dt_X11_cameIn 22 rfl) rfl ?_
      refine r_istore_n (pc := 39) (L' := [some (.ref (ad 83)), some (iv v1), some (iv v2), some (iv v1)]) hR (dc dt_X11_cameIn 23 rfl) (by decide) rfl rfl ?_
      refine lp_L11_cameIn_40 hR hT q1 q2 FU v1 q1 h
    replace h := ite_f hc h
    refine r_bipush (pc := 35) hR (dc dt_X11_cameIn 20 rfl) (by decide) ?_
    exact r_iret hT (dc dt_X11_cameIn 21 rfl) (congrArg Prod.fst (Option.some.inj h)) (congrArg Prod.snd (Option.some.inj h)) (rg_c rfl)
  replace h := ite_f hc h
  refine r_iconst (pc := 15) hR (dc dt_X11_cameIn 7 rfl) ?_
  exact r_iret hT (dc dt_X11_cameIn 8 rfl) (congrArg Prod.fst (Option.some.inj h)) (congrArg Prod.snd (Option.some.inj h)) (rg_c rfl)
def tb_X11_doClash : List (Nat × (Instr × Nat)) := [(0, (.iconst 0, 1)), (1, (.istore_n 3, 1)), (2, (.iconst 0, 1)), (3, (.istore 4, 2)), (5, (.iload 4, 2)), (7, (.aload_n 0, 1)), (8, (.getfield 138, 3)), (11, (.if_icmp .ge 77, 3)), (14, (.aload_n 0, 1)), (15, (.getfield 26, 3)), (18, (.bipush 16, 2)), (20, (.iload 4, 2)), (22, (.imul, 1)), (23, (.iload_n 1, 1)), (24, (.iadd, 1)), (25, (.iaload, 1)), (26, (.istore 5, 2)), (28, (.aload_n 0, 1)), (29, (.getfield 26, 3)), (32, (.bipush 16, 2)), (34, (.iload 4, 2)), (36, (.imul, 1)), (37, (.iload_n 2, 1)), (38, (.iadd, 1)), (39, (.iaload, 1)), (40, (.istore 6, 2)), (42, (.iload 5, 2)), (44, (.bipush 9, 2)), (46, (.if_icmp .eq 36, 3)), (49, (.iload 6, 2)), (51, (.bipush 9, 2)), (53, (.if_icmp .eq 29, 3)), (56, (.iload_n 3, 1)), (57, (.iconst 1, 1)), (58, (.iload 5, 2)), (60, (.ifCond .le 7, 3)), (63, (.iconst 2, 1)), (64, (.goto 4, 3)), (67, (.iconst 0, 1)), (68, (.iload 6, 2)), (70, (.ifCond .le 7, 3)), (73, (.iconst 1, 1)), (74, (.goto 4, 3)), (77, (.iconst 0, 1)), (78, (.iadd, 1)), (79, (.ishl, 1)), (80, (.ior, 1)), (81, (.istore_n 3, 1)), (82, (.iinc 4 1, 3)), (85, (.goto (-80), 3)), (88, (.iload_n 3, 1)), (89, (.bipush 15, 2)), (91, (.if_icmp .ne 7, 3)), (94, (.iconst 1, 1)), (95, (.goto 4, 3)), (98, (.iconst 0, 1)), (99, (.ireturn, 1))]
set_option maxRecDepth 100000 in
theorem dt_X11_doClash : (tb_X11_doClash.all fun q => decide (decode cX11_doClash q.1 = .ok q.2)) = true := by decide +kernel
set_option maxRecDepth 100000 in
set_option maxHeartbeats 4000000 in
theorem lp_L11_doClash_5 {Go : Nat → List (Option Value) → List Value → Mem → Prop} (hR : RS l G cy ad tt RX11 cX11_doClash 7 0 Go) {out : Int} {m : Mem} (hT : RT cX11_doClash (some (iv out)) (inZ out) m (some .boolean) Go) {v1 : Int} {v2 : Int} (qv1 : inR v1) (qv2 : inR v2) {k88 : Int → Option Int} (hk88 : ∀ (v3 : Int), inR v3 → k88 v3 = some out → Go 88 [none, none, none, some (iv v3), none, none, none] [] m) : ∀ (n : Nat) (v3 : Int) (v4 : Int), inR v3 → inR v4 → L11_doClash_5 m v1 v2 k88 n v3 v4 = some out → Go 5 [some (.ref (ad 83)), some (iv v1), some (iv v2), some (iv v3), some (iv v4), none, none] [] m := by
  intro n
  induction n with
  | zero =>
    intro v3 v4 qv3 qv4 h
    cases h
  | succ n ih =>
    intro v3 v4 qv3 qv4 h
    rw [L11_doClash_5] at h
    refine r_iload (pc := 5) hR (dc dt_X11_doClash 4 rfl) rfl ?_
    refine r_aload_n (pc := 7) hR (dc dt_X11_doClash 5 rfl) rfl ?_
    refine r_geti (pc := 8) hR (dc dt_X11_doClash 6 rfl) fl_X11_138 tc_83 rfl ?_
    refine r_icmp_ge (pc := 11) (tgt := 88) hR (dc dt_X11_doClash 7 rfl) (by decide) qv4 (rd_in _ _ _) (fun hc => ?_) (fun hc => ?_)
    · replace h := ite_t hc h
      refine r_weak (L' := [none, none, none, some (iv v3), none, none, none]) hR ⟨Or.inl rfl, Or.inl rfl, Or.inl rfl, Or.inr rfl, Or.inl rfl, Or.inr rfl, Or.inr rfl, trivial⟩ ?_
      exact hk88 v3 qv3 h
    replace h := ite_f hc h
    refine r_aload_n (pc := 14) hR (dc dt_X11_doClash 8 rfl) rfl ?_
    refine r_getr (pc := 15) (k2 := 89) hR (dc dt_X11_doClash 9 rfl) fl_X11_26 tc_83 rfl ?_
    refine r_bipush (pc := 18) hR (dc dt_X11_doClash 10 rfl) (by decide) ?_
    refine r_iload (pc := 20) hR (dc dt_X11_doClash 11 rfl) rfl ?_
    refine r_imul (pc := 22) hR (dc dt_X11_doClash 12 rfl) ?_
    refine r_iload_n (pc := 23) hR (dc dt_X11_doClash 13 rfl) rfl ?_
    refine r_iadd (pc := 24) hR (dc dt_X11_doClash 14 rfl) ?_
    obtain ⟨g1, h⟩ := gd_some h
    refine r_iald (pc := 25) hR (dc dt_X11_doClash 15 rfl) tc_89 g1 (w32_in _) ?_
    refine r_istore (pc := 26) (L' := [some (.ref (ad 83)), some (iv v1), some (iv v2), some (iv v3), some (iv v4), some (iv (rd m 89 (w32 ((w32 (16 * v4)) + v1)))), none]) hR (dc dt_X11_doClash 16 rfl) (by decide) rfl rfl ?_
    refine r_aload_n (pc := 28) hR (dc dt_X11_doClash 17 rfl) rfl ?_
    refine r_getr (pc := 29) (k2 := 89) hR (dc dt_X11_doClash 18 rfl) fl_X11_26 tc_83 rfl ?_
    refine r_bipush (pc := 32) hR (dc dt_X11_doClash 19 rfl) (by decide) ?_
    refine r_iload (pc := 34) hR (dc dt_X11_doClash 20 rfl) rfl ?_
    refine r_imul (pc := 36) hR (dc dt_X11_doClash 21 rfl) ?_
    refine r_iload_n (pc := 37) hR (dc dt_X11_doClash 22 rfl) rfl ?_
    refine r_iadd (pc := 38) hR (dc dt_X11_doClash 23 rfl) ?_
    obtain ⟨g1, h⟩ := gd_some h
    refine r_iald (pc := 39) hR (dc dt_X11_doClash 24 rfl) tc_89 g1 (w32_in _) ?_
    refine r_istore (pc := 40) (L' := [some (.ref (ad 83)), some (iv v1), some (iv v2), some (iv v3), some (iv v4), some (iv (rd m 89 (w32 ((w32 (16 * v4)) + v1)))), some (iv (rd m 89 (w32 ((w32 (16 * v4)) + v2))))]) hR (dc dt_X11_doClash 25 rfl) (by decide) rfl rfl ?_
    refine r_iload (pc := 42) hR (dc dt_X11_doClash 26 rfl) rfl ?_
    refine r_bipush (pc := 44) hR (dc dt_X11_doClash 27 rfl) (by decide) ?_
    refine jn_e h (fun (K : Int → Option Int) => ∀ (v3_82 : Int), inR v3_82 → K v3_82 = some out → Go 82 [some (.ref (ad 83)), some (iv v1), some (iv v2), some (iv v3_82), some (iv v4), none, none] [] m) (fun v3_82 qv3_82 h => ?_) (fun K82 J82 h => ?_)
    · refine r_iinc (pc := 82) (L' := [some (.ref (ad 83)), some (iv v1), some (iv v2), some (iv v3_82), some (iv (w32 (v4 + 1))), none, none]) hR (dc dt_X11_doClash 48 rfl) rfl (by decide) rfl rfl ?_
      refine r_goto (pc := 85) (tgt := 5) hR (dc dt_X11_doClash 49 rfl) (by decide) ?_
      exact ih v3_82 (w32 (v4 + 1)) qv3_82 (w32_in _) h
    refine r_icmp_eq (pc := 46) (tgt := 82) hR (dc dt_X11_doClash 28 rfl) (by decide) (rd_in _ _ _) (rg_c rfl) (fun hc => ?_) (fun hc => ?_)
    · replace h := ite_t hc h
      refine r_weak (L' := [some (.ref (ad 83)), some (iv v1), some (iv v2), some (iv v3), some (iv v4), none, none]) hR ⟨Or.inr rfl, Or.inr rfl, Or.inr rfl, Or.inr rfl, Or.inr rfl, Or.inl rfl, Or.inl rfl, trivial⟩ ?_
      exact J82 v3 qv3 h
    replace h := ite_f hc h
    refine r_iload (pc := 49) hR (dc dt_X11_doClash 29 rfl) rfl ?_
    refine r_bipush (pc := 51) hR (dc dt_X11_doClash 30 rfl) (by decide) ?_
    refine r_icmp_eq (pc := 53) (tgt := 82) hR (dc dt_X11_doClash 31 rfl) (by decide) (rd_in _ _ _) (rg_c rfl) (fun hc => ?_) (fun hc => ?_)
    · replace h := ite_t hc h
      refine r_weak (L' := [some (.ref (ad 83)), some (iv v1), some (iv v2), some (iv v3), some (iv v4), none, none]) hR ⟨Or.inr rfl, Or.inr rfl, Or.inr rfl, Or.inr rfl, Or.inr rfl, Or.inl rfl, Or.inl rfl, trivial⟩ ?_
      exact J82 v3 qv3 h
    replace h := ite_f hc h
    refine r_iload_n (pc := 56) hR (dc dt_X11_doClash 32 rfl) rfl ?_
    refine r_iconst (pc := 57) hR (dc dt_X11_doClash 33 rfl) ?_
    refine r_iload (pc := 58) hR (dc dt_X11_doClash 34 rfl) rfl ?_
    refine jn_e h (fun (K : Int → Option Int) => ∀ (x68 : Int), inR x68 → K x68 = some out → Go 68 [some (.ref (ad 83)), some (iv v1), some (iv v2), none, some (iv v4), none, some (iv (rd m 89 (w32 ((w32 (16 * v4)) + v2))))] [iv x68, iv 1, iv v3] m) (fun x68 qx68 h => ?_) (fun K68 J68 h => ?_)
    · refine r_iload (pc := 68) hR (dc dt_X11_doClash 39 rfl) rfl ?_
      refine jn_e h (fun (K : Int → Option Int) => ∀ (x78 : Int), inZ x78 → K x78 = some out → Go 78 [some (.ref (ad 83)), some (iv v1), some (iv v2), none, some (iv v4), none, none] [iv x78, iv x68, iv 1, iv v3] m) (fun x78 qx78 h => ?_) (fun K78 J78 h => ?_)
      · refine r_iadd (pc := 78) hR (dc dt_X11_doClash 44 rfl) ?_
        refine r_ishl (pc := 79) hR (dc dt_X11_doClash 45 rfl) ?_
        refine r_ior (pc := 80) hR (dc dt_X11_doClash 46 rfl) ?_
        refine r_istore_n (pc := 81) (L' := [some (.ref (ad 83)), some (iv v1), some (iv v2), some (iv (bor v3 (shl 1 (w32 (x68 + x78))))), some (iv v4), none, none]) hR (dc dt_X11_doClash 47 rfl) (by decide) rfl rfl ?_
        exact J82 (bor v3 (shl 1 (w32 (x68 + x78)))) (ti_in _) h
      refine r_if_le (pc := 70) (tgt := 77) hR (dc dt_X11_doClash 40 rfl) (by decide) (rd_in _ _ _) (fun hc => ?_) (fun hc => ?_)
      · replace h := ite_t hc h
        refine r_iconst (pc := 77) hR (dc dt_X11_doClash 43 rfl) ?_
        refine r_weak (L' := [some (.ref (ad 83)), some (iv v1), some (iv v2), none, some (iv v4), none, none]) hR ⟨Or.inr rfl, Or.inr rfl, Or.inr rfl, Or.inr rfl, Or.inr rfl, Or.inr rfl, Or.inl rfl, trivial⟩ ?_
        exact J78 0 (Or.inl rfl) h
      replace h := ite_f hc h
      refine r_iconst (pc := 73) hR (dc dt_X11_doClash 41 rfl) ?_
      refine r_goto (pc := 74) (tgt := 78) hR (dc dt_X11_doClash 42 rfl) (by decide) ?_
      refine r_weak (L' := [some (.ref (ad 83)), some (iv v1), some (iv v2), none, some (iv v4), none, none]) hR ⟨Or.inr rfl, Or.inr rfl, Or.inr rfl, Or.inr rfl, Or.inr rfl, Or.inr rfl, Or.inl rfl, trivial⟩ ?_
      exact J78 1 (Or.inr rfl) h
    refine r_if_le (pc := 60) (tgt := 67) hR (dc dt_X11_doClash 35 rfl) (by decide) (rd_in _ _ _) (fun hc => ?_) (fun hc => ?_)
    · replace h := ite_t hc h
      refine r_iconst (pc := 67) hR (dc dt_X11_doClash 38 rfl) ?_
      refine r_weak (L' := [some (.ref (ad 83)), some (iv v1), some (iv v2), none, some (iv v4), none, some (iv (rd m 89 (w32 ((w32 (16 * v4)) + v2))))]) hR ⟨Or.inr rfl, Or.inr rfl, Or.inr rfl, Or.inl rfl, Or.inr rfl, Or.inl rfl, Or.inr rfl, trivial⟩ ?_
      exact J68 0 (rg_c rfl) h
    replace h := ite_f hc h
    refine r_iconst (pc := 63) hR (dc dt_X11_doClash 36 rfl) ?_
    refine r_goto (pc := 64) (tgt := 68) hR (dc dt_X11_doClash 37 rfl) (by decide) ?_
    refine r_weak (L' := [some (.ref (ad 83)), some (iv v1), some (iv v2), none, some (iv v4), none, some (iv (rd m 89 (w32 ((w32 (16 * v4)) + v2))))]) hR ⟨Or.inr rfl, Or.inr rfl, Or.inr rfl, Or.inl rfl, Or.inr rfl, Or.inl rfl, Or.inr rfl, trivial⟩ ?_
    exact J68 2 (rg_c rfl) h
set_option maxRecDepth 100000 in
set_option maxHeartbeats 4000000 in
theorem ok_F11_doClash {m : Mem}  {v1 v2 : Int} (q1 : inR v1) (q2 : inR v2) {out : Int} (h : F11_doClash m v1 v2 = some out) : CT l G cy ad tt yX11_doClash cX11_doClash 7 (some .boolean) 0 [.ref (ad 83), iv v1, iv v2] m (some (iv out)) (inZ out) m := by
  refine CT_of (by decide) (Nat.le_of_ble_eq_true rfl) (fun Go hR hT => ?_)
  replace hR : RS l G cy ad tt RX11 cX11_doClash 7 0 Go := hR
  show Go 0 [some (.ref (ad 83)), some (iv v1), some (iv v2), none, none, none, none] [] m
  unfold F11_doClash at h
  refine r_iconst (pc := 0) hR (dc dt_X11_doClash 0 rfl) ?_
  refine r_istore_n (pc := 1) (L' := [some (.ref (ad 83)), some (iv v1), some (iv v2), some (iv 0), none, none, none]) hR (dc dt_X11_doClash 1 rfl) (by decide) rfl rfl ?_
  refine r_iconst (pc := 2) hR (dc dt_X11_doClash 2 rfl) ?_
  refine r_istore (pc := 3) (L' := [some (.ref (ad 83)), some (iv v1), some (iv v2), some (iv 0), some (iv 0), none, none]) hR (dc dt_X11_doClash 3 rfl) (by decide) rfl rfl ?_
  refine lp_L11_doClash_5 hR hT q1 q2 (fun v3_88 qv3_88 h => ?_) FU 0 0 (rg_c rfl) (rg_c rfl) h
  show Go 88 [none, none, none, some (iv v3_88), none, none, none] [] m
  refine r_iload_n (pc := 88) hR (dc dt_X11_doClash 50 rfl) rfl ?_
  refine r_bipush (pc := 89) hR (dc dt_X11_doClash 51 rfl) (by decide) ?_
  refine r_icmp_ne (pc := 91) (tgt := 98) hR (dc dt_X11_doClash 52 rfl) (by decide) qv3_88 (rg_c rfl) (fun hc => ?_) (fun hc => ?_)
  · replace h := ite_t hc h
    refine r_iconst (pc := 98) hR (dc dt_X11_doClash 55 rfl) ?_
    exact r_zret hT (dc dt_X11_doClash 56 rfl) (Option.some.inj h) rfl (Or.inl rfl)
  replace h := ite_f hc h
  refine r_iconst (pc := 94) hR (dc dt_X11_doClash 53 rfl) ?_
  refine r_goto (pc := 95) (tgt := 99) hR (dc dt_X11_doClash 54 rfl) (by decide) ?_
  exact r_zret hT (dc dt_X11_doClash 56 rfl) (Option.some.inj h) rfl (Or.inr rfl)
def tb_X11_findPairs : List (Nat × (Instr × Nat)) := [(0, (.aload_n 0, 1)), (1, (.iconst 0, 1)), (2, (.putfield 310, 3)), (5, (.iconst 0, 1)), (6, (.istore_n 1, 1)), (7, (.iload_n 1, 1)), (8, (.bipush 16, 2)), (10, (.if_icmp .ge 62, 3)), (13, (.iload_n 1, 1)), (14, (.iconst 1, 1)), (15, (.iadd, 1)), (16, (.istore_n 2, 1)), (17, (.iload_n 2, 1)), (18, (.bipush 16, 2)), (20, (.if_icmp .ge 46, 3)), (23, (.aload_n 0, 1)), (24, (.iload_n 1, 1)), (25, (.iload_n 2, 1)), (26, (.invokevirtual 313, 3)), (29, (.ifCond .ne 6, 3)), (32, (.goto 28, 3)), (35, (.aload_n 0, 1)), (36, (.getfield 93, 3)), (39, (.aload_n 0, 1)), (40, (.getfield 310, 3)), (43, (.bipush 16, 2)), (45, (.iload_n 1, 1)), (46, (.imul, 1)), (47, (.iload_n 2, 1)), (48, (.iadd, 1)), (49, (.iastore, 1)), (50, (.aload_n 0, 1)), (51, (.dup, 1)), (52, (.getfield 310, 3)), (55, (.iconst 1, 1)), (56, (.iadd, 1)), (57, (.putfield 310, 3)), (60, (.iinc 2 1, 3)), (63, (.goto (-46), 3)), (66, (.iinc 1 1, 3)), (69, (.goto (-62), 3)), (72, (.return_, 1))]
set_option maxRecDepth 100000 in
theorem dt_X11_findPairs : (tb_X11_findPairs.all fun q => decide (decode cX11_findPairs q.1 = .ok q.2)) = true := by decide +kernel
set_option maxRecDepth 100000 in
set_option maxHeartbeats 4000000 in
theorem lp_L11_findPairs_17 {Go : Nat → List (Option Value) → List Value → Mem → Prop} (hR : RS l G cy ad tt RX11 cX11_findPairs 3 1 Go) {out : Mem} (hT : RT cX11_findPairs none True out none Go) {v1 : Int} (qv1 : inR v1) {k66 : Mem → Option Mem} (hk66 : ∀ (m : Mem), k66 m = some out → Go 66 [some (.ref (ad 83)), some (iv v1), none] [] m) : ∀ (n : Nat) (v2 : Int) (m : Mem), inR v2 → L11_findPairs_17 v1 k66 n v2 m = some out → Go 17 [some (.ref (ad 83)), some (iv v1), some (iv v2)] [] m := by
  intro n
  induction n with
  | zero =>
    intro v2 m qv2 h
    cases h
  | succ n ih =>
    intro v2 m qv2 h
    rw [L11_findPairs_17] at h
    refine r_iload_n (pc := 17) hR (dc dt_X11_findPairs 12 rfl) rfl ?_
    refine r_bipush (pc := 18) hR (dc dt_X11_findPairs 13 rfl) (by decide) ?_
    refine r_icmp_ge (pc := 20) (tgt := 66) hR (dc dt_X11_findPairs 14 rfl) (by decide) qv2 (rg_c rfl) (fun hc => ?_) (fun hc => ?_)
    · replace h := ite_t hc h
      refine r_weak (L' := [some (.ref (ad 83)), some (iv v1), none]) hR ⟨Or.inr rfl, Or.inr rfl, Or.inl rfl, trivial⟩ ?_
      exact hk66 m h
    replace h := ite_f hc h
    refine r_aload_n (pc := 23) hR (dc dt_X11_findPairs 15 rfl) rfl ?_
    refine r_iload_n (pc := 24) hR (dc dt_X11_findPairs 16 rfl) rfl ?_
    refine r_iload_n (pc := 25) hR (dc dt_X11_findPairs 17 rfl) rfl ?_
    obtain ⟨r26, e26, h⟩ := b1_some h
    refine r_callV (pc := 26) (rest := []) hR (dc dt_X11_findPairs 18 rfl) cl_X11_313 tc_83 rfl (ok_F11_doClash qv1 qv2 e26) (by decide) rfl (Nat.le_of_ble_eq_true rfl) rfl (fun q26r => ?_)
    show Go 29 [some (.ref (ad 83)), some (iv v1), some (iv v2)] [iv r26] m
    refine jn_e h (fun (K : Mem → Option Mem) => ∀ (m_60 : Mem), K m_60 = some out → Go 60 [some (.ref (ad 83)), some (iv v1), some (iv v2)] [] m_60) (fun m_60 h => ?_) (fun K60 J60 h => ?_)
    · refine r_iinc (pc := 60) (L' := [some (.ref (ad 83)), some (iv v1), some (iv (w32 (v2 + 1)))]) hR (dc dt_X11_findPairs 37 rfl) rfl (by decide) rfl rfl ?_
      refine r_goto (pc := 63) (tgt := 17) hR (dc dt_X11_findPairs 38 rfl) (by decide) ?_
      exact ih (w32 (v2 + 1)) m_60 (w32_in _) h
    refine r_if_ne (pc := 29) (tgt := 35) hR (dc dt_X11_findPairs 19 rfl) (by decide) (inZ_R q26r) (fun hc => ?_) (fun hc => ?_)
    · replace h := ite_t hc h
      refine r_aload_n (pc := 35) hR (dc dt_X11_findPairs 21 rfl) rfl ?_
      refine r_getr (pc := 36) (k2 := 111) hR (dc dt_X11_findPairs 22 rfl) fl_X11_93 tc_83 rfl ?_
      refine r_aload_n (pc := 39) hR (dc dt_X11_findPairs 23 rfl) rfl ?_
      refine r_geti (pc := 40) hR (dc dt_X11_findPairs 24 rfl) fl_X11_310 tc_83 rfl ?_
      refine r_bipush (pc := 43) hR (dc dt_X11_findPairs 25 rfl) (by decide) ?_
      refine r_iload_n (pc := 45) hR (dc dt_X11_findPairs 26 rfl) rfl ?_
      refine r_imul (pc := 46) hR (dc dt_X11_findPairs 27 rfl) ?_
      refine r_iload_n (pc := 47) hR (dc dt_X11_findPairs 28 rfl) rfl ?_
      refine r_iadd (pc := 48) hR (dc dt_X11_findPairs 29 rfl) ?_
      obtain ⟨g1, h⟩ := gd_some h
      refine r_iast (pc := 49) hR (dc dt_X11_findPairs 30 rfl) tc_111 g1 (rd_in _ _ _) ?_
      replace h := stw_e h
      generalize wr m 111 (rd m 83 40) (w32 ((w32 (16 * v1)) + v2)) = m49 at h ⊢
      refine r_aload_n (pc := 50) hR (dc dt_X11_findPairs 31 rfl) rfl ?_
      refine r_dup (pc := 51) hR (dc dt_X11_findPairs 32 rfl) rfl ?_
      refine r_geti (pc := 52) hR (dc dt_X11_findPairs 33 rfl) fl_X11_310 tc_83 rfl ?_
      refine r_iconst (pc := 55) hR (dc dt_X11_findPairs 34 rfl) ?_
      refine r_iadd (pc := 56) hR (dc dt_X11_findPairs 35 rfl) ?_
      refine r_puti (pc := 57) hR (dc dt_X11_findPairs 36 rfl) fl_X11_310 tc_83 rfl rfl rfl ?_
      replace h := stw_e h
      generalize wr m49 83 40 (w32 ((rd m49 83 40) + 1)) = m57 at h ⊢
      exact J60 m57 h
    replace h := ite_f hc h
    refine r_goto (pc := 32) (tgt := 60) hR (dc dt_X11_findPairs 20 rfl) (by decide) ?_
    exact J60 m h
set_option maxRecDepth 100000 in
set_option maxHeartbeats 4000000 in
theorem lp_L11_findPairs_7 {Go : Nat → List (Option Value) → List Value → Mem → Prop} (hR : RS l G cy ad tt RX11 cX11_findPairs 3 1 Go) {out : Mem} (hT : RT cX11_findPairs none True out none Go) : ∀ (n : Nat) (v1 : Int) (m : Mem), inR v1 → L11_findPairs_7 n v1 m = some out → Go 7 [some (.ref (ad 83)), some (iv v1), none] [] m := by
  intro n
  induction n with
  | zero =>
    intro v1 m qv1 h
    cases h
  | succ n ih =>
    intro v1 m qv1 h
    rw [L11_findPairs_7] at h
    refine r_iload_n (pc := 7) hR (dc dt_X11_findPairs 5 rfl) rfl ?_
    refine r_bipush (pc := 8) hR (dc dt_X11_findPairs 6 rfl) (by decide) ?_
    refine r_icmp_ge (pc := 10) (tgt := 72) hR (dc dt_X11_findPairs 7 rfl) (by decide) qv1 (rg_c rfl) (fun hc => ?_) (fun hc => ?_)
    · replace h := ite_t hc h
      exact r_vret hT (dc dt_X11_findPairs 41 rfl) (Option.some.inj h)
    replace h := ite_f hc h
    refine r_iload_n (pc := 13) hR (dc dt_X11_findPairs 8 rfl) rfl ?_
    refine r_iconst (pc := 14) hR (dc dt_X11_findPairs 9 rfl) ?_
    refine r_iadd (pc := 15) hR (dc dt_X11_findPairs 10 rfl) ?_
    refine r_istore_n (pc := 16) (L' := [some (.ref (ad 83)), some (iv v1), some (iv (w32 (v1 + 1)))]) hR (dc dt_X11_findPairs 11 rfl) (by decide) rfl rfl ?_
    refine lp_L11_findPairs_17 hR hT qv1 (fun m_66 h => ?_) FU (w32 (v1 + 1)) m (w32_in _) h
    show Go 66 [some (.ref (ad 83)), some (iv v1), none] [] m_66
    refine r_iinc (pc := 66) (L' := [some (.ref (ad 83)), some (iv (w32 (v1 + 1))), none]) hR (dc dt_X11_findPairs 39 rfl) rfl (by decide) rfl rfl ?_
    refine r_goto (pc := 69) (tgt := 7) hR (dc dt_X11_findPairs 40 rfl) (by decide) ?_
    exact ih (w32 (v1 + 1)) m_66 (w32_in _) h
set_option maxRecDepth 100000 in
set_option maxHeartbeats 4000000 in
theorem ok_F11_findPairs {m : Mem}   {out : Mem} (h : F11_findPairs m = some out) : CT l G cy ad tt yX11_findPairs cX11_findPairs 3 none 1 [.ref (ad 83)] m none True out := by
  refine CT_of (by decide) (Nat.le_of_ble_eq_true rfl) (fun Go hR hT => ?_)
  replace hR : RS l G cy ad tt RX11 cX11_findPairs 3 1 Go := hR
  show Go 0 [some (.ref (ad 83)), none, none] [] m
  unfold F11_findPairs at h
  refine r_aload_n (pc := 0) hR (dc dt_X11_findPairs 0 rfl) rfl ?_
  refine r_iconst (pc := 1) hR (dc dt_X11_findPairs 1 rfl) ?_
  refine r_puti (pc := 2) hR (dc dt_X11_findPairs 2 rfl) fl_X11_310 tc_83 rfl rfl rfl ?_
  replace h := stw_e h
  generalize wr m 83 40 0 = m2 at h ⊢
  refine r_iconst (pc := 5) hR (dc dt_X11_findPairs 3 rfl) ?_
  refine r_istore_n (pc := 6) (L' := [some (.ref (ad 83)), some (iv 0), none]) hR (dc dt_X11_findPairs 4 rfl) (by decide) rfl rfl ?_
  refine lp_L11_findPairs_7 hR hT FU 0 m2 (rg_c rfl) h
def tb_X11_pairs : List (Nat × (Instr × Nat)) := [(0, (.iload_n 1, 1)), (1, (.iconst (-1), 1)), (2, (.if_icmp .ge 5, 3)), (5, (.iconst (-1), 1)), (6, (.ireturn, 1)), (7, (.aload_n 0, 1)), (8, (.invokevirtual 316, 3)), (11, (.iload_n 1, 1)), (12, (.ifCond .ge 10, 3)), (15, (.aload_n 0, 1)), (16, (.getfield 310, 3)), (19, (.goto 21, 3)), (22, (.iload_n 1, 1)), (23, (.aload_n 0, 1)), (24, (.getfield 310, 3)), (27, (.if_icmp .ge 12, 3)), (30, (.aload_n 0, 1)), (31, (.getfield 93, 3)), (34, (.iload_n 1, 1)), (35, (.iaload, 1)), (36, (.goto 4, 3)), (39, (.iconst (-1), 1)), (40, (.ireturn, 1))]
set_option maxRecDepth 100000 in
theorem dt_X11_pairs : (tb_X11_pairs.all fun q => decide (decode cX11_pairs q.1 = .ok q.2)) = true := by decide +kernel
set_option maxRecDepth 100000 in
set_option maxHeartbeats 4000000 in
theorem ok_F11_pairs {m : Mem}  {v1 : Int} (q1 : inR v1) {out : Int × Mem} (h : F11_pairs m v1 = some out) : CT l G cy ad tt yX11_pairs cX11_pairs 2 (some .int) 2 [.ref (ad 83), iv v1] m (some (iv out.1)) (inR out.1) out.2 := by
  refine CT_of (by decide) (Nat.le_of_ble_eq_true rfl) (fun Go hR hT => ?_)
  replace hR : RS l G cy ad tt RX11 cX11_pairs 2 2 Go := hR
  show Go 0 [some (.ref (ad 83)), some (iv v1)] [] m
  unfold F11_pairs at h
  refine r_iload_n (pc := 0) hR (dc dt_X11_pairs 0 rfl) rfl ?_
  refine r_iconst (pc := 1) hR (dc dt_X11_pairs 1 rfl) ?_
  refine r_icmp_ge (pc := 2) (tgt := 7) hR (dc dt_X11_pairs 2 rfl) (by decide) q1 (rg_c rfl) (fun hc => ?_) (fun hc => ?_)
  · replace h := ite_t hc h
    refine r_aload_n (pc := 7) hR (dc dt_X11_pairs 5 rfl) rfl ?_
    obtain ⟨m8, e8, h⟩ := b1_some h
    refine r_callV (pc := 8) (rest := []) hR (dc dt_X11_pairs 6 rfl) cl_X11_316 tc_83 rfl (ok_F11_findPairs  e8) (by decide) rfl (Nat.le_of_ble_eq_true rfl) rfl (fun q8r => ?_)
    show Go 11 [some (.ref (ad 83)), some (iv v1)] [] m8
    refine r_iload_n (pc := 11) hR (dc dt_X11_pairs 7 rfl) rfl ?_
    refine r_if_ge (pc := 12) (tgt := 22) hR (dc dt_X11_pairs 8 rfl) (by decide) q1 (fun hc => ?_) (fun hc => ?_)
    · replace h := ite_t hc h
      refine r_iload_n (pc := 22) hR (dc dt_X11_pairs 12 rfl) rfl ?_
      refine r_aload_n (pc := 23) hR (dc dt_X11_pairs 13 rfl) rfl ?_
      refine r_geti (pc := 24) hR (dc dt_X11_pairs 14 rfl) fl_X11_310 tc_83 rfl ?_
      refine r_icmp_ge (pc := 27) (tgt := 39) hR (dc dt_X11_pairs 15 rfl) (by decide) q1 (rd_in _ _ _) (fun hc => ?_) (fun hc => ?_)
      · replace h := ite_t hc h
        refine r_iconst (pc := 39) hR (dc dt_X11_pairs 21 rfl) ?_
        exact r_iret hT (dc dt_X11_pairs 22 rfl) (congrArg Prod.fst (Option.some.inj h)) (congrArg Prod.snd (Option.some.inj h)) (rg_c rfl)
      replace h := ite_f hc h
      refine r_aload_n (pc := 30) hR (dc dt_X11_pairs 16 rfl) rfl ?_
      refine r_getr (pc := 31) (k2 := 111) hR (dc dt_X11_pairs 17 rfl) fl_X11_93 tc_83 rfl ?_
      refine r_iload_n (pc := 34) hR (dc dt_X11_pairs 18 rfl) rfl ?_
      obtain ⟨g1, h⟩ := gd_some h
      refine r_iald (pc := 35) hR (dc dt_X11_pairs 19 rfl) tc_111 g1 q1 ?_
      refine r_goto (pc := 36) (tgt := 40) hR (dc dt_X11_pairs 20 rfl) (by decide) ?_
      exact r_iret hT (dc dt_X11_pairs 22 rfl) (congrArg Prod.fst (Option.some.inj h)) (congrArg Prod.snd (Option.some.inj h)) (rd_in _ _ _)
    replace h := ite_f hc h
    refine r_aload_n (pc := 15) hR (dc dt_X11_pairs 9 rfl) rfl ?_
    refine r_geti (pc := 16) hR (dc dt_X11_pairs 10 rfl) fl_X11_310 tc_83 rfl ?_
    refine r_goto (pc := 19) (tgt := 40) hR (dc dt_X11_pairs 11 rfl) (by decide) ?_
    exact r_iret hT (dc dt_X11_pairs 22 rfl) (congrArg Prod.fst (Option.some.inj h)) (congrArg Prod.snd (Option.some.inj h)) (rd_in _ _ _)
  replace h := ite_f hc h
  refine r_iconst (pc := 5) hR (dc dt_X11_pairs 3 rfl) ?_
  exact r_iret hT (dc dt_X11_pairs 4 rfl) (congrArg Prod.fst (Option.some.inj h)) (congrArg Prod.snd (Option.some.inj h)) (rg_c rfl)
def tb_X11_bitsOf : List (Nat × (Instr × Nat)) := [(0, (.iconst 0, 1)), (1, (.istore_n 1, 1)), (2, (.iload_n 0, 1)), (3, (.istore_n 2, 1)), (4, (.iload_n 2, 1)), (5, (.ifCond .eq 15, 3)), (8, (.iinc 1 1, 3)), (11, (.iload_n 2, 1)), (12, (.iload_n 2, 1)), (13, (.iconst 1, 1)), (14, (.isub, 1)), (15, (.iand, 1)), (16, (.istore_n 2, 1)), (17, (.goto (-13), 3)), (20, (.iload_n 1, 1)), (21, (.ireturn, 1))]
set_option maxRecDepth 100000 in
theorem dt_X11_bitsOf : (tb_X11_bitsOf.all fun q => decide (decode cX11_bitsOf q.1 = .ok q.2)) = true := by decide +kernel
set_option maxRecDepth 100000 in
set_option maxHeartbeats 4000000 in
theorem lp_L11_bitsOf_4 {Go : Nat → List (Option Value) → List Value → Mem → Prop} (hR : RS l G cy ad tt RX11 cX11_bitsOf 3 0 Go) {out : Int} {m : Mem} (hT : RT cX11_bitsOf (some (iv out)) (inR out) m (some .int) Go) : ∀ (n : Nat) (v1 : Int) (v2 : Int), inR v1 → inR v2 → L11_bitsOf_4 n v1 v2 = some out → Go 4 [none, some (iv v1), some (iv v2)] [] m := by
  intro n
  induction n with
  | zero =>
    intro v1 v2 qv1 qv2 h
    cases h
  | succ n ih =>
    intro v1 v2 qv1 qv2 h
    rw [L11_bitsOf_4] at h
    refine r_iload_n (pc := 4) hR (dc dt_X11_bitsOf 4 rfl) rfl ?_
    refine r_if_eq (pc := 5) (tgt := 20) hR (dc dt_X11_bitsOf 5 rfl) (by decide) qv2 (fun hc => ?_) (fun hc => ?_)
    · replace h := ite_t hc h
      refine r_iload_n (pc := 20) hR (dc dt_X11_bitsOf 14 rfl) rfl ?_
      exact r_iret hT (dc dt_X11_bitsOf 15 rfl) (Option.some.inj h) rfl qv1
    replace h := ite_f hc h
    refine r_iinc (pc := 8) (L' := [none, some (iv (w32 (v1 + 1))), some (iv v2)]) hR (dc dt_X11_bitsOf 6 rfl) rfl (by decide) rfl rfl ?_
    refine r_iload_n (pc := 11) hR (dc dt_X11_bitsOf 7 rfl) rfl ?_
    refine r_iload_n (pc := 12) hR (dc dt_X11_bitsOf 8 rfl) rfl ?_
    refine r_iconst (pc := 13) hR (dc dt_X11_bitsOf 9 rfl) ?_
    refine r_isub (pc := 14) hR (dc dt_X11_bitsOf 10 rfl) ?_
    refine r_iand (pc := 15) hR (dc dt_X11_bitsOf 11 rfl) ?_
    refine r_istore_n (pc := 16) (L' := [none, some (iv (w32 (v1 + 1))), some (iv (band v2 (w32 (v2 - 1))))]) hR (dc dt_X11_bitsOf 12 rfl) (by decide) rfl rfl ?_
    refine r_goto (pc := 17) (tgt := 4) hR (dc dt_X11_bitsOf 13 rfl) (by decide) ?_
    exact ih (w32 (v1 + 1)) (band v2 (w32 (v2 - 1))) (w32_in _) (ti_in _) h
set_option maxRecDepth 100000 in
set_option maxHeartbeats 4000000 in
theorem ok_F11_bitsOf {m : Mem}  {v0 : Int} (q0 : inR v0) {out : Int} (h : F11_bitsOf v0 = some out) : CT l G cy ad tt yX11_bitsOf cX11_bitsOf 3 (some .int) 0 [iv v0] m (some (iv out)) (inR out) m := by
  refine CT_of (by decide) (Nat.le_of_ble_eq_true rfl) (fun Go hR hT => ?_)
  replace hR : RS l G cy ad tt RX11 cX11_bitsOf 3 0 Go := hR
  show Go 0 [some (iv v0), none, none] [] m
  unfold F11_bitsOf at h
  refine r_iconst (pc := 0) hR (dc dt_X11_bitsOf 0 rfl) ?_
  refine r_istore_n (pc := 1) (L' := [some (iv v0), some (iv 0), none]) hR (dc dt_X11_bitsOf 1 rfl) (by decide) rfl rfl ?_
  refine r_iload_n (pc := 2) hR (dc dt_X11_bitsOf 2 rfl) rfl ?_
  refine r_istore_n (pc := 3) (L' := [some (iv v0), some (iv 0), some (iv v0)]) hR (dc dt_X11_bitsOf 3 rfl) (by decide) rfl rfl ?_
  refine r_weak (L' := [none, some (iv 0), some (iv v0)]) hR ⟨Or.inl rfl, Or.inr rfl, Or.inr rfl, trivial⟩ ?_
  refine lp_L11_bitsOf_4 hR hT FU 0 v0 (rg_c rfl) q0 h
def tb_X11_frees : List (Nat × (Instr × Nat)) := [(0, (.iconst 0, 1)), (1, (.istore_n 2, 1)), (2, (.iload_n 2, 1)), (3, (.aload_n 0, 1)), (4, (.getfield 310, 3)), (7, (.if_icmp .ge 43, 3)), (10, (.iload_n 1, 1)), (11, (.aload_n 0, 1)), (12, (.getfield 93, 3)), (15, (.iload_n 2, 1)), (16, (.iaload, 1)), (17, (.bipush 16, 2)), (19, (.idiv, 1)), (20, (.ishr, 1)), (21, (.iconst 1, 1)), (22, (.iand, 1)), (23, (.ifCond .ne 21, 3)), (26, (.iload_n 1, 1)), (27, (.aload_n 0, 1)), (28, (.getfield 93, 3)), (31, (.iload_n 2, 1)), (32, (.iaload, 1)), (33, (.bipush 16, 2)), (35, (.irem, 1)), (36, (.ishr, 1)), (37, (.iconst 1, 1)), (38, (.iand, 1)), (39, (.ifCond .ne 5, 3)), (42, (.iconst 0, 1)), (43, (.ireturn, 1)), (44, (.iinc 2 1, 3)), (47, (.goto (-45), 3)), (50, (.iconst 1, 1)), (51, (.ireturn, 1))]
set_option maxRecDepth 100000 in
theorem dt_X11_frees : (tb_X11_frees.all fun q => decide (decode cX11_frees q.1 = .ok q.2)) = true := by decide +kernel
set_option maxRecDepth 100000 in
set_option maxHeartbeats 4000000 in
theorem lp_L11_frees_2 {Go : Nat → List (Option Value) → List Value → Mem → Prop} (hR : RS l G cy ad tt RX11 cX11_frees 3 0 Go) {out : Int} {m : Mem} (hT : RT cX11_frees (some (iv out)) (inZ out) m (some .boolean) Go) {v1 : Int} (qv1 : inR v1) : ∀ (n : Nat) (v2 : Int), inR v2 → L11_frees_2 m v1 n v2 = some out → Go 2 [some (.ref (ad 83)), some (iv v1), some (iv v2)] [] m := by
  intro n
  induction n with
  | zero =>
    intro v2 qv2 h
    cases h
  | succ n ih =>
    intro v2 qv2 h
    rw [L11_frees_2] at h
    refine r_iload_n (pc := 2) hR (dc dt_X11_frees 2 rfl) rfl ?_
    refine r_aload_n (pc := 3) hR (dc dt_X11_frees 3 rfl) rfl ?_
    refine r_geti (pc := 4) hR (dc dt_X11_frees 4 rfl) fl_X11_310 tc_83 rfl ?_
    refine r_icmp_ge (pc := 7) (tgt := 50) hR (dc dt_X11_frees 5 rfl) (by decide) qv2 (rd_in _ _ _) (fun hc => ?_) (fun hc => ?_)
    · replace h := ite_t hc h
      refine r_iconst (pc := 50) hR (dc dt_X11_frees 32 rfl) ?_
      exact r_zret hT (dc dt_X11_frees 33 rfl) (Option.some.inj h) rfl (Or.inr rfl)
    replace h := ite_f hc h
    refine r_iload_n (pc := 10) hR (dc dt_X11_frees 6 rfl) rfl ?_
    refine r_aload_n (pc := 11) hR (dc dt_X11_frees 7 rfl) rfl ?_
    refine r_getr (pc := 12) (k2 := 111) hR (dc dt_X11_frees 8 rfl) fl_X11_93 tc_83 rfl ?_
    refine r_iload_n (pc := 15) hR (dc dt_X11_frees 9 rfl) rfl ?_
    obtain ⟨g1, h⟩ := gd_some h
    refine r_iald (pc := 16) hR (dc dt_X11_frees 10 rfl) tc_111 g1 qv2 ?_
    refine r_bipush (pc := 17) hR (dc dt_X11_frees 11 rfl) (by decide) ?_
    refine r_idiv (pc := 19) hR (dc dt_X11_frees 12 rfl) (by decide) (rg_c rfl) ?_
    refine r_ishr (pc := 20) hR (dc dt_X11_frees 13 rfl) ?_
    refine r_iconst (pc := 21) hR (dc dt_X11_frees 14 rfl) ?_
    refine r_iand (pc := 22) hR (dc dt_X11_frees 15 rfl) ?_
    refine jn_e h (fun (K : Option Int) => K = some out → Go 44 [some (.ref (ad 83)), some (iv v1), some (iv v2)] [] m) (fun h => ?_) (fun K44 J44 h => ?_)
    · refine r_iinc (pc := 44) (L' := [some (.ref (ad 83)), some (iv v1), some (iv (w32 (v2 + 1)))]) hR (dc dt_X11_frees 30 rfl) rfl (by decide) rfl rfl ?_
      refine r_goto (pc := 47) (tgt := 2) hR (dc dt_X11_frees 31 rfl) (by decide) ?_
      exact ih (w32 (v2 + 1)) (w32_in _) h
    refine r_if_ne (pc := 23) (tgt := 44) hR (dc dt_X11_frees 16 rfl) (by decide) (ti_in _) (fun hc => ?_) (fun hc => ?_)
    · replace h := ite_t hc h
      exact J44 h
    replace h := ite_f hc h
    refine r_iload_n (pc := 26) hR (dc dt_X11_frees 17 rfl) rfl ?_
    refine r_aload_n (pc := 27) hR (dc dt_X11_frees 18 rfl) rfl ?_
    refine r_getr (pc := 28) (k2 := 111) hR (dc dt_X11_frees 19 rfl) fl_X11_93 tc_83 rfl ?_
    refine r_iload_n (pc := 31) hR (dc dt_X11_frees 20 rfl) rfl ?_
    obtain ⟨g1, h⟩ := gd_some h
    refine r_iald (pc := 32) hR (dc dt_X11_frees 21 rfl) tc_111 g1 qv2 ?_
    refine r_bipush (pc := 33) hR (dc dt_X11_frees 22 rfl) (by decide) ?_
    refine r_irem (pc := 35) hR (dc dt_X11_frees 23 rfl) (by decide) (rg_c rfl) ?_
    refine r_ishr (pc := 36) hR (dc dt_X11_frees 24 rfl) ?_
    refine r_iconst (pc := 37) hR (dc dt_X11_frees 25 rfl) ?_
    refine r_iand (pc := 38) hR (dc dt_X11_frees 26 rfl) ?_
    refine r_if_ne (pc := 39) (tgt := 44) hR (dc dt_X11_frees 27 rfl) (by decide) (ti_in _) (fun hc => ?_) (fun hc => ?_)
    · replace h := ite_t hc h
      exact J44 h
    replace h := ite_f hc h
    refine r_iconst (pc := 42) hR (dc dt_X11_frees 28 rfl) ?_
    exact r_zret hT (dc dt_X11_frees 29 rfl) (Option.some.inj h) rfl (Or.inl rfl)
set_option maxRecDepth 100000 in
set_option maxHeartbeats 4000000 in
theorem ok_F11_frees {m : Mem}  {v1 : Int} (q1 : inR v1) {out : Int} (h : F11_frees m v1 = some out) : CT l G cy ad tt yX11_frees cX11_frees 3 (some .boolean) 0 [.ref (ad 83), iv v1] m (some (iv out)) (inZ out) m := by
  refine CT_of (by decide) (Nat.le_of_ble_eq_true rfl) (fun Go hR hT => ?_)
  replace hR : RS l G cy ad tt RX11 cX11_frees 3 0 Go := hR
  show Go 0 [some (.ref (ad 83)), some (iv v1), none] [] m
  unfold F11_frees at h
  refine r_iconst (pc := 0) hR (dc dt_X11_frees 0 rfl) ?_
  refine r_istore_n (pc := 1) (L' := [some (.ref (ad 83)), some (iv v1), some (iv 0)]) hR (dc dt_X11_frees 1 rfl) (by decide) rfl rfl ?_
  refine lp_L11_frees_2 hR hT q1 FU 0 (rg_c rfl) h
def tb_X11_freed : List (Nat × (Instr × Nat)) := [(0, (.aload_n 0, 1)), (1, (.invokevirtual 316, 3)), (4, (.ldc_w 319, 3)), (7, (.istore_n 1, 1)), (8, (.iconst 0, 1)), (9, (.istore_n 2, 1)), (10, (.iload_n 2, 1)), (11, (.ldc_w 320, 3)), (14, (.if_icmp .ge 30, 3)), (17, (.iload_n 2, 1)), (18, (.invokestatic 321, 3)), (21, (.iload_n 1, 1)), (22, (.invokestatic 321, 3)), (25, (.if_icmp .ge 13, 3)), (28, (.aload_n 0, 1)), (29, (.iload_n 2, 1)), (30, (.invokevirtual 324, 3)), (33, (.ifCond .eq 5, 3)), (36, (.iload_n 2, 1)), (37, (.istore_n 1, 1)), (38, (.iinc 2 1, 3)), (41, (.goto (-31), 3)), (44, (.iload_n 1, 1)), (45, (.ireturn, 1))]
set_option maxRecDepth 100000 in
theorem dt_X11_freed : (tb_X11_freed.all fun q => decide (decode cX11_freed q.1 = .ok q.2)) = true := by decide +kernel
set_option maxRecDepth 100000 in
set_option maxHeartbeats 4000000 in
theorem lp_L11_freed_10 {Go : Nat → List (Option Value) → List Value → Mem → Prop} (hR : RS l G cy ad tt RX11 cX11_freed 3 2 Go) {out : Int × Mem} {m : Mem} (hT : RT cX11_freed (some (iv out.1)) (inR out.1) out.2 (some .int) Go) : ∀ (n : Nat) (v1 : Int) (v2 : Int), inR v1 → inR v2 → L11_freed_10 m n v1 v2 = some out → Go 10 [some (.ref (ad 83)), some (iv v1), some (iv v2)] [] m := by
  intro n
  induction n with
  | zero =>
    intro v1 v2 qv1 qv2 h
    cases h
  | succ n ih =>
    intro v1 v2 qv1 qv2 h
    rw [L11_freed_10] at h
    refine r_iload_n (pc := 10) hR (dc dt_X11_freed 6 rfl) rfl ?_
    refine r_ldcw (pc := 11) hR (dc dt_X11_freed 7 rfl) kw_X11_320 ?_
    refine r_icmp_ge (pc := 14) (tgt := 44) hR (dc dt_X11_freed 8 rfl) (by decide) qv2 (rg_c rfl) (fun hc => ?_) (fun hc => ?_)
    · replace h := ite_t hc h
      refine r_iload_n (pc := 44) hR (dc dt_X11_freed 22 rfl) rfl ?_
      exact r_iret hT (dc dt_X11_freed 23 rfl) (congrArg Prod.fst (Option.some.inj h)) (congrArg Prod.snd (Option.some.inj h)) qv1
    replace h := ite_f hc h
    refine r_iload_n (pc := 17) hR (dc dt_X11_freed 9 rfl) rfl ?_
    obtain ⟨r18, e18, h⟩ := b1_some h
    refine r_callS (pc := 18) (rest := []) hR (dc dt_X11_freed 10 rfl) cl_X11_321 (ok_F11_bitsOf qv2 e18) (by decide) rfl (Nat.le_of_ble_eq_true rfl) rfl (fun q18r => ?_)
    show Go 21 [some (.ref (ad 83)), some (iv v1), some (iv v2)] [iv r18] m
    refine r_iload_n (pc := 21) hR (dc dt_X11_freed 11 rfl) rfl ?_
    obtain ⟨r22, e22, h⟩ := b1_some h
    refine r_callS (pc := 22) (rest := [iv r18]) hR (dc dt_X11_freed 12 rfl) cl_X11_321 (ok_F11_bitsOf qv1 e22) (by decide) rfl (Nat.le_of_ble_eq_true rfl) rfl (fun q22r => ?_)
    show Go 25 [some (.ref (ad 83)), some (iv v1), some (iv v2)] [iv r22, iv r18] m
    refine jn_e h (fun (K : Int → Option (Int × Mem)) => ∀ (v1_38 : Int), inR v1_38 → K v1_38 = some out → Go 38 [some (.ref (ad 83)), some (iv v1_38), some (iv v2)] [] m) (fun v1_38 qv1_38 h => ?_) (fun K38 J38 h => ?_)
    · refine r_iinc (pc := 38) (L' := [some (.ref (ad 83)), some (iv v1_38), some (iv (w32 (v2 + 1)))]) hR (dc dt_X11_freed 20 rfl) rfl (by decide) rfl rfl ?_
      refine r_goto (pc := 41) (tgt := 10) hR (dc dt_X11_freed 21 rfl) (by decide) ?_
      exact ih v1_38 (w32 (v2 + 1)) qv1_38 (w32_in _) h
    refine r_icmp_ge (pc := 25) (tgt := 38) hR (dc dt_X11_freed 13 rfl) (by decide) q18r q22r (fun hc => ?_) (fun hc => ?_)
    · replace h := ite_t hc h
      exact J38 v1 qv1 h
    replace h := ite_f hc h
    refine r_aload_n (pc := 28) hR (dc dt_X11_freed 14 rfl) rfl ?_
    refine r_iload_n (pc := 29) hR (dc dt_X11_freed 15 rfl) rfl ?_
    obtain ⟨r30, e30, h⟩ := b1_some h
    refine r_callV (pc := 30) (rest := []) hR (dc dt_X11_freed 16 rfl) cl_X11_324 tc_83 rfl (ok_F11_frees qv2 e30) (by decide) rfl (Nat.le_of_ble_eq_true rfl) rfl (fun q30r => ?_)
    show Go 33 [some (.ref (ad 83)), some (iv v1), some (iv v2)] [iv r30] m
    refine r_if_eq (pc := 33) (tgt := 38) hR (dc dt_X11_freed 17 rfl) (by decide) (inZ_R q30r) (fun hc => ?_) (fun hc => ?_)
    · replace h := ite_t hc h
      exact J38 v1 qv1 h
    replace h := ite_f hc h
    refine r_iload_n (pc := 36) hR (dc dt_X11_freed 18 rfl) rfl ?_
    refine r_istore_n (pc := 37) (L' := [some (.ref (ad 83)), some (iv v2), some (iv v2)]) hR (dc dt_X11_freed 19 rfl) (by decide) rfl rfl ?_
    exact J38 v2 qv2 h
set_option maxRecDepth 100000 in
set_option maxHeartbeats 4000000 in
theorem ok_F11_freed {m : Mem}   {out : Int × Mem} (h : F11_freed m = some out) : CT l G cy ad tt yX11_freed cX11_freed 3 (some .int) 2 [.ref (ad 83)] m (some (iv out.1)) (inR out.1) out.2 := by
  refine CT_of (by decide) (Nat.le_of_ble_eq_true rfl) (fun Go hR hT => ?_)
  replace hR : RS l G cy ad tt RX11 cX11_freed 3 2 Go := hR
  show Go 0 [some (.ref (ad 83)), none, none] [] m
  unfold F11_freed at h
  refine r_aload_n (pc := 0) hR (dc dt_X11_freed 0 rfl) rfl ?_
  obtain ⟨m1, e1, h⟩ := b1_some h
  refine r_callV (pc := 1) (rest := []) hR (dc dt_X11_freed 1 rfl) cl_X11_316 tc_83 rfl (ok_F11_findPairs  e1) (by decide) rfl (Nat.le_of_ble_eq_true rfl) rfl (fun q1r => ?_)
  show Go 4 [some (.ref (ad 83)), none, none] [] m1
  refine r_ldcw (pc := 4) hR (dc dt_X11_freed 2 rfl) kw_X11_319 ?_
  refine r_istore_n (pc := 7) (L' := [some (.ref (ad 83)), some (iv 65535), none]) hR (dc dt_X11_freed 3 rfl) (by decide) rfl rfl ?_
  refine r_iconst (pc := 8) hR (dc dt_X11_freed 4 rfl) ?_
  refine r_istore_n (pc := 9) (L' := [some (.ref (ad 83)), some (iv 65535), some (iv 0)]) hR (dc dt_X11_freed 5 rfl) (by decide) rfl rfl ?_
  refine lp_L11_freed_10 hR hT FU 65535 0 (rg_c rfl) (rg_c rfl) h
def tb_X11_doAgree : List (Nat × (Instr × Nat)) := [(0, (.iconst 0, 1)), (1, (.istore_n 2, 1)), (2, (.iload_n 2, 1)), (3, (.bipush 12, 2)), (5, (.if_icmp .ge 60, 3)), (8, (.aload_n 0, 1)), (9, (.getfield 51, 3)), (12, (.iload_n 2, 1)), (13, (.iload_n 2, 1)), (14, (.aload_n 0, 1)), (15, (.getfield 138, 3)), (18, (.if_icmp .ge 7, 3)), (21, (.iconst 1, 1)), (22, (.goto 4, 3)), (25, (.iconst 0, 1)), (26, (.bastore, 1)), (27, (.aload_n 0, 1)), (28, (.getfield 48, 3)), (31, (.iload_n 2, 1)), (32, (.iload_n 2, 1)), (33, (.aload_n 0, 1)), (34, (.getfield 138, 3)), (37, (.if_icmp .ge 20, 3)), (40, (.iload_n 1, 1)), (41, (.iload_n 2, 1)), (42, (.ishr, 1)), (43, (.iconst 1, 1)), (44, (.iand, 1)), (45, (.ifCond .ne 12, 3)), (48, (.aload_n 0, 1)), (49, (.getfield 16, 3)), (52, (.iload_n 2, 1)), (53, (.iaload, 1)), (54, (.goto 4, 3)), (57, (.iconst (-1), 1)), (58, (.iastore, 1)), (59, (.iinc 2 1, 3)), (62, (.goto (-60), 3)), (65, (.aload_n 0, 1)), (66, (.invokevirtual 236, 3)), (69, (.aload_n 0, 1)), (70, (.invokevirtual 254, 3)), (73, (.bipush (-2), 2)), (75, (.if_icmp .ne 7, 3)), (78, (.iconst 1, 1)), (79, (.goto 4, 3)), (82, (.iconst 0, 1)), (83, (.ireturn, 1))]
set_option maxRecDepth 100000 in
theorem dt_X11_doAgree : (tb_X11_doAgree.all fun q => decide (decode cX11_doAgree q.1 = .ok q.2)) = true := by decide +kernel
set_option maxRecDepth 100000 in
set_option maxHeartbeats 4000000 in
theorem lp_L11_doAgree_2 {Go : Nat → List (Option Value) → List Value → Mem → Prop} (hR : RS l G cy ad tt RX11 cX11_doAgree 3 2 Go) {out : Int × Mem} (hT : RT cX11_doAgree (some (iv out.1)) (inZ out.1) out.2 (some .boolean) Go) {v1 : Int} (qv1 : inR v1) {k65 : Mem → Option (Int × Mem)} (hk65 : ∀ (m : Mem), k65 m = some out → Go 65 [some (.ref (ad 83)), none, none] [] m) : ∀ (n : Nat) (v2 : Int) (m : Mem), inR v2 → L11_doAgree_2 v1 k65 n v2 m = some out → Go 2 [some (.ref (ad 83)), some (iv v1), some (iv v2)] [] m := by
  intro n
  induction n with
  | zero =>
    intro v2 m qv2 h
    cases h
  | succ n ih =>
    intro v2 m qv2 h
    rw [L11_doAgree_2] at h
    refine r_iload_n (pc := 2) hR (dc dt_X11_doAgree 2 rfl) rfl ?_
    refine r_bipush (pc := 3) hR (dc dt_X11_doAgree 3 rfl) (by decide) ?_
    refine r_icmp_ge (pc := 5) (tgt := 65) hR (dc dt_X11_doAgree 4 rfl) (by decide) qv2 (rg_c rfl) (fun hc => ?_) (fun hc => ?_)
    · replace h := ite_t hc h
      refine r_weak (L' := [some (.ref (ad 83)), none, none]) hR ⟨Or.inr rfl, Or.inl rfl, Or.inl rfl, trivial⟩ ?_
      exact hk65 m h
    replace h := ite_f hc h
    refine r_aload_n (pc := 8) hR (dc dt_X11_doAgree 5 rfl) rfl ?_
    refine r_getr (pc := 9) (k2 := 97) hR (dc dt_X11_doAgree 6 rfl) fl_X11_51 tc_83 rfl ?_
    refine r_iload_n (pc := 12) hR (dc dt_X11_doAgree 7 rfl) rfl ?_
    refine r_iload_n (pc := 13) hR (dc dt_X11_doAgree 8 rfl) rfl ?_
    refine r_aload_n (pc := 14) hR (dc dt_X11_doAgree 9 rfl) rfl ?_
    refine r_geti (pc := 15) hR (dc dt_X11_doAgree 10 rfl) fl_X11_138 tc_83 rfl ?_
    refine jn_e h (fun (K : Int → Option (Int × Mem)) => ∀ (x26 : Int), inZ x26 → K x26 = some out → Go 26 [some (.ref (ad 83)), some (iv v1), some (iv v2)] [iv x26, iv v2, .ref (ad 97)] m) (fun x26 qx26 h => ?_) (fun K26 J26 h => ?_)
    · obtain ⟨g1, h⟩ := gd_some h
      refine r_zast (pc := 26) hR (dc dt_X11_doAgree 15 rfl) tc_97 g1 qv2 qx26 ?_
      replace h := stw_e h
      generalize wr m 97 v2 x26 = m26 at h ⊢
      refine r_aload_n (pc := 27) hR (dc dt_X11_doAgree 16 rfl) rfl ?_
      refine r_getr (pc := 28) (k2 := 96) hR (dc dt_X11_doAgree 17 rfl) fl_X11_48 tc_83 rfl ?_
      refine r_iload_n (pc := 31) hR (dc dt_X11_doAgree 18 rfl) rfl ?_
      refine r_iload_n (pc := 32) hR (dc dt_X11_doAgree 19 rfl) rfl ?_
      refine r_aload_n (pc := 33) hR (dc dt_X11_doAgree 20 rfl) rfl ?_
      refine r_geti (pc := 34) hR (dc dt_X11_doAgree 21 rfl) fl_X11_138 tc_83 rfl ?_
      refine jn_e h (fun (K : Int → Option (Int × Mem)) => ∀ (x58 : Int), inR x58 → K x58 = some out → Go 58 [some (.ref (ad 83)), some (iv v1), some (iv v2)] [iv x58, iv v2, .ref (ad 96)] m26) (fun x58 qx58 h => ?_) (fun K58 J58 h => ?_)
      · obtain ⟨g1, h⟩ := gd_some h
        refine r_iast (pc := 58) hR (dc dt_X11_doAgree 35 rfl) tc_96 g1 qv2 ?_
        replace h := stw_e h
        generalize wr m26 96 v2 x58 = m58 at h ⊢
        refine r_iinc (pc := 59) (L' := [some (.ref (ad 83)), some (iv v1), some (iv (w32 (v2 + 1)))]) hR (dc dt_X11_doAgree 36 rfl) rfl (by decide) rfl rfl ?_
        refine r_goto (pc := 62) (tgt := 2) hR (dc dt_X11_doAgree 37 rfl) (by decide) ?_
        exact ih (w32 (v2 + 1)) m58 (w32_in _) h
      refine jn_e h (fun (K : Option (Int × Mem)) => K = some out → Go 57 [some (.ref (ad 83)), some (iv v1), some (iv v2)] [iv v2, .ref (ad 96)] m26) (fun h => ?_) (fun K57 J57 h => ?_)
      · refine r_iconst (pc := 57) hR (dc dt_X11_doAgree 34 rfl) ?_
        exact J58 (-1) (rg_c rfl) h
      refine r_icmp_ge (pc := 37) (tgt := 57) hR (dc dt_X11_doAgree 22 rfl) (by decide) qv2 (rd_in _ _ _) (fun hc => ?_) (fun hc => ?_)
      · replace h := ite_t hc h
        exact J57 h
      replace h := ite_f hc h
      refine r_iload_n (pc := 40) hR (dc dt_X11_doAgree 23 rfl) rfl ?_
      refine r_iload_n (pc := 41) hR (dc dt_X11_doAgree 24 rfl) rfl ?_
      refine r_ishr (pc := 42) hR (dc dt_X11_doAgree 25 rfl) ?_
      refine r_iconst (pc := 43) hR (dc dt_X11_doAgree 26 rfl) ?_
      refine r_iand (pc := 44) hR (dc dt_X11_doAgree 27 rfl) ?_
      refine r_if_ne (pc := 45) (tgt := 57) hR (dc dt_X11_doAgree 28 rfl) (by decide) (ti_in _) (fun hc => ?_) (fun hc => ?_)
      · replace h := ite_t hc h
        exact J57 h
      replace h := ite_f hc h
      refine r_aload_n (pc := 48) hR (dc dt_X11_doAgree 29 rfl) rfl ?_
      refine r_getr (pc := 49) (k2 := 86) hR (dc dt_X11_doAgree 30 rfl) fl_X11_16 tc_83 rfl ?_
      refine r_iload_n (pc := 52) hR (dc dt_X11_doAgree 31 rfl) rfl ?_
      obtain ⟨g1, h⟩ := gd_some h
      refine r_iald (pc := 53) hR (dc dt_X11_doAgree 32 rfl) tc_86 g1 qv2 ?_
      refine r_goto (pc := 54) (tgt := 58) hR (dc dt_X11_doAgree 33 rfl) (by decide) ?_
      exact J58 (rd m26 86 v2) (rd_in _ _ _) h
    refine r_icmp_ge (pc := 18) (tgt := 25) hR (dc dt_X11_doAgree 11 rfl) (by decide) qv2 (rd_in _ _ _) (fun hc => ?_) (fun hc => ?_)
    · replace h := ite_t hc h
      refine r_iconst (pc := 25) hR (dc dt_X11_doAgree 14 rfl) ?_
      exact J26 0 (Or.inl rfl) h
    replace h := ite_f hc h
    refine r_iconst (pc := 21) hR (dc dt_X11_doAgree 12 rfl) ?_
    refine r_goto (pc := 22) (tgt := 26) hR (dc dt_X11_doAgree 13 rfl) (by decide) ?_
    exact J26 1 (Or.inr rfl) h
set_option maxRecDepth 100000 in
set_option maxHeartbeats 4000000 in
theorem ok_F11_doAgree {m : Mem}  {v1 : Int} (q1 : inR v1) {out : Int × Mem} (h : F11_doAgree m v1 = some out) : CT l G cy ad tt yX11_doAgree cX11_doAgree 3 (some .boolean) 2 [.ref (ad 83), iv v1] m (some (iv out.1)) (inZ out.1) out.2 := by
  refine CT_of (by decide) (Nat.le_of_ble_eq_true rfl) (fun Go hR hT => ?_)
  replace hR : RS l G cy ad tt RX11 cX11_doAgree 3 2 Go := hR
  show Go 0 [some (.ref (ad 83)), some (iv v1), none] [] m
  unfold F11_doAgree at h
  refine r_iconst (pc := 0) hR (dc dt_X11_doAgree 0 rfl) ?_
  refine r_istore_n (pc := 1) (L' := [some (.ref (ad 83)), some (iv v1), some (iv 0)]) hR (dc dt_X11_doAgree 1 rfl) (by decide) rfl rfl ?_
  refine lp_L11_doAgree_2 hR hT q1 (fun m_65 h => ?_) FU 0 m (rg_c rfl) h
  show Go 65 [some (.ref (ad 83)), none, none] [] m_65
  refine r_aload_n (pc := 65) hR (dc dt_X11_doAgree 38 rfl) rfl ?_
  obtain ⟨m66, e66, h⟩ := b1_some h
  refine r_callV (pc := 66) (rest := []) hR (dc dt_X11_doAgree 39 rfl) cl_X11_236 tc_83 rfl (ok_F11_findOrder  e66) (by decide) rfl (Nat.le_of_ble_eq_true rfl) rfl (fun q66r => ?_)
  show Go 69 [some (.ref (ad 83)), none, none] [] m66
  refine r_aload_n (pc := 69) hR (dc dt_X11_doAgree 40 rfl) rfl ?_
  obtain ⟨r70, m70, e70, h⟩ := b2_some h
  refine r_callV (pc := 70) (rest := []) hR (dc dt_X11_doAgree 41 rfl) cl_X11_254 tc_83 rfl (ok_F11_findDays  e70) (by decide) rfl (Nat.le_of_ble_eq_true rfl) rfl (fun q70r => ?_)
  show Go 73 [some (.ref (ad 83)), none, none] [iv r70] m70
  refine r_bipush (pc := 73) hR (dc dt_X11_doAgree 42 rfl) (by decide) ?_
  refine r_icmp_ne (pc := 75) (tgt := 82) hR (dc dt_X11_doAgree 43 rfl) (by decide) q70r (rg_c rfl) (fun hc => ?_) (fun hc => ?_)
  · replace h := ite_t hc h
    refine r_iconst (pc := 82) hR (dc dt_X11_doAgree 46 rfl) ?_
    exact r_zret hT (dc dt_X11_doAgree 47 rfl) (congrArg Prod.fst (Option.some.inj h)) (congrArg Prod.snd (Option.some.inj h)) (Or.inl rfl)
  replace h := ite_f hc h
  refine r_iconst (pc := 78) hR (dc dt_X11_doAgree 44 rfl) ?_
  refine r_goto (pc := 79) (tgt := 83) hR (dc dt_X11_doAgree 45 rfl) (by decide) ?_
  exact r_zret hT (dc dt_X11_doAgree 47 rfl) (congrArg Prod.fst (Option.some.inj h)) (congrArg Prod.snd (Option.some.inj h)) (Or.inr rfl)
def tb_X11_doubt : List (Nat × (Instr × Nat)) := [(0, (.iload_n 1, 1)), (1, (.iconst 0, 1)), (2, (.iconst 1, 1)), (3, (.invokestatic 134, 3)), (6, (.ifCond .ne 5, 3)), (9, (.iconst (-1), 1)), (10, (.ireturn, 1)), (11, (.iconst 0, 1)), (12, (.istore_n 2, 1)), (13, (.iconst 0, 1)), (14, (.istore_n 3, 1)), (15, (.iload_n 3, 1)), (16, (.aload_n 0, 1)), (17, (.getfield 138, 3)), (20, (.if_icmp .ge 24, 3)), (23, (.aload_n 0, 1)), (24, (.getfield 16, 3)), (27, (.iload_n 3, 1)), (28, (.iaload, 1)), (29, (.ifCond .lt 9, 3)), (32, (.iload_n 2, 1)), (33, (.iconst 1, 1)), (34, (.iload_n 3, 1)), (35, (.ishl, 1)), (36, (.ior, 1)), (37, (.istore_n 2, 1)), (38, (.iinc 3 1, 3)), (41, (.goto (-26), 3)), (44, (.iconst (-1), 1)), (45, (.istore_n 3, 1)), (46, (.iconst 0, 1)), (47, (.istore 4, 2)), (49, (.iload 4, 2)), (51, (.iload_n 2, 1)), (52, (.if_icmp .gt 49, 3)), (55, (.iload 4, 2)), (57, (.iload_n 2, 1)), (58, (.iconst (-1), 1)), (59, (.ixor, 1)), (60, (.iand, 1)), (61, (.ifCond .ne 34, 3)), (64, (.iload_n 3, 1)), (65, (.ifCond .lt 15, 3)), (68, (.iload 4, 2)), (70, (.invokestatic 321, 3)), (73, (.iload_n 3, 1)), (74, (.invokestatic 321, 3)), (77, (.if_icmp .ge 18, 3)), (80, (.aload_n 0, 1)), (81, (.iload 4, 2)), (83, (.invokevirtual 327, 3)), (86, (.ifCond .ne 6, 3)), (89, (.goto 6, 3)), (92, (.iload 4, 2)), (94, (.istore_n 3, 1)), (95, (.iinc 4 1, 3)), (98, (.goto (-49), 3)), (101, (.iload_n 1, 1)), (102, (.ifCond .ne 10, 3)), (105, (.iload_n 3, 1)), (106, (.invokestatic 321, 3)), (109, (.goto 4, 3)), (112, (.iload_n 3, 1)), (113, (.ireturn, 1))]
set_option maxRecDepth 100000 in
theorem dt_X11_doubt : (tb_X11_doubt.all fun q => decide (decode cX11_doubt q.1 = .ok q.2)) = true := by decide +kernel
set_option maxRecDepth 100000 in
set_option maxHeartbeats 4000000 in
theorem lp_L11_doubt_15 {Go : Nat → List (Option Value) → List Value → Mem → Prop} (hR : RS l G cy ad tt RX11 cX11_doubt 5 3 Go) {out : Int × Mem} {m : Mem} (hT : RT cX11_doubt (some (iv out.1)) (inR out.1) out.2 (some .int) Go) {v1 : Int} (qv1 : inR v1) {k44 : Int → Option (Int × Mem)} (hk44 : ∀ (v2 : Int), inR v2 → k44 v2 = some out → Go 44 [some (.ref (ad 83)), some (iv v1), some (iv v2), none, none] [] m) : ∀ (n : Nat) (v2 : Int) (v3 : Int), inR v2 → inR v3 → L11_doubt_15 m k44 n v2 v3 = some out → Go 15 [some (.ref (ad 83)), some (iv v1), some (iv v2), some (iv v3), none] [] m := by
  intro n
  induction n with
  | zero =>
    intro v2 v3 qv2 qv3 h
    cases h
  | succ n ih =>
    intro v2 v3 qv2 qv3 h
    rw [L11_doubt_15] at h
    refine r_iload_n (pc := 15) hR (dc dt_X11_doubt 11 rfl) rfl ?_
    refine r_aload_n (pc := 16) hR (dc dt_X11_doubt 12 rfl) rfl ?_
    refine r_geti (pc := 17) hR (dc dt_X11_doubt 13 rfl) fl_X11_138 tc_83 rfl ?_
    refine r_icmp_ge (pc := 20) (tgt := 44) hR (dc dt_X11_doubt 14 rfl) (by decide) qv3 (rd_in _ _ _) (fun hc => ?_) (fun hc => ?_)
    · replace h := ite_t hc h
      refine r_weak (L' := [some (.ref (ad 83)), some (iv v1), some (iv v2), none, none]) hR ⟨Or.inr rfl, Or.inr rfl, Or.inr rfl, Or.inl rfl, Or.inr rfl, trivial⟩ ?_
      exact hk44 v2 qv2 h
    replace h := ite_f hc h
    refine r_aload_n (pc := 23) hR (dc dt_X11_doubt 15 rfl) rfl ?_
    refine r_getr (pc := 24) (k2 := 86) hR (dc dt_X11_doubt 16 rfl) fl_X11_16 tc_83 rfl ?_
    refine r_iload_n (pc := 27) hR (dc dt_X11_doubt 17 rfl) rfl ?_
    obtain ⟨g1, h⟩ := gd_some h
    refine r_iald (pc := 28) hR (dc dt_X11_doubt 18 rfl) tc_86 g1 qv3 ?_
    refine jn_e h (fun (K : Int → Option (Int × Mem)) => ∀ (v2_38 : Int), inR v2_38 → K v2_38 = some out → Go 38 [some (.ref (ad 83)), some (iv v1), some (iv v2_38), some (iv v3), none] [] m) (fun v2_38 qv2_38 h => ?_) (fun K38 J38 h => ?_)
    · refine r_iinc (pc := 38) (L' := [some (.ref (ad 83)), some (iv v1), some (iv v2_38), some (iv (w32 (v3 + 1))), none]) hR (dc dt_X11_doubt 26 rfl) rfl (by decide) rfl rfl ?_
      refine r_goto (pc := 41) (tgt := 15) hR (dc dt_X11_doubt 27 rfl) (by decide) ?_
      exact ih v2_38 (w32 (v3 + 1)) qv2_38 (w32_in _) h
    refine r_if_lt (pc := 29) (tgt := 38) hR (dc dt_X11_doubt 19 rfl) (by decide) (rd_in _ _ _) (fun hc => ?_) (fun hc => ?_)
    · replace h := ite_t hc h
      exact J38 v2 qv2 h
    replace h := ite_f hc h
    refine r_iload_n (pc := 32) hR (dc dt_X11_doubt 20 rfl) rfl ?_
    refine r_iconst (pc := 33) hR (dc dt_X11_doubt 21 rfl) ?_
    refine r_iload_n (pc := 34) hR (dc dt_X11_doubt 22 rfl) rfl ?_
    refine r_ishl (pc := 35) hR (dc dt_X11_doubt 23 rfl) ?_
    refine r_ior (pc := 36) hR (dc dt_X11_doubt 24 rfl) ?_
    refine r_istore_n (pc := 37) (L' := [some (.ref (ad 83)), some (iv v1), some (iv (bor v2 (shl 1 v3))), some (iv v3), none]) hR (dc dt_X11_doubt 25 rfl) (by decide) rfl rfl ?_
    exact J38 (bor v2 (shl 1 v3)) (ti_in _) h
set_option maxRecDepth 100000 in
set_option maxHeartbeats 4000000 in
theorem lp_L11_doubt_49 {Go : Nat → List (Option Value) → List Value → Mem → Prop} (hR : RS l G cy ad tt RX11 cX11_doubt 5 3 Go) {out : Int × Mem} (hT : RT cX11_doubt (some (iv out.1)) (inR out.1) out.2 (some .int) Go) {v1 : Int} {v2 : Int} (qv1 : inR v1) (qv2 : inR v2) {k101 : Int → Mem → Option (Int × Mem)} (hk101 : ∀ (v3 : Int) (m : Mem), inR v3 → k101 v3 m = some out → Go 101 [none, some (iv v1), none, some (iv v3), none] [] m) : ∀ (n : Nat) (v3 : Int) (v4 : Int) (m : Mem), inR v3 → inR v4 → L11_doubt_49 v2 k101 n v3 v4 m = some out → Go 49 [some (.ref (ad 83)), some (iv v1), some (iv v2), some (iv v3), some (iv v4)] [] m := by
  intro n
  induction n with
  | zero =>
    intro v3 v4 m qv3 qv4 h
    cases h
  | succ n ih =>
    intro v3 v4 m qv3 qv4 h
    rw [L11_doubt_49] at h
    refine r_iload (pc := 49) hR (dc dt_X11_doubt 32 rfl) rfl ?_
    refine r_iload_n (pc := 51) hR (dc dt_X11_doubt 33 rfl) rfl ?_
    refine r_icmp_gt (pc := 52) (tgt := 101) hR (dc dt_X11_doubt 34 rfl) (by decide) qv4 qv2 (fun hc => ?_) (fun hc => ?_)
    · replace h := ite_t hc h
      refine r_weak (L' := [none, some (iv v1), none, some (iv v3), none]) hR ⟨Or.inl rfl, Or.inr rfl, Or.inl rfl, Or.inr rfl, Or.inl rfl, trivial⟩ ?_
      exact hk101 v3 m qv3 h
    replace h := ite_f hc h
    refine r_iload (pc := 55) hR (dc dt_X11_doubt 35 rfl) rfl ?_
    refine r_iload_n (pc := 57) hR (dc dt_X11_doubt 36 rfl) rfl ?_
    refine r_iconst (pc := 58) hR (dc dt_X11_doubt 37 rfl) ?_
    refine r_ixor (pc := 59) hR (dc dt_X11_doubt 38 rfl) ?_
    refine r_iand (pc := 60) hR (dc dt_X11_doubt 39 rfl) ?_
    refine jn_e h (fun (K : Int → Mem → Option (Int × Mem)) => ∀ (v3_95 : Int) (m_95 : Mem), inR v3_95 → K v3_95 m_95 = some out → Go 95 [some (.ref (ad 83)), some (iv v1), some (iv v2), some (iv v3_95), some (iv v4)] [] m_95) (fun v3_95 m_95 qv3_95 h => ?_) (fun K95 J95 h => ?_)
    · refine r_iinc (pc := 95) (L' := [some (.ref (ad 83)), some (iv v1), some (iv v2), some (iv v3_95), some (iv (w32 (v4 + 1)))]) hR (dc dt_X11_doubt 55 rfl) rfl (by decide) rfl rfl ?_
      refine r_goto (pc := 98) (tgt := 49) hR (dc dt_X11_doubt 56 rfl) (by decide) ?_
      exact ih v3_95 (w32 (v4 + 1)) m_95 qv3_95 (w32_in _) h
    refine r_if_ne (pc := 61) (tgt := 95) hR (dc dt_X11_doubt 40 rfl) (by decide) (ti_in _) (fun hc => ?_) (fun hc => ?_)
    · replace h := ite_t hc h
      exact J95 v3 m qv3 h
    replace h := ite_f hc h
    refine r_iload_n (pc := 64) hR (dc dt_X11_doubt 41 rfl) rfl ?_
    refine jn_e h (fun (K : Option (Int × Mem)) => K = some out → Go 80 [some (.ref (ad 83)), some (iv v1), some (iv v2), some (iv v3), some (iv v4)] [] m) (fun h => ?_) (fun K80 J80 h => ?_)
    · refine r_aload_n (pc := 80) hR (dc dt_X11_doubt 48 rfl) rfl ?_
      refine r_iload (pc := 81) hR (dc dt_X11_doubt 49 rfl) rfl ?_
      obtain ⟨r83, m83, e83, h⟩ := b2_some h
      refine r_callV (pc := 83) (rest := []) hR (dc dt_X11_doubt 50 rfl) cl_X11_327 tc_83 rfl (ok_F11_doAgree qv4 e83) (by decide) rfl (Nat.le_of_ble_eq_true rfl) rfl (fun q83r => ?_)
      show Go 86 [some (.ref (ad 83)), some (iv v1), some (iv v2), some (iv v3), some (iv v4)] [iv r83] m83
      refine r_if_ne (pc := 86) (tgt := 92) hR (dc dt_X11_doubt 51 rfl) (by decide) (inZ_R q83r) (fun hc => ?_) (fun hc => ?_)
      · replace h := ite_t hc h
        refine r_iload (pc := 92) hR (dc dt_X11_doubt 53 rfl) rfl ?_
        refine r_istore_n (pc := 94) (L' := [some (.ref (ad 83)), some (iv v1), some (iv v2), some (iv v4), some (iv v4)]) hR (dc dt_X11_doubt 54 rfl) (by decide) rfl rfl ?_
        exact J95 v4 m83 qv4 h
      replace h := ite_f hc h
      refine r_goto (pc := 89) (tgt := 95) hR (dc dt_X11_doubt 52 rfl) (by decide) ?_
      exact J95 v3 m83 qv3 h
    refine r_if_lt (pc := 65) (tgt := 80) hR (dc dt_X11_doubt 42 rfl) (by decide) qv3 (fun hc => ?_) (fun hc => ?_)
    · replace h := ite_t hc h
      exact J80 h
    replace h := ite_f hc h
    refine r_iload (pc := 68) hR (dc dt_X11_doubt 43 rfl) rfl ?_
    obtain ⟨r70, e70, h⟩ := b1_some h
    refine r_callS (pc := 70) (rest := []) hR (dc dt_X11_doubt 44 rfl) cl_X11_321 (ok_F11_bitsOf qv4 e70) (by decide) rfl (Nat.le_of_ble_eq_true rfl) rfl (fun q70r => ?_)
    show Go 73 [some (.ref (ad 83)), some (iv v1), some (iv v2), some (iv v3), some (iv v4)] [iv r70] m
    refine r_iload_n (pc := 73) hR (dc dt_X11_doubt 45 rfl) rfl ?_
    obtain ⟨r74, e74, h⟩ := b1_some h
    refine r_callS (pc := 74) (rest := [iv r70]) hR (dc dt_X11_doubt 46 rfl) cl_X11_321 (ok_F11_bitsOf qv3 e74) (by decide) rfl (Nat.le_of_ble_eq_true rfl) rfl (fun q74r => ?_)
    show Go 77 [some (.ref (ad 83)), some (iv v1), some (iv v2), some (iv v3), some (iv v4)] [iv r74, iv r70] m
    refine r_icmp_ge (pc := 77) (tgt := 95) hR (dc dt_X11_doubt 47 rfl) (by decide) q70r q74r (fun hc => ?_) (fun hc => ?_)
    · replace h := ite_t hc h
      exact J95 v3 m qv3 h
    replace h := ite_f hc h
    exact J80 h
set_option maxRecDepth 100000 in
set_option maxHeartbeats 4000000 in
theorem ok_F11_doubt {m : Mem}  {v1 : Int} (q1 : inR v1) {out : Int × Mem} (h : F11_doubt m v1 = some out) : CT l G cy ad tt yX11_doubt cX11_doubt 5 (some .int) 3 [.ref (ad 83), iv v1] m (some (iv out.1)) (inR out.1) out.2 := by
  refine CT_of (by decide) (Nat.le_of_ble_eq_true rfl) (fun Go hR hT => ?_)
  replace hR : RS l G cy ad tt RX11 cX11_doubt 5 3 Go := hR
  show Go 0 [some (.ref (ad 83)), some (iv v1), none, none, none] [] m
  unfold F11_doubt at h
  refine r_iload_n (pc := 0) hR (dc dt_X11_doubt 0 rfl) rfl ?_
  refine r_iconst (pc := 1) hR (dc dt_X11_doubt 1 rfl) ?_
  refine r_iconst (pc := 2) hR (dc dt_X11_doubt 2 rfl) ?_
  refine r_callS (pc := 3) (rest := []) hR (dc dt_X11_doubt 3 rfl) cl_X11_134 (ok_F11_in q1 (rg_c rfl) (rg_c rfl)) (by decide) rfl (Nat.le_of_ble_eq_true rfl) rfl (fun q3r => ?_)
  show Go 6 [some (.ref (ad 83)), some (iv v1), none, none, none] [iv (F11_in v1 0 1)] m
  refine r_if_ne (pc := 6) (tgt := 11) hR (dc dt_X11_doubt 4 rfl) (by decide) (inZ_R q3r) (fun hc => ?_) (fun hc => ?_)
  · replace h := ite_t hc h
    refine r_iconst (pc := 11) hR (dc dt_X11_doubt 7 rfl) ?_
    refine r_istore_n (pc := 12) (L' := [some (.ref (ad 83)), some (iv v1), some (iv 0), none, none]) hR (dc dt_X11_doubt 8 rfl) (by decide) rfl rfl ?_
    refine r_iconst (pc := 13) hR (dc dt_X11_doubt 9 rfl) ?_
    refine r_istore_n (pc := 14) (L' := [some (.ref (ad 83)), some (iv v1), some (iv 0), some (iv 0), none]) hR (dc dt_X11_doubt 10 rfl) (by decide) rfl rfl ?_
    refine lp_L11_doubt_15 hR hT q1 (fun v2_44 qv2_44 h => ?_) FU 0 0 (rg_c rfl) (rg_c rfl) h
    show Go 44 [some (.ref (ad 83)), some (iv v1), some (iv v2_44), none, none] [] m
    refine r_iconst (pc := 44) hR (dc dt_X11_doubt 28 rfl) ?_
    refine r_istore_n (pc := 45) (L' := [some (.ref (ad 83)), some (iv v1), some (iv v2_44), some (iv (-1)), none]) hR (dc dt_X11_doubt 29 rfl) (by decide) rfl rfl ?_
    refine r_iconst (pc := 46) hR (dc dt_X11_doubt 30 rfl) ?_
    refine r_istore (pc := 47) (L' := [some (.ref (ad 83)), some (iv v1), some (iv v2_44), some (iv (-1)), some (iv 0)]) hR (dc dt_X11_doubt 31 rfl) (by decide) rfl rfl ?_
    refine lp_L11_doubt_49 hR hT q1 qv2_44 (fun v3_101 m_101 qv3_101 h => ?_) FU (-1) 0 m (rg_c rfl) (rg_c rfl) h
    show Go 101 [none, some (iv v1), none, some (iv v3_101), none] [] m_101
    refine r_iload_n (pc := 101) hR (dc dt_X11_doubt 57 rfl) rfl ?_
    refine r_if_ne (pc := 102) (tgt := 112) hR (dc dt_X11_doubt 58 rfl) (by decide) q1 (fun hc => ?_) (fun hc => ?_)
    · replace h := ite_t hc h
      refine r_iload_n (pc := 112) hR (dc dt_X11_doubt 62 rfl) rfl ?_
      exact r_iret hT (dc dt_X11_doubt 63 rfl) (congrArg Prod.fst (Option.some.inj h)) (congrArg Prod.snd (Option.some.inj h)) qv3_101
    replace h := ite_f hc h
    refine r_iload_n (pc := 105) hR (dc dt_X11_doubt 59 rfl) rfl ?_
    obtain ⟨r106, e106, h⟩ := b1_some h
    refine r_callS (pc := 106) (rest := []) hR (dc dt_X11_doubt 60 rfl) cl_X11_321 (ok_F11_bitsOf qv3_101 e106) (by decide) rfl (Nat.le_of_ble_eq_true rfl) rfl (fun q106r => ?_)
    show Go 109 [none, some (iv v1), none, some (iv v3_101), none] [iv r106] m_101
    refine r_goto (pc := 109) (tgt := 113) hR (dc dt_X11_doubt 61 rfl) (by decide) ?_
    exact r_iret hT (dc dt_X11_doubt 63 rfl) (congrArg Prod.fst (Option.some.inj h)) (congrArg Prod.snd (Option.some.inj h)) q106r
  replace h := ite_f hc h
  refine r_iconst (pc := 9) hR (dc dt_X11_doubt 5 rfl) ?_
  exact r_iret hT (dc dt_X11_doubt 6 rfl) (congrArg Prod.fst (Option.some.inj h)) (congrArg Prod.snd (Option.some.inj h)) (rg_c rfl)
def tb_X11_digitsOf : List (Nat × (Instr × Nat)) := [(0, (.iconst 0, 1)), (1, (.istore_n 2, 1)), (2, (.iload_n 0, 1)), (3, (.istore_n 3, 1)), (4, (.iload_n 3, 1)), (5, (.ifCond .le 14, 3)), (8, (.iinc 2 1, 3)), (11, (.iload_n 3, 1)), (12, (.bipush 10, 2)), (14, (.idiv, 1)), (15, (.istore_n 3, 1)), (16, (.goto (-12), 3)), (19, (.iload_n 0, 1)), (20, (.istore_n 3, 1)), (21, (.iload_n 2, 1)), (22, (.iconst 1, 1)), (23, (.isub, 1)), (24, (.istore 4, 2)), (26, (.iload 4, 2)), (28, (.ifCond .lt 22, 3)), (31, (.aload_n 1, 1)), (32, (.iload 4, 2)), (34, (.iload_n 3, 1)), (35, (.bipush 10, 2)), (37, (.irem, 1)), (38, (.iastore, 1)), (39, (.iload_n 3, 1)), (40, (.bipush 10, 2)), (42, (.idiv, 1)), (43, (.istore_n 3, 1)), (44, (.iinc 4 (-1), 3)), (47, (.goto (-21), 3)), (50, (.iload_n 2, 1)), (51, (.ireturn, 1))]
set_option maxRecDepth 100000 in
theorem dt_X11_digitsOf : (tb_X11_digitsOf.all fun q => decide (decode cX11_digitsOf q.1 = .ok q.2)) = true := by decide +kernel
set_option maxRecDepth 100000 in
set_option maxHeartbeats 4000000 in
theorem lp_L11_digitsOf_4 {Go : Nat → List (Option Value) → List Value → Mem → Prop} (hR : RS l G cy ad tt RX11 cX11_digitsOf 5 0 Go) {out : Int × Mem} {m : Mem} (hT : RT cX11_digitsOf (some (iv out.1)) (inR out.1) out.2 (some .int) Go) {a1 : Nat} (ha1 : tab[a1]? = some (.inl (0, 6))) {v0 : Int} (qv0 : inR v0) {k19 : Int → Option (Int × Mem)} (hk19 : ∀ (v2 : Int), inR v2 → k19 v2 = some out → Go 19 [some (iv v0), some (.ref (ad a1)), some (iv v2), none, none] [] m) : ∀ (n : Nat) (v2 : Int) (v3 : Int), inR v2 → inR v3 → L11_digitsOf_4 k19 n v2 v3 = some out → Go 4 [some (iv v0), some (.ref (ad a1)), some (iv v2), some (iv v3), none] [] m := by
  intro n
  induction n with
  | zero =>
    intro v2 v3 qv2 qv3 h
    cases h
  | succ n ih =>
    intro v2 v3 qv2 qv3 h
    rw [L11_digitsOf_4] at h
    refine r_iload_n (pc := 4) hR (dc dt_X11_digitsOf 4 rfl) rfl ?_
    refine r_if_le (pc := 5) (tgt := 19) hR (dc dt_X11_digitsOf 5 rfl) (by decide) qv3 (fun hc => ?_) (fun hc => ?_)
    · replace h := ite_t hc h
      refine r_weak (L' := [some (iv v0), some (.ref (ad a1)), some (iv v2), none, none]) hR ⟨Or.inr rfl, Or.inr rfl, Or.inr rfl, Or.inl rfl, Or.inr rfl, trivial⟩ ?_
      exact hk19 v2 qv2 h
    replace h := ite_f hc h
    refine r_iinc (pc := 8) (L' := [some (iv v0), some (.ref (ad a1)), some (iv (w32 (v2 + 1))), some (iv v3), none]) hR (dc dt_X11_digitsOf 6 rfl) rfl (by decide) rfl rfl ?_
    refine r_iload_n (pc := 11) hR (dc dt_X11_digitsOf 7 rfl) rfl ?_
    refine r_bipush (pc := 12) hR (dc dt_X11_digitsOf 8 rfl) (by decide) ?_
    refine r_idiv (pc := 14) hR (dc dt_X11_digitsOf 9 rfl) (by decide) (rg_c rfl) ?_
    refine r_istore_n (pc := 15) (L' := [some (iv v0), some (.ref (ad a1)), some (iv (w32 (v2 + 1))), some (iv (idv v3 10)), none]) hR (dc dt_X11_digitsOf 10 rfl) (by decide) rfl rfl ?_
    refine r_goto (pc := 16) (tgt := 4) hR (dc dt_X11_digitsOf 11 rfl) (by decide) ?_
    exact ih (w32 (v2 + 1)) (idv v3 10) (w32_in _) (ti_in _) h
set_option maxRecDepth 100000 in
set_option maxHeartbeats 4000000 in
theorem lp_L11_digitsOf_26 {Go : Nat → List (Option Value) → List Value → Mem → Prop} (hR : RS l G cy ad tt RX11 cX11_digitsOf 5 0 Go) {out : Int × Mem} (hT : RT cX11_digitsOf (some (iv out.1)) (inR out.1) out.2 (some .int) Go) {a1 : Nat} (ha1 : tab[a1]? = some (.inl (0, 6))) {v2 : Int} (qv2 : inR v2) : ∀ (n : Nat) (v3 : Int) (v4 : Int) (m : Mem), inR v3 → inR v4 → L11_digitsOf_26 a1 v2 n v3 v4 m = some out → Go 26 [none, some (.ref (ad a1)), some (iv v2), some (iv v3), some (iv v4)] [] m := by
  intro n
  induction n with
  | zero =>
    intro v3 v4 m qv3 qv4 h
    cases h
  | succ n ih =>
    intro v3 v4 m qv3 qv4 h
    rw [L11_digitsOf_26] at h
    refine r_iload (pc := 26) hR (dc dt_X11_digitsOf 18 rfl) rfl ?_
    refine r_if_lt (pc := 28) (tgt := 50) hR (dc dt_X11_digitsOf 19 rfl) (by decide) qv4 (fun hc => ?_) (fun hc => ?_)
    · replace h := ite_t hc h
      refine r_iload_n (pc := 50) hR (dc dt_X11_digitsOf 32 rfl) rfl ?_
      exact r_iret hT (dc dt_X11_digitsOf 33 rfl) (congrArg Prod.fst (Option.some.inj h)) (congrArg Prod.snd (Option.some.inj h)) qv2
    replace h := ite_f hc h
    refine r_aload_n (pc := 31) hR (dc dt_X11_digitsOf 20 rfl) rfl ?_
    refine r_iload (pc := 32) hR (dc dt_X11_digitsOf 21 rfl) rfl ?_
    refine r_iload_n (pc := 34) hR (dc dt_X11_digitsOf 22 rfl) rfl ?_
    refine r_bipush (pc := 35) hR (dc dt_X11_digitsOf 23 rfl) (by decide) ?_
    refine r_irem (pc := 37) hR (dc dt_X11_digitsOf 24 rfl) (by decide) (rg_c rfl) ?_
    obtain ⟨g1, h⟩ := gd_some h
    refine r_iast (pc := 38) hR (dc dt_X11_digitsOf 25 rfl) ha1 g1 qv4 ?_
    replace h := stw_e h
    generalize wr m a1 v4 (irm v3 10) = m38 at h ⊢
    refine r_iload_n (pc := 39) hR (dc dt_X11_digitsOf 26 rfl) rfl ?_
    refine r_bipush (pc := 40) hR (dc dt_X11_digitsOf 27 rfl) (by decide) ?_
    refine r_idiv (pc := 42) hR (dc dt_X11_digitsOf 28 rfl) (by decide) (rg_c rfl) ?_
    refine r_istore_n (pc := 43) (L' := [none, some (.ref (ad a1)), some (iv v2), some (iv (idv v3 10)), some (iv v4)]) hR (dc dt_X11_digitsOf 29 rfl) (by decide) rfl rfl ?_
    refine r_iinc (pc := 44) (L' := [none, some (.ref (ad a1)), some (iv v2), some (iv (idv v3 10)), some (iv (w32 (v4 + (-1))))]) hR (dc dt_X11_digitsOf 30 rfl) rfl (by decide) rfl rfl ?_
    refine r_goto (pc := 47) (tgt := 26) hR (dc dt_X11_digitsOf 31 rfl) (by decide) ?_
    exact ih (idv v3 10) (w32 (v4 + (-1))) m38 (ti_in _) (w32_in _) h
set_option maxRecDepth 100000 in
set_option maxHeartbeats 4000000 in
theorem ok_F11_digitsOf {m : Mem} {a1 : Nat} {v0 : Int} (ha1 : tab[a1]? = some (.inl (0, 6))) (q0 : inR v0) {out : Int × Mem} (h : F11_digitsOf m a1 v0 = some out) : CT l G cy ad tt yX11_digitsOf cX11_digitsOf 5 (some .int) 0 [iv v0, .ref (ad a1)] m (some (iv out.1)) (inR out.1) out.2 := by
  refine CT_of (by decide) (Nat.le_of_ble_eq_true rfl) (fun Go hR hT => ?_)
  replace hR : RS l G cy ad tt RX11 cX11_digitsOf 5 0 Go := hR
  show Go 0 [some (iv v0), some (.ref (ad a1)), none, none, none] [] m
  unfold F11_digitsOf at h
  refine r_iconst (pc := 0) hR (dc dt_X11_digitsOf 0 rfl) ?_
  refine r_istore_n (pc := 1) (L' := [some (iv v0), some (.ref (ad a1)), some (iv 0), none, none]) hR (dc dt_X11_digitsOf 1 rfl) (by decide) rfl rfl ?_
  refine r_iload_n (pc := 2) hR (dc dt_X11_digitsOf 2 rfl) rfl ?_
  refine r_istore_n (pc := 3) (L' := [some (iv v0), some (.ref (ad a1)), some (iv 0), some (iv v0), none]) hR (dc dt_X11_digitsOf 3 rfl) (by decide) rfl rfl ?_
  refine lp_L11_digitsOf_4 hR hT ha1 q0 (fun v2_19 qv2_19 h => ?_) FU 0 v0 (rg_c rfl) q0 h
  show Go 19 [some (iv v0), some (.ref (ad a1)), some (iv v2_19), none, none] [] m
  refine r_iload_n (pc := 19) hR (dc dt_X11_digitsOf 12 rfl) rfl ?_
  refine r_istore_n (pc := 20) (L' := [some (iv v0), some (.ref (ad a1)), some (iv v2_19), some (iv v0), none]) hR (dc dt_X11_digitsOf 13 rfl) (by decide) rfl rfl ?_
  refine r_iload_n (pc := 21) hR (dc dt_X11_digitsOf 14 rfl) rfl ?_
  refine r_iconst (pc := 22) hR (dc dt_X11_digitsOf 15 rfl) ?_
  refine r_isub (pc := 23) hR (dc dt_X11_digitsOf 16 rfl) ?_
  refine r_istore (pc := 24) (L' := [some (iv v0), some (.ref (ad a1)), some (iv v2_19), some (iv v0), some (iv (w32 (v2_19 - 1)))]) hR (dc dt_X11_digitsOf 17 rfl) (by decide) rfl rfl ?_
  refine r_weak (L' := [none, some (.ref (ad a1)), some (iv v2_19), some (iv v0), some (iv (w32 (v2_19 - 1)))]) hR ⟨Or.inl rfl, Or.inr rfl, Or.inr rfl, Or.inr rfl, Or.inr rfl, trivial⟩ ?_
  refine lp_L11_digitsOf_26 hR hT ha1 qv2_19 FU v0 (w32 (v2_19 - 1)) m q0 (w32_in _) h
def tb_X11_isWithout : List (Nat × (Instr × Nat)) := [(0, (.iload 4, 2)), (2, (.iload_n 1, 1)), (3, (.iconst 1, 1)), (4, (.isub, 1)), (5, (.if_icmp .eq 5, 3)), (8, (.iconst 0, 1)), (9, (.ireturn, 1)), (10, (.iconst 0, 1)), (11, (.istore 5, 2)), (13, (.iload 5, 2)), (15, (.iload 4, 2)), (17, (.if_icmp .ge 35, 3)), (20, (.aload_n 0, 1)), (21, (.iload 5, 2)), (23, (.iload_n 2, 1)), (24, (.if_icmp .ge 8, 3)), (27, (.iload 5, 2)), (29, (.goto 7, 3)), (32, (.iload 5, 2)), (34, (.iconst 1, 1)), (35, (.iadd, 1)), (36, (.iaload, 1)), (37, (.aload_n 3, 1)), (38, (.iload 5, 2)), (40, (.iaload, 1)), (41, (.if_icmp .eq 5, 3)), (44, (.iconst 0, 1)), (45, (.ireturn, 1)), (46, (.iinc 5 1, 3)), (49, (.goto (-36), 3)), (52, (.iconst 1, 1)), (53, (.ireturn, 1))]
set_option maxRecDepth 100000 in
theorem dt_X11_isWithout : (tb_X11_isWithout.all fun q => decide (decode cX11_isWithout q.1 = .ok q.2)) = true := by decide +kernel
set_option maxRecDepth 100000 in
set_option maxHeartbeats 4000000 in
theorem lp_L11_isWithout_13 {Go : Nat → List (Option Value) → List Value → Mem → Prop} (hR : RS l G cy ad tt RX11 cX11_isWithout 6 0 Go) {out : Int} {m : Mem} (hT : RT cX11_isWithout (some (iv out)) (inZ out) m (some .boolean) Go) {a0 : Nat} {a3 : Nat} (ha0 : tab[a0]? = some (.inl (0, 6))) (ha3 : tab[a3]? = some (.inl (0, 6))) {v2 : Int} {v4 : Int} (qv2 : inR v2) (qv4 : inR v4) : ∀ (n : Nat) (v5 : Int), inR v5 → L11_isWithout_13 m a0 a3 v2 v4 n v5 = some out → Go 13 [some (.ref (ad a0)), none, some (iv v2), some (.ref (ad a3)), some (iv v4), some (iv v5)] [] m := by
  intro n
  induction n with
  | zero =>
    intro v5 qv5 h
    cases h
  | succ n ih =>
    intro v5 qv5 h
    rw [L11_isWithout_13] at h
    refine r_iload (pc := 13) hR (dc dt_X11_isWithout 9 rfl) rfl ?_
    refine r_iload (pc := 15) hR (dc dt_X11_isWithout 10 rfl) rfl ?_
    refine r_icmp_ge (pc := 17) (tgt := 52) hR (dc dt_X11_isWithout 11 rfl) (by decide) qv5 qv4 (fun hc => ?_) (fun hc => ?_)
    · replace h := ite_t hc h
      refine r_iconst (pc := 52) hR (dc dt_X11_isWithout 30 rfl) ?_
      exact r_zret hT (dc dt_X11_isWithout 31 rfl) (Option.some.inj h) rfl (Or.inr rfl)
    replace h := ite_f hc h
    refine r_aload_n (pc := 20) hR (dc dt_X11_isWithout 12 rfl) rfl ?_
    refine r_iload (pc := 21) hR (dc dt_X11_isWithout 13 rfl) rfl ?_
    refine r_iload_n (pc := 23) hR (dc dt_X11_isWithout 14 rfl) rfl ?_
    refine jn_e h (fun (K : Int → Option Int) => ∀ (x36 : Int), inR x36 → K x36 = some out → Go 36 [some (.ref (ad a0)), none, some (iv v2), some (.ref (ad a3)), some (iv v4), some (iv v5)] [iv x36, .ref (ad a0)] m) (fun x36 qx36 h => ?_) (fun K36 J36 h => ?_)
    · obtain ⟨g1, h⟩ := gd_some h
      refine r_iald (pc := 36) hR (dc dt_X11_isWithout 21 rfl) ha0 g1 qx36 ?_
      refine r_aload_n (pc := 37) hR (dc dt_X11_isWithout 22 rfl) rfl ?_
      refine r_iload (pc := 38) hR (dc dt_X11_isWithout 23 rfl) rfl ?_
      obtain ⟨g1, h⟩ := gd_some h
      refine r_iald (pc := 40) hR (dc dt_X11_isWithout 24 rfl) ha3 g1 qv5 ?_
      refine r_icmp_eq (pc := 41) (tgt := 46) hR (dc dt_X11_isWithout 25 rfl) (by decide) (rd_in _ _ _) (rd_in _ _ _) (fun hc => ?_) (fun hc => ?_)
      · replace h := ite_t hc h
        refine r_iinc (pc := 46) (L' := [some (.ref (ad a0)), none, some (iv v2), some (.ref (ad a3)), some (iv v4), some (iv (w32 (v5 + 1)))]) hR (dc dt_X11_isWithout 28 rfl) rfl (by decide) rfl rfl ?_
        refine r_goto (pc := 49) (tgt := 13) hR (dc dt_X11_isWithout 29 rfl) (by decide) ?_
        exact ih (w32 (v5 + 1)) (w32_in _) h
      replace h := ite_f hc h
      refine r_iconst (pc := 44) hR (dc dt_X11_isWithout 26 rfl) ?_
      exact r_zret hT (dc dt_X11_isWithout 27 rfl) (Option.some.inj h) rfl (Or.inl rfl)
    refine r_icmp_ge (pc := 24) (tgt := 32) hR (dc dt_X11_isWithout 15 rfl) (by decide) qv5 qv2 (fun hc => ?_) (fun hc => ?_)
    · replace h := ite_t hc h
      refine r_iload (pc := 32) hR (dc dt_X11_isWithout 18 rfl) rfl ?_
      refine r_iconst (pc := 34) hR (dc dt_X11_isWithout 19 rfl) ?_
      refine r_iadd (pc := 35) hR (dc dt_X11_isWithout 20 rfl) ?_
      exact J36 (w32 (v5 + 1)) (w32_in _) h
    replace h := ite_f hc h
    refine r_iload (pc := 27) hR (dc dt_X11_isWithout 16 rfl) rfl ?_
    refine r_goto (pc := 29) (tgt := 36) hR (dc dt_X11_isWithout 17 rfl) (by decide) ?_
    exact J36 v5 qv5 h
set_option maxRecDepth 100000 in
set_option maxHeartbeats 4000000 in
theorem ok_F11_isWithout {m : Mem} {a0 : Nat} {a3 : Nat} {v1 v2 v4 : Int} (ha0 : tab[a0]? = some (.inl (0, 6))) (ha3 : tab[a3]? = some (.inl (0, 6))) (q1 : inR v1) (q2 : inR v2) (q4 : inR v4) {out : Int} (h : F11_isWithout m a0 a3 v1 v2 v4 = some out) : CT l G cy ad tt yX11_isWithout cX11_isWithout 6 (some .boolean) 0 [.ref (ad a0), iv v1, iv v2, .ref (ad a3), iv v4] m (some (iv out)) (inZ out) m := by
  refine CT_of (by decide) (Nat.le_of_ble_eq_true rfl) (fun Go hR hT => ?_)
  replace hR : RS l G cy ad tt RX11 cX11_isWithout 6 0 Go := hR
  show Go 0 [some (.ref (ad a0)), some (iv v1), some (iv v2), some (.ref (ad a3)), some (iv v4), none] [] m
  unfold F11_isWithout at h
  refine r_iload (pc := 0) hR (dc dt_X11_isWithout 0 rfl) rfl ?_
  refine r_iload_n (pc := 2) hR (dc dt_X11_isWithout 1 rfl) rfl ?_
  refine r_iconst (pc := 3) hR (dc dt_X11_isWithout 2 rfl) ?_
  refine r_isub (pc := 4) hR (dc dt_X11_isWithout 3 rfl) ?_
  refine r_icmp_eq (pc := 5) (tgt := 10) hR (dc dt_X11_isWithout 4 rfl) (by decide) q4 (w32_in _) (fun hc => ?_) (fun hc => ?_)
  · replace h := ite_t hc h
    refine r_iconst (pc := 10) hR (dc dt_X11_isWithout 7 rfl) ?_
    refine r_istore (pc := 11) (L' := [some (.ref (ad a0)), some (iv v1), some (iv v2), some (.ref (ad a3)), some (iv v4), some (iv 0)]) hR (dc dt_X11_isWithout 8 rfl) (by decide) rfl rfl ?_
    refine r_weak (L' := [some (.ref (ad a0)), none, some (iv v2), some (.ref (ad a3)), some (iv v4), some (iv 0)]) hR ⟨Or.inr rfl, Or.inl rfl, Or.inr rfl, Or.inr rfl, Or.inr rfl, Or.inr rfl, trivial⟩ ?_
    refine lp_L11_isWithout_13 hR hT ha0 ha3 q2 q4 FU 0 (rg_c rfl) h
  replace h := ite_f hc h
  refine r_iconst (pc := 8) hR (dc dt_X11_isWithout 5 rfl) ?_
  exact r_zret hT (dc dt_X11_isWithout 6 rfl) (Option.some.inj h) rfl (Or.inl rfl)
def tb_X11_looksLike : List (Nat × (Instr × Nat)) := [(0, (.iload_n 0, 1)), (1, (.iload_n 1, 1)), (2, (.invokestatic 227, 3)), (5, (.istore_n 2, 1)), (6, (.iload_n 0, 1)), (7, (.iload_n 1, 1)), (8, (.invokestatic 251, 3)), (11, (.istore_n 3, 1)), (12, (.iload_n 2, 1)), (13, (.iconst 1, 1)), (14, (.if_icmp .ne 9, 3)), (17, (.iload_n 3, 1)), (18, (.bipush 7, 2)), (20, (.if_icmp .eq 35, 3)), (23, (.iload_n 2, 1)), (24, (.iconst 3, 1)), (25, (.if_icmp .ne 9, 3)), (28, (.iload_n 3, 1)), (29, (.bipush 8, 2)), (31, (.if_icmp .eq 24, 3)), (34, (.iload_n 2, 1)), (35, (.iconst 5, 1)), (36, (.if_icmp .ne 9, 3)), (39, (.iload_n 3, 1)), (40, (.bipush 6, 2)), (42, (.if_icmp .eq 13, 3)), (45, (.iload_n 2, 1)), (46, (.ifCond .ne 13, 3)), (49, (.iload_n 3, 1)), (50, (.bipush 6, 2)), (52, (.if_icmp .ne 7, 3)), (55, (.iconst 1, 1)), (56, (.goto 4, 3)), (59, (.iconst 0, 1)), (60, (.ireturn, 1))]
set_option maxRecDepth 100000 in
theorem dt_X11_looksLike : (tb_X11_looksLike.all fun q => decide (decode cX11_looksLike q.1 = .ok q.2)) = true := by decide +kernel
set_option maxRecDepth 100000 in
set_option maxHeartbeats 4000000 in
theorem ok_F11_looksLike {m : Mem}  {v0 v1 : Int} (q0 : inR v0) (q1 : inR v1) : CT l G cy ad tt yX11_looksLike cX11_looksLike 4 (some .boolean) 1 [iv v0, iv v1] m (some (iv (F11_looksLike v0 v1))) (inZ (F11_looksLike v0 v1)) m := by
  refine CT_of (by decide) (Nat.le_of_ble_eq_true rfl) (fun Go hR hT => ?_)
  replace hR : RS l G cy ad tt RX11 cX11_looksLike 4 1 Go := hR
  show Go 0 [some (iv v0), some (iv v1), none, none] [] m
  obtain ⟨out, h⟩ : ∃ out, F11_looksLike v0 v1 = out := ⟨_, rfl⟩
  rw [h] at hT
  unfold F11_looksLike at h
  refine r_iload_n (pc := 0) hR (dc dt_X11_looksLike 0 rfl) rfl ?_
  refine r_iload_n (pc := 1) hR (dc dt_X11_looksLike 1 rfl) rfl ?_
  refine r_callS (pc := 2) (rest := []) hR (dc dt_X11_looksLike 2 rfl) cl_X11_227 (ok_F11_lesser q0 q1) (by decide) rfl (Nat.le_of_ble_eq_true rfl) rfl (fun q2r => ?_)
  show Go 5 [some (iv v0), some (iv v1), none, none] [iv (F11_lesser v0 v1)] m
  refine r_istore_n (pc := 5) (L' := [some (iv v0), some (iv v1), some (iv (F11_lesser v0 v1)), none]) hR (dc dt_X11_looksLike 3 rfl) (by decide) rfl rfl ?_
  refine r_iload_n (pc := 6) hR (dc dt_X11_looksLike 4 rfl) rfl ?_
  refine r_iload_n (pc := 7) hR (dc dt_X11_looksLike 5 rfl) rfl ?_
  refine r_callS (pc := 8) (rest := []) hR (dc dt_X11_looksLike 6 rfl) cl_X11_251 (ok_F11_greater q0 q1) (by decide) rfl (Nat.le_of_ble_eq_true rfl) rfl (fun q8r => ?_)
  show Go 11 [some (iv v0), some (iv v1), some (iv (F11_lesser v0 v1)), none] [iv (F11_greater v0 v1)] m
  refine r_istore_n (pc := 11) (L' := [some (iv v0), some (iv v1), some (iv (F11_lesser v0 v1)), some (iv (F11_greater v0 v1))]) hR (dc dt_X11_looksLike 7 rfl) (by decide) rfl rfl ?_
  refine r_iload_n (pc := 12) hR (dc dt_X11_looksLike 8 rfl) rfl ?_
  refine r_iconst (pc := 13) hR (dc dt_X11_looksLike 9 rfl) ?_
  refine jn_e h (fun (K : Int) => K = out → Go 55 [none, none, none, none] [] m) (fun h => ?_) (fun K55 J55 h => ?_)
  · refine r_iconst (pc := 55) hR (dc dt_X11_looksLike 31 rfl) ?_
    refine r_goto (pc := 56) (tgt := 60) hR (dc dt_X11_looksLike 32 rfl) (by decide) ?_
    exact r_zret hT (dc dt_X11_looksLike 34 rfl) h rfl (Or.inr rfl)
  refine jn_e h (fun (K : Int) => K = out → Go 23 [none, none, some (iv (F11_lesser v0 v1)), some (iv (F11_greater v0 v1))] [] m) (fun h => ?_) (fun K23 J23 h => ?_)
  · refine r_iload_n (pc := 23) hR (dc dt_X11_looksLike 14 rfl) rfl ?_
    refine r_iconst (pc := 24) hR (dc dt_X11_looksLike 15 rfl) ?_
    refine jn_e h (fun (K : Int) => K = out → Go 34 [none, none, some (iv (F11_lesser v0 v1)), some (iv (F11_greater v0 v1))] [] m) (fun h => ?_) (fun K34 J34 h => ?_)
    · refine r_iload_n (pc := 34) hR (dc dt_X11_looksLike 20 rfl) rfl ?_
      refine r_iconst (pc := 35) hR (dc dt_X11_looksLike 21 rfl) ?_
      refine jn_e h (fun (K : Int) => K = out → Go 45 [none, none, some (iv (F11_lesser v0 v1)), some (iv (F11_greater v0 v1))] [] m) (fun h => ?_) (fun K45 J45 h => ?_)
      · refine r_iload_n (pc := 45) hR (dc dt_X11_looksLike 26 rfl) rfl ?_
        refine jn_e h (fun (K : Int) => K = out → Go 59 [none, none, none, none] [] m) (fun h => ?_) (fun K59 J59 h => ?_)
        · refine r_iconst (pc := 59) hR (dc dt_X11_looksLike 33 rfl) ?_
          exact r_zret hT (dc dt_X11_looksLike 34 rfl) h rfl (Or.inl rfl)
        refine r_if_ne (pc := 46) (tgt := 59) hR (dc dt_X11_looksLike 27 rfl) (by decide) q2r (fun hc => ?_) (fun hc => ?_)
        · replace h := ite_t hc h
          refine r_weak (L' := [none, none, none, none]) hR ⟨Or.inr rfl, Or.inr rfl, Or.inl rfl, Or.inl rfl, trivial⟩ ?_
          exact J59 h
        replace h := ite_f hc h
        refine r_iload_n (pc := 49) hR (dc dt_X11_looksLike 28 rfl) rfl ?_
        refine r_bipush (pc := 50) hR (dc dt_X11_looksLike 29 rfl) (by decide) ?_
        refine r_icmp_ne (pc := 52) (tgt := 59) hR (dc dt_X11_looksLike 30 rfl) (by decide) q8r (rg_c rfl) (fun hc => ?_) (fun hc => ?_)
        · replace h := ite_t hc h
          refine r_weak (L' := [none, none, none, none]) hR ⟨Or.inr rfl, Or.inr rfl, Or.inl rfl, Or.inl rfl, trivial⟩ ?_
          exact J59 h
        replace h := ite_f hc h
        refine r_weak (L' := [none, none, none, none]) hR ⟨Or.inr rfl, Or.inr rfl, Or.inl rfl, Or.inl rfl, trivial⟩ ?_
        exact J55 h
      refine r_icmp_ne (pc := 36) (tgt := 45) hR (dc dt_X11_looksLike 22 rfl) (by decide) q2r (rg_c rfl) (fun hc => ?_) (fun hc => ?_)
      · replace h := ite_t hc h
        exact J45 h
      replace h := ite_f hc h
      refine r_iload_n (pc := 39) hR (dc dt_X11_looksLike 23 rfl) rfl ?_
      refine r_bipush (pc := 40) hR (dc dt_X11_looksLike 24 rfl) (by decide) ?_
      refine r_icmp_eq (pc := 42) (tgt := 55) hR (dc dt_X11_looksLike 25 rfl) (by decide) q8r (rg_c rfl) (fun hc => ?_) (fun hc => ?_)
      · replace h := ite_t hc h
        refine r_weak (L' := [none, none, none, none]) hR ⟨Or.inr rfl, Or.inr rfl, Or.inl rfl, Or.inl rfl, trivial⟩ ?_
        exact J55 h
      replace h := ite_f hc h
      exact J45 h
    refine r_icmp_ne (pc := 25) (tgt := 34) hR (dc dt_X11_looksLike 16 rfl) (by decide) q2r (rg_c rfl) (fun hc => ?_) (fun hc => ?_)
    · replace h := ite_t hc h
      exact J34 h
    replace h := ite_f hc h
    refine r_iload_n (pc := 28) hR (dc dt_X11_looksLike 17 rfl) rfl ?_
    refine r_bipush (pc := 29) hR (dc dt_X11_looksLike 18 rfl) (by decide) ?_
    refine r_icmp_eq (pc := 31) (tgt := 55) hR (dc dt_X11_looksLike 19 rfl) (by decide) q8r (rg_c rfl) (fun hc => ?_) (fun hc => ?_)
    · replace h := ite_t hc h
      refine r_weak (L' := [none, none, none, none]) hR ⟨Or.inr rfl, Or.inr rfl, Or.inl rfl, Or.inl rfl, trivial⟩ ?_
      exact J55 h
    replace h := ite_f hc h
    exact J34 h
  refine r_icmp_ne (pc := 14) (tgt := 23) hR (dc dt_X11_looksLike 10 rfl) (by decide) q2r (rg_c rfl) (fun hc => ?_) (fun hc => ?_)
  · replace h := ite_t hc h
    refine r_weak (L' := [none, none, some (iv (F11_lesser v0 v1)), some (iv (F11_greater v0 v1))]) hR ⟨Or.inl rfl, Or.inl rfl, Or.inr rfl, Or.inr rfl, trivial⟩ ?_
    exact J23 h
  replace h := ite_f hc h
  refine r_iload_n (pc := 17) hR (dc dt_X11_looksLike 11 rfl) rfl ?_
  refine r_bipush (pc := 18) hR (dc dt_X11_looksLike 12 rfl) (by decide) ?_
  refine r_icmp_eq (pc := 20) (tgt := 55) hR (dc dt_X11_looksLike 13 rfl) (by decide) q8r (rg_c rfl) (fun hc => ?_) (fun hc => ?_)
  · replace h := ite_t hc h
    refine r_weak (L' := [none, none, none, none]) hR ⟨Or.inl rfl, Or.inl rfl, Or.inl rfl, Or.inl rfl, trivial⟩ ?_
    exact J55 h
  replace h := ite_f hc h
  refine r_weak (L' := [none, none, some (iv (F11_lesser v0 v1)), some (iv (F11_greater v0 v1))]) hR ⟨Or.inl rfl, Or.inl rfl, Or.inr rfl, Or.inr rfl, trivial⟩ ?_
  exact J23 h
def tb_X11_slipOf : List (Nat × (Instr × Nat)) := [(0, (.iload_n 1, 1)), (1, (.iload_n 2, 1)), (2, (.if_icmp .ne 5, 3)), (5, (.iconst 0, 1)), (6, (.ireturn, 1)), (7, (.iload_n 1, 1)), (8, (.aload_n 0, 1)), (9, (.getfield 96, 3)), (12, (.invokestatic 330, 3)), (15, (.istore_n 3, 1)), (16, (.iload_n 2, 1)), (17, (.aload_n 0, 1)), (18, (.getfield 99, 3)), (21, (.invokestatic 330, 3)), (24, (.istore 4, 2)), (26, (.iconst 0, 1)), (27, (.istore 5, 2)), (29, (.iload 5, 2)), (31, (.iload_n 3, 1)), (32, (.if_icmp .ge 30, 3)), (35, (.aload_n 0, 1)), (36, (.getfield 96, 3)), (39, (.iload_n 3, 1)), (40, (.iload 5, 2)), (42, (.aload_n 0, 1)), (43, (.getfield 99, 3)), (46, (.iload 4, 2)), (48, (.invokestatic 334, 3)), (51, (.ifCond .eq 5, 3)), (54, (.iconst 1, 1)), (55, (.ireturn, 1)), (56, (.iinc 5 1, 3)), (59, (.goto (-30), 3)), (62, (.iconst 1, 1)), (63, (.istore 5, 2)), (65, (.iload 5, 2)), (67, (.iload 4, 2)), (69, (.if_icmp .ge 49, 3)), (72, (.aload_n 0, 1)), (73, (.getfield 99, 3)), (76, (.iload 5, 2)), (78, (.iaload, 1)), (79, (.aload_n 0, 1)), (80, (.getfield 99, 3)), (83, (.iload 5, 2)), (85, (.iconst 1, 1)), (86, (.isub, 1)), (87, (.iaload, 1)), (88, (.if_icmp .ne 24, 3)), (91, (.aload_n 0, 1)), (92, (.getfield 99, 3)), (95, (.iload 4, 2)), (97, (.iload 5, 2)), (99, (.aload_n 0, 1)), (100, (.getfield 96, 3)), (103, (.iload_n 3, 1)), (104, (.invokestatic 334, 3)), (107, (.ifCond .eq 5, 3)), (110, (.iconst 2, 1)), (111, (.ireturn, 1)), (112, (.iinc 5 1, 3)), (115, (.goto (-50), 3)), (118, (.iload_n 3, 1)), (119, (.iload 4, 2)), (121, (.if_icmp .eq 6, 3)), (124, (.bipush (-2), 2)), (126, (.ireturn, 1)), (127, (.iconst 0, 1)), (128, (.istore 5, 2)), (130, (.iconst (-1), 1)), (131, (.istore 6, 2)), (133, (.iconst (-1), 1)), (134, (.istore 7, 2)), (136, (.iconst 0, 1)), (137, (.istore 8, 2)), (139, (.iload 8, 2)), (141, (.iload_n 3, 1)), (142, (.if_icmp .ge 45, 3)), (145, (.aload_n 0, 1)), (146, (.getfield 96, 3)), (149, (.iload 8, 2)), (151, (.iaload, 1)), (152, (.aload_n 0, 1)), (153, (.getfield 99, 3)), (156, (.iload 8, 2)), (158, (.iaload, 1)), (159, (.if_icmp .ne 6, 3)), (162, (.goto 19, 3)), (165, (.iinc 5 1, 3)), (168, (.iload 6, 2)), (170, (.ifCond .ge 7, 3)), (173, (.iload 8, 2)), (175, (.istore 6, 2)), (177, (.iload 8, 2)), (179, (.istore 7, 2)), (181, (.iinc 8 1, 3)), (184, (.goto (-45), 3)), (187, (.iload 5, 2)), (189, (.iconst 2, 1)), (190, (.if_icmp .ne 48, 3)), (193, (.iload 7, 2)), (195, (.iload 6, 2)), (197, (.iconst 1, 1)), (198, (.iadd, 1)), (199, (.if_icmp .ne 39, 3)), (202, (.aload_n 0, 1)), (203, (.getfield 96, 3)), (206, (.iload 6, 2)), (208, (.iaload, 1)), (209, (.aload_n 0, 1)), (210, (.getfield 99, 3)), (213, (.iload 7, 2)), (215, (.iaload, 1)), (216, (.if_icmp .ne 22, 3)), (219, (.aload_n 0, 1)), (220, (.getfield 96, 3)), (223, (.iload 7, 2)), (225, (.iaload, 1)), (226, (.aload_n 0, 1)), (227, (.getfield 99, 3)), (230, (.iload 6, 2)), (232, (.iaload, 1)), (233, (.if_icmp .ne 5, 3)), (236, (.iconst 3, 1)), (237, (.ireturn, 1)), (238, (.iload 5, 2)), (240, (.iconst 1, 1)), (241, (.if_icmp .ne 27, 3)), (244, (.aload_n 0, 1)), (245, (.getfield 96, 3)), (248, (.iload 6, 2)), (250, (.iaload, 1)), (251, (.aload_n 0, 1)), (252, (.getfield 99, 3)), (255, (.iload 6, 2)), (257, (.iaload, 1)), (258, (.invokestatic 338, 3)), (261, (.ifCond .eq 7, 3)), (264, (.iconst 4, 1)), (265, (.goto 5, 3)), (268, (.bipush (-2), 2)), (270, (.ireturn, 1))]
set_option maxRecDepth 100000 in
theorem dt_X11_slipOf : (tb_X11_slipOf.all fun q => decide (decode cX11_slipOf q.1 = .ok q.2)) = true := by decide +kernel
set_option maxRecDepth 100000 in
set_option maxHeartbeats 4000000 in
theorem lp_L11_slipOf_29 {Go : Nat → List (Option Value) → List Value → Mem → Prop} (hR : RS l G cy ad tt RX11 cX11_slipOf 9 2 Go) {out : Int × Mem} {m : Mem} (hT : RT cX11_slipOf (some (iv out.1)) (inR out.1) out.2 (some .int) Go) {v3 : Int} {v4 : Int} (qv3 : inR v3) (qv4 : inR v4) {k62 : Option (Int × Mem)} (hk62 : k62 = some out → Go 62 [some (.ref (ad 83)), none, none, some (iv v3), some (iv v4), none, none, none, none] [] m) : ∀ (n : Nat) (v5 : Int), inR v5 → L11_slipOf_29 m v3 v4 k62 n v5 = some out → Go 29 [some (.ref (ad 83)), none, none, some (iv v3), some (iv v4), some (iv v5), none, none, none] [] m := by
  intro n
  induction n with
  | zero =>
    intro v5 qv5 h
    cases h
  | succ n ih =>
    intro v5 qv5 h
    rw [L11_slipOf_29] at h
    refine r_iload (pc := 29) hR (dc dt_X11_slipOf 17 rfl) rfl ?_
    refine r_iload_n (pc := 31) hR (dc dt_X11_slipOf 18 rfl) rfl ?_
    refine r_icmp_ge (pc := 32) (tgt := 62) hR (dc dt_X11_slipOf 19 rfl) (by decide) qv5 qv3 (fun hc => ?_) (fun hc => ?_)
    · replace h := ite_t hc h
      refine r_weak (L' := [some (.ref (ad 83)), none, none, some (iv v3), some (iv v4), none, none, none, none]) hR ⟨Or.inr rfl, Or.inr rfl, Or.inr rfl, Or.inr rfl, Or.inr rfl, Or.inl rfl, Or.inr rfl, Or.inr rfl, Or.inr rfl, trivial⟩ ?_
      exact hk62 h
    replace h := ite_f hc h
    refine r_aload_n (pc := 35) hR (dc dt_X11_slipOf 20 rfl) rfl ?_
    refine r_getr (pc := 36) (k2 := 112) hR (dc dt_X11_slipOf 21 rfl) fl_X11_96 tc_83 rfl ?_
    refine r_iload_n (pc := 39) hR (dc dt_X11_slipOf 22 rfl) rfl ?_
    refine r_iload (pc := 40) hR (dc dt_X11_slipOf 23 rfl) rfl ?_
    refine r_aload_n (pc := 42) hR (dc dt_X11_slipOf 24 rfl) rfl ?_
    refine r_getr (pc := 43) (k2 := 113) hR (dc dt_X11_slipOf 25 rfl) fl_X11_99 tc_83 rfl ?_
    refine r_iload (pc := 46) hR (dc dt_X11_slipOf 26 rfl) rfl ?_
    obtain ⟨r48, e48, h⟩ := b1_some h
    refine r_callS (pc := 48) (rest := []) hR (dc dt_X11_slipOf 27 rfl) cl_X11_334 (ok_F11_isWithout tc_112 tc_113 qv3 qv5 qv4 e48) (by decide) rfl (Nat.le_of_ble_eq_true rfl) rfl (fun q48r => ?_)
    show Go 51 [some (.ref (ad 83)), none, none, some (iv v3), some (iv v4), some (iv v5), none, none, none] [iv r48] m
    refine r_if_eq (pc := 51) (tgt := 56) hR (dc dt_X11_slipOf 28 rfl) (by decide) (inZ_R q48r) (fun hc => ?_) (fun hc => ?_)
    · replace h := ite_t hc h
      refine r_iinc (pc := 56) (L' := [some (.ref (ad 83)), none, none, some (iv v3), some (iv v4), some (iv (w32 (v5 + 1))), none, none, none]) hR (dc dt_X11_slipOf 31 rfl) rfl (by decide) rfl rfl ?_
      refine r_goto (pc := 59) (tgt := 29) hR (dc dt_X11_slipOf 32 rfl) (by decide) ?_
      exact ih (w32 (v5 + 1)) (w32_in _) h
    replace h := ite_f hc h
    refine r_iconst (pc := 54) hR (dc dt_X11_slipOf 29 rfl) ?_
    exact r_iret hT (dc dt_X11_slipOf 30 rfl) (congrArg Prod.fst (Option.some.inj h)) (congrArg Prod.snd (Option.some.inj h)) (rg_c rfl)
set_option maxRecDepth 100000 in
set_option maxHeartbeats 4000000 in
theorem lp_L11_slipOf_65 {Go : Nat → List (Option Value) → List Value → Mem → Prop} (hR : RS l G cy ad tt RX11 cX11_slipOf 9 2 Go) {out : Int × Mem} {m : Mem} (hT : RT cX11_slipOf (some (iv out.1)) (inR out.1) out.2 (some .int) Go) {v3 : Int} {v4 : Int} (qv3 : inR v3) (qv4 : inR v4) {k118 : Option (Int × Mem)} (hk118 : k118 = some out → Go 118 [some (.ref (ad 83)), none, none, some (iv v3), some (iv v4), none, none, none, none] [] m) : ∀ (n : Nat) (v5 : Int), inR v5 → L11_slipOf_65 m v3 v4 k118 n v5 = some out → Go 65 [some (.ref (ad 83)), none, none, some (iv v3), some (iv v4), some (iv v5), none, none, none] [] m := by
  intro n
  induction n with
  | zero =>
    intro v5 qv5 h
    cases h
  | succ n ih =>
    intro v5 qv5 h
    rw [L11_slipOf_65] at h
    refine r_iload (pc := 65) hR (dc dt_X11_slipOf 35 rfl) rfl ?_
    refine r_iload (pc := 67) hR (dc dt_X11_slipOf 36 rfl) rfl ?_
    refine r_icmp_ge (pc := 69) (tgt := 118) hR (dc dt_X11_slipOf 37 rfl) (by decide) qv5 qv4 (fun hc => ?_) (fun hc => ?_)
    · replace h := ite_t hc h
      refine r_weak (L' := [some (.ref (ad 83)), none, none, some (iv v3), some (iv v4), none, none, none, none]) hR ⟨Or.inr rfl, Or.inr rfl, Or.inr rfl, Or.inr rfl, Or.inr rfl, Or.inl rfl, Or.inr rfl, Or.inr rfl, Or.inr rfl, trivial⟩ ?_
      exact hk118 h
    replace h := ite_f hc h
    refine r_aload_n (pc := 72) hR (dc dt_X11_slipOf 38 rfl) rfl ?_
    refine r_getr (pc := 73) (k2 := 113) hR (dc dt_X11_slipOf 39 rfl) fl_X11_99 tc_83 rfl ?_
    refine r_iload (pc := 76) hR (dc dt_X11_slipOf 40 rfl) rfl ?_
    obtain ⟨g1, h⟩ := gd_some h
    refine r_iald (pc := 78) hR (dc dt_X11_slipOf 41 rfl) tc_113 g1 qv5 ?_
    refine r_aload_n (pc := 79) hR (dc dt_X11_slipOf 42 rfl) rfl ?_
    refine r_getr (pc := 80) (k2 := 113) hR (dc dt_X11_slipOf 43 rfl) fl_X11_99 tc_83 rfl ?_
    refine r_iload (pc := 83) hR (dc dt_X11_slipOf 44 rfl) rfl ?_
    refine r_iconst (pc := 85) hR (dc dt_X11_slipOf 45 rfl) ?_
    refine r_isub (pc := 86) hR (dc dt_X11_slipOf 46 rfl) ?_
    obtain ⟨g1, h⟩ := gd_some h
    refine r_iald (pc := 87) hR (dc dt_X11_slipOf 47 rfl) tc_113 g1 (w32_in _) ?_
    refine jn_e h (fun (K : Option (Int × Mem)) => K = some out → Go 112 [some (.ref (ad 83)), none, none, some (iv v3), some (iv v4), some (iv v5), none, none, none] [] m) (fun h => ?_) (fun K112 J112 h => ?_)
    · refine r_iinc (pc := 112) (L' := [some (.ref (ad 83)), none, none, some (iv v3), some (iv v4), some (iv (w32 (v5 + 1))), none, none, none]) hR (dc dt_X11_slipOf 60 rfl) rfl (by decide) rfl rfl ?_
      refine r_goto (pc := 115) (tgt := 65) hR (dc dt_X11_slipOf 61 rfl) (by decide) ?_
      exact ih (w32 (v5 + 1)) (w32_in _) h
    refine r_icmp_ne (pc := 88) (tgt := 112) hR (dc dt_X11_slipOf 48 rfl) (by decide) (rd_in _ _ _) (rd_in _ _ _) (fun hc => ?_) (fun hc => ?_)
    · replace h := ite_t hc h
      exact J112 h
    replace h := ite_f hc h
    refine r_aload_n (pc := 91) hR (dc dt_X11_slipOf 49 rfl) rfl ?_
    refine r_getr (pc := 92) (k2 := 113) hR (dc dt_X11_slipOf 50 rfl) fl_X11_99 tc_83 rfl ?_
    refine r_iload (pc := 95) hR (dc dt_X11_slipOf 51 rfl) rfl ?_
    refine r_iload (pc := 97) hR (dc dt_X11_slipOf 52 rfl) rfl ?_
    refine r_aload_n (pc := 99) hR (dc dt_X11_slipOf 53 rfl) rfl ?_
    refine r_getr (pc := 100) (k2 := 112) hR (dc dt_X11_slipOf 54 rfl) fl_X11_96 tc_83 rfl ?_
    refine r_iload_n (pc := 103) hR (dc dt_X11_slipOf 55 rfl) rfl ?_
    obtain ⟨r104, e104, h⟩ := b1_some h
    refine r_callS (pc := 104) (rest := []) hR (dc dt_X11_slipOf 56 rfl) cl_X11_334 (ok_F11_isWithout tc_113 tc_112 qv4 qv5 qv3 e104) (by decide) rfl (Nat.le_of_ble_eq_true rfl) rfl (fun q104r => ?_)
    show Go 107 [some (.ref (ad 83)), none, none, some (iv v3), some (iv v4), some (iv v5), none, none, none] [iv r104] m
    refine r_if_eq (pc := 107) (tgt := 112) hR (dc dt_X11_slipOf 57 rfl) (by decide) (inZ_R q104r) (fun hc => ?_) (fun hc => ?_)
    · replace h := ite_t hc h
      exact J112 h
    replace h := ite_f hc h
    refine r_iconst (pc := 110) hR (dc dt_X11_slipOf 58 rfl) ?_
    exact r_iret hT (dc dt_X11_slipOf 59 rfl) (congrArg Prod.fst (Option.some.inj h)) (congrArg Prod.snd (Option.some.inj h)) (rg_c rfl)
set_option maxRecDepth 100000 in
set_option maxHeartbeats 4000000 in
theorem lp_L11_slipOf_139 {Go : Nat → List (Option Value) → List Value → Mem → Prop} (hR : RS l G cy ad tt RX11 cX11_slipOf 9 2 Go) {out : Int × Mem} {m : Mem} (hT : RT cX11_slipOf (some (iv out.1)) (inR out.1) out.2 (some .int) Go) {v3 : Int} (qv3 : inR v3) {k187 : Int → Int → Int → Option (Int × Mem)} (hk187 : ∀ (v5 : Int) (v6 : Int) (v7 : Int), inR v5 → inR v6 → inR v7 → k187 v5 v6 v7 = some out → Go 187 [some (.ref (ad 83)), none, none, none, none, some (iv v5), some (iv v6), some (iv v7), none] [] m) : ∀ (n : Nat) (v5 : Int) (v6 : Int) (v7 : Int) (v8 : Int), inR v5 → inR v6 → inR v7 → inR v8 → L11_slipOf_139 m v3 k187 n v5 v6 v7 v8 = some out → Go 139 [some (.ref (ad 83)), none, none, some (iv v3), none, some (iv v5), some (iv v6), some (iv v7), some (iv v8)] [] m := by
  intro n
  induction n with
  | zero =>
    intro v5 v6 v7 v8 qv5 qv6 qv7 qv8 h
    cases h
  | succ n ih =>
    intro v5 v6 v7 v8 qv5 qv6 qv7 qv8 h
    rw [L11_slipOf_139] at h
    refine r_iload (pc := 139) hR (dc dt_X11_slipOf 75 rfl) rfl ?_
    refine r_iload_n (pc := 141) hR (dc dt_X11_slipOf 76 rfl) rfl ?_
    refine r_icmp_ge (pc := 142) (tgt := 187) hR (dc dt_X11_slipOf 77 rfl) (by decide) qv8 qv3 (fun hc => ?_) (fun hc => ?_)
    · replace h := ite_t hc h
      refine r_weak (L' := [some (.ref (ad 83)), none, none, none, none, some (iv v5), some (iv v6), some (iv v7), none]) hR ⟨Or.inr rfl, Or.inr rfl, Or.inr rfl, Or.inl rfl, Or.inr rfl, Or.inr rfl, Or.inr rfl, Or.inr rfl, Or.inl rfl, trivial⟩ ?_
      exact hk187 v5 v6 v7 qv5 qv6 qv7 h
    replace h := ite_f hc h
    refine r_aload_n (pc := 145) hR (dc dt_X11_slipOf 78 rfl) rfl ?_
    refine r_getr (pc := 146) (k2 := 112) hR (dc dt_X11_slipOf 79 rfl) fl_X11_96 tc_83 rfl ?_
    refine r_iload (pc := 149) hR (dc dt_X11_slipOf 80 rfl) rfl ?_
    obtain ⟨g1, h⟩ := gd_some h
    refine r_iald (pc := 151) hR (dc dt_X11_slipOf 81 rfl) tc_112 g1 qv8 ?_
    refine r_aload_n (pc := 152) hR (dc dt_X11_slipOf 82 rfl) rfl ?_
    refine r_getr (pc := 153) (k2 := 113) hR (dc dt_X11_slipOf 83 rfl) fl_X11_99 tc_83 rfl ?_
    refine r_iload (pc := 156) hR (dc dt_X11_slipOf 84 rfl) rfl ?_
    obtain ⟨g1, h⟩ := gd_some h
    refine r_iald (pc := 158) hR (dc dt_X11_slipOf 85 rfl) tc_113 g1 qv8 ?_
    refine jn_e h (fun (K : Int → Int → Int → Option (Int × Mem)) => ∀ (v5_181 : Int) (v6_181 : Int) (v7_181 : Int), inR v5_181 → inR v6_181 → inR v7_181 → K v5_181 v6_181 v7_181 = some out → Go 181 [some (.ref (ad 83)), none, none, some (iv v3), none, some (iv v5_181), some (iv v6_181), some (iv v7_181), some (iv v8)] [] m) (fun v5_181 v6_181 v7_181 qv5_181 qv6_181 qv7_181 h => ?_) (fun K181 J181 h => ?_)
    · refine r_iinc (pc := 181) (L' := [some (.ref (ad 83)), none, none, some (iv v3), none, some (iv v5_181), some (iv v6_181), some (iv v7_181), some (iv (w32 (v8 + 1)))]) hR (dc dt_X11_slipOf 95 rfl) rfl (by decide) rfl rfl ?_
      refine r_goto (pc := 184) (tgt := 139) hR (dc dt_X11_slipOf 96 rfl) (by decide) ?_
      exact ih v5_181 v6_181 v7_181 (w32 (v8 + 1)) qv5_181 qv6_181 qv7_181 (w32_in _) h
    refine r_icmp_ne (pc := 159) (tgt := 165) hR (dc dt_X11_slipOf 86 rfl) (by decide) (rd_in _ _ _) (rd_in _ _ _) (fun hc => ?_) (fun hc => ?_)
    · replace h := ite_t hc h
      refine r_iinc (pc := 165) (L' := [some (.ref (ad 83)), none, none, some (iv v3), none, some (iv (w32 (v5 + 1))), some (iv v6), some (iv v7), some (iv v8)]) hR (dc dt_X11_slipOf 88 rfl) rfl (by decide) rfl rfl ?_
      refine r_iload (pc := 168) hR (dc dt_X11_slipOf 89 rfl) rfl ?_
      refine jn_e h (fun (K : Int → Option (Int × Mem)) => ∀ (v6_177 : Int), inR v6_177 → K v6_177 = some out → Go 177 [some (.ref (ad 83)), none, none, some (iv v3), none, some (iv (w32 (v5 + 1))), some (iv v6_177), none, some (iv v8)] [] m) (fun v6_177 qv6_177 h => ?_) (fun K177 J177 h => ?_)
      · refine r_iload (pc := 177) hR (dc dt_X11_slipOf 93 rfl) rfl ?_
        refine r_istore (pc := 179) (L' := [some (.ref (ad 83)), none, none, some (iv v3), none, some (iv (w32 (v5 + 1))), some (iv v6_177), some (iv v8), some (iv v8)]) hR (dc dt_X11_slipOf 94 rfl) (by decide) rfl rfl ?_
        exact J181 (w32 (v5 + 1)) v6_177 v8 (w32_in _) qv6_177 qv8 h
      refine r_if_ge (pc := 170) (tgt := 177) hR (dc dt_X11_slipOf 90 rfl) (by decide) qv6 (fun hc => ?_) (fun hc => ?_)
      · replace h := ite_t hc h
        refine r_weak (L' := [some (.ref (ad 83)), none, none, some (iv v3), none, some (iv (w32 (v5 + 1))), some (iv v6), none, some (iv v8)]) hR ⟨Or.inr rfl, Or.inr rfl, Or.inr rfl, Or.inr rfl, Or.inr rfl, Or.inr rfl, Or.inr rfl, Or.inl rfl, Or.inr rfl, trivial⟩ ?_
        exact J177 v6 qv6 h
      replace h := ite_f hc h
      refine r_iload (pc := 173) hR (dc dt_X11_slipOf 91 rfl) rfl ?_
      refine r_istore (pc := 175) (L' := [some (.ref (ad 83)), none, none, some (iv v3), none, some (iv (w32 (v5 + 1))), some (iv v8), some (iv v7), some (iv v8)]) hR (dc dt_X11_slipOf 92 rfl) (by decide) rfl rfl ?_
      refine r_weak (L' := [some (.ref (ad 83)), none, none, some (iv v3), none, some (iv (w32 (v5 + 1))), some (iv v8), none, some (iv v8)]) hR ⟨Or.inr rfl, Or.inr rfl, Or.inr rfl, Or.inr rfl, Or.inr rfl, Or.inr rfl, Or.inr rfl, Or.inl rfl, Or.inr rfl, trivial⟩ ?_
      exact J177 v8 qv8 h
    replace h := ite_f hc h
    refine r_goto (pc := 162) (tgt := 181) hR (dc dt_X11_slipOf 87 rfl) (by decide) ?_
    exact J181 v5 v6 v7 qv5 qv6 qv7 h
set_option maxRecDepth 100000 in
set_option maxHeartbeats 4000000 in
theorem ok_F11_slipOf {m : Mem}  {v1 v2 : Int} (q1 : inR v1) (q2 : inR v2) {out : Int × Mem} (h : F11_slipOf m v1 v2 = some out) : CT l G cy ad tt yX11_slipOf cX11_slipOf 9 (some .int) 2 [.ref (ad 83), iv v1, iv v2] m (some (iv out.1)) (inR out.1) out.2 := by
  refine CT_of (by decide) (Nat.le_of_ble_eq_true rfl) (fun Go hR hT => ?_)
  replace hR : RS l G cy ad tt RX11 cX11_slipOf 9 2 Go := hR
  show Go 0 [some (.ref (ad 83)), some (iv v1), some (iv v2), none, none, none, none, none, none] [] m
  unfold F11_slipOf at h
  refine r_iload_n (pc := 0) hR (dc dt_X11_slipOf 0 rfl) rfl ?_
  refine r_iload_n (pc := 1) hR (dc dt_X11_slipOf 1 rfl) rfl ?_
  refine r_icmp_ne (pc := 2) (tgt := 7) hR (dc dt_X11_slipOf 2 rfl) (by decide) q1 q2 (fun hc => ?_) (fun hc => ?_)
  · replace h := ite_t hc h
    refine r_iload_n (pc := 7) hR (dc dt_X11_slipOf 5 rfl) rfl ?_
    refine r_aload_n (pc := 8) hR (dc dt_X11_slipOf 6 rfl) rfl ?_
    refine r_getr (pc := 9) (k2 := 112) hR (dc dt_X11_slipOf 7 rfl) fl_X11_96 tc_83 rfl ?_
    obtain ⟨r12, m12, e12, h⟩ := b2_some h
    refine r_callS (pc := 12) (rest := []) hR (dc dt_X11_slipOf 8 rfl) cl_X11_330 (ok_F11_digitsOf tc_112 q1 e12) (by decide) rfl (Nat.le_of_ble_eq_true rfl) rfl (fun q12r => ?_)
    show Go 15 [some (.ref (ad 83)), some (iv v1), some (iv v2), none, none, none, none, none, none] [iv r12] m12
    refine r_istore_n (pc := 15) (L' := [some (.ref (ad 83)), some (iv v1), some (iv v2), some (iv r12), none, none, none, none, none]) hR (dc dt_X11_slipOf 9 rfl) (by decide) rfl rfl ?_
    refine r_iload_n (pc := 16) hR (dc dt_X11_slipOf 10 rfl) rfl ?_
    refine r_aload_n (pc := 17) hR (dc dt_X11_slipOf 11 rfl) rfl ?_
    refine r_getr (pc := 18) (k2 := 113) hR (dc dt_X11_slipOf 12 rfl) fl_X11_99 tc_83 rfl ?_
    obtain ⟨r21, m21, e21, h⟩ := b2_some h
    refine r_callS (pc := 21) (rest := []) hR (dc dt_X11_slipOf 13 rfl) cl_X11_330 (ok_F11_digitsOf tc_113 q2 e21) (by decide) rfl (Nat.le_of_ble_eq_true rfl) rfl (fun q21r => ?_)
    show Go 24 [some (.ref (ad 83)), some (iv v1), some (iv v2), some (iv r12), none, none, none, none, none] [iv r21] m21
    refine r_istore (pc := 24) (L' := [some (.ref (ad 83)), some (iv v1), some (iv v2), some (iv r12), some (iv r21), none, none, none, none]) hR (dc dt_X11_slipOf 14 rfl) (by decide) rfl rfl ?_
    refine r_iconst (pc := 26) hR (dc dt_X11_slipOf 15 rfl) ?_
    refine r_istore (pc := 27) (L' := [some (.ref (ad 83)), some (iv v1), some (iv v2), some (iv r12), some (iv r21), some (iv 0), none, none, none]) hR (dc dt_X11_slipOf 16 rfl) (by decide) rfl rfl ?_
    refine r_weak (L' := [some (.ref (ad 83)), none, none, some (iv r12), some (iv r21), some (iv 0), none, none, none]) hR ⟨Or.inr rfl, Or.inl rfl, Or.inl rfl, Or.inr rfl, Or.inr rfl, Or.inr rfl, Or.inr rfl, Or.inr rfl, Or.inr rfl, trivial⟩ ?_
    refine lp_L11_slipOf_29 hR hT q12r q21r (fun h => ?_) FU 0 (rg_c rfl) h
    show Go 62 [some (.ref (ad 83)), none, none, some (iv r12), some (iv r21), none, none, none, none] [] m21
    refine r_iconst (pc := 62) hR (dc dt_X11_slipOf 33 rfl) ?_
    refine r_istore (pc := 63) (L' := [some (.ref (ad 83)), none, none, some (iv r12), some (iv r21), some (iv 1), none, none, none]) hR (dc dt_X11_slipOf 34 rfl) (by decide) rfl rfl ?_
    refine lp_L11_slipOf_65 hR hT q12r q21r (fun h => ?_) FU 1 (rg_c rfl) h
    show Go 118 [some (.ref (ad 83)), none, none, some (iv r12), some (iv r21), none, none, none, none] [] m21
    refine r_iload_n (pc := 118) hR (dc dt_X11_slipOf 62 rfl) rfl ?_
    refine r_iload (pc := 119) hR (dc dt_X11_slipOf 63 rfl) rfl ?_
    refine r_icmp_eq (pc := 121) (tgt := 127) hR (dc dt_X11_slipOf 64 rfl) (by decide) q12r q21r (fun hc => ?_) (fun hc => ?_)
    · replace h := ite_t hc h
      refine r_iconst (pc := 127) hR (dc dt_X11_slipOf 67 rfl) ?_
      refine r_istore (pc := 128) (L' := [some (.ref (ad 83)), none, none, some (iv r12), some (iv r21), some (iv 0), none, none, none]) hR (dc dt_X11_slipOf 68 rfl) (by decide) rfl rfl ?_
      refine r_iconst (pc := 130) hR (dc dt_X11_slipOf 69 rfl) ?_
      refine r_istore (pc := 131) (L' := [some (.ref (ad 83)), none, none, some (iv r12), some (iv r21), some (iv 0), some (iv (-1)), none, none]) hR (dc dt_X11_slipOf 70 rfl) (by decide) rfl rfl ?_
      refine r_iconst (pc := 133) hR (dc dt_X11_slipOf 71 rfl) ?_
      refine r_istore (pc := 134) (L' := [some (.ref (ad 83)), none, none, some (iv r12), some (iv r21), some (iv 0), some (iv (-1)), some (iv (-1)), none]) hR (dc dt_X11_slipOf 72 rfl) (by decide) rfl rfl ?_
      refine r_iconst (pc := 136) hR (dc dt_X11_slipOf 73 rfl) ?_
      refine r_istore (pc := 137) (L' := [some (.ref (ad 83)), none, none, some (iv r12), some (iv r21), some (iv 0), some (iv (-1)), some (iv (-1)), some (iv 0)]) hR (dc dt_X11_slipOf 74 rfl) (by decide) rfl rfl ?_
      refine r_weak (L' := [some (.ref (ad 83)), none, none, some (iv r12), none, some (iv 0), some (iv (-1)), some (iv (-1)), some (iv 0)]) hR ⟨Or.inr rfl, Or.inr rfl, Or.inr rfl, Or.inr rfl, Or.inl rfl, Or.inr rfl, Or.inr rfl, Or.inr rfl, Or.inr rfl, trivial⟩ ?_
      refine lp_L11_slipOf_139 hR hT q12r (fun v5_187 v6_187 v7_187 qv5_187 qv6_187 qv7_187 h => ?_) FU 0 (-1) (-1) 0 (rg_c rfl) (rg_c rfl) (rg_c rfl) (rg_c rfl) h
      show Go 187 [some (.ref (ad 83)), none, none, none, none, some (iv v5_187), some (iv v6_187), some (iv v7_187), none] [] m21
      refine r_iload (pc := 187) hR (dc dt_X11_slipOf 97 rfl) rfl ?_
      refine r_iconst (pc := 189) hR (dc dt_X11_slipOf 98 rfl) ?_
      refine jn_e h (fun (K : Option (Int × Mem)) => K = some out → Go 238 [some (.ref (ad 83)), none, none, none, none, some (iv v5_187), some (iv v6_187), none, none] [] m21) (fun h => ?_) (fun K238 J238 h => ?_)
      · refine r_iload (pc := 238) hR (dc dt_X11_slipOf 125 rfl) rfl ?_
        refine r_iconst (pc := 240) hR (dc dt_X11_slipOf 126 rfl) ?_
        refine jn_e h (fun (K : Option (Int × Mem)) => K = some out → Go 268 [none, none, none, none, none, none, none, none, none] [] m21) (fun h => ?_) (fun K268 J268 h => ?_)
        · refine r_bipush (pc := 268) hR (dc dt_X11_slipOf 140 rfl) (by decide) ?_
          exact r_iret hT (dc dt_X11_slipOf 141 rfl) (congrArg Prod.fst (Option.some.inj h)) (congrArg Prod.snd (Option.some.inj h)) (rg_c rfl)
        refine r_icmp_ne (pc := 241) (tgt := 268) hR (dc dt_X11_slipOf 127 rfl) (by decide) qv5_187 (rg_c rfl) (fun hc => ?_) (fun hc => ?_)
        · replace h := ite_t hc h
          refine r_weak (L' := [none, none, none, none, none, none, none, none, none]) hR ⟨Or.inl rfl, Or.inr rfl, Or.inr rfl, Or.inr rfl, Or.inr rfl, Or.inl rfl, Or.inl rfl, Or.inr rfl, Or.inr rfl, trivial⟩ ?_
          exact J268 h
        replace h := ite_f hc h
        refine r_aload_n (pc := 244) hR (dc dt_X11_slipOf 128 rfl) rfl ?_
        refine r_getr (pc := 245) (k2 := 112) hR (dc dt_X11_slipOf 129 rfl) fl_X11_96 tc_83 rfl ?_
        refine r_iload (pc := 248) hR (dc dt_X11_slipOf 130 rfl) rfl ?_
        obtain ⟨g1, h⟩ := gd_some h
        refine r_iald (pc := 250) hR (dc dt_X11_slipOf 131 rfl) tc_112 g1 qv6_187 ?_
        refine r_aload_n (pc := 251) hR (dc dt_X11_slipOf 132 rfl) rfl ?_
        refine r_getr (pc := 252) (k2 := 113) hR (dc dt_X11_slipOf 133 rfl) fl_X11_99 tc_83 rfl ?_
        refine r_iload (pc := 255) hR (dc dt_X11_slipOf 134 rfl) rfl ?_
        obtain ⟨g1, h⟩ := gd_some h
        refine r_iald (pc := 257) hR (dc dt_X11_slipOf 135 rfl) tc_113 g1 qv6_187 ?_
        refine r_callS (pc := 258) (rest := []) hR (dc dt_X11_slipOf 136 rfl) cl_X11_338 (ok_F11_looksLike (rd_in _ _ _) (rd_in _ _ _)) (by decide) rfl (Nat.le_of_ble_eq_true rfl) rfl (fun q258r => ?_)
        show Go 261 [some (.ref (ad 83)), none, none, none, none, some (iv v5_187), some (iv v6_187), none, none] [iv (F11_looksLike (rd m21 112 v6_187) (rd m21 113 v6_187))] m21
        refine r_if_eq (pc := 261) (tgt := 268) hR (dc dt_X11_slipOf 137 rfl) (by decide) (inZ_R q258r) (fun hc => ?_) (fun hc => ?_)
        · replace h := ite_t hc h
          refine r_weak (L' := [none, none, none, none, none, none, none, none, none]) hR ⟨Or.inl rfl, Or.inr rfl, Or.inr rfl, Or.inr rfl, Or.inr rfl, Or.inl rfl, Or.inl rfl, Or.inr rfl, Or.inr rfl, trivial⟩ ?_
          exact J268 h
        replace h := ite_f hc h
        refine r_iconst (pc := 264) hR (dc dt_X11_slipOf 138 rfl) ?_
        refine r_goto (pc := 265) (tgt := 270) hR (dc dt_X11_slipOf 139 rfl) (by decide) ?_
        exact r_iret hT (dc dt_X11_slipOf 141 rfl) (congrArg Prod.fst (Option.some.inj h)) (congrArg Prod.snd (Option.some.inj h)) (rg_c rfl)
      refine r_icmp_ne (pc := 190) (tgt := 238) hR (dc dt_X11_slipOf 99 rfl) (by decide) qv5_187 (rg_c rfl) (fun hc => ?_) (fun hc => ?_)
      · replace h := ite_t hc h
        refine r_weak (L' := [some (.ref (ad 83)), none, none, none, none, some (iv v5_187), some (iv v6_187), none, none]) hR ⟨Or.inr rfl, Or.inr rfl, Or.inr rfl, Or.inr rfl, Or.inr rfl, Or.inr rfl, Or.inr rfl, Or.inl rfl, Or.inr rfl, trivial⟩ ?_
        exact J238 h
      replace h := ite_f hc h
      refine r_iload (pc := 193) hR (dc dt_X11_slipOf 100 rfl) rfl ?_
      refine r_iload (pc := 195) hR (dc dt_X11_slipOf 101 rfl) rfl ?_
      refine r_iconst (pc := 197) hR (dc dt_X11_slipOf 102 rfl) ?_
      refine r_iadd (pc := 198) hR (dc dt_X11_slipOf 103 rfl) ?_
      refine r_icmp_ne (pc := 199) (tgt := 238) hR (dc dt_X11_slipOf 104 rfl) (by decide) qv7_187 (w32_in _) (fun hc => ?_) (fun hc => ?_)
      · replace h := ite_t hc h
        refine r_weak (L' := [some (.ref (ad 83)), none, none, none, none, some (iv v5_187), some (iv v6_187), none, none]) hR ⟨Or.inr rfl, Or.inr rfl, Or.inr rfl, Or.inr rfl, Or.inr rfl, Or.inr rfl, Or.inr rfl, Or.inl rfl, Or.inr rfl, trivial⟩ ?_
        exact J238 h
      replace h := ite_f hc h
      refine r_aload_n (pc := 202) hR (dc dt_X11_slipOf 105 rfl) rfl ?_
      refine r_getr (pc := 203) (k2 := 112) hR (dc dt_X11_slipOf 106 rfl) fl_X11_96 tc_83 rfl ?_
      refine r_iload (pc := 206) hR (dc dt_X11_slipOf 107 rfl) rfl ?_
      obtain ⟨g1, h⟩ := gd_some h
      refine r_iald (pc := 208) hR (dc dt_X11_slipOf 108 rfl) tc_112 g1 qv6_187 ?_
      refine r_aload_n (pc := 209) hR (dc dt_X11_slipOf 109 rfl) rfl ?_
      refine r_getr (pc := 210) (k2 := 113) hR (dc dt_X11_slipOf 110 rfl) fl_X11_99 tc_83 rfl ?_
      refine r_iload (pc := 213) hR (dc dt_X11_slipOf 111 rfl) rfl ?_
      obtain ⟨g1, h⟩ := gd_some h
      refine r_iald (pc := 215) hR (dc dt_X11_slipOf 112 rfl) tc_113 g1 qv7_187 ?_
      refine r_icmp_ne (pc := 216) (tgt := 238) hR (dc dt_X11_slipOf 113 rfl) (by decide) (rd_in _ _ _) (rd_in _ _ _) (fun hc => ?_) (fun hc => ?_)
      · replace h := ite_t hc h
        refine r_weak (L' := [some (.ref (ad 83)), none, none, none, none, some (iv v5_187), some (iv v6_187), none, none]) hR ⟨Or.inr rfl, Or.inr rfl, Or.inr rfl, Or.inr rfl, Or.inr rfl, Or.inr rfl, Or.inr rfl, Or.inl rfl, Or.inr rfl, trivial⟩ ?_
        exact J238 h
      replace h := ite_f hc h
      refine r_aload_n (pc := 219) hR (dc dt_X11_slipOf 114 rfl) rfl ?_
      refine r_getr (pc := 220) (k2 := 112) hR (dc dt_X11_slipOf 115 rfl) fl_X11_96 tc_83 rfl ?_
      refine r_iload (pc := 223) hR (dc dt_X11_slipOf 116 rfl) rfl ?_
      obtain ⟨g1, h⟩ := gd_some h
      refine r_iald (pc := 225) hR (dc dt_X11_slipOf 117 rfl) tc_112 g1 qv7_187 ?_
      refine r_aload_n (pc := 226) hR (dc dt_X11_slipOf 118 rfl) rfl ?_
      refine r_getr (pc := 227) (k2 := 113) hR (dc dt_X11_slipOf 119 rfl) fl_X11_99 tc_83 rfl ?_
      refine r_iload (pc := 230) hR (dc dt_X11_slipOf 120 rfl) rfl ?_
      obtain ⟨g1, h⟩ := gd_some h
      refine r_iald (pc := 232) hR (dc dt_X11_slipOf 121 rfl) tc_113 g1 qv6_187 ?_
      refine r_icmp_ne (pc := 233) (tgt := 238) hR (dc dt_X11_slipOf 122 rfl) (by decide) (rd_in _ _ _) (rd_in _ _ _) (fun hc => ?_) (fun hc => ?_)
      · replace h := ite_t hc h
        refine r_weak (L' := [some (.ref (ad 83)), none, none, none, none, some (iv v5_187), some (iv v6_187), none, none]) hR ⟨Or.inr rfl, Or.inr rfl, Or.inr rfl, Or.inr rfl, Or.inr rfl, Or.inr rfl, Or.inr rfl, Or.inl rfl, Or.inr rfl, trivial⟩ ?_
        exact J238 h
      replace h := ite_f hc h
      refine r_iconst (pc := 236) hR (dc dt_X11_slipOf 123 rfl) ?_
      exact r_iret hT (dc dt_X11_slipOf 124 rfl) (congrArg Prod.fst (Option.some.inj h)) (congrArg Prod.snd (Option.some.inj h)) (rg_c rfl)
    replace h := ite_f hc h
    refine r_bipush (pc := 124) hR (dc dt_X11_slipOf 65 rfl) (by decide) ?_
    exact r_iret hT (dc dt_X11_slipOf 66 rfl) (congrArg Prod.fst (Option.some.inj h)) (congrArg Prod.snd (Option.some.inj h)) (rg_c rfl)
  replace h := ite_f hc h
  refine r_iconst (pc := 5) hR (dc dt_X11_slipOf 3 rfl) ?_
  exact r_iret hT (dc dt_X11_slipOf 4 rfl) (congrArg Prod.fst (Option.some.inj h)) (congrArg Prod.snd (Option.some.inj h)) (rg_c rfl)
def tb_X11_isNumber : List (Nat × (Instr × Nat)) := [(0, (.iload_n 0, 1)), (1, (.iconst 1, 1)), (2, (.ldc_w 341, 3)), (5, (.invokestatic 134, 3)), (8, (.ireturn, 1))]
set_option maxRecDepth 100000 in
theorem dt_X11_isNumber : (tb_X11_isNumber.all fun q => decide (decode cX11_isNumber q.1 = .ok q.2)) = true := by decide +kernel
set_option maxRecDepth 100000 in
set_option maxHeartbeats 4000000 in
theorem ok_F11_isNumber {m : Mem}  {v0 : Int} (q0 : inR v0) : CT l G cy ad tt yX11_isNumber cX11_isNumber 1 (some .boolean) 1 [iv v0] m (some (iv (F11_isNumber v0))) (inZ (F11_isNumber v0)) m := by
  refine CT_of (by decide) (Nat.le_of_ble_eq_true rfl) (fun Go hR hT => ?_)
  replace hR : RS l G cy ad tt RX11 cX11_isNumber 1 1 Go := hR
  show Go 0 [some (iv v0)] [] m
  obtain ⟨out, h⟩ : ∃ out, F11_isNumber v0 = out := ⟨_, rfl⟩
  rw [h] at hT
  unfold F11_isNumber at h
  refine r_iload_n (pc := 0) hR (dc dt_X11_isNumber 0 rfl) rfl ?_
  refine r_iconst (pc := 1) hR (dc dt_X11_isNumber 1 rfl) ?_
  refine r_ldcw (pc := 2) hR (dc dt_X11_isNumber 2 rfl) kw_X11_341 ?_
  refine r_callS (pc := 5) (rest := []) hR (dc dt_X11_isNumber 3 rfl) cl_X11_134 (ok_F11_in q0 (rg_c rfl) (rg_c rfl)) (by decide) rfl (Nat.le_of_ble_eq_true rfl) rfl (fun q5r => ?_)
  show Go 8 [some (iv v0)] [iv (F11_in v0 1 99999)] m
  exact r_zret hT (dc dt_X11_isNumber 4 rfl) h rfl q5r
def tb_X11_slip : List (Nat × (Instr × Nat)) := [(0, (.iload_n 1, 1)), (1, (.invokestatic 342, 3)), (4, (.ifCond .eq 19, 3)), (7, (.iload_n 2, 1)), (8, (.invokestatic 342, 3)), (11, (.ifCond .eq 12, 3)), (14, (.aload_n 0, 1)), (15, (.iload_n 1, 1)), (16, (.iload_n 2, 1)), (17, (.invokevirtual 345, 3)), (20, (.goto 4, 3)), (23, (.iconst (-1), 1)), (24, (.ireturn, 1))]
set_option maxRecDepth 100000 in
theorem dt_X11_slip : (tb_X11_slip.all fun q => decide (decode cX11_slip q.1 = .ok q.2)) = true := by decide +kernel
set_option maxRecDepth 100000 in
set_option maxHeartbeats 4000000 in
theorem ok_F11_slip {m : Mem}  {v1 v2 : Int} (q1 : inR v1) (q2 : inR v2) {out : Int × Mem} (h : F11_slip m v1 v2 = some out) : CT l G cy ad tt yX11_slip cX11_slip 3 (some .int) 3 [.ref (ad 83), iv v1, iv v2] m (some (iv out.1)) (inR out.1) out.2 := by
  refine CT_of (by decide) (Nat.le_of_ble_eq_true rfl) (fun Go hR hT => ?_)
  replace hR : RS l G cy ad tt RX11 cX11_slip 3 3 Go := hR
  show Go 0 [some (.ref (ad 83)), some (iv v1), some (iv v2)] [] m
  unfold F11_slip at h
  refine r_iload_n (pc := 0) hR (dc dt_X11_slip 0 rfl) rfl ?_
  refine r_callS (pc := 1) (rest := []) hR (dc dt_X11_slip 1 rfl) cl_X11_342 (ok_F11_isNumber q1) (by decide) rfl (Nat.le_of_ble_eq_true rfl) rfl (fun q1r => ?_)
  show Go 4 [some (.ref (ad 83)), some (iv v1), some (iv v2)] [iv (F11_isNumber v1)] m
  refine jn_e h (fun (K : Option (Int × Mem)) => K = some out → Go 23 [none, none, none] [] m) (fun h => ?_) (fun K23 J23 h => ?_)
  · refine r_iconst (pc := 23) hR (dc dt_X11_slip 11 rfl) ?_
    exact r_iret hT (dc dt_X11_slip 12 rfl) (congrArg Prod.fst (Option.some.inj h)) (congrArg Prod.snd (Option.some.inj h)) (rg_c rfl)
  refine r_if_eq (pc := 4) (tgt := 23) hR (dc dt_X11_slip 2 rfl) (by decide) (inZ_R q1r) (fun hc => ?_) (fun hc => ?_)
  · replace h := ite_t hc h
    refine r_weak (L' := [none, none, none]) hR ⟨Or.inl rfl, Or.inl rfl, Or.inl rfl, trivial⟩ ?_
    exact J23 h
  replace h := ite_f hc h
  refine r_iload_n (pc := 7) hR (dc dt_X11_slip 3 rfl) rfl ?_
  refine r_callS (pc := 8) (rest := []) hR (dc dt_X11_slip 4 rfl) cl_X11_342 (ok_F11_isNumber q2) (by decide) rfl (Nat.le_of_ble_eq_true rfl) rfl (fun q8r => ?_)
  show Go 11 [some (.ref (ad 83)), some (iv v1), some (iv v2)] [iv (F11_isNumber v2)] m
  refine r_if_eq (pc := 11) (tgt := 23) hR (dc dt_X11_slip 5 rfl) (by decide) (inZ_R q8r) (fun hc => ?_) (fun hc => ?_)
  · replace h := ite_t hc h
    refine r_weak (L' := [none, none, none]) hR ⟨Or.inl rfl, Or.inl rfl, Or.inl rfl, trivial⟩ ?_
    exact J23 h
  replace h := ite_f hc h
  refine r_aload_n (pc := 14) hR (dc dt_X11_slip 6 rfl) rfl ?_
  refine r_iload_n (pc := 15) hR (dc dt_X11_slip 7 rfl) rfl ?_
  refine r_iload_n (pc := 16) hR (dc dt_X11_slip 8 rfl) rfl ?_
  obtain ⟨r17, m17, e17, h⟩ := b2_some h
  refine r_callV (pc := 17) (rest := []) hR (dc dt_X11_slip 9 rfl) cl_X11_345 tc_83 rfl (ok_F11_slipOf q1 q2 e17) (by decide) rfl (Nat.le_of_ble_eq_true rfl) rfl (fun q17r => ?_)
  show Go 20 [some (.ref (ad 83)), some (iv v1), some (iv v2)] [iv r17] m17
  refine r_goto (pc := 20) (tgt := 24) hR (dc dt_X11_slip 10 rfl) (by decide) ?_
  exact r_iret hT (dc dt_X11_slip 12 rfl) (congrArg Prod.fst (Option.some.inj h)) (congrArg Prod.snd (Option.some.inj h)) q17r
def tb_X11_numberAt : List (Nat × (Instr × Nat)) := [(0, (.aload_n 0, 1)), (1, (.getfield 105, 3)), (4, (.iload_n 1, 1)), (5, (.iaload, 1)), (6, (.istore_n 2, 1)), (7, (.iload_n 2, 1)), (8, (.ifCond .eq 20, 3)), (11, (.iload_n 2, 1)), (12, (.iconst 5, 1)), (13, (.if_icmp .gt 15, 3)), (16, (.aload_n 0, 1)), (17, (.getfield 102, 3)), (20, (.bipush 6, 2)), (22, (.iload_n 1, 1)), (23, (.imul, 1)), (24, (.iaload, 1)), (25, (.ifCond .ne 5, 3)), (28, (.iconst (-1), 1)), (29, (.ireturn, 1)), (30, (.iconst 0, 1)), (31, (.istore_n 3, 1)), (32, (.iconst 0, 1)), (33, (.istore 4, 2)), (35, (.iload 4, 2)), (37, (.iload_n 2, 1)), (38, (.if_icmp .ge 27, 3)), (41, (.bipush 10, 2)), (43, (.iload_n 3, 1)), (44, (.imul, 1)), (45, (.aload_n 0, 1)), (46, (.getfield 102, 3)), (49, (.bipush 6, 2)), (51, (.iload_n 1, 1)), (52, (.imul, 1)), (53, (.iload 4, 2)), (55, (.iadd, 1)), (56, (.iaload, 1)), (57, (.iadd, 1)), (58, (.istore_n 3, 1)), (59, (.iinc 4 1, 3)), (62, (.goto (-27), 3)), (65, (.iload_n 3, 1)), (66, (.ireturn, 1))]
set_option maxRecDepth 100000 in
theorem dt_X11_numberAt : (tb_X11_numberAt.all fun q => decide (decode cX11_numberAt q.1 = .ok q.2)) = true := by decide +kernel
set_option maxRecDepth 100000 in
set_option maxHeartbeats 4000000 in
theorem lp_L11_numberAt_35 {Go : Nat → List (Option Value) → List Value → Mem → Prop} (hR : RS l G cy ad tt RX11 cX11_numberAt 5 0 Go) {out : Int} {m : Mem} (hT : RT cX11_numberAt (some (iv out)) (inR out) m (some .int) Go) {v1 : Int} {v2 : Int} (qv1 : inR v1) (qv2 : inR v2) : ∀ (n : Nat) (v3 : Int) (v4 : Int), inR v3 → inR v4 → L11_numberAt_35 m v1 v2 n v3 v4 = some out → Go 35 [some (.ref (ad 83)), some (iv v1), some (iv v2), some (iv v3), some (iv v4)] [] m := by
  intro n
  induction n with
  | zero =>
    intro v3 v4 qv3 qv4 h
    cases h
  | succ n ih =>
    intro v3 v4 qv3 qv4 h
    rw [L11_numberAt_35] at h
    refine r_iload (pc := 35) hR (dc dt_X11_numberAt 23 rfl) rfl ?_
    refine r_iload_n (pc := 37) hR (dc dt_X11_numberAt 24 rfl) rfl ?_
    refine r_icmp_ge (pc := 38) (tgt := 65) hR (dc dt_X11_numberAt 25 rfl) (by decide) qv4 qv2 (fun hc => ?_) (fun hc => ?_)
    · replace h := ite_t hc h
      refine r_iload_n (pc := 65) hR (dc dt_X11_numberAt 41 rfl) rfl ?_
      exact r_iret hT (dc dt_X11_numberAt 42 rfl) (Option.some.inj h) rfl qv3
    replace h := ite_f hc h
    refine r_bipush (pc := 41) hR (dc dt_X11_numberAt 26 rfl) (by decide) ?_
    refine r_iload_n (pc := 43) hR (dc dt_X11_numberAt 27 rfl) rfl ?_
    refine r_imul (pc := 44) hR (dc dt_X11_numberAt 28 rfl) ?_
    refine r_aload_n (pc := 45) hR (dc dt_X11_numberAt 29 rfl) rfl ?_
    refine r_getr (pc := 46) (k2 := 114) hR (dc dt_X11_numberAt 30 rfl) fl_X11_102 tc_83 rfl ?_
    refine r_bipush (pc := 49) hR (dc dt_X11_numberAt 31 rfl) (by decide) ?_
    refine r_iload_n (pc := 51) hR (dc dt_X11_numberAt 32 rfl) rfl ?_
    refine r_imul (pc := 52) hR (dc dt_X11_numberAt 33 rfl) ?_
    refine r_iload (pc := 53) hR (dc dt_X11_numberAt 34 rfl) rfl ?_
    refine r_iadd (pc := 55) hR (dc dt_X11_numberAt 35 rfl) ?_
    obtain ⟨g1, h⟩ := gd_some h
    refine r_iald (pc := 56) hR (dc dt_X11_numberAt 36 rfl) tc_114 g1 (w32_in _) ?_
    refine r_iadd (pc := 57) hR (dc dt_X11_numberAt 37 rfl) ?_
    refine r_istore_n (pc := 58) (L' := [some (.ref (ad 83)), some (iv v1), some (iv v2), some (iv (w32 ((w32 (10 * v3)) + (rd m 114 (w32 ((w32 (6 * v1)) + v4)))))), some (iv v4)]) hR (dc dt_X11_numberAt 38 rfl) (by decide) rfl rfl ?_
    refine r_iinc (pc := 59) (L' := [some (.ref (ad 83)), some (iv v1), some (iv v2), some (iv (w32 ((w32 (10 * v3)) + (rd m 114 (w32 ((w32 (6 * v1)) + v4)))))), some (iv (w32 (v4 + 1)))]) hR (dc dt_X11_numberAt 39 rfl) rfl (by decide) rfl rfl ?_
    refine r_goto (pc := 62) (tgt := 35) hR (dc dt_X11_numberAt 40 rfl) (by decide) ?_
    exact ih (w32 ((w32 (10 * v3)) + (rd m 114 (w32 ((w32 (6 * v1)) + v4))))) (w32 (v4 + 1)) (w32_in _) (w32_in _) h
set_option maxRecDepth 100000 in
set_option maxHeartbeats 4000000 in
theorem ok_F11_numberAt {m : Mem}  {v1 : Int} (q1 : inR v1) {out : Int} (h : F11_numberAt m v1 = some out) : CT l G cy ad tt yX11_numberAt cX11_numberAt 5 (some .int) 0 [.ref (ad 83), iv v1] m (some (iv out)) (inR out) m := by
  refine CT_of (by decide) (Nat.le_of_ble_eq_true rfl) (fun Go hR hT => ?_)
  replace hR : RS l G cy ad tt RX11 cX11_numberAt 5 0 Go := hR
  show Go 0 [some (.ref (ad 83)), some (iv v1), none, none, none] [] m
  unfold F11_numberAt at h
  refine r_aload_n (pc := 0) hR (dc dt_X11_numberAt 0 rfl) rfl ?_
  refine r_getr (pc := 1) (k2 := 115) hR (dc dt_X11_numberAt 1 rfl) fl_X11_105 tc_83 rfl ?_
  refine r_iload_n (pc := 4) hR (dc dt_X11_numberAt 2 rfl) rfl ?_
  obtain ⟨g1, h⟩ := gd_some h
  refine r_iald (pc := 5) hR (dc dt_X11_numberAt 3 rfl) tc_115 g1 q1 ?_
  refine r_istore_n (pc := 6) (L' := [some (.ref (ad 83)), some (iv v1), some (iv (rd m 115 v1)), none, none]) hR (dc dt_X11_numberAt 4 rfl) (by decide) rfl rfl ?_
  refine r_iload_n (pc := 7) hR (dc dt_X11_numberAt 5 rfl) rfl ?_
  refine r_if_eq (pc := 8) (tgt := 28) hR (dc dt_X11_numberAt 6 rfl) (by decide) (rd_in _ _ _) (fun hc => ?_) (fun hc => ?_)
  · replace h := ite_t hc h
    refine r_iconst (pc := 28) hR (dc dt_X11_numberAt 17 rfl) ?_
    exact r_iret hT (dc dt_X11_numberAt 18 rfl) (Option.some.inj h) rfl (rg_c rfl)
  replace h := ite_f hc h
  refine r_iload_n (pc := 11) hR (dc dt_X11_numberAt 7 rfl) rfl ?_
  refine r_iconst (pc := 12) hR (dc dt_X11_numberAt 8 rfl) ?_
  refine r_icmp_gt (pc := 13) (tgt := 28) hR (dc dt_X11_numberAt 9 rfl) (by decide) (rd_in _ _ _) (rg_c rfl) (fun hc => ?_) (fun hc => ?_)
  · replace h := ite_t hc h
    refine r_iconst (pc := 28) hR (dc dt_X11_numberAt 17 rfl) ?_
    exact r_iret hT (dc dt_X11_numberAt 18 rfl) (Option.some.inj h) rfl (rg_c rfl)
  replace h := ite_f hc h
  refine r_aload_n (pc := 16) hR (dc dt_X11_numberAt 10 rfl) rfl ?_
  refine r_getr (pc := 17) (k2 := 114) hR (dc dt_X11_numberAt 11 rfl) fl_X11_102 tc_83 rfl ?_
  refine r_bipush (pc := 20) hR (dc dt_X11_numberAt 12 rfl) (by decide) ?_
  refine r_iload_n (pc := 22) hR (dc dt_X11_numberAt 13 rfl) rfl ?_
  refine r_imul (pc := 23) hR (dc dt_X11_numberAt 14 rfl) ?_
  obtain ⟨g1, h⟩ := gd_some h
  refine r_iald (pc := 24) hR (dc dt_X11_numberAt 15 rfl) tc_114 g1 (w32_in _) ?_
  refine r_if_ne (pc := 25) (tgt := 30) hR (dc dt_X11_numberAt 16 rfl) (by decide) (rd_in _ _ _) (fun hc => ?_) (fun hc => ?_)
  · replace h := ite_t hc h
    refine r_iconst (pc := 30) hR (dc dt_X11_numberAt 19 rfl) ?_
    refine r_istore_n (pc := 31) (L' := [some (.ref (ad 83)), some (iv v1), some (iv (rd m 115 v1)), some (iv 0), none]) hR (dc dt_X11_numberAt 20 rfl) (by decide) rfl rfl ?_
    refine r_iconst (pc := 32) hR (dc dt_X11_numberAt 21 rfl) ?_
    refine r_istore (pc := 33) (L' := [some (.ref (ad 83)), some (iv v1), some (iv (rd m 115 v1)), some (iv 0), some (iv 0)]) hR (dc dt_X11_numberAt 22 rfl) (by decide) rfl rfl ?_
    refine lp_L11_numberAt_35 hR hT q1 (rd_in _ _ _) FU 0 0 (rg_c rfl) (rg_c rfl) h
  replace h := ite_f hc h
  refine r_iconst (pc := 28) hR (dc dt_X11_numberAt 17 rfl) ?_
  exact r_iret hT (dc dt_X11_numberAt 18 rfl) (Option.some.inj h) rfl (rg_c rfl)
def tb_X11_copyRow : List (Nat × (Instr × Nat)) := [(0, (.aload_n 0, 1)), (1, (.getfield 105, 3)), (4, (.iload_n 1, 1)), (5, (.iconst 1, 1)), (6, (.iadd, 1)), (7, (.aload_n 0, 1)), (8, (.getfield 105, 3)), (11, (.iload_n 1, 1)), (12, (.iaload, 1)), (13, (.iastore, 1)), (14, (.iconst 0, 1)), (15, (.istore_n 2, 1)), (16, (.iload_n 2, 1)), (17, (.bipush 6, 2)), (19, (.if_icmp .ge 34, 3)), (22, (.aload_n 0, 1)), (23, (.getfield 102, 3)), (26, (.bipush 6, 2)), (28, (.iload_n 1, 1)), (29, (.imul, 1)), (30, (.bipush 6, 2)), (32, (.iadd, 1)), (33, (.iload_n 2, 1)), (34, (.iadd, 1)), (35, (.aload_n 0, 1)), (36, (.getfield 102, 3)), (39, (.bipush 6, 2)), (41, (.iload_n 1, 1)), (42, (.imul, 1)), (43, (.iload_n 2, 1)), (44, (.iadd, 1)), (45, (.iaload, 1)), (46, (.iastore, 1)), (47, (.iinc 2 1, 3)), (50, (.goto (-34), 3)), (53, (.return_, 1))]
set_option maxRecDepth 100000 in
theorem dt_X11_copyRow : (tb_X11_copyRow.all fun q => decide (decode cX11_copyRow q.1 = .ok q.2)) = true := by decide +kernel
set_option maxRecDepth 100000 in
set_option maxHeartbeats 4000000 in
theorem lp_L11_copyRow_16 {Go : Nat → List (Option Value) → List Value → Mem → Prop} (hR : RS l G cy ad tt RX11 cX11_copyRow 3 0 Go) {out : Mem} (hT : RT cX11_copyRow none True out none Go) {v1 : Int} (qv1 : inR v1) : ∀ (n : Nat) (v2 : Int) (m : Mem), inR v2 → L11_copyRow_16 v1 n v2 m = some out → Go 16 [some (.ref (ad 83)), some (iv v1), some (iv v2)] [] m := by
  intro n
  induction n with
  | zero =>
    intro v2 m qv2 h
    cases h
  | succ n ih =>
    intro v2 m qv2 h
    rw [L11_copyRow_16] at h
    refine r_iload_n (pc := 16) hR (dc dt_X11_copyRow 12 rfl) rfl ?_
    refine r_bipush (pc := 17) hR (dc dt_X11_copyRow 13 rfl) (by decide) ?_
    refine r_icmp_ge (pc := 19) (tgt := 53) hR (dc dt_X11_copyRow 14 rfl) (by decide) qv2 (rg_c rfl) (fun hc => ?_) (fun hc => ?_)
    · replace h := ite_t hc h
      exact r_vret hT (dc dt_X11_copyRow 35 rfl) (Option.some.inj h)
    replace h := ite_f hc h
    refine r_aload_n (pc := 22) hR (dc dt_X11_copyRow 15 rfl) rfl ?_
    refine r_getr (pc := 23) (k2 := 114) hR (dc dt_X11_copyRow 16 rfl) fl_X11_102 tc_83 rfl ?_
    refine r_bipush (pc := 26) hR (dc dt_X11_copyRow 17 rfl) (by decide) ?_
    refine r_iload_n (pc := 28) hR (dc dt_X11_copyRow 18 rfl) rfl ?_
    refine r_imul (pc := 29) hR (dc dt_X11_copyRow 19 rfl) ?_
    refine r_bipush (pc := 30) hR (dc dt_X11_copyRow 20 rfl) (by decide) ?_
    refine r_iadd (pc := 32) hR (dc dt_X11_copyRow 21 rfl) ?_
    refine r_iload_n (pc := 33) hR (dc dt_X11_copyRow 22 rfl) rfl ?_
    refine r_iadd (pc := 34) hR (dc dt_X11_copyRow 23 rfl) ?_
    refine r_aload_n (pc := 35) hR (dc dt_X11_copyRow 24 rfl) rfl ?_
    refine r_getr (pc := 36) (k2 := 114) hR (dc dt_X11_copyRow 25 rfl) fl_X11_102 tc_83 rfl ?_
    refine r_bipush (pc := 39) hR (dc dt_X11_copyRow 26 rfl) (by decide) ?_
    refine r_iload_n (pc := 41) hR (dc dt_X11_copyRow 27 rfl) rfl ?_
    refine r_imul (pc := 42) hR (dc dt_X11_copyRow 28 rfl) ?_
    refine r_iload_n (pc := 43) hR (dc dt_X11_copyRow 29 rfl) rfl ?_
    refine r_iadd (pc := 44) hR (dc dt_X11_copyRow 30 rfl) ?_
    obtain ⟨g1, h⟩ := gd_some h
    refine r_iald (pc := 45) hR (dc dt_X11_copyRow 31 rfl) tc_114 g1 (w32_in _) ?_
    obtain ⟨g1, h⟩ := gd_some h
    refine r_iast (pc := 46) hR (dc dt_X11_copyRow 32 rfl) tc_114 g1 (w32_in _) ?_
    replace h := stw_e h
    generalize wr m 114 (w32 ((w32 ((w32 (6 * v1)) + 6)) + v2)) (rd m 114 (w32 ((w32 (6 * v1)) + v2))) = m46 at h ⊢
    refine r_iinc (pc := 47) (L' := [some (.ref (ad 83)), some (iv v1), some (iv (w32 (v2 + 1)))]) hR (dc dt_X11_copyRow 33 rfl) rfl (by decide) rfl rfl ?_
    refine r_goto (pc := 50) (tgt := 16) hR (dc dt_X11_copyRow 34 rfl) (by decide) ?_
    exact ih (w32 (v2 + 1)) m46 (w32_in _) h
set_option maxRecDepth 100000 in
set_option maxHeartbeats 4000000 in
theorem ok_F11_copyRow {m : Mem}  {v1 : Int} (q1 : inR v1) {out : Mem} (h : F11_copyRow m v1 = some out) : CT l G cy ad tt yX11_copyRow cX11_copyRow 3 none 0 [.ref (ad 83), iv v1] m none True out := by
  refine CT_of (by decide) (Nat.le_of_ble_eq_true rfl) (fun Go hR hT => ?_)
  replace hR : RS l G cy ad tt RX11 cX11_copyRow 3 0 Go := hR
  show Go 0 [some (.ref (ad 83)), some (iv v1), none] [] m
  unfold F11_copyRow at h
  refine r_aload_n (pc := 0) hR (dc dt_X11_copyRow 0 rfl) rfl ?_
  refine r_getr (pc := 1) (k2 := 115) hR (dc dt_X11_copyRow 1 rfl) fl_X11_105 tc_83 rfl ?_
  refine r_iload_n (pc := 4) hR (dc dt_X11_copyRow 2 rfl) rfl ?_
  refine r_iconst (pc := 5) hR (dc dt_X11_copyRow 3 rfl) ?_
  refine r_iadd (pc := 6) hR (dc dt_X11_copyRow 4 rfl) ?_
  refine r_aload_n (pc := 7) hR (dc dt_X11_copyRow 5 rfl) rfl ?_
  refine r_getr (pc := 8) (k2 := 115) hR (dc dt_X11_copyRow 6 rfl) fl_X11_105 tc_83 rfl ?_
  refine r_iload_n (pc := 11) hR (dc dt_X11_copyRow 7 rfl) rfl ?_
  obtain ⟨g1, h⟩ := gd_some h
  refine r_iald (pc := 12) hR (dc dt_X11_copyRow 8 rfl) tc_115 g1 q1 ?_
  obtain ⟨g1, h⟩ := gd_some h
  refine r_iast (pc := 13) hR (dc dt_X11_copyRow 9 rfl) tc_115 g1 (w32_in _) ?_
  replace h := stw_e h
  generalize wr m 115 (w32 (v1 + 1)) (rd m 115 v1) = m13 at h ⊢
  refine r_iconst (pc := 14) hR (dc dt_X11_copyRow 10 rfl) ?_
  refine r_istore_n (pc := 15) (L' := [some (.ref (ad 83)), some (iv v1), some (iv 0)]) hR (dc dt_X11_copyRow 11 rfl) (by decide) rfl rfl ?_
  refine lp_L11_copyRow_16 hR hT q1 FU 0 m13 (rg_c rfl) h
def tb_X11_reaches : List (Nat × (Instr × Nat)) := [(0, (.aload_n 0, 1)), (1, (.iload_n 1, 1)), (2, (.invokevirtual 348, 3)), (5, (.istore 4, 2)), (7, (.iload 4, 2)), (9, (.ifCond .ge 5, 3)), (12, (.iconst 0, 1)), (13, (.ireturn, 1)), (14, (.iload_n 2, 1)), (15, (.ifCond .ne 15, 3)), (18, (.iload 4, 2)), (20, (.iload_n 3, 1)), (21, (.if_icmp .ne 7, 3)), (24, (.iconst 1, 1)), (25, (.goto 4, 3)), (28, (.iconst 0, 1)), (29, (.ireturn, 1)), (30, (.aload_n 0, 1)), (31, (.getfield 105, 3)), (34, (.iload_n 1, 1)), (35, (.iaload, 1)), (36, (.istore 5, 2)), (38, (.bipush 6, 2)), (40, (.iload_n 1, 1)), (41, (.imul, 1)), (42, (.bipush 6, 2)), (44, (.iadd, 1)), (45, (.istore 6, 2)), (47, (.iconst 0, 1)), (48, (.istore 7, 2)), (50, (.iload 7, 2)), (52, (.iload 5, 2)), (54, (.if_icmp .ge 311, 3)), (57, (.aload_n 0, 1)), (58, (.iload_n 1, 1)), (59, (.invokevirtual 351, 3)), (62, (.iload 7, 2)), (64, (.istore 8, 2)), (66, (.iload 8, 2)), (68, (.iconst 1, 1)), (69, (.iadd, 1)), (70, (.iload 5, 2)), (72, (.if_icmp .ge 31, 3)), (75, (.aload_n 0, 1)), (76, (.getfield 102, 3)), (79, (.iload 6, 2)), (81, (.iload 8, 2)), (83, (.iadd, 1)), (84, (.aload_n 0, 1)), (85, (.getfield 102, 3)), (88, (.iload 6, 2)), (90, (.iload 8, 2)), (92, (.iadd, 1)), (93, (.iconst 1, 1)), (94, (.iadd, 1)), (95, (.iaload, 1)), (96, (.iastore, 1)), (97, (.iinc 8 1, 3)), (100, (.goto (-34), 3)), (103, (.aload_n 0, 1)), (104, (.getfield 105, 3)), (107, (.iload_n 1, 1)), (108, (.iconst 1, 1)), (109, (.iadd, 1)), (110, (.iload 5, 2)), (112, (.iconst 1, 1)), (113, (.isub, 1)), (114, (.iastore, 1)), (115, (.aload_n 0, 1)), (116, (.iload_n 1, 1)), (117, (.iconst 1, 1)), (118, (.iadd, 1)), (119, (.iload_n 2, 1)), (120, (.iconst 1, 1)), (121, (.isub, 1)), (122, (.iload_n 3, 1)), (123, (.invokevirtual 354, 3)), (126, (.ifCond .eq 5, 3)), (129, (.iconst 1, 1)), (130, (.ireturn, 1)), (131, (.aload_n 0, 1)), (132, (.iload_n 1, 1)), (133, (.invokevirtual 351, 3)), (136, (.iload 5, 2)), (138, (.istore 8, 2)), (140, (.iload 8, 2)), (142, (.iload 7, 2)), (144, (.if_icmp .le 31, 3)), (147, (.aload_n 0, 1)), (148, (.getfield 102, 3)), (151, (.iload 6, 2)), (153, (.iload 8, 2)), (155, (.iadd, 1)), (156, (.aload_n 0, 1)), (157, (.getfield 102, 3)), (160, (.iload 6, 2)), (162, (.iload 8, 2)), (164, (.iadd, 1)), (165, (.iconst 1, 1)), (166, (.isub, 1)), (167, (.iaload, 1)), (168, (.iastore, 1)), (169, (.iinc 8 (-1), 3)), (172, (.goto (-32), 3)), (175, (.aload_n 0, 1)), (176, (.getfield 105, 3)), (179, (.iload_n 1, 1)), (180, (.iconst 1, 1)), (181, (.iadd, 1)), (182, (.iload 5, 2)), (184, (.iconst 1, 1)), (185, (.iadd, 1)), (186, (.iastore, 1)), (187, (.iload 5, 2)), (189, (.iconst 5, 1)), (190, (.if_icmp .ge 19, 3)), (193, (.aload_n 0, 1)), (194, (.iload_n 1, 1)), (195, (.iconst 1, 1)), (196, (.iadd, 1)), (197, (.iload_n 2, 1)), (198, (.iconst 1, 1)), (199, (.isub, 1)), (200, (.iload_n 3, 1)), (201, (.invokevirtual 354, 3)), (204, (.ifCond .eq 5, 3)), (207, (.iconst 1, 1)), (208, (.ireturn, 1)), (209, (.aload_n 0, 1)), (210, (.iload_n 1, 1)), (211, (.invokevirtual 351, 3)), (214, (.iload 7, 2)), (216, (.iconst 1, 1)), (217, (.iadd, 1)), (218, (.iload 5, 2)), (220, (.if_icmp .ge 67, 3)), (223, (.aload_n 0, 1)), (224, (.getfield 102, 3)), (227, (.iload 6, 2)), (229, (.iload 7, 2)), (231, (.iadd, 1)), (232, (.aload_n 0, 1)), (233, (.getfield 102, 3)), (236, (.bipush 6, 2)), (238, (.iload_n 1, 1)), (239, (.imul, 1)), (240, (.iload 7, 2)), (242, (.iadd, 1)), (243, (.iconst 1, 1)), (244, (.iadd, 1)), (245, (.iaload, 1)), (246, (.iastore, 1)), (247, (.aload_n 0, 1)), (248, (.getfield 102, 3)), (251, (.iload 6, 2)), (253, (.iload 7, 2)), (255, (.iadd, 1)), (256, (.iconst 1, 1)), (257, (.iadd, 1)), (258, (.aload_n 0, 1)), (259, (.getfield 102, 3)), (262, (.bipush 6, 2)), (264, (.iload_n 1, 1)), (265, (.imul, 1)), (266, (.iload 7, 2)), (268, (.iadd, 1)), (269, (.iaload, 1)), (270, (.iastore, 1)), (271, (.aload_n 0, 1)), (272, (.iload_n 1, 1)), (273, (.iconst 1, 1)), (274, (.iadd, 1)), (275, (.iload_n 2, 1)), (276, (.iconst 1, 1)), (277, (.isub, 1)), (278, (.iload_n 3, 1)), (279, (.invokevirtual 354, 3)), (282, (.ifCond .eq 5, 3)), (285, (.iconst 1, 1)), (286, (.ireturn, 1)), (287, (.iconst 0, 1)), (288, (.istore 8, 2)), (290, (.iload 8, 2)), (292, (.bipush 10, 2)), (294, (.if_icmp .ge 65, 3)), (297, (.aload_n 0, 1)), (298, (.iload_n 1, 1)), (299, (.invokevirtual 351, 3)), (302, (.aload_n 0, 1)), (303, (.getfield 102, 3)), (306, (.bipush 6, 2)), (308, (.iload_n 1, 1)), (309, (.imul, 1)), (310, (.iload 7, 2)), (312, (.iadd, 1)), (313, (.iaload, 1)), (314, (.iload 8, 2)), (316, (.invokestatic 338, 3)), (319, (.ifCond .ne 6, 3)), (322, (.goto 31, 3)), (325, (.aload_n 0, 1)), (326, (.getfield 102, 3)), (329, (.iload 6, 2)), (331, (.iload 7, 2)), (333, (.iadd, 1)), (334, (.iload 8, 2)), (336, (.iastore, 1)), (337, (.aload_n 0, 1)), (338, (.iload_n 1, 1)), (339, (.iconst 1, 1)), (340, (.iadd, 1)), (341, (.iload_n 2, 1)), (342, (.iconst 1, 1)), (343, (.isub, 1)), (344, (.iload_n 3, 1)), (345, (.invokevirtual 354, 3)), (348, (.ifCond .eq 5, 3)), (351, (.iconst 1, 1)), (352, (.ireturn, 1)), (353, (.iinc 8 1, 3)), (356, (.goto (-66), 3)), (359, (.iinc 7 1, 3)), (362, (.goto (-312), 3)), (365, (.iconst 0, 1)), (366, (.ireturn, 1))]
set_option maxRecDepth 100000 in
theorem dt_X11_reaches : (tb_X11_reaches.all fun q => decide (decode cX11_reaches q.1 = .ok q.2)) = true := by decide +kernel
set_option maxRecDepth 100000 in
set_option maxHeartbeats 4000000 in
theorem lp_L11_reaches_66 {D : Nat} {Go : Nat → List (Option Value) → List Value → Mem → Prop} (hR : RS l G cy ad tt RX11 cX11_reaches 9 (2 + (D + 1)) Go) {out : Int × Mem} (hT : RT cX11_reaches (some (iv out.1)) (inZ out.1) out.2 (some .boolean) Go) {v1 : Int} {v2 : Int} {v3 : Int} {v5 : Int} {v6 : Int} {v7 : Int} (qv1 : inR v1) (qv2 : inR v2) (qv3 : inR v3) (qv5 : inR v5) (qv6 : inR v6) (qv7 : inR v7) {k103 : Mem → Option (Int × Mem)} (hk103 : ∀ (m : Mem), k103 m = some out → Go 103 [some (.ref (ad 83)), some (iv v1), some (iv v2), some (iv v3), none, some (iv v5), some (iv v6), some (iv v7), none] [] m) : ∀ (n : Nat) (v8 : Int) (m : Mem), inR v8 → L11_reaches_66 v5 v6 k103 n v8 m = some out → Go 66 [some (.ref (ad 83)), some (iv v1), some (iv v2), some (iv v3), none, some (iv v5), some (iv v6), some (iv v7), some (iv v8)] [] m := by
  intro n
  induction n with
  | zero =>
    intro v8 m qv8 h
    cases h
  | succ n ih =>
    intro v8 m qv8 h
    rw [L11_reaches_66] at h
    refine r_iload (pc := 66) hR (dc dt_X11_reaches 38 rfl) rfl ?_
    refine r_iconst (pc := 68) hR (dc dt_X11_reaches 39 rfl) ?_
    refine r_iadd (pc := 69) hR (dc dt_X11_reaches 40 rfl) ?_
    refine r_iload (pc := 70) hR (dc dt_X11_reaches 41 rfl) rfl ?_
    refine r_icmp_ge (pc := 72) (tgt := 103) hR (dc dt_X11_reaches 42 rfl) (by decide) (w32_in _) qv5 (fun hc => ?_) (fun hc => ?_)
    · replace h := ite_t hc h
      refine r_weak (L' := [some (.ref (ad 83)), some (iv v1), some (iv v2), some (iv v3), none, some (iv v5), some (iv v6), some (iv v7), none]) hR ⟨Or.inr rfl, Or.inr rfl, Or.inr rfl, Or.inr rfl, Or.inr rfl, Or.inr rfl, Or.inr rfl, Or.inr rfl, Or.inl rfl, trivial⟩ ?_
      exact hk103 m h
    replace h := ite_f hc h
    refine r_aload_n (pc := 75) hR (dc dt_X11_reaches 43 rfl) rfl ?_
    refine r_getr (pc := 76) (k2 := 114) hR (dc dt_X11_reaches 44 rfl) fl_X11_102 tc_83 rfl ?_
    refine r_iload (pc := 79) hR (dc dt_X11_reaches 45 rfl) rfl ?_
    refine r_iload (pc := 81) hR (dc dt_X11_reaches 46 rfl) rfl ?_
    refine r_iadd (pc := 83) hR (dc dt_X11_reaches 47 rfl) ?_
    refine r_aload_n (pc := 84) hR (dc dt_X11_reaches 48 rfl) rfl ?_
    refine r_getr (pc := 85) (k2 := 114) hR (dc dt_X11_reaches 49 rfl) fl_X11_102 tc_83 rfl ?_
    refine r_iload (pc := 88) hR (dc dt_X11_reaches 50 rfl) rfl ?_
    refine r_iload (pc := 90) hR (dc dt_X11_reaches 51 rfl) rfl ?_
    refine r_iadd (pc := 92) hR (dc dt_X11_reaches 52 rfl) ?_
    refine r_iconst (pc := 93) hR (dc dt_X11_reaches 53 rfl) ?_
    refine r_iadd (pc := 94) hR (dc dt_X11_reaches 54 rfl) ?_
    obtain ⟨g1, h⟩ := gd_some h
    refine r_iald (pc := 95) hR (dc dt_X11_reaches 55 rfl) tc_114 g1 (w32_in _) ?_
    obtain ⟨g1, h⟩ := gd_some h
    refine r_iast (pc := 96) hR (dc dt_X11_reaches 56 rfl) tc_114 g1 (w32_in _) ?_
    replace h := stw_e h
    generalize wr m 114 (w32 (v6 + v8)) (rd m 114 (w32 ((w32 (v6 + v8)) + 1))) = m96 at h ⊢
    refine r_iinc (pc := 97) (L' := [some (.ref (ad 83)), some (iv v1), some (iv v2), some (iv v3), none, some (iv v5), some (iv v6), some (iv v7), some (iv (w32 (v8 + 1)))]) hR (dc dt_X11_reaches 57 rfl) rfl (by decide) rfl rfl ?_
    refine r_goto (pc := 100) (tgt := 66) hR (dc dt_X11_reaches 58 rfl) (by decide) ?_
    exact ih (w32 (v8 + 1)) m96 (w32_in _) h
set_option maxRecDepth 100000 in
set_option maxHeartbeats 4000000 in
theorem lp_L11_reaches_140 {D : Nat} {Go : Nat → List (Option Value) → List Value → Mem → Prop} (hR : RS l G cy ad tt RX11 cX11_reaches 9 (2 + (D + 1)) Go) {out : Int × Mem} (hT : RT cX11_reaches (some (iv out.1)) (inZ out.1) out.2 (some .boolean) Go) {v1 : Int} {v2 : Int} {v3 : Int} {v5 : Int} {v6 : Int} {v7 : Int} (qv1 : inR v1) (qv2 : inR v2) (qv3 : inR v3) (qv5 : inR v5) (qv6 : inR v6) (qv7 : inR v7) {k175 : Mem → Option (Int × Mem)} (hk175 : ∀ (m : Mem), k175 m = some out → Go 175 [some (.ref (ad 83)), some (iv v1), some (iv v2), some (iv v3), none, some (iv v5), some (iv v6), some (iv v7), none] [] m) : ∀ (n : Nat) (v8 : Int) (m : Mem), inR v8 → L11_reaches_140 v6 v7 k175 n v8 m = some out → Go 140 [some (.ref (ad 83)), some (iv v1), some (iv v2), some (iv v3), none, some (iv v5), some (iv v6), some (iv v7), some (iv v8)] [] m := by
  intro n
  induction n with
  | zero =>
    intro v8 m qv8 h
    cases h
  | succ n ih =>
    intro v8 m qv8 h
    rw [L11_reaches_140] at h
    refine r_iload (pc := 140) hR (dc dt_X11_reaches 85 rfl) rfl ?_
    refine r_iload (pc := 142) hR (dc dt_X11_reaches 86 rfl) rfl ?_
    refine r_icmp_le (pc := 144) (tgt := 175) hR (dc dt_X11_reaches 87 rfl) (by decide) qv8 qv7 (fun hc => ?_) (fun hc => ?_)
    · replace h := ite_t hc h
      refine r_weak (L' := [some (.ref (ad 83)), some (iv v1), some (iv v2), some (iv v3), none, some (iv v5), some (iv v6), some (iv v7), none]) hR ⟨Or.inr rfl, Or.inr rfl, Or.inr rfl, Or.inr rfl, Or.inr rfl, Or.inr rfl, Or.inr rfl, Or.inr rfl, Or.inl rfl, trivial⟩ ?_
      exact hk175 m h
    replace h := ite_f hc h
    refine r_aload_n (pc := 147) hR (dc dt_X11_reaches 88 rfl) rfl ?_
    refine r_getr (pc := 148) (k2 := 114) hR (dc dt_X11_reaches 89 rfl) fl_X11_102 tc_83 rfl ?_
    refine r_iload (pc := 151) hR (dc dt_X11_reaches 90 rfl) rfl ?_
    refine r_iload (pc := 153) hR (dc dt_X11_reaches 91 rfl) rfl ?_
    refine r_iadd (pc := 155) hR (dc dt_X11_reaches 92 rfl) ?_
    refine r_aload_n (pc := 156) hR (dc dt_X11_reaches 93 rfl) rfl ?_
    refine r_getr (pc := 157) (k2 := 114) hR (dc dt_X11_reaches 94 rfl) fl_X11_102 tc_83 rfl ?_
    refine r_iload (pc := 160) hR (dc dt_X11_reaches 95 rfl) rfl ?_
    refine r_iload (pc := 162) hR (dc dt_X11_reaches 96 rfl) rfl ?_
    refine r_iadd (pc := 164) hR (dc dt_X11_reaches 97 rfl) ?_
    refine r_iconst (pc := 165) hR (dc dt_X11_reaches 98 rfl) ?_
    refine r_isub (pc := 166) hR (dc dt_X11_reaches 99 rfl) ?_
    obtain ⟨g1, h⟩ := gd_some h
    refine r_iald (pc := 167) hR (dc dt_X11_reaches 100 rfl) tc_114 g1 (w32_in _) ?_
    obtain ⟨g1, h⟩ := gd_some h
    refine r_iast (pc := 168) hR (dc dt_X11_reaches 101 rfl) tc_114 g1 (w32_in _) ?_
    replace h := stw_e h
    generalize wr m 114 (w32 (v6 + v8)) (rd m 114 (w32 ((w32 (v6 + v8)) - 1))) = m168 at h ⊢
    refine r_iinc (pc := 169) (L' := [some (.ref (ad 83)), some (iv v1), some (iv v2), some (iv v3), none, some (iv v5), some (iv v6), some (iv v7), some (iv (w32 (v8 + (-1))))]) hR (dc dt_X11_reaches 102 rfl) rfl (by decide) rfl rfl ?_
    refine r_goto (pc := 172) (tgt := 140) hR (dc dt_X11_reaches 103 rfl) (by decide) ?_
    exact ih (w32 (v8 + (-1))) m168 (w32_in _) h
set_option maxRecDepth 100000 in
set_option maxHeartbeats 4000000 in
theorem lp_L11_reaches_290 {D : Nat} {Go : Nat → List (Option Value) → List Value → Mem → Prop} (hR : RS l G cy ad tt RX11 cX11_reaches 9 (2 + (D + 1)) Go) {out : Int × Mem} (hT : RT cX11_reaches (some (iv out.1)) (inZ out.1) out.2 (some .boolean) Go) {rec : Mem → Int → Int → Int → Option (Int × Mem)} (rec_ok : ∀ {m : Mem} {w0 : Int} {w1 : Int} {w2 : Int} (_ : inR w0) (_ : inR w1) (_ : inR w2) {out : Int × Mem} (_ : rec m w0 w1 w2 = some out), CT l G cy ad tt yX11_reaches cX11_reaches 9 (some .boolean) (2 + D) [.ref (ad 83), iv w0, iv w1, iv w2] m (some (iv out.1)) (inZ out.1) out.2) {v1 : Int} {v2 : Int} {v3 : Int} {v5 : Int} {v6 : Int} {v7 : Int} (qv1 : inR v1) (qv2 : inR v2) (qv3 : inR v3) (qv5 : inR v5) (qv6 : inR v6) (qv7 : inR v7) {k359 : Mem → Option (Int × Mem)} (hk359 : ∀ (m : Mem), k359 m = some out → Go 359 [some (.ref (ad 83)), some (iv v1), some (iv v2), some (iv v3), none, some (iv v5), some (iv v6), some (iv v7), none] [] m) : ∀ (n : Nat) (v8 : Int) (m : Mem), inR v8 → L11_reaches_290 rec v1 v2 v3 v6 v7 k359 n v8 m = some out → Go 290 [some (.ref (ad 83)), some (iv v1), some (iv v2), some (iv v3), none, some (iv v5), some (iv v6), some (iv v7), some (iv v8)] [] m := by
  intro n
  induction n with
  | zero =>
    intro v8 m qv8 h
    cases h
  | succ n ih =>
    intro v8 m qv8 h
    rw [L11_reaches_290] at h
    refine r_iload (pc := 290) hR (dc dt_X11_reaches 182 rfl) rfl ?_
    refine r_bipush (pc := 292) hR (dc dt_X11_reaches 183 rfl) (by decide) ?_
    refine r_icmp_ge (pc := 294) (tgt := 359) hR (dc dt_X11_reaches 184 rfl) (by decide) qv8 (rg_c rfl) (fun hc => ?_) (fun hc => ?_)
    · replace h := ite_t hc h
      refine r_weak (L' := [some (.ref (ad 83)), some (iv v1), some (iv v2), some (iv v3), none, some (iv v5), some (iv v6), some (iv v7), none]) hR ⟨Or.inr rfl, Or.inr rfl, Or.inr rfl, Or.inr rfl, Or.inr rfl, Or.inr rfl, Or.inr rfl, Or.inr rfl, Or.inl rfl, trivial⟩ ?_
      exact hk359 m h
    replace h := ite_f hc h
    refine r_aload_n (pc := 297) hR (dc dt_X11_reaches 185 rfl) rfl ?_
    refine r_iload_n (pc := 298) hR (dc dt_X11_reaches 186 rfl) rfl ?_
    obtain ⟨m299, e299, h⟩ := b1_some h
    refine r_callV (pc := 299) (rest := []) hR (dc dt_X11_reaches 187 rfl) cl_X11_351 tc_83 rfl (ok_F11_copyRow qv1 e299) (by omega) rfl (Nat.le_of_ble_eq_true rfl) rfl (fun q299r => ?_)
    show Go 302 [some (.ref (ad 83)), some (iv v1), some (iv v2), some (iv v3), none, some (iv v5), some (iv v6), some (iv v7), some (iv v8)] [] m299
    refine r_aload_n (pc := 302) hR (dc dt_X11_reaches 188 rfl) rfl ?_
    refine r_getr (pc := 303) (k2 := 114) hR (dc dt_X11_reaches 189 rfl) fl_X11_102 tc_83 rfl ?_
    refine r_bipush (pc := 306) hR (dc dt_X11_reaches 190 rfl) (by decide) ?_
    refine r_iload_n (pc := 308) hR (dc dt_X11_reaches 191 rfl) rfl ?_
    refine r_imul (pc := 309) hR (dc dt_X11_reaches 192 rfl) ?_
    refine r_iload (pc := 310) hR (dc dt_X11_reaches 193 rfl) rfl ?_
    refine r_iadd (pc := 312) hR (dc dt_X11_reaches 194 rfl) ?_
    obtain ⟨g1, h⟩ := gd_some h
    refine r_iald (pc := 313) hR (dc dt_X11_reaches 195 rfl) tc_114 g1 (w32_in _) ?_
    refine r_iload (pc := 314) hR (dc dt_X11_reaches 196 rfl) rfl ?_
    refine r_callS (pc := 316) (rest := []) hR (dc dt_X11_reaches 197 rfl) cl_X11_338 (ok_F11_looksLike (rd_in _ _ _) qv8) (by omega) rfl (Nat.le_of_ble_eq_true rfl) rfl (fun q316r => ?_)
    show Go 319 [some (.ref (ad 83)), some (iv v1), some (iv v2), some (iv v3), none, some (iv v5), some (iv v6), some (iv v7), some (iv v8)] [iv (F11_looksLike (rd m299 114 (w32 ((w32 (6 * v1)) + v7))) v8)] m299
    refine jn_e h (fun (K : Mem → Option (Int × Mem)) => ∀ (m_353 : Mem), K m_353 = some out → Go 353 [some (.ref (ad 83)), some (iv v1), some (iv v2), some (iv v3), none, some (iv v5), some (iv v6), some (iv v7), some (iv v8)] [] m_353) (fun m_353 h => ?_) (fun K353 J353 h => ?_)
    · refine r_iinc (pc := 353) (L' := [some (.ref (ad 83)), some (iv v1), some (iv v2), some (iv v3), none, some (iv v5), some (iv v6), some (iv v7), some (iv (w32 (v8 + 1)))]) hR (dc dt_X11_reaches 219 rfl) rfl (by decide) rfl rfl ?_
      refine r_goto (pc := 356) (tgt := 290) hR (dc dt_X11_reaches 220 rfl) (by decide) ?_
      exact ih (w32 (v8 + 1)) m_353 (w32_in _) h
    refine r_if_ne (pc := 319) (tgt := 325) hR (dc dt_X11_reaches 198 rfl) (by decide) (inZ_R q316r) (fun hc => ?_) (fun hc => ?_)
    · replace h := ite_t hc h
      refine r_aload_n (pc := 325) hR (dc dt_X11_reaches 200 rfl) rfl ?_
      refine r_getr (pc := 326) (k2 := 114) hR (dc dt_X11_reaches 201 rfl) fl_X11_102 tc_83 rfl ?_
      refine r_iload (pc := 329) hR (dc dt_X11_reaches 202 rfl) rfl ?_
      refine r_iload (pc := 331) hR (dc dt_X11_reaches 203 rfl) rfl ?_
      refine r_iadd (pc := 333) hR (dc dt_X11_reaches 204 rfl) ?_
      refine r_iload (pc := 334) hR (dc dt_X11_reaches 205 rfl) rfl ?_
      obtain ⟨g1, h⟩ := gd_some h
      refine r_iast (pc := 336) hR (dc dt_X11_reaches 206 rfl) tc_114 g1 (w32_in _) ?_
      replace h := stw_e h
      generalize wr m299 114 (w32 (v6 + v7)) v8 = m336 at h ⊢
      refine r_aload_n (pc := 337) hR (dc dt_X11_reaches 207 rfl) rfl ?_
      refine r_iload_n (pc := 338) hR (dc dt_X11_reaches 208 rfl) rfl ?_
      refine r_iconst (pc := 339) hR (dc dt_X11_reaches 209 rfl) ?_
      refine r_iadd (pc := 340) hR (dc dt_X11_reaches 210 rfl) ?_
      refine r_iload_n (pc := 341) hR (dc dt_X11_reaches 211 rfl) rfl ?_
      refine r_iconst (pc := 342) hR (dc dt_X11_reaches 212 rfl) ?_
      refine r_isub (pc := 343) hR (dc dt_X11_reaches 213 rfl) ?_
      refine r_iload_n (pc := 344) hR (dc dt_X11_reaches 214 rfl) rfl ?_
      obtain ⟨r345, m345, e345, h⟩ := b2_some h
      refine r_callV (pc := 345) (rest := []) hR (dc dt_X11_reaches 215 rfl) cl_X11_354 tc_83 rfl (rec_ok (w32_in _) (w32_in _) qv3 e345) (by omega) rfl (Nat.le_of_ble_eq_true rfl) rfl (fun q345r => ?_)
      show Go 348 [some (.ref (ad 83)), some (iv v1), some (iv v2), some (iv v3), none, some (iv v5), some (iv v6), some (iv v7), some (iv v8)] [iv r345] m345
      refine r_if_eq (pc := 348) (tgt := 353) hR (dc dt_X11_reaches 216 rfl) (by decide) (inZ_R q345r) (fun hc => ?_) (fun hc => ?_)
      · replace h := ite_t hc h
        exact J353 m345 h
      replace h := ite_f hc h
      refine r_iconst (pc := 351) hR (dc dt_X11_reaches 217 rfl) ?_
      exact r_zret hT (dc dt_X11_reaches 218 rfl) (congrArg Prod.fst (Option.some.inj h)) (congrArg Prod.snd (Option.some.inj h)) (Or.inr rfl)
    replace h := ite_f hc h
    refine r_goto (pc := 322) (tgt := 353) hR (dc dt_X11_reaches 199 rfl) (by decide) ?_
    exact J353 m299 h
set_option maxRecDepth 100000 in
set_option maxHeartbeats 4000000 in
theorem lp_L11_reaches_50 {D : Nat} {Go : Nat → List (Option Value) → List Value → Mem → Prop} (hR : RS l G cy ad tt RX11 cX11_reaches 9 (2 + (D + 1)) Go) {out : Int × Mem} (hT : RT cX11_reaches (some (iv out.1)) (inZ out.1) out.2 (some .boolean) Go) {rec : Mem → Int → Int → Int → Option (Int × Mem)} (rec_ok : ∀ {m : Mem} {w0 : Int} {w1 : Int} {w2 : Int} (_ : inR w0) (_ : inR w1) (_ : inR w2) {out : Int × Mem} (_ : rec m w0 w1 w2 = some out), CT l G cy ad tt yX11_reaches cX11_reaches 9 (some .boolean) (2 + D) [.ref (ad 83), iv w0, iv w1, iv w2] m (some (iv out.1)) (inZ out.1) out.2) {v1 : Int} {v2 : Int} {v3 : Int} {v5 : Int} {v6 : Int} (qv1 : inR v1) (qv2 : inR v2) (qv3 : inR v3) (qv5 : inR v5) (qv6 : inR v6) : ∀ (n : Nat) (v7 : Int) (m : Mem), inR v7 → L11_reaches_50 rec v1 v2 v3 v5 v6 n v7 m = some out → Go 50 [some (.ref (ad 83)), some (iv v1), some (iv v2), some (iv v3), none, some (iv v5), some (iv v6), some (iv v7), none] [] m := by
  intro n
  induction n with
  | zero =>
    intro v7 m qv7 h
    cases h
  | succ n ih =>
    intro v7 m qv7 h
    rw [L11_reaches_50] at h
    refine r_iload (pc := 50) hR (dc dt_X11_reaches 30 rfl) rfl ?_
    refine r_iload (pc := 52) hR (dc dt_X11_reaches 31 rfl) rfl ?_
    refine r_icmp_ge (pc := 54) (tgt := 365) hR (dc dt_X11_reaches 32 rfl) (by decide) qv7 qv5 (fun hc => ?_) (fun hc => ?_)
    · replace h := ite_t hc h
      refine r_iconst (pc := 365) hR (dc dt_X11_reaches 223 rfl) ?_
      exact r_zret hT (dc dt_X11_reaches 224 rfl) (congrArg Prod.fst (Option.some.inj h)) (congrArg Prod.snd (Option.some.inj h)) (Or.inl rfl)
    replace h := ite_f hc h
    refine r_aload_n (pc := 57) hR (dc dt_X11_reaches 33 rfl) rfl ?_
    refine r_iload_n (pc := 58) hR (dc dt_X11_reaches 34 rfl) rfl ?_
    obtain ⟨m59, e59, h⟩ := b1_some h
    refine r_callV (pc := 59) (rest := []) hR (dc dt_X11_reaches 35 rfl) cl_X11_351 tc_83 rfl (ok_F11_copyRow qv1 e59) (by omega) rfl (Nat.le_of_ble_eq_true rfl) rfl (fun q59r => ?_)
    show Go 62 [some (.ref (ad 83)), some (iv v1), some (iv v2), some (iv v3), none, some (iv v5), some (iv v6), some (iv v7), none] [] m59
    refine r_iload (pc := 62) hR (dc dt_X11_reaches 36 rfl) rfl ?_
    refine r_istore (pc := 64) (L' := [some (.ref (ad 83)), some (iv v1), some (iv v2), some (iv v3), none, some (iv v5), some (iv v6), some (iv v7), some (iv v7)]) hR (dc dt_X11_reaches 37 rfl) (by decide) rfl rfl ?_
    refine lp_L11_reaches_66 hR hT qv1 qv2 qv3 qv5 qv6 qv7 (fun m_103 h => ?_) FU v7 m59 qv7 h
    show Go 103 [some (.ref (ad 83)), some (iv v1), some (iv v2), some (iv v3), none, some (iv v5), some (iv v6), some (iv v7), none] [] m_103
    refine r_aload_n (pc := 103) hR (dc dt_X11_reaches 59 rfl) rfl ?_
    refine r_getr (pc := 104) (k2 := 115) hR (dc dt_X11_reaches 60 rfl) fl_X11_105 tc_83 rfl ?_
    refine r_iload_n (pc := 107) hR (dc dt_X11_reaches 61 rfl) rfl ?_
    refine r_iconst (pc := 108) hR (dc dt_X11_reaches 62 rfl) ?_
    refine r_iadd (pc := 109) hR (dc dt_X11_reaches 63 rfl) ?_
    refine r_iload (pc := 110) hR (dc dt_X11_reaches 64 rfl) rfl ?_
    refine r_iconst (pc := 112) hR (dc dt_X11_reaches 65 rfl) ?_
    refine r_isub (pc := 113) hR (dc dt_X11_reaches 66 rfl) ?_
    obtain ⟨g1, h⟩ := gd_some h
    refine r_iast (pc := 114) hR (dc dt_X11_reaches 67 rfl) tc_115 g1 (w32_in _) ?_
    replace h := stw_e h
    generalize wr m_103 115 (w32 (v1 + 1)) (w32 (v5 - 1)) = m114 at h ⊢
    refine r_aload_n (pc := 115) hR (dc dt_X11_reaches 68 rfl) rfl ?_
    refine r_iload_n (pc := 116) hR (dc dt_X11_reaches 69 rfl) rfl ?_
    refine r_iconst (pc := 117) hR (dc dt_X11_reaches 70 rfl) ?_
    refine r_iadd (pc := 118) hR (dc dt_X11_reaches 71 rfl) ?_
    refine r_iload_n (pc := 119) hR (dc dt_X11_reaches 72 rfl) rfl ?_
    refine r_iconst (pc := 120) hR (dc dt_X11_reaches 73 rfl) ?_
    refine r_isub (pc := 121) hR (dc dt_X11_reaches 74 rfl) ?_
    refine r_iload_n (pc := 122) hR (dc dt_X11_reaches 75 rfl) rfl ?_
    obtain ⟨r123, m123, e123, h⟩ := b2_some h
    refine r_callV (pc := 123) (rest := []) hR (dc dt_X11_reaches 76 rfl) cl_X11_354 tc_83 rfl (rec_ok (w32_in _) (w32_in _) qv3 e123) (by omega) rfl (Nat.le_of_ble_eq_true rfl) rfl (fun q123r => ?_)
    show Go 126 [some (.ref (ad 83)), some (iv v1), some (iv v2), some (iv v3), none, some (iv v5), some (iv v6), some (iv v7), none] [iv r123] m123
    refine r_if_eq (pc := 126) (tgt := 131) hR (dc dt_X11_reaches 77 rfl) (by decide) (inZ_R q123r) (fun hc => ?_) (fun hc => ?_)
    · replace h := ite_t hc h
      refine r_aload_n (pc := 131) hR (dc dt_X11_reaches 80 rfl) rfl ?_
      refine r_iload_n (pc := 132) hR (dc dt_X11_reaches 81 rfl) rfl ?_
      obtain ⟨m133, e133, h⟩ := b1_some h
      refine r_callV (pc := 133) (rest := []) hR (dc dt_X11_reaches 82 rfl) cl_X11_351 tc_83 rfl (ok_F11_copyRow qv1 e133) (by omega) rfl (Nat.le_of_ble_eq_true rfl) rfl (fun q133r => ?_)
      show Go 136 [some (.ref (ad 83)), some (iv v1), some (iv v2), some (iv v3), none, some (iv v5), some (iv v6), some (iv v7), none] [] m133
      refine r_iload (pc := 136) hR (dc dt_X11_reaches 83 rfl) rfl ?_
      refine r_istore (pc := 138) (L' := [some (.ref (ad 83)), some (iv v1), some (iv v2), some (iv v3), none, some (iv v5), some (iv v6), some (iv v7), some (iv v5)]) hR (dc dt_X11_reaches 84 rfl) (by decide) rfl rfl ?_
      refine lp_L11_reaches_140 hR hT qv1 qv2 qv3 qv5 qv6 qv7 (fun m_175 h => ?_) FU v5 m133 qv5 h
      show Go 175 [some (.ref (ad 83)), some (iv v1), some (iv v2), some (iv v3), none, some (iv v5), some (iv v6), some (iv v7), none] [] m_175
      refine r_aload_n (pc := 175) hR (dc dt_X11_reaches 104 rfl) rfl ?_
      refine r_getr (pc := 176) (k2 := 115) hR (dc dt_X11_reaches 105 rfl) fl_X11_105 tc_83 rfl ?_
      refine r_iload_n (pc := 179) hR (dc dt_X11_reaches 106 rfl) rfl ?_
      refine r_iconst (pc := 180) hR (dc dt_X11_reaches 107 rfl) ?_
      refine r_iadd (pc := 181) hR (dc dt_X11_reaches 108 rfl) ?_
      refine r_iload (pc := 182) hR (dc dt_X11_reaches 109 rfl) rfl ?_
      refine r_iconst (pc := 184) hR (dc dt_X11_reaches 110 rfl) ?_
      refine r_iadd (pc := 185) hR (dc dt_X11_reaches 111 rfl) ?_
      obtain ⟨g1, h⟩ := gd_some h
      refine r_iast (pc := 186) hR (dc dt_X11_reaches 112 rfl) tc_115 g1 (w32_in _) ?_
      replace h := stw_e h
      generalize wr m_175 115 (w32 (v1 + 1)) (w32 (v5 + 1)) = m186 at h ⊢
      refine r_iload (pc := 187) hR (dc dt_X11_reaches 113 rfl) rfl ?_
      refine r_iconst (pc := 189) hR (dc dt_X11_reaches 114 rfl) ?_
      refine jn_e h (fun (K : Mem → Option (Int × Mem)) => ∀ (m_209 : Mem), K m_209 = some out → Go 209 [some (.ref (ad 83)), some (iv v1), some (iv v2), some (iv v3), none, some (iv v5), some (iv v6), some (iv v7), none] [] m_209) (fun m_209 h => ?_) (fun K209 J209 h => ?_)
      · refine r_aload_n (pc := 209) hR (dc dt_X11_reaches 128 rfl) rfl ?_
        refine r_iload_n (pc := 210) hR (dc dt_X11_reaches 129 rfl) rfl ?_
        obtain ⟨m211, e211, h⟩ := b1_some h
        refine r_callV (pc := 211) (rest := []) hR (dc dt_X11_reaches 130 rfl) cl_X11_351 tc_83 rfl (ok_F11_copyRow qv1 e211) (by omega) rfl (Nat.le_of_ble_eq_true rfl) rfl (fun q211r => ?_)
        show Go 214 [some (.ref (ad 83)), some (iv v1), some (iv v2), some (iv v3), none, some (iv v5), some (iv v6), some (iv v7), none] [] m211
        refine r_iload (pc := 214) hR (dc dt_X11_reaches 131 rfl) rfl ?_
        refine r_iconst (pc := 216) hR (dc dt_X11_reaches 132 rfl) ?_
        refine r_iadd (pc := 217) hR (dc dt_X11_reaches 133 rfl) ?_
        refine r_iload (pc := 218) hR (dc dt_X11_reaches 134 rfl) rfl ?_
        refine jn_e h (fun (K : Mem → Option (Int × Mem)) => ∀ (m_287 : Mem), K m_287 = some out → Go 287 [some (.ref (ad 83)), some (iv v1), some (iv v2), some (iv v3), none, some (iv v5), some (iv v6), some (iv v7), none] [] m_287) (fun m_287 h => ?_) (fun K287 J287 h => ?_)
        · refine r_iconst (pc := 287) hR (dc dt_X11_reaches 180 rfl) ?_
          refine r_istore (pc := 288) (L' := [some (.ref (ad 83)), some (iv v1), some (iv v2), some (iv v3), none, some (iv v5), some (iv v6), some (iv v7), some (iv 0)]) hR (dc dt_X11_reaches 181 rfl) (by decide) rfl rfl ?_
          refine lp_L11_reaches_290 hR hT rec_ok qv1 qv2 qv3 qv5 qv6 qv7 (fun m_359 h => ?_) FU 0 m_287 (rg_c rfl) h
          show Go 359 [some (.ref (ad 83)), some (iv v1), some (iv v2), some (iv v3), none, some (iv v5), some (iv v6), some (iv v7), none] [] m_359
          refine r_iinc (pc := 359) (L' := [some (.ref (ad 83)), some (iv v1), some (iv v2), some (iv v3), none, some (iv v5), some (iv v6), some (iv (w32 (v7 + 1))), none]) hR (dc dt_X11_reaches 221 rfl) rfl (by decide) rfl rfl ?_
          refine r_goto (pc := 362) (tgt := 50) hR (dc dt_X11_reaches 222 rfl) (by decide) ?_
          exact ih (w32 (v7 + 1)) m_359 (w32_in _) h
        refine r_icmp_ge (pc := 220) (tgt := 287) hR (dc dt_X11_reaches 135 rfl) (by decide) (w32_in _) qv5 (fun hc => ?_) (fun hc => ?_)
        · replace h := ite_t hc h
          exact J287 m211 h
        replace h := ite_f hc h
        refine r_aload_n (pc := 223) hR (dc dt_X11_reaches 136 rfl) rfl ?_
        refine r_getr (pc := 224) (k2 := 114) hR (dc dt_X11_reaches 137 rfl) fl_X11_102 tc_83 rfl ?_
        refine r_iload (pc := 227) hR (dc dt_X11_reaches 138 rfl) rfl ?_
        refine r_iload (pc := 229) hR (dc dt_X11_reaches 139 rfl) rfl ?_
        refine r_iadd (pc := 231) hR (dc dt_X11_reaches 140 rfl) ?_
        refine r_aload_n (pc := 232) hR (dc dt_X11_reaches 141 rfl) rfl ?_
        refine r_getr (pc := 233) (k2 := 114) hR (dc dt_X11_reaches 142 rfl) fl_X11_102 tc_83 rfl ?_
        refine r_bipush (pc := 236) hR (dc dt_X11_reaches 143 rfl) (by decide) ?_
        refine r_iload_n (pc := 238) hR (dc dt_X11_reaches 144 rfl) rfl ?_
        refine r_imul (pc := 239) hR (dc dt_X11_reaches 145 rfl) ?_
        refine r_iload (pc := 240) hR (dc dt_X11_reaches 146 rfl) rfl ?_
        refine r_iadd (pc := 242) hR (dc dt_X11_reaches 147 rfl) ?_
        refine r_iconst (pc := 243) hR (dc dt_X11_reaches 148 rfl) ?_
        refine r_iadd (pc := 244) hR (dc dt_X11_reaches 149 rfl) ?_
        obtain ⟨g1, h⟩ := gd_some h
        refine r_iald (pc := 245) hR (dc dt_X11_reaches 150 rfl) tc_114 g1 (w32_in _) ?_
        obtain ⟨g1, h⟩ := gd_some h
        refine r_iast (pc := 246) hR (dc dt_X11_reaches 151 rfl) tc_114 g1 (w32_in _) ?_
        replace h := stw_e h
        generalize wr m211 114 (w32 (v6 + v7)) (rd m211 114 (w32 ((w32 ((w32 (6 * v1)) + v7)) + 1))) = m246 at h ⊢
        refine r_aload_n (pc := 247) hR (dc dt_X11_reaches 152 rfl) rfl ?_
        refine r_getr (pc := 248) (k2 := 114) hR (dc dt_X11_reaches 153 rfl) fl_X11_102 tc_83 rfl ?_
        refine r_iload (pc := 251) hR (dc dt_X11_reaches 154 rfl) rfl ?_
        refine r_iload (pc := 253) hR (dc dt_X11_reaches 155 rfl) rfl ?_
        refine r_iadd (pc := 255) hR (dc dt_X11_reaches 156 rfl) ?_
        refine r_iconst (pc := 256) hR (dc dt_X11_reaches 157 rfl) ?_
        refine r_iadd (pc := 257) hR (dc dt_X11_reaches 158 rfl) ?_
        refine r_aload_n (pc := 258) hR (dc dt_X11_reaches 159 rfl) rfl ?_
        refine r_getr (pc := 259) (k2 := 114) hR (dc dt_X11_reaches 160 rfl) fl_X11_102 tc_83 rfl ?_
        refine r_bipush (pc := 262) hR (dc dt_X11_reaches 161 rfl) (by decide) ?_
        refine r_iload_n (pc := 264) hR (dc dt_X11_reaches 162 rfl) rfl ?_
        refine r_imul (pc := 265) hR (dc dt_X11_reaches 163 rfl) ?_
        refine r_iload (pc := 266) hR (dc dt_X11_reaches 164 rfl) rfl ?_
        refine r_iadd (pc := 268) hR (dc dt_X11_reaches 165 rfl) ?_
        obtain ⟨g1, h⟩ := gd_some h
        refine r_iald (pc := 269) hR (dc dt_X11_reaches 166 rfl) tc_114 g1 (w32_in _) ?_
        obtain ⟨g1, h⟩ := gd_some h
        refine r_iast (pc := 270) hR (dc dt_X11_reaches 167 rfl) tc_114 g1 (w32_in _) ?_
        replace h := stw_e h
        generalize wr m246 114 (w32 ((w32 (v6 + v7)) + 1)) (rd m246 114 (w32 ((w32 (6 * v1)) + v7))) = m270 at h ⊢
        refine r_aload_n (pc := 271) hR (dc dt_X11_reaches 168 rfl) rfl ?_
        refine r_iload_n (pc := 272) hR (dc dt_X11_reaches 169 rfl) rfl ?_
        refine r_iconst (pc := 273) hR (dc dt_X11_reaches 170 rfl) ?_
        refine r_iadd (pc := 274) hR (dc dt_X11_reaches 171 rfl) ?_
        refine r_iload_n (pc := 275) hR (dc dt_X11_reaches 172 rfl) rfl ?_
        refine r_iconst (pc := 276) hR (dc dt_X11_reaches 173 rfl) ?_
        refine r_isub (pc := 277) hR (dc dt_X11_reaches 174 rfl) ?_
        refine r_iload_n (pc := 278) hR (dc dt_X11_reaches 175 rfl) rfl ?_
        obtain ⟨r279, m279, e279, h⟩ := b2_some h
        refine r_callV (pc := 279) (rest := []) hR (dc dt_X11_reaches 176 rfl) cl_X11_354 tc_83 rfl (rec_ok (w32_in _) (w32_in _) qv3 e279) (by omega) rfl (Nat.le_of_ble_eq_true rfl) rfl (fun q279r => ?_)
        show Go 282 [some (.ref (ad 83)), some (iv v1), some (iv v2), some (iv v3), none, some (iv v5), some (iv v6), some (iv v7), none] [iv r279] m279
        refine r_if_eq (pc := 282) (tgt := 287) hR (dc dt_X11_reaches 177 rfl) (by decide) (inZ_R q279r) (fun hc => ?_) (fun hc => ?_)
        · replace h := ite_t hc h
          exact J287 m279 h
        replace h := ite_f hc h
        refine r_iconst (pc := 285) hR (dc dt_X11_reaches 178 rfl) ?_
        exact r_zret hT (dc dt_X11_reaches 179 rfl) (congrArg Prod.fst (Option.some.inj h)) (congrArg Prod.snd (Option.some.inj h)) (Or.inr rfl)
      refine r_icmp_ge (pc := 190) (tgt := 209) hR (dc dt_X11_reaches 115 rfl) (by decide) qv5 (rg_c rfl) (fun hc => ?_) (fun hc => ?_)
      · replace h := ite_t hc h
        exact J209 m186 h
      replace h := ite_f hc h
      refine r_aload_n (pc := 193) hR (dc dt_X11_reaches 116 rfl) rfl ?_
      refine r_iload_n (pc := 194) hR (dc dt_X11_reaches 117 rfl) rfl ?_
      refine r_iconst (pc := 195) hR (dc dt_X11_reaches 118 rfl) ?_
      refine r_iadd (pc := 196) hR (dc dt_X11_reaches 119 rfl) ?_
      refine r_iload_n (pc := 197) hR (dc dt_X11_reaches 120 rfl) rfl ?_
      refine r_iconst (pc := 198) hR (dc dt_X11_reaches 121 rfl) ?_
      refine r_isub (pc := 199) hR (dc dt_X11_reaches 122 rfl) ?_
      refine r_iload_n (pc := 200) hR (dc dt_X11_reaches 123 rfl) rfl ?_
      obtain ⟨r201, m201, e201, h⟩ := b2_some h
      refine r_callV (pc := 201) (rest := []) hR (dc dt_X11_reaches 124 rfl) cl_X11_354 tc_83 rfl (rec_ok (w32_in _) (w32_in _) qv3 e201) (by omega) rfl (Nat.le_of_ble_eq_true rfl) rfl (fun q201r => ?_)
      show Go 204 [some (.ref (ad 83)), some (iv v1), some (iv v2), some (iv v3), none, some (iv v5), some (iv v6), some (iv v7), none] [iv r201] m201
      refine r_if_eq (pc := 204) (tgt := 209) hR (dc dt_X11_reaches 125 rfl) (by decide) (inZ_R q201r) (fun hc => ?_) (fun hc => ?_)
      · replace h := ite_t hc h
        exact J209 m201 h
      replace h := ite_f hc h
      refine r_iconst (pc := 207) hR (dc dt_X11_reaches 126 rfl) ?_
      exact r_zret hT (dc dt_X11_reaches 127 rfl) (congrArg Prod.fst (Option.some.inj h)) (congrArg Prod.snd (Option.some.inj h)) (Or.inr rfl)
    replace h := ite_f hc h
    refine r_iconst (pc := 129) hR (dc dt_X11_reaches 78 rfl) ?_
    exact r_zret hT (dc dt_X11_reaches 79 rfl) (congrArg Prod.fst (Option.some.inj h)) (congrArg Prod.snd (Option.some.inj h)) (Or.inr rfl)
set_option maxRecDepth 100000 in
set_option maxHeartbeats 4000000 in
theorem ok_F11_reaches : ∀ (n : Nat) {m : Mem}  {v1 v2 v3 : Int} (q1 : inR v1) (q2 : inR v2) (q3 : inR v3) {out : Int × Mem} (h : F11_reaches n m v1 v2 v3 = some out), n ≤ 6 → CT l G cy ad tt yX11_reaches cX11_reaches 9 (some .boolean) (2 + n) [.ref (ad 83), iv v1, iv v2, iv v3] m (some (iv out.1)) (inZ out.1) out.2 := by
  intro n
  induction n with
  | zero => intros; rename_i h _; cases h
  | succ n rec_ih =>
    intro m v1 v2 v3 q1 q2 q3 out h hn
    refine CT_of (by decide) (Nat.le_of_ble_eq_true rfl) (fun Go hR hT => ?_)
    replace hR : RS l G cy ad tt RX11 cX11_reaches 9 (2 + (n + 1)) Go := hR
    show Go 0 [some (.ref (ad 83)), some (iv v1), some (iv v2), some (iv v3), none, none, none, none, none] [] m
    rw [F11_reaches] at h
    have rec_ok : ∀ {m : Mem} {w0 : Int} {w1 : Int} {w2 : Int} (_ : inR w0) (_ : inR w1) (_ : inR w2) {out : Int × Mem} (_ : F11_reaches n m w0 w1 w2 = some out), CT l G cy ad tt yX11_reaches cX11_reaches 9 (some .boolean) (2 + n) [.ref (ad 83), iv w0, iv w1, iv w2] m (some (iv out.1)) (inZ out.1) out.2 := by
      intro m w0 w1 w2 aw0 aw1 aw2 out hr
      exact rec_ih aw0 aw1 aw2 hr (by omega)
    refine r_aload_n (pc := 0) hR (dc dt_X11_reaches 0 rfl) rfl ?_
    refine r_iload_n (pc := 1) hR (dc dt_X11_reaches 1 rfl) rfl ?_
    obtain ⟨r2, e2, h⟩ := b1_some h
    refine r_callV (pc := 2) (rest := []) hR (dc dt_X11_reaches 2 rfl) cl_X11_348 tc_83 rfl (ok_F11_numberAt q1 e2) (by omega) rfl (Nat.le_of_ble_eq_true rfl) rfl (fun q2r => ?_)
    show Go 5 [some (.ref (ad 83)), some (iv v1), some (iv v2), some (iv v3), none, none, none, none, none] [iv r2] m
    refine r_istore (pc := 5) (L' := [some (.ref (ad 83)), some (iv v1), some (iv v2), some (iv v3), some (iv r2), none, none, none, none]) hR (dc dt_X11_reaches 3 rfl) (by decide) rfl rfl ?_
    refine r_iload (pc := 7) hR (dc dt_X11_reaches 4 rfl) rfl ?_
    refine r_if_ge (pc := 9) (tgt := 14) hR (dc dt_X11_reaches 5 rfl) (by decide) q2r (fun hc => ?_) (fun hc => ?_)
    · replace h := ite_t hc h
      refine r_iload_n (pc := 14) hR (dc dt_X11_reaches 8 rfl) rfl ?_
      refine r_if_ne (pc := 15) (tgt := 30) hR (dc dt_X11_reaches 9 rfl) (by decide) q2 (fun hc => ?_) (fun hc => ?_)
      · replace h := ite_t hc h
        refine r_aload_n (pc := 30) hR (dc dt_X11_reaches 17 rfl) rfl ?_
        refine r_getr (pc := 31) (k2 := 115) hR (dc dt_X11_reaches 18 rfl) fl_X11_105 tc_83 rfl ?_
        refine r_iload_n (pc := 34) hR (dc dt_X11_reaches 19 rfl) rfl ?_
        obtain ⟨g1, h⟩ := gd_some h
        refine r_iald (pc := 35) hR (dc dt_X11_reaches 20 rfl) tc_115 g1 q1 ?_
        refine r_istore (pc := 36) (L' := [some (.ref (ad 83)), some (iv v1), some (iv v2), some (iv v3), some (iv r2), some (iv (rd m 115 v1)), none, none, none]) hR (dc dt_X11_reaches 21 rfl) (by decide) rfl rfl ?_
        refine r_bipush (pc := 38) hR (dc dt_X11_reaches 22 rfl) (by decide) ?_
        refine r_iload_n (pc := 40) hR (dc dt_X11_reaches 23 rfl) rfl ?_
        refine r_imul (pc := 41) hR (dc dt_X11_reaches 24 rfl) ?_
        refine r_bipush (pc := 42) hR (dc dt_X11_reaches 25 rfl) (by decide) ?_
        refine r_iadd (pc := 44) hR (dc dt_X11_reaches 26 rfl) ?_
        refine r_istore (pc := 45) (L' := [some (.ref (ad 83)), some (iv v1), some (iv v2), some (iv v3), some (iv r2), some (iv (rd m 115 v1)), some (iv (w32 ((w32 (6 * v1)) + 6))), none, none]) hR (dc dt_X11_reaches 27 rfl) (by decide) rfl rfl ?_
        refine r_iconst (pc := 47) hR (dc dt_X11_reaches 28 rfl) ?_
        refine r_istore (pc := 48) (L' := [some (.ref (ad 83)), some (iv v1), some (iv v2), some (iv v3), some (iv r2), some (iv (rd m 115 v1)), some (iv (w32 ((w32 (6 * v1)) + 6))), some (iv 0), none]) hR (dc dt_X11_reaches 29 rfl) (by decide) rfl rfl ?_
        refine r_weak (L' := [some (.ref (ad 83)), some (iv v1), some (iv v2), some (iv v3), none, some (iv (rd m 115 v1)), some (iv (w32 ((w32 (6 * v1)) + 6))), some (iv 0), none]) hR ⟨Or.inr rfl, Or.inr rfl, Or.inr rfl, Or.inr rfl, Or.inl rfl, Or.inr rfl, Or.inr rfl, Or.inr rfl, Or.inr rfl, trivial⟩ ?_
        refine lp_L11_reaches_50 hR hT rec_ok q1 q2 q3 (rd_in _ _ _) (w32_in _) FU 0 m (rg_c rfl) h
      replace h := ite_f hc h
      refine r_iload (pc := 18) hR (dc dt_X11_reaches 10 rfl) rfl ?_
      refine r_iload_n (pc := 20) hR (dc dt_X11_reaches 11 rfl) rfl ?_
      refine r_icmp_ne (pc := 21) (tgt := 28) hR (dc dt_X11_reaches 12 rfl) (by decide) q2r q3 (fun hc => ?_) (fun hc => ?_)
      · replace h := ite_t hc h
        refine r_iconst (pc := 28) hR (dc dt_X11_reaches 15 rfl) ?_
        exact r_zret hT (dc dt_X11_reaches 16 rfl) (congrArg Prod.fst (Option.some.inj h)) (congrArg Prod.snd (Option.some.inj h)) (Or.inl rfl)
      replace h := ite_f hc h
      refine r_iconst (pc := 24) hR (dc dt_X11_reaches 13 rfl) ?_
      refine r_goto (pc := 25) (tgt := 29) hR (dc dt_X11_reaches 14 rfl) (by decide) ?_
      exact r_zret hT (dc dt_X11_reaches 16 rfl) (congrArg Prod.fst (Option.some.inj h)) (congrArg Prod.snd (Option.some.inj h)) (Or.inr rfl)
    replace h := ite_f hc h
    refine r_iconst (pc := 12) hR (dc dt_X11_reaches 6 rfl) ?_
    exact r_zret hT (dc dt_X11_reaches 7 rfl) (congrArg Prod.fst (Option.some.inj h)) (congrArg Prod.snd (Option.some.inj h)) (Or.inl rfl)
end SIM
