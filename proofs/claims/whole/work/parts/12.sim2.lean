section SIM
variable {l : Launch} {G : va_G} {cy ad tt : Nat → Nat}
def tb_X4_gainOfChapter : List (Nat × (Instr × Nat)) := [(0, (.iconst 0, 1)), (1, (.istore 4, 2)), (3, (.aload_n 0, 1)), (4, (.getfield 24, 3)), (7, (.iconst 4, 1)), (8, (.invokevirtual 101, 3)), (11, (.ineg, 1)), (12, (.istore 5, 2)), (14, (.iconst 0, 1)), (15, (.istore 6, 2)), (17, (.iload 6, 2)), (19, (.iconst 4, 1)), (20, (.if_icmp .ge 53, 3)), (23, (.aload_n 0, 1)), (24, (.iload_n 3, 1)), (25, (.iload_n 2, 1)), (26, (.iload 6, 2)), (28, (.iadd, 1)), (29, (.invokevirtual 75, 3)), (32, (.aload_n 0, 1)), (33, (.iload_n 1, 1)), (34, (.iload_n 2, 1)), (35, (.iload 6, 2)), (37, (.iadd, 1)), (38, (.invokevirtual 75, 3)), (41, (.if_icmp .ne 26, 3)), (44, (.iload 4, 2)), (46, (.iconst 1, 1)), (47, (.iload 6, 2)), (49, (.ishl, 1)), (50, (.ior, 1)), (51, (.istore 4, 2)), (53, (.iload 5, 2)), (55, (.aload_n 0, 1)), (56, (.iload_n 1, 1)), (57, (.iload_n 2, 1)), (58, (.iload 6, 2)), (60, (.iadd, 1)), (61, (.invokevirtual 98, 3)), (64, (.iadd, 1)), (65, (.istore 5, 2)), (67, (.iinc 6 1, 3)), (70, (.goto (-53), 3)), (73, (.aload_n 0, 1)), (74, (.iload 4, 2)), (76, (.iconst 1, 1)), (77, (.iload 5, 2)), (79, (.invokevirtual 123, 3)), (82, (.return_, 1))]
set_option maxRecDepth 100000 in
theorem dt_X4_gainOfChapter : (tb_X4_gainOfChapter.all fun q => decide (decode cX4_gainOfChapter q.1 = .ok q.2)) = true := by decide +kernel
set_option maxRecDepth 100000 in
set_option maxHeartbeats 4000000 in
theorem lp_L4_gainOfChapter_17 {Go : Nat → List (Option Value) → List Value → Mem → Prop} (hR : RS l G cy ad tt RX4 cX4_gainOfChapter 7 3 Go) {out : Mem} {m : Mem} (hT : RT cX4_gainOfChapter none True out none Go) {v1 : Int} {v2 : Int} {v3 : Int} (qv1 : inR v1) (qv2 : inR v2) (qv3 : inR v3) {k73 : Int → Int → Option Mem} (hk73 : ∀ (v4 : Int) (v5 : Int), inR v4 → inR v5 → k73 v4 v5 = some out → Go 73 [some (.ref (ad 26)), none, none, none, some (iv v4), some (iv v5), none] [] m) : ∀ (n : Nat) (v4 : Int) (v5 : Int) (v6 : Int), inR v4 → inR v5 → inR v6 → L4_gainOfChapter_17 m v1 v2 v3 k73 n v4 v5 v6 = some out → Go 17 [some (.ref (ad 26)), some (iv v1), some (iv v2), some (iv v3), some (iv v4), some (iv v5), some (iv v6)] [] m := by
  intro n
  induction n with
  | zero =>
    intro v4 v5 v6 qv4 qv5 qv6 h
    cases h
  | succ n ih =>
    intro v4 v5 v6 qv4 qv5 qv6 h
    rw [L4_gainOfChapter_17] at h
    refine r_iload (pc := 17) hR (dc dt_X4_gainOfChapter 10 rfl) rfl ?_
    refine r_iconst (pc := 19) hR (dc dt_X4_gainOfChapter 11 rfl) ?_
    refine r_icmp_ge (pc := 20) (tgt := 73) hR (dc dt_X4_gainOfChapter 12 rfl) (by decide) qv6 (rg_c rfl) (fun hc => ?_) (fun hc => ?_)
    · replace h := ite_t hc h
      refine r_weak (L' := [some (.ref (ad 26)), none, none, none, some (iv v4), some (iv v5), none]) hR ⟨Or.inr rfl, Or.inl rfl, Or.inl rfl, Or.inl rfl, Or.inr rfl, Or.inr rfl, Or.inl rfl, trivial⟩ ?_
      exact hk73 v4 v5 qv4 qv5 h
    replace h := ite_f hc h
    refine r_aload_n (pc := 23) hR (dc dt_X4_gainOfChapter 13 rfl) rfl ?_
    refine r_iload_n (pc := 24) hR (dc dt_X4_gainOfChapter 14 rfl) rfl ?_
    refine r_iload_n (pc := 25) hR (dc dt_X4_gainOfChapter 15 rfl) rfl ?_
    refine r_iload (pc := 26) hR (dc dt_X4_gainOfChapter 16 rfl) rfl ?_
    refine r_iadd (pc := 28) hR (dc dt_X4_gainOfChapter 17 rfl) ?_
    obtain ⟨r29, e29, h⟩ := b1_some h
    refine r_callV (pc := 29) (rest := []) hR (dc dt_X4_gainOfChapter 18 rfl) cl_X4_75 tc_26 rfl (ok_F4_filledForm qv3 (w32_in _) e29) (by decide) rfl (Nat.le_of_ble_eq_true rfl) rfl (fun q29r => ?_)
    show Go 32 [some (.ref (ad 26)), some (iv v1), some (iv v2), some (iv v3), some (iv v4), some (iv v5), some (iv v6)] [iv r29] m
    refine r_aload_n (pc := 32) hR (dc dt_X4_gainOfChapter 19 rfl) rfl ?_
    refine r_iload_n (pc := 33) hR (dc dt_X4_gainOfChapter 20 rfl) rfl ?_
    refine r_iload_n (pc := 34) hR (dc dt_X4_gainOfChapter 21 rfl) rfl ?_
    refine r_iload (pc := 35) hR (dc dt_X4_gainOfChapter 22 rfl) rfl ?_
    refine r_iadd (pc := 37) hR (dc dt_X4_gainOfChapter 23 rfl) ?_
    obtain ⟨r38, e38, h⟩ := b1_some h
    refine r_callV (pc := 38) (rest := [iv r29]) hR (dc dt_X4_gainOfChapter 24 rfl) cl_X4_75 tc_26 rfl (ok_F4_filledForm qv1 (w32_in _) e38) (by decide) rfl (Nat.le_of_ble_eq_true rfl) rfl (fun q38r => ?_)
    show Go 41 [some (.ref (ad 26)), some (iv v1), some (iv v2), some (iv v3), some (iv v4), some (iv v5), some (iv v6)] [iv r38, iv r29] m
    refine jn_e h (fun (K : Int → Int → Option Mem) => ∀ (v4_67 : Int) (v5_67 : Int), inR v4_67 → inR v5_67 → K v4_67 v5_67 = some out → Go 67 [some (.ref (ad 26)), some (iv v1), some (iv v2), some (iv v3), some (iv v4_67), some (iv v5_67), some (iv v6)] [] m) (fun v4_67 v5_67 qv4_67 qv5_67 h => ?_) (fun K67 J67 h => ?_)
    · refine r_iinc (pc := 67) (L' := [some (.ref (ad 26)), some (iv v1), some (iv v2), some (iv v3), some (iv v4_67), some (iv v5_67), some (iv (w32 (v6 + 1)))]) hR (dc dt_X4_gainOfChapter 41 rfl) rfl (by decide) rfl rfl ?_
      refine r_goto (pc := 70) (tgt := 17) hR (dc dt_X4_gainOfChapter 42 rfl) (by decide) ?_
      exact ih v4_67 v5_67 (w32 (v6 + 1)) qv4_67 qv5_67 (w32_in _) h
    refine r_icmp_ne (pc := 41) (tgt := 67) hR (dc dt_X4_gainOfChapter 25 rfl) (by decide) q29r q38r (fun hc => ?_) (fun hc => ?_)
    · replace h := ite_t hc h
      exact J67 v4 v5 qv4 qv5 h
    replace h := ite_f hc h
    refine r_iload (pc := 44) hR (dc dt_X4_gainOfChapter 26 rfl) rfl ?_
    refine r_iconst (pc := 46) hR (dc dt_X4_gainOfChapter 27 rfl) ?_
    refine r_iload (pc := 47) hR (dc dt_X4_gainOfChapter 28 rfl) rfl ?_
    refine r_ishl (pc := 49) hR (dc dt_X4_gainOfChapter 29 rfl) ?_
    refine r_ior (pc := 50) hR (dc dt_X4_gainOfChapter 30 rfl) ?_
    refine r_istore (pc := 51) (L' := [some (.ref (ad 26)), some (iv v1), some (iv v2), some (iv v3), some (iv (bor v4 (shl 1 v6))), some (iv v5), some (iv v6)]) hR (dc dt_X4_gainOfChapter 31 rfl) (by decide) rfl rfl ?_
    refine r_iload (pc := 53) hR (dc dt_X4_gainOfChapter 32 rfl) rfl ?_
    refine r_aload_n (pc := 55) hR (dc dt_X4_gainOfChapter 33 rfl) rfl ?_
    refine r_iload_n (pc := 56) hR (dc dt_X4_gainOfChapter 34 rfl) rfl ?_
    refine r_iload_n (pc := 57) hR (dc dt_X4_gainOfChapter 35 rfl) rfl ?_
    refine r_iload (pc := 58) hR (dc dt_X4_gainOfChapter 36 rfl) rfl ?_
    refine r_iadd (pc := 60) hR (dc dt_X4_gainOfChapter 37 rfl) ?_
    obtain ⟨r61, e61, h⟩ := b1_some h
    refine r_callV (pc := 61) (rest := [iv v5]) hR (dc dt_X4_gainOfChapter 38 rfl) cl_X4_98 tc_26 rfl (ok_F4_paid qv1 (w32_in _) e61) (by decide) rfl (Nat.le_of_ble_eq_true rfl) rfl (fun q61r => ?_)
    show Go 64 [some (.ref (ad 26)), some (iv v1), some (iv v2), some (iv v3), some (iv (bor v4 (shl 1 v6))), some (iv v5), some (iv v6)] [iv r61, iv v5] m
    refine r_iadd (pc := 64) hR (dc dt_X4_gainOfChapter 39 rfl) ?_
    refine r_istore (pc := 65) (L' := [some (.ref (ad 26)), some (iv v1), some (iv v2), some (iv v3), some (iv (bor v4 (shl 1 v6))), some (iv (w32 (v5 + r61))), some (iv v6)]) hR (dc dt_X4_gainOfChapter 40 rfl) (by decide) rfl rfl ?_
    exact J67 (bor v4 (shl 1 v6)) (w32 (v5 + r61)) (ti_in _) (w32_in _) h
set_option maxRecDepth 100000 in
set_option maxHeartbeats 4000000 in
theorem ok_F4_gainOfChapter {m : Mem}  {v1 v2 v3 : Int} (q1 : inR v1) (q2 : inR v2) (q3 : inR v3) {out : Mem} (h : F4_gainOfChapter m v1 v2 v3 = some out) : CT l G cy ad tt yX4_gainOfChapter cX4_gainOfChapter 7 none 3 [.ref (ad 26), iv v1, iv v2, iv v3] m none True out := by
  refine CT_of (by decide) (Nat.le_of_ble_eq_true rfl) (fun Go hR hT => ?_)
  replace hR : RS l G cy ad tt RX4 cX4_gainOfChapter 7 3 Go := hR
  show Go 0 [some (.ref (ad 26)), some (iv v1), some (iv v2), some (iv v3), none, none, none] [] m
  unfold F4_gainOfChapter at h
  refine r_iconst (pc := 0) hR (dc dt_X4_gainOfChapter 0 rfl) ?_
  refine r_istore (pc := 1) (L' := [some (.ref (ad 26)), some (iv v1), some (iv v2), some (iv v3), some (iv 0), none, none]) hR (dc dt_X4_gainOfChapter 1 rfl) (by decide) rfl rfl ?_
  refine r_aload_n (pc := 3) hR (dc dt_X4_gainOfChapter 2 rfl) rfl ?_
  refine r_getr (pc := 4) (k2 := 4) hR (dc dt_X4_gainOfChapter 3 rfl) fl_X4_24 tc_26 rfl ?_
  refine r_iconst (pc := 7) hR (dc dt_X4_gainOfChapter 4 rfl) ?_
  obtain ⟨r8, e8, h⟩ := b1_some h
  refine r_callV (pc := 8) (rest := []) hR (dc dt_X4_gainOfChapter 5 rfl) cl_X4_101 tc_4 rfl (ok_F1_costOf (rg_c rfl) e8) (by decide) rfl (Nat.le_of_ble_eq_true rfl) rfl (fun q8r => ?_)
  show Go 11 [some (.ref (ad 26)), some (iv v1), some (iv v2), some (iv v3), some (iv 0), none, none] [iv r8] m
  refine r_ineg (pc := 11) hR (dc dt_X4_gainOfChapter 6 rfl) ?_
  refine r_istore (pc := 12) (L' := [some (.ref (ad 26)), some (iv v1), some (iv v2), some (iv v3), some (iv 0), some (iv (w32 (-r8))), none]) hR (dc dt_X4_gainOfChapter 7 rfl) (by decide) rfl rfl ?_
  refine r_iconst (pc := 14) hR (dc dt_X4_gainOfChapter 8 rfl) ?_
  refine r_istore (pc := 15) (L' := [some (.ref (ad 26)), some (iv v1), some (iv v2), some (iv v3), some (iv 0), some (iv (w32 (-r8))), some (iv 0)]) hR (dc dt_X4_gainOfChapter 9 rfl) (by decide) rfl rfl ?_
  refine lp_L4_gainOfChapter_17 hR hT q1 q2 q3 (fun v4_73 v5_73 qv4_73 qv5_73 h => ?_) FU 0 (w32 (-r8)) 0 (rg_c rfl) (w32_in _) (rg_c rfl) h
  show Go 73 [some (.ref (ad 26)), none, none, none, some (iv v4_73), some (iv v5_73), none] [] m
  refine r_aload_n (pc := 73) hR (dc dt_X4_gainOfChapter 43 rfl) rfl ?_
  refine r_iload (pc := 74) hR (dc dt_X4_gainOfChapter 44 rfl) rfl ?_
  refine r_iconst (pc := 76) hR (dc dt_X4_gainOfChapter 45 rfl) ?_
  refine r_iload (pc := 77) hR (dc dt_X4_gainOfChapter 46 rfl) rfl ?_
  obtain ⟨m79, e79, h⟩ := b1_some h
  refine r_callV (pc := 79) (rest := []) hR (dc dt_X4_gainOfChapter 47 rfl) cl_X4_123 tc_26 rfl (ok_F4_gainBeside qv4_73 (rg_c rfl) qv5_73 e79) (by decide) rfl (Nat.le_of_ble_eq_true rfl) rfl (fun q79r => ?_)
  show Go 82 [some (.ref (ad 26)), none, none, none, some (iv v4_73), some (iv v5_73), none] [] m79
  exact r_vret hT (dc dt_X4_gainOfChapter 48 rfl) (Option.some.inj h)
def tb_X4_weighChapter : List (Nat × (Instr × Nat)) := [(0, (.iconst 0, 1)), (1, (.istore_n 3, 1)), (2, (.iconst 0, 1)), (3, (.istore 4, 2)), (5, (.iload 4, 2)), (7, (.iconst 4, 1)), (8, (.if_icmp .ge 75, 3)), (11, (.aload_n 0, 1)), (12, (.iload_n 1, 1)), (13, (.iload_n 2, 1)), (14, (.iload 4, 2)), (16, (.iadd, 1)), (17, (.invokevirtual 98, 3)), (20, (.istore 5, 2)), (22, (.aload_n 0, 1)), (23, (.iload_n 1, 1)), (24, (.iload_n 2, 1)), (25, (.iload 4, 2)), (27, (.iadd, 1)), (28, (.invokevirtual 104, 3)), (31, (.ifCond .lt 7, 3)), (34, (.iconst 1, 1)), (35, (.goto 4, 3)), (38, (.iconst 0, 1)), (39, (.istore 6, 2)), (41, (.aload_n 0, 1)), (42, (.getfield 21, 3)), (45, (.iload 4, 2)), (47, (.iload 6, 2)), (49, (.ifCond .eq 21, 3)), (52, (.iconst 0, 1)), (53, (.iload 5, 2)), (55, (.aload_n 0, 1)), (56, (.getfield 24, 3)), (59, (.iconst 3, 1)), (60, (.invokevirtual 101, 3)), (63, (.isub, 1)), (64, (.invokestatic 118, 3)), (67, (.goto 4, 3)), (70, (.iconst 0, 1)), (71, (.iastore, 1)), (72, (.iload_n 3, 1)), (73, (.iload 5, 2)), (75, (.iadd, 1)), (76, (.istore_n 3, 1)), (77, (.iinc 4 1, 3)), (80, (.goto (-75), 3)), (83, (.aload_n 0, 1)), (84, (.getfield 15, 3)), (87, (.iconst 0, 1)), (88, (.invokestatic 107, 3)), (91, (.aload_n 0, 1)), (92, (.iconst 0, 1)), (93, (.iconst 0, 1)), (94, (.iconst 0, 1)), (95, (.invokevirtual 123, 3)), (98, (.iconst 0, 1)), (99, (.istore 4, 2)), (101, (.iload 4, 2)), (103, (.aload_n 0, 1)), (104, (.getfield 24, 3)), (107, (.getfield 56, 3)), (110, (.if_icmp .ge 27, 3)), (113, (.aload_n 0, 1)), (114, (.iload 4, 2)), (116, (.iload_n 1, 1)), (117, (.invokevirtual 95, 3)), (120, (.ifCond .eq 11, 3)), (123, (.aload_n 0, 1)), (124, (.iload_n 1, 1)), (125, (.iload_n 2, 1)), (126, (.iload 4, 2)), (128, (.invokevirtual 127, 3)), (131, (.iinc 4 1, 3)), (134, (.goto (-33), 3)), (137, (.iload_n 3, 1)), (138, (.ireturn, 1))]
set_option maxRecDepth 100000 in
theorem dt_X4_weighChapter : (tb_X4_weighChapter.all fun q => decide (decode cX4_weighChapter q.1 = .ok q.2)) = true := by decide +kernel
set_option maxRecDepth 100000 in
set_option maxHeartbeats 4000000 in
theorem lp_L4_weighChapter_5 {Go : Nat → List (Option Value) → List Value → Mem → Prop} (hR : RS l G cy ad tt RX4 cX4_weighChapter 7 4 Go) {out : Int × Mem} (hT : RT cX4_weighChapter (some (iv out.1)) (inR out.1) out.2 (some .int) Go) {v1 : Int} {v2 : Int} (qv1 : inR v1) (qv2 : inR v2) {k83 : Int → Mem → Option (Int × Mem)} (hk83 : ∀ (v3 : Int) (m : Mem), inR v3 → k83 v3 m = some out → Go 83 [some (.ref (ad 26)), some (iv v1), some (iv v2), some (iv v3), none, none, none] [] m) : ∀ (n : Nat) (v3 : Int) (v4 : Int) (m : Mem), inR v3 → inR v4 → L4_weighChapter_5 v1 v2 k83 n v3 v4 m = some out → Go 5 [some (.ref (ad 26)), some (iv v1), some (iv v2), some (iv v3), some (iv v4), none, none] [] m := by
  intro n
  induction n with
  | zero =>
    intro v3 v4 m qv3 qv4 h
    cases h
  | succ n ih =>
    intro v3 v4 m qv3 qv4 h
    rw [L4_weighChapter_5] at h
    refine r_iload (pc := 5) hR (dc dt_X4_weighChapter 4 rfl) rfl ?_
    refine r_iconst (pc := 7) hR (dc dt_X4_weighChapter 5 rfl) ?_
    refine r_icmp_ge (pc := 8) (tgt := 83) hR (dc dt_X4_weighChapter 6 rfl) (by decide) qv4 (rg_c rfl) (fun hc => ?_) (fun hc => ?_)
    · replace h := ite_t hc h
      refine r_weak (L' := [some (.ref (ad 26)), some (iv v1), some (iv v2), some (iv v3), none, none, none]) hR ⟨Or.inr rfl, Or.inr rfl, Or.inr rfl, Or.inr rfl, Or.inl rfl, Or.inr rfl, Or.inr rfl, trivial⟩ ?_
      exact hk83 v3 m qv3 h
    replace h := ite_f hc h
    refine r_aload_n (pc := 11) hR (dc dt_X4_weighChapter 7 rfl) rfl ?_
    refine r_iload_n (pc := 12) hR (dc dt_X4_weighChapter 8 rfl) rfl ?_
    refine r_iload_n (pc := 13) hR (dc dt_X4_weighChapter 9 rfl) rfl ?_
    refine r_iload (pc := 14) hR (dc dt_X4_weighChapter 10 rfl) rfl ?_
    refine r_iadd (pc := 16) hR (dc dt_X4_weighChapter 11 rfl) ?_
    obtain ⟨r17, e17, h⟩ := b1_some h
    refine r_callV (pc := 17) (rest := []) hR (dc dt_X4_weighChapter 12 rfl) cl_X4_98 tc_26 rfl (ok_F4_paid qv1 (w32_in _) e17) (by decide) rfl (Nat.le_of_ble_eq_true rfl) rfl (fun q17r => ?_)
    show Go 20 [some (.ref (ad 26)), some (iv v1), some (iv v2), some (iv v3), some (iv v4), none, none] [iv r17] m
    refine r_istore (pc := 20) (L' := [some (.ref (ad 26)), some (iv v1), some (iv v2), some (iv v3), some (iv v4), some (iv r17), none]) hR (dc dt_X4_weighChapter 13 rfl) (by decide) rfl rfl ?_
    refine r_aload_n (pc := 22) hR (dc dt_X4_weighChapter 14 rfl) rfl ?_
    refine r_iload_n (pc := 23) hR (dc dt_X4_weighChapter 15 rfl) rfl ?_
    refine r_iload_n (pc := 24) hR (dc dt_X4_weighChapter 16 rfl) rfl ?_
    refine r_iload (pc := 25) hR (dc dt_X4_weighChapter 17 rfl) rfl ?_
    refine r_iadd (pc := 27) hR (dc dt_X4_weighChapter 18 rfl) ?_
    obtain ⟨r28, e28, h⟩ := b1_some h
    refine r_callV (pc := 28) (rest := []) hR (dc dt_X4_weighChapter 19 rfl) cl_X4_104 tc_26 rfl (ok_F4_leastLender qv1 (w32_in _) e28) (by decide) rfl (Nat.le_of_ble_eq_true rfl) rfl (fun q28r => ?_)
    show Go 31 [some (.ref (ad 26)), some (iv v1), some (iv v2), some (iv v3), some (iv v4), some (iv r17), none] [iv r28] m
    refine jn_e h (fun (K : Int → Option (Int × Mem)) => ∀ (x39 : Int), inZ x39 → K x39 = some out → Go 39 [some (.ref (ad 26)), some (iv v1), some (iv v2), some (iv v3), some (iv v4), some (iv r17), none] [iv x39] m) (fun x39 qx39 h => ?_) (fun K39 J39 h => ?_)
    · refine r_istore (pc := 39) (L' := [some (.ref (ad 26)), some (iv v1), some (iv v2), some (iv v3), some (iv v4), some (iv r17), some (iv x39)]) hR (dc dt_X4_weighChapter 24 rfl) (by decide) rfl rfl ?_
      refine r_aload_n (pc := 41) hR (dc dt_X4_weighChapter 25 rfl) rfl ?_
      refine r_getr (pc := 42) (k2 := 30) hR (dc dt_X4_weighChapter 26 rfl) fl_X4_21 tc_26 rfl ?_
      refine r_iload (pc := 45) hR (dc dt_X4_weighChapter 27 rfl) rfl ?_
      refine r_iload (pc := 47) hR (dc dt_X4_weighChapter 28 rfl) rfl ?_
      refine jn_e h (fun (K : Int → Option (Int × Mem)) => ∀ (x71 : Int), inR x71 → K x71 = some out → Go 71 [some (.ref (ad 26)), some (iv v1), some (iv v2), some (iv v3), some (iv v4), some (iv r17), none] [iv x71, iv v4, .ref (ad 30)] m) (fun x71 qx71 h => ?_) (fun K71 J71 h => ?_)
      · obtain ⟨g1, h⟩ := gd_some h
        refine r_iast (pc := 71) hR (dc dt_X4_weighChapter 40 rfl) tc_30 g1 qv4 ?_
        replace h := stw_e h
        generalize wr m 30 v4 x71 = m71 at h ⊢
        refine r_iload_n (pc := 72) hR (dc dt_X4_weighChapter 41 rfl) rfl ?_
        refine r_iload (pc := 73) hR (dc dt_X4_weighChapter 42 rfl) rfl ?_
        refine r_iadd (pc := 75) hR (dc dt_X4_weighChapter 43 rfl) ?_
        refine r_istore_n (pc := 76) (L' := [some (.ref (ad 26)), some (iv v1), some (iv v2), some (iv (w32 (v3 + r17))), some (iv v4), some (iv r17), none]) hR (dc dt_X4_weighChapter 44 rfl) (by decide) rfl rfl ?_
        refine r_iinc (pc := 77) (L' := [some (.ref (ad 26)), some (iv v1), some (iv v2), some (iv (w32 (v3 + r17))), some (iv (w32 (v4 + 1))), some (iv r17), none]) hR (dc dt_X4_weighChapter 45 rfl) rfl (by decide) rfl rfl ?_
        refine r_goto (pc := 80) (tgt := 5) hR (dc dt_X4_weighChapter 46 rfl) (by decide) ?_
        refine r_weak (L' := [some (.ref (ad 26)), some (iv v1), some (iv v2), some (iv (w32 (v3 + r17))), some (iv (w32 (v4 + 1))), none, none]) hR ⟨Or.inr rfl, Or.inr rfl, Or.inr rfl, Or.inr rfl, Or.inr rfl, Or.inl rfl, Or.inr rfl, trivial⟩ ?_
        exact ih (w32 (v3 + r17)) (w32 (v4 + 1)) m71 (w32_in _) (w32_in _) h
      refine r_if_eq (pc := 49) (tgt := 70) hR (dc dt_X4_weighChapter 29 rfl) (by decide) (inZ_R qx39) (fun hc => ?_) (fun hc => ?_)
      · replace h := ite_t hc h
        refine r_iconst (pc := 70) hR (dc dt_X4_weighChapter 39 rfl) ?_
        refine r_weak (L' := [some (.ref (ad 26)), some (iv v1), some (iv v2), some (iv v3), some (iv v4), some (iv r17), none]) hR ⟨Or.inr rfl, Or.inr rfl, Or.inr rfl, Or.inr rfl, Or.inr rfl, Or.inr rfl, Or.inl rfl, trivial⟩ ?_
        exact J71 0 (rg_c rfl) h
      replace h := ite_f hc h
      refine r_iconst (pc := 52) hR (dc dt_X4_weighChapter 30 rfl) ?_
      refine r_iload (pc := 53) hR (dc dt_X4_weighChapter 31 rfl) rfl ?_
      refine r_aload_n (pc := 55) hR (dc dt_X4_weighChapter 32 rfl) rfl ?_
      refine r_getr (pc := 56) (k2 := 4) hR (dc dt_X4_weighChapter 33 rfl) fl_X4_24 tc_26 rfl ?_
      refine r_iconst (pc := 59) hR (dc dt_X4_weighChapter 34 rfl) ?_
      obtain ⟨r60, e60, h⟩ := b1_some h
      refine r_callV (pc := 60) (rest := [iv r17, iv 0, iv v4, .ref (ad 30)]) hR (dc dt_X4_weighChapter 35 rfl) cl_X4_101 tc_4 rfl (ok_F1_costOf (rg_c rfl) e60) (by decide) rfl (Nat.le_of_ble_eq_true rfl) rfl (fun q60r => ?_)
      show Go 63 [some (.ref (ad 26)), some (iv v1), some (iv v2), some (iv v3), some (iv v4), some (iv r17), some (iv x39)] [iv r60, iv r17, iv 0, iv v4, .ref (ad 30)] m
      refine r_isub (pc := 63) hR (dc dt_X4_weighChapter 36 rfl) ?_
      refine r_max (pc := 64) hR (dc dt_X4_weighChapter 37 rfl) mw_X4_118 (rg_c rfl) (w32_in _) (Nat.le_of_ble_eq_true rfl) (by decide) ?_
      refine r_goto (pc := 67) (tgt := 71) hR (dc dt_X4_weighChapter 38 rfl) (by decide) ?_
      refine r_weak (L' := [some (.ref (ad 26)), some (iv v1), some (iv v2), some (iv v3), some (iv v4), some (iv r17), none]) hR ⟨Or.inr rfl, Or.inr rfl, Or.inr rfl, Or.inr rfl, Or.inr rfl, Or.inr rfl, Or.inl rfl, trivial⟩ ?_
      exact J71 (imx 0 (w32 (r17 - r60))) (imx_in (rg_c rfl) (w32_in _)) h
    refine r_if_lt (pc := 31) (tgt := 38) hR (dc dt_X4_weighChapter 20 rfl) (by decide) q28r (fun hc => ?_) (fun hc => ?_)
    · replace h := ite_t hc h
      refine r_iconst (pc := 38) hR (dc dt_X4_weighChapter 23 rfl) ?_
      exact J39 0 (Or.inl rfl) h
    replace h := ite_f hc h
    refine r_iconst (pc := 34) hR (dc dt_X4_weighChapter 21 rfl) ?_
    refine r_goto (pc := 35) (tgt := 39) hR (dc dt_X4_weighChapter 22 rfl) (by decide) ?_
    exact J39 1 (Or.inr rfl) h
set_option maxRecDepth 100000 in
set_option maxHeartbeats 4000000 in
theorem lp_L4_weighChapter_101 {Go : Nat → List (Option Value) → List Value → Mem → Prop} (hR : RS l G cy ad tt RX4 cX4_weighChapter 7 4 Go) {out : Int × Mem} (hT : RT cX4_weighChapter (some (iv out.1)) (inR out.1) out.2 (some .int) Go) {v1 : Int} {v2 : Int} {v3 : Int} (qv1 : inR v1) (qv2 : inR v2) (qv3 : inR v3) : ∀ (n : Nat) (v4 : Int) (m : Mem), inR v4 → L4_weighChapter_101 v1 v2 v3 n v4 m = some out → Go 101 [some (.ref (ad 26)), some (iv v1), some (iv v2), some (iv v3), some (iv v4), none, none] [] m := by
  intro n
  induction n with
  | zero =>
    intro v4 m qv4 h
    cases h
  | succ n ih =>
    intro v4 m qv4 h
    rw [L4_weighChapter_101] at h
    refine r_iload (pc := 101) hR (dc dt_X4_weighChapter 58 rfl) rfl ?_
    refine r_aload_n (pc := 103) hR (dc dt_X4_weighChapter 59 rfl) rfl ?_
    refine r_getr (pc := 104) (k2 := 4) hR (dc dt_X4_weighChapter 60 rfl) fl_X4_24 tc_26 rfl ?_
    refine r_geti (pc := 107) hR (dc dt_X4_weighChapter 61 rfl) fl_X4_56 tc_4 rfl ?_
    refine r_icmp_ge (pc := 110) (tgt := 137) hR (dc dt_X4_weighChapter 62 rfl) (by decide) qv4 (rd_in _ _ _) (fun hc => ?_) (fun hc => ?_)
    · replace h := ite_t hc h
      refine r_iload_n (pc := 137) hR (dc dt_X4_weighChapter 75 rfl) rfl ?_
      exact r_iret hT (dc dt_X4_weighChapter 76 rfl) (congrArg Prod.fst (Option.some.inj h)) (congrArg Prod.snd (Option.some.inj h)) qv3
    replace h := ite_f hc h
    refine r_aload_n (pc := 113) hR (dc dt_X4_weighChapter 63 rfl) rfl ?_
    refine r_iload (pc := 114) hR (dc dt_X4_weighChapter 64 rfl) rfl ?_
    refine r_iload_n (pc := 116) hR (dc dt_X4_weighChapter 65 rfl) rfl ?_
    obtain ⟨r117, e117, h⟩ := b1_some h
    refine r_callV (pc := 117) (rest := []) hR (dc dt_X4_weighChapter 66 rfl) cl_X4_95 tc_26 rfl (ok_F4_lends qv4 qv1 e117) (by decide) rfl (Nat.le_of_ble_eq_true rfl) rfl (fun q117r => ?_)
    show Go 120 [some (.ref (ad 26)), some (iv v1), some (iv v2), some (iv v3), some (iv v4), none, none] [iv r117] m
    refine jn_e h (fun (K : Mem → Option (Int × Mem)) => ∀ (m_131 : Mem), K m_131 = some out → Go 131 [some (.ref (ad 26)), some (iv v1), some (iv v2), some (iv v3), some (iv v4), none, none] [] m_131) (fun m_131 h => ?_) (fun K131 J131 h => ?_)
    · refine r_iinc (pc := 131) (L' := [some (.ref (ad 26)), some (iv v1), some (iv v2), some (iv v3), some (iv (w32 (v4 + 1))), none, none]) hR (dc dt_X4_weighChapter 73 rfl) rfl (by decide) rfl rfl ?_
      refine r_goto (pc := 134) (tgt := 101) hR (dc dt_X4_weighChapter 74 rfl) (by decide) ?_
      exact ih (w32 (v4 + 1)) m_131 (w32_in _) h
    refine r_if_eq (pc := 120) (tgt := 131) hR (dc dt_X4_weighChapter 67 rfl) (by decide) (inZ_R q117r) (fun hc => ?_) (fun hc => ?_)
    · replace h := ite_t hc h
      exact J131 m h
    replace h := ite_f hc h
    refine r_aload_n (pc := 123) hR (dc dt_X4_weighChapter 68 rfl) rfl ?_
    refine r_iload_n (pc := 124) hR (dc dt_X4_weighChapter 69 rfl) rfl ?_
    refine r_iload_n (pc := 125) hR (dc dt_X4_weighChapter 70 rfl) rfl ?_
    refine r_iload (pc := 126) hR (dc dt_X4_weighChapter 71 rfl) rfl ?_
    obtain ⟨m128, e128, h⟩ := b1_some h
    refine r_callV (pc := 128) (rest := []) hR (dc dt_X4_weighChapter 72 rfl) cl_X4_127 tc_26 rfl (ok_F4_gainOfChapter qv1 qv2 qv4 e128) (by decide) rfl (Nat.le_of_ble_eq_true rfl) rfl (fun q128r => ?_)
    show Go 131 [some (.ref (ad 26)), some (iv v1), some (iv v2), some (iv v3), some (iv v4), none, none] [] m128
    exact J131 m128 h
set_option maxRecDepth 100000 in
set_option maxHeartbeats 4000000 in
theorem ok_F4_weighChapter {m : Mem}  {v1 v2 : Int} (q1 : inR v1) (q2 : inR v2) {out : Int × Mem} (h : F4_weighChapter m v1 v2 = some out) : CT l G cy ad tt yX4_weighChapter cX4_weighChapter 7 (some .int) 4 [.ref (ad 26), iv v1, iv v2] m (some (iv out.1)) (inR out.1) out.2 := by
  refine CT_of (by decide) (Nat.le_of_ble_eq_true rfl) (fun Go hR hT => ?_)
  replace hR : RS l G cy ad tt RX4 cX4_weighChapter 7 4 Go := hR
  show Go 0 [some (.ref (ad 26)), some (iv v1), some (iv v2), none, none, none, none] [] m
  unfold F4_weighChapter at h
  refine r_iconst (pc := 0) hR (dc dt_X4_weighChapter 0 rfl) ?_
  refine r_istore_n (pc := 1) (L' := [some (.ref (ad 26)), some (iv v1), some (iv v2), some (iv 0), none, none, none]) hR (dc dt_X4_weighChapter 1 rfl) (by decide) rfl rfl ?_
  refine r_iconst (pc := 2) hR (dc dt_X4_weighChapter 2 rfl) ?_
  refine r_istore (pc := 3) (L' := [some (.ref (ad 26)), some (iv v1), some (iv v2), some (iv 0), some (iv 0), none, none]) hR (dc dt_X4_weighChapter 3 rfl) (by decide) rfl rfl ?_
  refine lp_L4_weighChapter_5 hR hT q1 q2 (fun v3_83 m_83 qv3_83 h => ?_) FU 0 0 m (rg_c rfl) (rg_c rfl) h
  show Go 83 [some (.ref (ad 26)), some (iv v1), some (iv v2), some (iv v3_83), none, none, none] [] m_83
  refine r_aload_n (pc := 83) hR (dc dt_X4_weighChapter 47 rfl) rfl ?_
  refine r_getr (pc := 84) (k2 := 28) hR (dc dt_X4_weighChapter 48 rfl) fl_X4_15 tc_26 rfl ?_
  refine r_iconst (pc := 87) hR (dc dt_X4_weighChapter 49 rfl) ?_
  obtain ⟨m88, e88, h⟩ := b1_some h
  refine r_callS (pc := 88) (rest := []) hR (dc dt_X4_weighChapter 50 rfl) cl_X4_107 (ok_FJ7_fill_53178 tc_28 (by decide) (rg_c rfl) e88) (by decide) rfl (Nat.le_of_ble_eq_true rfl) rfl (fun q88r => ?_)
  show Go 91 [some (.ref (ad 26)), some (iv v1), some (iv v2), some (iv v3_83), none, none, none] [] m88
  refine r_aload_n (pc := 91) hR (dc dt_X4_weighChapter 51 rfl) rfl ?_
  refine r_iconst (pc := 92) hR (dc dt_X4_weighChapter 52 rfl) ?_
  refine r_iconst (pc := 93) hR (dc dt_X4_weighChapter 53 rfl) ?_
  refine r_iconst (pc := 94) hR (dc dt_X4_weighChapter 54 rfl) ?_
  obtain ⟨m95, e95, h⟩ := b1_some h
  refine r_callV (pc := 95) (rest := []) hR (dc dt_X4_weighChapter 55 rfl) cl_X4_123 tc_26 rfl (ok_F4_gainBeside (rg_c rfl) (rg_c rfl) (rg_c rfl) e95) (by decide) rfl (Nat.le_of_ble_eq_true rfl) rfl (fun q95r => ?_)
  show Go 98 [some (.ref (ad 26)), some (iv v1), some (iv v2), some (iv v3_83), none, none, none] [] m95
  refine r_iconst (pc := 98) hR (dc dt_X4_weighChapter 56 rfl) ?_
  refine r_istore (pc := 99) (L' := [some (.ref (ad 26)), some (iv v1), some (iv v2), some (iv v3_83), some (iv 0), none, none]) hR (dc dt_X4_weighChapter 57 rfl) (by decide) rfl rfl ?_
  refine lp_L4_weighChapter_101 hR hT q1 q2 qv3_83 FU 0 m95 (rg_c rfl) h
def tb_X4_share : List (Nat × (Instr × Nat)) := [(0, (.iload_n 1, 1)), (1, (.bipush 20, 2)), (3, (.invokestatic 135, 3)), (6, (.istore_n 2, 1)), (7, (.iload_n 2, 1)), (8, (.ifCond .le 61, 3)), (11, (.iconst 1, 1)), (12, (.istore_n 3, 1)), (13, (.iload_n 3, 1)), (14, (.aload_n 0, 1)), (15, (.getfield 15, 3)), (18, (.arraylength, 1)), (19, (.if_icmp .ge 44, 3)), (22, (.iload_n 3, 1)), (23, (.iload_n 2, 1)), (24, (.if_icmp .gt 39, 3)), (27, (.aload_n 0, 1)), (28, (.getfield 18, 3)), (31, (.iload_n 2, 1)), (32, (.aload_n 0, 1)), (33, (.getfield 18, 3)), (36, (.iload_n 2, 1)), (37, (.iaload, 1)), (38, (.aload_n 0, 1)), (39, (.getfield 18, 3)), (42, (.iload_n 2, 1)), (43, (.iload_n 3, 1)), (44, (.isub, 1)), (45, (.iaload, 1)), (46, (.aload_n 0, 1)), (47, (.getfield 15, 3)), (50, (.iload_n 3, 1)), (51, (.iaload, 1)), (52, (.iadd, 1)), (53, (.invokestatic 118, 3)), (56, (.iastore, 1)), (57, (.iinc 3 1, 3)), (60, (.goto (-47), 3)), (63, (.iinc 2 (-1), 3)), (66, (.goto (-59), 3)), (69, (.return_, 1))]
set_option maxRecDepth 100000 in
theorem dt_X4_share : (tb_X4_share.all fun q => decide (decode cX4_share q.1 = .ok q.2)) = true := by decide +kernel
set_option maxRecDepth 100000 in
set_option maxHeartbeats 4000000 in
theorem lp_L4_share_13 {Go : Nat → List (Option Value) → List Value → Mem → Prop} (hR : RS l G cy ad tt RX4 cX4_share 4 1 Go) {out : Mem} (hT : RT cX4_share none True out none Go) {v2 : Int} (qv2 : inR v2) {k63 : Mem → Option Mem} (hk63 : ∀ (m : Mem), k63 m = some out → Go 63 [some (.ref (ad 26)), none, some (iv v2), none] [] m) : ∀ (n : Nat) (v3 : Int) (m : Mem), inR v3 → L4_share_13 v2 k63 n v3 m = some out → Go 13 [some (.ref (ad 26)), none, some (iv v2), some (iv v3)] [] m := by
  intro n
  induction n with
  | zero =>
    intro v3 m qv3 h
    cases h
  | succ n ih =>
    intro v3 m qv3 h
    rw [L4_share_13] at h
    refine r_iload_n (pc := 13) hR (dc dt_X4_share 8 rfl) rfl ?_
    refine r_aload_n (pc := 14) hR (dc dt_X4_share 9 rfl) rfl ?_
    refine r_getr (pc := 15) (k2 := 28) hR (dc dt_X4_share 10 rfl) fl_X4_15 tc_26 rfl ?_
    refine r_alen (pc := 18) hR (dc dt_X4_share 11 rfl) tc_28 (by decide) ?_
    refine r_icmp_ge (pc := 19) (tgt := 63) hR (dc dt_X4_share 12 rfl) (by decide) qv3 (rg_c rfl) (fun hc => ?_) (fun hc => ?_)
    · replace h := ite_t hc h
      refine r_weak (L' := [some (.ref (ad 26)), none, some (iv v2), none]) hR ⟨Or.inr rfl, Or.inr rfl, Or.inr rfl, Or.inl rfl, trivial⟩ ?_
      exact hk63 m h
    replace h := ite_f hc h
    refine r_iload_n (pc := 22) hR (dc dt_X4_share 13 rfl) rfl ?_
    refine r_iload_n (pc := 23) hR (dc dt_X4_share 14 rfl) rfl ?_
    refine r_icmp_gt (pc := 24) (tgt := 63) hR (dc dt_X4_share 15 rfl) (by decide) qv3 qv2 (fun hc => ?_) (fun hc => ?_)
    · replace h := ite_t hc h
      refine r_weak (L' := [some (.ref (ad 26)), none, some (iv v2), none]) hR ⟨Or.inr rfl, Or.inr rfl, Or.inr rfl, Or.inl rfl, trivial⟩ ?_
      exact hk63 m h
    replace h := ite_f hc h
    refine r_aload_n (pc := 27) hR (dc dt_X4_share 16 rfl) rfl ?_
    refine r_getr (pc := 28) (k2 := 29) hR (dc dt_X4_share 17 rfl) fl_X4_18 tc_26 rfl ?_
    refine r_iload_n (pc := 31) hR (dc dt_X4_share 18 rfl) rfl ?_
    refine r_aload_n (pc := 32) hR (dc dt_X4_share 19 rfl) rfl ?_
    refine r_getr (pc := 33) (k2 := 29) hR (dc dt_X4_share 20 rfl) fl_X4_18 tc_26 rfl ?_
    refine r_iload_n (pc := 36) hR (dc dt_X4_share 21 rfl) rfl ?_
    obtain ⟨g1, h⟩ := gd_some h
    refine r_iald (pc := 37) hR (dc dt_X4_share 22 rfl) tc_29 g1 qv2 ?_
    refine r_aload_n (pc := 38) hR (dc dt_X4_share 23 rfl) rfl ?_
    refine r_getr (pc := 39) (k2 := 29) hR (dc dt_X4_share 24 rfl) fl_X4_18 tc_26 rfl ?_
    refine r_iload_n (pc := 42) hR (dc dt_X4_share 25 rfl) rfl ?_
    refine r_iload_n (pc := 43) hR (dc dt_X4_share 26 rfl) rfl ?_
    refine r_isub (pc := 44) hR (dc dt_X4_share 27 rfl) ?_
    obtain ⟨g1, h⟩ := gd_some h
    refine r_iald (pc := 45) hR (dc dt_X4_share 28 rfl) tc_29 g1 (w32_in _) ?_
    refine r_aload_n (pc := 46) hR (dc dt_X4_share 29 rfl) rfl ?_
    refine r_getr (pc := 47) (k2 := 28) hR (dc dt_X4_share 30 rfl) fl_X4_15 tc_26 rfl ?_
    refine r_iload_n (pc := 50) hR (dc dt_X4_share 31 rfl) rfl ?_
    obtain ⟨g1, h⟩ := gd_some h
    refine r_iald (pc := 51) hR (dc dt_X4_share 32 rfl) tc_28 g1 qv3 ?_
    refine r_iadd (pc := 52) hR (dc dt_X4_share 33 rfl) ?_
    refine r_max (pc := 53) hR (dc dt_X4_share 34 rfl) mw_X4_118 (rd_in _ _ _) (w32_in _) (Nat.le_of_ble_eq_true rfl) (by decide) ?_
    obtain ⟨g1, h⟩ := gd_some h
    refine r_iast (pc := 56) hR (dc dt_X4_share 35 rfl) tc_29 g1 qv2 ?_
    replace h := stw_e h
    generalize wr m 29 v2 (imx (rd m 29 v2) (w32 ((rd m 29 (w32 (v2 - v3))) + (rd m 28 v3)))) = m56 at h ⊢
    refine r_iinc (pc := 57) (L' := [some (.ref (ad 26)), none, some (iv v2), some (iv (w32 (v3 + 1)))]) hR (dc dt_X4_share 36 rfl) rfl (by decide) rfl rfl ?_
    refine r_goto (pc := 60) (tgt := 13) hR (dc dt_X4_share 37 rfl) (by decide) ?_
    exact ih (w32 (v3 + 1)) m56 (w32_in _) h
set_option maxRecDepth 100000 in
set_option maxHeartbeats 4000000 in
theorem lp_L4_share_7 {Go : Nat → List (Option Value) → List Value → Mem → Prop} (hR : RS l G cy ad tt RX4 cX4_share 4 1 Go) {out : Mem} (hT : RT cX4_share none True out none Go) : ∀ (n : Nat) (v2 : Int) (m : Mem), inR v2 → L4_share_7 n v2 m = some out → Go 7 [some (.ref (ad 26)), none, some (iv v2), none] [] m := by
  intro n
  induction n with
  | zero =>
    intro v2 m qv2 h
    cases h
  | succ n ih =>
    intro v2 m qv2 h
    rw [L4_share_7] at h
    refine r_iload_n (pc := 7) hR (dc dt_X4_share 4 rfl) rfl ?_
    refine r_if_le (pc := 8) (tgt := 69) hR (dc dt_X4_share 5 rfl) (by decide) qv2 (fun hc => ?_) (fun hc => ?_)
    · replace h := ite_t hc h
      exact r_vret hT (dc dt_X4_share 40 rfl) (Option.some.inj h)
    replace h := ite_f hc h
    refine r_iconst (pc := 11) hR (dc dt_X4_share 6 rfl) ?_
    refine r_istore_n (pc := 12) (L' := [some (.ref (ad 26)), none, some (iv v2), some (iv 1)]) hR (dc dt_X4_share 7 rfl) (by decide) rfl rfl ?_
    refine lp_L4_share_13 hR hT qv2 (fun m_63 h => ?_) FU 1 m (rg_c rfl) h
    show Go 63 [some (.ref (ad 26)), none, some (iv v2), none] [] m_63
    refine r_iinc (pc := 63) (L' := [some (.ref (ad 26)), none, some (iv (w32 (v2 + (-1)))), none]) hR (dc dt_X4_share 38 rfl) rfl (by decide) rfl rfl ?_
    refine r_goto (pc := 66) (tgt := 7) hR (dc dt_X4_share 39 rfl) (by decide) ?_
    exact ih (w32 (v2 + (-1))) m_63 (w32_in _) h
set_option maxRecDepth 100000 in
set_option maxHeartbeats 4000000 in
theorem ok_F4_share {m : Mem}  {v1 : Int} (q1 : inR v1) {out : Mem} (h : F4_share m v1 = some out) : CT l G cy ad tt yX4_share cX4_share 4 none 1 [.ref (ad 26), iv v1] m none True out := by
  refine CT_of (by decide) (Nat.le_of_ble_eq_true rfl) (fun Go hR hT => ?_)
  replace hR : RS l G cy ad tt RX4 cX4_share 4 1 Go := hR
  show Go 0 [some (.ref (ad 26)), some (iv v1), none, none] [] m
  unfold F4_share at h
  refine r_iload_n (pc := 0) hR (dc dt_X4_share 0 rfl) rfl ?_
  refine r_bipush (pc := 1) hR (dc dt_X4_share 1 rfl) (by decide) ?_
  refine r_min (pc := 3) hR (dc dt_X4_share 2 rfl) mw_X4_135 q1 (rg_c rfl) (Nat.le_of_ble_eq_true rfl) (by decide) ?_
  refine r_istore_n (pc := 6) (L' := [some (.ref (ad 26)), some (iv v1), some (iv (imn v1 20)), none]) hR (dc dt_X4_share 3 rfl) (by decide) rfl rfl ?_
  refine r_weak (L' := [some (.ref (ad 26)), none, some (iv (imn v1 20)), none]) hR ⟨Or.inr rfl, Or.inl rfl, Or.inr rfl, Or.inr rfl, trivial⟩ ?_
  refine lp_L4_share_7 hR hT FU (imn v1 20) m (imn_in q1 (rg_c rfl)) h
def tb_X4_leastWith : List (Nat × (Instr × Nat)) := [(0, (.aload_n 0, 1)), (1, (.getfield 28, 3)), (4, (.aload_n 0, 1)), (5, (.getfield 24, 3)), (8, (.invokevirtual 32, 3)), (11, (.iconst 0, 1)), (12, (.istore_n 2, 1)), (13, (.iload_n 2, 1)), (14, (.bipush 16, 2)), (16, (.if_icmp .ge 14, 3)), (19, (.aload_n 0, 1)), (20, (.iload_n 2, 1)), (21, (.invokevirtual 81, 3)), (24, (.iinc 2 1, 3)), (27, (.goto (-14), 3)), (30, (.aload_n 0, 1)), (31, (.getfield 18, 3)), (34, (.iconst 0, 1)), (35, (.invokestatic 107, 3)), (38, (.iconst 0, 1)), (39, (.istore_n 2, 1)), (40, (.iconst 0, 1)), (41, (.istore_n 3, 1)), (42, (.iload_n 3, 1)), (43, (.aload_n 0, 1)), (44, (.getfield 24, 3)), (47, (.getfield 56, 3)), (50, (.if_icmp .ge 54, 3)), (53, (.aload_n 0, 1)), (54, (.getfield 24, 3)), (57, (.iload_n 3, 1)), (58, (.invokevirtual 72, 3)), (61, (.ifCond .ge 6, 3)), (64, (.goto 34, 3)), (67, (.iconst 0, 1)), (68, (.istore 4, 2)), (70, (.iload 4, 2)), (72, (.bipush 16, 2)), (74, (.if_icmp .ge 24, 3)), (77, (.iload_n 2, 1)), (78, (.aload_n 0, 1)), (79, (.iload_n 3, 1)), (80, (.iload 4, 2)), (82, (.invokevirtual 112, 3)), (85, (.iadd, 1)), (86, (.istore_n 2, 1)), (87, (.aload_n 0, 1)), (88, (.iload_n 1, 1)), (89, (.invokevirtual 115, 3)), (92, (.iinc 4 4, 3)), (95, (.goto (-25), 3)), (98, (.iinc 3 1, 3)), (101, (.goto (-59), 3)), (104, (.iload_n 2, 1)), (105, (.aload_n 0, 1)), (106, (.getfield 18, 3)), (109, (.iload_n 1, 1)), (110, (.iaload, 1)), (111, (.isub, 1)), (112, (.ireturn, 1))]
set_option maxRecDepth 100000 in
theorem dt_X4_leastWith : (tb_X4_leastWith.all fun q => decide (decode cX4_leastWith q.1 = .ok q.2)) = true := by decide +kernel
set_option maxRecDepth 100000 in
set_option maxHeartbeats 4000000 in
theorem lp_L4_leastWith_13 {Go : Nat → List (Option Value) → List Value → Mem → Prop} (hR : RS l G cy ad tt RX4 cX4_leastWith 5 5 Go) {out : Int × Mem} (hT : RT cX4_leastWith (some (iv out.1)) (inR out.1) out.2 (some .int) Go) {v1 : Int} (qv1 : inR v1) {k30 : Mem → Option (Int × Mem)} (hk30 : ∀ (m : Mem), k30 m = some out → Go 30 [some (.ref (ad 26)), some (iv v1), none, none, none] [] m) : ∀ (n : Nat) (v2 : Int) (m : Mem), inR v2 → L4_leastWith_13 k30 n v2 m = some out → Go 13 [some (.ref (ad 26)), some (iv v1), some (iv v2), none, none] [] m := by
  intro n
  induction n with
  | zero =>
    intro v2 m qv2 h
    cases h
  | succ n ih =>
    intro v2 m qv2 h
    rw [L4_leastWith_13] at h
    refine r_iload_n (pc := 13) hR (dc dt_X4_leastWith 7 rfl) rfl ?_
    refine r_bipush (pc := 14) hR (dc dt_X4_leastWith 8 rfl) (by decide) ?_
    refine r_icmp_ge (pc := 16) (tgt := 30) hR (dc dt_X4_leastWith 9 rfl) (by decide) qv2 (rg_c rfl) (fun hc => ?_) (fun hc => ?_)
    · replace h := ite_t hc h
      refine r_weak (L' := [some (.ref (ad 26)), some (iv v1), none, none, none]) hR ⟨Or.inr rfl, Or.inr rfl, Or.inl rfl, Or.inr rfl, Or.inr rfl, trivial⟩ ?_
      exact hk30 m h
    replace h := ite_f hc h
    refine r_aload_n (pc := 19) hR (dc dt_X4_leastWith 10 rfl) rfl ?_
    refine r_iload_n (pc := 20) hR (dc dt_X4_leastWith 11 rfl) rfl ?_
    obtain ⟨m21, e21, h⟩ := b1_some h
    refine r_callV (pc := 21) (rest := []) hR (dc dt_X4_leastWith 12 rfl) cl_X4_81 tc_26 rfl (ok_F4_fillClause qv2 e21) (by decide) rfl (Nat.le_of_ble_eq_true rfl) rfl (fun q21r => ?_)
    show Go 24 [some (.ref (ad 26)), some (iv v1), some (iv v2), none, none] [] m21
    refine r_iinc (pc := 24) (L' := [some (.ref (ad 26)), some (iv v1), some (iv (w32 (v2 + 1))), none, none]) hR (dc dt_X4_leastWith 13 rfl) rfl (by decide) rfl rfl ?_
    refine r_goto (pc := 27) (tgt := 13) hR (dc dt_X4_leastWith 14 rfl) (by decide) ?_
    exact ih (w32 (v2 + 1)) m21 (w32_in _) h
set_option maxRecDepth 100000 in
set_option maxHeartbeats 4000000 in
theorem lp_L4_leastWith_70 {Go : Nat → List (Option Value) → List Value → Mem → Prop} (hR : RS l G cy ad tt RX4 cX4_leastWith 5 5 Go) {out : Int × Mem} (hT : RT cX4_leastWith (some (iv out.1)) (inR out.1) out.2 (some .int) Go) {v1 : Int} {v3 : Int} (qv1 : inR v1) (qv3 : inR v3) {k98 : Int → Mem → Option (Int × Mem)} (hk98 : ∀ (v2 : Int) (m : Mem), inR v2 → k98 v2 m = some out → Go 98 [some (.ref (ad 26)), some (iv v1), some (iv v2), some (iv v3), none] [] m) : ∀ (n : Nat) (v2 : Int) (v4 : Int) (m : Mem), inR v2 → inR v4 → L4_leastWith_70 v1 v3 k98 n v2 v4 m = some out → Go 70 [some (.ref (ad 26)), some (iv v1), some (iv v2), some (iv v3), some (iv v4)] [] m := by
  intro n
  induction n with
  | zero =>
    intro v2 v4 m qv2 qv4 h
    cases h
  | succ n ih =>
    intro v2 v4 m qv2 qv4 h
    rw [L4_leastWith_70] at h
    refine r_iload (pc := 70) hR (dc dt_X4_leastWith 36 rfl) rfl ?_
    refine r_bipush (pc := 72) hR (dc dt_X4_leastWith 37 rfl) (by decide) ?_
    refine r_icmp_ge (pc := 74) (tgt := 98) hR (dc dt_X4_leastWith 38 rfl) (by decide) qv4 (rg_c rfl) (fun hc => ?_) (fun hc => ?_)
    · replace h := ite_t hc h
      refine r_weak (L' := [some (.ref (ad 26)), some (iv v1), some (iv v2), some (iv v3), none]) hR ⟨Or.inr rfl, Or.inr rfl, Or.inr rfl, Or.inr rfl, Or.inl rfl, trivial⟩ ?_
      exact hk98 v2 m qv2 h
    replace h := ite_f hc h
    refine r_iload_n (pc := 77) hR (dc dt_X4_leastWith 39 rfl) rfl ?_
    refine r_aload_n (pc := 78) hR (dc dt_X4_leastWith 40 rfl) rfl ?_
    refine r_iload_n (pc := 79) hR (dc dt_X4_leastWith 41 rfl) rfl ?_
    refine r_iload (pc := 80) hR (dc dt_X4_leastWith 42 rfl) rfl ?_
    obtain ⟨r82, m82, e82, h⟩ := b2_some h
    refine r_callV (pc := 82) (rest := [iv v2]) hR (dc dt_X4_leastWith 43 rfl) cl_X4_112 tc_26 rfl (ok_F4_weighChapter qv3 qv4 e82) (by decide) rfl (Nat.le_of_ble_eq_true rfl) rfl (fun q82r => ?_)
    show Go 85 [some (.ref (ad 26)), some (iv v1), some (iv v2), some (iv v3), some (iv v4)] [iv r82, iv v2] m82
    refine r_iadd (pc := 85) hR (dc dt_X4_leastWith 44 rfl) ?_
    refine r_istore_n (pc := 86) (L' := [some (.ref (ad 26)), some (iv v1), some (iv (w32 (v2 + r82))), some (iv v3), some (iv v4)]) hR (dc dt_X4_leastWith 45 rfl) (by decide) rfl rfl ?_
    refine r_aload_n (pc := 87) hR (dc dt_X4_leastWith 46 rfl) rfl ?_
    refine r_iload_n (pc := 88) hR (dc dt_X4_leastWith 47 rfl) rfl ?_
    obtain ⟨m89, e89, h⟩ := b1_some h
    refine r_callV (pc := 89) (rest := []) hR (dc dt_X4_leastWith 48 rfl) cl_X4_115 tc_26 rfl (ok_F4_share qv1 e89) (by decide) rfl (Nat.le_of_ble_eq_true rfl) rfl (fun q89r => ?_)
    show Go 92 [some (.ref (ad 26)), some (iv v1), some (iv (w32 (v2 + r82))), some (iv v3), some (iv v4)] [] m89
    refine r_iinc (pc := 92) (L' := [some (.ref (ad 26)), some (iv v1), some (iv (w32 (v2 + r82))), some (iv v3), some (iv (w32 (v4 + 4)))]) hR (dc dt_X4_leastWith 49 rfl) rfl (by decide) rfl rfl ?_
    refine r_goto (pc := 95) (tgt := 70) hR (dc dt_X4_leastWith 50 rfl) (by decide) ?_
    exact ih (w32 (v2 + r82)) (w32 (v4 + 4)) m89 (w32_in _) (w32_in _) h
set_option maxRecDepth 100000 in
set_option maxHeartbeats 4000000 in
theorem lp_L4_leastWith_42 {Go : Nat → List (Option Value) → List Value → Mem → Prop} (hR : RS l G cy ad tt RX4 cX4_leastWith 5 5 Go) {out : Int × Mem} (hT : RT cX4_leastWith (some (iv out.1)) (inR out.1) out.2 (some .int) Go) {v1 : Int} (qv1 : inR v1) {k104 : Int → Mem → Option (Int × Mem)} (hk104 : ∀ (v2 : Int) (m : Mem), inR v2 → k104 v2 m = some out → Go 104 [some (.ref (ad 26)), some (iv v1), some (iv v2), none, none] [] m) : ∀ (n : Nat) (v2 : Int) (v3 : Int) (m : Mem), inR v2 → inR v3 → L4_leastWith_42 v1 k104 n v2 v3 m = some out → Go 42 [some (.ref (ad 26)), some (iv v1), some (iv v2), some (iv v3), none] [] m := by
  intro n
  induction n with
  | zero =>
    intro v2 v3 m qv2 qv3 h
    cases h
  | succ n ih =>
    intro v2 v3 m qv2 qv3 h
    rw [L4_leastWith_42] at h
    refine r_iload_n (pc := 42) hR (dc dt_X4_leastWith 23 rfl) rfl ?_
    refine r_aload_n (pc := 43) hR (dc dt_X4_leastWith 24 rfl) rfl ?_
    refine r_getr (pc := 44) (k2 := 4) hR (dc dt_X4_leastWith 25 rfl) fl_X4_24 tc_26 rfl ?_
    refine r_geti (pc := 47) hR (dc dt_X4_leastWith 26 rfl) fl_X4_56 tc_4 rfl ?_
    refine r_icmp_ge (pc := 50) (tgt := 104) hR (dc dt_X4_leastWith 27 rfl) (by decide) qv3 (rd_in _ _ _) (fun hc => ?_) (fun hc => ?_)
    · replace h := ite_t hc h
      refine r_weak (L' := [some (.ref (ad 26)), some (iv v1), some (iv v2), none, none]) hR ⟨Or.inr rfl, Or.inr rfl, Or.inr rfl, Or.inl rfl, Or.inr rfl, trivial⟩ ?_
      exact hk104 v2 m qv2 h
    replace h := ite_f hc h
    refine r_aload_n (pc := 53) hR (dc dt_X4_leastWith 28 rfl) rfl ?_
    refine r_getr (pc := 54) (k2 := 4) hR (dc dt_X4_leastWith 29 rfl) fl_X4_24 tc_26 rfl ?_
    refine r_iload_n (pc := 57) hR (dc dt_X4_leastWith 30 rfl) rfl ?_
    obtain ⟨r58, e58, h⟩ := b1_some h
    refine r_callV (pc := 58) (rest := []) hR (dc dt_X4_leastWith 31 rfl) cl_X4_72 tc_4 rfl (ok_F1_motherOf qv3 e58) (by decide) rfl (Nat.le_of_ble_eq_true rfl) rfl (fun q58r => ?_)
    show Go 61 [some (.ref (ad 26)), some (iv v1), some (iv v2), some (iv v3), none] [iv r58] m
    refine jn_e h (fun (K : Int → Mem → Option (Int × Mem)) => ∀ (v2_98 : Int) (m_98 : Mem), inR v2_98 → K v2_98 m_98 = some out → Go 98 [some (.ref (ad 26)), some (iv v1), some (iv v2_98), some (iv v3), none] [] m_98) (fun v2_98 m_98 qv2_98 h => ?_) (fun K98 J98 h => ?_)
    · refine r_iinc (pc := 98) (L' := [some (.ref (ad 26)), some (iv v1), some (iv v2_98), some (iv (w32 (v3 + 1))), none]) hR (dc dt_X4_leastWith 51 rfl) rfl (by decide) rfl rfl ?_
      refine r_goto (pc := 101) (tgt := 42) hR (dc dt_X4_leastWith 52 rfl) (by decide) ?_
      exact ih v2_98 (w32 (v3 + 1)) m_98 qv2_98 (w32_in _) h
    refine r_if_ge (pc := 61) (tgt := 67) hR (dc dt_X4_leastWith 32 rfl) (by decide) q58r (fun hc => ?_) (fun hc => ?_)
    · replace h := ite_t hc h
      refine r_iconst (pc := 67) hR (dc dt_X4_leastWith 34 rfl) ?_
      refine r_istore (pc := 68) (L' := [some (.ref (ad 26)), some (iv v1), some (iv v2), some (iv v3), some (iv 0)]) hR (dc dt_X4_leastWith 35 rfl) (by decide) rfl rfl ?_
      refine lp_L4_leastWith_70 hR hT qv1 qv3 (fun v2_98 m_98 qv2_98 h => ?_) FU v2 0 m qv2 (rg_c rfl) h
      show Go 98 [some (.ref (ad 26)), some (iv v1), some (iv v2_98), some (iv v3), none] [] m_98
      exact J98 v2_98 m_98 qv2_98 h
    replace h := ite_f hc h
    refine r_goto (pc := 64) (tgt := 98) hR (dc dt_X4_leastWith 33 rfl) (by decide) ?_
    exact J98 v2 m qv2 h
set_option maxRecDepth 100000 in
set_option maxHeartbeats 4000000 in
theorem ok_F4_leastWith {m : Mem}  {v1 : Int} (q1 : inR v1) {out : Int × Mem} (h : F4_leastWith m v1 = some out) : CT l G cy ad tt yX4_leastWith cX4_leastWith 5 (some .int) 5 [.ref (ad 26), iv v1] m (some (iv out.1)) (inR out.1) out.2 := by
  refine CT_of (by decide) (Nat.le_of_ble_eq_true rfl) (fun Go hR hT => ?_)
  replace hR : RS l G cy ad tt RX4 cX4_leastWith 5 5 Go := hR
  show Go 0 [some (.ref (ad 26)), some (iv v1), none, none, none] [] m
  unfold F4_leastWith at h
  refine r_aload_n (pc := 0) hR (dc dt_X4_leastWith 0 rfl) rfl ?_
  refine r_getr (pc := 1) (k2 := 14) hR (dc dt_X4_leastWith 1 rfl) fl_X4_28 tc_26 rfl ?_
  refine r_aload_n (pc := 4) hR (dc dt_X4_leastWith 2 rfl) rfl ?_
  refine r_getr (pc := 5) (k2 := 4) hR (dc dt_X4_leastWith 3 rfl) fl_X4_24 tc_26 rfl ?_
  obtain ⟨m8, e8, h⟩ := b1_some h
  refine r_callV (pc := 8) (rest := []) hR (dc dt_X4_leastWith 4 rfl) cl_X4_32 tc_14 rfl (ok_F9_growAsTold tr_c14 e8) (by decide) rfl (Nat.le_of_ble_eq_true rfl) rfl (fun q8r => ?_)
  show Go 11 [some (.ref (ad 26)), some (iv v1), none, none, none] [] m8
  refine r_iconst (pc := 11) hR (dc dt_X4_leastWith 5 rfl) ?_
  refine r_istore_n (pc := 12) (L' := [some (.ref (ad 26)), some (iv v1), some (iv 0), none, none]) hR (dc dt_X4_leastWith 6 rfl) (by decide) rfl rfl ?_
  refine lp_L4_leastWith_13 hR hT q1 (fun m_30 h => ?_) FU 0 m8 (rg_c rfl) h
  show Go 30 [some (.ref (ad 26)), some (iv v1), none, none, none] [] m_30
  refine r_aload_n (pc := 30) hR (dc dt_X4_leastWith 15 rfl) rfl ?_
  refine r_getr (pc := 31) (k2 := 29) hR (dc dt_X4_leastWith 16 rfl) fl_X4_18 tc_26 rfl ?_
  refine r_iconst (pc := 34) hR (dc dt_X4_leastWith 17 rfl) ?_
  obtain ⟨m35, e35, h⟩ := b1_some h
  refine r_callS (pc := 35) (rest := []) hR (dc dt_X4_leastWith 18 rfl) cl_X4_107 (ok_FJ7_fill_53178 tc_29 (by decide) (rg_c rfl) e35) (by decide) rfl (Nat.le_of_ble_eq_true rfl) rfl (fun q35r => ?_)
  show Go 38 [some (.ref (ad 26)), some (iv v1), none, none, none] [] m35
  refine r_iconst (pc := 38) hR (dc dt_X4_leastWith 19 rfl) ?_
  refine r_istore_n (pc := 39) (L' := [some (.ref (ad 26)), some (iv v1), some (iv 0), none, none]) hR (dc dt_X4_leastWith 20 rfl) (by decide) rfl rfl ?_
  refine r_iconst (pc := 40) hR (dc dt_X4_leastWith 21 rfl) ?_
  refine r_istore_n (pc := 41) (L' := [some (.ref (ad 26)), some (iv v1), some (iv 0), some (iv 0), none]) hR (dc dt_X4_leastWith 22 rfl) (by decide) rfl rfl ?_
  refine lp_L4_leastWith_42 hR hT q1 (fun v2_104 m_104 qv2_104 h => ?_) FU 0 0 m35 (rg_c rfl) (rg_c rfl) h
  show Go 104 [some (.ref (ad 26)), some (iv v1), some (iv v2_104), none, none] [] m_104
  refine r_iload_n (pc := 104) hR (dc dt_X4_leastWith 53 rfl) rfl ?_
  refine r_aload_n (pc := 105) hR (dc dt_X4_leastWith 54 rfl) rfl ?_
  refine r_getr (pc := 106) (k2 := 29) hR (dc dt_X4_leastWith 55 rfl) fl_X4_18 tc_26 rfl ?_
  refine r_iload_n (pc := 109) hR (dc dt_X4_leastWith 56 rfl) rfl ?_
  obtain ⟨g1, h⟩ := gd_some h
  refine r_iald (pc := 110) hR (dc dt_X4_leastWith 57 rfl) tc_29 g1 q1 ?_
  refine r_isub (pc := 111) hR (dc dt_X4_leastWith 58 rfl) ?_
  exact r_iret hT (dc dt_X4_leastWith 59 rfl) (congrArg Prod.fst (Option.some.inj h)) (congrArg Prod.snd (Option.some.inj h)) (w32_in _)
def tb_X10_few : List (Nat × (Instr × Nat)) := [(0, (.iload_n 1, 1)), (1, (.ifCond .lt 9, 3)), (4, (.iload_n 1, 1)), (5, (.bipush 20, 2)), (7, (.if_icmp .le 7, 3)), (10, (.iconst (-1), 1)), (11, (.goto 11, 3)), (14, (.aload_n 0, 1)), (15, (.getfield 35, 3)), (18, (.iload_n 1, 1)), (19, (.invokevirtual 225, 3)), (22, (.ireturn, 1))]
set_option maxRecDepth 100000 in
theorem dt_X10_few : (tb_X10_few.all fun q => decide (decode cX10_few q.1 = .ok q.2)) = true := by decide +kernel
set_option maxRecDepth 100000 in
set_option maxHeartbeats 4000000 in
theorem ok_F10_few {m : Mem}  {v1 : Int} (q1 : inR v1) {out : Int × Mem} (h : F10_few m v1 = some out) : CT l G cy ad tt yX10_few cX10_few 2 (some .int) 6 [.ref (ad 0), iv v1] m (some (iv out.1)) (inR out.1) out.2 := by
  refine CT_of (by decide) (Nat.le_of_ble_eq_true rfl) (fun Go hR hT => ?_)
  replace hR : RS l G cy ad tt RX10 cX10_few 2 6 Go := hR
  show Go 0 [some (.ref (ad 0)), some (iv v1)] [] m
  unfold F10_few at h
  refine r_iload_n (pc := 0) hR (dc dt_X10_few 0 rfl) rfl ?_
  refine jn_e h (fun (K : Option (Int × Mem)) => K = some out → Go 10 [none, none] [] m) (fun h => ?_) (fun K10 J10 h => ?_)
  · refine r_iconst (pc := 10) hR (dc dt_X10_few 5 rfl) ?_
    refine r_goto (pc := 11) (tgt := 22) hR (dc dt_X10_few 6 rfl) (by decide) ?_
    exact r_iret hT (dc dt_X10_few 11 rfl) (congrArg Prod.fst (Option.some.inj h)) (congrArg Prod.snd (Option.some.inj h)) (rg_c rfl)
  refine r_if_lt (pc := 1) (tgt := 10) hR (dc dt_X10_few 1 rfl) (by decide) q1 (fun hc => ?_) (fun hc => ?_)
  · replace h := ite_t hc h
    refine r_weak (L' := [none, none]) hR ⟨Or.inl rfl, Or.inl rfl, trivial⟩ ?_
    exact J10 h
  replace h := ite_f hc h
  refine r_iload_n (pc := 4) hR (dc dt_X10_few 2 rfl) rfl ?_
  refine r_bipush (pc := 5) hR (dc dt_X10_few 3 rfl) (by decide) ?_
  refine r_icmp_le (pc := 7) (tgt := 14) hR (dc dt_X10_few 4 rfl) (by decide) q1 (rg_c rfl) (fun hc => ?_) (fun hc => ?_)
  · replace h := ite_t hc h
    refine r_aload_n (pc := 14) hR (dc dt_X10_few 7 rfl) rfl ?_
    refine r_getr (pc := 15) (k2 := 26) hR (dc dt_X10_few 8 rfl) fl_X10_35 tc_0 rfl ?_
    refine r_iload_n (pc := 18) hR (dc dt_X10_few 9 rfl) rfl ?_
    obtain ⟨r19, m19, e19, h⟩ := b2_some h
    refine r_callV (pc := 19) (rest := []) hR (dc dt_X10_few 10 rfl) cl_X10_225 tc_26 rfl (ok_F4_leastWith q1 e19) (by decide) rfl (Nat.le_of_ble_eq_true rfl) rfl (fun q19r => ?_)
    show Go 22 [some (.ref (ad 0)), some (iv v1)] [iv r19] m19
    exact r_iret hT (dc dt_X10_few 11 rfl) (congrArg Prod.fst (Option.some.inj h)) (congrArg Prod.snd (Option.some.inj h)) q19r
  replace h := ite_f hc h
  refine r_weak (L' := [none, none]) hR ⟨Or.inl rfl, Or.inl rfl, trivial⟩ ?_
  exact J10 h
def tb_X4_lender : List (Nat × (Instr × Nat)) := [(0, (.aload_n 0, 1)), (1, (.getfield 28, 3)), (4, (.aload_n 0, 1)), (5, (.getfield 24, 3)), (8, (.invokevirtual 32, 3)), (11, (.aload_n 0, 1)), (12, (.iload_n 2, 1)), (13, (.invokevirtual 81, 3)), (16, (.aload_n 0, 1)), (17, (.iload_n 1, 1)), (18, (.iload_n 2, 1)), (19, (.invokevirtual 98, 3)), (22, (.aload_n 0, 1)), (23, (.getfield 24, 3)), (26, (.iconst 3, 1)), (27, (.invokevirtual 101, 3)), (30, (.if_icmp .le 7, 3)), (33, (.iconst 1, 1)), (34, (.goto 4, 3)), (37, (.iconst 0, 1)), (38, (.istore_n 3, 1)), (39, (.iload_n 3, 1)), (40, (.ifCond .eq 12, 3)), (43, (.aload_n 0, 1)), (44, (.iload_n 1, 1)), (45, (.iload_n 2, 1)), (46, (.invokevirtual 104, 3)), (49, (.goto 5, 3)), (52, (.bipush (-2), 2)), (54, (.ireturn, 1))]
set_option maxRecDepth 100000 in
theorem dt_X4_lender : (tb_X4_lender.all fun q => decide (decode cX4_lender q.1 = .ok q.2)) = true := by decide +kernel
set_option maxRecDepth 100000 in
set_option maxHeartbeats 4000000 in
theorem ok_F4_lender {m : Mem}  {v1 v2 : Int} (q1 : inR v1) (q2 : inR v2) {out : Int × Mem} (h : F4_lender m v1 v2 = some out) : CT l G cy ad tt yX4_lender cX4_lender 4 (some .int) 4 [.ref (ad 26), iv v1, iv v2] m (some (iv out.1)) (inR out.1) out.2 := by
  refine CT_of (by decide) (Nat.le_of_ble_eq_true rfl) (fun Go hR hT => ?_)
  replace hR : RS l G cy ad tt RX4 cX4_lender 4 4 Go := hR
  show Go 0 [some (.ref (ad 26)), some (iv v1), some (iv v2), none] [] m
  unfold F4_lender at h
  refine r_aload_n (pc := 0) hR (dc dt_X4_lender 0 rfl) rfl ?_
  refine r_getr (pc := 1) (k2 := 14) hR (dc dt_X4_lender 1 rfl) fl_X4_28 tc_26 rfl ?_
  refine r_aload_n (pc := 4) hR (dc dt_X4_lender 2 rfl) rfl ?_
  refine r_getr (pc := 5) (k2 := 4) hR (dc dt_X4_lender 3 rfl) fl_X4_24 tc_26 rfl ?_
  obtain ⟨m8, e8, h⟩ := b1_some h
  refine r_callV (pc := 8) (rest := []) hR (dc dt_X4_lender 4 rfl) cl_X4_32 tc_14 rfl (ok_F9_growAsTold tr_c14 e8) (by decide) rfl (Nat.le_of_ble_eq_true rfl) rfl (fun q8r => ?_)
  show Go 11 [some (.ref (ad 26)), some (iv v1), some (iv v2), none] [] m8
  refine r_aload_n (pc := 11) hR (dc dt_X4_lender 5 rfl) rfl ?_
  refine r_iload_n (pc := 12) hR (dc dt_X4_lender 6 rfl) rfl ?_
  obtain ⟨m13, e13, h⟩ := b1_some h
  refine r_callV (pc := 13) (rest := []) hR (dc dt_X4_lender 7 rfl) cl_X4_81 tc_26 rfl (ok_F4_fillClause q2 e13) (by decide) rfl (Nat.le_of_ble_eq_true rfl) rfl (fun q13r => ?_)
  show Go 16 [some (.ref (ad 26)), some (iv v1), some (iv v2), none] [] m13
  refine r_aload_n (pc := 16) hR (dc dt_X4_lender 8 rfl) rfl ?_
  refine r_iload_n (pc := 17) hR (dc dt_X4_lender 9 rfl) rfl ?_
  refine r_iload_n (pc := 18) hR (dc dt_X4_lender 10 rfl) rfl ?_
  obtain ⟨r19, e19, h⟩ := b1_some h
  refine r_callV (pc := 19) (rest := []) hR (dc dt_X4_lender 11 rfl) cl_X4_98 tc_26 rfl (ok_F4_paid q1 q2 e19) (by decide) rfl (Nat.le_of_ble_eq_true rfl) rfl (fun q19r => ?_)
  show Go 22 [some (.ref (ad 26)), some (iv v1), some (iv v2), none] [iv r19] m13
  refine r_aload_n (pc := 22) hR (dc dt_X4_lender 12 rfl) rfl ?_
  refine r_getr (pc := 23) (k2 := 4) hR (dc dt_X4_lender 13 rfl) fl_X4_24 tc_26 rfl ?_
  refine r_iconst (pc := 26) hR (dc dt_X4_lender 14 rfl) ?_
  obtain ⟨r27, e27, h⟩ := b1_some h
  refine r_callV (pc := 27) (rest := [iv r19]) hR (dc dt_X4_lender 15 rfl) cl_X4_101 tc_4 rfl (ok_F1_costOf (rg_c rfl) e27) (by decide) rfl (Nat.le_of_ble_eq_true rfl) rfl (fun q27r => ?_)
  show Go 30 [some (.ref (ad 26)), some (iv v1), some (iv v2), none] [iv r27, iv r19] m13
  refine jn_e h (fun (K : Int → Option (Int × Mem)) => ∀ (x38 : Int), inZ x38 → K x38 = some out → Go 38 [some (.ref (ad 26)), some (iv v1), some (iv v2), none] [iv x38] m13) (fun x38 qx38 h => ?_) (fun K38 J38 h => ?_)
  · refine r_istore_n (pc := 38) (L' := [some (.ref (ad 26)), some (iv v1), some (iv v2), some (iv x38)]) hR (dc dt_X4_lender 20 rfl) (by decide) rfl rfl ?_
    refine r_iload_n (pc := 39) hR (dc dt_X4_lender 21 rfl) rfl ?_
    refine r_if_eq (pc := 40) (tgt := 52) hR (dc dt_X4_lender 22 rfl) (by decide) (inZ_R qx38) (fun hc => ?_) (fun hc => ?_)
    · replace h := ite_t hc h
      refine r_bipush (pc := 52) hR (dc dt_X4_lender 28 rfl) (by decide) ?_
      exact r_iret hT (dc dt_X4_lender 29 rfl) (congrArg Prod.fst (Option.some.inj h)) (congrArg Prod.snd (Option.some.inj h)) (rg_c rfl)
    replace h := ite_f hc h
    refine r_aload_n (pc := 43) hR (dc dt_X4_lender 23 rfl) rfl ?_
    refine r_iload_n (pc := 44) hR (dc dt_X4_lender 24 rfl) rfl ?_
    refine r_iload_n (pc := 45) hR (dc dt_X4_lender 25 rfl) rfl ?_
    obtain ⟨r46, e46, h⟩ := b1_some h
    refine r_callV (pc := 46) (rest := []) hR (dc dt_X4_lender 26 rfl) cl_X4_104 tc_26 rfl (ok_F4_leastLender q1 q2 e46) (by decide) rfl (Nat.le_of_ble_eq_true rfl) rfl (fun q46r => ?_)
    show Go 49 [some (.ref (ad 26)), some (iv v1), some (iv v2), some (iv x38)] [iv r46] m13
    refine r_goto (pc := 49) (tgt := 54) hR (dc dt_X4_lender 27 rfl) (by decide) ?_
    exact r_iret hT (dc dt_X4_lender 29 rfl) (congrArg Prod.fst (Option.some.inj h)) (congrArg Prod.snd (Option.some.inj h)) q46r
  refine r_icmp_le (pc := 30) (tgt := 37) hR (dc dt_X4_lender 16 rfl) (by decide) q19r q27r (fun hc => ?_) (fun hc => ?_)
  · replace h := ite_t hc h
    refine r_iconst (pc := 37) hR (dc dt_X4_lender 19 rfl) ?_
    exact J38 0 (Or.inl rfl) h
  replace h := ite_f hc h
  refine r_iconst (pc := 33) hR (dc dt_X4_lender 17 rfl) ?_
  refine r_goto (pc := 34) (tgt := 38) hR (dc dt_X4_lender 18 rfl) (by decide) ?_
  exact J38 1 (Or.inr rfl) h
def tb_X10_from : List (Nat × (Instr × Nat)) := [(0, (.aload_n 0, 1)), (1, (.getfield 19, 3)), (4, (.iload_n 1, 1)), (5, (.invokevirtual 112, 3)), (8, (.ifCond .eq 10, 3)), (11, (.iload_n 2, 1)), (12, (.invokestatic 128, 3)), (15, (.ifCond .ne 7, 3)), (18, (.iconst (-1), 1)), (19, (.goto 12, 3)), (22, (.aload_n 0, 1)), (23, (.getfield 35, 3)), (26, (.iload_n 1, 1)), (27, (.iload_n 2, 1)), (28, (.invokevirtual 228, 3)), (31, (.ireturn, 1))]
set_option maxRecDepth 100000 in
theorem dt_X10_from : (tb_X10_from.all fun q => decide (decode cX10_from q.1 = .ok q.2)) = true := by decide +kernel
set_option maxRecDepth 100000 in
set_option maxHeartbeats 4000000 in
theorem ok_F10_from {m : Mem}  {v1 v2 : Int} (q1 : inR v1) (q2 : inR v2) {out : Int × Mem} (h : F10_from m v1 v2 = some out) : CT l G cy ad tt yX10_from cX10_from 3 (some .int) 5 [.ref (ad 0), iv v1, iv v2] m (some (iv out.1)) (inR out.1) out.2 := by
  refine CT_of (by decide) (Nat.le_of_ble_eq_true rfl) (fun Go hR hT => ?_)
  replace hR : RS l G cy ad tt RX10 cX10_from 3 5 Go := hR
  show Go 0 [some (.ref (ad 0)), some (iv v1), some (iv v2)] [] m
  unfold F10_from at h
  refine r_aload_n (pc := 0) hR (dc dt_X10_from 0 rfl) rfl ?_
  refine r_getr (pc := 1) (k2 := 4) hR (dc dt_X10_from 1 rfl) fl_X10_19 tc_0 rfl ?_
  refine r_iload_n (pc := 4) hR (dc dt_X10_from 2 rfl) rfl ?_
  refine r_callV (pc := 5) (rest := []) hR (dc dt_X10_from 3 rfl) cl_X10_112 tc_4 rfl (ok_F1_has q1) (by decide) rfl (Nat.le_of_ble_eq_true rfl) rfl (fun q5r => ?_)
  show Go 8 [some (.ref (ad 0)), some (iv v1), some (iv v2)] [iv (F1_has m v1)] m
  refine jn_e h (fun (K : Option (Int × Mem)) => K = some out → Go 18 [none, none, none] [] m) (fun h => ?_) (fun K18 J18 h => ?_)
  · refine r_iconst (pc := 18) hR (dc dt_X10_from 8 rfl) ?_
    refine r_goto (pc := 19) (tgt := 31) hR (dc dt_X10_from 9 rfl) (by decide) ?_
    exact r_iret hT (dc dt_X10_from 15 rfl) (congrArg Prod.fst (Option.some.inj h)) (congrArg Prod.snd (Option.some.inj h)) (rg_c rfl)
  refine r_if_eq (pc := 8) (tgt := 18) hR (dc dt_X10_from 4 rfl) (by decide) (inZ_R q5r) (fun hc => ?_) (fun hc => ?_)
  · replace h := ite_t hc h
    refine r_weak (L' := [none, none, none]) hR ⟨Or.inl rfl, Or.inl rfl, Or.inl rfl, trivial⟩ ?_
    exact J18 h
  replace h := ite_f hc h
  refine r_iload_n (pc := 11) hR (dc dt_X10_from 5 rfl) rfl ?_
  refine r_callS (pc := 12) (rest := []) hR (dc dt_X10_from 6 rfl) cl_X10_128 (ok_F10_isClause q2) (by decide) rfl (Nat.le_of_ble_eq_true rfl) rfl (fun q12r => ?_)
  show Go 15 [some (.ref (ad 0)), some (iv v1), some (iv v2)] [iv (F10_isClause v2)] m
  refine r_if_ne (pc := 15) (tgt := 22) hR (dc dt_X10_from 7 rfl) (by decide) (inZ_R q12r) (fun hc => ?_) (fun hc => ?_)
  · replace h := ite_t hc h
    refine r_aload_n (pc := 22) hR (dc dt_X10_from 10 rfl) rfl ?_
    refine r_getr (pc := 23) (k2 := 26) hR (dc dt_X10_from 11 rfl) fl_X10_35 tc_0 rfl ?_
    refine r_iload_n (pc := 26) hR (dc dt_X10_from 12 rfl) rfl ?_
    refine r_iload_n (pc := 27) hR (dc dt_X10_from 13 rfl) rfl ?_
    obtain ⟨r28, m28, e28, h⟩ := b2_some h
    refine r_callV (pc := 28) (rest := []) hR (dc dt_X10_from 14 rfl) cl_X10_228 tc_26 rfl (ok_F4_lender q1 q2 e28) (by decide) rfl (Nat.le_of_ble_eq_true rfl) rfl (fun q28r => ?_)
    show Go 31 [some (.ref (ad 0)), some (iv v1), some (iv v2)] [iv r28] m28
    exact r_iret hT (dc dt_X10_from 15 rfl) (congrArg Prod.fst (Option.some.inj h)) (congrArg Prod.snd (Option.some.inj h)) q28r
  replace h := ite_f hc h
  refine r_weak (L' := [none, none, none]) hR ⟨Or.inl rfl, Or.inl rfl, Or.inl rfl, trivial⟩ ?_
  exact J18 h
def tb_X3_clash : List (Nat × (Instr × Nat)) := [(0, (.iconst 0, 1)), (1, (.istore_n 3, 1)), (2, (.iconst 0, 1)), (3, (.istore 4, 2)), (5, (.iload 4, 2)), (7, (.aload_n 0, 1)), (8, (.getfield 15, 3)), (11, (.getfield 19, 3)), (14, (.if_icmp .ge 73, 3)), (17, (.aload_n 0, 1)), (18, (.getfield 15, 3)), (21, (.iload 4, 2)), (23, (.iload_n 1, 1)), (24, (.invokevirtual 25, 3)), (27, (.istore 5, 2)), (29, (.aload_n 0, 1)), (30, (.getfield 15, 3)), (33, (.iload 4, 2)), (35, (.iload_n 2, 1)), (36, (.invokevirtual 25, 3)), (39, (.istore 6, 2)), (41, (.iload 5, 2)), (43, (.bipush 9, 2)), (45, (.if_icmp .eq 36, 3)), (48, (.iload 6, 2)), (50, (.bipush 9, 2)), (52, (.if_icmp .eq 29, 3)), (55, (.iload_n 3, 1)), (56, (.iconst 1, 1)), (57, (.iload 5, 2)), (59, (.ifCond .ne 7, 3)), (62, (.iconst 0, 1)), (63, (.goto 4, 3)), (66, (.iconst 1, 1)), (67, (.iload 6, 2)), (69, (.ifCond .ne 7, 3)), (72, (.iconst 0, 1)), (73, (.goto 4, 3)), (76, (.iconst 2, 1)), (77, (.iadd, 1)), (78, (.ishl, 1)), (79, (.ior, 1)), (80, (.istore_n 3, 1)), (81, (.iinc 4 1, 3)), (84, (.goto (-79), 3)), (87, (.iload_n 3, 1)), (88, (.bipush 15, 2)), (90, (.if_icmp .ne 7, 3)), (93, (.iconst 1, 1)), (94, (.goto 4, 3)), (97, (.iconst 0, 1)), (98, (.ireturn, 1))]
set_option maxRecDepth 100000 in
theorem dt_X3_clash : (tb_X3_clash.all fun q => decide (decode cX3_clash q.1 = .ok q.2)) = true := by decide +kernel
set_option maxRecDepth 100000 in
set_option maxHeartbeats 4000000 in
theorem lp_L3_clash_5 {Go : Nat → List (Option Value) → List Value → Mem → Prop} (hR : RS l G cy ad tt RX3 cX3_clash 7 2 Go) {out : Int} {m : Mem} (hT : RT cX3_clash (some (iv out)) (inZ out) m (some .boolean) Go) {v1 : Int} {v2 : Int} (qv1 : inR v1) (qv2 : inR v2) {k87 : Int → Option Int} (hk87 : ∀ (v3 : Int), inR v3 → k87 v3 = some out → Go 87 [none, none, none, some (iv v3), none, none, none] [] m) : ∀ (n : Nat) (v3 : Int) (v4 : Int), inR v3 → inR v4 → L3_clash_5 m v1 v2 k87 n v3 v4 = some out → Go 5 [some (.ref (ad 51)), some (iv v1), some (iv v2), some (iv v3), some (iv v4), none, none] [] m := by
  intro n
  induction n with
  | zero =>
    intro v3 v4 qv3 qv4 h
    cases h
  | succ n ih =>
    intro v3 v4 qv3 qv4 h
    rw [L3_clash_5] at h
    refine r_iload (pc := 5) hR (dc dt_X3_clash 4 rfl) rfl ?_
    refine r_aload_n (pc := 7) hR (dc dt_X3_clash 5 rfl) rfl ?_
    refine r_getr (pc := 8) (k2 := 4) hR (dc dt_X3_clash 6 rfl) fl_X3_15 tc_51 rfl ?_
    refine r_geti (pc := 11) hR (dc dt_X3_clash 7 rfl) fl_X3_19 tc_4 rfl ?_
    refine r_icmp_ge (pc := 14) (tgt := 87) hR (dc dt_X3_clash 8 rfl) (by decide) qv4 (rd_in _ _ _) (fun hc => ?_) (fun hc => ?_)
    · replace h := ite_t hc h
      refine r_weak (L' := [none, none, none, some (iv v3), none, none, none]) hR ⟨Or.inl rfl, Or.inl rfl, Or.inl rfl, Or.inr rfl, Or.inl rfl, Or.inr rfl, Or.inr rfl, trivial⟩ ?_
      exact hk87 v3 qv3 h
    replace h := ite_f hc h
    refine r_aload_n (pc := 17) hR (dc dt_X3_clash 9 rfl) rfl ?_
    refine r_getr (pc := 18) (k2 := 4) hR (dc dt_X3_clash 10 rfl) fl_X3_15 tc_51 rfl ?_
    refine r_iload (pc := 21) hR (dc dt_X3_clash 11 rfl) rfl ?_
    refine r_iload_n (pc := 23) hR (dc dt_X3_clash 12 rfl) rfl ?_
    obtain ⟨r24, e24, h⟩ := b1_some h
    refine r_callV (pc := 24) (rest := []) hR (dc dt_X3_clash 13 rfl) cl_X3_25 tc_4 rfl (ok_F1_told qv4 qv1 e24) (by decide) rfl (Nat.le_of_ble_eq_true rfl) rfl (fun q24r => ?_)
    show Go 27 [some (.ref (ad 51)), some (iv v1), some (iv v2), some (iv v3), some (iv v4), none, none] [iv r24] m
    refine r_istore (pc := 27) (L' := [some (.ref (ad 51)), some (iv v1), some (iv v2), some (iv v3), some (iv v4), some (iv r24), none]) hR (dc dt_X3_clash 14 rfl) (by decide) rfl rfl ?_
    refine r_aload_n (pc := 29) hR (dc dt_X3_clash 15 rfl) rfl ?_
    refine r_getr (pc := 30) (k2 := 4) hR (dc dt_X3_clash 16 rfl) fl_X3_15 tc_51 rfl ?_
    refine r_iload (pc := 33) hR (dc dt_X3_clash 17 rfl) rfl ?_
    refine r_iload_n (pc := 35) hR (dc dt_X3_clash 18 rfl) rfl ?_
    obtain ⟨r36, e36, h⟩ := b1_some h
    refine r_callV (pc := 36) (rest := []) hR (dc dt_X3_clash 19 rfl) cl_X3_25 tc_4 rfl (ok_F1_told qv4 qv2 e36) (by decide) rfl (Nat.le_of_ble_eq_true rfl) rfl (fun q36r => ?_)
    show Go 39 [some (.ref (ad 51)), some (iv v1), some (iv v2), some (iv v3), some (iv v4), some (iv r24), none] [iv r36] m
    refine r_istore (pc := 39) (L' := [some (.ref (ad 51)), some (iv v1), some (iv v2), some (iv v3), some (iv v4), some (iv r24), some (iv r36)]) hR (dc dt_X3_clash 20 rfl) (by decide) rfl rfl ?_
    refine r_iload (pc := 41) hR (dc dt_X3_clash 21 rfl) rfl ?_
    refine r_bipush (pc := 43) hR (dc dt_X3_clash 22 rfl) (by decide) ?_
    refine jn_e h (fun (K : Int → Option Int) => ∀ (v3_81 : Int), inR v3_81 → K v3_81 = some out → Go 81 [some (.ref (ad 51)), some (iv v1), some (iv v2), some (iv v3_81), some (iv v4), none, none] [] m) (fun v3_81 qv3_81 h => ?_) (fun K81 J81 h => ?_)
    · refine r_iinc (pc := 81) (L' := [some (.ref (ad 51)), some (iv v1), some (iv v2), some (iv v3_81), some (iv (w32 (v4 + 1))), none, none]) hR (dc dt_X3_clash 43 rfl) rfl (by decide) rfl rfl ?_
      refine r_goto (pc := 84) (tgt := 5) hR (dc dt_X3_clash 44 rfl) (by decide) ?_
      exact ih v3_81 (w32 (v4 + 1)) qv3_81 (w32_in _) h
    refine r_icmp_eq (pc := 45) (tgt := 81) hR (dc dt_X3_clash 23 rfl) (by decide) q24r (rg_c rfl) (fun hc => ?_) (fun hc => ?_)
    · replace h := ite_t hc h
      refine r_weak (L' := [some (.ref (ad 51)), some (iv v1), some (iv v2), some (iv v3), some (iv v4), none, none]) hR ⟨Or.inr rfl, Or.inr rfl, Or.inr rfl, Or.inr rfl, Or.inr rfl, Or.inl rfl, Or.inl rfl, trivial⟩ ?_
      exact J81 v3 qv3 h
    replace h := ite_f hc h
    refine r_iload (pc := 48) hR (dc dt_X3_clash 24 rfl) rfl ?_
    refine r_bipush (pc := 50) hR (dc dt_X3_clash 25 rfl) (by decide) ?_
    refine r_icmp_eq (pc := 52) (tgt := 81) hR (dc dt_X3_clash 26 rfl) (by decide) q36r (rg_c rfl) (fun hc => ?_) (fun hc => ?_)
    · replace h := ite_t hc h
      refine r_weak (L' := [some (.ref (ad 51)), some (iv v1), some (iv v2), some (iv v3), some (iv v4), none, none]) hR ⟨Or.inr rfl, Or.inr rfl, Or.inr rfl, Or.inr rfl, Or.inr rfl, Or.inl rfl, Or.inl rfl, trivial⟩ ?_
      exact J81 v3 qv3 h
    replace h := ite_f hc h
    refine r_iload_n (pc := 55) hR (dc dt_X3_clash 27 rfl) rfl ?_
    refine r_iconst (pc := 56) hR (dc dt_X3_clash 28 rfl) ?_
    refine r_iload (pc := 57) hR (dc dt_X3_clash 29 rfl) rfl ?_
    refine jn_e h (fun (K : Int → Option Int) => ∀ (x67 : Int), inZ x67 → K x67 = some out → Go 67 [some (.ref (ad 51)), some (iv v1), some (iv v2), none, some (iv v4), none, some (iv r36)] [iv x67, iv 1, iv v3] m) (fun x67 qx67 h => ?_) (fun K67 J67 h => ?_)
    · refine r_iload (pc := 67) hR (dc dt_X3_clash 34 rfl) rfl ?_
      refine jn_e h (fun (K : Int → Option Int) => ∀ (x77 : Int), inR x77 → K x77 = some out → Go 77 [some (.ref (ad 51)), some (iv v1), some (iv v2), none, some (iv v4), none, none] [iv x77, iv x67, iv 1, iv v3] m) (fun x77 qx77 h => ?_) (fun K77 J77 h => ?_)
      · refine r_iadd (pc := 77) hR (dc dt_X3_clash 39 rfl) ?_
        refine r_ishl (pc := 78) hR (dc dt_X3_clash 40 rfl) ?_
        refine r_ior (pc := 79) hR (dc dt_X3_clash 41 rfl) ?_
        refine r_istore_n (pc := 80) (L' := [some (.ref (ad 51)), some (iv v1), some (iv v2), some (iv (bor v3 (shl 1 (w32 (x67 + x77))))), some (iv v4), none, none]) hR (dc dt_X3_clash 42 rfl) (by decide) rfl rfl ?_
        exact J81 (bor v3 (shl 1 (w32 (x67 + x77)))) (ti_in _) h
      refine r_if_ne (pc := 69) (tgt := 76) hR (dc dt_X3_clash 35 rfl) (by decide) q36r (fun hc => ?_) (fun hc => ?_)
      · replace h := ite_t hc h
        refine r_iconst (pc := 76) hR (dc dt_X3_clash 38 rfl) ?_
        refine r_weak (L' := [some (.ref (ad 51)), some (iv v1), some (iv v2), none, some (iv v4), none, none]) hR ⟨Or.inr rfl, Or.inr rfl, Or.inr rfl, Or.inr rfl, Or.inr rfl, Or.inr rfl, Or.inl rfl, trivial⟩ ?_
        exact J77 2 (rg_c rfl) h
      replace h := ite_f hc h
      refine r_iconst (pc := 72) hR (dc dt_X3_clash 36 rfl) ?_
      refine r_goto (pc := 73) (tgt := 77) hR (dc dt_X3_clash 37 rfl) (by decide) ?_
      refine r_weak (L' := [some (.ref (ad 51)), some (iv v1), some (iv v2), none, some (iv v4), none, none]) hR ⟨Or.inr rfl, Or.inr rfl, Or.inr rfl, Or.inr rfl, Or.inr rfl, Or.inr rfl, Or.inl rfl, trivial⟩ ?_
      exact J77 0 (rg_c rfl) h
    refine r_if_ne (pc := 59) (tgt := 66) hR (dc dt_X3_clash 30 rfl) (by decide) q24r (fun hc => ?_) (fun hc => ?_)
    · replace h := ite_t hc h
      refine r_iconst (pc := 66) hR (dc dt_X3_clash 33 rfl) ?_
      refine r_weak (L' := [some (.ref (ad 51)), some (iv v1), some (iv v2), none, some (iv v4), none, some (iv r36)]) hR ⟨Or.inr rfl, Or.inr rfl, Or.inr rfl, Or.inl rfl, Or.inr rfl, Or.inl rfl, Or.inr rfl, trivial⟩ ?_
      exact J67 1 (Or.inr rfl) h
    replace h := ite_f hc h
    refine r_iconst (pc := 62) hR (dc dt_X3_clash 31 rfl) ?_
    refine r_goto (pc := 63) (tgt := 67) hR (dc dt_X3_clash 32 rfl) (by decide) ?_
    refine r_weak (L' := [some (.ref (ad 51)), some (iv v1), some (iv v2), none, some (iv v4), none, some (iv r36)]) hR ⟨Or.inr rfl, Or.inr rfl, Or.inr rfl, Or.inl rfl, Or.inr rfl, Or.inl rfl, Or.inr rfl, trivial⟩ ?_
    exact J67 0 (Or.inl rfl) h
set_option maxRecDepth 100000 in
set_option maxHeartbeats 4000000 in
theorem ok_F3_clash {m : Mem}  {v1 v2 : Int} (q1 : inR v1) (q2 : inR v2) {out : Int} (h : F3_clash m v1 v2 = some out) : CT l G cy ad tt yX3_clash cX3_clash 7 (some .boolean) 2 [.ref (ad 51), iv v1, iv v2] m (some (iv out)) (inZ out) m := by
  refine CT_of (by decide) (Nat.le_of_ble_eq_true rfl) (fun Go hR hT => ?_)
  replace hR : RS l G cy ad tt RX3 cX3_clash 7 2 Go := hR
  show Go 0 [some (.ref (ad 51)), some (iv v1), some (iv v2), none, none, none, none] [] m
  unfold F3_clash at h
  refine r_iconst (pc := 0) hR (dc dt_X3_clash 0 rfl) ?_
  refine r_istore_n (pc := 1) (L' := [some (.ref (ad 51)), some (iv v1), some (iv v2), some (iv 0), none, none, none]) hR (dc dt_X3_clash 1 rfl) (by decide) rfl rfl ?_
  refine r_iconst (pc := 2) hR (dc dt_X3_clash 2 rfl) ?_
  refine r_istore (pc := 3) (L' := [some (.ref (ad 51)), some (iv v1), some (iv v2), some (iv 0), some (iv 0), none, none]) hR (dc dt_X3_clash 3 rfl) (by decide) rfl rfl ?_
  refine lp_L3_clash_5 hR hT q1 q2 (fun v3_87 qv3_87 h => ?_) FU 0 0 (rg_c rfl) (rg_c rfl) h
  show Go 87 [none, none, none, some (iv v3_87), none, none, none] [] m
  refine r_iload_n (pc := 87) hR (dc dt_X3_clash 45 rfl) rfl ?_
  refine r_bipush (pc := 88) hR (dc dt_X3_clash 46 rfl) (by decide) ?_
  refine r_icmp_ne (pc := 90) (tgt := 97) hR (dc dt_X3_clash 47 rfl) (by decide) qv3_87 (rg_c rfl) (fun hc => ?_) (fun hc => ?_)
  · replace h := ite_t hc h
    refine r_iconst (pc := 97) hR (dc dt_X3_clash 50 rfl) ?_
    exact r_zret hT (dc dt_X3_clash 51 rfl) (Option.some.inj h) rfl (Or.inl rfl)
  replace h := ite_f hc h
  refine r_iconst (pc := 93) hR (dc dt_X3_clash 48 rfl) ?_
  refine r_goto (pc := 94) (tgt := 98) hR (dc dt_X3_clash 49 rfl) (by decide) ?_
  exact r_zret hT (dc dt_X3_clash 51 rfl) (Option.some.inj h) rfl (Or.inr rfl)
def tb_X3_pair : List (Nat × (Instr × Nat)) := [(0, (.iconst 0, 1)), (1, (.istore_n 2, 1)), (2, (.iconst 0, 1)), (3, (.istore_n 3, 1)), (4, (.iload_n 3, 1)), (5, (.bipush 16, 2)), (7, (.if_icmp .ge 53, 3)), (10, (.iload_n 3, 1)), (11, (.iconst 1, 1)), (12, (.iadd, 1)), (13, (.istore 4, 2)), (15, (.iload 4, 2)), (17, (.bipush 16, 2)), (19, (.if_icmp .ge 35, 3)), (22, (.aload_n 0, 1)), (23, (.iload_n 3, 1)), (24, (.iload 4, 2)), (26, (.invokevirtual 29, 3)), (29, (.ifCond .eq 19, 3)), (32, (.iload_n 2, 1)), (33, (.iload_n 1, 1)), (34, (.if_icmp .ne 11, 3)), (37, (.bipush 16, 2)), (39, (.iload_n 3, 1)), (40, (.imul, 1)), (41, (.iload 4, 2)), (43, (.iadd, 1)), (44, (.ireturn, 1)), (45, (.iinc 2 1, 3)), (48, (.iinc 4 1, 3)), (51, (.goto (-36), 3)), (54, (.iinc 3 1, 3)), (57, (.goto (-53), 3)), (60, (.iload_n 1, 1)), (61, (.iconst (-1), 1)), (62, (.if_icmp .ne 7, 3)), (65, (.iload_n 2, 1)), (66, (.goto 4, 3)), (69, (.iconst (-1), 1)), (70, (.ireturn, 1))]
set_option maxRecDepth 100000 in
theorem dt_X3_pair : (tb_X3_pair.all fun q => decide (decode cX3_pair q.1 = .ok q.2)) = true := by decide +kernel
set_option maxRecDepth 100000 in
set_option maxHeartbeats 4000000 in
theorem lp_L3_pair_15 {Go : Nat → List (Option Value) → List Value → Mem → Prop} (hR : RS l G cy ad tt RX3 cX3_pair 5 3 Go) {out : Int} {m : Mem} (hT : RT cX3_pair (some (iv out)) (inR out) m (some .int) Go) {v1 : Int} {v3 : Int} (qv1 : inR v1) (qv3 : inR v3) {k54 : Int → Option Int} {k37 : Int → Option Int} (hk54 : ∀ (v2 : Int), inR v2 → k54 v2 = some out → Go 54 [some (.ref (ad 51)), some (iv v1), some (iv v2), some (iv v3), none] [] m) (hk37 : ∀ (v4 : Int), inR v4 → k37 v4 = some out → Go 37 [none, none, none, some (iv v3), some (iv v4)] [] m) : ∀ (n : Nat) (v2 : Int) (v4 : Int), inR v2 → inR v4 → L3_pair_15 m v1 v3 k54 k37 n v2 v4 = some out → Go 15 [some (.ref (ad 51)), some (iv v1), some (iv v2), some (iv v3), some (iv v4)] [] m := by
  intro n
  induction n with
  | zero =>
    intro v2 v4 qv2 qv4 h
    cases h
  | succ n ih =>
    intro v2 v4 qv2 qv4 h
    rw [L3_pair_15] at h
    refine r_iload (pc := 15) hR (dc dt_X3_pair 11 rfl) rfl ?_
    refine r_bipush (pc := 17) hR (dc dt_X3_pair 12 rfl) (by decide) ?_
    refine r_icmp_ge (pc := 19) (tgt := 54) hR (dc dt_X3_pair 13 rfl) (by decide) qv4 (rg_c rfl) (fun hc => ?_) (fun hc => ?_)
    · replace h := ite_t hc h
      refine r_weak (L' := [some (.ref (ad 51)), some (iv v1), some (iv v2), some (iv v3), none]) hR ⟨Or.inr rfl, Or.inr rfl, Or.inr rfl, Or.inr rfl, Or.inl rfl, trivial⟩ ?_
      exact hk54 v2 qv2 h
    replace h := ite_f hc h
    refine r_aload_n (pc := 22) hR (dc dt_X3_pair 14 rfl) rfl ?_
    refine r_iload_n (pc := 23) hR (dc dt_X3_pair 15 rfl) rfl ?_
    refine r_iload (pc := 24) hR (dc dt_X3_pair 16 rfl) rfl ?_
    obtain ⟨r26, e26, h⟩ := b1_some h
    refine r_callV (pc := 26) (rest := []) hR (dc dt_X3_pair 17 rfl) cl_X3_29 tc_51 rfl (ok_F3_clash qv3 qv4 e26) (by decide) rfl (Nat.le_of_ble_eq_true rfl) rfl (fun q26r => ?_)
    show Go 29 [some (.ref (ad 51)), some (iv v1), some (iv v2), some (iv v3), some (iv v4)] [iv r26] m
    refine jn_e h (fun (K : Int → Option Int) => ∀ (v2_48 : Int), inR v2_48 → K v2_48 = some out → Go 48 [some (.ref (ad 51)), some (iv v1), some (iv v2_48), some (iv v3), some (iv v4)] [] m) (fun v2_48 qv2_48 h => ?_) (fun K48 J48 h => ?_)
    · refine r_iinc (pc := 48) (L' := [some (.ref (ad 51)), some (iv v1), some (iv v2_48), some (iv v3), some (iv (w32 (v4 + 1)))]) hR (dc dt_X3_pair 29 rfl) rfl (by decide) rfl rfl ?_
      refine r_goto (pc := 51) (tgt := 15) hR (dc dt_X3_pair 30 rfl) (by decide) ?_
      exact ih v2_48 (w32 (v4 + 1)) qv2_48 (w32_in _) h
    refine r_if_eq (pc := 29) (tgt := 48) hR (dc dt_X3_pair 18 rfl) (by decide) (inZ_R q26r) (fun hc => ?_) (fun hc => ?_)
    · replace h := ite_t hc h
      exact J48 v2 qv2 h
    replace h := ite_f hc h
    refine r_iload_n (pc := 32) hR (dc dt_X3_pair 19 rfl) rfl ?_
    refine r_iload_n (pc := 33) hR (dc dt_X3_pair 20 rfl) rfl ?_
    refine r_icmp_ne (pc := 34) (tgt := 45) hR (dc dt_X3_pair 21 rfl) (by decide) qv2 qv1 (fun hc => ?_) (fun hc => ?_)
    · replace h := ite_t hc h
      refine r_iinc (pc := 45) (L' := [some (.ref (ad 51)), some (iv v1), some (iv (w32 (v2 + 1))), some (iv v3), some (iv v4)]) hR (dc dt_X3_pair 28 rfl) rfl (by decide) rfl rfl ?_
      exact J48 (w32 (v2 + 1)) (w32_in _) h
    replace h := ite_f hc h
    refine r_weak (L' := [none, none, none, some (iv v3), some (iv v4)]) hR ⟨Or.inl rfl, Or.inl rfl, Or.inl rfl, Or.inr rfl, Or.inr rfl, trivial⟩ ?_
    exact hk37 v4 qv4 h
set_option maxRecDepth 100000 in
set_option maxHeartbeats 4000000 in
theorem lp_L3_pair_4 {Go : Nat → List (Option Value) → List Value → Mem → Prop} (hR : RS l G cy ad tt RX3 cX3_pair 5 3 Go) {out : Int} {m : Mem} (hT : RT cX3_pair (some (iv out)) (inR out) m (some .int) Go) {v1 : Int} (qv1 : inR v1) {k60 : Int → Option Int} {k37 : Int → Int → Option Int} (hk60 : ∀ (v2 : Int), inR v2 → k60 v2 = some out → Go 60 [none, some (iv v1), some (iv v2), none, none] [] m) (hk37 : ∀ (v3 : Int) (v4 : Int), inR v3 → inR v4 → k37 v3 v4 = some out → Go 37 [none, none, none, some (iv v3), some (iv v4)] [] m) : ∀ (n : Nat) (v2 : Int) (v3 : Int), inR v2 → inR v3 → L3_pair_4 m v1 k60 k37 n v2 v3 = some out → Go 4 [some (.ref (ad 51)), some (iv v1), some (iv v2), some (iv v3), none] [] m := by
  intro n
  induction n with
  | zero =>
    intro v2 v3 qv2 qv3 h
    cases h
  | succ n ih =>
    intro v2 v3 qv2 qv3 h
    rw [L3_pair_4] at h
    refine r_iload_n (pc := 4) hR (dc dt_X3_pair 4 rfl) rfl ?_
    refine r_bipush (pc := 5) hR (dc dt_X3_pair 5 rfl) (by decide) ?_
    refine r_icmp_ge (pc := 7) (tgt := 60) hR (dc dt_X3_pair 6 rfl) (by decide) qv3 (rg_c rfl) (fun hc => ?_) (fun hc => ?_)
    · replace h := ite_t hc h
      refine r_weak (L' := [none, some (iv v1), some (iv v2), none, none]) hR ⟨Or.inl rfl, Or.inr rfl, Or.inr rfl, Or.inl rfl, Or.inr rfl, trivial⟩ ?_
      exact hk60 v2 qv2 h
    replace h := ite_f hc h
    refine r_iload_n (pc := 10) hR (dc dt_X3_pair 7 rfl) rfl ?_
    refine r_iconst (pc := 11) hR (dc dt_X3_pair 8 rfl) ?_
    refine r_iadd (pc := 12) hR (dc dt_X3_pair 9 rfl) ?_
    refine r_istore (pc := 13) (L' := [some (.ref (ad 51)), some (iv v1), some (iv v2), some (iv v3), some (iv (w32 (v3 + 1)))]) hR (dc dt_X3_pair 10 rfl) (by decide) rfl rfl ?_
    refine lp_L3_pair_15 hR hT qv1 qv3 (fun v2_54 qv2_54 h => ?_) (fun v4_37 qv4_37 h => ?_) FU v2 (w32 (v3 + 1)) qv2 (w32_in _) h
    · show Go 54 [some (.ref (ad 51)), some (iv v1), some (iv v2_54), some (iv v3), none] [] m
      refine r_iinc (pc := 54) (L' := [some (.ref (ad 51)), some (iv v1), some (iv v2_54), some (iv (w32 (v3 + 1))), none]) hR (dc dt_X3_pair 31 rfl) rfl (by decide) rfl rfl ?_
      refine r_goto (pc := 57) (tgt := 4) hR (dc dt_X3_pair 32 rfl) (by decide) ?_
      exact ih v2_54 (w32 (v3 + 1)) qv2_54 (w32_in _) h
    · show Go 37 [none, none, none, some (iv v3), some (iv v4_37)] [] m
      exact hk37 v3 v4_37 qv3 qv4_37 h
set_option maxRecDepth 100000 in
set_option maxHeartbeats 4000000 in
theorem ok_F3_pair {m : Mem}  {v1 : Int} (q1 : inR v1) {out : Int} (h : F3_pair m v1 = some out) : CT l G cy ad tt yX3_pair cX3_pair 5 (some .int) 3 [.ref (ad 51), iv v1] m (some (iv out)) (inR out) m := by
  refine CT_of (by decide) (Nat.le_of_ble_eq_true rfl) (fun Go hR hT => ?_)
  replace hR : RS l G cy ad tt RX3 cX3_pair 5 3 Go := hR
  show Go 0 [some (.ref (ad 51)), some (iv v1), none, none, none] [] m
  unfold F3_pair at h
  refine r_iconst (pc := 0) hR (dc dt_X3_pair 0 rfl) ?_
  refine r_istore_n (pc := 1) (L' := [some (.ref (ad 51)), some (iv v1), some (iv 0), none, none]) hR (dc dt_X3_pair 1 rfl) (by decide) rfl rfl ?_
  refine r_iconst (pc := 2) hR (dc dt_X3_pair 2 rfl) ?_
  refine r_istore_n (pc := 3) (L' := [some (.ref (ad 51)), some (iv v1), some (iv 0), some (iv 0), none]) hR (dc dt_X3_pair 3 rfl) (by decide) rfl rfl ?_
  refine lp_L3_pair_4 hR hT q1 (fun v2_60 qv2_60 h => ?_) (fun v3_37 v4_37 qv3_37 qv4_37 h => ?_) FU 0 0 (rg_c rfl) (rg_c rfl) h
  · show Go 60 [none, some (iv v1), some (iv v2_60), none, none] [] m
    refine r_iload_n (pc := 60) hR (dc dt_X3_pair 33 rfl) rfl ?_
    refine r_iconst (pc := 61) hR (dc dt_X3_pair 34 rfl) ?_
    refine r_icmp_ne (pc := 62) (tgt := 69) hR (dc dt_X3_pair 35 rfl) (by decide) q1 (rg_c rfl) (fun hc => ?_) (fun hc => ?_)
    · replace h := ite_t hc h
      refine r_iconst (pc := 69) hR (dc dt_X3_pair 38 rfl) ?_
      exact r_iret hT (dc dt_X3_pair 39 rfl) (Option.some.inj h) rfl (rg_c rfl)
    replace h := ite_f hc h
    refine r_iload_n (pc := 65) hR (dc dt_X3_pair 36 rfl) rfl ?_
    refine r_goto (pc := 66) (tgt := 70) hR (dc dt_X3_pair 37 rfl) (by decide) ?_
    exact r_iret hT (dc dt_X3_pair 39 rfl) (Option.some.inj h) rfl qv2_60
  · show Go 37 [none, none, none, some (iv v3_37), some (iv v4_37)] [] m
    refine r_bipush (pc := 37) hR (dc dt_X3_pair 22 rfl) (by decide) ?_
    refine r_iload_n (pc := 39) hR (dc dt_X3_pair 23 rfl) rfl ?_
    refine r_imul (pc := 40) hR (dc dt_X3_pair 24 rfl) ?_
    refine r_iload (pc := 41) hR (dc dt_X3_pair 25 rfl) rfl ?_
    refine r_iadd (pc := 43) hR (dc dt_X3_pair 26 rfl) ?_
    exact r_iret hT (dc dt_X3_pair 27 rfl) (Option.some.inj h) rfl (w32_in _)
def tb_X10_pairs : List (Nat × (Instr × Nat)) := [(0, (.iload_n 1, 1)), (1, (.iconst (-1), 1)), (2, (.if_icmp .ge 7, 3)), (5, (.iconst (-1), 1)), (6, (.goto 11, 3)), (9, (.aload_n 0, 1)), (10, (.getfield 51, 3)), (13, (.iload_n 1, 1)), (14, (.invokevirtual 231, 3)), (17, (.ireturn, 1))]
set_option maxRecDepth 100000 in
theorem dt_X10_pairs : (tb_X10_pairs.all fun q => decide (decode cX10_pairs q.1 = .ok q.2)) = true := by decide +kernel
set_option maxRecDepth 100000 in
set_option maxHeartbeats 4000000 in
theorem ok_F10_pairs {m : Mem}  {v1 : Int} (q1 : inR v1) {out : Int} (h : F10_pairs m v1 = some out) : CT l G cy ad tt yX10_pairs cX10_pairs 2 (some .int) 4 [.ref (ad 0), iv v1] m (some (iv out)) (inR out) m := by
  refine CT_of (by decide) (Nat.le_of_ble_eq_true rfl) (fun Go hR hT => ?_)
  replace hR : RS l G cy ad tt RX10 cX10_pairs 2 4 Go := hR
  show Go 0 [some (.ref (ad 0)), some (iv v1)] [] m
  unfold F10_pairs at h
  refine r_iload_n (pc := 0) hR (dc dt_X10_pairs 0 rfl) rfl ?_
  refine r_iconst (pc := 1) hR (dc dt_X10_pairs 1 rfl) ?_
  refine r_icmp_ge (pc := 2) (tgt := 9) hR (dc dt_X10_pairs 2 rfl) (by decide) q1 (rg_c rfl) (fun hc => ?_) (fun hc => ?_)
  · replace h := ite_t hc h
    refine r_aload_n (pc := 9) hR (dc dt_X10_pairs 5 rfl) rfl ?_
    refine r_getr (pc := 10) (k2 := 51) hR (dc dt_X10_pairs 6 rfl) fl_X10_51 tc_0 rfl ?_
    refine r_iload_n (pc := 13) hR (dc dt_X10_pairs 7 rfl) rfl ?_
    obtain ⟨r14, e14, h⟩ := b1_some h
    refine r_callV (pc := 14) (rest := []) hR (dc dt_X10_pairs 8 rfl) cl_X10_231 tc_51 rfl (ok_F3_pair q1 e14) (by decide) rfl (Nat.le_of_ble_eq_true rfl) rfl (fun q14r => ?_)
    show Go 17 [some (.ref (ad 0)), some (iv v1)] [iv r14] m
    exact r_iret hT (dc dt_X10_pairs 9 rfl) (Option.some.inj h) rfl q14r
  replace h := ite_f hc h
  refine r_iconst (pc := 5) hR (dc dt_X10_pairs 3 rfl) ?_
  refine r_goto (pc := 6) (tgt := 17) hR (dc dt_X10_pairs 4 rfl) (by decide) ?_
  exact r_iret hT (dc dt_X10_pairs 9 rfl) (Option.some.inj h) rfl (rg_c rfl)
def tb_X3_involve : List (Nat × (Instr × Nat)) := [(0, (.aload_n 0, 1)), (1, (.getfield 9, 3)), (4, (.iconst 0, 1)), (5, (.invokestatic 47, 3)), (8, (.iconst 0, 1)), (9, (.istore_n 1, 1)), (10, (.iconst 0, 1)), (11, (.istore_n 2, 1)), (12, (.iload_n 2, 1)), (13, (.bipush 16, 2)), (15, (.if_icmp .ge 68, 3)), (18, (.iload_n 2, 1)), (19, (.iconst 1, 1)), (20, (.iadd, 1)), (21, (.istore_n 3, 1)), (22, (.iload_n 3, 1)), (23, (.bipush 16, 2)), (25, (.if_icmp .ge 52, 3)), (28, (.aload_n 0, 1)), (29, (.iload_n 2, 1)), (30, (.iload_n 3, 1)), (31, (.invokevirtual 29, 3)), (34, (.ifCond .eq 37, 3)), (37, (.aload_n 0, 1)), (38, (.getfield 9, 3)), (41, (.iload_n 2, 1)), (42, (.dup2, 1)), (43, (.iaload, 1)), (44, (.iconst 1, 1)), (45, (.iload_n 3, 1)), (46, (.ishl, 1)), (47, (.ior, 1)), (48, (.iastore, 1)), (49, (.aload_n 0, 1)), (50, (.getfield 9, 3)), (53, (.iload_n 3, 1)), (54, (.dup2, 1)), (55, (.iaload, 1)), (56, (.iconst 1, 1)), (57, (.iload_n 2, 1)), (58, (.ishl, 1)), (59, (.ior, 1)), (60, (.iastore, 1)), (61, (.iload_n 1, 1)), (62, (.iconst 1, 1)), (63, (.iload_n 2, 1)), (64, (.ishl, 1)), (65, (.iconst 1, 1)), (66, (.iload_n 3, 1)), (67, (.ishl, 1)), (68, (.ior, 1)), (69, (.ior, 1)), (70, (.istore_n 1, 1)), (71, (.iinc 3 1, 3)), (74, (.goto (-52), 3)), (77, (.iinc 2 1, 3)), (80, (.goto (-68), 3)), (83, (.iload_n 1, 1)), (84, (.ireturn, 1))]
set_option maxRecDepth 100000 in
theorem dt_X3_involve : (tb_X3_involve.all fun q => decide (decode cX3_involve q.1 = .ok q.2)) = true := by decide +kernel
set_option maxRecDepth 100000 in
set_option maxHeartbeats 4000000 in
theorem lp_L3_involve_22 {Go : Nat → List (Option Value) → List Value → Mem → Prop} (hR : RS l G cy ad tt RX3 cX3_involve 4 3 Go) {out : Int × Mem} (hT : RT cX3_involve (some (iv out.1)) (inR out.1) out.2 (some .int) Go) {v2 : Int} (qv2 : inR v2) {k77 : Int → Mem → Option (Int × Mem)} (hk77 : ∀ (v1 : Int) (m : Mem), inR v1 → k77 v1 m = some out → Go 77 [some (.ref (ad 51)), some (iv v1), some (iv v2), none] [] m) : ∀ (n : Nat) (v1 : Int) (v3 : Int) (m : Mem), inR v1 → inR v3 → L3_involve_22 v2 k77 n v1 v3 m = some out → Go 22 [some (.ref (ad 51)), some (iv v1), some (iv v2), some (iv v3)] [] m := by
  intro n
  induction n with
  | zero =>
    intro v1 v3 m qv1 qv3 h
    cases h
  | succ n ih =>
    intro v1 v3 m qv1 qv3 h
    rw [L3_involve_22] at h
    refine r_iload_n (pc := 22) hR (dc dt_X3_involve 15 rfl) rfl ?_
    refine r_bipush (pc := 23) hR (dc dt_X3_involve 16 rfl) (by decide) ?_
    refine r_icmp_ge (pc := 25) (tgt := 77) hR (dc dt_X3_involve 17 rfl) (by decide) qv3 (rg_c rfl) (fun hc => ?_) (fun hc => ?_)
    · replace h := ite_t hc h
      refine r_weak (L' := [some (.ref (ad 51)), some (iv v1), some (iv v2), none]) hR ⟨Or.inr rfl, Or.inr rfl, Or.inr rfl, Or.inl rfl, trivial⟩ ?_
      exact hk77 v1 m qv1 h
    replace h := ite_f hc h
    refine r_aload_n (pc := 28) hR (dc dt_X3_involve 18 rfl) rfl ?_
    refine r_iload_n (pc := 29) hR (dc dt_X3_involve 19 rfl) rfl ?_
    refine r_iload_n (pc := 30) hR (dc dt_X3_involve 20 rfl) rfl ?_
    obtain ⟨r31, e31, h⟩ := b1_some h
    refine r_callV (pc := 31) (rest := []) hR (dc dt_X3_involve 21 rfl) cl_X3_29 tc_51 rfl (ok_F3_clash qv2 qv3 e31) (by decide) rfl (Nat.le_of_ble_eq_true rfl) rfl (fun q31r => ?_)
    show Go 34 [some (.ref (ad 51)), some (iv v1), some (iv v2), some (iv v3)] [iv r31] m
    refine jn_e h (fun (K : Int → Mem → Option (Int × Mem)) => ∀ (v1_71 : Int) (m_71 : Mem), inR v1_71 → K v1_71 m_71 = some out → Go 71 [some (.ref (ad 51)), some (iv v1_71), some (iv v2), some (iv v3)] [] m_71) (fun v1_71 m_71 qv1_71 h => ?_) (fun K71 J71 h => ?_)
    · refine r_iinc (pc := 71) (L' := [some (.ref (ad 51)), some (iv v1_71), some (iv v2), some (iv (w32 (v3 + 1)))]) hR (dc dt_X3_involve 53 rfl) rfl (by decide) rfl rfl ?_
      refine r_goto (pc := 74) (tgt := 22) hR (dc dt_X3_involve 54 rfl) (by decide) ?_
      exact ih v1_71 (w32 (v3 + 1)) m_71 qv1_71 (w32_in _) h
    refine r_if_eq (pc := 34) (tgt := 71) hR (dc dt_X3_involve 22 rfl) (by decide) (inZ_R q31r) (fun hc => ?_) (fun hc => ?_)
    · replace h := ite_t hc h
      exact J71 v1 m qv1 h
    replace h := ite_f hc h
    refine r_aload_n (pc := 37) hR (dc dt_X3_involve 23 rfl) rfl ?_
    refine r_getr (pc := 38) (k2 := 52) hR (dc dt_X3_involve 24 rfl) fl_X3_9 tc_51 rfl ?_
    refine r_iload_n (pc := 41) hR (dc dt_X3_involve 25 rfl) rfl ?_
    refine r_dup2 (pc := 42) hR (dc dt_X3_involve 26 rfl) rfl rfl ?_
    obtain ⟨g1, h⟩ := gd_some h
    refine r_iald (pc := 43) hR (dc dt_X3_involve 27 rfl) tc_52 g1 qv2 ?_
    refine r_iconst (pc := 44) hR (dc dt_X3_involve 28 rfl) ?_
    refine r_iload_n (pc := 45) hR (dc dt_X3_involve 29 rfl) rfl ?_
    refine r_ishl (pc := 46) hR (dc dt_X3_involve 30 rfl) ?_
    refine r_ior (pc := 47) hR (dc dt_X3_involve 31 rfl) ?_
    obtain ⟨g1, h⟩ := gd_some h
    refine r_iast (pc := 48) hR (dc dt_X3_involve 32 rfl) tc_52 g1 qv2 ?_
    replace h := stw_e h
    generalize wr m 52 v2 (bor (rd m 52 v2) (shl 1 v3)) = m48 at h ⊢
    refine r_aload_n (pc := 49) hR (dc dt_X3_involve 33 rfl) rfl ?_
    refine r_getr (pc := 50) (k2 := 52) hR (dc dt_X3_involve 34 rfl) fl_X3_9 tc_51 rfl ?_
    refine r_iload_n (pc := 53) hR (dc dt_X3_involve 35 rfl) rfl ?_
    refine r_dup2 (pc := 54) hR (dc dt_X3_involve 36 rfl) rfl rfl ?_
    obtain ⟨g1, h⟩ := gd_some h
    refine r_iald (pc := 55) hR (dc dt_X3_involve 37 rfl) tc_52 g1 qv3 ?_
    refine r_iconst (pc := 56) hR (dc dt_X3_involve 38 rfl) ?_
    refine r_iload_n (pc := 57) hR (dc dt_X3_involve 39 rfl) rfl ?_
    refine r_ishl (pc := 58) hR (dc dt_X3_involve 40 rfl) ?_
    refine r_ior (pc := 59) hR (dc dt_X3_involve 41 rfl) ?_
    obtain ⟨g1, h⟩ := gd_some h
    refine r_iast (pc := 60) hR (dc dt_X3_involve 42 rfl) tc_52 g1 qv3 ?_
    replace h := stw_e h
    generalize wr m48 52 v3 (bor (rd m48 52 v3) (shl 1 v2)) = m60 at h ⊢
    refine r_iload_n (pc := 61) hR (dc dt_X3_involve 43 rfl) rfl ?_
    refine r_iconst (pc := 62) hR (dc dt_X3_involve 44 rfl) ?_
    refine r_iload_n (pc := 63) hR (dc dt_X3_involve 45 rfl) rfl ?_
    refine r_ishl (pc := 64) hR (dc dt_X3_involve 46 rfl) ?_
    refine r_iconst (pc := 65) hR (dc dt_X3_involve 47 rfl) ?_
    refine r_iload_n (pc := 66) hR (dc dt_X3_involve 48 rfl) rfl ?_
    refine r_ishl (pc := 67) hR (dc dt_X3_involve 49 rfl) ?_
    refine r_ior (pc := 68) hR (dc dt_X3_involve 50 rfl) ?_
    refine r_ior (pc := 69) hR (dc dt_X3_involve 51 rfl) ?_
    refine r_istore_n (pc := 70) (L' := [some (.ref (ad 51)), some (iv (bor v1 (bor (shl 1 v2) (shl 1 v3)))), some (iv v2), some (iv v3)]) hR (dc dt_X3_involve 52 rfl) (by decide) rfl rfl ?_
    exact J71 (bor v1 (bor (shl 1 v2) (shl 1 v3))) m60 (ti_in _) h
set_option maxRecDepth 100000 in
set_option maxHeartbeats 4000000 in
theorem lp_L3_involve_12 {Go : Nat → List (Option Value) → List Value → Mem → Prop} (hR : RS l G cy ad tt RX3 cX3_involve 4 3 Go) {out : Int × Mem} (hT : RT cX3_involve (some (iv out.1)) (inR out.1) out.2 (some .int) Go) : ∀ (n : Nat) (v1 : Int) (v2 : Int) (m : Mem), inR v1 → inR v2 → L3_involve_12 n v1 v2 m = some out → Go 12 [some (.ref (ad 51)), some (iv v1), some (iv v2), none] [] m := by
  intro n
  induction n with
  | zero =>
    intro v1 v2 m qv1 qv2 h
    cases h
  | succ n ih =>
    intro v1 v2 m qv1 qv2 h
    rw [L3_involve_12] at h
    refine r_iload_n (pc := 12) hR (dc dt_X3_involve 8 rfl) rfl ?_
    refine r_bipush (pc := 13) hR (dc dt_X3_involve 9 rfl) (by decide) ?_
    refine r_icmp_ge (pc := 15) (tgt := 83) hR (dc dt_X3_involve 10 rfl) (by decide) qv2 (rg_c rfl) (fun hc => ?_) (fun hc => ?_)
    · replace h := ite_t hc h
      refine r_iload_n (pc := 83) hR (dc dt_X3_involve 57 rfl) rfl ?_
      exact r_iret hT (dc dt_X3_involve 58 rfl) (congrArg Prod.fst (Option.some.inj h)) (congrArg Prod.snd (Option.some.inj h)) qv1
    replace h := ite_f hc h
    refine r_iload_n (pc := 18) hR (dc dt_X3_involve 11 rfl) rfl ?_
    refine r_iconst (pc := 19) hR (dc dt_X3_involve 12 rfl) ?_
    refine r_iadd (pc := 20) hR (dc dt_X3_involve 13 rfl) ?_
    refine r_istore_n (pc := 21) (L' := [some (.ref (ad 51)), some (iv v1), some (iv v2), some (iv (w32 (v2 + 1)))]) hR (dc dt_X3_involve 14 rfl) (by decide) rfl rfl ?_
    refine lp_L3_involve_22 hR hT qv2 (fun v1_77 m_77 qv1_77 h => ?_) FU v1 (w32 (v2 + 1)) m qv1 (w32_in _) h
    show Go 77 [some (.ref (ad 51)), some (iv v1_77), some (iv v2), none] [] m_77
    refine r_iinc (pc := 77) (L' := [some (.ref (ad 51)), some (iv v1_77), some (iv (w32 (v2 + 1))), none]) hR (dc dt_X3_involve 55 rfl) rfl (by decide) rfl rfl ?_
    refine r_goto (pc := 80) (tgt := 12) hR (dc dt_X3_involve 56 rfl) (by decide) ?_
    exact ih v1_77 (w32 (v2 + 1)) m_77 qv1_77 (w32_in _) h
set_option maxRecDepth 100000 in
set_option maxHeartbeats 4000000 in
theorem ok_F3_involve {m : Mem}   {out : Int × Mem} (h : F3_involve m = some out) : CT l G cy ad tt yX3_involve cX3_involve 4 (some .int) 3 [.ref (ad 51)] m (some (iv out.1)) (inR out.1) out.2 := by
  refine CT_of (by decide) (Nat.le_of_ble_eq_true rfl) (fun Go hR hT => ?_)
  replace hR : RS l G cy ad tt RX3 cX3_involve 4 3 Go := hR
  show Go 0 [some (.ref (ad 51)), none, none, none] [] m
  unfold F3_involve at h
  refine r_aload_n (pc := 0) hR (dc dt_X3_involve 0 rfl) rfl ?_
  refine r_getr (pc := 1) (k2 := 52) hR (dc dt_X3_involve 1 rfl) fl_X3_9 tc_51 rfl ?_
  refine r_iconst (pc := 4) hR (dc dt_X3_involve 2 rfl) ?_
  obtain ⟨m5, e5, h⟩ := b1_some h
  refine r_callS (pc := 5) (rest := []) hR (dc dt_X3_involve 3 rfl) cl_X3_47 (ok_FJ7_fill_53178 tc_52 (by decide) (rg_c rfl) e5) (by decide) rfl (Nat.le_of_ble_eq_true rfl) rfl (fun q5r => ?_)
  show Go 8 [some (.ref (ad 51)), none, none, none] [] m5
  refine r_iconst (pc := 8) hR (dc dt_X3_involve 4 rfl) ?_
  refine r_istore_n (pc := 9) (L' := [some (.ref (ad 51)), some (iv 0), none, none]) hR (dc dt_X3_involve 5 rfl) (by decide) rfl rfl ?_
  refine r_iconst (pc := 10) hR (dc dt_X3_involve 6 rfl) ?_
  refine r_istore_n (pc := 11) (L' := [some (.ref (ad 51)), some (iv 0), some (iv 0), none]) hR (dc dt_X3_involve 7 rfl) (by decide) rfl rfl ?_
  refine lp_L3_involve_12 hR hT FU 0 0 m5 (rg_c rfl) (rg_c rfl) h
def tb_X3_frees : List (Nat × (Instr × Nat)) := [(0, (.iconst 0, 1)), (1, (.istore_n 2, 1)), (2, (.iload_n 2, 1)), (3, (.bipush 16, 2)), (5, (.if_icmp .ge 32, 3)), (8, (.iload_n 1, 1)), (9, (.iload_n 2, 1)), (10, (.ishr, 1)), (11, (.iconst 1, 1)), (12, (.iand, 1)), (13, (.ifCond .ne 18, 3)), (16, (.aload_n 0, 1)), (17, (.getfield 9, 3)), (20, (.iload_n 2, 1)), (21, (.iaload, 1)), (22, (.iload_n 1, 1)), (23, (.iconst (-1), 1)), (24, (.ixor, 1)), (25, (.iand, 1)), (26, (.ifCond .eq 5, 3)), (29, (.iconst 0, 1)), (30, (.ireturn, 1)), (31, (.iinc 2 1, 3)), (34, (.goto (-32), 3)), (37, (.iconst 1, 1)), (38, (.ireturn, 1))]
set_option maxRecDepth 100000 in
theorem dt_X3_frees : (tb_X3_frees.all fun q => decide (decode cX3_frees q.1 = .ok q.2)) = true := by decide +kernel
set_option maxRecDepth 100000 in
set_option maxHeartbeats 4000000 in
theorem lp_L3_frees_2 {Go : Nat → List (Option Value) → List Value → Mem → Prop} (hR : RS l G cy ad tt RX3 cX3_frees 3 0 Go) {out : Int} {m : Mem} (hT : RT cX3_frees (some (iv out)) (inZ out) m (some .boolean) Go) {v1 : Int} (qv1 : inR v1) : ∀ (n : Nat) (v2 : Int), inR v2 → L3_frees_2 m v1 n v2 = some out → Go 2 [some (.ref (ad 51)), some (iv v1), some (iv v2)] [] m := by
  intro n
  induction n with
  | zero =>
    intro v2 qv2 h
    cases h
  | succ n ih =>
    intro v2 qv2 h
    rw [L3_frees_2] at h
    refine r_iload_n (pc := 2) hR (dc dt_X3_frees 2 rfl) rfl ?_
    refine r_bipush (pc := 3) hR (dc dt_X3_frees 3 rfl) (by decide) ?_
    refine r_icmp_ge (pc := 5) (tgt := 37) hR (dc dt_X3_frees 4 rfl) (by decide) qv2 (rg_c rfl) (fun hc => ?_) (fun hc => ?_)
    · replace h := ite_t hc h
      refine r_iconst (pc := 37) hR (dc dt_X3_frees 24 rfl) ?_
      exact r_zret hT (dc dt_X3_frees 25 rfl) (Option.some.inj h) rfl (Or.inr rfl)
    replace h := ite_f hc h
    refine r_iload_n (pc := 8) hR (dc dt_X3_frees 5 rfl) rfl ?_
    refine r_iload_n (pc := 9) hR (dc dt_X3_frees 6 rfl) rfl ?_
    refine r_ishr (pc := 10) hR (dc dt_X3_frees 7 rfl) ?_
    refine r_iconst (pc := 11) hR (dc dt_X3_frees 8 rfl) ?_
    refine r_iand (pc := 12) hR (dc dt_X3_frees 9 rfl) ?_
    refine jn_e h (fun (K : Option Int) => K = some out → Go 31 [some (.ref (ad 51)), some (iv v1), some (iv v2)] [] m) (fun h => ?_) (fun K31 J31 h => ?_)
    · refine r_iinc (pc := 31) (L' := [some (.ref (ad 51)), some (iv v1), some (iv (w32 (v2 + 1)))]) hR (dc dt_X3_frees 22 rfl) rfl (by decide) rfl rfl ?_
      refine r_goto (pc := 34) (tgt := 2) hR (dc dt_X3_frees 23 rfl) (by decide) ?_
      exact ih (w32 (v2 + 1)) (w32_in _) h
    refine r_if_ne (pc := 13) (tgt := 31) hR (dc dt_X3_frees 10 rfl) (by decide) (ti_in _) (fun hc => ?_) (fun hc => ?_)
    · replace h := ite_t hc h
      exact J31 h
    replace h := ite_f hc h
    refine r_aload_n (pc := 16) hR (dc dt_X3_frees 11 rfl) rfl ?_
    refine r_getr (pc := 17) (k2 := 52) hR (dc dt_X3_frees 12 rfl) fl_X3_9 tc_51 rfl ?_
    refine r_iload_n (pc := 20) hR (dc dt_X3_frees 13 rfl) rfl ?_
    obtain ⟨g1, h⟩ := gd_some h
    refine r_iald (pc := 21) hR (dc dt_X3_frees 14 rfl) tc_52 g1 qv2 ?_
    refine r_iload_n (pc := 22) hR (dc dt_X3_frees 15 rfl) rfl ?_
    refine r_iconst (pc := 23) hR (dc dt_X3_frees 16 rfl) ?_
    refine r_ixor (pc := 24) hR (dc dt_X3_frees 17 rfl) ?_
    refine r_iand (pc := 25) hR (dc dt_X3_frees 18 rfl) ?_
    refine r_if_eq (pc := 26) (tgt := 31) hR (dc dt_X3_frees 19 rfl) (by decide) (ti_in _) (fun hc => ?_) (fun hc => ?_)
    · replace h := ite_t hc h
      exact J31 h
    replace h := ite_f hc h
    refine r_iconst (pc := 29) hR (dc dt_X3_frees 20 rfl) ?_
    exact r_zret hT (dc dt_X3_frees 21 rfl) (Option.some.inj h) rfl (Or.inl rfl)
set_option maxRecDepth 100000 in
set_option maxHeartbeats 4000000 in
theorem ok_F3_frees {m : Mem}  {v1 : Int} (q1 : inR v1) {out : Int} (h : F3_frees m v1 = some out) : CT l G cy ad tt yX3_frees cX3_frees 3 (some .boolean) 0 [.ref (ad 51), iv v1] m (some (iv out)) (inZ out) m := by
  refine CT_of (by decide) (Nat.le_of_ble_eq_true rfl) (fun Go hR hT => ?_)
  replace hR : RS l G cy ad tt RX3 cX3_frees 3 0 Go := hR
  show Go 0 [some (.ref (ad 51)), some (iv v1), none] [] m
  unfold F3_frees at h
  refine r_iconst (pc := 0) hR (dc dt_X3_frees 0 rfl) ?_
  refine r_istore_n (pc := 1) (L' := [some (.ref (ad 51)), some (iv v1), some (iv 0)]) hR (dc dt_X3_frees 1 rfl) (by decide) rfl rfl ?_
  refine lp_L3_frees_2 hR hT q1 FU 0 (rg_c rfl) h
def tb_X3_fewestOut : List (Nat × (Instr × Nat)) := [(0, (.aload_n 0, 1)), (1, (.invokevirtual 33, 3)), (4, (.istore_n 1, 1)), (5, (.iload_n 1, 1)), (6, (.istore_n 2, 1)), (7, (.iconst 0, 1)), (8, (.istore_n 3, 1)), (9, (.iload_n 3, 1)), (10, (.iload_n 1, 1)), (11, (.if_icmp .gt 50, 3)), (14, (.iload_n 3, 1)), (15, (.invokestatic 37, 3)), (18, (.iload_n 2, 1)), (19, (.invokestatic 37, 3)), (22, (.if_icmp .ge 7, 3)), (25, (.iconst 1, 1)), (26, (.goto 4, 3)), (29, (.iconst 0, 1)), (30, (.istore 4, 2)), (32, (.iload_n 3, 1)), (33, (.iload_n 1, 1)), (34, (.iconst (-1), 1)), (35, (.ixor, 1)), (36, (.iand, 1)), (37, (.ifCond .ne 18, 3)), (40, (.iload 4, 2)), (42, (.ifCond .eq 13, 3)), (45, (.aload_n 0, 1)), (46, (.iload_n 3, 1)), (47, (.invokevirtual 43, 3)), (50, (.ifCond .eq 5, 3)), (53, (.iload_n 3, 1)), (54, (.istore_n 2, 1)), (55, (.iinc 3 1, 3)), (58, (.goto (-49), 3)), (61, (.iload_n 2, 1)), (62, (.ireturn, 1))]
set_option maxRecDepth 100000 in
theorem dt_X3_fewestOut : (tb_X3_fewestOut.all fun q => decide (decode cX3_fewestOut q.1 = .ok q.2)) = true := by decide +kernel
set_option maxRecDepth 100000 in
set_option maxHeartbeats 4000000 in
theorem lp_L3_fewestOut_9 {Go : Nat → List (Option Value) → List Value → Mem → Prop} (hR : RS l G cy ad tt RX3 cX3_fewestOut 5 4 Go) {out : Int × Mem} {m : Mem} (hT : RT cX3_fewestOut (some (iv out.1)) (inR out.1) out.2 (some .int) Go) {v1 : Int} (qv1 : inR v1) : ∀ (n : Nat) (v2 : Int) (v3 : Int), inR v2 → inR v3 → L3_fewestOut_9 m v1 n v2 v3 = some out → Go 9 [some (.ref (ad 51)), some (iv v1), some (iv v2), some (iv v3), none] [] m := by
  intro n
  induction n with
  | zero =>
    intro v2 v3 qv2 qv3 h
    cases h
  | succ n ih =>
    intro v2 v3 qv2 qv3 h
    rw [L3_fewestOut_9] at h
    refine r_iload_n (pc := 9) hR (dc dt_X3_fewestOut 7 rfl) rfl ?_
    refine r_iload_n (pc := 10) hR (dc dt_X3_fewestOut 8 rfl) rfl ?_
    refine r_icmp_gt (pc := 11) (tgt := 61) hR (dc dt_X3_fewestOut 9 rfl) (by decide) qv3 qv1 (fun hc => ?_) (fun hc => ?_)
    · replace h := ite_t hc h
      refine r_iload_n (pc := 61) hR (dc dt_X3_fewestOut 35 rfl) rfl ?_
      exact r_iret hT (dc dt_X3_fewestOut 36 rfl) (congrArg Prod.fst (Option.some.inj h)) (congrArg Prod.snd (Option.some.inj h)) qv2
    replace h := ite_f hc h
    refine r_iload_n (pc := 14) hR (dc dt_X3_fewestOut 10 rfl) rfl ?_
    refine r_callS (pc := 15) (rest := []) hR (dc dt_X3_fewestOut 11 rfl) cl_X3_37 (ok_FJ6_bitCount_0f7a4 qv3) (by decide) rfl (Nat.le_of_ble_eq_true rfl) rfl (fun q15r => ?_)
    show Go 18 [some (.ref (ad 51)), some (iv v1), some (iv v2), some (iv v3), none] [iv (FJ6_bitCount_0f7a4 v3)] m
    refine r_iload_n (pc := 18) hR (dc dt_X3_fewestOut 12 rfl) rfl ?_
    refine r_callS (pc := 19) (rest := [iv (FJ6_bitCount_0f7a4 v3)]) hR (dc dt_X3_fewestOut 13 rfl) cl_X3_37 (ok_FJ6_bitCount_0f7a4 qv2) (by decide) rfl (Nat.le_of_ble_eq_true rfl) rfl (fun q19r => ?_)
    show Go 22 [some (.ref (ad 51)), some (iv v1), some (iv v2), some (iv v3), none] [iv (FJ6_bitCount_0f7a4 v2), iv (FJ6_bitCount_0f7a4 v3)] m
    refine jn_e h (fun (K : Int → Option (Int × Mem)) => ∀ (x30 : Int), inZ x30 → K x30 = some out → Go 30 [some (.ref (ad 51)), some (iv v1), some (iv v2), some (iv v3), none] [iv x30] m) (fun x30 qx30 h => ?_) (fun K30 J30 h => ?_)
    · refine r_istore (pc := 30) (L' := [some (.ref (ad 51)), some (iv v1), some (iv v2), some (iv v3), some (iv x30)]) hR (dc dt_X3_fewestOut 18 rfl) (by decide) rfl rfl ?_
      refine r_iload_n (pc := 32) hR (dc dt_X3_fewestOut 19 rfl) rfl ?_
      refine r_iload_n (pc := 33) hR (dc dt_X3_fewestOut 20 rfl) rfl ?_
      refine r_iconst (pc := 34) hR (dc dt_X3_fewestOut 21 rfl) ?_
      refine r_ixor (pc := 35) hR (dc dt_X3_fewestOut 22 rfl) ?_
      refine r_iand (pc := 36) hR (dc dt_X3_fewestOut 23 rfl) ?_
      refine jn_e h (fun (K : Int → Option (Int × Mem)) => ∀ (v2_55 : Int), inR v2_55 → K v2_55 = some out → Go 55 [some (.ref (ad 51)), some (iv v1), some (iv v2_55), some (iv v3), none] [] m) (fun v2_55 qv2_55 h => ?_) (fun K55 J55 h => ?_)
      · refine r_iinc (pc := 55) (L' := [some (.ref (ad 51)), some (iv v1), some (iv v2_55), some (iv (w32 (v3 + 1))), none]) hR (dc dt_X3_fewestOut 33 rfl) rfl (by decide) rfl rfl ?_
        refine r_goto (pc := 58) (tgt := 9) hR (dc dt_X3_fewestOut 34 rfl) (by decide) ?_
        exact ih v2_55 (w32 (v3 + 1)) qv2_55 (w32_in _) h
      refine r_if_ne (pc := 37) (tgt := 55) hR (dc dt_X3_fewestOut 24 rfl) (by decide) (ti_in _) (fun hc => ?_) (fun hc => ?_)
      · replace h := ite_t hc h
        refine r_weak (L' := [some (.ref (ad 51)), some (iv v1), some (iv v2), some (iv v3), none]) hR ⟨Or.inr rfl, Or.inr rfl, Or.inr rfl, Or.inr rfl, Or.inl rfl, trivial⟩ ?_
        exact J55 v2 qv2 h
      replace h := ite_f hc h
      refine r_iload (pc := 40) hR (dc dt_X3_fewestOut 25 rfl) rfl ?_
      refine r_if_eq (pc := 42) (tgt := 55) hR (dc dt_X3_fewestOut 26 rfl) (by decide) (inZ_R qx30) (fun hc => ?_) (fun hc => ?_)
      · replace h := ite_t hc h
        refine r_weak (L' := [some (.ref (ad 51)), some (iv v1), some (iv v2), some (iv v3), none]) hR ⟨Or.inr rfl, Or.inr rfl, Or.inr rfl, Or.inr rfl, Or.inl rfl, trivial⟩ ?_
        exact J55 v2 qv2 h
      replace h := ite_f hc h
      refine r_aload_n (pc := 45) hR (dc dt_X3_fewestOut 27 rfl) rfl ?_
      refine r_iload_n (pc := 46) hR (dc dt_X3_fewestOut 28 rfl) rfl ?_
      obtain ⟨r47, e47, h⟩ := b1_some h
      refine r_callV (pc := 47) (rest := []) hR (dc dt_X3_fewestOut 29 rfl) cl_X3_43 tc_51 rfl (ok_F3_frees qv3 e47) (by decide) rfl (Nat.le_of_ble_eq_true rfl) rfl (fun q47r => ?_)
      show Go 50 [some (.ref (ad 51)), some (iv v1), some (iv v2), some (iv v3), some (iv x30)] [iv r47] m
      refine r_if_eq (pc := 50) (tgt := 55) hR (dc dt_X3_fewestOut 30 rfl) (by decide) (inZ_R q47r) (fun hc => ?_) (fun hc => ?_)
      · replace h := ite_t hc h
        refine r_weak (L' := [some (.ref (ad 51)), some (iv v1), some (iv v2), some (iv v3), none]) hR ⟨Or.inr rfl, Or.inr rfl, Or.inr rfl, Or.inr rfl, Or.inl rfl, trivial⟩ ?_
        exact J55 v2 qv2 h
      replace h := ite_f hc h
      refine r_iload_n (pc := 53) hR (dc dt_X3_fewestOut 31 rfl) rfl ?_
      refine r_istore_n (pc := 54) (L' := [some (.ref (ad 51)), some (iv v1), some (iv v3), some (iv v3), some (iv x30)]) hR (dc dt_X3_fewestOut 32 rfl) (by decide) rfl rfl ?_
      refine r_weak (L' := [some (.ref (ad 51)), some (iv v1), some (iv v3), some (iv v3), none]) hR ⟨Or.inr rfl, Or.inr rfl, Or.inr rfl, Or.inr rfl, Or.inl rfl, trivial⟩ ?_
      exact J55 v3 qv3 h
    refine r_icmp_ge (pc := 22) (tgt := 29) hR (dc dt_X3_fewestOut 14 rfl) (by decide) q15r q19r (fun hc => ?_) (fun hc => ?_)
    · replace h := ite_t hc h
      refine r_iconst (pc := 29) hR (dc dt_X3_fewestOut 17 rfl) ?_
      exact J30 0 (Or.inl rfl) h
    replace h := ite_f hc h
    refine r_iconst (pc := 25) hR (dc dt_X3_fewestOut 15 rfl) ?_
    refine r_goto (pc := 26) (tgt := 30) hR (dc dt_X3_fewestOut 16 rfl) (by decide) ?_
    exact J30 1 (Or.inr rfl) h
set_option maxRecDepth 100000 in
set_option maxHeartbeats 4000000 in
theorem ok_F3_fewestOut {m : Mem}   {out : Int × Mem} (h : F3_fewestOut m = some out) : CT l G cy ad tt yX3_fewestOut cX3_fewestOut 5 (some .int) 4 [.ref (ad 51)] m (some (iv out.1)) (inR out.1) out.2 := by
  refine CT_of (by decide) (Nat.le_of_ble_eq_true rfl) (fun Go hR hT => ?_)
  replace hR : RS l G cy ad tt RX3 cX3_fewestOut 5 4 Go := hR
  show Go 0 [some (.ref (ad 51)), none, none, none, none] [] m
  unfold F3_fewestOut at h
  refine r_aload_n (pc := 0) hR (dc dt_X3_fewestOut 0 rfl) rfl ?_
  obtain ⟨r1, m1, e1, h⟩ := b2_some h
  refine r_callV (pc := 1) (rest := []) hR (dc dt_X3_fewestOut 1 rfl) cl_X3_33 tc_51 rfl (ok_F3_involve  e1) (by decide) rfl (Nat.le_of_ble_eq_true rfl) rfl (fun q1r => ?_)
  show Go 4 [some (.ref (ad 51)), none, none, none, none] [iv r1] m1
  refine r_istore_n (pc := 4) (L' := [some (.ref (ad 51)), some (iv r1), none, none, none]) hR (dc dt_X3_fewestOut 2 rfl) (by decide) rfl rfl ?_
  refine r_iload_n (pc := 5) hR (dc dt_X3_fewestOut 3 rfl) rfl ?_
  refine r_istore_n (pc := 6) (L' := [some (.ref (ad 51)), some (iv r1), some (iv r1), none, none]) hR (dc dt_X3_fewestOut 4 rfl) (by decide) rfl rfl ?_
  refine r_iconst (pc := 7) hR (dc dt_X3_fewestOut 5 rfl) ?_
  refine r_istore_n (pc := 8) (L' := [some (.ref (ad 51)), some (iv r1), some (iv r1), some (iv 0), none]) hR (dc dt_X3_fewestOut 6 rfl) (by decide) rfl rfl ?_
  refine lp_L3_fewestOut_9 hR hT q1r FU r1 0 q1r (rg_c rfl) h
def tb_X10_freed : List (Nat × (Instr × Nat)) := [(0, (.aload_n 0, 1)), (1, (.getfield 51, 3)), (4, (.invokevirtual 234, 3)), (7, (.ireturn, 1))]
set_option maxRecDepth 100000 in
theorem dt_X10_freed : (tb_X10_freed.all fun q => decide (decode cX10_freed q.1 = .ok q.2)) = true := by decide +kernel
set_option maxRecDepth 100000 in
set_option maxHeartbeats 4000000 in
theorem ok_F10_freed {m : Mem}   {out : Int × Mem} (h : F10_freed m = some out) : CT l G cy ad tt yX10_freed cX10_freed 1 (some .int) 5 [.ref (ad 0)] m (some (iv out.1)) (inR out.1) out.2 := by
  refine CT_of (by decide) (Nat.le_of_ble_eq_true rfl) (fun Go hR hT => ?_)
  replace hR : RS l G cy ad tt RX10 cX10_freed 1 5 Go := hR
  show Go 0 [some (.ref (ad 0))] [] m
  unfold F10_freed at h
  refine r_aload_n (pc := 0) hR (dc dt_X10_freed 0 rfl) rfl ?_
  refine r_getr (pc := 1) (k2 := 51) hR (dc dt_X10_freed 1 rfl) fl_X10_51 tc_0 rfl ?_
  obtain ⟨r4, m4, e4, h⟩ := b2_some h
  refine r_callV (pc := 4) (rest := []) hR (dc dt_X10_freed 2 rfl) cl_X10_234 tc_51 rfl (ok_F3_fewestOut  e4) (by decide) rfl (Nat.le_of_ble_eq_true rfl) rfl (fun q4r => ?_)
  show Go 7 [some (.ref (ad 0))] [iv r4] m4
  exact r_iret hT (dc dt_X10_freed 3 rfl) (congrArg Prod.fst (Option.some.inj h)) (congrArg Prod.snd (Option.some.inj h)) q4r
def tb_X2_holdWithout : List (Nat × (Instr × Nat)) := [(0, (.iconst 0, 1)), (1, (.istore_n 2, 1)), (2, (.iload_n 2, 1)), (3, (.aload_n 0, 1)), (4, (.getfield 10, 3)), (7, (.getfield 26, 3)), (10, (.if_icmp .ge 39, 3)), (13, (.aload_n 0, 1)), (14, (.getfield 10, 3)), (17, (.getfield 51, 3)), (20, (.iload_n 2, 1)), (21, (.iload_n 1, 1)), (22, (.iload_n 2, 1)), (23, (.ishr, 1)), (24, (.iconst 1, 1)), (25, (.iand, 1)), (26, (.ifCond .eq 7, 3)), (29, (.iconst (-1), 1)), (30, (.goto 12, 3)), (33, (.aload_n 0, 1)), (34, (.getfield 16, 3)), (37, (.getfield 29, 3)), (40, (.iload_n 2, 1)), (41, (.iaload, 1)), (42, (.iastore, 1)), (43, (.iinc 2 1, 3)), (46, (.goto (-44), 3)), (49, (.aload_n 0, 1)), (50, (.getfield 10, 3)), (53, (.invokevirtual 54, 3)), (56, (.ifCond .eq 17, 3)), (59, (.aload_n 0, 1)), (60, (.getfield 10, 3)), (63, (.invokevirtual 58, 3)), (66, (.ifCond .ge 7, 3)), (69, (.iconst 1, 1)), (70, (.goto 4, 3)), (73, (.iconst 0, 1)), (74, (.ireturn, 1))]
set_option maxRecDepth 100000 in
theorem dt_X2_holdWithout : (tb_X2_holdWithout.all fun q => decide (decode cX2_holdWithout q.1 = .ok q.2)) = true := by decide +kernel
set_option maxRecDepth 100000 in
set_option maxHeartbeats 4000000 in
theorem lp_L2_holdWithout_2 {Go : Nat → List (Option Value) → List Value → Mem → Prop} (hR : RS l G cy ad tt RX2 cX2_holdWithout 3 2 Go) {out : Int × Mem} (hT : RT cX2_holdWithout (some (iv out.1)) (inZ out.1) out.2 (some .boolean) Go) {v1 : Int} (qv1 : inR v1) {k49 : Mem → Option (Int × Mem)} (hk49 : ∀ (m : Mem), k49 m = some out → Go 49 [some (.ref (ad 53)), none, none] [] m) : ∀ (n : Nat) (v2 : Int) (m : Mem), inR v2 → L2_holdWithout_2 v1 k49 n v2 m = some out → Go 2 [some (.ref (ad 53)), some (iv v1), some (iv v2)] [] m := by
  intro n
  induction n with
  | zero =>
    intro v2 m qv2 h
    cases h
  | succ n ih =>
    intro v2 m qv2 h
    rw [L2_holdWithout_2] at h
    refine r_iload_n (pc := 2) hR (dc dt_X2_holdWithout 2 rfl) rfl ?_
    refine r_aload_n (pc := 3) hR (dc dt_X2_holdWithout 3 rfl) rfl ?_
    refine r_getr (pc := 4) (k2 := 54) hR (dc dt_X2_holdWithout 4 rfl) fl_X2_10 tc_53 rfl ?_
    refine r_geti (pc := 7) hR (dc dt_X2_holdWithout 5 rfl) fl_X2_26 tc_54 rfl ?_
    refine r_icmp_ge (pc := 10) (tgt := 49) hR (dc dt_X2_holdWithout 6 rfl) (by decide) qv2 (rd_in _ _ _) (fun hc => ?_) (fun hc => ?_)
    · replace h := ite_t hc h
      refine r_weak (L' := [some (.ref (ad 53)), none, none]) hR ⟨Or.inr rfl, Or.inl rfl, Or.inl rfl, trivial⟩ ?_
      exact hk49 m h
    replace h := ite_f hc h
    refine r_aload_n (pc := 13) hR (dc dt_X2_holdWithout 7 rfl) rfl ?_
    refine r_getr (pc := 14) (k2 := 54) hR (dc dt_X2_holdWithout 8 rfl) fl_X2_10 tc_53 rfl ?_
    refine r_getr (pc := 17) (k2 := 55) hR (dc dt_X2_holdWithout 9 rfl) fl_X2_51 tc_54 rfl ?_
    refine r_iload_n (pc := 20) hR (dc dt_X2_holdWithout 10 rfl) rfl ?_
    refine r_iload_n (pc := 21) hR (dc dt_X2_holdWithout 11 rfl) rfl ?_
    refine r_iload_n (pc := 22) hR (dc dt_X2_holdWithout 12 rfl) rfl ?_
    refine r_ishr (pc := 23) hR (dc dt_X2_holdWithout 13 rfl) ?_
    refine r_iconst (pc := 24) hR (dc dt_X2_holdWithout 14 rfl) ?_
    refine r_iand (pc := 25) hR (dc dt_X2_holdWithout 15 rfl) ?_
    refine jn_e h (fun (K : Int → Option (Int × Mem)) => ∀ (x42 : Int), inR x42 → K x42 = some out → Go 42 [some (.ref (ad 53)), some (iv v1), some (iv v2)] [iv x42, iv v2, .ref (ad 55)] m) (fun x42 qx42 h => ?_) (fun K42 J42 h => ?_)
    · obtain ⟨g1, h⟩ := gd_some h
      refine r_iast (pc := 42) hR (dc dt_X2_holdWithout 24 rfl) tc_55 g1 qv2 ?_
      replace h := stw_e h
      generalize wr m 55 v2 x42 = m42 at h ⊢
      refine r_iinc (pc := 43) (L' := [some (.ref (ad 53)), some (iv v1), some (iv (w32 (v2 + 1)))]) hR (dc dt_X2_holdWithout 25 rfl) rfl (by decide) rfl rfl ?_
      refine r_goto (pc := 46) (tgt := 2) hR (dc dt_X2_holdWithout 26 rfl) (by decide) ?_
      exact ih (w32 (v2 + 1)) m42 (w32_in _) h
    refine r_if_eq (pc := 26) (tgt := 33) hR (dc dt_X2_holdWithout 16 rfl) (by decide) (ti_in _) (fun hc => ?_) (fun hc => ?_)
    · replace h := ite_t hc h
      refine r_aload_n (pc := 33) hR (dc dt_X2_holdWithout 19 rfl) rfl ?_
      refine r_getr (pc := 34) (k2 := 4) hR (dc dt_X2_holdWithout 20 rfl) fl_X2_16 tc_53 rfl ?_
      refine r_getr (pc := 37) (k2 := 7) hR (dc dt_X2_holdWithout 21 rfl) fl_X2_29 tc_4 rfl ?_
      refine r_iload_n (pc := 40) hR (dc dt_X2_holdWithout 22 rfl) rfl ?_
      obtain ⟨g1, h⟩ := gd_some h
      refine r_iald (pc := 41) hR (dc dt_X2_holdWithout 23 rfl) tc_7 g1 qv2 ?_
      exact J42 (rd m 7 v2) (rd_in _ _ _) h
    replace h := ite_f hc h
    refine r_iconst (pc := 29) hR (dc dt_X2_holdWithout 17 rfl) ?_
    refine r_goto (pc := 30) (tgt := 42) hR (dc dt_X2_holdWithout 18 rfl) (by decide) ?_
    exact J42 (-1) (rg_c rfl) h
set_option maxRecDepth 100000 in
set_option maxHeartbeats 4000000 in
theorem ok_F2_holdWithout {m : Mem}  {v1 : Int} (q1 : inR v1) {out : Int × Mem} (h : F2_holdWithout m v1 = some out) : CT l G cy ad tt yX2_holdWithout cX2_holdWithout 3 (some .boolean) 2 [.ref (ad 53), iv v1] m (some (iv out.1)) (inZ out.1) out.2 := by
  refine CT_of (by decide) (Nat.le_of_ble_eq_true rfl) (fun Go hR hT => ?_)
  replace hR : RS l G cy ad tt RX2 cX2_holdWithout 3 2 Go := hR
  show Go 0 [some (.ref (ad 53)), some (iv v1), none] [] m
  unfold F2_holdWithout at h
  refine r_iconst (pc := 0) hR (dc dt_X2_holdWithout 0 rfl) ?_
  refine r_istore_n (pc := 1) (L' := [some (.ref (ad 53)), some (iv v1), some (iv 0)]) hR (dc dt_X2_holdWithout 1 rfl) (by decide) rfl rfl ?_
  refine lp_L2_holdWithout_2 hR hT q1 (fun m_49 h => ?_) FU 0 m (rg_c rfl) h
  show Go 49 [some (.ref (ad 53)), none, none] [] m_49
  refine r_aload_n (pc := 49) hR (dc dt_X2_holdWithout 27 rfl) rfl ?_
  refine r_getr (pc := 50) (k2 := 54) hR (dc dt_X2_holdWithout 28 rfl) fl_X2_10 tc_53 rfl ?_
  obtain ⟨r53, m53, e53, h⟩ := b2_some h
  refine r_callV (pc := 53) (rest := []) hR (dc dt_X2_holdWithout 29 rfl) cl_X2_54 tc_54 rfl (ok_F9_arrange tr_c54 e53) (by decide) rfl (Nat.le_of_ble_eq_true rfl) rfl (fun q53r => ?_)
  show Go 56 [some (.ref (ad 53)), none, none] [iv r53] m53
  refine jn_e h (fun (K : Mem → Option (Int × Mem)) => ∀ (m_73 : Mem), K m_73 = some out → Go 73 [none, none, none] [] m_73) (fun m_73 h => ?_) (fun K73 J73 h => ?_)
  · refine r_iconst (pc := 73) hR (dc dt_X2_holdWithout 37 rfl) ?_
    exact r_zret hT (dc dt_X2_holdWithout 38 rfl) (congrArg Prod.fst (Option.some.inj h)) (congrArg Prod.snd (Option.some.inj h)) (Or.inl rfl)
  refine r_if_eq (pc := 56) (tgt := 73) hR (dc dt_X2_holdWithout 30 rfl) (by decide) (inZ_R q53r) (fun hc => ?_) (fun hc => ?_)
  · replace h := ite_t hc h
    refine r_weak (L' := [none, none, none]) hR ⟨Or.inl rfl, Or.inr rfl, Or.inr rfl, trivial⟩ ?_
    exact J73 m53 h
  replace h := ite_f hc h
  refine r_aload_n (pc := 59) hR (dc dt_X2_holdWithout 31 rfl) rfl ?_
  refine r_getr (pc := 60) (k2 := 54) hR (dc dt_X2_holdWithout 32 rfl) fl_X2_10 tc_53 rfl ?_
  obtain ⟨r63, m63, e63, h⟩ := b2_some h
  refine r_callV (pc := 63) (rest := []) hR (dc dt_X2_holdWithout 33 rfl) cl_X2_58 tc_54 rfl (ok_F9_firstLate tr_c54 e63) (by decide) rfl (Nat.le_of_ble_eq_true rfl) rfl (fun q63r => ?_)
  show Go 66 [some (.ref (ad 53)), none, none] [iv r63] m63
  refine r_if_ge (pc := 66) (tgt := 73) hR (dc dt_X2_holdWithout 34 rfl) (by decide) q63r (fun hc => ?_) (fun hc => ?_)
  · replace h := ite_t hc h
    refine r_weak (L' := [none, none, none]) hR ⟨Or.inl rfl, Or.inr rfl, Or.inr rfl, trivial⟩ ?_
    exact J73 m63 h
  replace h := ite_f hc h
  refine r_iconst (pc := 69) hR (dc dt_X2_holdWithout 35 rfl) ?_
  refine r_goto (pc := 70) (tgt := 74) hR (dc dt_X2_holdWithout 36 rfl) (by decide) ?_
  exact r_zret hT (dc dt_X2_holdWithout 38 rfl) (congrArg Prod.fst (Option.some.inj h)) (congrArg Prod.snd (Option.some.inj h)) (Or.inr rfl)
def tb_X2_fewestOut : List (Nat × (Instr × Nat)) := [(0, (.iconst 0, 1)), (1, (.istore_n 1, 1)), (2, (.aload_n 0, 1)), (3, (.getfield 10, 3)), (6, (.aload_n 0, 1)), (7, (.getfield 16, 3)), (10, (.getfield 20, 3)), (13, (.putfield 26, 3)), (16, (.iconst 0, 1)), (17, (.istore_n 2, 1)), (18, (.iload_n 2, 1)), (19, (.aload_n 0, 1)), (20, (.getfield 16, 3)), (23, (.getfield 20, 3)), (26, (.if_icmp .ge 67, 3)), (29, (.iload_n 1, 1)), (30, (.aload_n 0, 1)), (31, (.getfield 16, 3)), (34, (.getfield 29, 3)), (37, (.iload_n 2, 1)), (38, (.iaload, 1)), (39, (.ifCond .ge 7, 3)), (42, (.iconst 0, 1)), (43, (.goto 6, 3)), (46, (.iconst 1, 1)), (47, (.iload_n 2, 1)), (48, (.ishl, 1)), (49, (.ior, 1)), (50, (.istore_n 1, 1)), (51, (.aload_n 0, 1)), (52, (.getfield 10, 3)), (55, (.getfield 33, 3)), (58, (.iload_n 2, 1)), (59, (.aload_n 0, 1)), (60, (.getfield 16, 3)), (63, (.getfield 36, 3)), (66, (.iload_n 2, 1)), (67, (.iaload, 1)), (68, (.iastore, 1)), (69, (.aload_n 0, 1)), (70, (.getfield 10, 3)), (73, (.getfield 37, 3)), (76, (.iload_n 2, 1)), (77, (.aload_n 0, 1)), (78, (.getfield 16, 3)), (81, (.getfield 40, 3)), (84, (.iload_n 2, 1)), (85, (.iaload, 1)), (86, (.iastore, 1)), (87, (.iinc 2 1, 3)), (90, (.goto (-72), 3)), (93, (.iload_n 1, 1)), (94, (.istore_n 2, 1)), (95, (.iconst 0, 1)), (96, (.istore_n 3, 1)), (97, (.iload_n 3, 1)), (98, (.iload_n 1, 1)), (99, (.if_icmp .gt 50, 3)), (102, (.iload_n 3, 1)), (103, (.invokestatic 41, 3)), (106, (.iload_n 2, 1)), (107, (.invokestatic 41, 3)), (110, (.if_icmp .ge 7, 3)), (113, (.iconst 1, 1)), (114, (.goto 4, 3)), (117, (.iconst 0, 1)), (118, (.istore 4, 2)), (120, (.iload_n 3, 1)), (121, (.iload_n 1, 1)), (122, (.iconst (-1), 1)), (123, (.ixor, 1)), (124, (.iand, 1)), (125, (.ifCond .ne 18, 3)), (128, (.iload 4, 2)), (130, (.ifCond .eq 13, 3)), (133, (.aload_n 0, 1)), (134, (.iload_n 3, 1)), (135, (.invokevirtual 47, 3)), (138, (.ifCond .eq 5, 3)), (141, (.iload_n 3, 1)), (142, (.istore_n 2, 1)), (143, (.iinc 3 1, 3)), (146, (.goto (-49), 3)), (149, (.iload_n 2, 1)), (150, (.ireturn, 1))]
set_option maxRecDepth 100000 in
theorem dt_X2_fewestOut : (tb_X2_fewestOut.all fun q => decide (decode cX2_fewestOut q.1 = .ok q.2)) = true := by decide +kernel
set_option maxRecDepth 100000 in
set_option maxHeartbeats 4000000 in
theorem lp_L2_fewestOut_18 {Go : Nat → List (Option Value) → List Value → Mem → Prop} (hR : RS l G cy ad tt RX2 cX2_fewestOut 5 3 Go) {out : Int × Mem} (hT : RT cX2_fewestOut (some (iv out.1)) (inR out.1) out.2 (some .int) Go) {k93 : Int → Mem → Option (Int × Mem)} (hk93 : ∀ (v1 : Int) (m : Mem), inR v1 → k93 v1 m = some out → Go 93 [some (.ref (ad 53)), some (iv v1), none, none, none] [] m) : ∀ (n : Nat) (v1 : Int) (v2 : Int) (m : Mem), inR v1 → inR v2 → L2_fewestOut_18 k93 n v1 v2 m = some out → Go 18 [some (.ref (ad 53)), some (iv v1), some (iv v2), none, none] [] m := by
  intro n
  induction n with
  | zero =>
    intro v1 v2 m qv1 qv2 h
    cases h
  | succ n ih =>
    intro v1 v2 m qv1 qv2 h
    rw [L2_fewestOut_18] at h
    refine r_iload_n (pc := 18) hR (dc dt_X2_fewestOut 10 rfl) rfl ?_
    refine r_aload_n (pc := 19) hR (dc dt_X2_fewestOut 11 rfl) rfl ?_
    refine r_getr (pc := 20) (k2 := 4) hR (dc dt_X2_fewestOut 12 rfl) fl_X2_16 tc_53 rfl ?_
    refine r_geti (pc := 23) hR (dc dt_X2_fewestOut 13 rfl) fl_X2_20 tc_4 rfl ?_
    refine r_icmp_ge (pc := 26) (tgt := 93) hR (dc dt_X2_fewestOut 14 rfl) (by decide) qv2 (rd_in _ _ _) (fun hc => ?_) (fun hc => ?_)
    · replace h := ite_t hc h
      refine r_weak (L' := [some (.ref (ad 53)), some (iv v1), none, none, none]) hR ⟨Or.inr rfl, Or.inr rfl, Or.inl rfl, Or.inr rfl, Or.inr rfl, trivial⟩ ?_
      exact hk93 v1 m qv1 h
    replace h := ite_f hc h
    refine r_iload_n (pc := 29) hR (dc dt_X2_fewestOut 15 rfl) rfl ?_
    refine r_aload_n (pc := 30) hR (dc dt_X2_fewestOut 16 rfl) rfl ?_
    refine r_getr (pc := 31) (k2 := 4) hR (dc dt_X2_fewestOut 17 rfl) fl_X2_16 tc_53 rfl ?_
    refine r_getr (pc := 34) (k2 := 7) hR (dc dt_X2_fewestOut 18 rfl) fl_X2_29 tc_4 rfl ?_
    refine r_iload_n (pc := 37) hR (dc dt_X2_fewestOut 19 rfl) rfl ?_
    obtain ⟨g1, h⟩ := gd_some h
    refine r_iald (pc := 38) hR (dc dt_X2_fewestOut 20 rfl) tc_7 g1 qv2 ?_
    refine jn_e h (fun (K : Int → Option (Int × Mem)) => ∀ (x49 : Int), inR x49 → K x49 = some out → Go 49 [some (.ref (ad 53)), none, some (iv v2), none, none] [iv x49, iv v1] m) (fun x49 qx49 h => ?_) (fun K49 J49 h => ?_)
    · refine r_ior (pc := 49) hR (dc dt_X2_fewestOut 27 rfl) ?_
      refine r_istore_n (pc := 50) (L' := [some (.ref (ad 53)), some (iv (bor v1 x49)), some (iv v2), none, none]) hR (dc dt_X2_fewestOut 28 rfl) (by decide) rfl rfl ?_
      refine r_aload_n (pc := 51) hR (dc dt_X2_fewestOut 29 rfl) rfl ?_
      refine r_getr (pc := 52) (k2 := 54) hR (dc dt_X2_fewestOut 30 rfl) fl_X2_10 tc_53 rfl ?_
      refine r_getr (pc := 55) (k2 := 56) hR (dc dt_X2_fewestOut 31 rfl) fl_X2_33 tc_54 rfl ?_
      refine r_iload_n (pc := 58) hR (dc dt_X2_fewestOut 32 rfl) rfl ?_
      refine r_aload_n (pc := 59) hR (dc dt_X2_fewestOut 33 rfl) rfl ?_
      refine r_getr (pc := 60) (k2 := 4) hR (dc dt_X2_fewestOut 34 rfl) fl_X2_16 tc_53 rfl ?_
      refine r_getr (pc := 63) (k2 := 5) hR (dc dt_X2_fewestOut 35 rfl) fl_X2_36 tc_4 rfl ?_
      refine r_iload_n (pc := 66) hR (dc dt_X2_fewestOut 36 rfl) rfl ?_
      obtain ⟨g1, h⟩ := gd_some h
      refine r_iald (pc := 67) hR (dc dt_X2_fewestOut 37 rfl) tc_5 g1 qv2 ?_
      obtain ⟨g1, h⟩ := gd_some h
      refine r_iast (pc := 68) hR (dc dt_X2_fewestOut 38 rfl) tc_56 g1 qv2 ?_
      replace h := stw_e h
      generalize wr m 56 v2 (rd m 5 v2) = m68 at h ⊢
      refine r_aload_n (pc := 69) hR (dc dt_X2_fewestOut 39 rfl) rfl ?_
      refine r_getr (pc := 70) (k2 := 54) hR (dc dt_X2_fewestOut 40 rfl) fl_X2_10 tc_53 rfl ?_
      refine r_getr (pc := 73) (k2 := 57) hR (dc dt_X2_fewestOut 41 rfl) fl_X2_37 tc_54 rfl ?_
      refine r_iload_n (pc := 76) hR (dc dt_X2_fewestOut 42 rfl) rfl ?_
      refine r_aload_n (pc := 77) hR (dc dt_X2_fewestOut 43 rfl) rfl ?_
      refine r_getr (pc := 78) (k2 := 4) hR (dc dt_X2_fewestOut 44 rfl) fl_X2_16 tc_53 rfl ?_
      refine r_getr (pc := 81) (k2 := 6) hR (dc dt_X2_fewestOut 45 rfl) fl_X2_40 tc_4 rfl ?_
      refine r_iload_n (pc := 84) hR (dc dt_X2_fewestOut 46 rfl) rfl ?_
      obtain ⟨g1, h⟩ := gd_some h
      refine r_iald (pc := 85) hR (dc dt_X2_fewestOut 47 rfl) tc_6 g1 qv2 ?_
      obtain ⟨g1, h⟩ := gd_some h
      refine r_iast (pc := 86) hR (dc dt_X2_fewestOut 48 rfl) tc_57 g1 qv2 ?_
      replace h := stw_e h
      generalize wr m68 57 v2 (rd m68 6 v2) = m86 at h ⊢
      refine r_iinc (pc := 87) (L' := [some (.ref (ad 53)), some (iv (bor v1 x49)), some (iv (w32 (v2 + 1))), none, none]) hR (dc dt_X2_fewestOut 49 rfl) rfl (by decide) rfl rfl ?_
      refine r_goto (pc := 90) (tgt := 18) hR (dc dt_X2_fewestOut 50 rfl) (by decide) ?_
      exact ih (bor v1 x49) (w32 (v2 + 1)) m86 (ti_in _) (w32_in _) h
    refine r_if_ge (pc := 39) (tgt := 46) hR (dc dt_X2_fewestOut 21 rfl) (by decide) (rd_in _ _ _) (fun hc => ?_) (fun hc => ?_)
    · replace h := ite_t hc h
      refine r_iconst (pc := 46) hR (dc dt_X2_fewestOut 24 rfl) ?_
      refine r_iload_n (pc := 47) hR (dc dt_X2_fewestOut 25 rfl) rfl ?_
      refine r_ishl (pc := 48) hR (dc dt_X2_fewestOut 26 rfl) ?_
      refine r_weak (L' := [some (.ref (ad 53)), none, some (iv v2), none, none]) hR ⟨Or.inr rfl, Or.inl rfl, Or.inr rfl, Or.inr rfl, Or.inr rfl, trivial⟩ ?_
      exact J49 (shl 1 v2) (ti_in _) h
    replace h := ite_f hc h
    refine r_iconst (pc := 42) hR (dc dt_X2_fewestOut 22 rfl) ?_
    refine r_goto (pc := 43) (tgt := 49) hR (dc dt_X2_fewestOut 23 rfl) (by decide) ?_
    refine r_weak (L' := [some (.ref (ad 53)), none, some (iv v2), none, none]) hR ⟨Or.inr rfl, Or.inl rfl, Or.inr rfl, Or.inr rfl, Or.inr rfl, trivial⟩ ?_
    exact J49 0 (rg_c rfl) h
set_option maxRecDepth 100000 in
set_option maxHeartbeats 4000000 in
theorem lp_L2_fewestOut_97 {Go : Nat → List (Option Value) → List Value → Mem → Prop} (hR : RS l G cy ad tt RX2 cX2_fewestOut 5 3 Go) {out : Int × Mem} (hT : RT cX2_fewestOut (some (iv out.1)) (inR out.1) out.2 (some .int) Go) {v1 : Int} (qv1 : inR v1) : ∀ (n : Nat) (v2 : Int) (v3 : Int) (m : Mem), inR v2 → inR v3 → L2_fewestOut_97 v1 n v2 v3 m = some out → Go 97 [some (.ref (ad 53)), some (iv v1), some (iv v2), some (iv v3), none] [] m := by
  intro n
  induction n with
  | zero =>
    intro v2 v3 m qv2 qv3 h
    cases h
  | succ n ih =>
    intro v2 v3 m qv2 qv3 h
    rw [L2_fewestOut_97] at h
    refine r_iload_n (pc := 97) hR (dc dt_X2_fewestOut 55 rfl) rfl ?_
    refine r_iload_n (pc := 98) hR (dc dt_X2_fewestOut 56 rfl) rfl ?_
    refine r_icmp_gt (pc := 99) (tgt := 149) hR (dc dt_X2_fewestOut 57 rfl) (by decide) qv3 qv1 (fun hc => ?_) (fun hc => ?_)
    · replace h := ite_t hc h
      refine r_iload_n (pc := 149) hR (dc dt_X2_fewestOut 83 rfl) rfl ?_
      exact r_iret hT (dc dt_X2_fewestOut 84 rfl) (congrArg Prod.fst (Option.some.inj h)) (congrArg Prod.snd (Option.some.inj h)) qv2
    replace h := ite_f hc h
    refine r_iload_n (pc := 102) hR (dc dt_X2_fewestOut 58 rfl) rfl ?_
    refine r_callS (pc := 103) (rest := []) hR (dc dt_X2_fewestOut 59 rfl) cl_X2_41 (ok_FJ6_bitCount_0f7a4 qv3) (by decide) rfl (Nat.le_of_ble_eq_true rfl) rfl (fun q103r => ?_)
    show Go 106 [some (.ref (ad 53)), some (iv v1), some (iv v2), some (iv v3), none] [iv (FJ6_bitCount_0f7a4 v3)] m
    refine r_iload_n (pc := 106) hR (dc dt_X2_fewestOut 60 rfl) rfl ?_
    refine r_callS (pc := 107) (rest := [iv (FJ6_bitCount_0f7a4 v3)]) hR (dc dt_X2_fewestOut 61 rfl) cl_X2_41 (ok_FJ6_bitCount_0f7a4 qv2) (by decide) rfl (Nat.le_of_ble_eq_true rfl) rfl (fun q107r => ?_)
    show Go 110 [some (.ref (ad 53)), some (iv v1), some (iv v2), some (iv v3), none] [iv (FJ6_bitCount_0f7a4 v2), iv (FJ6_bitCount_0f7a4 v3)] m
    refine jn_e h (fun (K : Int → Option (Int × Mem)) => ∀ (x118 : Int), inZ x118 → K x118 = some out → Go 118 [some (.ref (ad 53)), some (iv v1), some (iv v2), some (iv v3), none] [iv x118] m) (fun x118 qx118 h => ?_) (fun K118 J118 h => ?_)
    · refine r_istore (pc := 118) (L' := [some (.ref (ad 53)), some (iv v1), some (iv v2), some (iv v3), some (iv x118)]) hR (dc dt_X2_fewestOut 66 rfl) (by decide) rfl rfl ?_
      refine r_iload_n (pc := 120) hR (dc dt_X2_fewestOut 67 rfl) rfl ?_
      refine r_iload_n (pc := 121) hR (dc dt_X2_fewestOut 68 rfl) rfl ?_
      refine r_iconst (pc := 122) hR (dc dt_X2_fewestOut 69 rfl) ?_
      refine r_ixor (pc := 123) hR (dc dt_X2_fewestOut 70 rfl) ?_
      refine r_iand (pc := 124) hR (dc dt_X2_fewestOut 71 rfl) ?_
      refine jn_e h (fun (K : Int → Mem → Option (Int × Mem)) => ∀ (v2_143 : Int) (m_143 : Mem), inR v2_143 → K v2_143 m_143 = some out → Go 143 [some (.ref (ad 53)), some (iv v1), some (iv v2_143), some (iv v3), none] [] m_143) (fun v2_143 m_143 qv2_143 h => ?_) (fun K143 J143 h => ?_)
      · refine r_iinc (pc := 143) (L' := [some (.ref (ad 53)), some (iv v1), some (iv v2_143), some (iv (w32 (v3 + 1))), none]) hR (dc dt_X2_fewestOut 81 rfl) rfl (by decide) rfl rfl ?_
        refine r_goto (pc := 146) (tgt := 97) hR (dc dt_X2_fewestOut 82 rfl) (by decide) ?_
        exact ih v2_143 (w32 (v3 + 1)) m_143 qv2_143 (w32_in _) h
      refine r_if_ne (pc := 125) (tgt := 143) hR (dc dt_X2_fewestOut 72 rfl) (by decide) (ti_in _) (fun hc => ?_) (fun hc => ?_)
      · replace h := ite_t hc h
        refine r_weak (L' := [some (.ref (ad 53)), some (iv v1), some (iv v2), some (iv v3), none]) hR ⟨Or.inr rfl, Or.inr rfl, Or.inr rfl, Or.inr rfl, Or.inl rfl, trivial⟩ ?_
        exact J143 v2 m qv2 h
      replace h := ite_f hc h
      refine r_iload (pc := 128) hR (dc dt_X2_fewestOut 73 rfl) rfl ?_
      refine r_if_eq (pc := 130) (tgt := 143) hR (dc dt_X2_fewestOut 74 rfl) (by decide) (inZ_R qx118) (fun hc => ?_) (fun hc => ?_)
      · replace h := ite_t hc h
        refine r_weak (L' := [some (.ref (ad 53)), some (iv v1), some (iv v2), some (iv v3), none]) hR ⟨Or.inr rfl, Or.inr rfl, Or.inr rfl, Or.inr rfl, Or.inl rfl, trivial⟩ ?_
        exact J143 v2 m qv2 h
      replace h := ite_f hc h
      refine r_aload_n (pc := 133) hR (dc dt_X2_fewestOut 75 rfl) rfl ?_
      refine r_iload_n (pc := 134) hR (dc dt_X2_fewestOut 76 rfl) rfl ?_
      obtain ⟨r135, m135, e135, h⟩ := b2_some h
      refine r_callV (pc := 135) (rest := []) hR (dc dt_X2_fewestOut 77 rfl) cl_X2_47 tc_53 rfl (ok_F2_holdWithout qv3 e135) (by decide) rfl (Nat.le_of_ble_eq_true rfl) rfl (fun q135r => ?_)
      show Go 138 [some (.ref (ad 53)), some (iv v1), some (iv v2), some (iv v3), some (iv x118)] [iv r135] m135
      refine r_if_eq (pc := 138) (tgt := 143) hR (dc dt_X2_fewestOut 78 rfl) (by decide) (inZ_R q135r) (fun hc => ?_) (fun hc => ?_)
      · replace h := ite_t hc h
        refine r_weak (L' := [some (.ref (ad 53)), some (iv v1), some (iv v2), some (iv v3), none]) hR ⟨Or.inr rfl, Or.inr rfl, Or.inr rfl, Or.inr rfl, Or.inl rfl, trivial⟩ ?_
        exact J143 v2 m135 qv2 h
      replace h := ite_f hc h
      refine r_iload_n (pc := 141) hR (dc dt_X2_fewestOut 79 rfl) rfl ?_
      refine r_istore_n (pc := 142) (L' := [some (.ref (ad 53)), some (iv v1), some (iv v3), some (iv v3), some (iv x118)]) hR (dc dt_X2_fewestOut 80 rfl) (by decide) rfl rfl ?_
      refine r_weak (L' := [some (.ref (ad 53)), some (iv v1), some (iv v3), some (iv v3), none]) hR ⟨Or.inr rfl, Or.inr rfl, Or.inr rfl, Or.inr rfl, Or.inl rfl, trivial⟩ ?_
      exact J143 v3 m135 qv3 h
    refine r_icmp_ge (pc := 110) (tgt := 117) hR (dc dt_X2_fewestOut 62 rfl) (by decide) q103r q107r (fun hc => ?_) (fun hc => ?_)
    · replace h := ite_t hc h
      refine r_iconst (pc := 117) hR (dc dt_X2_fewestOut 65 rfl) ?_
      exact J118 0 (Or.inl rfl) h
    replace h := ite_f hc h
    refine r_iconst (pc := 113) hR (dc dt_X2_fewestOut 63 rfl) ?_
    refine r_goto (pc := 114) (tgt := 118) hR (dc dt_X2_fewestOut 64 rfl) (by decide) ?_
    exact J118 1 (Or.inr rfl) h
set_option maxRecDepth 100000 in
set_option maxHeartbeats 4000000 in
theorem ok_F2_fewestOut {m : Mem}   {out : Int × Mem} (h : F2_fewestOut m = some out) : CT l G cy ad tt yX2_fewestOut cX2_fewestOut 5 (some .int) 3 [.ref (ad 53)] m (some (iv out.1)) (inR out.1) out.2 := by
  refine CT_of (by decide) (Nat.le_of_ble_eq_true rfl) (fun Go hR hT => ?_)
  replace hR : RS l G cy ad tt RX2 cX2_fewestOut 5 3 Go := hR
  show Go 0 [some (.ref (ad 53)), none, none, none, none] [] m
  unfold F2_fewestOut at h
  refine r_iconst (pc := 0) hR (dc dt_X2_fewestOut 0 rfl) ?_
  refine r_istore_n (pc := 1) (L' := [some (.ref (ad 53)), some (iv 0), none, none, none]) hR (dc dt_X2_fewestOut 1 rfl) (by decide) rfl rfl ?_
  refine r_aload_n (pc := 2) hR (dc dt_X2_fewestOut 2 rfl) rfl ?_
  refine r_getr (pc := 3) (k2 := 54) hR (dc dt_X2_fewestOut 3 rfl) fl_X2_10 tc_53 rfl ?_
  refine r_aload_n (pc := 6) hR (dc dt_X2_fewestOut 4 rfl) rfl ?_
  refine r_getr (pc := 7) (k2 := 4) hR (dc dt_X2_fewestOut 5 rfl) fl_X2_16 tc_53 rfl ?_
  refine r_geti (pc := 10) hR (dc dt_X2_fewestOut 6 rfl) fl_X2_20 tc_4 rfl ?_
  refine r_puti (pc := 13) hR (dc dt_X2_fewestOut 7 rfl) fl_X2_26 tc_54 rfl rfl rfl ?_
  replace h := stw_e h
  generalize wr m 54 0 (rd m 4 0) = m13 at h ⊢
  refine r_iconst (pc := 16) hR (dc dt_X2_fewestOut 8 rfl) ?_
  refine r_istore_n (pc := 17) (L' := [some (.ref (ad 53)), some (iv 0), some (iv 0), none, none]) hR (dc dt_X2_fewestOut 9 rfl) (by decide) rfl rfl ?_
  refine lp_L2_fewestOut_18 hR hT (fun v1_93 m_93 qv1_93 h => ?_) FU 0 0 m13 (rg_c rfl) (rg_c rfl) h
  show Go 93 [some (.ref (ad 53)), some (iv v1_93), none, none, none] [] m_93
  refine r_iload_n (pc := 93) hR (dc dt_X2_fewestOut 51 rfl) rfl ?_
  refine r_istore_n (pc := 94) (L' := [some (.ref (ad 53)), some (iv v1_93), some (iv v1_93), none, none]) hR (dc dt_X2_fewestOut 52 rfl) (by decide) rfl rfl ?_
  refine r_iconst (pc := 95) hR (dc dt_X2_fewestOut 53 rfl) ?_
  refine r_istore_n (pc := 96) (L' := [some (.ref (ad 53)), some (iv v1_93), some (iv v1_93), some (iv 0), none]) hR (dc dt_X2_fewestOut 54 rfl) (by decide) rfl rfl ?_
  refine lp_L2_fewestOut_97 hR hT qv1_93 FU v1_93 0 m_93 qv1_93 (rg_c rfl) h
def tb_X10_doubt : List (Nat × (Instr × Nat)) := [(0, (.iload_n 1, 1)), (1, (.ifCond .lt 8, 3)), (4, (.iload_n 1, 1)), (5, (.iconst 1, 1)), (6, (.if_icmp .le 5, 3)), (9, (.iconst (-1), 1)), (10, (.ireturn, 1)), (11, (.aload_n 0, 1)), (12, (.getfield 58, 3)), (15, (.invokevirtual 237, 3)), (18, (.istore_n 2, 1)), (19, (.iload_n 1, 1)), (20, (.ifCond .ne 10, 3)), (23, (.iload_n 2, 1)), (24, (.invokestatic 238, 3)), (27, (.goto 4, 3)), (30, (.iload_n 2, 1)), (31, (.ireturn, 1))]
set_option maxRecDepth 100000 in
theorem dt_X10_doubt : (tb_X10_doubt.all fun q => decide (decode cX10_doubt q.1 = .ok q.2)) = true := by decide +kernel
set_option maxRecDepth 100000 in
set_option maxHeartbeats 4000000 in
theorem ok_F10_doubt {m : Mem}  {v1 : Int} (q1 : inR v1) {out : Int × Mem} (h : F10_doubt m v1 = some out) : CT l G cy ad tt yX10_doubt cX10_doubt 3 (some .int) 4 [.ref (ad 0), iv v1] m (some (iv out.1)) (inR out.1) out.2 := by
  refine CT_of (by decide) (Nat.le_of_ble_eq_true rfl) (fun Go hR hT => ?_)
  replace hR : RS l G cy ad tt RX10 cX10_doubt 3 4 Go := hR
  show Go 0 [some (.ref (ad 0)), some (iv v1), none] [] m
  unfold F10_doubt at h
  refine r_iload_n (pc := 0) hR (dc dt_X10_doubt 0 rfl) rfl ?_
  refine r_if_lt (pc := 1) (tgt := 9) hR (dc dt_X10_doubt 1 rfl) (by decide) q1 (fun hc => ?_) (fun hc => ?_)
  · replace h := ite_t hc h
    refine r_iconst (pc := 9) hR (dc dt_X10_doubt 5 rfl) ?_
    exact r_iret hT (dc dt_X10_doubt 6 rfl) (congrArg Prod.fst (Option.some.inj h)) (congrArg Prod.snd (Option.some.inj h)) (rg_c rfl)
  replace h := ite_f hc h
  refine r_iload_n (pc := 4) hR (dc dt_X10_doubt 2 rfl) rfl ?_
  refine r_iconst (pc := 5) hR (dc dt_X10_doubt 3 rfl) ?_
  refine r_icmp_le (pc := 6) (tgt := 11) hR (dc dt_X10_doubt 4 rfl) (by decide) q1 (rg_c rfl) (fun hc => ?_) (fun hc => ?_)
  · replace h := ite_t hc h
    refine r_aload_n (pc := 11) hR (dc dt_X10_doubt 7 rfl) rfl ?_
    refine r_getr (pc := 12) (k2 := 53) hR (dc dt_X10_doubt 8 rfl) fl_X10_58 tc_0 rfl ?_
    obtain ⟨r15, m15, e15, h⟩ := b2_some h
    refine r_callV (pc := 15) (rest := []) hR (dc dt_X10_doubt 9 rfl) cl_X10_237 tc_53 rfl (ok_F2_fewestOut  e15) (by decide) rfl (Nat.le_of_ble_eq_true rfl) rfl (fun q15r => ?_)
    show Go 18 [some (.ref (ad 0)), some (iv v1), none] [iv r15] m15
    refine r_istore_n (pc := 18) (L' := [some (.ref (ad 0)), some (iv v1), some (iv r15)]) hR (dc dt_X10_doubt 10 rfl) (by decide) rfl rfl ?_
    refine r_iload_n (pc := 19) hR (dc dt_X10_doubt 11 rfl) rfl ?_
    refine r_if_ne (pc := 20) (tgt := 30) hR (dc dt_X10_doubt 12 rfl) (by decide) q1 (fun hc => ?_) (fun hc => ?_)
    · replace h := ite_t hc h
      refine r_iload_n (pc := 30) hR (dc dt_X10_doubt 16 rfl) rfl ?_
      exact r_iret hT (dc dt_X10_doubt 17 rfl) (congrArg Prod.fst (Option.some.inj h)) (congrArg Prod.snd (Option.some.inj h)) q15r
    replace h := ite_f hc h
    refine r_iload_n (pc := 23) hR (dc dt_X10_doubt 13 rfl) rfl ?_
    refine r_callS (pc := 24) (rest := []) hR (dc dt_X10_doubt 14 rfl) cl_X10_238 (ok_FJ6_bitCount_0f7a4 q15r) (by decide) rfl (Nat.le_of_ble_eq_true rfl) rfl (fun q24r => ?_)
    show Go 27 [some (.ref (ad 0)), some (iv v1), some (iv r15)] [iv (FJ6_bitCount_0f7a4 r15)] m15
    refine r_goto (pc := 27) (tgt := 31) hR (dc dt_X10_doubt 15 rfl) (by decide) ?_
    exact r_iret hT (dc dt_X10_doubt 17 rfl) (congrArg Prod.fst (Option.some.inj h)) (congrArg Prod.snd (Option.some.inj h)) q24r
  replace h := ite_f hc h
  refine r_iconst (pc := 9) hR (dc dt_X10_doubt 5 rfl) ?_
  exact r_iret hT (dc dt_X10_doubt 6 rfl) (congrArg Prod.fst (Option.some.inj h)) (congrArg Prod.snd (Option.some.inj h)) (rg_c rfl)
def tb_X10_law : List (Nat × (Instr × Nat)) := [(0, (.aload_n 0, 1)), (1, (.getfield 19, 3)), (4, (.iload_n 1, 1)), (5, (.invokevirtual 112, 3)), (8, (.ifCond .eq 10, 3)), (11, (.iload_n 2, 1)), (12, (.invokestatic 128, 3)), (15, (.ifCond .ne 7, 3)), (18, (.iconst (-1), 1)), (19, (.goto 12, 3)), (22, (.aload_n 0, 1)), (23, (.getfield 35, 3)), (26, (.iload_n 1, 1)), (27, (.iload_n 2, 1)), (28, (.invokevirtual 178, 3)), (31, (.ireturn, 1))]
set_option maxRecDepth 100000 in
theorem dt_X10_law : (tb_X10_law.all fun q => decide (decode cX10_law q.1 = .ok q.2)) = true := by decide +kernel
set_option maxRecDepth 100000 in
set_option maxHeartbeats 4000000 in
theorem ok_F10_law {m : Mem}  {v1 v2 : Int} (q1 : inR v1) (q2 : inR v2) {out : Int × Mem} (h : F10_law m v1 v2 = some out) : CT l G cy ad tt yX10_law cX10_law 3 (some .int) 5 [.ref (ad 0), iv v1, iv v2] m (some (iv out.1)) (inR out.1) out.2 := by
  refine CT_of (by decide) (Nat.le_of_ble_eq_true rfl) (fun Go hR hT => ?_)
  replace hR : RS l G cy ad tt RX10 cX10_law 3 5 Go := hR
  show Go 0 [some (.ref (ad 0)), some (iv v1), some (iv v2)] [] m
  unfold F10_law at h
  refine r_aload_n (pc := 0) hR (dc dt_X10_law 0 rfl) rfl ?_
  refine r_getr (pc := 1) (k2 := 4) hR (dc dt_X10_law 1 rfl) fl_X10_19 tc_0 rfl ?_
  refine r_iload_n (pc := 4) hR (dc dt_X10_law 2 rfl) rfl ?_
  refine r_callV (pc := 5) (rest := []) hR (dc dt_X10_law 3 rfl) cl_X10_112 tc_4 rfl (ok_F1_has q1) (by decide) rfl (Nat.le_of_ble_eq_true rfl) rfl (fun q5r => ?_)
  show Go 8 [some (.ref (ad 0)), some (iv v1), some (iv v2)] [iv (F1_has m v1)] m
  refine jn_e h (fun (K : Option (Int × Mem)) => K = some out → Go 18 [none, none, none] [] m) (fun h => ?_) (fun K18 J18 h => ?_)
  · refine r_iconst (pc := 18) hR (dc dt_X10_law 8 rfl) ?_
    refine r_goto (pc := 19) (tgt := 31) hR (dc dt_X10_law 9 rfl) (by decide) ?_
    exact r_iret hT (dc dt_X10_law 15 rfl) (congrArg Prod.fst (Option.some.inj h)) (congrArg Prod.snd (Option.some.inj h)) (rg_c rfl)
  refine r_if_eq (pc := 8) (tgt := 18) hR (dc dt_X10_law 4 rfl) (by decide) (inZ_R q5r) (fun hc => ?_) (fun hc => ?_)
  · replace h := ite_t hc h
    refine r_weak (L' := [none, none, none]) hR ⟨Or.inl rfl, Or.inl rfl, Or.inl rfl, trivial⟩ ?_
    exact J18 h
  replace h := ite_f hc h
  refine r_iload_n (pc := 11) hR (dc dt_X10_law 5 rfl) rfl ?_
  refine r_callS (pc := 12) (rest := []) hR (dc dt_X10_law 6 rfl) cl_X10_128 (ok_F10_isClause q2) (by decide) rfl (Nat.le_of_ble_eq_true rfl) rfl (fun q12r => ?_)
  show Go 15 [some (.ref (ad 0)), some (iv v1), some (iv v2)] [iv (F10_isClause v2)] m
  refine r_if_ne (pc := 15) (tgt := 22) hR (dc dt_X10_law 7 rfl) (by decide) (inZ_R q12r) (fun hc => ?_) (fun hc => ?_)
  · replace h := ite_t hc h
    refine r_aload_n (pc := 22) hR (dc dt_X10_law 10 rfl) rfl ?_
    refine r_getr (pc := 23) (k2 := 26) hR (dc dt_X10_law 11 rfl) fl_X10_35 tc_0 rfl ?_
    refine r_iload_n (pc := 26) hR (dc dt_X10_law 12 rfl) rfl ?_
    refine r_iload_n (pc := 27) hR (dc dt_X10_law 13 rfl) rfl ?_
    obtain ⟨r28, m28, e28, h⟩ := b2_some h
    refine r_callV (pc := 28) (rest := []) hR (dc dt_X10_law 14 rfl) cl_X10_178 tc_26 rfl (ok_F4_burntForms q1 q2 e28) (by decide) rfl (Nat.le_of_ble_eq_true rfl) rfl (fun q28r => ?_)
    show Go 31 [some (.ref (ad 0)), some (iv v1), some (iv v2)] [iv r28] m28
    exact r_iret hT (dc dt_X10_law 15 rfl) (congrArg Prod.fst (Option.some.inj h)) (congrArg Prod.snd (Option.some.inj h)) q28r
  replace h := ite_f hc h
  refine r_weak (L' := [none, none, none]) hR ⟨Or.inl rfl, Or.inl rfl, Or.inl rfl, trivial⟩ ?_
  exact J18 h
def tb_X4_source : List (Nat × (Instr × Nat)) := [(0, (.aload_n 0, 1)), (1, (.getfield 28, 3)), (4, (.aload_n 0, 1)), (5, (.getfield 24, 3)), (8, (.invokevirtual 32, 3)), (11, (.aload_n 0, 1)), (12, (.iload_n 2, 1)), (13, (.invokevirtual 81, 3)), (16, (.aload_n 0, 1)), (17, (.iload_n 1, 1)), (18, (.iload_n 2, 1)), (19, (.invokevirtual 75, 3)), (22, (.istore_n 3, 1)), (23, (.iload_n 3, 1)), (24, (.ifCond .ne 6, 3)), (27, (.bipush (-2), 2)), (29, (.ireturn, 1)), (30, (.iload_n 1, 1)), (31, (.istore 4, 2)), (33, (.iconst 0, 1)), (34, (.istore 5, 2)), (36, (.iload 5, 2)), (38, (.bipush 12, 2)), (40, (.if_icmp .ge 43, 3)), (43, (.aload_n 0, 1)), (44, (.getfield 24, 3)), (47, (.iload 4, 2)), (49, (.invokevirtual 72, 3)), (52, (.istore 6, 2)), (54, (.iload 6, 2)), (56, (.ifCond .lt 27, 3)), (59, (.aload_n 0, 1)), (60, (.iload 6, 2)), (62, (.iload_n 2, 1)), (63, (.invokevirtual 75, 3)), (66, (.iload_n 3, 1)), (67, (.if_icmp .eq 6, 3)), (70, (.goto 13, 3)), (73, (.iload 6, 2)), (75, (.istore 4, 2)), (77, (.iinc 5 1, 3)), (80, (.goto (-44), 3)), (83, (.iload 4, 2)), (85, (.ireturn, 1))]
set_option maxRecDepth 100000 in
theorem dt_X4_source : (tb_X4_source.all fun q => decide (decode cX4_source q.1 = .ok q.2)) = true := by decide +kernel
set_option maxRecDepth 100000 in
set_option maxHeartbeats 4000000 in
theorem lp_L4_source_36 {Go : Nat → List (Option Value) → List Value → Mem → Prop} (hR : RS l G cy ad tt RX4 cX4_source 7 4 Go) {out : Int × Mem} {m : Mem} (hT : RT cX4_source (some (iv out.1)) (inR out.1) out.2 (some .int) Go) {v2 : Int} {v3 : Int} (qv2 : inR v2) (qv3 : inR v3) {k70 : Int → Option (Int × Mem)} (hk70 : ∀ (v4 : Int), inR v4 → k70 v4 = some out → Go 70 [none, none, none, none, some (iv v4), none, none] [] m) : ∀ (n : Nat) (v4 : Int) (v5 : Int), inR v4 → inR v5 → L4_source_36 m v2 v3 k70 n v4 v5 = some out → Go 36 [some (.ref (ad 26)), none, some (iv v2), some (iv v3), some (iv v4), some (iv v5), none] [] m := by
  intro n
  induction n with
  | zero =>
    intro v4 v5 qv4 qv5 h
    cases h
  | succ n ih =>
    intro v4 v5 qv4 qv5 h
    rw [L4_source_36] at h
    refine r_iload (pc := 36) hR (dc dt_X4_source 21 rfl) rfl ?_
    refine r_bipush (pc := 38) hR (dc dt_X4_source 22 rfl) (by decide) ?_
    refine r_icmp_ge (pc := 40) (tgt := 83) hR (dc dt_X4_source 23 rfl) (by decide) qv5 (rg_c rfl) (fun hc => ?_) (fun hc => ?_)
    · replace h := ite_t hc h
      refine r_iload (pc := 83) hR (dc dt_X4_source 42 rfl) rfl ?_
      exact r_iret hT (dc dt_X4_source 43 rfl) (congrArg Prod.fst (Option.some.inj h)) (congrArg Prod.snd (Option.some.inj h)) qv4
    replace h := ite_f hc h
    refine r_aload_n (pc := 43) hR (dc dt_X4_source 24 rfl) rfl ?_
    refine r_getr (pc := 44) (k2 := 4) hR (dc dt_X4_source 25 rfl) fl_X4_24 tc_26 rfl ?_
    refine r_iload (pc := 47) hR (dc dt_X4_source 26 rfl) rfl ?_
    obtain ⟨r49, e49, h⟩ := b1_some h
    refine r_callV (pc := 49) (rest := []) hR (dc dt_X4_source 27 rfl) cl_X4_72 tc_4 rfl (ok_F1_motherOf qv4 e49) (by decide) rfl (Nat.le_of_ble_eq_true rfl) rfl (fun q49r => ?_)
    show Go 52 [some (.ref (ad 26)), none, some (iv v2), some (iv v3), some (iv v4), some (iv v5), none] [iv r49] m
    refine r_istore (pc := 52) (L' := [some (.ref (ad 26)), none, some (iv v2), some (iv v3), some (iv v4), some (iv v5), some (iv r49)]) hR (dc dt_X4_source 28 rfl) (by decide) rfl rfl ?_
    refine r_iload (pc := 54) hR (dc dt_X4_source 29 rfl) rfl ?_
    refine r_if_lt (pc := 56) (tgt := 83) hR (dc dt_X4_source 30 rfl) (by decide) q49r (fun hc => ?_) (fun hc => ?_)
    · replace h := ite_t hc h
      refine r_iload (pc := 83) hR (dc dt_X4_source 42 rfl) rfl ?_
      exact r_iret hT (dc dt_X4_source 43 rfl) (congrArg Prod.fst (Option.some.inj h)) (congrArg Prod.snd (Option.some.inj h)) qv4
    replace h := ite_f hc h
    refine r_aload_n (pc := 59) hR (dc dt_X4_source 31 rfl) rfl ?_
    refine r_iload (pc := 60) hR (dc dt_X4_source 32 rfl) rfl ?_
    refine r_iload_n (pc := 62) hR (dc dt_X4_source 33 rfl) rfl ?_
    obtain ⟨r63, e63, h⟩ := b1_some h
    refine r_callV (pc := 63) (rest := []) hR (dc dt_X4_source 34 rfl) cl_X4_75 tc_26 rfl (ok_F4_filledForm q49r qv2 e63) (by decide) rfl (Nat.le_of_ble_eq_true rfl) rfl (fun q63r => ?_)
    show Go 66 [some (.ref (ad 26)), none, some (iv v2), some (iv v3), some (iv v4), some (iv v5), some (iv r49)] [iv r63] m
    refine r_iload_n (pc := 66) hR (dc dt_X4_source 35 rfl) rfl ?_
    refine r_icmp_eq (pc := 67) (tgt := 73) hR (dc dt_X4_source 36 rfl) (by decide) q63r qv3 (fun hc => ?_) (fun hc => ?_)
    · replace h := ite_t hc h
      refine r_iload (pc := 73) hR (dc dt_X4_source 38 rfl) rfl ?_
      refine r_istore (pc := 75) (L' := [some (.ref (ad 26)), none, some (iv v2), some (iv v3), some (iv r49), some (iv v5), some (iv r49)]) hR (dc dt_X4_source 39 rfl) (by decide) rfl rfl ?_
      refine r_iinc (pc := 77) (L' := [some (.ref (ad 26)), none, some (iv v2), some (iv v3), some (iv r49), some (iv (w32 (v5 + 1))), some (iv r49)]) hR (dc dt_X4_source 40 rfl) rfl (by decide) rfl rfl ?_
      refine r_goto (pc := 80) (tgt := 36) hR (dc dt_X4_source 41 rfl) (by decide) ?_
      refine r_weak (L' := [some (.ref (ad 26)), none, some (iv v2), some (iv v3), some (iv r49), some (iv (w32 (v5 + 1))), none]) hR ⟨Or.inr rfl, Or.inr rfl, Or.inr rfl, Or.inr rfl, Or.inr rfl, Or.inr rfl, Or.inl rfl, trivial⟩ ?_
      exact ih r49 (w32 (v5 + 1)) q49r (w32_in _) h
    replace h := ite_f hc h
    refine r_weak (L' := [none, none, none, none, some (iv v4), none, none]) hR ⟨Or.inl rfl, Or.inr rfl, Or.inl rfl, Or.inl rfl, Or.inr rfl, Or.inl rfl, Or.inl rfl, trivial⟩ ?_
    exact hk70 v4 qv4 h
set_option maxRecDepth 100000 in
set_option maxHeartbeats 4000000 in
theorem ok_F4_source {m : Mem}  {v1 v2 : Int} (q1 : inR v1) (q2 : inR v2) {out : Int × Mem} (h : F4_source m v1 v2 = some out) : CT l G cy ad tt yX4_source cX4_source 7 (some .int) 4 [.ref (ad 26), iv v1, iv v2] m (some (iv out.1)) (inR out.1) out.2 := by
  refine CT_of (by decide) (Nat.le_of_ble_eq_true rfl) (fun Go hR hT => ?_)
  replace hR : RS l G cy ad tt RX4 cX4_source 7 4 Go := hR
  show Go 0 [some (.ref (ad 26)), some (iv v1), some (iv v2), none, none, none, none] [] m
  unfold F4_source at h
  refine r_aload_n (pc := 0) hR (dc dt_X4_source 0 rfl) rfl ?_
  refine r_getr (pc := 1) (k2 := 14) hR (dc dt_X4_source 1 rfl) fl_X4_28 tc_26 rfl ?_
  refine r_aload_n (pc := 4) hR (dc dt_X4_source 2 rfl) rfl ?_
  refine r_getr (pc := 5) (k2 := 4) hR (dc dt_X4_source 3 rfl) fl_X4_24 tc_26 rfl ?_
  obtain ⟨m8, e8, h⟩ := b1_some h
  refine r_callV (pc := 8) (rest := []) hR (dc dt_X4_source 4 rfl) cl_X4_32 tc_14 rfl (ok_F9_growAsTold tr_c14 e8) (by decide) rfl (Nat.le_of_ble_eq_true rfl) rfl (fun q8r => ?_)
  show Go 11 [some (.ref (ad 26)), some (iv v1), some (iv v2), none, none, none, none] [] m8
  refine r_aload_n (pc := 11) hR (dc dt_X4_source 5 rfl) rfl ?_
  refine r_iload_n (pc := 12) hR (dc dt_X4_source 6 rfl) rfl ?_
  obtain ⟨m13, e13, h⟩ := b1_some h
  refine r_callV (pc := 13) (rest := []) hR (dc dt_X4_source 7 rfl) cl_X4_81 tc_26 rfl (ok_F4_fillClause q2 e13) (by decide) rfl (Nat.le_of_ble_eq_true rfl) rfl (fun q13r => ?_)
  show Go 16 [some (.ref (ad 26)), some (iv v1), some (iv v2), none, none, none, none] [] m13
  refine r_aload_n (pc := 16) hR (dc dt_X4_source 8 rfl) rfl ?_
  refine r_iload_n (pc := 17) hR (dc dt_X4_source 9 rfl) rfl ?_
  refine r_iload_n (pc := 18) hR (dc dt_X4_source 10 rfl) rfl ?_
  obtain ⟨r19, e19, h⟩ := b1_some h
  refine r_callV (pc := 19) (rest := []) hR (dc dt_X4_source 11 rfl) cl_X4_75 tc_26 rfl (ok_F4_filledForm q1 q2 e19) (by decide) rfl (Nat.le_of_ble_eq_true rfl) rfl (fun q19r => ?_)
  show Go 22 [some (.ref (ad 26)), some (iv v1), some (iv v2), none, none, none, none] [iv r19] m13
  refine r_istore_n (pc := 22) (L' := [some (.ref (ad 26)), some (iv v1), some (iv v2), some (iv r19), none, none, none]) hR (dc dt_X4_source 12 rfl) (by decide) rfl rfl ?_
  refine r_iload_n (pc := 23) hR (dc dt_X4_source 13 rfl) rfl ?_
  refine r_if_ne (pc := 24) (tgt := 30) hR (dc dt_X4_source 14 rfl) (by decide) q19r (fun hc => ?_) (fun hc => ?_)
  · replace h := ite_t hc h
    refine r_iload_n (pc := 30) hR (dc dt_X4_source 17 rfl) rfl ?_
    refine r_istore (pc := 31) (L' := [some (.ref (ad 26)), some (iv v1), some (iv v2), some (iv r19), some (iv v1), none, none]) hR (dc dt_X4_source 18 rfl) (by decide) rfl rfl ?_
    refine r_iconst (pc := 33) hR (dc dt_X4_source 19 rfl) ?_
    refine r_istore (pc := 34) (L' := [some (.ref (ad 26)), some (iv v1), some (iv v2), some (iv r19), some (iv v1), some (iv 0), none]) hR (dc dt_X4_source 20 rfl) (by decide) rfl rfl ?_
    refine r_weak (L' := [some (.ref (ad 26)), none, some (iv v2), some (iv r19), some (iv v1), some (iv 0), none]) hR ⟨Or.inr rfl, Or.inl rfl, Or.inr rfl, Or.inr rfl, Or.inr rfl, Or.inr rfl, Or.inr rfl, trivial⟩ ?_
    refine lp_L4_source_36 hR hT q2 q19r (fun v4_70 qv4_70 h => ?_) FU v1 0 q1 (rg_c rfl) h
    show Go 70 [none, none, none, none, some (iv v4_70), none, none] [] m13
    refine r_goto (pc := 70) (tgt := 83) hR (dc dt_X4_source 37 rfl) (by decide) ?_
    refine r_iload (pc := 83) hR (dc dt_X4_source 42 rfl) rfl ?_
    exact r_iret hT (dc dt_X4_source 43 rfl) (congrArg Prod.fst (Option.some.inj h)) (congrArg Prod.snd (Option.some.inj h)) qv4_70
  replace h := ite_f hc h
  refine r_bipush (pc := 27) hR (dc dt_X4_source 15 rfl) (by decide) ?_
  exact r_iret hT (dc dt_X4_source 16 rfl) (congrArg Prod.fst (Option.some.inj h)) (congrArg Prod.snd (Option.some.inj h)) (rg_c rfl)
def tb_X10_cameIn : List (Nat × (Instr × Nat)) := [(0, (.aload_n 0, 1)), (1, (.getfield 19, 3)), (4, (.iload_n 1, 1)), (5, (.invokevirtual 112, 3)), (8, (.ifCond .eq 10, 3)), (11, (.iload_n 2, 1)), (12, (.invokestatic 128, 3)), (15, (.ifCond .ne 7, 3)), (18, (.iconst (-1), 1)), (19, (.goto 12, 3)), (22, (.aload_n 0, 1)), (23, (.getfield 35, 3)), (26, (.iload_n 1, 1)), (27, (.iload_n 2, 1)), (28, (.invokevirtual 243, 3)), (31, (.ireturn, 1))]
set_option maxRecDepth 100000 in
theorem dt_X10_cameIn : (tb_X10_cameIn.all fun q => decide (decode cX10_cameIn q.1 = .ok q.2)) = true := by decide +kernel
set_option maxRecDepth 100000 in
set_option maxHeartbeats 4000000 in
theorem ok_F10_cameIn {m : Mem}  {v1 v2 : Int} (q1 : inR v1) (q2 : inR v2) {out : Int × Mem} (h : F10_cameIn m v1 v2 = some out) : CT l G cy ad tt yX10_cameIn cX10_cameIn 3 (some .int) 5 [.ref (ad 0), iv v1, iv v2] m (some (iv out.1)) (inR out.1) out.2 := by
  refine CT_of (by decide) (Nat.le_of_ble_eq_true rfl) (fun Go hR hT => ?_)
  replace hR : RS l G cy ad tt RX10 cX10_cameIn 3 5 Go := hR
  show Go 0 [some (.ref (ad 0)), some (iv v1), some (iv v2)] [] m
  unfold F10_cameIn at h
  refine r_aload_n (pc := 0) hR (dc dt_X10_cameIn 0 rfl) rfl ?_
  refine r_getr (pc := 1) (k2 := 4) hR (dc dt_X10_cameIn 1 rfl) fl_X10_19 tc_0 rfl ?_
  refine r_iload_n (pc := 4) hR (dc dt_X10_cameIn 2 rfl) rfl ?_
  refine r_callV (pc := 5) (rest := []) hR (dc dt_X10_cameIn 3 rfl) cl_X10_112 tc_4 rfl (ok_F1_has q1) (by decide) rfl (Nat.le_of_ble_eq_true rfl) rfl (fun q5r => ?_)
  show Go 8 [some (.ref (ad 0)), some (iv v1), some (iv v2)] [iv (F1_has m v1)] m
  refine jn_e h (fun (K : Option (Int × Mem)) => K = some out → Go 18 [none, none, none] [] m) (fun h => ?_) (fun K18 J18 h => ?_)
  · refine r_iconst (pc := 18) hR (dc dt_X10_cameIn 8 rfl) ?_
    refine r_goto (pc := 19) (tgt := 31) hR (dc dt_X10_cameIn 9 rfl) (by decide) ?_
    exact r_iret hT (dc dt_X10_cameIn 15 rfl) (congrArg Prod.fst (Option.some.inj h)) (congrArg Prod.snd (Option.some.inj h)) (rg_c rfl)
  refine r_if_eq (pc := 8) (tgt := 18) hR (dc dt_X10_cameIn 4 rfl) (by decide) (inZ_R q5r) (fun hc => ?_) (fun hc => ?_)
  · replace h := ite_t hc h
    refine r_weak (L' := [none, none, none]) hR ⟨Or.inl rfl, Or.inl rfl, Or.inl rfl, trivial⟩ ?_
    exact J18 h
  replace h := ite_f hc h
  refine r_iload_n (pc := 11) hR (dc dt_X10_cameIn 5 rfl) rfl ?_
  refine r_callS (pc := 12) (rest := []) hR (dc dt_X10_cameIn 6 rfl) cl_X10_128 (ok_F10_isClause q2) (by decide) rfl (Nat.le_of_ble_eq_true rfl) rfl (fun q12r => ?_)
  show Go 15 [some (.ref (ad 0)), some (iv v1), some (iv v2)] [iv (F10_isClause v2)] m
  refine r_if_ne (pc := 15) (tgt := 22) hR (dc dt_X10_cameIn 7 rfl) (by decide) (inZ_R q12r) (fun hc => ?_) (fun hc => ?_)
  · replace h := ite_t hc h
    refine r_aload_n (pc := 22) hR (dc dt_X10_cameIn 10 rfl) rfl ?_
    refine r_getr (pc := 23) (k2 := 26) hR (dc dt_X10_cameIn 11 rfl) fl_X10_35 tc_0 rfl ?_
    refine r_iload_n (pc := 26) hR (dc dt_X10_cameIn 12 rfl) rfl ?_
    refine r_iload_n (pc := 27) hR (dc dt_X10_cameIn 13 rfl) rfl ?_
    obtain ⟨r28, m28, e28, h⟩ := b2_some h
    refine r_callV (pc := 28) (rest := []) hR (dc dt_X10_cameIn 14 rfl) cl_X10_243 tc_26 rfl (ok_F4_source q1 q2 e28) (by decide) rfl (Nat.le_of_ble_eq_true rfl) rfl (fun q28r => ?_)
    show Go 31 [some (.ref (ad 0)), some (iv v1), some (iv v2)] [iv r28] m28
    exact r_iret hT (dc dt_X10_cameIn 15 rfl) (congrArg Prod.fst (Option.some.inj h)) (congrArg Prod.snd (Option.some.inj h)) q28r
  replace h := ite_f hc h
  refine r_weak (L' := [none, none, none]) hR ⟨Or.inl rfl, Or.inl rfl, Or.inl rfl, trivial⟩ ?_
  exact J18 h
def tb_X7_isNumber : List (Nat × (Instr × Nat)) := [(0, (.iload_n 0, 1)), (1, (.iconst 1, 1)), (2, (.if_icmp .lt 13, 3)), (5, (.iload_n 0, 1)), (6, (.ldc 11, 2)), (8, (.if_icmp .gt 7, 3)), (11, (.iconst 1, 1)), (12, (.goto 4, 3)), (15, (.iconst 0, 1)), (16, (.ireturn, 1))]
set_option maxRecDepth 100000 in
theorem dt_X7_isNumber : (tb_X7_isNumber.all fun q => decide (decode cX7_isNumber q.1 = .ok q.2)) = true := by decide +kernel
set_option maxRecDepth 100000 in
set_option maxHeartbeats 4000000 in
theorem ok_F7_isNumber {m : Mem}  {v0 : Int} (q0 : inR v0) : CT l G cy ad tt yX7_isNumber cX7_isNumber 1 (some .boolean) 0 [iv v0] m (some (iv (F7_isNumber v0))) (inZ (F7_isNumber v0)) m := by
  refine CT_of (by decide) (Nat.le_of_ble_eq_true rfl) (fun Go hR hT => ?_)
  replace hR : RS l G cy ad tt RX7 cX7_isNumber 1 0 Go := hR
  show Go 0 [some (iv v0)] [] m
  obtain ⟨out, h⟩ : ∃ out, F7_isNumber v0 = out := ⟨_, rfl⟩
  rw [h] at hT
  unfold F7_isNumber at h
  refine r_iload_n (pc := 0) hR (dc dt_X7_isNumber 0 rfl) rfl ?_
  refine r_iconst (pc := 1) hR (dc dt_X7_isNumber 1 rfl) ?_
  refine jn_e h (fun (K : Int) => K = out → Go 15 [none] [] m) (fun h => ?_) (fun K15 J15 h => ?_)
  · refine r_iconst (pc := 15) hR (dc dt_X7_isNumber 8 rfl) ?_
    exact r_zret hT (dc dt_X7_isNumber 9 rfl) h rfl (Or.inl rfl)
  refine r_icmp_lt (pc := 2) (tgt := 15) hR (dc dt_X7_isNumber 2 rfl) (by decide) q0 (rg_c rfl) (fun hc => ?_) (fun hc => ?_)
  · replace h := ite_t hc h
    refine r_weak (L' := [none]) hR ⟨Or.inl rfl, trivial⟩ ?_
    exact J15 h
  replace h := ite_f hc h
  refine r_iload_n (pc := 5) hR (dc dt_X7_isNumber 3 rfl) rfl ?_
  refine r_ldc (pc := 6) hR (dc dt_X7_isNumber 4 rfl) kw_X7_11 ?_
  refine r_icmp_gt (pc := 8) (tgt := 15) hR (dc dt_X7_isNumber 5 rfl) (by decide) q0 (rg_c rfl) (fun hc => ?_) (fun hc => ?_)
  · replace h := ite_t hc h
    refine r_weak (L' := [none]) hR ⟨Or.inl rfl, trivial⟩ ?_
    exact J15 h
  replace h := ite_f hc h
  refine r_iconst (pc := 11) hR (dc dt_X7_isNumber 6 rfl) ?_
  refine r_goto (pc := 12) (tgt := 16) hR (dc dt_X7_isNumber 7 rfl) (by decide) ?_
  exact r_zret hT (dc dt_X7_isNumber 9 rfl) h rfl (Or.inr rfl)
def tb_X7_length : List (Nat × (Instr × Nat)) := [(0, (.iconst 1, 1)), (1, (.istore_n 1, 1)), (2, (.iload_n 1, 1)), (3, (.iconst 5, 1)), (4, (.if_icmp .ge 18, 3)), (7, (.iload_n 0, 1)), (8, (.getstatic 30, 3)), (11, (.iload_n 1, 1)), (12, (.iaload, 1)), (13, (.if_icmp .lt 9, 3)), (16, (.iinc 1 1, 3)), (19, (.goto (-17), 3)), (22, (.iload_n 1, 1)), (23, (.ireturn, 1))]
set_option maxRecDepth 100000 in
theorem dt_X7_length : (tb_X7_length.all fun q => decide (decode cX7_length q.1 = .ok q.2)) = true := by decide +kernel
set_option maxRecDepth 100000 in
set_option maxHeartbeats 4000000 in
theorem lp_L7_length_2 {Go : Nat → List (Option Value) → List Value → Mem → Prop} (hR : RS l G cy ad tt RX7 cX7_length 2 0 Go) {out : Int} {m : Mem} (hT : RT cX7_length (some (iv out)) (inR out) m (some .int) Go) {v0 : Int} (qv0 : inR v0) : ∀ (n : Nat) (v1 : Int), inR v1 → L7_length_2 v0 n v1 = some out → Go 2 [some (iv v0), some (iv v1)] [] m := by
  intro n
  induction n with
  | zero =>
    intro v1 qv1 h
    cases h
  | succ n ih =>
    intro v1 qv1 h
    rw [L7_length_2] at h
    refine r_iload_n (pc := 2) hR (dc dt_X7_length 2 rfl) rfl ?_
    refine r_iconst (pc := 3) hR (dc dt_X7_length 3 rfl) ?_
    refine r_icmp_ge (pc := 4) (tgt := 22) hR (dc dt_X7_length 4 rfl) (by decide) qv1 (rg_c rfl) (fun hc => ?_) (fun hc => ?_)
    · replace h := ite_t hc h
      refine r_iload_n (pc := 22) hR (dc dt_X7_length 12 rfl) rfl ?_
      exact r_iret hT (dc dt_X7_length 13 rfl) (Option.some.inj h) rfl qv1
    replace h := ite_f hc h
    refine r_iload_n (pc := 7) hR (dc dt_X7_length 5 rfl) rfl ?_
    refine r_gets (pc := 8) hR (dc dt_X7_length 6 rfl) sl_X7_30 ?_
    refine r_iload_n (pc := 11) hR (dc dt_X7_length 7 rfl) rfl ?_
    obtain ⟨g1, h⟩ := gd_some h
    refine r_tald (pc := 12) hR (dc dt_X7_length 8 rfl) st_0 g1 qv1 ?_
    show Go 13 [some (iv v0), some (iv v1)] [iv (stv 0 v1), iv v0] m
    refine r_icmp_lt (pc := 13) (tgt := 22) hR (dc dt_X7_length 9 rfl) (by decide) qv0 (stv_in _ _) (fun hc => ?_) (fun hc => ?_)
    · replace h := ite_t hc h
      refine r_iload_n (pc := 22) hR (dc dt_X7_length 12 rfl) rfl ?_
      exact r_iret hT (dc dt_X7_length 13 rfl) (Option.some.inj h) rfl qv1
    replace h := ite_f hc h
    refine r_iinc (pc := 16) (L' := [some (iv v0), some (iv (w32 (v1 + 1)))]) hR (dc dt_X7_length 10 rfl) rfl (by decide) rfl rfl ?_
    refine r_goto (pc := 19) (tgt := 2) hR (dc dt_X7_length 11 rfl) (by decide) ?_
    exact ih (w32 (v1 + 1)) (w32_in _) h
set_option maxRecDepth 100000 in
set_option maxHeartbeats 4000000 in
theorem ok_F7_length {m : Mem}  {v0 : Int} (q0 : inR v0) {out : Int} (h : F7_length v0 = some out) : CT l G cy ad tt yX7_length cX7_length 2 (some .int) 0 [iv v0] m (some (iv out)) (inR out) m := by
  refine CT_of (by decide) (Nat.le_of_ble_eq_true rfl) (fun Go hR hT => ?_)
  replace hR : RS l G cy ad tt RX7 cX7_length 2 0 Go := hR
  show Go 0 [some (iv v0), none] [] m
  unfold F7_length at h
  refine r_iconst (pc := 0) hR (dc dt_X7_length 0 rfl) ?_
  refine r_istore_n (pc := 1) (L' := [some (iv v0), some (iv 1)]) hR (dc dt_X7_length 1 rfl) (by decide) rfl rfl ?_
  refine lp_L7_length_2 hR hT q0 FU 1 (rg_c rfl) h
def tb_X7_kindOf : List (Nat × (Instr × Nat)) := [(0, (.iload_n 0, 1)), (1, (.iconst 5, 1)), (2, (.if_icmp .ge 7, 3)), (5, (.iconst 1, 1)), (6, (.goto 24, 3)), (9, (.iload_n 0, 1)), (10, (.bipush 10, 2)), (12, (.if_icmp .ge 7, 3)), (15, (.iconst 2, 1)), (16, (.goto 14, 3)), (19, (.iload_n 0, 1)), (20, (.bipush 14, 2)), (22, (.if_icmp .ge 7, 3)), (25, (.iconst 3, 1)), (26, (.goto 4, 3)), (29, (.iconst 4, 1)), (30, (.ireturn, 1))]
set_option maxRecDepth 100000 in
theorem dt_X7_kindOf : (tb_X7_kindOf.all fun q => decide (decode cX7_kindOf q.1 = .ok q.2)) = true := by decide +kernel
set_option maxRecDepth 100000 in
set_option maxHeartbeats 4000000 in
theorem ok_F7_kindOf {m : Mem}  {v0 : Int} (q0 : inR v0) : CT l G cy ad tt yX7_kindOf cX7_kindOf 1 (some .int) 0 [iv v0] m (some (iv (F7_kindOf v0))) (inR (F7_kindOf v0)) m := by
  refine CT_of (by decide) (Nat.le_of_ble_eq_true rfl) (fun Go hR hT => ?_)
  replace hR : RS l G cy ad tt RX7 cX7_kindOf 1 0 Go := hR
  show Go 0 [some (iv v0)] [] m
  obtain ⟨out, h⟩ : ∃ out, F7_kindOf v0 = out := ⟨_, rfl⟩
  rw [h] at hT
  unfold F7_kindOf at h
  refine r_iload_n (pc := 0) hR (dc dt_X7_kindOf 0 rfl) rfl ?_
  refine r_iconst (pc := 1) hR (dc dt_X7_kindOf 1 rfl) ?_
  refine r_icmp_ge (pc := 2) (tgt := 9) hR (dc dt_X7_kindOf 2 rfl) (by decide) q0 (rg_c rfl) (fun hc => ?_) (fun hc => ?_)
  · replace h := ite_t hc h
    refine r_iload_n (pc := 9) hR (dc dt_X7_kindOf 5 rfl) rfl ?_
    refine r_bipush (pc := 10) hR (dc dt_X7_kindOf 6 rfl) (by decide) ?_
    refine r_icmp_ge (pc := 12) (tgt := 19) hR (dc dt_X7_kindOf 7 rfl) (by decide) q0 (rg_c rfl) (fun hc => ?_) (fun hc => ?_)
    · replace h := ite_t hc h
      refine r_iload_n (pc := 19) hR (dc dt_X7_kindOf 10 rfl) rfl ?_
      refine r_bipush (pc := 20) hR (dc dt_X7_kindOf 11 rfl) (by decide) ?_
      refine r_icmp_ge (pc := 22) (tgt := 29) hR (dc dt_X7_kindOf 12 rfl) (by decide) q0 (rg_c rfl) (fun hc => ?_) (fun hc => ?_)
      · replace h := ite_t hc h
        refine r_iconst (pc := 29) hR (dc dt_X7_kindOf 15 rfl) ?_
        exact r_iret hT (dc dt_X7_kindOf 16 rfl) h rfl (rg_c rfl)
      replace h := ite_f hc h
      refine r_iconst (pc := 25) hR (dc dt_X7_kindOf 13 rfl) ?_
      refine r_goto (pc := 26) (tgt := 30) hR (dc dt_X7_kindOf 14 rfl) (by decide) ?_
      exact r_iret hT (dc dt_X7_kindOf 16 rfl) h rfl (rg_c rfl)
    replace h := ite_f hc h
    refine r_iconst (pc := 15) hR (dc dt_X7_kindOf 8 rfl) ?_
    refine r_goto (pc := 16) (tgt := 30) hR (dc dt_X7_kindOf 9 rfl) (by decide) ?_
    exact r_iret hT (dc dt_X7_kindOf 16 rfl) h rfl (rg_c rfl)
  replace h := ite_f hc h
  refine r_iconst (pc := 5) hR (dc dt_X7_kindOf 3 rfl) ?_
  refine r_goto (pc := 6) (tgt := 30) hR (dc dt_X7_kindOf 4 rfl) (by decide) ?_
  exact r_iret hT (dc dt_X7_kindOf 16 rfl) h rfl (rg_c rfl)
def tb_X7_written : List (Nat × (Instr × Nat)) := [(0, (.iload_n 1, 1)), (1, (.iconst 1, 1)), (2, (.if_icmp .lt 23, 3)), (5, (.iload_n 1, 1)), (6, (.iconst 5, 1)), (7, (.if_icmp .gt 18, 3)), (10, (.iload_n 0, 1)), (11, (.getstatic 30, 3)), (14, (.iload_n 1, 1)), (15, (.iconst 1, 1)), (16, (.isub, 1)), (17, (.iaload, 1)), (18, (.if_icmp .lt 7, 3)), (21, (.iload_n 0, 1)), (22, (.goto 4, 3)), (25, (.iconst (-1), 1)), (26, (.ireturn, 1))]
set_option maxRecDepth 100000 in
theorem dt_X7_written : (tb_X7_written.all fun q => decide (decode cX7_written q.1 = .ok q.2)) = true := by decide +kernel
set_option maxRecDepth 100000 in
set_option maxHeartbeats 4000000 in
theorem ok_F7_written {m : Mem}  {v0 v1 : Int} (q0 : inR v0) (q1 : inR v1) {out : Int} (h : F7_written v0 v1 = some out) : CT l G cy ad tt yX7_written cX7_written 2 (some .int) 0 [iv v0, iv v1] m (some (iv out)) (inR out) m := by
  refine CT_of (by decide) (Nat.le_of_ble_eq_true rfl) (fun Go hR hT => ?_)
  replace hR : RS l G cy ad tt RX7 cX7_written 2 0 Go := hR
  show Go 0 [some (iv v0), some (iv v1)] [] m
  unfold F7_written at h
  refine r_iload_n (pc := 0) hR (dc dt_X7_written 0 rfl) rfl ?_
  refine r_iconst (pc := 1) hR (dc dt_X7_written 1 rfl) ?_
  refine jn_e h (fun (K : Option Int) => K = some out → Go 25 [none, none] [] m) (fun h => ?_) (fun K25 J25 h => ?_)
  · refine r_iconst (pc := 25) hR (dc dt_X7_written 15 rfl) ?_
    exact r_iret hT (dc dt_X7_written 16 rfl) (Option.some.inj h) rfl (rg_c rfl)
  refine r_icmp_lt (pc := 2) (tgt := 25) hR (dc dt_X7_written 2 rfl) (by decide) q1 (rg_c rfl) (fun hc => ?_) (fun hc => ?_)
  · replace h := ite_t hc h
    refine r_weak (L' := [none, none]) hR ⟨Or.inl rfl, Or.inl rfl, trivial⟩ ?_
    exact J25 h
  replace h := ite_f hc h
  refine r_iload_n (pc := 5) hR (dc dt_X7_written 3 rfl) rfl ?_
  refine r_iconst (pc := 6) hR (dc dt_X7_written 4 rfl) ?_
  refine r_icmp_gt (pc := 7) (tgt := 25) hR (dc dt_X7_written 5 rfl) (by decide) q1 (rg_c rfl) (fun hc => ?_) (fun hc => ?_)
  · replace h := ite_t hc h
    refine r_weak (L' := [none, none]) hR ⟨Or.inl rfl, Or.inl rfl, trivial⟩ ?_
    exact J25 h
  replace h := ite_f hc h
  refine r_iload_n (pc := 10) hR (dc dt_X7_written 6 rfl) rfl ?_
  refine r_gets (pc := 11) hR (dc dt_X7_written 7 rfl) sl_X7_30 ?_
  refine r_iload_n (pc := 14) hR (dc dt_X7_written 8 rfl) rfl ?_
  refine r_iconst (pc := 15) hR (dc dt_X7_written 9 rfl) ?_
  refine r_isub (pc := 16) hR (dc dt_X7_written 10 rfl) ?_
  obtain ⟨g1, h⟩ := gd_some h
  refine r_tald (pc := 17) hR (dc dt_X7_written 11 rfl) st_0 g1 (w32_in _) ?_
  show Go 18 [some (iv v0), some (iv v1)] [iv (stv 0 (w32 (v1 - 1))), iv v0] m
  refine r_icmp_lt (pc := 18) (tgt := 25) hR (dc dt_X7_written 12 rfl) (by decide) q0 (stv_in _ _) (fun hc => ?_) (fun hc => ?_)
  · replace h := ite_t hc h
    refine r_weak (L' := [none, none]) hR ⟨Or.inl rfl, Or.inl rfl, trivial⟩ ?_
    exact J25 h
  replace h := ite_f hc h
  refine r_iload_n (pc := 21) hR (dc dt_X7_written 13 rfl) rfl ?_
  refine r_goto (pc := 22) (tgt := 26) hR (dc dt_X7_written 14 rfl) (by decide) ?_
  exact r_iret hT (dc dt_X7_written 16 rfl) (Option.some.inj h) rfl q0
def tb_X7_twice : List (Nat × (Instr × Nat)) := [(0, (.iload_n 0, 1)), (1, (.getstatic 30, 3)), (4, (.iload_n 1, 1)), (5, (.iaload, 1)), (6, (.idiv, 1)), (7, (.istore_n 2, 1)), (8, (.iload_n 2, 1)), (9, (.bipush 10, 2)), (11, (.imul, 1)), (12, (.iload_n 2, 1)), (13, (.bipush 10, 2)), (15, (.irem, 1)), (16, (.iadd, 1)), (17, (.getstatic 30, 3)), (20, (.iload_n 1, 1)), (21, (.iaload, 1)), (22, (.imul, 1)), (23, (.iload_n 0, 1)), (24, (.getstatic 30, 3)), (27, (.iload_n 1, 1)), (28, (.iaload, 1)), (29, (.irem, 1)), (30, (.iadd, 1)), (31, (.ireturn, 1))]
set_option maxRecDepth 100000 in
theorem dt_X7_twice : (tb_X7_twice.all fun q => decide (decode cX7_twice q.1 = .ok q.2)) = true := by decide +kernel
set_option maxRecDepth 100000 in
set_option maxHeartbeats 4000000 in
theorem ok_F7_twice {m : Mem}  {v0 v1 : Int} (q0 : inR v0) (q1 : inR v1) {out : Int} (h : F7_twice v0 v1 = some out) : CT l G cy ad tt yX7_twice cX7_twice 3 (some .int) 0 [iv v0, iv v1] m (some (iv out)) (inR out) m := by
  refine CT_of (by decide) (Nat.le_of_ble_eq_true rfl) (fun Go hR hT => ?_)
  replace hR : RS l G cy ad tt RX7 cX7_twice 3 0 Go := hR
  show Go 0 [some (iv v0), some (iv v1), none] [] m
  unfold F7_twice at h
  refine r_iload_n (pc := 0) hR (dc dt_X7_twice 0 rfl) rfl ?_
  refine r_gets (pc := 1) hR (dc dt_X7_twice 1 rfl) sl_X7_30 ?_
  refine r_iload_n (pc := 4) hR (dc dt_X7_twice 2 rfl) rfl ?_
  obtain ⟨g1, h⟩ := gd_some h
  refine r_tald (pc := 5) hR (dc dt_X7_twice 3 rfl) st_0 g1 q1 ?_
  show Go 6 [some (iv v0), some (iv v1), none] [iv (stv 0 v1), iv v0] m
  obtain ⟨g1, h⟩ := gd_some h
  refine r_idiv (pc := 6) hR (dc dt_X7_twice 4 rfl) g1 (stv_in _ _) ?_
  refine r_istore_n (pc := 7) (L' := [some (iv v0), some (iv v1), some (iv (idv v0 (stv 0 v1)))]) hR (dc dt_X7_twice 5 rfl) (by decide) rfl rfl ?_
  refine r_iload_n (pc := 8) hR (dc dt_X7_twice 6 rfl) rfl ?_
  refine r_bipush (pc := 9) hR (dc dt_X7_twice 7 rfl) (by decide) ?_
  refine r_imul (pc := 11) hR (dc dt_X7_twice 8 rfl) ?_
  refine r_iload_n (pc := 12) hR (dc dt_X7_twice 9 rfl) rfl ?_
  refine r_bipush (pc := 13) hR (dc dt_X7_twice 10 rfl) (by decide) ?_
  refine r_irem (pc := 15) hR (dc dt_X7_twice 11 rfl) (by decide) (rg_c rfl) ?_
  refine r_iadd (pc := 16) hR (dc dt_X7_twice 12 rfl) ?_
  refine r_gets (pc := 17) hR (dc dt_X7_twice 13 rfl) sl_X7_30 ?_
  refine r_iload_n (pc := 20) hR (dc dt_X7_twice 14 rfl) rfl ?_
  obtain ⟨g1, h⟩ := gd_some h
  refine r_tald (pc := 21) hR (dc dt_X7_twice 15 rfl) st_0 g1 q1 ?_
  show Go 22 [some (iv v0), some (iv v1), some (iv (idv v0 (stv 0 v1)))] [iv (stv 0 v1), iv (w32 ((w32 ((idv v0 (stv 0 v1)) * 10)) + (irm (idv v0 (stv 0 v1)) 10)))] m
  refine r_imul (pc := 22) hR (dc dt_X7_twice 16 rfl) ?_
  refine r_iload_n (pc := 23) hR (dc dt_X7_twice 17 rfl) rfl ?_
  refine r_gets (pc := 24) hR (dc dt_X7_twice 18 rfl) sl_X7_30 ?_
  refine r_iload_n (pc := 27) hR (dc dt_X7_twice 19 rfl) rfl ?_
  obtain ⟨g1, h⟩ := gd_some h
  refine r_tald (pc := 28) hR (dc dt_X7_twice 20 rfl) st_0 g1 q1 ?_
  show Go 29 [some (iv v0), some (iv v1), some (iv (idv v0 (stv 0 v1)))] [iv (stv 0 v1), iv v0, iv (w32 ((w32 ((w32 ((idv v0 (stv 0 v1)) * 10)) + (irm (idv v0 (stv 0 v1)) 10))) * (stv 0 v1)))] m
  obtain ⟨g1, h⟩ := gd_some h
  refine r_irem (pc := 29) hR (dc dt_X7_twice 21 rfl) g1 (stv_in _ _) ?_
  refine r_iadd (pc := 30) hR (dc dt_X7_twice 22 rfl) ?_
  exact r_iret hT (dc dt_X7_twice 23 rfl) (Option.some.inj h) rfl (w32_in _)
def tb_X7_changedAbout : List (Nat × (Instr × Nat)) := [(0, (.iload_n 0, 1)), (1, (.getstatic 30, 3)), (4, (.iload_n 1, 1)), (5, (.iaload, 1)), (6, (.idiv, 1)), (7, (.bipush 10, 2)), (9, (.irem, 1)), (10, (.istore_n 2, 1)), (11, (.iload_n 0, 1)), (12, (.getstatic 30, 3)), (15, (.iload_n 1, 1)), (16, (.iconst 1, 1)), (17, (.iadd, 1)), (18, (.iaload, 1)), (19, (.idiv, 1)), (20, (.bipush 10, 2)), (22, (.irem, 1)), (23, (.istore_n 3, 1)), (24, (.iload_n 0, 1)), (25, (.iload_n 2, 1)), (26, (.iload_n 3, 1)), (27, (.isub, 1)), (28, (.getstatic 30, 3)), (31, (.iload_n 1, 1)), (32, (.iconst 1, 1)), (33, (.iadd, 1)), (34, (.iaload, 1)), (35, (.getstatic 30, 3)), (38, (.iload_n 1, 1)), (39, (.iaload, 1)), (40, (.isub, 1)), (41, (.imul, 1)), (42, (.iadd, 1)), (43, (.ireturn, 1))]
set_option maxRecDepth 100000 in
theorem dt_X7_changedAbout : (tb_X7_changedAbout.all fun q => decide (decode cX7_changedAbout q.1 = .ok q.2)) = true := by decide +kernel
set_option maxRecDepth 100000 in
set_option maxHeartbeats 4000000 in
theorem ok_F7_changedAbout {m : Mem}  {v0 v1 : Int} (q0 : inR v0) (q1 : inR v1) {out : Int} (h : F7_changedAbout v0 v1 = some out) : CT l G cy ad tt yX7_changedAbout cX7_changedAbout 4 (some .int) 0 [iv v0, iv v1] m (some (iv out)) (inR out) m := by
  refine CT_of (by decide) (Nat.le_of_ble_eq_true rfl) (fun Go hR hT => ?_)
  replace hR : RS l G cy ad tt RX7 cX7_changedAbout 4 0 Go := hR
  show Go 0 [some (iv v0), some (iv v1), none, none] [] m
  unfold F7_changedAbout at h
  refine r_iload_n (pc := 0) hR (dc dt_X7_changedAbout 0 rfl) rfl ?_
  refine r_gets (pc := 1) hR (dc dt_X7_changedAbout 1 rfl) sl_X7_30 ?_
  refine r_iload_n (pc := 4) hR (dc dt_X7_changedAbout 2 rfl) rfl ?_
  obtain ⟨g1, h⟩ := gd_some h
  refine r_tald (pc := 5) hR (dc dt_X7_changedAbout 3 rfl) st_0 g1 q1 ?_
  show Go 6 [some (iv v0), some (iv v1), none, none] [iv (stv 0 v1), iv v0] m
  obtain ⟨g1, h⟩ := gd_some h
  refine r_idiv (pc := 6) hR (dc dt_X7_changedAbout 4 rfl) g1 (stv_in _ _) ?_
  refine r_bipush (pc := 7) hR (dc dt_X7_changedAbout 5 rfl) (by decide) ?_
  refine r_irem (pc := 9) hR (dc dt_X7_changedAbout 6 rfl) (by decide) (rg_c rfl) ?_
  refine r_istore_n (pc := 10) (L' := [some (iv v0), some (iv v1), some (iv (irm (idv v0 (stv 0 v1)) 10)), none]) hR (dc dt_X7_changedAbout 7 rfl) (by decide) rfl rfl ?_
  refine r_iload_n (pc := 11) hR (dc dt_X7_changedAbout 8 rfl) rfl ?_
  refine r_gets (pc := 12) hR (dc dt_X7_changedAbout 9 rfl) sl_X7_30 ?_
  refine r_iload_n (pc := 15) hR (dc dt_X7_changedAbout 10 rfl) rfl ?_
  refine r_iconst (pc := 16) hR (dc dt_X7_changedAbout 11 rfl) ?_
  refine r_iadd (pc := 17) hR (dc dt_X7_changedAbout 12 rfl) ?_
  obtain ⟨g1, h⟩ := gd_some h
  refine r_tald (pc := 18) hR (dc dt_X7_changedAbout 13 rfl) st_0 g1 (w32_in _) ?_
  show Go 19 [some (iv v0), some (iv v1), some (iv (irm (idv v0 (stv 0 v1)) 10)), none] [iv (stv 0 (w32 (v1 + 1))), iv v0] m
  obtain ⟨g1, h⟩ := gd_some h
  refine r_idiv (pc := 19) hR (dc dt_X7_changedAbout 14 rfl) g1 (stv_in _ _) ?_
  refine r_bipush (pc := 20) hR (dc dt_X7_changedAbout 15 rfl) (by decide) ?_
  refine r_irem (pc := 22) hR (dc dt_X7_changedAbout 16 rfl) (by decide) (rg_c rfl) ?_
  refine r_istore_n (pc := 23) (L' := [some (iv v0), some (iv v1), some (iv (irm (idv v0 (stv 0 v1)) 10)), some (iv (irm (idv v0 (stv 0 (w32 (v1 + 1)))) 10))]) hR (dc dt_X7_changedAbout 17 rfl) (by decide) rfl rfl ?_
  refine r_iload_n (pc := 24) hR (dc dt_X7_changedAbout 18 rfl) rfl ?_
  refine r_iload_n (pc := 25) hR (dc dt_X7_changedAbout 19 rfl) rfl ?_
  refine r_iload_n (pc := 26) hR (dc dt_X7_changedAbout 20 rfl) rfl ?_
  refine r_isub (pc := 27) hR (dc dt_X7_changedAbout 21 rfl) ?_
  refine r_gets (pc := 28) hR (dc dt_X7_changedAbout 22 rfl) sl_X7_30 ?_
  refine r_iload_n (pc := 31) hR (dc dt_X7_changedAbout 23 rfl) rfl ?_
  refine r_iconst (pc := 32) hR (dc dt_X7_changedAbout 24 rfl) ?_
  refine r_iadd (pc := 33) hR (dc dt_X7_changedAbout 25 rfl) ?_
  obtain ⟨g1, h⟩ := gd_some h
  refine r_tald (pc := 34) hR (dc dt_X7_changedAbout 26 rfl) st_0 g1 (w32_in _) ?_
  show Go 35 [some (iv v0), some (iv v1), some (iv (irm (idv v0 (stv 0 v1)) 10)), some (iv (irm (idv v0 (stv 0 (w32 (v1 + 1)))) 10))] [iv (stv 0 (w32 (v1 + 1))), iv (w32 ((irm (idv v0 (stv 0 v1)) 10) - (irm (idv v0 (stv 0 (w32 (v1 + 1)))) 10))), iv v0] m
  refine r_gets (pc := 35) hR (dc dt_X7_changedAbout 27 rfl) sl_X7_30 ?_
  refine r_iload_n (pc := 38) hR (dc dt_X7_changedAbout 28 rfl) rfl ?_
  obtain ⟨g1, h⟩ := gd_some h
  refine r_tald (pc := 39) hR (dc dt_X7_changedAbout 29 rfl) st_0 g1 q1 ?_
  show Go 40 [some (iv v0), some (iv v1), some (iv (irm (idv v0 (stv 0 v1)) 10)), some (iv (irm (idv v0 (stv 0 (w32 (v1 + 1)))) 10))] [iv (stv 0 v1), iv (stv 0 (w32 (v1 + 1))), iv (w32 ((irm (idv v0 (stv 0 v1)) 10) - (irm (idv v0 (stv 0 (w32 (v1 + 1)))) 10))), iv v0] m
  refine r_isub (pc := 40) hR (dc dt_X7_changedAbout 30 rfl) ?_
  refine r_imul (pc := 41) hR (dc dt_X7_changedAbout 31 rfl) ?_
  refine r_iadd (pc := 42) hR (dc dt_X7_changedAbout 32 rfl) ?_
  exact r_iret hT (dc dt_X7_changedAbout 33 rfl) (Option.some.inj h) rfl (w32_in _)
def tb_X7_misread : List (Nat × (Instr × Nat)) := [(0, (.iload_n 0, 1)), (1, (.getstatic 30, 3)), (4, (.iload_n 1, 1)), (5, (.iaload, 1)), (6, (.idiv, 1)), (7, (.bipush 10, 2)), (9, (.irem, 1)), (10, (.istore_n 3, 1)), (11, (.iload_n 2, 1)), (12, (.ifCond .ne 11, 3)), (15, (.getstatic 47, 3)), (18, (.iload_n 3, 1)), (19, (.iaload, 1)), (20, (.goto 8, 3)), (23, (.getstatic 50, 3)), (26, (.iload_n 3, 1)), (27, (.iaload, 1)), (28, (.istore 4, 2)), (30, (.iload 4, 2)), (32, (.ifCond .ge 7, 3)), (35, (.iconst (-1), 1)), (36, (.goto 15, 3)), (39, (.iload_n 0, 1)), (40, (.iload 4, 2)), (42, (.iload_n 3, 1)), (43, (.isub, 1)), (44, (.getstatic 30, 3)), (47, (.iload_n 1, 1)), (48, (.iaload, 1)), (49, (.imul, 1)), (50, (.iadd, 1)), (51, (.ireturn, 1))]
set_option maxRecDepth 100000 in
theorem dt_X7_misread : (tb_X7_misread.all fun q => decide (decode cX7_misread q.1 = .ok q.2)) = true := by decide +kernel
set_option maxRecDepth 100000 in
set_option maxHeartbeats 4000000 in
theorem ok_F7_misread {m : Mem}  {v0 v1 v2 : Int} (q0 : inR v0) (q1 : inR v1) (q2 : inR v2) {out : Int} (h : F7_misread v0 v1 v2 = some out) : CT l G cy ad tt yX7_misread cX7_misread 5 (some .int) 0 [iv v0, iv v1, iv v2] m (some (iv out)) (inR out) m := by
  refine CT_of (by decide) (Nat.le_of_ble_eq_true rfl) (fun Go hR hT => ?_)
  replace hR : RS l G cy ad tt RX7 cX7_misread 5 0 Go := hR
  show Go 0 [some (iv v0), some (iv v1), some (iv v2), none, none] [] m
  unfold F7_misread at h
  refine r_iload_n (pc := 0) hR (dc dt_X7_misread 0 rfl) rfl ?_
  refine r_gets (pc := 1) hR (dc dt_X7_misread 1 rfl) sl_X7_30 ?_
  refine r_iload_n (pc := 4) hR (dc dt_X7_misread 2 rfl) rfl ?_
  obtain ⟨g1, h⟩ := gd_some h
  refine r_tald (pc := 5) hR (dc dt_X7_misread 3 rfl) st_0 g1 q1 ?_
  show Go 6 [some (iv v0), some (iv v1), some (iv v2), none, none] [iv (stv 0 v1), iv v0] m
  obtain ⟨g1, h⟩ := gd_some h
  refine r_idiv (pc := 6) hR (dc dt_X7_misread 4 rfl) g1 (stv_in _ _) ?_
  refine r_bipush (pc := 7) hR (dc dt_X7_misread 5 rfl) (by decide) ?_
  refine r_irem (pc := 9) hR (dc dt_X7_misread 6 rfl) (by decide) (rg_c rfl) ?_
  refine r_istore_n (pc := 10) (L' := [some (iv v0), some (iv v1), some (iv v2), some (iv (irm (idv v0 (stv 0 v1)) 10)), none]) hR (dc dt_X7_misread 7 rfl) (by decide) rfl rfl ?_
  refine r_iload_n (pc := 11) hR (dc dt_X7_misread 8 rfl) rfl ?_
  refine jn_e h (fun (K : Int → Option Int) => ∀ (x28 : Int), inR x28 → K x28 = some out → Go 28 [some (iv v0), some (iv v1), none, some (iv (irm (idv v0 (stv 0 v1)) 10)), none] [iv x28] m) (fun x28 qx28 h => ?_) (fun K28 J28 h => ?_)
  · refine r_istore (pc := 28) (L' := [some (iv v0), some (iv v1), none, some (iv (irm (idv v0 (stv 0 v1)) 10)), some (iv x28)]) hR (dc dt_X7_misread 17 rfl) (by decide) rfl rfl ?_
    refine r_iload (pc := 30) hR (dc dt_X7_misread 18 rfl) rfl ?_
    refine r_if_ge (pc := 32) (tgt := 39) hR (dc dt_X7_misread 19 rfl) (by decide) qx28 (fun hc => ?_) (fun hc => ?_)
    · replace h := ite_t hc h
      refine r_iload_n (pc := 39) hR (dc dt_X7_misread 22 rfl) rfl ?_
      refine r_iload (pc := 40) hR (dc dt_X7_misread 23 rfl) rfl ?_
      refine r_iload_n (pc := 42) hR (dc dt_X7_misread 24 rfl) rfl ?_
      refine r_isub (pc := 43) hR (dc dt_X7_misread 25 rfl) ?_
      refine r_gets (pc := 44) hR (dc dt_X7_misread 26 rfl) sl_X7_30 ?_
      refine r_iload_n (pc := 47) hR (dc dt_X7_misread 27 rfl) rfl ?_
      obtain ⟨g1, h⟩ := gd_some h
      refine r_tald (pc := 48) hR (dc dt_X7_misread 28 rfl) st_0 g1 q1 ?_
      show Go 49 [some (iv v0), some (iv v1), none, some (iv (irm (idv v0 (stv 0 v1)) 10)), some (iv x28)] [iv (stv 0 v1), iv (w32 (x28 - (irm (idv v0 (stv 0 v1)) 10))), iv v0] m
      refine r_imul (pc := 49) hR (dc dt_X7_misread 29 rfl) ?_
      refine r_iadd (pc := 50) hR (dc dt_X7_misread 30 rfl) ?_
      exact r_iret hT (dc dt_X7_misread 31 rfl) (Option.some.inj h) rfl (w32_in _)
    replace h := ite_f hc h
    refine r_iconst (pc := 35) hR (dc dt_X7_misread 20 rfl) ?_
    refine r_goto (pc := 36) (tgt := 51) hR (dc dt_X7_misread 21 rfl) (by decide) ?_
    exact r_iret hT (dc dt_X7_misread 31 rfl) (Option.some.inj h) rfl (rg_c rfl)
  refine r_if_ne (pc := 12) (tgt := 23) hR (dc dt_X7_misread 9 rfl) (by decide) q2 (fun hc => ?_) (fun hc => ?_)
  · replace h := ite_t hc h
    refine r_gets (pc := 23) hR (dc dt_X7_misread 14 rfl) sl_X7_50 ?_
    refine r_iload_n (pc := 26) hR (dc dt_X7_misread 15 rfl) rfl ?_
    obtain ⟨g1, h⟩ := gd_some h
    refine r_tald (pc := 27) hR (dc dt_X7_misread 16 rfl) st_2 g1 (ti_in _) ?_
    show Go 28 [some (iv v0), some (iv v1), some (iv v2), some (iv (irm (idv v0 (stv 0 v1)) 10)), none] [iv (stv 2 (irm (idv v0 (stv 0 v1)) 10))] m
    refine r_weak (L' := [some (iv v0), some (iv v1), none, some (iv (irm (idv v0 (stv 0 v1)) 10)), none]) hR ⟨Or.inr rfl, Or.inr rfl, Or.inl rfl, Or.inr rfl, Or.inr rfl, trivial⟩ ?_
    exact J28 (stv 2 (irm (idv v0 (stv 0 v1)) 10)) (stv_in _ _) h
  replace h := ite_f hc h
  refine r_gets (pc := 15) hR (dc dt_X7_misread 10 rfl) sl_X7_47 ?_
  refine r_iload_n (pc := 18) hR (dc dt_X7_misread 11 rfl) rfl ?_
  obtain ⟨g1, h⟩ := gd_some h
  refine r_tald (pc := 19) hR (dc dt_X7_misread 12 rfl) st_1 g1 (ti_in _) ?_
  show Go 20 [some (iv v0), some (iv v1), some (iv v2), some (iv (irm (idv v0 (stv 0 v1)) 10)), none] [iv (stv 1 (irm (idv v0 (stv 0 v1)) 10))] m
  refine r_goto (pc := 20) (tgt := 28) hR (dc dt_X7_misread 13 rfl) (by decide) ?_
  refine r_weak (L' := [some (iv v0), some (iv v1), none, some (iv (irm (idv v0 (stv 0 v1)) 10)), none]) hR ⟨Or.inr rfl, Or.inr rfl, Or.inl rfl, Or.inr rfl, Or.inr rfl, trivial⟩ ?_
  exact J28 (stv 1 (irm (idv v0 (stv 0 v1)) 10)) (stv_in _ _) h
def tb_X7_grown : List (Nat × (Instr × Nat)) := [(0, (.iload_n 0, 1)), (1, (.invokestatic 27, 3)), (4, (.istore_n 2, 1)), (5, (.iload_n 1, 1)), (6, (.invokestatic 16, 3)), (9, (.tableswitch 116 1 3 #[27, 66, 91], 27)), (36, (.iload_n 1, 1)), (37, (.iload_n 2, 1)), (38, (.if_icmp .ge 35, 3)), (41, (.iload_n 0, 1)), (42, (.getstatic 30, 3)), (45, (.iload_n 1, 1)), (46, (.iconst 1, 1)), (47, (.iadd, 1)), (48, (.iaload, 1)), (49, (.idiv, 1)), (50, (.getstatic 30, 3)), (53, (.iload_n 1, 1)), (54, (.iaload, 1)), (55, (.imul, 1)), (56, (.iload_n 0, 1)), (57, (.getstatic 30, 3)), (60, (.iload_n 1, 1)), (61, (.iaload, 1)), (62, (.irem, 1)), (63, (.iadd, 1)), (64, (.iload_n 2, 1)), (65, (.iconst 1, 1)), (66, (.isub, 1)), (67, (.invokestatic 34, 3)), (70, (.goto 4, 3)), (73, (.iconst (-1), 1)), (74, (.ireturn, 1)), (75, (.iload_n 1, 1)), (76, (.iconst 5, 1)), (77, (.isub, 1)), (78, (.iload_n 2, 1)), (79, (.if_icmp .ge 19, 3)), (82, (.iload_n 0, 1)), (83, (.iload_n 1, 1)), (84, (.iconst 5, 1)), (85, (.isub, 1)), (86, (.invokestatic 37, 3)), (89, (.iload_n 2, 1)), (90, (.iconst 1, 1)), (91, (.iadd, 1)), (92, (.invokestatic 34, 3)), (95, (.goto 4, 3)), (98, (.iconst (-1), 1)), (99, (.ireturn, 1)), (100, (.iload_n 1, 1)), (101, (.bipush 9, 2)), (103, (.isub, 1)), (104, (.iload_n 2, 1)), (105, (.if_icmp .ge 18, 3)), (108, (.iload_n 0, 1)), (109, (.iload_n 1, 1)), (110, (.bipush 10, 2)), (112, (.isub, 1)), (113, (.invokestatic 40, 3)), (116, (.iload_n 2, 1)), (117, (.invokestatic 34, 3)), (120, (.goto 4, 3)), (123, (.iconst (-1), 1)), (124, (.ireturn, 1)), (125, (.iload_n 1, 1)), (126, (.bipush 14, 2)), (128, (.isub, 1)), (129, (.iconst 2, 1)), (130, (.idiv, 1)), (131, (.iload_n 2, 1)), (132, (.if_icmp .ge 23, 3)), (135, (.iload_n 0, 1)), (136, (.iload_n 1, 1)), (137, (.bipush 14, 2)), (139, (.isub, 1)), (140, (.iconst 2, 1)), (141, (.idiv, 1)), (142, (.iload_n 1, 1)), (143, (.iconst 2, 1)), (144, (.irem, 1)), (145, (.invokestatic 43, 3)), (148, (.iload_n 2, 1)), (149, (.invokestatic 34, 3)), (152, (.goto 4, 3)), (155, (.iconst (-1), 1)), (156, (.ireturn, 1))]
set_option maxRecDepth 100000 in
theorem dt_X7_grown : (tb_X7_grown.all fun q => decide (decode cX7_grown q.1 = .ok q.2)) = true := by decide +kernel
set_option maxRecDepth 100000 in
set_option maxHeartbeats 4000000 in
theorem ok_F7_grown {m : Mem}  {v0 v1 : Int} (q0 : inR v0) (q1 : inR v1) {out : Int} (h : F7_grown v0 v1 = some out) : CT l G cy ad tt yX7_grown cX7_grown 3 (some .int) 1 [iv v0, iv v1] m (some (iv out)) (inR out) m := by
  refine CT_of (by decide) (Nat.le_of_ble_eq_true rfl) (fun Go hR hT => ?_)
  replace hR : RS l G cy ad tt RX7 cX7_grown 3 1 Go := hR
  show Go 0 [some (iv v0), some (iv v1), none] [] m
  unfold F7_grown at h
  refine r_iload_n (pc := 0) hR (dc dt_X7_grown 0 rfl) rfl ?_
  obtain ⟨r1, e1, h⟩ := b1_some h
  refine r_callS (pc := 1) (rest := []) hR (dc dt_X7_grown 1 rfl) cl_X7_27 (ok_F7_length q0 e1) (by decide) rfl (Nat.le_of_ble_eq_true rfl) rfl (fun q1r => ?_)
  show Go 4 [some (iv v0), some (iv v1), none] [iv r1] m
  refine r_istore_n (pc := 4) (L' := [some (iv v0), some (iv v1), some (iv r1)]) hR (dc dt_X7_grown 2 rfl) (by decide) rfl rfl ?_
  refine r_iload_n (pc := 5) hR (dc dt_X7_grown 3 rfl) rfl ?_
  refine r_callS (pc := 6) (rest := []) hR (dc dt_X7_grown 4 rfl) cl_X7_16 (ok_F7_kindOf q1) (by decide) rfl (Nat.le_of_ble_eq_true rfl) rfl (fun q6r => ?_)
  show Go 9 [some (iv v0), some (iv v1), some (iv r1)] [iv (F7_kindOf v1)] m
  show Go 9 [some (iv v0), some (iv v1), some (iv r1)] [iv (F7_kindOf v1)] m
  by_cases hc1 : F7_kindOf v1 = 1
  · replace h := ite_t hc1 h
    refine r_tabIn (pc := 9) (tgt := 36) hR (dc dt_X7_grown 5 rfl) q6r (by omega) (by omega) (by rw [hc1]; rfl) (by decide) ?_
    refine r_iload_n (pc := 36) hR (dc dt_X7_grown 6 rfl) rfl ?_
    refine r_iload_n (pc := 37) hR (dc dt_X7_grown 7 rfl) rfl ?_
    refine r_icmp_ge (pc := 38) (tgt := 73) hR (dc dt_X7_grown 8 rfl) (by decide) q1 q1r (fun hc => ?_) (fun hc => ?_)
    · replace h := ite_t hc h
      refine r_iconst (pc := 73) hR (dc dt_X7_grown 31 rfl) ?_
      exact r_iret hT (dc dt_X7_grown 32 rfl) (Option.some.inj h) rfl (rg_c rfl)
    replace h := ite_f hc h
    refine r_iload_n (pc := 41) hR (dc dt_X7_grown 9 rfl) rfl ?_
    refine r_gets (pc := 42) hR (dc dt_X7_grown 10 rfl) sl_X7_30 ?_
    refine r_iload_n (pc := 45) hR (dc dt_X7_grown 11 rfl) rfl ?_
    refine r_iconst (pc := 46) hR (dc dt_X7_grown 12 rfl) ?_
    refine r_iadd (pc := 47) hR (dc dt_X7_grown 13 rfl) ?_
    obtain ⟨g1, h⟩ := gd_some h
    refine r_tald (pc := 48) hR (dc dt_X7_grown 14 rfl) st_0 g1 (w32_in _) ?_
    show Go 49 [some (iv v0), some (iv v1), some (iv r1)] [iv (stv 0 (w32 (v1 + 1))), iv v0] m
    obtain ⟨g1, h⟩ := gd_some h
    refine r_idiv (pc := 49) hR (dc dt_X7_grown 15 rfl) g1 (stv_in _ _) ?_
    refine r_gets (pc := 50) hR (dc dt_X7_grown 16 rfl) sl_X7_30 ?_
    refine r_iload_n (pc := 53) hR (dc dt_X7_grown 17 rfl) rfl ?_
    obtain ⟨g1, h⟩ := gd_some h
    refine r_tald (pc := 54) hR (dc dt_X7_grown 18 rfl) st_0 g1 q1 ?_
    show Go 55 [some (iv v0), some (iv v1), some (iv r1)] [iv (stv 0 v1), iv (idv v0 (stv 0 (w32 (v1 + 1))))] m
    refine r_imul (pc := 55) hR (dc dt_X7_grown 19 rfl) ?_
    refine r_iload_n (pc := 56) hR (dc dt_X7_grown 20 rfl) rfl ?_
    refine r_gets (pc := 57) hR (dc dt_X7_grown 21 rfl) sl_X7_30 ?_
    refine r_iload_n (pc := 60) hR (dc dt_X7_grown 22 rfl) rfl ?_
    obtain ⟨g1, h⟩ := gd_some h
    refine r_tald (pc := 61) hR (dc dt_X7_grown 23 rfl) st_0 g1 q1 ?_
    show Go 62 [some (iv v0), some (iv v1), some (iv r1)] [iv (stv 0 v1), iv v0, iv (w32 ((idv v0 (stv 0 (w32 (v1 + 1)))) * (stv 0 v1)))] m
    obtain ⟨g1, h⟩ := gd_some h
    refine r_irem (pc := 62) hR (dc dt_X7_grown 24 rfl) g1 (stv_in _ _) ?_
    refine r_iadd (pc := 63) hR (dc dt_X7_grown 25 rfl) ?_
    refine r_iload_n (pc := 64) hR (dc dt_X7_grown 26 rfl) rfl ?_
    refine r_iconst (pc := 65) hR (dc dt_X7_grown 27 rfl) ?_
    refine r_isub (pc := 66) hR (dc dt_X7_grown 28 rfl) ?_
    obtain ⟨r67, e67, h⟩ := b1_some h
    refine r_callS (pc := 67) (rest := []) hR (dc dt_X7_grown 29 rfl) cl_X7_34 (ok_F7_written (w32_in _) (w32_in _) e67) (by decide) rfl (Nat.le_of_ble_eq_true rfl) rfl (fun q67r => ?_)
    show Go 70 [some (iv v0), some (iv v1), some (iv r1)] [iv r67] m
    refine r_goto (pc := 70) (tgt := 74) hR (dc dt_X7_grown 30 rfl) (by decide) ?_
    exact r_iret hT (dc dt_X7_grown 32 rfl) (Option.some.inj h) rfl q67r
  replace h := ite_f hc1 h
  by_cases hc2 : F7_kindOf v1 = 2
  · replace h := ite_t hc2 h
    refine r_tabIn (pc := 9) (tgt := 75) hR (dc dt_X7_grown 5 rfl) q6r (by omega) (by omega) (by rw [hc2]; rfl) (by decide) ?_
    refine r_iload_n (pc := 75) hR (dc dt_X7_grown 33 rfl) rfl ?_
    refine r_iconst (pc := 76) hR (dc dt_X7_grown 34 rfl) ?_
    refine r_isub (pc := 77) hR (dc dt_X7_grown 35 rfl) ?_
    refine r_iload_n (pc := 78) hR (dc dt_X7_grown 36 rfl) rfl ?_
    refine r_icmp_ge (pc := 79) (tgt := 98) hR (dc dt_X7_grown 37 rfl) (by decide) (w32_in _) q1r (fun hc => ?_) (fun hc => ?_)
    · replace h := ite_t hc h
      refine r_iconst (pc := 98) hR (dc dt_X7_grown 48 rfl) ?_
      exact r_iret hT (dc dt_X7_grown 49 rfl) (Option.some.inj h) rfl (rg_c rfl)
    replace h := ite_f hc h
    refine r_iload_n (pc := 82) hR (dc dt_X7_grown 38 rfl) rfl ?_
    refine r_iload_n (pc := 83) hR (dc dt_X7_grown 39 rfl) rfl ?_
    refine r_iconst (pc := 84) hR (dc dt_X7_grown 40 rfl) ?_
    refine r_isub (pc := 85) hR (dc dt_X7_grown 41 rfl) ?_
    obtain ⟨r86, e86, h⟩ := b1_some h
    refine r_callS (pc := 86) (rest := []) hR (dc dt_X7_grown 42 rfl) cl_X7_37 (ok_F7_twice q0 (w32_in _) e86) (by decide) rfl (Nat.le_of_ble_eq_true rfl) rfl (fun q86r => ?_)
    show Go 89 [some (iv v0), some (iv v1), some (iv r1)] [iv r86] m
    refine r_iload_n (pc := 89) hR (dc dt_X7_grown 43 rfl) rfl ?_
    refine r_iconst (pc := 90) hR (dc dt_X7_grown 44 rfl) ?_
    refine r_iadd (pc := 91) hR (dc dt_X7_grown 45 rfl) ?_
    obtain ⟨r92, e92, h⟩ := b1_some h
    refine r_callS (pc := 92) (rest := []) hR (dc dt_X7_grown 46 rfl) cl_X7_34 (ok_F7_written q86r (w32_in _) e92) (by decide) rfl (Nat.le_of_ble_eq_true rfl) rfl (fun q92r => ?_)
    show Go 95 [some (iv v0), some (iv v1), some (iv r1)] [iv r92] m
    refine r_goto (pc := 95) (tgt := 99) hR (dc dt_X7_grown 47 rfl) (by decide) ?_
    exact r_iret hT (dc dt_X7_grown 49 rfl) (Option.some.inj h) rfl q92r
  replace h := ite_f hc2 h
  by_cases hc3 : F7_kindOf v1 = 3
  · replace h := ite_t hc3 h
    refine r_tabIn (pc := 9) (tgt := 100) hR (dc dt_X7_grown 5 rfl) q6r (by omega) (by omega) (by rw [hc3]; rfl) (by decide) ?_
    refine r_iload_n (pc := 100) hR (dc dt_X7_grown 50 rfl) rfl ?_
    refine r_bipush (pc := 101) hR (dc dt_X7_grown 51 rfl) (by decide) ?_
    refine r_isub (pc := 103) hR (dc dt_X7_grown 52 rfl) ?_
    refine r_iload_n (pc := 104) hR (dc dt_X7_grown 53 rfl) rfl ?_
    refine r_icmp_ge (pc := 105) (tgt := 123) hR (dc dt_X7_grown 54 rfl) (by decide) (w32_in _) q1r (fun hc => ?_) (fun hc => ?_)
    · replace h := ite_t hc h
      refine r_iconst (pc := 123) hR (dc dt_X7_grown 63 rfl) ?_
      exact r_iret hT (dc dt_X7_grown 64 rfl) (Option.some.inj h) rfl (rg_c rfl)
    replace h := ite_f hc h
    refine r_iload_n (pc := 108) hR (dc dt_X7_grown 55 rfl) rfl ?_
    refine r_iload_n (pc := 109) hR (dc dt_X7_grown 56 rfl) rfl ?_
    refine r_bipush (pc := 110) hR (dc dt_X7_grown 57 rfl) (by decide) ?_
    refine r_isub (pc := 112) hR (dc dt_X7_grown 58 rfl) ?_
    obtain ⟨r113, e113, h⟩ := b1_some h
    refine r_callS (pc := 113) (rest := []) hR (dc dt_X7_grown 59 rfl) cl_X7_40 (ok_F7_changedAbout q0 (w32_in _) e113) (by decide) rfl (Nat.le_of_ble_eq_true rfl) rfl (fun q113r => ?_)
    show Go 116 [some (iv v0), some (iv v1), some (iv r1)] [iv r113] m
    refine r_iload_n (pc := 116) hR (dc dt_X7_grown 60 rfl) rfl ?_
    obtain ⟨r117, e117, h⟩ := b1_some h
    refine r_callS (pc := 117) (rest := []) hR (dc dt_X7_grown 61 rfl) cl_X7_34 (ok_F7_written q113r q1r e117) (by decide) rfl (Nat.le_of_ble_eq_true rfl) rfl (fun q117r => ?_)
    show Go 120 [some (iv v0), some (iv v1), some (iv r1)] [iv r117] m
    refine r_goto (pc := 120) (tgt := 124) hR (dc dt_X7_grown 62 rfl) (by decide) ?_
    exact r_iret hT (dc dt_X7_grown 64 rfl) (Option.some.inj h) rfl q117r
  replace h := ite_f hc3 h
  refine r_tabOut (pc := 9) (tgt := 125) hR (dc dt_X7_grown 5 rfl) q6r (by omega) (by decide) ?_
  refine r_iload_n (pc := 125) hR (dc dt_X7_grown 65 rfl) rfl ?_
  refine r_bipush (pc := 126) hR (dc dt_X7_grown 66 rfl) (by decide) ?_
  refine r_isub (pc := 128) hR (dc dt_X7_grown 67 rfl) ?_
  refine r_iconst (pc := 129) hR (dc dt_X7_grown 68 rfl) ?_
  refine r_idiv (pc := 130) hR (dc dt_X7_grown 69 rfl) (by decide) (rg_c rfl) ?_
  refine r_iload_n (pc := 131) hR (dc dt_X7_grown 70 rfl) rfl ?_
  refine r_icmp_ge (pc := 132) (tgt := 155) hR (dc dt_X7_grown 71 rfl) (by decide) (ti_in _) q1r (fun hc => ?_) (fun hc => ?_)
  · replace h := ite_t hc h
    refine r_iconst (pc := 155) hR (dc dt_X7_grown 85 rfl) ?_
    exact r_iret hT (dc dt_X7_grown 86 rfl) (Option.some.inj h) rfl (rg_c rfl)
  replace h := ite_f hc h
  refine r_iload_n (pc := 135) hR (dc dt_X7_grown 72 rfl) rfl ?_
  refine r_iload_n (pc := 136) hR (dc dt_X7_grown 73 rfl) rfl ?_
  refine r_bipush (pc := 137) hR (dc dt_X7_grown 74 rfl) (by decide) ?_
  refine r_isub (pc := 139) hR (dc dt_X7_grown 75 rfl) ?_
  refine r_iconst (pc := 140) hR (dc dt_X7_grown 76 rfl) ?_
  refine r_idiv (pc := 141) hR (dc dt_X7_grown 77 rfl) (by decide) (rg_c rfl) ?_
  refine r_iload_n (pc := 142) hR (dc dt_X7_grown 78 rfl) rfl ?_
  refine r_iconst (pc := 143) hR (dc dt_X7_grown 79 rfl) ?_
  refine r_irem (pc := 144) hR (dc dt_X7_grown 80 rfl) (by decide) (rg_c rfl) ?_
  obtain ⟨r145, e145, h⟩ := b1_some h
  refine r_callS (pc := 145) (rest := []) hR (dc dt_X7_grown 81 rfl) cl_X7_43 (ok_F7_misread q0 (ti_in _) (ti_in _) e145) (by decide) rfl (Nat.le_of_ble_eq_true rfl) rfl (fun q145r => ?_)
  show Go 148 [some (iv v0), some (iv v1), some (iv r1)] [iv r145] m
  refine r_iload_n (pc := 148) hR (dc dt_X7_grown 82 rfl) rfl ?_
  obtain ⟨r149, e149, h⟩ := b1_some h
  refine r_callS (pc := 149) (rest := []) hR (dc dt_X7_grown 83 rfl) cl_X7_34 (ok_F7_written q145r q1r e149) (by decide) rfl (Nat.le_of_ble_eq_true rfl) rfl (fun q149r => ?_)
  show Go 152 [some (iv v0), some (iv v1), some (iv r1)] [iv r149] m
  refine r_goto (pc := 152) (tgt := 156) hR (dc dt_X7_grown 84 rfl) (by decide) ?_
  exact r_iret hT (dc dt_X7_grown 86 rfl) (Option.some.inj h) rfl q149r
def tb_X7_kind : List (Nat × (Instr × Nat)) := [(0, (.iload_n 0, 1)), (1, (.iload_n 1, 1)), (2, (.if_icmp .ne 5, 3)), (5, (.iconst 0, 1)), (6, (.ireturn, 1)), (7, (.iconst 0, 1)), (8, (.istore_n 2, 1)), (9, (.iload_n 2, 1)), (10, (.bipush 24, 2)), (12, (.if_icmp .ge 23, 3)), (15, (.iload_n 0, 1)), (16, (.iload_n 2, 1)), (17, (.invokestatic 12, 3)), (20, (.iload_n 1, 1)), (21, (.if_icmp .ne 8, 3)), (24, (.iload_n 2, 1)), (25, (.invokestatic 16, 3)), (28, (.ireturn, 1)), (29, (.iinc 2 1, 3)), (32, (.goto (-23), 3)), (35, (.bipush (-2), 2)), (37, (.ireturn, 1))]
set_option maxRecDepth 100000 in
theorem dt_X7_kind : (tb_X7_kind.all fun q => decide (decode cX7_kind q.1 = .ok q.2)) = true := by decide +kernel
set_option maxRecDepth 100000 in
set_option maxHeartbeats 4000000 in
theorem lp_L7_kind_9 {Go : Nat → List (Option Value) → List Value → Mem → Prop} (hR : RS l G cy ad tt RX7 cX7_kind 3 2 Go) {out : Int} {m : Mem} (hT : RT cX7_kind (some (iv out)) (inR out) m (some .int) Go) {v0 : Int} {v1 : Int} (qv0 : inR v0) (qv1 : inR v1) {k24 : Int → Option Int} (hk24 : ∀ (v2 : Int), inR v2 → k24 v2 = some out → Go 24 [none, none, some (iv v2)] [] m) : ∀ (n : Nat) (v2 : Int), inR v2 → L7_kind_9 v0 v1 k24 n v2 = some out → Go 9 [some (iv v0), some (iv v1), some (iv v2)] [] m := by
  intro n
  induction n with
  | zero =>
    intro v2 qv2 h
    cases h
  | succ n ih =>
    intro v2 qv2 h
    rw [L7_kind_9] at h
    refine r_iload_n (pc := 9) hR (dc dt_X7_kind 7 rfl) rfl ?_
    refine r_bipush (pc := 10) hR (dc dt_X7_kind 8 rfl) (by decide) ?_
    refine r_icmp_ge (pc := 12) (tgt := 35) hR (dc dt_X7_kind 9 rfl) (by decide) qv2 (rg_c rfl) (fun hc => ?_) (fun hc => ?_)
    · replace h := ite_t hc h
      refine r_bipush (pc := 35) hR (dc dt_X7_kind 20 rfl) (by decide) ?_
      exact r_iret hT (dc dt_X7_kind 21 rfl) (Option.some.inj h) rfl (rg_c rfl)
    replace h := ite_f hc h
    refine r_iload_n (pc := 15) hR (dc dt_X7_kind 10 rfl) rfl ?_
    refine r_iload_n (pc := 16) hR (dc dt_X7_kind 11 rfl) rfl ?_
    obtain ⟨r17, e17, h⟩ := b1_some h
    refine r_callS (pc := 17) (rest := []) hR (dc dt_X7_kind 12 rfl) cl_X7_12 (ok_F7_grown qv0 qv2 e17) (by decide) rfl (Nat.le_of_ble_eq_true rfl) rfl (fun q17r => ?_)
    show Go 20 [some (iv v0), some (iv v1), some (iv v2)] [iv r17] m
    refine r_iload_n (pc := 20) hR (dc dt_X7_kind 13 rfl) rfl ?_
    refine r_icmp_ne (pc := 21) (tgt := 29) hR (dc dt_X7_kind 14 rfl) (by decide) q17r qv1 (fun hc => ?_) (fun hc => ?_)
    · replace h := ite_t hc h
      refine r_iinc (pc := 29) (L' := [some (iv v0), some (iv v1), some (iv (w32 (v2 + 1)))]) hR (dc dt_X7_kind 18 rfl) rfl (by decide) rfl rfl ?_
      refine r_goto (pc := 32) (tgt := 9) hR (dc dt_X7_kind 19 rfl) (by decide) ?_
      exact ih (w32 (v2 + 1)) (w32_in _) h
    replace h := ite_f hc h
    refine r_weak (L' := [none, none, some (iv v2)]) hR ⟨Or.inl rfl, Or.inl rfl, Or.inr rfl, trivial⟩ ?_
    exact hk24 v2 qv2 h
set_option maxRecDepth 100000 in
set_option maxHeartbeats 4000000 in
theorem ok_F7_kind {m : Mem}  {v0 v1 : Int} (q0 : inR v0) (q1 : inR v1) {out : Int} (h : F7_kind v0 v1 = some out) : CT l G cy ad tt yX7_kind cX7_kind 3 (some .int) 2 [iv v0, iv v1] m (some (iv out)) (inR out) m := by
  refine CT_of (by decide) (Nat.le_of_ble_eq_true rfl) (fun Go hR hT => ?_)
  replace hR : RS l G cy ad tt RX7 cX7_kind 3 2 Go := hR
  show Go 0 [some (iv v0), some (iv v1), none] [] m
  unfold F7_kind at h
  refine r_iload_n (pc := 0) hR (dc dt_X7_kind 0 rfl) rfl ?_
  refine r_iload_n (pc := 1) hR (dc dt_X7_kind 1 rfl) rfl ?_
  refine r_icmp_ne (pc := 2) (tgt := 7) hR (dc dt_X7_kind 2 rfl) (by decide) q0 q1 (fun hc => ?_) (fun hc => ?_)
  · replace h := ite_t hc h
    refine r_iconst (pc := 7) hR (dc dt_X7_kind 5 rfl) ?_
    refine r_istore_n (pc := 8) (L' := [some (iv v0), some (iv v1), some (iv 0)]) hR (dc dt_X7_kind 6 rfl) (by decide) rfl rfl ?_
    refine lp_L7_kind_9 hR hT q0 q1 (fun v2_24 qv2_24 h => ?_) FU 0 (rg_c rfl) h
    show Go 24 [none, none, some (iv v2_24)] [] m
    refine r_iload_n (pc := 24) hR (dc dt_X7_kind 15 rfl) rfl ?_
    refine r_callS (pc := 25) (rest := []) hR (dc dt_X7_kind 16 rfl) cl_X7_16 (ok_F7_kindOf qv2_24) (by decide) rfl (Nat.le_of_ble_eq_true rfl) rfl (fun q25r => ?_)
    show Go 28 [none, none, some (iv v2_24)] [iv (F7_kindOf v2_24)] m
    exact r_iret hT (dc dt_X7_kind 17 rfl) (Option.some.inj h) rfl q25r
  replace h := ite_f hc h
  refine r_iconst (pc := 5) hR (dc dt_X7_kind 3 rfl) ?_
  exact r_iret hT (dc dt_X7_kind 4 rfl) (Option.some.inj h) rfl (rg_c rfl)
def tb_X10_slip : List (Nat × (Instr × Nat)) := [(0, (.iload_n 1, 1)), (1, (.invokestatic 246, 3)), (4, (.ifCond .eq 10, 3)), (7, (.iload_n 2, 1)), (8, (.invokestatic 246, 3)), (11, (.ifCond .ne 7, 3)), (14, (.iconst (-1), 1)), (15, (.goto 8, 3)), (18, (.iload_n 1, 1)), (19, (.iload_n 2, 1)), (20, (.invokestatic 251, 3)), (23, (.ireturn, 1))]
set_option maxRecDepth 100000 in
theorem dt_X10_slip : (tb_X10_slip.all fun q => decide (decode cX10_slip q.1 = .ok q.2)) = true := by decide +kernel
set_option maxRecDepth 100000 in
set_option maxHeartbeats 4000000 in
theorem ok_F10_slip {m : Mem}  {v1 v2 : Int} (q1 : inR v1) (q2 : inR v2) {out : Int} (h : F10_slip v1 v2 = some out) : CT l G cy ad tt yX10_slip cX10_slip 3 (some .int) 3 [.ref (ad 0), iv v1, iv v2] m (some (iv out)) (inR out) m := by
  refine CT_of (by decide) (Nat.le_of_ble_eq_true rfl) (fun Go hR hT => ?_)
  replace hR : RS l G cy ad tt RX10 cX10_slip 3 3 Go := hR
  show Go 0 [some (.ref (ad 0)), some (iv v1), some (iv v2)] [] m
  unfold F10_slip at h
  refine r_iload_n (pc := 0) hR (dc dt_X10_slip 0 rfl) rfl ?_
  refine r_callS (pc := 1) (rest := []) hR (dc dt_X10_slip 1 rfl) cl_X10_246 (ok_F7_isNumber q1) (by decide) rfl (Nat.le_of_ble_eq_true rfl) rfl (fun q1r => ?_)
  show Go 4 [some (.ref (ad 0)), some (iv v1), some (iv v2)] [iv (F7_isNumber v1)] m
  refine jn_e h (fun (K : Option Int) => K = some out → Go 14 [none, none, none] [] m) (fun h => ?_) (fun K14 J14 h => ?_)
  · refine r_iconst (pc := 14) hR (dc dt_X10_slip 6 rfl) ?_
    refine r_goto (pc := 15) (tgt := 23) hR (dc dt_X10_slip 7 rfl) (by decide) ?_
    exact r_iret hT (dc dt_X10_slip 11 rfl) (Option.some.inj h) rfl (rg_c rfl)
  refine r_if_eq (pc := 4) (tgt := 14) hR (dc dt_X10_slip 2 rfl) (by decide) (inZ_R q1r) (fun hc => ?_) (fun hc => ?_)
  · replace h := ite_t hc h
    refine r_weak (L' := [none, none, none]) hR ⟨Or.inl rfl, Or.inl rfl, Or.inl rfl, trivial⟩ ?_
    exact J14 h
  replace h := ite_f hc h
  refine r_iload_n (pc := 7) hR (dc dt_X10_slip 3 rfl) rfl ?_
  refine r_callS (pc := 8) (rest := []) hR (dc dt_X10_slip 4 rfl) cl_X10_246 (ok_F7_isNumber q2) (by decide) rfl (Nat.le_of_ble_eq_true rfl) rfl (fun q8r => ?_)
  show Go 11 [some (.ref (ad 0)), some (iv v1), some (iv v2)] [iv (F7_isNumber v2)] m
  refine r_if_ne (pc := 11) (tgt := 18) hR (dc dt_X10_slip 5 rfl) (by decide) (inZ_R q8r) (fun hc => ?_) (fun hc => ?_)
  · replace h := ite_t hc h
    refine r_iload_n (pc := 18) hR (dc dt_X10_slip 8 rfl) rfl ?_
    refine r_iload_n (pc := 19) hR (dc dt_X10_slip 9 rfl) rfl ?_
    obtain ⟨r20, e20, h⟩ := b1_some h
    refine r_callS (pc := 20) (rest := []) hR (dc dt_X10_slip 10 rfl) cl_X10_251 (ok_F7_kind q1 q2 e20) (by decide) rfl (Nat.le_of_ble_eq_true rfl) rfl (fun q20r => ?_)
    show Go 23 [some (.ref (ad 0)), some (iv v1), some (iv v2)] [iv r20] m
    exact r_iret hT (dc dt_X10_slip 11 rfl) (Option.some.inj h) rfl q20r
  replace h := ite_f hc h
  refine r_weak (L' := [none, none, none]) hR ⟨Or.inl rfl, Or.inl rfl, Or.inl rfl, trivial⟩ ?_
  exact J14 h
def tb_X7_inTwo : List (Nat × (Instr × Nat)) := [(0, (.iconst 0, 1)), (1, (.istore_n 2, 1)), (2, (.iload_n 2, 1)), (3, (.bipush 24, 2)), (5, (.if_icmp .ge 29, 3)), (8, (.iload_n 0, 1)), (9, (.iload_n 2, 1)), (10, (.invokestatic 12, 3)), (13, (.istore_n 3, 1)), (14, (.iload_n 3, 1)), (15, (.ifCond .le 13, 3)), (18, (.iload_n 3, 1)), (19, (.iload_n 1, 1)), (20, (.invokestatic 20, 3)), (23, (.ifCond .lt 5, 3)), (26, (.iconst 1, 1)), (27, (.ireturn, 1)), (28, (.iinc 2 1, 3)), (31, (.goto (-29), 3)), (34, (.iconst 0, 1)), (35, (.ireturn, 1))]
set_option maxRecDepth 100000 in
theorem dt_X7_inTwo : (tb_X7_inTwo.all fun q => decide (decode cX7_inTwo q.1 = .ok q.2)) = true := by decide +kernel
set_option maxRecDepth 100000 in
set_option maxHeartbeats 4000000 in
theorem lp_L7_inTwo_2 {Go : Nat → List (Option Value) → List Value → Mem → Prop} (hR : RS l G cy ad tt RX7 cX7_inTwo 4 3 Go) {out : Int} {m : Mem} (hT : RT cX7_inTwo (some (iv out)) (inZ out) m (some .boolean) Go) {v0 : Int} {v1 : Int} (qv0 : inR v0) (qv1 : inR v1) : ∀ (n : Nat) (v2 : Int), inR v2 → L7_inTwo_2 v0 v1 n v2 = some out → Go 2 [some (iv v0), some (iv v1), some (iv v2), none] [] m := by
  intro n
  induction n with
  | zero =>
    intro v2 qv2 h
    cases h
  | succ n ih =>
    intro v2 qv2 h
    rw [L7_inTwo_2] at h
    refine r_iload_n (pc := 2) hR (dc dt_X7_inTwo 2 rfl) rfl ?_
    refine r_bipush (pc := 3) hR (dc dt_X7_inTwo 3 rfl) (by decide) ?_
    refine r_icmp_ge (pc := 5) (tgt := 34) hR (dc dt_X7_inTwo 4 rfl) (by decide) qv2 (rg_c rfl) (fun hc => ?_) (fun hc => ?_)
    · replace h := ite_t hc h
      refine r_iconst (pc := 34) hR (dc dt_X7_inTwo 19 rfl) ?_
      exact r_zret hT (dc dt_X7_inTwo 20 rfl) (Option.some.inj h) rfl (Or.inl rfl)
    replace h := ite_f hc h
    refine r_iload_n (pc := 8) hR (dc dt_X7_inTwo 5 rfl) rfl ?_
    refine r_iload_n (pc := 9) hR (dc dt_X7_inTwo 6 rfl) rfl ?_
    obtain ⟨r10, e10, h⟩ := b1_some h
    refine r_callS (pc := 10) (rest := []) hR (dc dt_X7_inTwo 7 rfl) cl_X7_12 (ok_F7_grown qv0 qv2 e10) (by decide) rfl (Nat.le_of_ble_eq_true rfl) rfl (fun q10r => ?_)
    show Go 13 [some (iv v0), some (iv v1), some (iv v2), none] [iv r10] m
    refine r_istore_n (pc := 13) (L' := [some (iv v0), some (iv v1), some (iv v2), some (iv r10)]) hR (dc dt_X7_inTwo 8 rfl) (by decide) rfl rfl ?_
    refine r_iload_n (pc := 14) hR (dc dt_X7_inTwo 9 rfl) rfl ?_
    refine jn_e h (fun (K : Option Int) => K = some out → Go 28 [some (iv v0), some (iv v1), some (iv v2), none] [] m) (fun h => ?_) (fun K28 J28 h => ?_)
    · refine r_iinc (pc := 28) (L' := [some (iv v0), some (iv v1), some (iv (w32 (v2 + 1))), none]) hR (dc dt_X7_inTwo 17 rfl) rfl (by decide) rfl rfl ?_
      refine r_goto (pc := 31) (tgt := 2) hR (dc dt_X7_inTwo 18 rfl) (by decide) ?_
      exact ih (w32 (v2 + 1)) (w32_in _) h
    refine r_if_le (pc := 15) (tgt := 28) hR (dc dt_X7_inTwo 10 rfl) (by decide) q10r (fun hc => ?_) (fun hc => ?_)
    · replace h := ite_t hc h
      refine r_weak (L' := [some (iv v0), some (iv v1), some (iv v2), none]) hR ⟨Or.inr rfl, Or.inr rfl, Or.inr rfl, Or.inl rfl, trivial⟩ ?_
      exact J28 h
    replace h := ite_f hc h
    refine r_iload_n (pc := 18) hR (dc dt_X7_inTwo 11 rfl) rfl ?_
    refine r_iload_n (pc := 19) hR (dc dt_X7_inTwo 12 rfl) rfl ?_
    obtain ⟨r20, e20, h⟩ := b1_some h
    refine r_callS (pc := 20) (rest := []) hR (dc dt_X7_inTwo 13 rfl) cl_X7_20 (ok_F7_kind q10r qv1 e20) (by decide) rfl (Nat.le_of_ble_eq_true rfl) rfl (fun q20r => ?_)
    show Go 23 [some (iv v0), some (iv v1), some (iv v2), some (iv r10)] [iv r20] m
    refine r_if_lt (pc := 23) (tgt := 28) hR (dc dt_X7_inTwo 14 rfl) (by decide) q20r (fun hc => ?_) (fun hc => ?_)
    · replace h := ite_t hc h
      refine r_weak (L' := [some (iv v0), some (iv v1), some (iv v2), none]) hR ⟨Or.inr rfl, Or.inr rfl, Or.inr rfl, Or.inl rfl, trivial⟩ ?_
      exact J28 h
    replace h := ite_f hc h
    refine r_iconst (pc := 26) hR (dc dt_X7_inTwo 15 rfl) ?_
    exact r_zret hT (dc dt_X7_inTwo 16 rfl) (Option.some.inj h) rfl (Or.inr rfl)
set_option maxRecDepth 100000 in
set_option maxHeartbeats 4000000 in
theorem ok_F7_inTwo {m : Mem}  {v0 v1 : Int} (q0 : inR v0) (q1 : inR v1) {out : Int} (h : F7_inTwo v0 v1 = some out) : CT l G cy ad tt yX7_inTwo cX7_inTwo 4 (some .boolean) 3 [iv v0, iv v1] m (some (iv out)) (inZ out) m := by
  refine CT_of (by decide) (Nat.le_of_ble_eq_true rfl) (fun Go hR hT => ?_)
  replace hR : RS l G cy ad tt RX7 cX7_inTwo 4 3 Go := hR
  show Go 0 [some (iv v0), some (iv v1), none, none] [] m
  unfold F7_inTwo at h
  refine r_iconst (pc := 0) hR (dc dt_X7_inTwo 0 rfl) ?_
  refine r_istore_n (pc := 1) (L' := [some (iv v0), some (iv v1), some (iv 0), none]) hR (dc dt_X7_inTwo 1 rfl) (by decide) rfl rfl ?_
  refine lp_L7_inTwo_2 hR hT q0 q1 FU 0 (rg_c rfl) h
def tb_X7_fewest : List (Nat × (Instr × Nat)) := [(0, (.iload_n 0, 1)), (1, (.iload_n 1, 1)), (2, (.invokestatic 20, 3)), (5, (.istore_n 2, 1)), (6, (.iload_n 2, 1)), (7, (.ifCond .lt 13, 3)), (10, (.iload_n 2, 1)), (11, (.ifCond .ne 7, 3)), (14, (.iconst 0, 1)), (15, (.goto 4, 3)), (18, (.iconst 1, 1)), (19, (.ireturn, 1)), (20, (.iconst 0, 1)), (21, (.istore_n 3, 1)), (22, (.iconst 0, 1)), (23, (.istore 4, 2)), (25, (.iload 4, 2)), (27, (.bipush 24, 2)), (29, (.if_icmp .ge 57, 3)), (32, (.iload_n 0, 1)), (33, (.iload 4, 2)), (35, (.invokestatic 12, 3)), (38, (.istore 5, 2)), (40, (.iload 5, 2)), (42, (.ifCond .le 14, 3)), (45, (.iload 5, 2)), (47, (.iload_n 1, 1)), (48, (.invokestatic 20, 3)), (51, (.ifCond .lt 5, 3)), (54, (.iconst 2, 1)), (55, (.ireturn, 1)), (56, (.iload_n 3, 1)), (57, (.ifCond .ne 17, 3)), (60, (.iload 5, 2)), (62, (.ifCond .le 16, 3)), (65, (.iload 5, 2)), (67, (.iload_n 1, 1)), (68, (.invokestatic 23, 3)), (71, (.ifCond .eq 7, 3)), (74, (.iconst 1, 1)), (75, (.goto 4, 3)), (78, (.iconst 0, 1)), (79, (.istore_n 3, 1)), (80, (.iinc 4 1, 3)), (83, (.goto (-58), 3)), (86, (.iload_n 3, 1)), (87, (.ifCond .eq 7, 3)), (90, (.iconst 3, 1)), (91, (.goto 5, 3)), (94, (.bipush (-2), 2)), (96, (.ireturn, 1))]
set_option maxRecDepth 100000 in
theorem dt_X7_fewest : (tb_X7_fewest.all fun q => decide (decode cX7_fewest q.1 = .ok q.2)) = true := by decide +kernel
set_option maxRecDepth 100000 in
set_option maxHeartbeats 4000000 in
theorem lp_L7_fewest_25 {Go : Nat → List (Option Value) → List Value → Mem → Prop} (hR : RS l G cy ad tt RX7 cX7_fewest 6 4 Go) {out : Int} {m : Mem} (hT : RT cX7_fewest (some (iv out)) (inR out) m (some .int) Go) {v0 : Int} {v1 : Int} (qv0 : inR v0) (qv1 : inR v1) {k86 : Int → Option Int} (hk86 : ∀ (v3 : Int), inR v3 → k86 v3 = some out → Go 86 [none, none, none, some (iv v3), none, none] [] m) : ∀ (n : Nat) (v3 : Int) (v4 : Int), inR v3 → inR v4 → L7_fewest_25 v0 v1 k86 n v3 v4 = some out → Go 25 [some (iv v0), some (iv v1), none, some (iv v3), some (iv v4), none] [] m := by
  intro n
  induction n with
  | zero =>
    intro v3 v4 qv3 qv4 h
    cases h
  | succ n ih =>
    intro v3 v4 qv3 qv4 h
    rw [L7_fewest_25] at h
    refine r_iload (pc := 25) hR (dc dt_X7_fewest 16 rfl) rfl ?_
    refine r_bipush (pc := 27) hR (dc dt_X7_fewest 17 rfl) (by decide) ?_
    refine r_icmp_ge (pc := 29) (tgt := 86) hR (dc dt_X7_fewest 18 rfl) (by decide) qv4 (rg_c rfl) (fun hc => ?_) (fun hc => ?_)
    · replace h := ite_t hc h
      refine r_weak (L' := [none, none, none, some (iv v3), none, none]) hR ⟨Or.inl rfl, Or.inl rfl, Or.inr rfl, Or.inr rfl, Or.inl rfl, Or.inr rfl, trivial⟩ ?_
      exact hk86 v3 qv3 h
    replace h := ite_f hc h
    refine r_iload_n (pc := 32) hR (dc dt_X7_fewest 19 rfl) rfl ?_
    refine r_iload (pc := 33) hR (dc dt_X7_fewest 20 rfl) rfl ?_
    obtain ⟨r35, e35, h⟩ := b1_some h
    refine r_callS (pc := 35) (rest := []) hR (dc dt_X7_fewest 21 rfl) cl_X7_12 (ok_F7_grown qv0 qv4 e35) (by decide) rfl (Nat.le_of_ble_eq_true rfl) rfl (fun q35r => ?_)
    show Go 38 [some (iv v0), some (iv v1), none, some (iv v3), some (iv v4), none] [iv r35] m
    refine r_istore (pc := 38) (L' := [some (iv v0), some (iv v1), none, some (iv v3), some (iv v4), some (iv r35)]) hR (dc dt_X7_fewest 22 rfl) (by decide) rfl rfl ?_
    refine r_iload (pc := 40) hR (dc dt_X7_fewest 23 rfl) rfl ?_
    refine jn_e h (fun (K : Option Int) => K = some out → Go 56 [some (iv v0), some (iv v1), none, some (iv v3), some (iv v4), some (iv r35)] [] m) (fun h => ?_) (fun K56 J56 h => ?_)
    · refine r_iload_n (pc := 56) hR (dc dt_X7_fewest 31 rfl) rfl ?_
      refine jn_e h (fun (K : Int → Option Int) => ∀ (x79 : Int), inZ x79 → K x79 = some out → Go 79 [some (iv v0), some (iv v1), none, none, some (iv v4), none] [iv x79] m) (fun x79 qx79 h => ?_) (fun K79 J79 h => ?_)
      · refine r_istore_n (pc := 79) (L' := [some (iv v0), some (iv v1), none, some (iv x79), some (iv v4), none]) hR (dc dt_X7_fewest 42 rfl) (by decide) rfl rfl ?_
        refine r_iinc (pc := 80) (L' := [some (iv v0), some (iv v1), none, some (iv x79), some (iv (w32 (v4 + 1))), none]) hR (dc dt_X7_fewest 43 rfl) rfl (by decide) rfl rfl ?_
        refine r_goto (pc := 83) (tgt := 25) hR (dc dt_X7_fewest 44 rfl) (by decide) ?_
        exact ih x79 (w32 (v4 + 1)) (inZ_R qx79) (w32_in _) h
      refine jn_e h (fun (K : Option Int) => K = some out → Go 74 [some (iv v0), some (iv v1), none, none, some (iv v4), none] [] m) (fun h => ?_) (fun K74 J74 h => ?_)
      · refine r_iconst (pc := 74) hR (dc dt_X7_fewest 39 rfl) ?_
        refine r_goto (pc := 75) (tgt := 79) hR (dc dt_X7_fewest 40 rfl) (by decide) ?_
        exact J79 1 (Or.inr rfl) h
      refine r_if_ne (pc := 57) (tgt := 74) hR (dc dt_X7_fewest 32 rfl) (by decide) qv3 (fun hc => ?_) (fun hc => ?_)
      · replace h := ite_t hc h
        refine r_weak (L' := [some (iv v0), some (iv v1), none, none, some (iv v4), none]) hR ⟨Or.inr rfl, Or.inr rfl, Or.inr rfl, Or.inl rfl, Or.inr rfl, Or.inl rfl, trivial⟩ ?_
        exact J74 h
      replace h := ite_f hc h
      refine r_iload (pc := 60) hR (dc dt_X7_fewest 33 rfl) rfl ?_
      refine jn_e h (fun (K : Option Int) => K = some out → Go 78 [some (iv v0), some (iv v1), none, none, some (iv v4), none] [] m) (fun h => ?_) (fun K78 J78 h => ?_)
      · refine r_iconst (pc := 78) hR (dc dt_X7_fewest 41 rfl) ?_
        exact J79 0 (Or.inl rfl) h
      refine r_if_le (pc := 62) (tgt := 78) hR (dc dt_X7_fewest 34 rfl) (by decide) q35r (fun hc => ?_) (fun hc => ?_)
      · replace h := ite_t hc h
        refine r_weak (L' := [some (iv v0), some (iv v1), none, none, some (iv v4), none]) hR ⟨Or.inr rfl, Or.inr rfl, Or.inr rfl, Or.inl rfl, Or.inr rfl, Or.inl rfl, trivial⟩ ?_
        exact J78 h
      replace h := ite_f hc h
      refine r_iload (pc := 65) hR (dc dt_X7_fewest 35 rfl) rfl ?_
      refine r_iload_n (pc := 67) hR (dc dt_X7_fewest 36 rfl) rfl ?_
      obtain ⟨r68, e68, h⟩ := b1_some h
      refine r_callS (pc := 68) (rest := []) hR (dc dt_X7_fewest 37 rfl) cl_X7_23 (ok_F7_inTwo q35r qv1 e68) (by decide) rfl (Nat.le_of_ble_eq_true rfl) rfl (fun q68r => ?_)
      show Go 71 [some (iv v0), some (iv v1), none, some (iv v3), some (iv v4), some (iv r35)] [iv r68] m
      refine r_if_eq (pc := 71) (tgt := 78) hR (dc dt_X7_fewest 38 rfl) (by decide) (inZ_R q68r) (fun hc => ?_) (fun hc => ?_)
      · replace h := ite_t hc h
        refine r_weak (L' := [some (iv v0), some (iv v1), none, none, some (iv v4), none]) hR ⟨Or.inr rfl, Or.inr rfl, Or.inr rfl, Or.inl rfl, Or.inr rfl, Or.inl rfl, trivial⟩ ?_
        exact J78 h
      replace h := ite_f hc h
      refine r_weak (L' := [some (iv v0), some (iv v1), none, none, some (iv v4), none]) hR ⟨Or.inr rfl, Or.inr rfl, Or.inr rfl, Or.inl rfl, Or.inr rfl, Or.inl rfl, trivial⟩ ?_
      exact J74 h
    refine r_if_le (pc := 42) (tgt := 56) hR (dc dt_X7_fewest 24 rfl) (by decide) q35r (fun hc => ?_) (fun hc => ?_)
    · replace h := ite_t hc h
      exact J56 h
    replace h := ite_f hc h
    refine r_iload (pc := 45) hR (dc dt_X7_fewest 25 rfl) rfl ?_
    refine r_iload_n (pc := 47) hR (dc dt_X7_fewest 26 rfl) rfl ?_
    obtain ⟨r48, e48, h⟩ := b1_some h
    refine r_callS (pc := 48) (rest := []) hR (dc dt_X7_fewest 27 rfl) cl_X7_20 (ok_F7_kind q35r qv1 e48) (by decide) rfl (Nat.le_of_ble_eq_true rfl) rfl (fun q48r => ?_)
    show Go 51 [some (iv v0), some (iv v1), none, some (iv v3), some (iv v4), some (iv r35)] [iv r48] m
    refine r_if_lt (pc := 51) (tgt := 56) hR (dc dt_X7_fewest 28 rfl) (by decide) q48r (fun hc => ?_) (fun hc => ?_)
    · replace h := ite_t hc h
      exact J56 h
    replace h := ite_f hc h
    refine r_iconst (pc := 54) hR (dc dt_X7_fewest 29 rfl) ?_
    exact r_iret hT (dc dt_X7_fewest 30 rfl) (Option.some.inj h) rfl (rg_c rfl)
set_option maxRecDepth 100000 in
set_option maxHeartbeats 4000000 in
theorem ok_F7_fewest {m : Mem}  {v0 v1 : Int} (q0 : inR v0) (q1 : inR v1) {out : Int} (h : F7_fewest v0 v1 = some out) : CT l G cy ad tt yX7_fewest cX7_fewest 6 (some .int) 4 [iv v0, iv v1] m (some (iv out)) (inR out) m := by
  refine CT_of (by decide) (Nat.le_of_ble_eq_true rfl) (fun Go hR hT => ?_)
  replace hR : RS l G cy ad tt RX7 cX7_fewest 6 4 Go := hR
  show Go 0 [some (iv v0), some (iv v1), none, none, none, none] [] m
  unfold F7_fewest at h
  refine r_iload_n (pc := 0) hR (dc dt_X7_fewest 0 rfl) rfl ?_
  refine r_iload_n (pc := 1) hR (dc dt_X7_fewest 1 rfl) rfl ?_
  obtain ⟨r2, e2, h⟩ := b1_some h
  refine r_callS (pc := 2) (rest := []) hR (dc dt_X7_fewest 2 rfl) cl_X7_20 (ok_F7_kind q0 q1 e2) (by decide) rfl (Nat.le_of_ble_eq_true rfl) rfl (fun q2r => ?_)
  show Go 5 [some (iv v0), some (iv v1), none, none, none, none] [iv r2] m
  refine r_istore_n (pc := 5) (L' := [some (iv v0), some (iv v1), some (iv r2), none, none, none]) hR (dc dt_X7_fewest 3 rfl) (by decide) rfl rfl ?_
  refine r_iload_n (pc := 6) hR (dc dt_X7_fewest 4 rfl) rfl ?_
  refine r_if_lt (pc := 7) (tgt := 20) hR (dc dt_X7_fewest 5 rfl) (by decide) q2r (fun hc => ?_) (fun hc => ?_)
  · replace h := ite_t hc h
    refine r_iconst (pc := 20) hR (dc dt_X7_fewest 12 rfl) ?_
    refine r_istore_n (pc := 21) (L' := [some (iv v0), some (iv v1), some (iv r2), some (iv 0), none, none]) hR (dc dt_X7_fewest 13 rfl) (by decide) rfl rfl ?_
    refine r_iconst (pc := 22) hR (dc dt_X7_fewest 14 rfl) ?_
    refine r_istore (pc := 23) (L' := [some (iv v0), some (iv v1), some (iv r2), some (iv 0), some (iv 0), none]) hR (dc dt_X7_fewest 15 rfl) (by decide) rfl rfl ?_
    refine r_weak (L' := [some (iv v0), some (iv v1), none, some (iv 0), some (iv 0), none]) hR ⟨Or.inr rfl, Or.inr rfl, Or.inl rfl, Or.inr rfl, Or.inr rfl, Or.inr rfl, trivial⟩ ?_
    refine lp_L7_fewest_25 hR hT q0 q1 (fun v3_86 qv3_86 h => ?_) FU 0 0 (rg_c rfl) (rg_c rfl) h
    show Go 86 [none, none, none, some (iv v3_86), none, none] [] m
    refine r_iload_n (pc := 86) hR (dc dt_X7_fewest 45 rfl) rfl ?_
    refine r_if_eq (pc := 87) (tgt := 94) hR (dc dt_X7_fewest 46 rfl) (by decide) qv3_86 (fun hc => ?_) (fun hc => ?_)
    · replace h := ite_t hc h
      refine r_bipush (pc := 94) hR (dc dt_X7_fewest 49 rfl) (by decide) ?_
      exact r_iret hT (dc dt_X7_fewest 50 rfl) (Option.some.inj h) rfl (rg_c rfl)
    replace h := ite_f hc h
    refine r_iconst (pc := 90) hR (dc dt_X7_fewest 47 rfl) ?_
    refine r_goto (pc := 91) (tgt := 96) hR (dc dt_X7_fewest 48 rfl) (by decide) ?_
    exact r_iret hT (dc dt_X7_fewest 50 rfl) (Option.some.inj h) rfl (rg_c rfl)
  replace h := ite_f hc h
  refine r_iload_n (pc := 10) hR (dc dt_X7_fewest 6 rfl) rfl ?_
  refine r_if_ne (pc := 11) (tgt := 18) hR (dc dt_X7_fewest 7 rfl) (by decide) q2r (fun hc => ?_) (fun hc => ?_)
  · replace h := ite_t hc h
    refine r_iconst (pc := 18) hR (dc dt_X7_fewest 10 rfl) ?_
    exact r_iret hT (dc dt_X7_fewest 11 rfl) (Option.some.inj h) rfl (rg_c rfl)
  replace h := ite_f hc h
  refine r_iconst (pc := 14) hR (dc dt_X7_fewest 8 rfl) ?_
  refine r_goto (pc := 15) (tgt := 19) hR (dc dt_X7_fewest 9 rfl) (by decide) ?_
  exact r_iret hT (dc dt_X7_fewest 11 rfl) (Option.some.inj h) rfl (rg_c rfl)
def tb_X10_chain : List (Nat × (Instr × Nat)) := [(0, (.iload_n 1, 1)), (1, (.invokestatic 246, 3)), (4, (.ifCond .eq 10, 3)), (7, (.iload_n 2, 1)), (8, (.invokestatic 246, 3)), (11, (.ifCond .ne 7, 3)), (14, (.iconst (-1), 1)), (15, (.goto 8, 3)), (18, (.iload_n 1, 1)), (19, (.iload_n 2, 1)), (20, (.invokestatic 254, 3)), (23, (.ireturn, 1))]
set_option maxRecDepth 100000 in
theorem dt_X10_chain : (tb_X10_chain.all fun q => decide (decode cX10_chain q.1 = .ok q.2)) = true := by decide +kernel
set_option maxRecDepth 100000 in
set_option maxHeartbeats 4000000 in
theorem ok_F10_chain {m : Mem}  {v1 v2 : Int} (q1 : inR v1) (q2 : inR v2) {out : Int} (h : F10_chain v1 v2 = some out) : CT l G cy ad tt yX10_chain cX10_chain 3 (some .int) 5 [.ref (ad 0), iv v1, iv v2] m (some (iv out)) (inR out) m := by
  refine CT_of (by decide) (Nat.le_of_ble_eq_true rfl) (fun Go hR hT => ?_)
  replace hR : RS l G cy ad tt RX10 cX10_chain 3 5 Go := hR
  show Go 0 [some (.ref (ad 0)), some (iv v1), some (iv v2)] [] m
  unfold F10_chain at h
  refine r_iload_n (pc := 0) hR (dc dt_X10_chain 0 rfl) rfl ?_
  refine r_callS (pc := 1) (rest := []) hR (dc dt_X10_chain 1 rfl) cl_X10_246 (ok_F7_isNumber q1) (by decide) rfl (Nat.le_of_ble_eq_true rfl) rfl (fun q1r => ?_)
  show Go 4 [some (.ref (ad 0)), some (iv v1), some (iv v2)] [iv (F7_isNumber v1)] m
  refine jn_e h (fun (K : Option Int) => K = some out → Go 14 [none, none, none] [] m) (fun h => ?_) (fun K14 J14 h => ?_)
  · refine r_iconst (pc := 14) hR (dc dt_X10_chain 6 rfl) ?_
    refine r_goto (pc := 15) (tgt := 23) hR (dc dt_X10_chain 7 rfl) (by decide) ?_
    exact r_iret hT (dc dt_X10_chain 11 rfl) (Option.some.inj h) rfl (rg_c rfl)
  refine r_if_eq (pc := 4) (tgt := 14) hR (dc dt_X10_chain 2 rfl) (by decide) (inZ_R q1r) (fun hc => ?_) (fun hc => ?_)
  · replace h := ite_t hc h
    refine r_weak (L' := [none, none, none]) hR ⟨Or.inl rfl, Or.inl rfl, Or.inl rfl, trivial⟩ ?_
    exact J14 h
  replace h := ite_f hc h
  refine r_iload_n (pc := 7) hR (dc dt_X10_chain 3 rfl) rfl ?_
  refine r_callS (pc := 8) (rest := []) hR (dc dt_X10_chain 4 rfl) cl_X10_246 (ok_F7_isNumber q2) (by decide) rfl (Nat.le_of_ble_eq_true rfl) rfl (fun q8r => ?_)
  show Go 11 [some (.ref (ad 0)), some (iv v1), some (iv v2)] [iv (F7_isNumber v2)] m
  refine r_if_ne (pc := 11) (tgt := 18) hR (dc dt_X10_chain 5 rfl) (by decide) (inZ_R q8r) (fun hc => ?_) (fun hc => ?_)
  · replace h := ite_t hc h
    refine r_iload_n (pc := 18) hR (dc dt_X10_chain 8 rfl) rfl ?_
    refine r_iload_n (pc := 19) hR (dc dt_X10_chain 9 rfl) rfl ?_
    obtain ⟨r20, e20, h⟩ := b1_some h
    refine r_callS (pc := 20) (rest := []) hR (dc dt_X10_chain 10 rfl) cl_X10_254 (ok_F7_fewest q1 q2 e20) (by decide) rfl (Nat.le_of_ble_eq_true rfl) rfl (fun q20r => ?_)
    show Go 23 [some (.ref (ad 0)), some (iv v1), some (iv v2)] [iv r20] m
    exact r_iret hT (dc dt_X10_chain 11 rfl) (Option.some.inj h) rfl q20r
  replace h := ite_f hc h
  refine r_weak (L' := [none, none, none]) hR ⟨Or.inl rfl, Or.inl rfl, Or.inl rfl, trivial⟩ ?_
  exact J14 h
def tb_X1_back : List (Nat × (Instr × Nat)) := [(0, (.aload_n 0, 1)), (1, (.getfield 73, 3)), (4, (.ifCond .gt 6, 3)), (7, (.bipush (-5), 2)), (9, (.ireturn, 1)), (10, (.aload_n 0, 1)), (11, (.dup, 1)), (12, (.getfield 73, 3)), (15, (.iconst 1, 1)), (16, (.isub, 1)), (17, (.putfield 73, 3)), (20, (.aload_n 0, 1)), (21, (.dup, 1)), (22, (.getfield 79, 3)), (25, (.iconst 1, 1)), (26, (.iadd, 1)), (27, (.putfield 79, 3)), (30, (.aload_n 0, 1)), (31, (.getfield 24, 3)), (34, (.aload_n 0, 1)), (35, (.getfield 27, 3)), (38, (.aload_n 0, 1)), (39, (.getfield 73, 3)), (42, (.iaload, 1)), (43, (.aload_n 0, 1)), (44, (.getfield 30, 3)), (47, (.aload_n 0, 1)), (48, (.getfield 73, 3)), (51, (.iaload, 1)), (52, (.iastore, 1)), (53, (.aload_n 0, 1)), (54, (.dup, 1)), (55, (.getfield 82, 3)), (58, (.iconst 1, 1)), (59, (.iadd, 1)), (60, (.putfield 82, 3)), (63, (.aload_n 0, 1)), (64, (.getfield 73, 3)), (67, (.ireturn, 1))]
set_option maxRecDepth 100000 in
theorem dt_X1_back : (tb_X1_back.all fun q => decide (decode cX1_back q.1 = .ok q.2)) = true := by decide +kernel
set_option maxRecDepth 100000 in
set_option maxHeartbeats 4000000 in
theorem ok_F1_back {m : Mem}   {out : Int × Mem} (h : F1_back m = some out) : CT l G cy ad tt yX1_back cX1_back 1 (some .int) 0 [.ref (ad 4)] m (some (iv out.1)) (inR out.1) out.2 := by
  refine CT_of (by decide) (Nat.le_of_ble_eq_true rfl) (fun Go hR hT => ?_)
  replace hR : RS l G cy ad tt RX1 cX1_back 1 0 Go := hR
  show Go 0 [some (.ref (ad 4))] [] m
  unfold F1_back at h
  refine r_aload_n (pc := 0) hR (dc dt_X1_back 0 rfl) rfl ?_
  refine r_geti (pc := 1) hR (dc dt_X1_back 1 rfl) fl_X1_73 tc_4 rfl ?_
  refine r_if_gt (pc := 4) (tgt := 10) hR (dc dt_X1_back 2 rfl) (by decide) (rd_in _ _ _) (fun hc => ?_) (fun hc => ?_)
  · replace h := ite_t hc h
    refine r_aload_n (pc := 10) hR (dc dt_X1_back 5 rfl) rfl ?_
    refine r_dup (pc := 11) hR (dc dt_X1_back 6 rfl) rfl ?_
    refine r_geti (pc := 12) hR (dc dt_X1_back 7 rfl) fl_X1_73 tc_4 rfl ?_
    refine r_iconst (pc := 15) hR (dc dt_X1_back 8 rfl) ?_
    refine r_isub (pc := 16) hR (dc dt_X1_back 9 rfl) ?_
    refine r_puti (pc := 17) hR (dc dt_X1_back 10 rfl) fl_X1_73 tc_4 rfl rfl rfl ?_
    replace h := stw_e h
    generalize wr m 4 10 (w32 ((rd m 4 10) - 1)) = m17 at h ⊢
    refine r_aload_n (pc := 20) hR (dc dt_X1_back 11 rfl) rfl ?_
    refine r_dup (pc := 21) hR (dc dt_X1_back 12 rfl) rfl ?_
    refine r_geti (pc := 22) hR (dc dt_X1_back 13 rfl) fl_X1_79 tc_4 rfl ?_
    refine r_iconst (pc := 25) hR (dc dt_X1_back 14 rfl) ?_
    refine r_iadd (pc := 26) hR (dc dt_X1_back 15 rfl) ?_
    refine r_puti (pc := 27) hR (dc dt_X1_back 16 rfl) fl_X1_79 tc_4 rfl rfl rfl ?_
    replace h := stw_e h
    generalize wr m17 4 11 (w32 ((rd m17 4 11) + 1)) = m27 at h ⊢
    refine r_aload_n (pc := 30) hR (dc dt_X1_back 17 rfl) rfl ?_
    refine r_getr (pc := 31) (k2 := 9) hR (dc dt_X1_back 18 rfl) fl_X1_24 tc_4 rfl ?_
    refine r_aload_n (pc := 34) hR (dc dt_X1_back 19 rfl) rfl ?_
    refine r_getr (pc := 35) (k2 := 10) hR (dc dt_X1_back 20 rfl) fl_X1_27 tc_4 rfl ?_
    refine r_aload_n (pc := 38) hR (dc dt_X1_back 21 rfl) rfl ?_
    refine r_geti (pc := 39) hR (dc dt_X1_back 22 rfl) fl_X1_73 tc_4 rfl ?_
    obtain ⟨g1, h⟩ := gd_some h
    refine r_iald (pc := 42) hR (dc dt_X1_back 23 rfl) tc_10 g1 (rd_in _ _ _) ?_
    refine r_aload_n (pc := 43) hR (dc dt_X1_back 24 rfl) rfl ?_
    refine r_getr (pc := 44) (k2 := 11) hR (dc dt_X1_back 25 rfl) fl_X1_30 tc_4 rfl ?_
    refine r_aload_n (pc := 47) hR (dc dt_X1_back 26 rfl) rfl ?_
    refine r_geti (pc := 48) hR (dc dt_X1_back 27 rfl) fl_X1_73 tc_4 rfl ?_
    obtain ⟨g1, h⟩ := gd_some h
    refine r_iald (pc := 51) hR (dc dt_X1_back 28 rfl) tc_11 g1 (rd_in _ _ _) ?_
    obtain ⟨g1, h⟩ := gd_some h
    refine r_iast (pc := 52) hR (dc dt_X1_back 29 rfl) tc_9 g1 (rd_in _ _ _) ?_
    replace h := stw_e h
    generalize wr m27 9 (rd m27 10 (rd m27 4 10)) (rd m27 11 (rd m27 4 10)) = m52 at h ⊢
    refine r_aload_n (pc := 53) hR (dc dt_X1_back 30 rfl) rfl ?_
    refine r_dup (pc := 54) hR (dc dt_X1_back 31 rfl) rfl ?_
    refine r_geti (pc := 55) hR (dc dt_X1_back 32 rfl) fl_X1_82 tc_4 rfl ?_
    refine r_iconst (pc := 58) hR (dc dt_X1_back 33 rfl) ?_
    refine r_iadd (pc := 59) hR (dc dt_X1_back 34 rfl) ?_
    refine r_puti (pc := 60) hR (dc dt_X1_back 35 rfl) fl_X1_82 tc_4 rfl rfl rfl ?_
    replace h := stw_e h
    generalize wr m52 4 12 (w32 ((rd m52 4 12) + 1)) = m60 at h ⊢
    refine r_aload_n (pc := 63) hR (dc dt_X1_back 36 rfl) rfl ?_
    refine r_geti (pc := 64) hR (dc dt_X1_back 37 rfl) fl_X1_73 tc_4 rfl ?_
    exact r_iret hT (dc dt_X1_back 38 rfl) (congrArg Prod.fst (Option.some.inj h)) (congrArg Prod.snd (Option.some.inj h)) (rd_in _ _ _)
  replace h := ite_f hc h
  refine r_bipush (pc := 7) hR (dc dt_X1_back 3 rfl) (by decide) ?_
  exact r_iret hT (dc dt_X1_back 4 rfl) (congrArg Prod.fst (Option.some.inj h)) (congrArg Prod.snd (Option.some.inj h)) (rg_c rfl)
def tb_X10_undo : List (Nat × (Instr × Nat)) := [(0, (.aload_n 0, 1)), (1, (.getfield 19, 3)), (4, (.invokevirtual 257, 3)), (7, (.ireturn, 1))]
set_option maxRecDepth 100000 in
theorem dt_X10_undo : (tb_X10_undo.all fun q => decide (decode cX10_undo q.1 = .ok q.2)) = true := by decide +kernel
set_option maxRecDepth 100000 in
set_option maxHeartbeats 4000000 in
theorem ok_F10_undo {m : Mem}   {out : Int × Mem} (h : F10_undo m = some out) : CT l G cy ad tt yX10_undo cX10_undo 1 (some .int) 1 [.ref (ad 0)] m (some (iv out.1)) (inR out.1) out.2 := by
  refine CT_of (by decide) (Nat.le_of_ble_eq_true rfl) (fun Go hR hT => ?_)
  replace hR : RS l G cy ad tt RX10 cX10_undo 1 1 Go := hR
  show Go 0 [some (.ref (ad 0))] [] m
  unfold F10_undo at h
  refine r_aload_n (pc := 0) hR (dc dt_X10_undo 0 rfl) rfl ?_
  refine r_getr (pc := 1) (k2 := 4) hR (dc dt_X10_undo 1 rfl) fl_X10_19 tc_0 rfl ?_
  obtain ⟨r4, m4, e4, h⟩ := b2_some h
  refine r_callV (pc := 4) (rest := []) hR (dc dt_X10_undo 2 rfl) cl_X10_257 tc_4 rfl (ok_F1_back  e4) (by decide) rfl (Nat.le_of_ble_eq_true rfl) rfl (fun q4r => ?_)
  show Go 7 [some (.ref (ad 0))] [iv r4] m4
  exact r_iret hT (dc dt_X10_undo 3 rfl) (congrArg Prod.fst (Option.some.inj h)) (congrArg Prod.snd (Option.some.inj h)) q4r
def tb_X1_forth : List (Nat × (Instr × Nat)) := [(0, (.aload_n 0, 1)), (1, (.getfield 79, 3)), (4, (.ifCond .le 12, 3)), (7, (.aload_n 0, 1)), (8, (.getfield 73, 3)), (11, (.bipush 40, 2)), (13, (.if_icmp .lt 6, 3)), (16, (.bipush (-5), 2)), (18, (.ireturn, 1)), (19, (.aload_n 0, 1)), (20, (.getfield 24, 3)), (23, (.aload_n 0, 1)), (24, (.getfield 27, 3)), (27, (.aload_n 0, 1)), (28, (.getfield 73, 3)), (31, (.iaload, 1)), (32, (.aload_n 0, 1)), (33, (.getfield 33, 3)), (36, (.aload_n 0, 1)), (37, (.getfield 73, 3)), (40, (.iaload, 1)), (41, (.iastore, 1)), (42, (.aload_n 0, 1)), (43, (.dup, 1)), (44, (.getfield 73, 3)), (47, (.iconst 1, 1)), (48, (.iadd, 1)), (49, (.putfield 73, 3)), (52, (.aload_n 0, 1)), (53, (.dup, 1)), (54, (.getfield 79, 3)), (57, (.iconst 1, 1)), (58, (.isub, 1)), (59, (.putfield 79, 3)), (62, (.aload_n 0, 1)), (63, (.dup, 1)), (64, (.getfield 82, 3)), (67, (.iconst 1, 1)), (68, (.iadd, 1)), (69, (.putfield 82, 3)), (72, (.aload_n 0, 1)), (73, (.getfield 79, 3)), (76, (.ireturn, 1))]
set_option maxRecDepth 100000 in
theorem dt_X1_forth : (tb_X1_forth.all fun q => decide (decode cX1_forth q.1 = .ok q.2)) = true := by decide +kernel
set_option maxRecDepth 100000 in
set_option maxHeartbeats 4000000 in
theorem ok_F1_forth {m : Mem}   {out : Int × Mem} (h : F1_forth m = some out) : CT l G cy ad tt yX1_forth cX1_forth 1 (some .int) 0 [.ref (ad 4)] m (some (iv out.1)) (inR out.1) out.2 := by
  refine CT_of (by decide) (Nat.le_of_ble_eq_true rfl) (fun Go hR hT => ?_)
  replace hR : RS l G cy ad tt RX1 cX1_forth 1 0 Go := hR
  show Go 0 [some (.ref (ad 4))] [] m
  unfold F1_forth at h
  refine r_aload_n (pc := 0) hR (dc dt_X1_forth 0 rfl) rfl ?_
  refine r_geti (pc := 1) hR (dc dt_X1_forth 1 rfl) fl_X1_79 tc_4 rfl ?_
  refine r_if_le (pc := 4) (tgt := 16) hR (dc dt_X1_forth 2 rfl) (by decide) (rd_in _ _ _) (fun hc => ?_) (fun hc => ?_)
  · replace h := ite_t hc h
    refine r_bipush (pc := 16) hR (dc dt_X1_forth 7 rfl) (by decide) ?_
    exact r_iret hT (dc dt_X1_forth 8 rfl) (congrArg Prod.fst (Option.some.inj h)) (congrArg Prod.snd (Option.some.inj h)) (rg_c rfl)
  replace h := ite_f hc h
  refine r_aload_n (pc := 7) hR (dc dt_X1_forth 3 rfl) rfl ?_
  refine r_geti (pc := 8) hR (dc dt_X1_forth 4 rfl) fl_X1_73 tc_4 rfl ?_
  refine r_bipush (pc := 11) hR (dc dt_X1_forth 5 rfl) (by decide) ?_
  refine r_icmp_lt (pc := 13) (tgt := 19) hR (dc dt_X1_forth 6 rfl) (by decide) (rd_in _ _ _) (rg_c rfl) (fun hc => ?_) (fun hc => ?_)
  · replace h := ite_t hc h
    refine r_aload_n (pc := 19) hR (dc dt_X1_forth 9 rfl) rfl ?_
    refine r_getr (pc := 20) (k2 := 9) hR (dc dt_X1_forth 10 rfl) fl_X1_24 tc_4 rfl ?_
    refine r_aload_n (pc := 23) hR (dc dt_X1_forth 11 rfl) rfl ?_
    refine r_getr (pc := 24) (k2 := 10) hR (dc dt_X1_forth 12 rfl) fl_X1_27 tc_4 rfl ?_
    refine r_aload_n (pc := 27) hR (dc dt_X1_forth 13 rfl) rfl ?_
    refine r_geti (pc := 28) hR (dc dt_X1_forth 14 rfl) fl_X1_73 tc_4 rfl ?_
    obtain ⟨g1, h⟩ := gd_some h
    refine r_iald (pc := 31) hR (dc dt_X1_forth 15 rfl) tc_10 g1 (rd_in _ _ _) ?_
    refine r_aload_n (pc := 32) hR (dc dt_X1_forth 16 rfl) rfl ?_
    refine r_getr (pc := 33) (k2 := 12) hR (dc dt_X1_forth 17 rfl) fl_X1_33 tc_4 rfl ?_
    refine r_aload_n (pc := 36) hR (dc dt_X1_forth 18 rfl) rfl ?_
    refine r_geti (pc := 37) hR (dc dt_X1_forth 19 rfl) fl_X1_73 tc_4 rfl ?_
    obtain ⟨g1, h⟩ := gd_some h
    refine r_iald (pc := 40) hR (dc dt_X1_forth 20 rfl) tc_12 g1 (rd_in _ _ _) ?_
    obtain ⟨g1, h⟩ := gd_some h
    refine r_iast (pc := 41) hR (dc dt_X1_forth 21 rfl) tc_9 g1 (rd_in _ _ _) ?_
    replace h := stw_e h
    generalize wr m 9 (rd m 10 (rd m 4 10)) (rd m 12 (rd m 4 10)) = m41 at h ⊢
    refine r_aload_n (pc := 42) hR (dc dt_X1_forth 22 rfl) rfl ?_
    refine r_dup (pc := 43) hR (dc dt_X1_forth 23 rfl) rfl ?_
    refine r_geti (pc := 44) hR (dc dt_X1_forth 24 rfl) fl_X1_73 tc_4 rfl ?_
    refine r_iconst (pc := 47) hR (dc dt_X1_forth 25 rfl) ?_
    refine r_iadd (pc := 48) hR (dc dt_X1_forth 26 rfl) ?_
    refine r_puti (pc := 49) hR (dc dt_X1_forth 27 rfl) fl_X1_73 tc_4 rfl rfl rfl ?_
    replace h := stw_e h
    generalize wr m41 4 10 (w32 ((rd m41 4 10) + 1)) = m49 at h ⊢
    refine r_aload_n (pc := 52) hR (dc dt_X1_forth 28 rfl) rfl ?_
    refine r_dup (pc := 53) hR (dc dt_X1_forth 29 rfl) rfl ?_
    refine r_geti (pc := 54) hR (dc dt_X1_forth 30 rfl) fl_X1_79 tc_4 rfl ?_
    refine r_iconst (pc := 57) hR (dc dt_X1_forth 31 rfl) ?_
    refine r_isub (pc := 58) hR (dc dt_X1_forth 32 rfl) ?_
    refine r_puti (pc := 59) hR (dc dt_X1_forth 33 rfl) fl_X1_79 tc_4 rfl rfl rfl ?_
    replace h := stw_e h
    generalize wr m49 4 11 (w32 ((rd m49 4 11) - 1)) = m59 at h ⊢
    refine r_aload_n (pc := 62) hR (dc dt_X1_forth 34 rfl) rfl ?_
    refine r_dup (pc := 63) hR (dc dt_X1_forth 35 rfl) rfl ?_
    refine r_geti (pc := 64) hR (dc dt_X1_forth 36 rfl) fl_X1_82 tc_4 rfl ?_
    refine r_iconst (pc := 67) hR (dc dt_X1_forth 37 rfl) ?_
    refine r_iadd (pc := 68) hR (dc dt_X1_forth 38 rfl) ?_
    refine r_puti (pc := 69) hR (dc dt_X1_forth 39 rfl) fl_X1_82 tc_4 rfl rfl rfl ?_
    replace h := stw_e h
    generalize wr m59 4 12 (w32 ((rd m59 4 12) + 1)) = m69 at h ⊢
    refine r_aload_n (pc := 72) hR (dc dt_X1_forth 40 rfl) rfl ?_
    refine r_geti (pc := 73) hR (dc dt_X1_forth 41 rfl) fl_X1_79 tc_4 rfl ?_
    exact r_iret hT (dc dt_X1_forth 42 rfl) (congrArg Prod.fst (Option.some.inj h)) (congrArg Prod.snd (Option.some.inj h)) (rd_in _ _ _)
  replace h := ite_f hc h
  refine r_bipush (pc := 16) hR (dc dt_X1_forth 7 rfl) (by decide) ?_
  exact r_iret hT (dc dt_X1_forth 8 rfl) (congrArg Prod.fst (Option.some.inj h)) (congrArg Prod.snd (Option.some.inj h)) (rg_c rfl)
def tb_X10_redo : List (Nat × (Instr × Nat)) := [(0, (.aload_n 0, 1)), (1, (.getfield 19, 3)), (4, (.invokevirtual 260, 3)), (7, (.ireturn, 1))]
set_option maxRecDepth 100000 in
theorem dt_X10_redo : (tb_X10_redo.all fun q => decide (decode cX10_redo q.1 = .ok q.2)) = true := by decide +kernel
set_option maxRecDepth 100000 in
set_option maxHeartbeats 4000000 in
theorem ok_F10_redo {m : Mem}   {out : Int × Mem} (h : F10_redo m = some out) : CT l G cy ad tt yX10_redo cX10_redo 1 (some .int) 1 [.ref (ad 0)] m (some (iv out.1)) (inR out.1) out.2 := by
  refine CT_of (by decide) (Nat.le_of_ble_eq_true rfl) (fun Go hR hT => ?_)
  replace hR : RS l G cy ad tt RX10 cX10_redo 1 1 Go := hR
  show Go 0 [some (.ref (ad 0))] [] m
  unfold F10_redo at h
  refine r_aload_n (pc := 0) hR (dc dt_X10_redo 0 rfl) rfl ?_
  refine r_getr (pc := 1) (k2 := 4) hR (dc dt_X10_redo 1 rfl) fl_X10_19 tc_0 rfl ?_
  obtain ⟨r4, m4, e4, h⟩ := b2_some h
  refine r_callV (pc := 4) (rest := []) hR (dc dt_X10_redo 2 rfl) cl_X10_260 tc_4 rfl (ok_F1_forth  e4) (by decide) rfl (Nat.le_of_ble_eq_true rfl) rfl (fun q4r => ?_)
  show Go 7 [some (.ref (ad 0))] [iv r4] m4
  exact r_iret hT (dc dt_X10_redo 3 rfl) (congrArg Prod.fst (Option.some.inj h)) (congrArg Prod.snd (Option.some.inj h)) q4r
def tb_X10_digest : List (Nat × (Instr × Nat)) := [(0, (.bipush 7, 2)), (2, (.istore_n 1, 1)), (3, (.iconst 0, 1)), (4, (.istore_n 2, 1)), (5, (.iload_n 2, 1)), (6, (.aload_n 0, 1)), (7, (.getfield 19, 3)), (10, (.getfield 80, 3)), (13, (.if_icmp .ge 54, 3)), (16, (.iload_n 1, 1)), (17, (.bipush 31, 2)), (19, (.imul, 1)), (20, (.aload_n 0, 1)), (21, (.getfield 19, 3)), (24, (.iload_n 2, 1)), (25, (.invokevirtual 263, 3)), (28, (.iadd, 1)), (29, (.iconst 1, 1)), (30, (.iadd, 1)), (31, (.istore_n 1, 1)), (32, (.iconst 0, 1)), (33, (.istore_n 3, 1)), (34, (.iload_n 3, 1)), (35, (.bipush 16, 2)), (37, (.if_icmp .ge 24, 3)), (40, (.iload_n 1, 1)), (41, (.bipush 31, 2)), (43, (.imul, 1)), (44, (.aload_n 0, 1)), (45, (.getfield 19, 3)), (48, (.iload_n 2, 1)), (49, (.iload_n 3, 1)), (50, (.invokevirtual 125, 3)), (53, (.iadd, 1)), (54, (.istore_n 1, 1)), (55, (.iinc 3 1, 3)), (58, (.goto (-24), 3)), (61, (.iinc 2 1, 3)), (64, (.goto (-59), 3)), (67, (.iconst 0, 1)), (68, (.istore_n 2, 1)), (69, (.iload_n 2, 1)), (70, (.iconst 5, 1)), (71, (.if_icmp .ge 23, 3)), (74, (.iload_n 1, 1)), (75, (.bipush 31, 2)), (77, (.imul, 1)), (78, (.aload_n 0, 1)), (79, (.getfield 19, 3)), (82, (.iload_n 2, 1)), (83, (.invokevirtual 266, 3)), (86, (.iadd, 1)), (87, (.istore_n 1, 1)), (88, (.iinc 2 1, 3)), (91, (.goto (-22), 3)), (94, (.iload_n 1, 1)), (95, (.ireturn, 1))]
set_option maxRecDepth 100000 in
theorem dt_X10_digest : (tb_X10_digest.all fun q => decide (decode cX10_digest q.1 = .ok q.2)) = true := by decide +kernel
set_option maxRecDepth 100000 in
set_option maxHeartbeats 4000000 in
theorem lp_L10_digest_34 {Go : Nat → List (Option Value) → List Value → Mem → Prop} (hR : RS l G cy ad tt RX10 cX10_digest 4 2 Go) {out : Int} {m : Mem} (hT : RT cX10_digest (some (iv out)) (inR out) m (some .int) Go) {v2 : Int} (qv2 : inR v2) {k61 : Int → Option Int} (hk61 : ∀ (v1 : Int), inR v1 → k61 v1 = some out → Go 61 [some (.ref (ad 0)), some (iv v1), some (iv v2), none] [] m) : ∀ (n : Nat) (v1 : Int) (v3 : Int), inR v1 → inR v3 → L10_digest_34 m v2 k61 n v1 v3 = some out → Go 34 [some (.ref (ad 0)), some (iv v1), some (iv v2), some (iv v3)] [] m := by
  intro n
  induction n with
  | zero =>
    intro v1 v3 qv1 qv3 h
    cases h
  | succ n ih =>
    intro v1 v3 qv1 qv3 h
    rw [L10_digest_34] at h
    refine r_iload_n (pc := 34) hR (dc dt_X10_digest 22 rfl) rfl ?_
    refine r_bipush (pc := 35) hR (dc dt_X10_digest 23 rfl) (by decide) ?_
    refine r_icmp_ge (pc := 37) (tgt := 61) hR (dc dt_X10_digest 24 rfl) (by decide) qv3 (rg_c rfl) (fun hc => ?_) (fun hc => ?_)
    · replace h := ite_t hc h
      refine r_weak (L' := [some (.ref (ad 0)), some (iv v1), some (iv v2), none]) hR ⟨Or.inr rfl, Or.inr rfl, Or.inr rfl, Or.inl rfl, trivial⟩ ?_
      exact hk61 v1 qv1 h
    replace h := ite_f hc h
    refine r_iload_n (pc := 40) hR (dc dt_X10_digest 25 rfl) rfl ?_
    refine r_bipush (pc := 41) hR (dc dt_X10_digest 26 rfl) (by decide) ?_
    refine r_imul (pc := 43) hR (dc dt_X10_digest 27 rfl) ?_
    refine r_aload_n (pc := 44) hR (dc dt_X10_digest 28 rfl) rfl ?_
    refine r_getr (pc := 45) (k2 := 4) hR (dc dt_X10_digest 29 rfl) fl_X10_19 tc_0 rfl ?_
    refine r_iload_n (pc := 48) hR (dc dt_X10_digest 30 rfl) rfl ?_
    refine r_iload_n (pc := 49) hR (dc dt_X10_digest 31 rfl) rfl ?_
    obtain ⟨r50, e50, h⟩ := b1_some h
    refine r_callV (pc := 50) (rest := [iv (w32 (v1 * 31))]) hR (dc dt_X10_digest 32 rfl) cl_X10_125 tc_4 rfl (ok_F1_told qv2 qv3 e50) (by decide) rfl (Nat.le_of_ble_eq_true rfl) rfl (fun q50r => ?_)
    show Go 53 [some (.ref (ad 0)), some (iv v1), some (iv v2), some (iv v3)] [iv r50, iv (w32 (v1 * 31))] m
    refine r_iadd (pc := 53) hR (dc dt_X10_digest 33 rfl) ?_
    refine r_istore_n (pc := 54) (L' := [some (.ref (ad 0)), some (iv (w32 ((w32 (v1 * 31)) + r50))), some (iv v2), some (iv v3)]) hR (dc dt_X10_digest 34 rfl) (by decide) rfl rfl ?_
    refine r_iinc (pc := 55) (L' := [some (.ref (ad 0)), some (iv (w32 ((w32 (v1 * 31)) + r50))), some (iv v2), some (iv (w32 (v3 + 1)))]) hR (dc dt_X10_digest 35 rfl) rfl (by decide) rfl rfl ?_
    refine r_goto (pc := 58) (tgt := 34) hR (dc dt_X10_digest 36 rfl) (by decide) ?_
    exact ih (w32 ((w32 (v1 * 31)) + r50)) (w32 (v3 + 1)) (w32_in _) (w32_in _) h
set_option maxRecDepth 100000 in
set_option maxHeartbeats 4000000 in
theorem lp_L10_digest_5 {Go : Nat → List (Option Value) → List Value → Mem → Prop} (hR : RS l G cy ad tt RX10 cX10_digest 4 2 Go) {out : Int} {m : Mem} (hT : RT cX10_digest (some (iv out)) (inR out) m (some .int) Go) {k67 : Int → Option Int} (hk67 : ∀ (v1 : Int), inR v1 → k67 v1 = some out → Go 67 [some (.ref (ad 0)), some (iv v1), none, none] [] m) : ∀ (n : Nat) (v1 : Int) (v2 : Int), inR v1 → inR v2 → L10_digest_5 m k67 n v1 v2 = some out → Go 5 [some (.ref (ad 0)), some (iv v1), some (iv v2), none] [] m := by
  intro n
  induction n with
  | zero =>
    intro v1 v2 qv1 qv2 h
    cases h
  | succ n ih =>
    intro v1 v2 qv1 qv2 h
    rw [L10_digest_5] at h
    refine r_iload_n (pc := 5) hR (dc dt_X10_digest 4 rfl) rfl ?_
    refine r_aload_n (pc := 6) hR (dc dt_X10_digest 5 rfl) rfl ?_
    refine r_getr (pc := 7) (k2 := 4) hR (dc dt_X10_digest 6 rfl) fl_X10_19 tc_0 rfl ?_
    refine r_geti (pc := 10) hR (dc dt_X10_digest 7 rfl) fl_X10_80 tc_4 rfl ?_
    refine r_icmp_ge (pc := 13) (tgt := 67) hR (dc dt_X10_digest 8 rfl) (by decide) qv2 (rd_in _ _ _) (fun hc => ?_) (fun hc => ?_)
    · replace h := ite_t hc h
      refine r_weak (L' := [some (.ref (ad 0)), some (iv v1), none, none]) hR ⟨Or.inr rfl, Or.inr rfl, Or.inl rfl, Or.inr rfl, trivial⟩ ?_
      exact hk67 v1 qv1 h
    replace h := ite_f hc h
    refine r_iload_n (pc := 16) hR (dc dt_X10_digest 9 rfl) rfl ?_
    refine r_bipush (pc := 17) hR (dc dt_X10_digest 10 rfl) (by decide) ?_
    refine r_imul (pc := 19) hR (dc dt_X10_digest 11 rfl) ?_
    refine r_aload_n (pc := 20) hR (dc dt_X10_digest 12 rfl) rfl ?_
    refine r_getr (pc := 21) (k2 := 4) hR (dc dt_X10_digest 13 rfl) fl_X10_19 tc_0 rfl ?_
    refine r_iload_n (pc := 24) hR (dc dt_X10_digest 14 rfl) rfl ?_
    obtain ⟨r25, e25, h⟩ := b1_some h
    refine r_callV (pc := 25) (rest := [iv (w32 (v1 * 31))]) hR (dc dt_X10_digest 15 rfl) cl_X10_263 tc_4 rfl (ok_F1_motherOf qv2 e25) (by decide) rfl (Nat.le_of_ble_eq_true rfl) rfl (fun q25r => ?_)
    show Go 28 [some (.ref (ad 0)), some (iv v1), some (iv v2), none] [iv r25, iv (w32 (v1 * 31))] m
    refine r_iadd (pc := 28) hR (dc dt_X10_digest 16 rfl) ?_
    refine r_iconst (pc := 29) hR (dc dt_X10_digest 17 rfl) ?_
    refine r_iadd (pc := 30) hR (dc dt_X10_digest 18 rfl) ?_
    refine r_istore_n (pc := 31) (L' := [some (.ref (ad 0)), some (iv (w32 ((w32 ((w32 (v1 * 31)) + r25)) + 1))), some (iv v2), none]) hR (dc dt_X10_digest 19 rfl) (by decide) rfl rfl ?_
    refine r_iconst (pc := 32) hR (dc dt_X10_digest 20 rfl) ?_
    refine r_istore_n (pc := 33) (L' := [some (.ref (ad 0)), some (iv (w32 ((w32 ((w32 (v1 * 31)) + r25)) + 1))), some (iv v2), some (iv 0)]) hR (dc dt_X10_digest 21 rfl) (by decide) rfl rfl ?_
    refine lp_L10_digest_34 hR hT qv2 (fun v1_61 qv1_61 h => ?_) FU (w32 ((w32 ((w32 (v1 * 31)) + r25)) + 1)) 0 (w32_in _) (rg_c rfl) h
    show Go 61 [some (.ref (ad 0)), some (iv v1_61), some (iv v2), none] [] m
    refine r_iinc (pc := 61) (L' := [some (.ref (ad 0)), some (iv v1_61), some (iv (w32 (v2 + 1))), none]) hR (dc dt_X10_digest 37 rfl) rfl (by decide) rfl rfl ?_
    refine r_goto (pc := 64) (tgt := 5) hR (dc dt_X10_digest 38 rfl) (by decide) ?_
    exact ih v1_61 (w32 (v2 + 1)) qv1_61 (w32_in _) h
set_option maxRecDepth 100000 in
set_option maxHeartbeats 4000000 in
theorem lp_L10_digest_69 {Go : Nat → List (Option Value) → List Value → Mem → Prop} (hR : RS l G cy ad tt RX10 cX10_digest 4 2 Go) {out : Int} {m : Mem} (hT : RT cX10_digest (some (iv out)) (inR out) m (some .int) Go) : ∀ (n : Nat) (v1 : Int) (v2 : Int), inR v1 → inR v2 → L10_digest_69 m n v1 v2 = some out → Go 69 [some (.ref (ad 0)), some (iv v1), some (iv v2), none] [] m := by
  intro n
  induction n with
  | zero =>
    intro v1 v2 qv1 qv2 h
    cases h
  | succ n ih =>
    intro v1 v2 qv1 qv2 h
    rw [L10_digest_69] at h
    refine r_iload_n (pc := 69) hR (dc dt_X10_digest 41 rfl) rfl ?_
    refine r_iconst (pc := 70) hR (dc dt_X10_digest 42 rfl) ?_
    refine r_icmp_ge (pc := 71) (tgt := 94) hR (dc dt_X10_digest 43 rfl) (by decide) qv2 (rg_c rfl) (fun hc => ?_) (fun hc => ?_)
    · replace h := ite_t hc h
      refine r_iload_n (pc := 94) hR (dc dt_X10_digest 55 rfl) rfl ?_
      exact r_iret hT (dc dt_X10_digest 56 rfl) (Option.some.inj h) rfl qv1
    replace h := ite_f hc h
    refine r_iload_n (pc := 74) hR (dc dt_X10_digest 44 rfl) rfl ?_
    refine r_bipush (pc := 75) hR (dc dt_X10_digest 45 rfl) (by decide) ?_
    refine r_imul (pc := 77) hR (dc dt_X10_digest 46 rfl) ?_
    refine r_aload_n (pc := 78) hR (dc dt_X10_digest 47 rfl) rfl ?_
    refine r_getr (pc := 79) (k2 := 4) hR (dc dt_X10_digest 48 rfl) fl_X10_19 tc_0 rfl ?_
    refine r_iload_n (pc := 82) hR (dc dt_X10_digest 49 rfl) rfl ?_
    obtain ⟨r83, e83, h⟩ := b1_some h
    refine r_callV (pc := 83) (rest := [iv (w32 (v1 * 31))]) hR (dc dt_X10_digest 50 rfl) cl_X10_266 tc_4 rfl (ok_F1_costOf qv2 e83) (by decide) rfl (Nat.le_of_ble_eq_true rfl) rfl (fun q83r => ?_)
    show Go 86 [some (.ref (ad 0)), some (iv v1), some (iv v2), none] [iv r83, iv (w32 (v1 * 31))] m
    refine r_iadd (pc := 86) hR (dc dt_X10_digest 51 rfl) ?_
    refine r_istore_n (pc := 87) (L' := [some (.ref (ad 0)), some (iv (w32 ((w32 (v1 * 31)) + r83))), some (iv v2), none]) hR (dc dt_X10_digest 52 rfl) (by decide) rfl rfl ?_
    refine r_iinc (pc := 88) (L' := [some (.ref (ad 0)), some (iv (w32 ((w32 (v1 * 31)) + r83))), some (iv (w32 (v2 + 1))), none]) hR (dc dt_X10_digest 53 rfl) rfl (by decide) rfl rfl ?_
    refine r_goto (pc := 91) (tgt := 69) hR (dc dt_X10_digest 54 rfl) (by decide) ?_
    exact ih (w32 ((w32 (v1 * 31)) + r83)) (w32 (v2 + 1)) (w32_in _) (w32_in _) h
set_option maxRecDepth 100000 in
set_option maxHeartbeats 4000000 in
theorem ok_F10_digest {m : Mem}   {out : Int} (h : F10_digest m = some out) : CT l G cy ad tt yX10_digest cX10_digest 4 (some .int) 2 [.ref (ad 0)] m (some (iv out)) (inR out) m := by
  refine CT_of (by decide) (Nat.le_of_ble_eq_true rfl) (fun Go hR hT => ?_)
  replace hR : RS l G cy ad tt RX10 cX10_digest 4 2 Go := hR
  show Go 0 [some (.ref (ad 0)), none, none, none] [] m
  unfold F10_digest at h
  refine r_bipush (pc := 0) hR (dc dt_X10_digest 0 rfl) (by decide) ?_
  refine r_istore_n (pc := 2) (L' := [some (.ref (ad 0)), some (iv 7), none, none]) hR (dc dt_X10_digest 1 rfl) (by decide) rfl rfl ?_
  refine r_iconst (pc := 3) hR (dc dt_X10_digest 2 rfl) ?_
  refine r_istore_n (pc := 4) (L' := [some (.ref (ad 0)), some (iv 7), some (iv 0), none]) hR (dc dt_X10_digest 3 rfl) (by decide) rfl rfl ?_
  refine lp_L10_digest_5 hR hT (fun v1_67 qv1_67 h => ?_) FU 7 0 (rg_c rfl) (rg_c rfl) h
  show Go 67 [some (.ref (ad 0)), some (iv v1_67), none, none] [] m
  refine r_iconst (pc := 67) hR (dc dt_X10_digest 39 rfl) ?_
  refine r_istore_n (pc := 68) (L' := [some (.ref (ad 0)), some (iv v1_67), some (iv 0), none]) hR (dc dt_X10_digest 40 rfl) (by decide) rfl rfl ?_
  refine lp_L10_digest_69 hR hT FU v1_67 0 qv1_67 (rg_c rfl) h
def tb_X5_isKind : List (Nat × (Instr × Nat)) := [(0, (.iload_n 0, 1)), (1, (.ifCond .lt 13, 3)), (4, (.iload_n 0, 1)), (5, (.bipush 6, 2)), (7, (.if_icmp .gt 7, 3)), (10, (.iconst 1, 1)), (11, (.goto 4, 3)), (14, (.iconst 0, 1)), (15, (.ireturn, 1))]
set_option maxRecDepth 100000 in
theorem dt_X5_isKind : (tb_X5_isKind.all fun q => decide (decode cX5_isKind q.1 = .ok q.2)) = true := by decide +kernel
set_option maxRecDepth 100000 in
set_option maxHeartbeats 4000000 in
theorem ok_F5_isKind {m : Mem}  {v0 : Int} (q0 : inR v0) : CT l G cy ad tt yX5_isKind cX5_isKind 1 (some .boolean) 0 [iv v0] m (some (iv (F5_isKind v0))) (inZ (F5_isKind v0)) m := by
  refine CT_of (by decide) (Nat.le_of_ble_eq_true rfl) (fun Go hR hT => ?_)
  replace hR : RS l G cy ad tt RX5 cX5_isKind 1 0 Go := hR
  show Go 0 [some (iv v0)] [] m
  obtain ⟨out, h⟩ : ∃ out, F5_isKind v0 = out := ⟨_, rfl⟩
  rw [h] at hT
  unfold F5_isKind at h
  refine r_iload_n (pc := 0) hR (dc dt_X5_isKind 0 rfl) rfl ?_
  refine jn_e h (fun (K : Int) => K = out → Go 14 [none] [] m) (fun h => ?_) (fun K14 J14 h => ?_)
  · refine r_iconst (pc := 14) hR (dc dt_X5_isKind 7 rfl) ?_
    exact r_zret hT (dc dt_X5_isKind 8 rfl) h rfl (Or.inl rfl)
  refine r_if_lt (pc := 1) (tgt := 14) hR (dc dt_X5_isKind 1 rfl) (by decide) q0 (fun hc => ?_) (fun hc => ?_)
  · replace h := ite_t hc h
    refine r_weak (L' := [none]) hR ⟨Or.inl rfl, trivial⟩ ?_
    exact J14 h
  replace h := ite_f hc h
  refine r_iload_n (pc := 4) hR (dc dt_X5_isKind 2 rfl) rfl ?_
  refine r_bipush (pc := 5) hR (dc dt_X5_isKind 3 rfl) (by decide) ?_
  refine r_icmp_gt (pc := 7) (tgt := 14) hR (dc dt_X5_isKind 4 rfl) (by decide) q0 (rg_c rfl) (fun hc => ?_) (fun hc => ?_)
  · replace h := ite_t hc h
    refine r_weak (L' := [none]) hR ⟨Or.inl rfl, trivial⟩ ?_
    exact J14 h
  replace h := ite_f hc h
  refine r_iconst (pc := 10) hR (dc dt_X5_isKind 5 rfl) ?_
  refine r_goto (pc := 11) (tgt := 15) hR (dc dt_X5_isKind 6 rfl) (by decide) ?_
  exact r_zret hT (dc dt_X5_isKind 8 rfl) h rfl (Or.inr rfl)
def tb_X5_add : List (Nat × (Instr × Nat)) := [(0, (.aload_n 0, 1)), (1, (.getfield 9, 3)), (4, (.aload_n 0, 1)), (5, (.getfield 26, 3)), (8, (.iload_n 1, 1)), (9, (.iastore, 1)), (10, (.aload_n 0, 1)), (11, (.getfield 16, 3)), (14, (.aload_n 0, 1)), (15, (.getfield 26, 3)), (18, (.iload_n 2, 1)), (19, (.iastore, 1)), (20, (.aload_n 0, 1)), (21, (.dup, 1)), (22, (.getfield 26, 3)), (25, (.iconst 1, 1)), (26, (.iadd, 1)), (27, (.putfield 26, 3)), (30, (.aload_n 0, 1)), (31, (.getfield 26, 3)), (34, (.iconst 1, 1)), (35, (.isub, 1)), (36, (.ireturn, 1))]
set_option maxRecDepth 100000 in
theorem dt_X5_add : (tb_X5_add.all fun q => decide (decode cX5_add q.1 = .ok q.2)) = true := by decide +kernel
set_option maxRecDepth 100000 in
set_option maxHeartbeats 4000000 in
theorem ok_F5_add {m : Mem}  {v1 v2 : Int} (q1 : inR v1) (q2 : inR v2) {out : Int × Mem} (h : F5_add m v1 v2 = some out) : CT l G cy ad tt yX5_add cX5_add 3 (some .int) 0 [.ref (ad 66), iv v1, iv v2] m (some (iv out.1)) (inR out.1) out.2 := by
  refine CT_of (by decide) (Nat.le_of_ble_eq_true rfl) (fun Go hR hT => ?_)
  replace hR : RS l G cy ad tt RX5 cX5_add 3 0 Go := hR
  show Go 0 [some (.ref (ad 66)), some (iv v1), some (iv v2)] [] m
  unfold F5_add at h
  refine r_aload_n (pc := 0) hR (dc dt_X5_add 0 rfl) rfl ?_
  refine r_getr (pc := 1) (k2 := 67) hR (dc dt_X5_add 1 rfl) fl_X5_9 tc_66 rfl ?_
  refine r_aload_n (pc := 4) hR (dc dt_X5_add 2 rfl) rfl ?_
  refine r_geti (pc := 5) hR (dc dt_X5_add 3 rfl) fl_X5_26 tc_66 rfl ?_
  refine r_iload_n (pc := 8) hR (dc dt_X5_add 4 rfl) rfl ?_
  obtain ⟨g1, h⟩ := gd_some h
  refine r_iast (pc := 9) hR (dc dt_X5_add 5 rfl) tc_67 g1 (rd_in _ _ _) ?_
  replace h := stw_e h
  generalize wr m 67 (rd m 66 0) v1 = m9 at h ⊢
  refine r_aload_n (pc := 10) hR (dc dt_X5_add 6 rfl) rfl ?_
  refine r_getr (pc := 11) (k2 := 69) hR (dc dt_X5_add 7 rfl) fl_X5_16 tc_66 rfl ?_
  refine r_aload_n (pc := 14) hR (dc dt_X5_add 8 rfl) rfl ?_
  refine r_geti (pc := 15) hR (dc dt_X5_add 9 rfl) fl_X5_26 tc_66 rfl ?_
  refine r_iload_n (pc := 18) hR (dc dt_X5_add 10 rfl) rfl ?_
  obtain ⟨g1, h⟩ := gd_some h
  refine r_iast (pc := 19) hR (dc dt_X5_add 11 rfl) tc_69 g1 (rd_in _ _ _) ?_
  replace h := stw_e h
  generalize wr m9 69 (rd m9 66 0) v2 = m19 at h ⊢
  refine r_aload_n (pc := 20) hR (dc dt_X5_add 12 rfl) rfl ?_
  refine r_dup (pc := 21) hR (dc dt_X5_add 13 rfl) rfl ?_
  refine r_geti (pc := 22) hR (dc dt_X5_add 14 rfl) fl_X5_26 tc_66 rfl ?_
  refine r_iconst (pc := 25) hR (dc dt_X5_add 15 rfl) ?_
  refine r_iadd (pc := 26) hR (dc dt_X5_add 16 rfl) ?_
  refine r_puti (pc := 27) hR (dc dt_X5_add 17 rfl) fl_X5_26 tc_66 rfl rfl rfl ?_
  replace h := stw_e h
  generalize wr m19 66 0 (w32 ((rd m19 66 0) + 1)) = m27 at h ⊢
  refine r_aload_n (pc := 30) hR (dc dt_X5_add 18 rfl) rfl ?_
  refine r_geti (pc := 31) hR (dc dt_X5_add 19 rfl) fl_X5_26 tc_66 rfl ?_
  refine r_iconst (pc := 34) hR (dc dt_X5_add 20 rfl) ?_
  refine r_isub (pc := 35) hR (dc dt_X5_add 21 rfl) ?_
  exact r_iret hT (dc dt_X5_add 22 rfl) (congrArg Prod.fst (Option.some.inj h)) (congrArg Prod.snd (Option.some.inj h)) (w32_in _)
def tb_X10_path : List (Nat × (Instr × Nat)) := [(0, (.iload_n 1, 1)), (1, (.invokestatic 269, 3)), (4, (.ifCond .eq 14, 3)), (7, (.aload_n 0, 1)), (8, (.getfield 19, 3)), (11, (.iload_n 2, 1)), (12, (.invokevirtual 112, 3)), (15, (.ifCond .ne 5, 3)), (18, (.iconst (-1), 1)), (19, (.ireturn, 1)), (20, (.aload_n 0, 1)), (21, (.getfield 65, 3)), (24, (.getfield 272, 3)), (27, (.bipush 100, 2)), (29, (.if_icmp .lt 8, 3)), (32, (.bipush (-3), 2)), (34, (.goto 12, 3)), (37, (.aload_n 0, 1)), (38, (.getfield 65, 3)), (41, (.iload_n 1, 1)), (42, (.iload_n 2, 1)), (43, (.invokevirtual 273, 3)), (46, (.ireturn, 1))]
set_option maxRecDepth 100000 in
theorem dt_X10_path : (tb_X10_path.all fun q => decide (decode cX10_path q.1 = .ok q.2)) = true := by decide +kernel
set_option maxRecDepth 100000 in
set_option maxHeartbeats 4000000 in
theorem ok_F10_path {m : Mem}  {v1 v2 : Int} (q1 : inR v1) (q2 : inR v2) {out : Int × Mem} (h : F10_path m v1 v2 = some out) : CT l G cy ad tt yX10_path cX10_path 3 (some .int) 1 [.ref (ad 0), iv v1, iv v2] m (some (iv out.1)) (inR out.1) out.2 := by
  refine CT_of (by decide) (Nat.le_of_ble_eq_true rfl) (fun Go hR hT => ?_)
  replace hR : RS l G cy ad tt RX10 cX10_path 3 1 Go := hR
  show Go 0 [some (.ref (ad 0)), some (iv v1), some (iv v2)] [] m
  unfold F10_path at h
  refine r_iload_n (pc := 0) hR (dc dt_X10_path 0 rfl) rfl ?_
  refine r_callS (pc := 1) (rest := []) hR (dc dt_X10_path 1 rfl) cl_X10_269 (ok_F5_isKind q1) (by decide) rfl (Nat.le_of_ble_eq_true rfl) rfl (fun q1r => ?_)
  show Go 4 [some (.ref (ad 0)), some (iv v1), some (iv v2)] [iv (F5_isKind v1)] m
  refine r_if_eq (pc := 4) (tgt := 18) hR (dc dt_X10_path 2 rfl) (by decide) (inZ_R q1r) (fun hc => ?_) (fun hc => ?_)
  · replace h := ite_t hc h
    refine r_iconst (pc := 18) hR (dc dt_X10_path 8 rfl) ?_
    exact r_iret hT (dc dt_X10_path 9 rfl) (congrArg Prod.fst (Option.some.inj h)) (congrArg Prod.snd (Option.some.inj h)) (rg_c rfl)
  replace h := ite_f hc h
  refine r_aload_n (pc := 7) hR (dc dt_X10_path 3 rfl) rfl ?_
  refine r_getr (pc := 8) (k2 := 4) hR (dc dt_X10_path 4 rfl) fl_X10_19 tc_0 rfl ?_
  refine r_iload_n (pc := 11) hR (dc dt_X10_path 5 rfl) rfl ?_
  refine r_callV (pc := 12) (rest := []) hR (dc dt_X10_path 6 rfl) cl_X10_112 tc_4 rfl (ok_F1_has q2) (by decide) rfl (Nat.le_of_ble_eq_true rfl) rfl (fun q12r => ?_)
  show Go 15 [some (.ref (ad 0)), some (iv v1), some (iv v2)] [iv (F1_has m v2)] m
  refine r_if_ne (pc := 15) (tgt := 20) hR (dc dt_X10_path 7 rfl) (by decide) (inZ_R q12r) (fun hc => ?_) (fun hc => ?_)
  · replace h := ite_t hc h
    refine r_aload_n (pc := 20) hR (dc dt_X10_path 10 rfl) rfl ?_
    refine r_getr (pc := 21) (k2 := 66) hR (dc dt_X10_path 11 rfl) fl_X10_65 tc_0 rfl ?_
    refine r_geti (pc := 24) hR (dc dt_X10_path 12 rfl) fl_X10_272 tc_66 rfl ?_
    refine r_bipush (pc := 27) hR (dc dt_X10_path 13 rfl) (by decide) ?_
    refine r_icmp_lt (pc := 29) (tgt := 37) hR (dc dt_X10_path 14 rfl) (by decide) (rd_in _ _ _) (rg_c rfl) (fun hc => ?_) (fun hc => ?_)
    · replace h := ite_t hc h
      refine r_aload_n (pc := 37) hR (dc dt_X10_path 17 rfl) rfl ?_
      refine r_getr (pc := 38) (k2 := 66) hR (dc dt_X10_path 18 rfl) fl_X10_65 tc_0 rfl ?_
      refine r_iload_n (pc := 41) hR (dc dt_X10_path 19 rfl) rfl ?_
      refine r_iload_n (pc := 42) hR (dc dt_X10_path 20 rfl) rfl ?_
      obtain ⟨r43, m43, e43, h⟩ := b2_some h
      refine r_callV (pc := 43) (rest := []) hR (dc dt_X10_path 21 rfl) cl_X10_273 tc_66 rfl (ok_F5_add q1 q2 e43) (by decide) rfl (Nat.le_of_ble_eq_true rfl) rfl (fun q43r => ?_)
      show Go 46 [some (.ref (ad 0)), some (iv v1), some (iv v2)] [iv r43] m43
      exact r_iret hT (dc dt_X10_path 22 rfl) (congrArg Prod.fst (Option.some.inj h)) (congrArg Prod.snd (Option.some.inj h)) q43r
    replace h := ite_f hc h
    refine r_bipush (pc := 32) hR (dc dt_X10_path 15 rfl) (by decide) ?_
    refine r_goto (pc := 34) (tgt := 46) hR (dc dt_X10_path 16 rfl) (by decide) ?_
    exact r_iret hT (dc dt_X10_path 22 rfl) (congrArg Prod.fst (Option.some.inj h)) (congrArg Prod.snd (Option.some.inj h)) (rg_c rfl)
  replace h := ite_f hc h
  refine r_iconst (pc := 18) hR (dc dt_X10_path 8 rfl) ?_
  exact r_iret hT (dc dt_X10_path 9 rfl) (congrArg Prod.fst (Option.some.inj h)) (congrArg Prod.snd (Option.some.inj h)) (rg_c rfl)
def tb_X5_has : List (Nat × (Instr × Nat)) := [(0, (.iload_n 1, 1)), (1, (.ifCond .lt 15, 3)), (4, (.iload_n 1, 1)), (5, (.aload_n 0, 1)), (6, (.getfield 26, 3)), (9, (.if_icmp .ge 7, 3)), (12, (.iconst 1, 1)), (13, (.goto 4, 3)), (16, (.iconst 0, 1)), (17, (.ireturn, 1))]
set_option maxRecDepth 100000 in
theorem dt_X5_has : (tb_X5_has.all fun q => decide (decode cX5_has q.1 = .ok q.2)) = true := by decide +kernel
set_option maxRecDepth 100000 in
set_option maxHeartbeats 4000000 in
theorem ok_F5_has {m : Mem}  {v1 : Int} (q1 : inR v1) : CT l G cy ad tt yX5_has cX5_has 2 (some .boolean) 0 [.ref (ad 66), iv v1] m (some (iv (F5_has m v1))) (inZ (F5_has m v1)) m := by
  refine CT_of (by decide) (Nat.le_of_ble_eq_true rfl) (fun Go hR hT => ?_)
  replace hR : RS l G cy ad tt RX5 cX5_has 2 0 Go := hR
  show Go 0 [some (.ref (ad 66)), some (iv v1)] [] m
  obtain ⟨out, h⟩ : ∃ out, F5_has m v1 = out := ⟨_, rfl⟩
  rw [h] at hT
  unfold F5_has at h
  refine r_iload_n (pc := 0) hR (dc dt_X5_has 0 rfl) rfl ?_
  refine jn_e h (fun (K : Int) => K = out → Go 16 [none, none] [] m) (fun h => ?_) (fun K16 J16 h => ?_)
  · refine r_iconst (pc := 16) hR (dc dt_X5_has 8 rfl) ?_
    exact r_zret hT (dc dt_X5_has 9 rfl) h rfl (Or.inl rfl)
  refine r_if_lt (pc := 1) (tgt := 16) hR (dc dt_X5_has 1 rfl) (by decide) q1 (fun hc => ?_) (fun hc => ?_)
  · replace h := ite_t hc h
    refine r_weak (L' := [none, none]) hR ⟨Or.inl rfl, Or.inl rfl, trivial⟩ ?_
    exact J16 h
  replace h := ite_f hc h
  refine r_iload_n (pc := 4) hR (dc dt_X5_has 2 rfl) rfl ?_
  refine r_aload_n (pc := 5) hR (dc dt_X5_has 3 rfl) rfl ?_
  refine r_geti (pc := 6) hR (dc dt_X5_has 4 rfl) fl_X5_26 tc_66 rfl ?_
  refine r_icmp_ge (pc := 9) (tgt := 16) hR (dc dt_X5_has 5 rfl) (by decide) q1 (rd_in _ _ _) (fun hc => ?_) (fun hc => ?_)
  · replace h := ite_t hc h
    refine r_weak (L' := [none, none]) hR ⟨Or.inl rfl, Or.inl rfl, trivial⟩ ?_
    exact J16 h
  replace h := ite_f hc h
  refine r_iconst (pc := 12) hR (dc dt_X5_has 6 rfl) ?_
  refine r_goto (pc := 13) (tgt := 17) hR (dc dt_X5_has 7 rfl) (by decide) ?_
  exact r_zret hT (dc dt_X5_has 9 rfl) h rfl (Or.inr rfl)
def tb_X5_began : List (Nat × (Instr × Nat)) := [(0, (.aload_n 0, 1)), (1, (.getfield 52, 3)), (4, (.bipush 24, 2)), (6, (.if_icmp .ge 13, 3)), (9, (.aload_n 0, 1)), (10, (.getfield 13, 3)), (13, (.aload_n 0, 1)), (14, (.getfield 52, 3)), (17, (.iload_n 1, 1)), (18, (.iastore, 1)), (19, (.aload_n 0, 1)), (20, (.dup, 1)), (21, (.getfield 52, 3)), (24, (.iconst 1, 1)), (25, (.iadd, 1)), (26, (.putfield 52, 3)), (29, (.return_, 1))]
set_option maxRecDepth 100000 in
theorem dt_X5_began : (tb_X5_began.all fun q => decide (decode cX5_began q.1 = .ok q.2)) = true := by decide +kernel
set_option maxRecDepth 100000 in
set_option maxHeartbeats 4000000 in
theorem ok_F5_began {m : Mem}  {v1 : Int} (q1 : inR v1) {out : Mem} (h : F5_began m v1 = some out) : CT l G cy ad tt yX5_began cX5_began 2 none 0 [.ref (ad 66), iv v1] m none True out := by
  refine CT_of (by decide) (Nat.le_of_ble_eq_true rfl) (fun Go hR hT => ?_)
  replace hR : RS l G cy ad tt RX5 cX5_began 2 0 Go := hR
  show Go 0 [some (.ref (ad 66)), some (iv v1)] [] m
  unfold F5_began at h
  refine r_aload_n (pc := 0) hR (dc dt_X5_began 0 rfl) rfl ?_
  refine r_geti (pc := 1) hR (dc dt_X5_began 1 rfl) fl_X5_52 tc_66 rfl ?_
  refine r_bipush (pc := 4) hR (dc dt_X5_began 2 rfl) (by decide) ?_
  refine jn_e h (fun (K : Mem → Option Mem) => ∀ (m_19 : Mem), K m_19 = some out → Go 19 [some (.ref (ad 66)), none] [] m_19) (fun m_19 h => ?_) (fun K19 J19 h => ?_)
  · refine r_aload_n (pc := 19) hR (dc dt_X5_began 10 rfl) rfl ?_
    refine r_dup (pc := 20) hR (dc dt_X5_began 11 rfl) rfl ?_
    refine r_geti (pc := 21) hR (dc dt_X5_began 12 rfl) fl_X5_52 tc_66 rfl ?_
    refine r_iconst (pc := 24) hR (dc dt_X5_began 13 rfl) ?_
    refine r_iadd (pc := 25) hR (dc dt_X5_began 14 rfl) ?_
    refine r_puti (pc := 26) hR (dc dt_X5_began 15 rfl) fl_X5_52 tc_66 rfl rfl rfl ?_
    replace h := stw_e h
    generalize wr m_19 66 1 (w32 ((rd m_19 66 1) + 1)) = m26 at h ⊢
    exact r_vret hT (dc dt_X5_began 16 rfl) (Option.some.inj h)
  refine r_icmp_ge (pc := 6) (tgt := 19) hR (dc dt_X5_began 3 rfl) (by decide) (rd_in _ _ _) (rg_c rfl) (fun hc => ?_) (fun hc => ?_)
  · replace h := ite_t hc h
    refine r_weak (L' := [some (.ref (ad 66)), none]) hR ⟨Or.inr rfl, Or.inl rfl, trivial⟩ ?_
    exact J19 m h
  replace h := ite_f hc h
  refine r_aload_n (pc := 9) hR (dc dt_X5_began 4 rfl) rfl ?_
  refine r_getr (pc := 10) (k2 := 68) hR (dc dt_X5_began 5 rfl) fl_X5_13 tc_66 rfl ?_
  refine r_aload_n (pc := 13) hR (dc dt_X5_began 6 rfl) rfl ?_
  refine r_geti (pc := 14) hR (dc dt_X5_began 7 rfl) fl_X5_52 tc_66 rfl ?_
  refine r_iload_n (pc := 17) hR (dc dt_X5_began 8 rfl) rfl ?_
  obtain ⟨g1, h⟩ := gd_some h
  refine r_iast (pc := 18) hR (dc dt_X5_began 9 rfl) tc_68 g1 (rd_in _ _ _) ?_
  replace h := stw_e h
  generalize wr m 68 (rd m 66 1) v1 = m18 at h ⊢
  refine r_weak (L' := [some (.ref (ad 66)), none]) hR ⟨Or.inr rfl, Or.inl rfl, trivial⟩ ?_
  exact J19 m18 h
def tb_X5_costs : List (Nat × (Instr × Nat)) := [(0, (.aload_n 0, 1)), (1, (.getfield 30, 3)), (4, (.iconst 3, 1)), (5, (.if_icmp .ne 23, 3)), (8, (.aload_n 0, 1)), (9, (.bipush 40, 2)), (11, (.invokevirtual 55, 3)), (14, (.aload_n 0, 1)), (15, (.iconst 1, 1)), (16, (.invokevirtual 55, 3)), (19, (.iload_n 1, 1)), (20, (.aload_n 0, 1)), (21, (.getfield 33, 3)), (24, (.iadd, 1)), (25, (.iconst 1, 1)), (26, (.isub, 1)), (27, (.ireturn, 1)), (28, (.aload_n 0, 1)), (29, (.getfield 30, 3)), (32, (.iconst 5, 1)), (33, (.if_icmp .ne 23, 3)), (36, (.aload_n 0, 1)), (37, (.bipush 60, 2)), (39, (.invokevirtual 55, 3)), (42, (.aload_n 0, 1)), (43, (.iconst 1, 1)), (44, (.invokevirtual 55, 3)), (47, (.iload_n 1, 1)), (48, (.iconst 1, 1)), (49, (.iadd, 1)), (50, (.aload_n 0, 1)), (51, (.getfield 33, 3)), (54, (.iadd, 1)), (55, (.ireturn, 1)), (56, (.aload_n 0, 1)), (57, (.iconst 1, 1)), (58, (.invokevirtual 55, 3)), (61, (.iload_n 1, 1)), (62, (.aload_n 0, 1)), (63, (.getfield 33, 3)), (66, (.iadd, 1)), (67, (.ireturn, 1))]
set_option maxRecDepth 100000 in
theorem dt_X5_costs : (tb_X5_costs.all fun q => decide (decode cX5_costs q.1 = .ok q.2)) = true := by decide +kernel
set_option maxRecDepth 100000 in
set_option maxHeartbeats 4000000 in
theorem ok_F5_costs {m : Mem}  {v1 : Int} (q1 : inR v1) {out : Int × Mem} (h : F5_costs m v1 = some out) : CT l G cy ad tt yX5_costs cX5_costs 2 (some .int) 1 [.ref (ad 66), iv v1] m (some (iv out.1)) (inR out.1) out.2 := by
  refine CT_of (by decide) (Nat.le_of_ble_eq_true rfl) (fun Go hR hT => ?_)
  replace hR : RS l G cy ad tt RX5 cX5_costs 2 1 Go := hR
  show Go 0 [some (.ref (ad 66)), some (iv v1)] [] m
  unfold F5_costs at h
  refine r_aload_n (pc := 0) hR (dc dt_X5_costs 0 rfl) rfl ?_
  refine r_geti (pc := 1) hR (dc dt_X5_costs 1 rfl) fl_X5_30 tc_66 rfl ?_
  refine r_iconst (pc := 4) hR (dc dt_X5_costs 2 rfl) ?_
  refine r_icmp_ne (pc := 5) (tgt := 28) hR (dc dt_X5_costs 3 rfl) (by decide) (rd_in _ _ _) (rg_c rfl) (fun hc => ?_) (fun hc => ?_)
  · replace h := ite_t hc h
    refine r_aload_n (pc := 28) hR (dc dt_X5_costs 17 rfl) rfl ?_
    refine r_geti (pc := 29) hR (dc dt_X5_costs 18 rfl) fl_X5_30 tc_66 rfl ?_
    refine r_iconst (pc := 32) hR (dc dt_X5_costs 19 rfl) ?_
    refine r_icmp_ne (pc := 33) (tgt := 56) hR (dc dt_X5_costs 20 rfl) (by decide) (rd_in _ _ _) (rg_c rfl) (fun hc => ?_) (fun hc => ?_)
    · replace h := ite_t hc h
      refine r_aload_n (pc := 56) hR (dc dt_X5_costs 34 rfl) rfl ?_
      refine r_iconst (pc := 57) hR (dc dt_X5_costs 35 rfl) ?_
      obtain ⟨m58, e58, h⟩ := b1_some h
      refine r_callV (pc := 58) (rest := []) hR (dc dt_X5_costs 36 rfl) cl_X5_55 tc_66 rfl (ok_F5_began (rg_c rfl) e58) (by decide) rfl (Nat.le_of_ble_eq_true rfl) rfl (fun q58r => ?_)
      show Go 61 [some (.ref (ad 66)), some (iv v1)] [] m58
      refine r_iload_n (pc := 61) hR (dc dt_X5_costs 37 rfl) rfl ?_
      refine r_aload_n (pc := 62) hR (dc dt_X5_costs 38 rfl) rfl ?_
      refine r_geti (pc := 63) hR (dc dt_X5_costs 39 rfl) fl_X5_33 tc_66 rfl ?_
      refine r_iadd (pc := 66) hR (dc dt_X5_costs 40 rfl) ?_
      exact r_iret hT (dc dt_X5_costs 41 rfl) (congrArg Prod.fst (Option.some.inj h)) (congrArg Prod.snd (Option.some.inj h)) (w32_in _)
    replace h := ite_f hc h
    refine r_aload_n (pc := 36) hR (dc dt_X5_costs 21 rfl) rfl ?_
    refine r_bipush (pc := 37) hR (dc dt_X5_costs 22 rfl) (by decide) ?_
    obtain ⟨m39, e39, h⟩ := b1_some h
    refine r_callV (pc := 39) (rest := []) hR (dc dt_X5_costs 23 rfl) cl_X5_55 tc_66 rfl (ok_F5_began (rg_c rfl) e39) (by decide) rfl (Nat.le_of_ble_eq_true rfl) rfl (fun q39r => ?_)
    show Go 42 [some (.ref (ad 66)), some (iv v1)] [] m39
    refine r_aload_n (pc := 42) hR (dc dt_X5_costs 24 rfl) rfl ?_
    refine r_iconst (pc := 43) hR (dc dt_X5_costs 25 rfl) ?_
    obtain ⟨m44, e44, h⟩ := b1_some h
    refine r_callV (pc := 44) (rest := []) hR (dc dt_X5_costs 26 rfl) cl_X5_55 tc_66 rfl (ok_F5_began (rg_c rfl) e44) (by decide) rfl (Nat.le_of_ble_eq_true rfl) rfl (fun q44r => ?_)
    show Go 47 [some (.ref (ad 66)), some (iv v1)] [] m44
    refine r_iload_n (pc := 47) hR (dc dt_X5_costs 27 rfl) rfl ?_
    refine r_iconst (pc := 48) hR (dc dt_X5_costs 28 rfl) ?_
    refine r_iadd (pc := 49) hR (dc dt_X5_costs 29 rfl) ?_
    refine r_aload_n (pc := 50) hR (dc dt_X5_costs 30 rfl) rfl ?_
    refine r_geti (pc := 51) hR (dc dt_X5_costs 31 rfl) fl_X5_33 tc_66 rfl ?_
    refine r_iadd (pc := 54) hR (dc dt_X5_costs 32 rfl) ?_
    exact r_iret hT (dc dt_X5_costs 33 rfl) (congrArg Prod.fst (Option.some.inj h)) (congrArg Prod.snd (Option.some.inj h)) (w32_in _)
  replace h := ite_f hc h
  refine r_aload_n (pc := 8) hR (dc dt_X5_costs 4 rfl) rfl ?_
  refine r_bipush (pc := 9) hR (dc dt_X5_costs 5 rfl) (by decide) ?_
  obtain ⟨m11, e11, h⟩ := b1_some h
  refine r_callV (pc := 11) (rest := []) hR (dc dt_X5_costs 6 rfl) cl_X5_55 tc_66 rfl (ok_F5_began (rg_c rfl) e11) (by decide) rfl (Nat.le_of_ble_eq_true rfl) rfl (fun q11r => ?_)
  show Go 14 [some (.ref (ad 66)), some (iv v1)] [] m11
  refine r_aload_n (pc := 14) hR (dc dt_X5_costs 7 rfl) rfl ?_
  refine r_iconst (pc := 15) hR (dc dt_X5_costs 8 rfl) ?_
  obtain ⟨m16, e16, h⟩ := b1_some h
  refine r_callV (pc := 16) (rest := []) hR (dc dt_X5_costs 9 rfl) cl_X5_55 tc_66 rfl (ok_F5_began (rg_c rfl) e16) (by decide) rfl (Nat.le_of_ble_eq_true rfl) rfl (fun q16r => ?_)
  show Go 19 [some (.ref (ad 66)), some (iv v1)] [] m16
  refine r_iload_n (pc := 19) hR (dc dt_X5_costs 10 rfl) rfl ?_
  refine r_aload_n (pc := 20) hR (dc dt_X5_costs 11 rfl) rfl ?_
  refine r_geti (pc := 21) hR (dc dt_X5_costs 12 rfl) fl_X5_33 tc_66 rfl ?_
  refine r_iadd (pc := 24) hR (dc dt_X5_costs 13 rfl) ?_
  refine r_iconst (pc := 25) hR (dc dt_X5_costs 14 rfl) ?_
  refine r_isub (pc := 26) hR (dc dt_X5_costs 15 rfl) ?_
  exact r_iret hT (dc dt_X5_costs 16 rfl) (congrArg Prod.fst (Option.some.inj h)) (congrArg Prod.snd (Option.some.inj h)) (w32_in _)
end SIM
