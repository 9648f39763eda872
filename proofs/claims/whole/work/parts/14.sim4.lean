section SIM
variable {l : Launch} {G : va_G} {cy ad tt : Nat → Nat}
def tb_X11_digest : List (Nat × (Instr × Nat)) := [(0, (.bipush 7, 2)), (2, (.istore_n 1, 1)), (3, (.iconst 0, 1)), (4, (.istore_n 2, 1)), (5, (.iload_n 2, 1)), (6, (.aload_n 0, 1)), (7, (.getfield 138, 3)), (10, (.if_icmp .ge 54, 3)), (13, (.iload_n 1, 1)), (14, (.bipush 31, 2)), (16, (.imul, 1)), (17, (.aload_n 0, 1)), (18, (.getfield 23, 3)), (21, (.iload_n 2, 1)), (22, (.iaload, 1)), (23, (.iadd, 1)), (24, (.iconst 1, 1)), (25, (.iadd, 1)), (26, (.istore_n 1, 1)), (27, (.iconst 0, 1)), (28, (.istore_n 3, 1)), (29, (.iload_n 3, 1)), (30, (.bipush 16, 2)), (32, (.if_icmp .ge 26, 3)), (35, (.iload_n 1, 1)), (36, (.bipush 31, 2)), (38, (.imul, 1)), (39, (.aload_n 0, 1)), (40, (.getfield 26, 3)), (43, (.bipush 16, 2)), (45, (.iload_n 2, 1)), (46, (.imul, 1)), (47, (.iload_n 3, 1)), (48, (.iadd, 1)), (49, (.iaload, 1)), (50, (.iadd, 1)), (51, (.istore_n 1, 1)), (52, (.iinc 3 1, 3)), (55, (.goto (-26), 3)), (58, (.iinc 2 1, 3)), (61, (.goto (-56), 3)), (64, (.iconst 0, 1)), (65, (.istore_n 2, 1)), (66, (.iload_n 2, 1)), (67, (.iconst 5, 1)), (68, (.if_icmp .ge 21, 3)), (71, (.iload_n 1, 1)), (72, (.bipush 31, 2)), (74, (.imul, 1)), (75, (.aload_n 0, 1)), (76, (.getfield 29, 3)), (79, (.iload_n 2, 1)), (80, (.iaload, 1)), (81, (.iadd, 1)), (82, (.istore_n 1, 1)), (83, (.iinc 2 1, 3)), (86, (.goto (-20), 3)), (89, (.iload_n 1, 1)), (90, (.ireturn, 1))]
set_option maxRecDepth 100000 in
theorem dt_X11_digest : (tb_X11_digest.all fun q => decide (decode cX11_digest q.1 = .ok q.2)) = true := by decide +kernel
set_option maxRecDepth 100000 in
set_option maxHeartbeats 4000000 in
theorem lp_L11_digest_29 {Go : Nat → List (Option Value) → List Value → Mem → Prop} (hR : RS l G cy ad tt RX11 cX11_digest 4 0 Go) {out : Int} {m : Mem} (hT : RT cX11_digest (some (iv out)) (inR out) m (some .int) Go) {v2 : Int} (qv2 : inR v2) {k58 : Int → Option Int} (hk58 : ∀ (v1 : Int), inR v1 → k58 v1 = some out → Go 58 [some (.ref (ad 83)), some (iv v1), some (iv v2), none] [] m) : ∀ (n : Nat) (v1 : Int) (v3 : Int), inR v1 → inR v3 → L11_digest_29 m v2 k58 n v1 v3 = some out → Go 29 [some (.ref (ad 83)), some (iv v1), some (iv v2), some (iv v3)] [] m := by
  intro n
  induction n with
  | zero =>
    intro v1 v3 qv1 qv3 h
    cases h
  | succ n ih =>
    intro v1 v3 qv1 qv3 h
    rw [L11_digest_29] at h
    refine r_iload_n (pc := 29) hR (dc dt_X11_digest 21 rfl) rfl ?_
    refine r_bipush (pc := 30) hR (dc dt_X11_digest 22 rfl) (by decide) ?_
    refine r_icmp_ge (pc := 32) (tgt := 58) hR (dc dt_X11_digest 23 rfl) (by decide) qv3 (rg_c rfl) (fun hc => ?_) (fun hc => ?_)
    · replace h := ite_t hc h
      refine r_weak (L' := [some (.ref (ad 83)), some (iv v1), some (iv v2), none]) hR ⟨Or.inr rfl, Or.inr rfl, Or.inr rfl, Or.inl rfl, trivial⟩ ?_
      exact hk58 v1 qv1 h
    replace h := ite_f hc h
    refine r_iload_n (pc := 35) hR (dc dt_X11_digest 24 rfl) rfl ?_
    refine r_bipush (pc := 36) hR (dc dt_X11_digest 25 rfl) (by decide) ?_
    refine r_imul (pc := 38) hR (dc dt_X11_digest 26 rfl) ?_
    refine r_aload_n (pc := 39) hR (dc dt_X11_digest 27 rfl) rfl ?_
    refine r_getr (pc := 40) (k2 := 89) hR (dc dt_X11_digest 28 rfl) fl_X11_26 tc_83 rfl ?_
    refine r_bipush (pc := 43) hR (dc dt_X11_digest 29 rfl) (by decide) ?_
    refine r_iload_n (pc := 45) hR (dc dt_X11_digest 30 rfl) rfl ?_
    refine r_imul (pc := 46) hR (dc dt_X11_digest 31 rfl) ?_
    refine r_iload_n (pc := 47) hR (dc dt_X11_digest 32 rfl) rfl ?_
    refine r_iadd (pc := 48) hR (dc dt_X11_digest 33 rfl) ?_
    obtain ⟨g1, h⟩ := gd_some h
    refine r_iald (pc := 49) hR (dc dt_X11_digest 34 rfl) tc_89 g1 (w32_in _) ?_
    refine r_iadd (pc := 50) hR (dc dt_X11_digest 35 rfl) ?_
    refine r_istore_n (pc := 51) (L' := [some (.ref (ad 83)), some (iv (w32 ((w32 (v1 * 31)) + (rd m 89 (w32 ((w32 (16 * v2)) + v3)))))), some (iv v2), some (iv v3)]) hR (dc dt_X11_digest 36 rfl) (by decide) rfl rfl ?_
    refine r_iinc (pc := 52) (L' := [some (.ref (ad 83)), some (iv (w32 ((w32 (v1 * 31)) + (rd m 89 (w32 ((w32 (16 * v2)) + v3)))))), some (iv v2), some (iv (w32 (v3 + 1)))]) hR (dc dt_X11_digest 37 rfl) rfl (by decide) rfl rfl ?_
    refine r_goto (pc := 55) (tgt := 29) hR (dc dt_X11_digest 38 rfl) (by decide) ?_
    exact ih (w32 ((w32 (v1 * 31)) + (rd m 89 (w32 ((w32 (16 * v2)) + v3))))) (w32 (v3 + 1)) (w32_in _) (w32_in _) h
set_option maxRecDepth 100000 in
set_option maxHeartbeats 4000000 in
theorem lp_L11_digest_5 {Go : Nat → List (Option Value) → List Value → Mem → Prop} (hR : RS l G cy ad tt RX11 cX11_digest 4 0 Go) {out : Int} {m : Mem} (hT : RT cX11_digest (some (iv out)) (inR out) m (some .int) Go) {k64 : Int → Option Int} (hk64 : ∀ (v1 : Int), inR v1 → k64 v1 = some out → Go 64 [some (.ref (ad 83)), some (iv v1), none, none] [] m) : ∀ (n : Nat) (v1 : Int) (v2 : Int), inR v1 → inR v2 → L11_digest_5 m k64 n v1 v2 = some out → Go 5 [some (.ref (ad 83)), some (iv v1), some (iv v2), none] [] m := by
  intro n
  induction n with
  | zero =>
    intro v1 v2 qv1 qv2 h
    cases h
  | succ n ih =>
    intro v1 v2 qv1 qv2 h
    rw [L11_digest_5] at h
    refine r_iload_n (pc := 5) hR (dc dt_X11_digest 4 rfl) rfl ?_
    refine r_aload_n (pc := 6) hR (dc dt_X11_digest 5 rfl) rfl ?_
    refine r_geti (pc := 7) hR (dc dt_X11_digest 6 rfl) fl_X11_138 tc_83 rfl ?_
    refine r_icmp_ge (pc := 10) (tgt := 64) hR (dc dt_X11_digest 7 rfl) (by decide) qv2 (rd_in _ _ _) (fun hc => ?_) (fun hc => ?_)
    · replace h := ite_t hc h
      refine r_weak (L' := [some (.ref (ad 83)), some (iv v1), none, none]) hR ⟨Or.inr rfl, Or.inr rfl, Or.inl rfl, Or.inr rfl, trivial⟩ ?_
      exact hk64 v1 qv1 h
    replace h := ite_f hc h
    refine r_iload_n (pc := 13) hR (dc dt_X11_digest 8 rfl) rfl ?_
    refine r_bipush (pc := 14) hR (dc dt_X11_digest 9 rfl) (by decide) ?_
    refine r_imul (pc := 16) hR (dc dt_X11_digest 10 rfl) ?_
    refine r_aload_n (pc := 17) hR (dc dt_X11_digest 11 rfl) rfl ?_
    refine r_getr (pc := 18) (k2 := 88) hR (dc dt_X11_digest 12 rfl) fl_X11_23 tc_83 rfl ?_
    refine r_iload_n (pc := 21) hR (dc dt_X11_digest 13 rfl) rfl ?_
    obtain ⟨g1, h⟩ := gd_some h
    refine r_iald (pc := 22) hR (dc dt_X11_digest 14 rfl) tc_88 g1 qv2 ?_
    refine r_iadd (pc := 23) hR (dc dt_X11_digest 15 rfl) ?_
    refine r_iconst (pc := 24) hR (dc dt_X11_digest 16 rfl) ?_
    refine r_iadd (pc := 25) hR (dc dt_X11_digest 17 rfl) ?_
    refine r_istore_n (pc := 26) (L' := [some (.ref (ad 83)), some (iv (w32 ((w32 ((w32 (v1 * 31)) + (rd m 88 v2))) + 1))), some (iv v2), none]) hR (dc dt_X11_digest 18 rfl) (by decide) rfl rfl ?_
    refine r_iconst (pc := 27) hR (dc dt_X11_digest 19 rfl) ?_
    refine r_istore_n (pc := 28) (L' := [some (.ref (ad 83)), some (iv (w32 ((w32 ((w32 (v1 * 31)) + (rd m 88 v2))) + 1))), some (iv v2), some (iv 0)]) hR (dc dt_X11_digest 20 rfl) (by decide) rfl rfl ?_
    refine lp_L11_digest_29 hR hT qv2 (fun v1_58 qv1_58 h => ?_) FU (w32 ((w32 ((w32 (v1 * 31)) + (rd m 88 v2))) + 1)) 0 (w32_in _) (rg_c rfl) h
    show Go 58 [some (.ref (ad 83)), some (iv v1_58), some (iv v2), none] [] m
    refine r_iinc (pc := 58) (L' := [some (.ref (ad 83)), some (iv v1_58), some (iv (w32 (v2 + 1))), none]) hR (dc dt_X11_digest 39 rfl) rfl (by decide) rfl rfl ?_
    refine r_goto (pc := 61) (tgt := 5) hR (dc dt_X11_digest 40 rfl) (by decide) ?_
    exact ih v1_58 (w32 (v2 + 1)) qv1_58 (w32_in _) h
set_option maxRecDepth 100000 in
set_option maxHeartbeats 4000000 in
theorem lp_L11_digest_66 {Go : Nat → List (Option Value) → List Value → Mem → Prop} (hR : RS l G cy ad tt RX11 cX11_digest 4 0 Go) {out : Int} {m : Mem} (hT : RT cX11_digest (some (iv out)) (inR out) m (some .int) Go) : ∀ (n : Nat) (v1 : Int) (v2 : Int), inR v1 → inR v2 → L11_digest_66 m n v1 v2 = some out → Go 66 [some (.ref (ad 83)), some (iv v1), some (iv v2), none] [] m := by
  intro n
  induction n with
  | zero =>
    intro v1 v2 qv1 qv2 h
    cases h
  | succ n ih =>
    intro v1 v2 qv1 qv2 h
    rw [L11_digest_66] at h
    refine r_iload_n (pc := 66) hR (dc dt_X11_digest 43 rfl) rfl ?_
    refine r_iconst (pc := 67) hR (dc dt_X11_digest 44 rfl) ?_
    refine r_icmp_ge (pc := 68) (tgt := 89) hR (dc dt_X11_digest 45 rfl) (by decide) qv2 (rg_c rfl) (fun hc => ?_) (fun hc => ?_)
    · replace h := ite_t hc h
      refine r_iload_n (pc := 89) hR (dc dt_X11_digest 57 rfl) rfl ?_
      exact r_iret hT (dc dt_X11_digest 58 rfl) (Option.some.inj h) rfl qv1
    replace h := ite_f hc h
    refine r_iload_n (pc := 71) hR (dc dt_X11_digest 46 rfl) rfl ?_
    refine r_bipush (pc := 72) hR (dc dt_X11_digest 47 rfl) (by decide) ?_
    refine r_imul (pc := 74) hR (dc dt_X11_digest 48 rfl) ?_
    refine r_aload_n (pc := 75) hR (dc dt_X11_digest 49 rfl) rfl ?_
    refine r_getr (pc := 76) (k2 := 90) hR (dc dt_X11_digest 50 rfl) fl_X11_29 tc_83 rfl ?_
    refine r_iload_n (pc := 79) hR (dc dt_X11_digest 51 rfl) rfl ?_
    obtain ⟨g1, h⟩ := gd_some h
    refine r_iald (pc := 80) hR (dc dt_X11_digest 52 rfl) tc_90 g1 qv2 ?_
    refine r_iadd (pc := 81) hR (dc dt_X11_digest 53 rfl) ?_
    refine r_istore_n (pc := 82) (L' := [some (.ref (ad 83)), some (iv (w32 ((w32 (v1 * 31)) + (rd m 90 v2)))), some (iv v2), none]) hR (dc dt_X11_digest 54 rfl) (by decide) rfl rfl ?_
    refine r_iinc (pc := 83) (L' := [some (.ref (ad 83)), some (iv (w32 ((w32 (v1 * 31)) + (rd m 90 v2)))), some (iv (w32 (v2 + 1))), none]) hR (dc dt_X11_digest 55 rfl) rfl (by decide) rfl rfl ?_
    refine r_goto (pc := 86) (tgt := 66) hR (dc dt_X11_digest 56 rfl) (by decide) ?_
    exact ih (w32 ((w32 (v1 * 31)) + (rd m 90 v2))) (w32 (v2 + 1)) (w32_in _) (w32_in _) h
set_option maxRecDepth 100000 in
set_option maxHeartbeats 4000000 in
theorem ok_F11_digest {m : Mem}   {out : Int} (h : F11_digest m = some out) : CT l G cy ad tt yX11_digest cX11_digest 4 (some .int) 0 [.ref (ad 83)] m (some (iv out)) (inR out) m := by
  refine CT_of (by decide) (Nat.le_of_ble_eq_true rfl) (fun Go hR hT => ?_)
  replace hR : RS l G cy ad tt RX11 cX11_digest 4 0 Go := hR
  show Go 0 [some (.ref (ad 83)), none, none, none] [] m
  unfold F11_digest at h
  refine r_bipush (pc := 0) hR (dc dt_X11_digest 0 rfl) (by decide) ?_
  refine r_istore_n (pc := 2) (L' := [some (.ref (ad 83)), some (iv 7), none, none]) hR (dc dt_X11_digest 1 rfl) (by decide) rfl rfl ?_
  refine r_iconst (pc := 3) hR (dc dt_X11_digest 2 rfl) ?_
  refine r_istore_n (pc := 4) (L' := [some (.ref (ad 83)), some (iv 7), some (iv 0), none]) hR (dc dt_X11_digest 3 rfl) (by decide) rfl rfl ?_
  refine lp_L11_digest_5 hR hT (fun v1_64 qv1_64 h => ?_) FU 7 0 (rg_c rfl) (rg_c rfl) h
  show Go 64 [some (.ref (ad 83)), some (iv v1_64), none, none] [] m
  refine r_iconst (pc := 64) hR (dc dt_X11_digest 41 rfl) ?_
  refine r_istore_n (pc := 65) (L' := [some (.ref (ad 83)), some (iv v1_64), some (iv 0), none]) hR (dc dt_X11_digest 42 rfl) (by decide) rfl rfl ?_
  refine lp_L11_digest_66 hR hT FU v1_64 0 qv1_64 (rg_c rfl) h
def tb_X11_isAbove : List (Nat × (Instr × Nat)) := [(0, (.iload_n 2, 1)), (1, (.istore_n 3, 1)), (2, (.iload_n 3, 1)), (3, (.ifCond .lt 20, 3)), (6, (.iload_n 3, 1)), (7, (.iload_n 1, 1)), (8, (.if_icmp .ne 5, 3)), (11, (.iconst 1, 1)), (12, (.ireturn, 1)), (13, (.aload_n 0, 1)), (14, (.getfield 23, 3)), (17, (.iload_n 3, 1)), (18, (.iaload, 1)), (19, (.istore_n 3, 1)), (20, (.goto (-18), 3)), (23, (.iconst 0, 1)), (24, (.ireturn, 1))]
set_option maxRecDepth 100000 in
theorem dt_X11_isAbove : (tb_X11_isAbove.all fun q => decide (decode cX11_isAbove q.1 = .ok q.2)) = true := by decide +kernel
set_option maxRecDepth 100000 in
set_option maxHeartbeats 4000000 in
theorem lp_L11_isAbove_2 {Go : Nat → List (Option Value) → List Value → Mem → Prop} (hR : RS l G cy ad tt RX11 cX11_isAbove 4 0 Go) {out : Int} {m : Mem} (hT : RT cX11_isAbove (some (iv out)) (inZ out) m (some .boolean) Go) {v1 : Int} (qv1 : inR v1) : ∀ (n : Nat) (v3 : Int), inR v3 → L11_isAbove_2 m v1 n v3 = some out → Go 2 [some (.ref (ad 83)), some (iv v1), none, some (iv v3)] [] m := by
  intro n
  induction n with
  | zero =>
    intro v3 qv3 h
    cases h
  | succ n ih =>
    intro v3 qv3 h
    rw [L11_isAbove_2] at h
    refine r_iload_n (pc := 2) hR (dc dt_X11_isAbove 2 rfl) rfl ?_
    refine r_if_lt (pc := 3) (tgt := 23) hR (dc dt_X11_isAbove 3 rfl) (by decide) qv3 (fun hc => ?_) (fun hc => ?_)
    · replace h := ite_t hc h
      refine r_iconst (pc := 23) hR (dc dt_X11_isAbove 15 rfl) ?_
      exact r_zret hT (dc dt_X11_isAbove 16 rfl) (Option.some.inj h) rfl (Or.inl rfl)
    replace h := ite_f hc h
    refine r_iload_n (pc := 6) hR (dc dt_X11_isAbove 4 rfl) rfl ?_
    refine r_iload_n (pc := 7) hR (dc dt_X11_isAbove 5 rfl) rfl ?_
    refine r_icmp_ne (pc := 8) (tgt := 13) hR (dc dt_X11_isAbove 6 rfl) (by decide) qv3 qv1 (fun hc => ?_) (fun hc => ?_)
    · replace h := ite_t hc h
      refine r_aload_n (pc := 13) hR (dc dt_X11_isAbove 9 rfl) rfl ?_
      refine r_getr (pc := 14) (k2 := 88) hR (dc dt_X11_isAbove 10 rfl) fl_X11_23 tc_83 rfl ?_
      refine r_iload_n (pc := 17) hR (dc dt_X11_isAbove 11 rfl) rfl ?_
      obtain ⟨g1, h⟩ := gd_some h
      refine r_iald (pc := 18) hR (dc dt_X11_isAbove 12 rfl) tc_88 g1 qv3 ?_
      refine r_istore_n (pc := 19) (L' := [some (.ref (ad 83)), some (iv v1), none, some (iv (rd m 88 v3))]) hR (dc dt_X11_isAbove 13 rfl) (by decide) rfl rfl ?_
      refine r_goto (pc := 20) (tgt := 2) hR (dc dt_X11_isAbove 14 rfl) (by decide) ?_
      exact ih (rd m 88 v3) (rd_in _ _ _) h
    replace h := ite_f hc h
    refine r_iconst (pc := 11) hR (dc dt_X11_isAbove 7 rfl) ?_
    exact r_zret hT (dc dt_X11_isAbove 8 rfl) (Option.some.inj h) rfl (Or.inr rfl)
set_option maxRecDepth 100000 in
set_option maxHeartbeats 4000000 in
theorem ok_F11_isAbove {m : Mem}  {v1 v2 : Int} (q1 : inR v1) (q2 : inR v2) {out : Int} (h : F11_isAbove m v1 v2 = some out) : CT l G cy ad tt yX11_isAbove cX11_isAbove 4 (some .boolean) 0 [.ref (ad 83), iv v1, iv v2] m (some (iv out)) (inZ out) m := by
  refine CT_of (by decide) (Nat.le_of_ble_eq_true rfl) (fun Go hR hT => ?_)
  replace hR : RS l G cy ad tt RX11 cX11_isAbove 4 0 Go := hR
  show Go 0 [some (.ref (ad 83)), some (iv v1), some (iv v2), none] [] m
  unfold F11_isAbove at h
  refine r_iload_n (pc := 0) hR (dc dt_X11_isAbove 0 rfl) rfl ?_
  refine r_istore_n (pc := 1) (L' := [some (.ref (ad 83)), some (iv v1), some (iv v2), some (iv v2)]) hR (dc dt_X11_isAbove 1 rfl) (by decide) rfl rfl ?_
  refine r_weak (L' := [some (.ref (ad 83)), some (iv v1), none, some (iv v2)]) hR ⟨Or.inr rfl, Or.inr rfl, Or.inl rfl, Or.inr rfl, trivial⟩ ?_
  refine lp_L11_isAbove_2 hR hT q1 FU v2 q2 h
def tb_X11_mother : List (Nat × (Instr × Nat)) := [(0, (.aload_n 0, 1)), (1, (.iload_n 1, 1)), (2, (.invokevirtual 182, 3)), (5, (.ifCond .eq 21, 3)), (8, (.iload_n 2, 1)), (9, (.iconst (-1), 1)), (10, (.if_icmp .eq 11, 3)), (13, (.aload_n 0, 1)), (14, (.iload_n 2, 1)), (15, (.invokevirtual 182, 3)), (18, (.ifCond .eq 8, 3)), (21, (.iload_n 2, 1)), (22, (.iload_n 1, 1)), (23, (.if_icmp .ne 6, 3)), (26, (.ldc 209, 2)), (28, (.ireturn, 1)), (29, (.iload_n 2, 1)), (30, (.ifCond .lt 15, 3)), (33, (.aload_n 0, 1)), (34, (.iload_n 1, 1)), (35, (.iload_n 2, 1)), (36, (.invokevirtual 210, 3)), (39, (.ifCond .eq 6, 3)), (42, (.bipush (-2), 2)), (44, (.ireturn, 1)), (45, (.aload_n 0, 1)), (46, (.iconst 2, 1)), (47, (.iload_n 1, 1)), (48, (.iload_n 2, 1)), (49, (.invokevirtual 202, 3)), (52, (.ireturn, 1))]
set_option maxRecDepth 100000 in
theorem dt_X11_mother : (tb_X11_mother.all fun q => decide (decode cX11_mother q.1 = .ok q.2)) = true := by decide +kernel
set_option maxRecDepth 100000 in
set_option maxHeartbeats 4000000 in
theorem ok_F11_mother {m : Mem}  {v1 v2 : Int} (q1 : inR v1) (q2 : inR v2) {out : Int × Mem} (h : F11_mother m v1 v2 = some out) : CT l G cy ad tt yX11_mother cX11_mother 3 (some .int) 2 [.ref (ad 83), iv v1, iv v2] m (some (iv out.1)) (inR out.1) out.2 := by
  refine CT_of (by decide) (Nat.le_of_ble_eq_true rfl) (fun Go hR hT => ?_)
  replace hR : RS l G cy ad tt RX11 cX11_mother 3 2 Go := hR
  show Go 0 [some (.ref (ad 83)), some (iv v1), some (iv v2)] [] m
  unfold F11_mother at h
  refine r_aload_n (pc := 0) hR (dc dt_X11_mother 0 rfl) rfl ?_
  refine r_iload_n (pc := 1) hR (dc dt_X11_mother 1 rfl) rfl ?_
  refine r_callV (pc := 2) (rest := []) hR (dc dt_X11_mother 2 rfl) cl_X11_182 tc_83 rfl (ok_F11_isCharter q1) (by decide) rfl (Nat.le_of_ble_eq_true rfl) rfl (fun q2r => ?_)
  show Go 5 [some (.ref (ad 83)), some (iv v1), some (iv v2)] [iv (F11_isCharter m v1)] m
  refine r_if_eq (pc := 5) (tgt := 26) hR (dc dt_X11_mother 3 rfl) (by decide) (inZ_R q2r) (fun hc => ?_) (fun hc => ?_)
  · replace h := ite_t hc h
    refine r_ldc (pc := 26) hR (dc dt_X11_mother 14 rfl) kw_X11_209 ?_
    exact r_iret hT (dc dt_X11_mother 15 rfl) (congrArg Prod.fst (Option.some.inj h)) (congrArg Prod.snd (Option.some.inj h)) (rg_c rfl)
  replace h := ite_f hc h
  refine r_iload_n (pc := 8) hR (dc dt_X11_mother 4 rfl) rfl ?_
  refine r_iconst (pc := 9) hR (dc dt_X11_mother 5 rfl) ?_
  refine jn_e h (fun (K : Option (Int × Mem)) => K = some out → Go 21 [some (.ref (ad 83)), some (iv v1), some (iv v2)] [] m) (fun h => ?_) (fun K21 J21 h => ?_)
  · refine r_iload_n (pc := 21) hR (dc dt_X11_mother 11 rfl) rfl ?_
    refine r_iload_n (pc := 22) hR (dc dt_X11_mother 12 rfl) rfl ?_
    refine r_icmp_ne (pc := 23) (tgt := 29) hR (dc dt_X11_mother 13 rfl) (by decide) q2 q1 (fun hc => ?_) (fun hc => ?_)
    · replace h := ite_t hc h
      refine r_iload_n (pc := 29) hR (dc dt_X11_mother 16 rfl) rfl ?_
      refine jn_e h (fun (K : Option (Int × Mem)) => K = some out → Go 45 [some (.ref (ad 83)), some (iv v1), some (iv v2)] [] m) (fun h => ?_) (fun K45 J45 h => ?_)
      · refine r_aload_n (pc := 45) hR (dc dt_X11_mother 25 rfl) rfl ?_
        refine r_iconst (pc := 46) hR (dc dt_X11_mother 26 rfl) ?_
        refine r_iload_n (pc := 47) hR (dc dt_X11_mother 27 rfl) rfl ?_
        refine r_iload_n (pc := 48) hR (dc dt_X11_mother 28 rfl) rfl ?_
        obtain ⟨r49, m49, e49, h⟩ := b2_some h
        refine r_callV (pc := 49) (rest := []) hR (dc dt_X11_mother 29 rfl) cl_X11_202 tc_83 rfl (ok_F11_changes (rg_c rfl) q1 q2 e49) (by decide) rfl (Nat.le_of_ble_eq_true rfl) rfl (fun q49r => ?_)
        show Go 52 [some (.ref (ad 83)), some (iv v1), some (iv v2)] [iv r49] m49
        exact r_iret hT (dc dt_X11_mother 30 rfl) (congrArg Prod.fst (Option.some.inj h)) (congrArg Prod.snd (Option.some.inj h)) q49r
      refine r_if_lt (pc := 30) (tgt := 45) hR (dc dt_X11_mother 17 rfl) (by decide) q2 (fun hc => ?_) (fun hc => ?_)
      · replace h := ite_t hc h
        exact J45 h
      replace h := ite_f hc h
      refine r_aload_n (pc := 33) hR (dc dt_X11_mother 18 rfl) rfl ?_
      refine r_iload_n (pc := 34) hR (dc dt_X11_mother 19 rfl) rfl ?_
      refine r_iload_n (pc := 35) hR (dc dt_X11_mother 20 rfl) rfl ?_
      obtain ⟨r36, e36, h⟩ := b1_some h
      refine r_callV (pc := 36) (rest := []) hR (dc dt_X11_mother 21 rfl) cl_X11_210 tc_83 rfl (ok_F11_isAbove q1 q2 e36) (by decide) rfl (Nat.le_of_ble_eq_true rfl) rfl (fun q36r => ?_)
      show Go 39 [some (.ref (ad 83)), some (iv v1), some (iv v2)] [iv r36] m
      refine r_if_eq (pc := 39) (tgt := 45) hR (dc dt_X11_mother 22 rfl) (by decide) (inZ_R q36r) (fun hc => ?_) (fun hc => ?_)
      · replace h := ite_t hc h
        exact J45 h
      replace h := ite_f hc h
      refine r_bipush (pc := 42) hR (dc dt_X11_mother 23 rfl) (by decide) ?_
      exact r_iret hT (dc dt_X11_mother 24 rfl) (congrArg Prod.fst (Option.some.inj h)) (congrArg Prod.snd (Option.some.inj h)) (rg_c rfl)
    replace h := ite_f hc h
    refine r_ldc (pc := 26) hR (dc dt_X11_mother 14 rfl) kw_X11_209 ?_
    exact r_iret hT (dc dt_X11_mother 15 rfl) (congrArg Prod.fst (Option.some.inj h)) (congrArg Prod.snd (Option.some.inj h)) (rg_c rfl)
  refine r_icmp_eq (pc := 10) (tgt := 21) hR (dc dt_X11_mother 6 rfl) (by decide) q2 (rg_c rfl) (fun hc => ?_) (fun hc => ?_)
  · replace h := ite_t hc h
    exact J21 h
  replace h := ite_f hc h
  refine r_aload_n (pc := 13) hR (dc dt_X11_mother 7 rfl) rfl ?_
  refine r_iload_n (pc := 14) hR (dc dt_X11_mother 8 rfl) rfl ?_
  refine r_callV (pc := 15) (rest := []) hR (dc dt_X11_mother 9 rfl) cl_X11_182 tc_83 rfl (ok_F11_isCharter q2) (by decide) rfl (Nat.le_of_ble_eq_true rfl) rfl (fun q15r => ?_)
  show Go 18 [some (.ref (ad 83)), some (iv v1), some (iv v2)] [iv (F11_isCharter m v2)] m
  refine r_if_eq (pc := 18) (tgt := 26) hR (dc dt_X11_mother 10 rfl) (by decide) (inZ_R q15r) (fun hc => ?_) (fun hc => ?_)
  · replace h := ite_t hc h
    refine r_ldc (pc := 26) hR (dc dt_X11_mother 14 rfl) kw_X11_209 ?_
    exact r_iret hT (dc dt_X11_mother 15 rfl) (congrArg Prod.fst (Option.some.inj h)) (congrArg Prod.snd (Option.some.inj h)) (rg_c rfl)
  replace h := ite_f hc h
  exact J21 h
def tb_X11_priceOf : List (Nat × (Instr × Nat)) := [(0, (.iload_n 1, 1)), (1, (.iload_n 2, 1)), (2, (.if_icmp .ne 7, 3)), (5, (.iconst 0, 1)), (6, (.goto 35, 3)), (9, (.iload_n 1, 1)), (10, (.ifCond .ne 12, 3)), (13, (.aload_n 0, 1)), (14, (.getfield 29, 3)), (17, (.iconst 0, 1)), (18, (.iaload, 1)), (19, (.goto 22, 3)), (22, (.iload_n 2, 1)), (23, (.ifCond .ne 12, 3)), (26, (.aload_n 0, 1)), (27, (.getfield 29, 3)), (30, (.iconst 1, 1)), (31, (.iaload, 1)), (32, (.goto 9, 3)), (35, (.aload_n 0, 1)), (36, (.getfield 29, 3)), (39, (.iconst 2, 1)), (40, (.iaload, 1)), (41, (.ireturn, 1))]
set_option maxRecDepth 100000 in
theorem dt_X11_priceOf : (tb_X11_priceOf.all fun q => decide (decode cX11_priceOf q.1 = .ok q.2)) = true := by decide +kernel
set_option maxRecDepth 100000 in
set_option maxHeartbeats 4000000 in
theorem ok_F11_priceOf {m : Mem}  {v1 v2 : Int} (q1 : inR v1) (q2 : inR v2) {out : Int} (h : F11_priceOf m v1 v2 = some out) : CT l G cy ad tt yX11_priceOf cX11_priceOf 3 (some .int) 0 [.ref (ad 83), iv v1, iv v2] m (some (iv out)) (inR out) m := by
  refine CT_of (by decide) (Nat.le_of_ble_eq_true rfl) (fun Go hR hT => ?_)
  replace hR : RS l G cy ad tt RX11 cX11_priceOf 3 0 Go := hR
  show Go 0 [some (.ref (ad 83)), some (iv v1), some (iv v2)] [] m
  unfold F11_priceOf at h
  refine r_iload_n (pc := 0) hR (dc dt_X11_priceOf 0 rfl) rfl ?_
  refine r_iload_n (pc := 1) hR (dc dt_X11_priceOf 1 rfl) rfl ?_
  refine r_icmp_ne (pc := 2) (tgt := 9) hR (dc dt_X11_priceOf 2 rfl) (by decide) q1 q2 (fun hc => ?_) (fun hc => ?_)
  · replace h := ite_t hc h
    refine r_iload_n (pc := 9) hR (dc dt_X11_priceOf 5 rfl) rfl ?_
    refine r_if_ne (pc := 10) (tgt := 22) hR (dc dt_X11_priceOf 6 rfl) (by decide) q1 (fun hc => ?_) (fun hc => ?_)
    · replace h := ite_t hc h
      refine r_iload_n (pc := 22) hR (dc dt_X11_priceOf 12 rfl) rfl ?_
      refine r_if_ne (pc := 23) (tgt := 35) hR (dc dt_X11_priceOf 13 rfl) (by decide) q2 (fun hc => ?_) (fun hc => ?_)
      · replace h := ite_t hc h
        refine r_aload_n (pc := 35) hR (dc dt_X11_priceOf 19 rfl) rfl ?_
        refine r_getr (pc := 36) (k2 := 90) hR (dc dt_X11_priceOf 20 rfl) fl_X11_29 tc_83 rfl ?_
        refine r_iconst (pc := 39) hR (dc dt_X11_priceOf 21 rfl) ?_
        obtain ⟨g1, h⟩ := gd_some h
        refine r_iald (pc := 40) hR (dc dt_X11_priceOf 22 rfl) tc_90 g1 (rg_c rfl) ?_
        exact r_iret hT (dc dt_X11_priceOf 23 rfl) (Option.some.inj h) rfl (rd_in _ _ _)
      replace h := ite_f hc h
      refine r_aload_n (pc := 26) hR (dc dt_X11_priceOf 14 rfl) rfl ?_
      refine r_getr (pc := 27) (k2 := 90) hR (dc dt_X11_priceOf 15 rfl) fl_X11_29 tc_83 rfl ?_
      refine r_iconst (pc := 30) hR (dc dt_X11_priceOf 16 rfl) ?_
      obtain ⟨g1, h⟩ := gd_some h
      refine r_iald (pc := 31) hR (dc dt_X11_priceOf 17 rfl) tc_90 g1 (rg_c rfl) ?_
      refine r_goto (pc := 32) (tgt := 41) hR (dc dt_X11_priceOf 18 rfl) (by decide) ?_
      exact r_iret hT (dc dt_X11_priceOf 23 rfl) (Option.some.inj h) rfl (rd_in _ _ _)
    replace h := ite_f hc h
    refine r_aload_n (pc := 13) hR (dc dt_X11_priceOf 7 rfl) rfl ?_
    refine r_getr (pc := 14) (k2 := 90) hR (dc dt_X11_priceOf 8 rfl) fl_X11_29 tc_83 rfl ?_
    refine r_iconst (pc := 17) hR (dc dt_X11_priceOf 9 rfl) ?_
    obtain ⟨g1, h⟩ := gd_some h
    refine r_iald (pc := 18) hR (dc dt_X11_priceOf 10 rfl) tc_90 g1 (rg_c rfl) ?_
    refine r_goto (pc := 19) (tgt := 41) hR (dc dt_X11_priceOf 11 rfl) (by decide) ?_
    exact r_iret hT (dc dt_X11_priceOf 23 rfl) (Option.some.inj h) rfl (rd_in _ _ _)
  replace h := ite_f hc h
  refine r_iconst (pc := 5) hR (dc dt_X11_priceOf 3 rfl) ?_
  refine r_goto (pc := 6) (tgt := 41) hR (dc dt_X11_priceOf 4 rfl) (by decide) ?_
  exact r_iret hT (dc dt_X11_priceOf 23 rfl) (Option.some.inj h) rfl (rg_c rfl)
def tb_X11_isOrdered : List (Nat × (Instr × Nat)) := [(0, (.iconst 0, 1)), (1, (.istore_n 2, 1)), (2, (.iload_n 2, 1)), (3, (.aload_n 0, 1)), (4, (.getfield 214, 3)), (7, (.if_icmp .ge 21, 3)), (10, (.aload_n 0, 1)), (11, (.getfield 60, 3)), (14, (.iload_n 2, 1)), (15, (.iaload, 1)), (16, (.iload_n 1, 1)), (17, (.if_icmp .ne 5, 3)), (20, (.iconst 1, 1)), (21, (.ireturn, 1)), (22, (.iinc 2 1, 3)), (25, (.goto (-23), 3)), (28, (.iconst 0, 1)), (29, (.ireturn, 1))]
set_option maxRecDepth 100000 in
theorem dt_X11_isOrdered : (tb_X11_isOrdered.all fun q => decide (decode cX11_isOrdered q.1 = .ok q.2)) = true := by decide +kernel
set_option maxRecDepth 100000 in
set_option maxHeartbeats 4000000 in
theorem lp_L11_isOrdered_2 {Go : Nat → List (Option Value) → List Value → Mem → Prop} (hR : RS l G cy ad tt RX11 cX11_isOrdered 3 0 Go) {out : Int} {m : Mem} (hT : RT cX11_isOrdered (some (iv out)) (inZ out) m (some .boolean) Go) {v1 : Int} (qv1 : inR v1) : ∀ (n : Nat) (v2 : Int), inR v2 → L11_isOrdered_2 m v1 n v2 = some out → Go 2 [some (.ref (ad 83)), some (iv v1), some (iv v2)] [] m := by
  intro n
  induction n with
  | zero =>
    intro v2 qv2 h
    cases h
  | succ n ih =>
    intro v2 qv2 h
    rw [L11_isOrdered_2] at h
    refine r_iload_n (pc := 2) hR (dc dt_X11_isOrdered 2 rfl) rfl ?_
    refine r_aload_n (pc := 3) hR (dc dt_X11_isOrdered 3 rfl) rfl ?_
    refine r_geti (pc := 4) hR (dc dt_X11_isOrdered 4 rfl) fl_X11_214 tc_83 rfl ?_
    refine r_icmp_ge (pc := 7) (tgt := 28) hR (dc dt_X11_isOrdered 5 rfl) (by decide) qv2 (rd_in _ _ _) (fun hc => ?_) (fun hc => ?_)
    · replace h := ite_t hc h
      refine r_iconst (pc := 28) hR (dc dt_X11_isOrdered 16 rfl) ?_
      exact r_zret hT (dc dt_X11_isOrdered 17 rfl) (Option.some.inj h) rfl (Or.inl rfl)
    replace h := ite_f hc h
    refine r_aload_n (pc := 10) hR (dc dt_X11_isOrdered 6 rfl) rfl ?_
    refine r_getr (pc := 11) (k2 := 100) hR (dc dt_X11_isOrdered 7 rfl) fl_X11_60 tc_83 rfl ?_
    refine r_iload_n (pc := 14) hR (dc dt_X11_isOrdered 8 rfl) rfl ?_
    obtain ⟨g1, h⟩ := gd_some h
    refine r_iald (pc := 15) hR (dc dt_X11_isOrdered 9 rfl) tc_100 g1 qv2 ?_
    refine r_iload_n (pc := 16) hR (dc dt_X11_isOrdered 10 rfl) rfl ?_
    refine r_icmp_ne (pc := 17) (tgt := 22) hR (dc dt_X11_isOrdered 11 rfl) (by decide) (rd_in _ _ _) qv1 (fun hc => ?_) (fun hc => ?_)
    · replace h := ite_t hc h
      refine r_iinc (pc := 22) (L' := [some (.ref (ad 83)), some (iv v1), some (iv (w32 (v2 + 1)))]) hR (dc dt_X11_isOrdered 14 rfl) rfl (by decide) rfl rfl ?_
      refine r_goto (pc := 25) (tgt := 2) hR (dc dt_X11_isOrdered 15 rfl) (by decide) ?_
      exact ih (w32 (v2 + 1)) (w32_in _) h
    replace h := ite_f hc h
    refine r_iconst (pc := 20) hR (dc dt_X11_isOrdered 12 rfl) ?_
    exact r_zret hT (dc dt_X11_isOrdered 13 rfl) (Option.some.inj h) rfl (Or.inr rfl)
set_option maxRecDepth 100000 in
set_option maxHeartbeats 4000000 in
theorem ok_F11_isOrdered {m : Mem}  {v1 : Int} (q1 : inR v1) {out : Int} (h : F11_isOrdered m v1 = some out) : CT l G cy ad tt yX11_isOrdered cX11_isOrdered 3 (some .boolean) 0 [.ref (ad 83), iv v1] m (some (iv out)) (inZ out) m := by
  refine CT_of (by decide) (Nat.le_of_ble_eq_true rfl) (fun Go hR hT => ?_)
  replace hR : RS l G cy ad tt RX11 cX11_isOrdered 3 0 Go := hR
  show Go 0 [some (.ref (ad 83)), some (iv v1), none] [] m
  unfold F11_isOrdered at h
  refine r_iconst (pc := 0) hR (dc dt_X11_isOrdered 0 rfl) ?_
  refine r_istore_n (pc := 1) (L' := [some (.ref (ad 83)), some (iv v1), some (iv 0)]) hR (dc dt_X11_isOrdered 1 rfl) (by decide) rfl rfl ?_
  refine lp_L11_isOrdered_2 hR hT q1 FU 0 (rg_c rfl) h
def tb_X11_findOrder : List (Nat × (Instr × Nat)) := [(0, (.aload_n 0, 1)), (1, (.iconst 0, 1)), (2, (.putfield 214, 3)), (5, (.iconst 1, 1)), (6, (.istore_n 1, 1)), (7, (.iload_n 1, 1)), (8, (.ifCond .eq 88, 3)), (11, (.iconst 0, 1)), (12, (.istore_n 1, 1)), (13, (.iconst 0, 1)), (14, (.istore_n 2, 1)), (15, (.iload_n 2, 1)), (16, (.aload_n 0, 1)), (17, (.getfield 138, 3)), (20, (.if_icmp .ge 73, 3)), (23, (.aload_n 0, 1)), (24, (.getfield 51, 3)), (27, (.iload_n 2, 1)), (28, (.baload, 1)), (29, (.ifCond .eq 58, 3)), (32, (.aload_n 0, 1)), (33, (.iload_n 2, 1)), (34, (.invokevirtual 217, 3)), (37, (.ifCond .ne 50, 3)), (40, (.aload_n 0, 1)), (41, (.getfield 48, 3)), (44, (.iload_n 2, 1)), (45, (.iaload, 1)), (46, (.ifCond .lt 19, 3)), (49, (.aload_n 0, 1)), (50, (.aload_n 0, 1)), (51, (.getfield 48, 3)), (54, (.iload_n 2, 1)), (55, (.iaload, 1)), (56, (.invokevirtual 217, 3)), (59, (.ifCond .ne 6, 3)), (62, (.goto 25, 3)), (65, (.aload_n 0, 1)), (66, (.getfield 60, 3)), (69, (.aload_n 0, 1)), (70, (.getfield 214, 3)), (73, (.iload_n 2, 1)), (74, (.iastore, 1)), (75, (.aload_n 0, 1)), (76, (.dup, 1)), (77, (.getfield 214, 3)), (80, (.iconst 1, 1)), (81, (.iadd, 1)), (82, (.putfield 214, 3)), (85, (.iconst 1, 1)), (86, (.istore_n 1, 1)), (87, (.iinc 2 1, 3)), (90, (.goto (-75), 3)), (93, (.goto (-86), 3)), (96, (.return_, 1))]
set_option maxRecDepth 100000 in
theorem dt_X11_findOrder : (tb_X11_findOrder.all fun q => decide (decode cX11_findOrder q.1 = .ok q.2)) = true := by decide +kernel
set_option maxRecDepth 100000 in
set_option maxHeartbeats 4000000 in
theorem lp_L11_findOrder_15 {Go : Nat → List (Option Value) → List Value → Mem → Prop} (hR : RS l G cy ad tt RX11 cX11_findOrder 3 1 Go) {out : Mem} (hT : RT cX11_findOrder none True out none Go) {k93 : Int → Mem → Option Mem} (hk93 : ∀ (v1 : Int) (m : Mem), inR v1 → k93 v1 m = some out → Go 93 [some (.ref (ad 83)), some (iv v1), none] [] m) : ∀ (n : Nat) (v1 : Int) (v2 : Int) (m : Mem), inR v1 → inR v2 → L11_findOrder_15 k93 n v1 v2 m = some out → Go 15 [some (.ref (ad 83)), some (iv v1), some (iv v2)] [] m := by
  intro n
  induction n with
  | zero =>
    intro v1 v2 m qv1 qv2 h
    cases h
  | succ n ih =>
    intro v1 v2 m qv1 qv2 h
    rw [L11_findOrder_15] at h
    refine r_iload_n (pc := 15) hR (dc dt_X11_findOrder 11 rfl) rfl ?_
    refine r_aload_n (pc := 16) hR (dc dt_X11_findOrder 12 rfl) rfl ?_
    refine r_geti (pc := 17) hR (dc dt_X11_findOrder 13 rfl) fl_X11_138 tc_83 rfl ?_
    refine r_icmp_ge (pc := 20) (tgt := 93) hR (dc dt_X11_findOrder 14 rfl) (by decide) qv2 (rd_in _ _ _) (fun hc => ?_) (fun hc => ?_)
    · replace h := ite_t hc h
      refine r_weak (L' := [some (.ref (ad 83)), some (iv v1), none]) hR ⟨Or.inr rfl, Or.inr rfl, Or.inl rfl, trivial⟩ ?_
      exact hk93 v1 m qv1 h
    replace h := ite_f hc h
    refine r_aload_n (pc := 23) hR (dc dt_X11_findOrder 15 rfl) rfl ?_
    refine r_getr (pc := 24) (k2 := 97) hR (dc dt_X11_findOrder 16 rfl) fl_X11_51 tc_83 rfl ?_
    refine r_iload_n (pc := 27) hR (dc dt_X11_findOrder 17 rfl) rfl ?_
    obtain ⟨g1, h⟩ := gd_some h
    refine r_zald (pc := 28) hR (dc dt_X11_findOrder 18 rfl) tc_97 g1 qv2 ?_
    refine jn_e h (fun (K : Int → Mem → Option Mem) => ∀ (v1_87 : Int) (m_87 : Mem), inR v1_87 → K v1_87 m_87 = some out → Go 87 [some (.ref (ad 83)), some (iv v1_87), some (iv v2)] [] m_87) (fun v1_87 m_87 qv1_87 h => ?_) (fun K87 J87 h => ?_)
    · refine r_iinc (pc := 87) (L' := [some (.ref (ad 83)), some (iv v1_87), some (iv (w32 (v2 + 1)))]) hR (dc dt_X11_findOrder 51 rfl) rfl (by decide) rfl rfl ?_
      refine r_goto (pc := 90) (tgt := 15) hR (dc dt_X11_findOrder 52 rfl) (by decide) ?_
      exact ih v1_87 (w32 (v2 + 1)) m_87 qv1_87 (w32_in _) h
    refine r_if_eq (pc := 29) (tgt := 87) hR (dc dt_X11_findOrder 19 rfl) (by decide) (rd_in _ _ _) (fun hc => ?_) (fun hc => ?_)
    · replace h := ite_t hc h
      exact J87 v1 m qv1 h
    replace h := ite_f hc h
    refine r_aload_n (pc := 32) hR (dc dt_X11_findOrder 20 rfl) rfl ?_
    refine r_iload_n (pc := 33) hR (dc dt_X11_findOrder 21 rfl) rfl ?_
    obtain ⟨r34, e34, h⟩ := b1_some h
    refine r_callV (pc := 34) (rest := []) hR (dc dt_X11_findOrder 22 rfl) cl_X11_217 tc_83 rfl (ok_F11_isOrdered qv2 e34) (by decide) rfl (Nat.le_of_ble_eq_true rfl) rfl (fun q34r => ?_)
    show Go 37 [some (.ref (ad 83)), some (iv v1), some (iv v2)] [iv r34] m
    refine r_if_ne (pc := 37) (tgt := 87) hR (dc dt_X11_findOrder 23 rfl) (by decide) (inZ_R q34r) (fun hc => ?_) (fun hc => ?_)
    · replace h := ite_t hc h
      exact J87 v1 m qv1 h
    replace h := ite_f hc h
    refine r_aload_n (pc := 40) hR (dc dt_X11_findOrder 24 rfl) rfl ?_
    refine r_getr (pc := 41) (k2 := 96) hR (dc dt_X11_findOrder 25 rfl) fl_X11_48 tc_83 rfl ?_
    refine r_iload_n (pc := 44) hR (dc dt_X11_findOrder 26 rfl) rfl ?_
    obtain ⟨g1, h⟩ := gd_some h
    refine r_iald (pc := 45) hR (dc dt_X11_findOrder 27 rfl) tc_96 g1 qv2 ?_
    refine jn_e h (fun (K : Option Mem) => K = some out → Go 65 [some (.ref (ad 83)), none, some (iv v2)] [] m) (fun h => ?_) (fun K65 J65 h => ?_)
    · refine r_aload_n (pc := 65) hR (dc dt_X11_findOrder 37 rfl) rfl ?_
      refine r_getr (pc := 66) (k2 := 100) hR (dc dt_X11_findOrder 38 rfl) fl_X11_60 tc_83 rfl ?_
      refine r_aload_n (pc := 69) hR (dc dt_X11_findOrder 39 rfl) rfl ?_
      refine r_geti (pc := 70) hR (dc dt_X11_findOrder 40 rfl) fl_X11_214 tc_83 rfl ?_
      refine r_iload_n (pc := 73) hR (dc dt_X11_findOrder 41 rfl) rfl ?_
      obtain ⟨g1, h⟩ := gd_some h
      refine r_iast (pc := 74) hR (dc dt_X11_findOrder 42 rfl) tc_100 g1 (rd_in _ _ _) ?_
      replace h := stw_e h
      generalize wr m 100 (rd m 83 24) v2 = m74 at h ⊢
      refine r_aload_n (pc := 75) hR (dc dt_X11_findOrder 43 rfl) rfl ?_
      refine r_dup (pc := 76) hR (dc dt_X11_findOrder 44 rfl) rfl ?_
      refine r_geti (pc := 77) hR (dc dt_X11_findOrder 45 rfl) fl_X11_214 tc_83 rfl ?_
      refine r_iconst (pc := 80) hR (dc dt_X11_findOrder 46 rfl) ?_
      refine r_iadd (pc := 81) hR (dc dt_X11_findOrder 47 rfl) ?_
      refine r_puti (pc := 82) hR (dc dt_X11_findOrder 48 rfl) fl_X11_214 tc_83 rfl rfl rfl ?_
      replace h := stw_e h
      generalize wr m74 83 24 (w32 ((rd m74 83 24) + 1)) = m82 at h ⊢
      refine r_iconst (pc := 85) hR (dc dt_X11_findOrder 49 rfl) ?_
      refine r_istore_n (pc := 86) (L' := [some (.ref (ad 83)), some (iv 1), some (iv v2)]) hR (dc dt_X11_findOrder 50 rfl) (by decide) rfl rfl ?_
      exact J87 1 m82 (rg_c rfl) h
    refine r_if_lt (pc := 46) (tgt := 65) hR (dc dt_X11_findOrder 28 rfl) (by decide) (rd_in _ _ _) (fun hc => ?_) (fun hc => ?_)
    · replace h := ite_t hc h
      refine r_weak (L' := [some (.ref (ad 83)), none, some (iv v2)]) hR ⟨Or.inr rfl, Or.inl rfl, Or.inr rfl, trivial⟩ ?_
      exact J65 h
    replace h := ite_f hc h
    refine r_aload_n (pc := 49) hR (dc dt_X11_findOrder 29 rfl) rfl ?_
    refine r_aload_n (pc := 50) hR (dc dt_X11_findOrder 30 rfl) rfl ?_
    refine r_getr (pc := 51) (k2 := 96) hR (dc dt_X11_findOrder 31 rfl) fl_X11_48 tc_83 rfl ?_
    refine r_iload_n (pc := 54) hR (dc dt_X11_findOrder 32 rfl) rfl ?_
    obtain ⟨g1, h⟩ := gd_some h
    refine r_iald (pc := 55) hR (dc dt_X11_findOrder 33 rfl) tc_96 g1 qv2 ?_
    obtain ⟨r56, e56, h⟩ := b1_some h
    refine r_callV (pc := 56) (rest := []) hR (dc dt_X11_findOrder 34 rfl) cl_X11_217 tc_83 rfl (ok_F11_isOrdered (rd_in _ _ _) e56) (by decide) rfl (Nat.le_of_ble_eq_true rfl) rfl (fun q56r => ?_)
    show Go 59 [some (.ref (ad 83)), some (iv v1), some (iv v2)] [iv r56] m
    refine r_if_ne (pc := 59) (tgt := 65) hR (dc dt_X11_findOrder 35 rfl) (by decide) (inZ_R q56r) (fun hc => ?_) (fun hc => ?_)
    · replace h := ite_t hc h
      refine r_weak (L' := [some (.ref (ad 83)), none, some (iv v2)]) hR ⟨Or.inr rfl, Or.inl rfl, Or.inr rfl, trivial⟩ ?_
      exact J65 h
    replace h := ite_f hc h
    refine r_goto (pc := 62) (tgt := 87) hR (dc dt_X11_findOrder 36 rfl) (by decide) ?_
    exact J87 v1 m qv1 h
set_option maxRecDepth 100000 in
set_option maxHeartbeats 4000000 in
theorem lp_L11_findOrder_7 {Go : Nat → List (Option Value) → List Value → Mem → Prop} (hR : RS l G cy ad tt RX11 cX11_findOrder 3 1 Go) {out : Mem} (hT : RT cX11_findOrder none True out none Go) : ∀ (n : Nat) (v1 : Int) (m : Mem), inR v1 → L11_findOrder_7 n v1 m = some out → Go 7 [some (.ref (ad 83)), some (iv v1), none] [] m := by
  intro n
  induction n with
  | zero =>
    intro v1 m qv1 h
    cases h
  | succ n ih =>
    intro v1 m qv1 h
    rw [L11_findOrder_7] at h
    refine r_iload_n (pc := 7) hR (dc dt_X11_findOrder 5 rfl) rfl ?_
    refine r_if_eq (pc := 8) (tgt := 96) hR (dc dt_X11_findOrder 6 rfl) (by decide) qv1 (fun hc => ?_) (fun hc => ?_)
    · replace h := ite_t hc h
      exact r_vret hT (dc dt_X11_findOrder 54 rfl) (Option.some.inj h)
    replace h := ite_f hc h
    refine r_iconst (pc := 11) hR (dc dt_X11_findOrder 7 rfl) ?_
    refine r_istore_n (pc := 12) (L' := [some (.ref (ad 83)), some (iv 0), none]) hR (dc dt_X11_findOrder 8 rfl) (by decide) rfl rfl ?_
    refine r_iconst (pc := 13) hR (dc dt_X11_findOrder 9 rfl) ?_
    refine r_istore_n (pc := 14) (L' := [some (.ref (ad 83)), some (iv 0), some (iv 0)]) hR (dc dt_X11_findOrder 10 rfl) (by decide) rfl rfl ?_
    refine lp_L11_findOrder_15 hR hT (fun v1_93 m_93 qv1_93 h => ?_) FU 0 0 m (rg_c rfl) (rg_c rfl) h
    show Go 93 [some (.ref (ad 83)), some (iv v1_93), none] [] m_93
    refine r_goto (pc := 93) (tgt := 7) hR (dc dt_X11_findOrder 53 rfl) (by decide) ?_
    exact ih v1_93 m_93 qv1_93 h
set_option maxRecDepth 100000 in
set_option maxHeartbeats 4000000 in
theorem ok_F11_findOrder {m : Mem}   {out : Mem} (h : F11_findOrder m = some out) : CT l G cy ad tt yX11_findOrder cX11_findOrder 3 none 1 [.ref (ad 83)] m none True out := by
  refine CT_of (by decide) (Nat.le_of_ble_eq_true rfl) (fun Go hR hT => ?_)
  replace hR : RS l G cy ad tt RX11 cX11_findOrder 3 1 Go := hR
  show Go 0 [some (.ref (ad 83)), none, none] [] m
  unfold F11_findOrder at h
  refine r_aload_n (pc := 0) hR (dc dt_X11_findOrder 0 rfl) rfl ?_
  refine r_iconst (pc := 1) hR (dc dt_X11_findOrder 1 rfl) ?_
  refine r_puti (pc := 2) hR (dc dt_X11_findOrder 2 rfl) fl_X11_214 tc_83 rfl rfl rfl ?_
  replace h := stw_e h
  generalize wr m 83 24 0 = m2 at h ⊢
  refine r_iconst (pc := 5) hR (dc dt_X11_findOrder 3 rfl) ?_
  refine r_istore_n (pc := 6) (L' := [some (.ref (ad 83)), some (iv 1), none]) hR (dc dt_X11_findOrder 4 rfl) (by decide) rfl rfl ?_
  refine lp_L11_findOrder_7 hR hT FU 1 m2 (rg_c rfl) h
def tb_X11_mayBe : List (Nat × (Instr × Nat)) := [(0, (.iload_n 1, 1)), (1, (.aload_n 0, 1)), (2, (.getfield 220, 3)), (5, (.if_icmp .ne 8, 3)), (8, (.bipush 9, 2)), (10, (.goto 14, 3)), (13, (.aload_n 0, 1)), (14, (.getfield 26, 3)), (17, (.bipush 16, 2)), (19, (.iload_n 1, 1)), (20, (.imul, 1)), (21, (.iload_n 2, 1)), (22, (.iadd, 1)), (23, (.iaload, 1)), (24, (.istore 4, 2)), (26, (.iload 4, 2)), (28, (.bipush 9, 2)), (30, (.if_icmp .eq 9, 3)), (33, (.iload 4, 2)), (35, (.iload_n 3, 1)), (36, (.if_icmp .ne 7, 3)), (39, (.iconst 1, 1)), (40, (.goto 4, 3)), (43, (.iconst 0, 1)), (44, (.ireturn, 1))]
set_option maxRecDepth 100000 in
theorem dt_X11_mayBe : (tb_X11_mayBe.all fun q => decide (decode cX11_mayBe q.1 = .ok q.2)) = true := by decide +kernel
set_option maxRecDepth 100000 in
set_option maxHeartbeats 4000000 in
theorem ok_F11_mayBe {m : Mem}  {v1 v2 v3 : Int} (q1 : inR v1) (q2 : inR v2) (q3 : inR v3) {out : Int} (h : F11_mayBe m v1 v2 v3 = some out) : CT l G cy ad tt yX11_mayBe cX11_mayBe 5 (some .boolean) 0 [.ref (ad 83), iv v1, iv v2, iv v3] m (some (iv out)) (inZ out) m := by
  refine CT_of (by decide) (Nat.le_of_ble_eq_true rfl) (fun Go hR hT => ?_)
  replace hR : RS l G cy ad tt RX11 cX11_mayBe 5 0 Go := hR
  show Go 0 [some (.ref (ad 83)), some (iv v1), some (iv v2), some (iv v3), none] [] m
  unfold F11_mayBe at h
  refine r_iload_n (pc := 0) hR (dc dt_X11_mayBe 0 rfl) rfl ?_
  refine r_aload_n (pc := 1) hR (dc dt_X11_mayBe 1 rfl) rfl ?_
  refine r_geti (pc := 2) hR (dc dt_X11_mayBe 2 rfl) fl_X11_220 tc_83 rfl ?_
  refine jn_e h (fun (K : Int → Option Int) => ∀ (x24 : Int), inR x24 → K x24 = some out → Go 24 [none, none, none, some (iv v3), none] [iv x24] m) (fun x24 qx24 h => ?_) (fun K24 J24 h => ?_)
  · refine r_istore (pc := 24) (L' := [none, none, none, some (iv v3), some (iv x24)]) hR (dc dt_X11_mayBe 14 rfl) (by decide) rfl rfl ?_
    refine r_iload (pc := 26) hR (dc dt_X11_mayBe 15 rfl) rfl ?_
    refine r_bipush (pc := 28) hR (dc dt_X11_mayBe 16 rfl) (by decide) ?_
    refine jn_e h (fun (K : Option Int) => K = some out → Go 39 [none, none, none, none, none] [] m) (fun h => ?_) (fun K39 J39 h => ?_)
    · refine r_iconst (pc := 39) hR (dc dt_X11_mayBe 21 rfl) ?_
      refine r_goto (pc := 40) (tgt := 44) hR (dc dt_X11_mayBe 22 rfl) (by decide) ?_
      exact r_zret hT (dc dt_X11_mayBe 24 rfl) (Option.some.inj h) rfl (Or.inr rfl)
    refine r_icmp_eq (pc := 30) (tgt := 39) hR (dc dt_X11_mayBe 17 rfl) (by decide) qx24 (rg_c rfl) (fun hc => ?_) (fun hc => ?_)
    · replace h := ite_t hc h
      refine r_weak (L' := [none, none, none, none, none]) hR ⟨Or.inr rfl, Or.inr rfl, Or.inr rfl, Or.inl rfl, Or.inl rfl, trivial⟩ ?_
      exact J39 h
    replace h := ite_f hc h
    refine r_iload (pc := 33) hR (dc dt_X11_mayBe 18 rfl) rfl ?_
    refine r_iload_n (pc := 35) hR (dc dt_X11_mayBe 19 rfl) rfl ?_
    refine r_icmp_ne (pc := 36) (tgt := 43) hR (dc dt_X11_mayBe 20 rfl) (by decide) qx24 q3 (fun hc => ?_) (fun hc => ?_)
    · replace h := ite_t hc h
      refine r_iconst (pc := 43) hR (dc dt_X11_mayBe 23 rfl) ?_
      exact r_zret hT (dc dt_X11_mayBe 24 rfl) (Option.some.inj h) rfl (Or.inl rfl)
    replace h := ite_f hc h
    refine r_weak (L' := [none, none, none, none, none]) hR ⟨Or.inr rfl, Or.inr rfl, Or.inr rfl, Or.inl rfl, Or.inl rfl, trivial⟩ ?_
    exact J39 h
  refine r_icmp_ne (pc := 5) (tgt := 13) hR (dc dt_X11_mayBe 3 rfl) (by decide) q1 (rd_in _ _ _) (fun hc => ?_) (fun hc => ?_)
  · replace h := ite_t hc h
    refine r_aload_n (pc := 13) hR (dc dt_X11_mayBe 6 rfl) rfl ?_
    refine r_getr (pc := 14) (k2 := 89) hR (dc dt_X11_mayBe 7 rfl) fl_X11_26 tc_83 rfl ?_
    refine r_bipush (pc := 17) hR (dc dt_X11_mayBe 8 rfl) (by decide) ?_
    refine r_iload_n (pc := 19) hR (dc dt_X11_mayBe 9 rfl) rfl ?_
    refine r_imul (pc := 20) hR (dc dt_X11_mayBe 10 rfl) ?_
    refine r_iload_n (pc := 21) hR (dc dt_X11_mayBe 11 rfl) rfl ?_
    refine r_iadd (pc := 22) hR (dc dt_X11_mayBe 12 rfl) ?_
    obtain ⟨g1, h⟩ := gd_some h
    refine r_iald (pc := 23) hR (dc dt_X11_mayBe 13 rfl) tc_89 g1 (w32_in _) ?_
    refine r_weak (L' := [none, none, none, some (iv v3), none]) hR ⟨Or.inl rfl, Or.inl rfl, Or.inl rfl, Or.inr rfl, Or.inr rfl, trivial⟩ ?_
    exact J24 (rd m 89 (w32 ((w32 (16 * v1)) + v2))) (rd_in _ _ _) h
  replace h := ite_f hc h
  refine r_bipush (pc := 8) hR (dc dt_X11_mayBe 4 rfl) (by decide) ?_
  refine r_goto (pc := 10) (tgt := 24) hR (dc dt_X11_mayBe 5 rfl) (by decide) ?_
  refine r_weak (L' := [none, none, none, some (iv v3), none]) hR ⟨Or.inl rfl, Or.inl rfl, Or.inl rfl, Or.inr rfl, Or.inr rfl, trivial⟩ ?_
  exact J24 9 (rg_c rfl) h
def tb_X11_leastFrom : List (Nat × (Instr × Nat)) := [(0, (.ldc 223, 2)), (2, (.istore_n 3, 1)), (3, (.iconst 0, 1)), (4, (.istore 4, 2)), (6, (.iload 4, 2)), (8, (.iconst 4, 1)), (9, (.if_icmp .ge 49, 3)), (12, (.aload_n 0, 1)), (13, (.getfield 54, 3)), (16, (.iconst 4, 1)), (17, (.iload_n 1, 1)), (18, (.imul, 1)), (19, (.iload 4, 2)), (21, (.iadd, 1)), (22, (.iaload, 1)), (23, (.ldc 223, 2)), (25, (.if_icmp .ge 27, 3)), (28, (.iload_n 3, 1)), (29, (.aload_n 0, 1)), (30, (.iload_n 2, 1)), (31, (.iload 4, 2)), (33, (.invokevirtual 224, 3)), (36, (.aload_n 0, 1)), (37, (.getfield 54, 3)), (40, (.iconst 4, 1)), (41, (.iload_n 1, 1)), (42, (.imul, 1)), (43, (.iload 4, 2)), (45, (.iadd, 1)), (46, (.iaload, 1)), (47, (.iadd, 1)), (48, (.invokestatic 227, 3)), (51, (.istore_n 3, 1)), (52, (.iinc 4 1, 3)), (55, (.goto (-49), 3)), (58, (.iload_n 3, 1)), (59, (.ireturn, 1))]
set_option maxRecDepth 100000 in
theorem dt_X11_leastFrom : (tb_X11_leastFrom.all fun q => decide (decode cX11_leastFrom q.1 = .ok q.2)) = true := by decide +kernel
set_option maxRecDepth 100000 in
set_option maxHeartbeats 4000000 in
theorem lp_L11_leastFrom_6 {Go : Nat → List (Option Value) → List Value → Mem → Prop} (hR : RS l G cy ad tt RX11 cX11_leastFrom 5 1 Go) {out : Int} {m : Mem} (hT : RT cX11_leastFrom (some (iv out)) (inR out) m (some .int) Go) {v1 : Int} {v2 : Int} (qv1 : inR v1) (qv2 : inR v2) : ∀ (n : Nat) (v3 : Int) (v4 : Int), inR v3 → inR v4 → L11_leastFrom_6 m v1 v2 n v3 v4 = some out → Go 6 [some (.ref (ad 83)), some (iv v1), some (iv v2), some (iv v3), some (iv v4)] [] m := by
  intro n
  induction n with
  | zero =>
    intro v3 v4 qv3 qv4 h
    cases h
  | succ n ih =>
    intro v3 v4 qv3 qv4 h
    rw [L11_leastFrom_6] at h
    refine r_iload (pc := 6) hR (dc dt_X11_leastFrom 4 rfl) rfl ?_
    refine r_iconst (pc := 8) hR (dc dt_X11_leastFrom 5 rfl) ?_
    refine r_icmp_ge (pc := 9) (tgt := 58) hR (dc dt_X11_leastFrom 6 rfl) (by decide) qv4 (rg_c rfl) (fun hc => ?_) (fun hc => ?_)
    · replace h := ite_t hc h
      refine r_iload_n (pc := 58) hR (dc dt_X11_leastFrom 35 rfl) rfl ?_
      exact r_iret hT (dc dt_X11_leastFrom 36 rfl) (Option.some.inj h) rfl qv3
    replace h := ite_f hc h
    refine r_aload_n (pc := 12) hR (dc dt_X11_leastFrom 7 rfl) rfl ?_
    refine r_getr (pc := 13) (k2 := 98) hR (dc dt_X11_leastFrom 8 rfl) fl_X11_54 tc_83 rfl ?_
    refine r_iconst (pc := 16) hR (dc dt_X11_leastFrom 9 rfl) ?_
    refine r_iload_n (pc := 17) hR (dc dt_X11_leastFrom 10 rfl) rfl ?_
    refine r_imul (pc := 18) hR (dc dt_X11_leastFrom 11 rfl) ?_
    refine r_iload (pc := 19) hR (dc dt_X11_leastFrom 12 rfl) rfl ?_
    refine r_iadd (pc := 21) hR (dc dt_X11_leastFrom 13 rfl) ?_
    obtain ⟨g1, h⟩ := gd_some h
    refine r_iald (pc := 22) hR (dc dt_X11_leastFrom 14 rfl) tc_98 g1 (w32_in _) ?_
    refine r_ldc (pc := 23) hR (dc dt_X11_leastFrom 15 rfl) kw_X11_223 ?_
    refine jn_e h (fun (K : Int → Option Int) => ∀ (v3_52 : Int), inR v3_52 → K v3_52 = some out → Go 52 [some (.ref (ad 83)), some (iv v1), some (iv v2), some (iv v3_52), some (iv v4)] [] m) (fun v3_52 qv3_52 h => ?_) (fun K52 J52 h => ?_)
    · refine r_iinc (pc := 52) (L' := [some (.ref (ad 83)), some (iv v1), some (iv v2), some (iv v3_52), some (iv (w32 (v4 + 1)))]) hR (dc dt_X11_leastFrom 33 rfl) rfl (by decide) rfl rfl ?_
      refine r_goto (pc := 55) (tgt := 6) hR (dc dt_X11_leastFrom 34 rfl) (by decide) ?_
      exact ih v3_52 (w32 (v4 + 1)) qv3_52 (w32_in _) h
    refine r_icmp_ge (pc := 25) (tgt := 52) hR (dc dt_X11_leastFrom 16 rfl) (by decide) (rd_in _ _ _) (rg_c rfl) (fun hc => ?_) (fun hc => ?_)
    · replace h := ite_t hc h
      exact J52 v3 qv3 h
    replace h := ite_f hc h
    refine r_iload_n (pc := 28) hR (dc dt_X11_leastFrom 17 rfl) rfl ?_
    refine r_aload_n (pc := 29) hR (dc dt_X11_leastFrom 18 rfl) rfl ?_
    refine r_iload_n (pc := 30) hR (dc dt_X11_leastFrom 19 rfl) rfl ?_
    refine r_iload (pc := 31) hR (dc dt_X11_leastFrom 20 rfl) rfl ?_
    obtain ⟨r33, e33, h⟩ := b1_some h
    refine r_callV (pc := 33) (rest := [iv v3]) hR (dc dt_X11_leastFrom 21 rfl) cl_X11_224 tc_83 rfl (ok_F11_priceOf qv2 qv4 e33) (by decide) rfl (Nat.le_of_ble_eq_true rfl) rfl (fun q33r => ?_)
    show Go 36 [some (.ref (ad 83)), some (iv v1), some (iv v2), some (iv v3), some (iv v4)] [iv r33, iv v3] m
    refine r_aload_n (pc := 36) hR (dc dt_X11_leastFrom 22 rfl) rfl ?_
    refine r_getr (pc := 37) (k2 := 98) hR (dc dt_X11_leastFrom 23 rfl) fl_X11_54 tc_83 rfl ?_
    refine r_iconst (pc := 40) hR (dc dt_X11_leastFrom 24 rfl) ?_
    refine r_iload_n (pc := 41) hR (dc dt_X11_leastFrom 25 rfl) rfl ?_
    refine r_imul (pc := 42) hR (dc dt_X11_leastFrom 26 rfl) ?_
    refine r_iload (pc := 43) hR (dc dt_X11_leastFrom 27 rfl) rfl ?_
    refine r_iadd (pc := 45) hR (dc dt_X11_leastFrom 28 rfl) ?_
    obtain ⟨g1, h⟩ := gd_some h
    refine r_iald (pc := 46) hR (dc dt_X11_leastFrom 29 rfl) tc_98 g1 (w32_in _) ?_
    refine r_iadd (pc := 47) hR (dc dt_X11_leastFrom 30 rfl) ?_
    refine r_callS (pc := 48) (rest := []) hR (dc dt_X11_leastFrom 31 rfl) cl_X11_227 (ok_F11_lesser qv3 (w32_in _)) (by decide) rfl (Nat.le_of_ble_eq_true rfl) rfl (fun q48r => ?_)
    show Go 51 [some (.ref (ad 83)), some (iv v1), some (iv v2), some (iv v3), some (iv v4)] [iv (F11_lesser v3 (w32 (r33 + (rd m 98 (w32 ((w32 (4 * v1)) + v4))))))] m
    refine r_istore_n (pc := 51) (L' := [some (.ref (ad 83)), some (iv v1), some (iv v2), some (iv (F11_lesser v3 (w32 (r33 + (rd m 98 (w32 ((w32 (4 * v1)) + v4))))))), some (iv v4)]) hR (dc dt_X11_leastFrom 32 rfl) (by decide) rfl rfl ?_
    exact J52 (F11_lesser v3 (w32 (r33 + (rd m 98 (w32 ((w32 (4 * v1)) + v4)))))) q48r h
set_option maxRecDepth 100000 in
set_option maxHeartbeats 4000000 in
theorem ok_F11_leastFrom {m : Mem}  {v1 v2 : Int} (q1 : inR v1) (q2 : inR v2) {out : Int} (h : F11_leastFrom m v1 v2 = some out) : CT l G cy ad tt yX11_leastFrom cX11_leastFrom 5 (some .int) 1 [.ref (ad 83), iv v1, iv v2] m (some (iv out)) (inR out) m := by
  refine CT_of (by decide) (Nat.le_of_ble_eq_true rfl) (fun Go hR hT => ?_)
  replace hR : RS l G cy ad tt RX11 cX11_leastFrom 5 1 Go := hR
  show Go 0 [some (.ref (ad 83)), some (iv v1), some (iv v2), none, none] [] m
  unfold F11_leastFrom at h
  refine r_ldc (pc := 0) hR (dc dt_X11_leastFrom 0 rfl) kw_X11_223 ?_
  refine r_istore_n (pc := 2) (L' := [some (.ref (ad 83)), some (iv v1), some (iv v2), some (iv 1000000), none]) hR (dc dt_X11_leastFrom 1 rfl) (by decide) rfl rfl ?_
  refine r_iconst (pc := 3) hR (dc dt_X11_leastFrom 2 rfl) ?_
  refine r_istore (pc := 4) (L' := [some (.ref (ad 83)), some (iv v1), some (iv v2), some (iv 1000000), some (iv 0)]) hR (dc dt_X11_leastFrom 3 rfl) (by decide) rfl rfl ?_
  refine lp_L11_leastFrom_6 hR hT q1 q2 FU 1000000 0 (rg_c rfl) (rg_c rfl) h
def tb_X11_costOf : List (Nat × (Instr × Nat)) := [(0, (.iconst 0, 1)), (1, (.istore_n 2, 1)), (2, (.aload_n 0, 1)), (3, (.getfield 214, 3)), (6, (.iconst 1, 1)), (7, (.isub, 1)), (8, (.istore_n 3, 1)), (9, (.iload_n 3, 1)), (10, (.ifCond .lt 126, 3)), (13, (.aload_n 0, 1)), (14, (.getfield 60, 3)), (17, (.iload_n 3, 1)), (18, (.iaload, 1)), (19, (.istore 4, 2)), (21, (.iconst 0, 1)), (22, (.istore 5, 2)), (24, (.iload 5, 2)), (26, (.iconst 4, 1)), (27, (.if_icmp .ge 103, 3)), (30, (.aload_n 0, 1)), (31, (.iload 4, 2)), (33, (.iload_n 1, 1)), (34, (.iload 5, 2)), (36, (.invokevirtual 230, 3)), (39, (.ifCond .eq 7, 3)), (42, (.iconst 0, 1)), (43, (.goto 5, 3)), (46, (.ldc 223, 2)), (48, (.istore 6, 2)), (50, (.iconst 0, 1)), (51, (.istore 7, 2)), (53, (.iload 7, 2)), (55, (.aload_n 0, 1)), (56, (.getfield 138, 3)), (59, (.if_icmp .ge 51, 3)), (62, (.iload 6, 2)), (64, (.ldc 223, 2)), (66, (.if_icmp .ge 44, 3)), (69, (.aload_n 0, 1)), (70, (.getfield 51, 3)), (73, (.iload 7, 2)), (75, (.baload, 1)), (76, (.ifCond .eq 28, 3)), (79, (.aload_n 0, 1)), (80, (.getfield 48, 3)), (83, (.iload 7, 2)), (85, (.iaload, 1)), (86, (.iload 4, 2)), (88, (.if_icmp .ne 16, 3)), (91, (.iload 6, 2)), (93, (.aload_n 0, 1)), (94, (.iload 7, 2)), (96, (.iload 5, 2)), (98, (.invokevirtual 233, 3)), (101, (.iadd, 1)), (102, (.istore 6, 2)), (104, (.iinc 7 1, 3)), (107, (.goto (-54), 3)), (110, (.aload_n 0, 1)), (111, (.getfield 54, 3)), (114, (.iconst 4, 1)), (115, (.iload 4, 2)), (117, (.imul, 1)), (118, (.iload 5, 2)), (120, (.iadd, 1)), (121, (.iload 6, 2)), (123, (.iastore, 1)), (124, (.iinc 5 1, 3)), (127, (.goto (-103), 3)), (130, (.iinc 3 (-1), 3)), (133, (.goto (-124), 3)), (136, (.iconst 0, 1)), (137, (.istore_n 3, 1)), (138, (.iload_n 3, 1)), (139, (.aload_n 0, 1)), (140, (.getfield 214, 3)), (143, (.if_icmp .ge 73, 3)), (146, (.aload_n 0, 1)), (147, (.getfield 60, 3)), (150, (.iload_n 3, 1)), (151, (.iaload, 1)), (152, (.istore 4, 2)), (154, (.aload_n 0, 1)), (155, (.getfield 48, 3)), (158, (.iload 4, 2)), (160, (.iaload, 1)), (161, (.ifCond .lt 6, 3)), (164, (.goto 46, 3)), (167, (.ldc 223, 2)), (169, (.istore 5, 2)), (171, (.iconst 0, 1)), (172, (.istore 6, 2)), (174, (.iload 6, 2)), (176, (.iconst 4, 1)), (177, (.if_icmp .ge 28, 3)), (180, (.iload 5, 2)), (182, (.aload_n 0, 1)), (183, (.getfield 54, 3)), (186, (.iconst 4, 1)), (187, (.iload 4, 2)), (189, (.imul, 1)), (190, (.iload 6, 2)), (192, (.iadd, 1)), (193, (.iaload, 1)), (194, (.invokestatic 227, 3)), (197, (.istore 5, 2)), (199, (.iinc 6 1, 3)), (202, (.goto (-28), 3)), (205, (.iload_n 2, 1)), (206, (.iload 5, 2)), (208, (.iadd, 1)), (209, (.istore_n 2, 1)), (210, (.iinc 3 1, 3)), (213, (.goto (-75), 3)), (216, (.iload_n 2, 1)), (217, (.ireturn, 1))]
set_option maxRecDepth 100000 in
theorem dt_X11_costOf : (tb_X11_costOf.all fun q => decide (decode cX11_costOf q.1 = .ok q.2)) = true := by decide +kernel
set_option maxRecDepth 100000 in
set_option maxHeartbeats 4000000 in
theorem lp_L11_costOf_53 {Go : Nat → List (Option Value) → List Value → Mem → Prop} (hR : RS l G cy ad tt RX11 cX11_costOf 8 2 Go) {out : Int × Mem} {m : Mem} (hT : RT cX11_costOf (some (iv out.1)) (inR out.1) out.2 (some .int) Go) {v1 : Int} {v3 : Int} {v4 : Int} {v5 : Int} (qv1 : inR v1) (qv3 : inR v3) (qv4 : inR v4) (qv5 : inR v5) {k110 : Int → Option (Int × Mem)} (hk110 : ∀ (v6 : Int), inR v6 → k110 v6 = some out → Go 110 [some (.ref (ad 83)), some (iv v1), some (iv 0), some (iv v3), some (iv v4), some (iv v5), some (iv v6), none] [] m) : ∀ (n : Nat) (v6 : Int) (v7 : Int), inR v6 → inR v7 → L11_costOf_53 m v4 v5 k110 n v6 v7 = some out → Go 53 [some (.ref (ad 83)), some (iv v1), some (iv 0), some (iv v3), some (iv v4), some (iv v5), some (iv v6), some (iv v7)] [] m := by
  intro n
  induction n with
  | zero =>
    intro v6 v7 qv6 qv7 h
    cases h
  | succ n ih =>
    intro v6 v7 qv6 qv7 h
    rw [L11_costOf_53] at h
    refine r_iload (pc := 53) hR (dc dt_X11_costOf 31 rfl) rfl ?_
    refine r_aload_n (pc := 55) hR (dc dt_X11_costOf 32 rfl) rfl ?_
    refine r_geti (pc := 56) hR (dc dt_X11_costOf 33 rfl) fl_X11_138 tc_83 rfl ?_
    refine r_icmp_ge (pc := 59) (tgt := 110) hR (dc dt_X11_costOf 34 rfl) (by decide) qv7 (rd_in _ _ _) (fun hc => ?_) (fun hc => ?_)
    · replace h := ite_t hc h
      refine r_weak (L' := [some (.ref (ad 83)), some (iv v1), some (iv 0), some (iv v3), some (iv v4), some (iv v5), some (iv v6), none]) hR ⟨Or.inr rfl, Or.inr rfl, Or.inr rfl, Or.inr rfl, Or.inr rfl, Or.inr rfl, Or.inr rfl, Or.inl rfl, trivial⟩ ?_
      exact hk110 v6 qv6 h
    replace h := ite_f hc h
    refine r_iload (pc := 62) hR (dc dt_X11_costOf 35 rfl) rfl ?_
    refine r_ldc (pc := 64) hR (dc dt_X11_costOf 36 rfl) kw_X11_223 ?_
    refine r_icmp_ge (pc := 66) (tgt := 110) hR (dc dt_X11_costOf 37 rfl) (by decide) qv6 (rg_c rfl) (fun hc => ?_) (fun hc => ?_)
    · replace h := ite_t hc h
      refine r_weak (L' := [some (.ref (ad 83)), some (iv v1), some (iv 0), some (iv v3), some (iv v4), some (iv v5), some (iv v6), none]) hR ⟨Or.inr rfl, Or.inr rfl, Or.inr rfl, Or.inr rfl, Or.inr rfl, Or.inr rfl, Or.inr rfl, Or.inl rfl, trivial⟩ ?_
      exact hk110 v6 qv6 h
    replace h := ite_f hc h
    refine r_aload_n (pc := 69) hR (dc dt_X11_costOf 38 rfl) rfl ?_
    refine r_getr (pc := 70) (k2 := 97) hR (dc dt_X11_costOf 39 rfl) fl_X11_51 tc_83 rfl ?_
    refine r_iload (pc := 73) hR (dc dt_X11_costOf 40 rfl) rfl ?_
    obtain ⟨g1, h⟩ := gd_some h
    refine r_zald (pc := 75) hR (dc dt_X11_costOf 41 rfl) tc_97 g1 qv7 ?_
    refine jn_e h (fun (K : Int → Option (Int × Mem)) => ∀ (v6_104 : Int), inR v6_104 → K v6_104 = some out → Go 104 [some (.ref (ad 83)), some (iv v1), some (iv 0), some (iv v3), some (iv v4), some (iv v5), some (iv v6_104), some (iv v7)] [] m) (fun v6_104 qv6_104 h => ?_) (fun K104 J104 h => ?_)
    · refine r_iinc (pc := 104) (L' := [some (.ref (ad 83)), some (iv v1), some (iv 0), some (iv v3), some (iv v4), some (iv v5), some (iv v6_104), some (iv (w32 (v7 + 1)))]) hR (dc dt_X11_costOf 56 rfl) rfl (by decide) rfl rfl ?_
      refine r_goto (pc := 107) (tgt := 53) hR (dc dt_X11_costOf 57 rfl) (by decide) ?_
      exact ih v6_104 (w32 (v7 + 1)) qv6_104 (w32_in _) h
    refine r_if_eq (pc := 76) (tgt := 104) hR (dc dt_X11_costOf 42 rfl) (by decide) (rd_in _ _ _) (fun hc => ?_) (fun hc => ?_)
    · replace h := ite_t hc h
      exact J104 v6 qv6 h
    replace h := ite_f hc h
    refine r_aload_n (pc := 79) hR (dc dt_X11_costOf 43 rfl) rfl ?_
    refine r_getr (pc := 80) (k2 := 96) hR (dc dt_X11_costOf 44 rfl) fl_X11_48 tc_83 rfl ?_
    refine r_iload (pc := 83) hR (dc dt_X11_costOf 45 rfl) rfl ?_
    obtain ⟨g1, h⟩ := gd_some h
    refine r_iald (pc := 85) hR (dc dt_X11_costOf 46 rfl) tc_96 g1 qv7 ?_
    refine r_iload (pc := 86) hR (dc dt_X11_costOf 47 rfl) rfl ?_
    refine r_icmp_ne (pc := 88) (tgt := 104) hR (dc dt_X11_costOf 48 rfl) (by decide) (rd_in _ _ _) qv4 (fun hc => ?_) (fun hc => ?_)
    · replace h := ite_t hc h
      exact J104 v6 qv6 h
    replace h := ite_f hc h
    refine r_iload (pc := 91) hR (dc dt_X11_costOf 49 rfl) rfl ?_
    refine r_aload_n (pc := 93) hR (dc dt_X11_costOf 50 rfl) rfl ?_
    refine r_iload (pc := 94) hR (dc dt_X11_costOf 51 rfl) rfl ?_
    refine r_iload (pc := 96) hR (dc dt_X11_costOf 52 rfl) rfl ?_
    obtain ⟨r98, e98, h⟩ := b1_some h
    refine r_callV (pc := 98) (rest := [iv v6]) hR (dc dt_X11_costOf 53 rfl) cl_X11_233 tc_83 rfl (ok_F11_leastFrom qv7 qv5 e98) (by decide) rfl (Nat.le_of_ble_eq_true rfl) rfl (fun q98r => ?_)
    show Go 101 [some (.ref (ad 83)), some (iv v1), some (iv 0), some (iv v3), some (iv v4), some (iv v5), some (iv v6), some (iv v7)] [iv r98, iv v6] m
    refine r_iadd (pc := 101) hR (dc dt_X11_costOf 54 rfl) ?_
    refine r_istore (pc := 102) (L' := [some (.ref (ad 83)), some (iv v1), some (iv 0), some (iv v3), some (iv v4), some (iv v5), some (iv (w32 (v6 + r98))), some (iv v7)]) hR (dc dt_X11_costOf 55 rfl) (by decide) rfl rfl ?_
    exact J104 (w32 (v6 + r98)) (w32_in _) h
set_option maxRecDepth 100000 in
set_option maxHeartbeats 4000000 in
theorem lp_L11_costOf_24 {Go : Nat → List (Option Value) → List Value → Mem → Prop} (hR : RS l G cy ad tt RX11 cX11_costOf 8 2 Go) {out : Int × Mem} (hT : RT cX11_costOf (some (iv out.1)) (inR out.1) out.2 (some .int) Go) {v1 : Int} {v3 : Int} {v4 : Int} (qv1 : inR v1) (qv3 : inR v3) (qv4 : inR v4) {k130 : Mem → Option (Int × Mem)} (hk130 : ∀ (m : Mem), k130 m = some out → Go 130 [some (.ref (ad 83)), some (iv v1), some (iv 0), some (iv v3), none, none, none, none] [] m) : ∀ (n : Nat) (v5 : Int) (m : Mem), inR v5 → L11_costOf_24 v1 v4 k130 n v5 m = some out → Go 24 [some (.ref (ad 83)), some (iv v1), some (iv 0), some (iv v3), some (iv v4), some (iv v5), none, none] [] m := by
  intro n
  induction n with
  | zero =>
    intro v5 m qv5 h
    cases h
  | succ n ih =>
    intro v5 m qv5 h
    rw [L11_costOf_24] at h
    refine r_iload (pc := 24) hR (dc dt_X11_costOf 16 rfl) rfl ?_
    refine r_iconst (pc := 26) hR (dc dt_X11_costOf 17 rfl) ?_
    refine r_icmp_ge (pc := 27) (tgt := 130) hR (dc dt_X11_costOf 18 rfl) (by decide) qv5 (rg_c rfl) (fun hc => ?_) (fun hc => ?_)
    · replace h := ite_t hc h
      refine r_weak (L' := [some (.ref (ad 83)), some (iv v1), some (iv 0), some (iv v3), none, none, none, none]) hR ⟨Or.inr rfl, Or.inr rfl, Or.inr rfl, Or.inr rfl, Or.inl rfl, Or.inl rfl, Or.inr rfl, Or.inr rfl, trivial⟩ ?_
      exact hk130 m h
    replace h := ite_f hc h
    refine r_aload_n (pc := 30) hR (dc dt_X11_costOf 19 rfl) rfl ?_
    refine r_iload (pc := 31) hR (dc dt_X11_costOf 20 rfl) rfl ?_
    refine r_iload_n (pc := 33) hR (dc dt_X11_costOf 21 rfl) rfl ?_
    refine r_iload (pc := 34) hR (dc dt_X11_costOf 22 rfl) rfl ?_
    obtain ⟨r36, e36, h⟩ := b1_some h
    refine r_callV (pc := 36) (rest := []) hR (dc dt_X11_costOf 23 rfl) cl_X11_230 tc_83 rfl (ok_F11_mayBe qv4 qv1 qv5 e36) (by decide) rfl (Nat.le_of_ble_eq_true rfl) rfl (fun q36r => ?_)
    show Go 39 [some (.ref (ad 83)), some (iv v1), some (iv 0), some (iv v3), some (iv v4), some (iv v5), none, none] [iv r36] m
    refine jn_e h (fun (K : Int → Option (Int × Mem)) => ∀ (x48 : Int), inR x48 → K x48 = some out → Go 48 [some (.ref (ad 83)), some (iv v1), some (iv 0), some (iv v3), some (iv v4), some (iv v5), none, none] [iv x48] m) (fun x48 qx48 h => ?_) (fun K48 J48 h => ?_)
    · refine r_istore (pc := 48) (L' := [some (.ref (ad 83)), some (iv v1), some (iv 0), some (iv v3), some (iv v4), some (iv v5), some (iv x48), none]) hR (dc dt_X11_costOf 28 rfl) (by decide) rfl rfl ?_
      refine r_iconst (pc := 50) hR (dc dt_X11_costOf 29 rfl) ?_
      refine r_istore (pc := 51) (L' := [some (.ref (ad 83)), some (iv v1), some (iv 0), some (iv v3), some (iv v4), some (iv v5), some (iv x48), some (iv 0)]) hR (dc dt_X11_costOf 30 rfl) (by decide) rfl rfl ?_
      refine lp_L11_costOf_53 hR hT qv1 qv3 qv4 qv5 (fun v6_110 qv6_110 h => ?_) FU x48 0 qx48 (rg_c rfl) h
      show Go 110 [some (.ref (ad 83)), some (iv v1), some (iv 0), some (iv v3), some (iv v4), some (iv v5), some (iv v6_110), none] [] m
      refine r_aload_n (pc := 110) hR (dc dt_X11_costOf 58 rfl) rfl ?_
      refine r_getr (pc := 111) (k2 := 98) hR (dc dt_X11_costOf 59 rfl) fl_X11_54 tc_83 rfl ?_
      refine r_iconst (pc := 114) hR (dc dt_X11_costOf 60 rfl) ?_
      refine r_iload (pc := 115) hR (dc dt_X11_costOf 61 rfl) rfl ?_
      refine r_imul (pc := 117) hR (dc dt_X11_costOf 62 rfl) ?_
      refine r_iload (pc := 118) hR (dc dt_X11_costOf 63 rfl) rfl ?_
      refine r_iadd (pc := 120) hR (dc dt_X11_costOf 64 rfl) ?_
      refine r_iload (pc := 121) hR (dc dt_X11_costOf 65 rfl) rfl ?_
      obtain ⟨g1, h⟩ := gd_some h
      refine r_iast (pc := 123) hR (dc dt_X11_costOf 66 rfl) tc_98 g1 (w32_in _) ?_
      replace h := stw_e h
      generalize wr m 98 (w32 ((w32 (4 * v4)) + v5)) v6_110 = m123 at h ⊢
      refine r_iinc (pc := 124) (L' := [some (.ref (ad 83)), some (iv v1), some (iv 0), some (iv v3), some (iv v4), some (iv (w32 (v5 + 1))), some (iv v6_110), none]) hR (dc dt_X11_costOf 67 rfl) rfl (by decide) rfl rfl ?_
      refine r_goto (pc := 127) (tgt := 24) hR (dc dt_X11_costOf 68 rfl) (by decide) ?_
      refine r_weak (L' := [some (.ref (ad 83)), some (iv v1), some (iv 0), some (iv v3), some (iv v4), some (iv (w32 (v5 + 1))), none, none]) hR ⟨Or.inr rfl, Or.inr rfl, Or.inr rfl, Or.inr rfl, Or.inr rfl, Or.inr rfl, Or.inl rfl, Or.inr rfl, trivial⟩ ?_
      exact ih (w32 (v5 + 1)) m123 (w32_in _) h
    refine r_if_eq (pc := 39) (tgt := 46) hR (dc dt_X11_costOf 24 rfl) (by decide) (inZ_R q36r) (fun hc => ?_) (fun hc => ?_)
    · replace h := ite_t hc h
      refine r_ldc (pc := 46) hR (dc dt_X11_costOf 27 rfl) kw_X11_223 ?_
      exact J48 1000000 (rg_c rfl) h
    replace h := ite_f hc h
    refine r_iconst (pc := 42) hR (dc dt_X11_costOf 25 rfl) ?_
    refine r_goto (pc := 43) (tgt := 48) hR (dc dt_X11_costOf 26 rfl) (by decide) ?_
    exact J48 0 (rg_c rfl) h
set_option maxRecDepth 100000 in
set_option maxHeartbeats 4000000 in
theorem lp_L11_costOf_9 {Go : Nat → List (Option Value) → List Value → Mem → Prop} (hR : RS l G cy ad tt RX11 cX11_costOf 8 2 Go) {out : Int × Mem} (hT : RT cX11_costOf (some (iv out.1)) (inR out.1) out.2 (some .int) Go) {v1 : Int} (qv1 : inR v1) {k136 : Mem → Option (Int × Mem)} (hk136 : ∀ (m : Mem), k136 m = some out → Go 136 [some (.ref (ad 83)), none, some (iv 0), none, none, none, none, none] [] m) : ∀ (n : Nat) (v3 : Int) (m : Mem), inR v3 → L11_costOf_9 v1 k136 n v3 m = some out → Go 9 [some (.ref (ad 83)), some (iv v1), some (iv 0), some (iv v3), none, none, none, none] [] m := by
  intro n
  induction n with
  | zero =>
    intro v3 m qv3 h
    cases h
  | succ n ih =>
    intro v3 m qv3 h
    rw [L11_costOf_9] at h
    refine r_iload_n (pc := 9) hR (dc dt_X11_costOf 7 rfl) rfl ?_
    refine r_if_lt (pc := 10) (tgt := 136) hR (dc dt_X11_costOf 8 rfl) (by decide) qv3 (fun hc => ?_) (fun hc => ?_)
    · replace h := ite_t hc h
      refine r_weak (L' := [some (.ref (ad 83)), none, some (iv 0), none, none, none, none, none]) hR ⟨Or.inr rfl, Or.inl rfl, Or.inr rfl, Or.inl rfl, Or.inr rfl, Or.inr rfl, Or.inr rfl, Or.inr rfl, trivial⟩ ?_
      exact hk136 m h
    replace h := ite_f hc h
    refine r_aload_n (pc := 13) hR (dc dt_X11_costOf 9 rfl) rfl ?_
    refine r_getr (pc := 14) (k2 := 100) hR (dc dt_X11_costOf 10 rfl) fl_X11_60 tc_83 rfl ?_
    refine r_iload_n (pc := 17) hR (dc dt_X11_costOf 11 rfl) rfl ?_
    obtain ⟨g1, h⟩ := gd_some h
    refine r_iald (pc := 18) hR (dc dt_X11_costOf 12 rfl) tc_100 g1 qv3 ?_
    refine r_istore (pc := 19) (L' := [some (.ref (ad 83)), some (iv v1), some (iv 0), some (iv v3), some (iv (rd m 100 v3)), none, none, none]) hR (dc dt_X11_costOf 13 rfl) (by decide) rfl rfl ?_
    refine r_iconst (pc := 21) hR (dc dt_X11_costOf 14 rfl) ?_
    refine r_istore (pc := 22) (L' := [some (.ref (ad 83)), some (iv v1), some (iv 0), some (iv v3), some (iv (rd m 100 v3)), some (iv 0), none, none]) hR (dc dt_X11_costOf 15 rfl) (by decide) rfl rfl ?_
    refine lp_L11_costOf_24 hR hT qv1 qv3 (rd_in _ _ _) (fun m_130 h => ?_) FU 0 m (rg_c rfl) h
    show Go 130 [some (.ref (ad 83)), some (iv v1), some (iv 0), some (iv v3), none, none, none, none] [] m_130
    refine r_iinc (pc := 130) (L' := [some (.ref (ad 83)), some (iv v1), some (iv 0), some (iv (w32 (v3 + (-1)))), none, none, none, none]) hR (dc dt_X11_costOf 69 rfl) rfl (by decide) rfl rfl ?_
    refine r_goto (pc := 133) (tgt := 9) hR (dc dt_X11_costOf 70 rfl) (by decide) ?_
    exact ih (w32 (v3 + (-1))) m_130 (w32_in _) h
set_option maxRecDepth 100000 in
set_option maxHeartbeats 4000000 in
theorem lp_L11_costOf_174 {Go : Nat → List (Option Value) → List Value → Mem → Prop} (hR : RS l G cy ad tt RX11 cX11_costOf 8 2 Go) {out : Int × Mem} {m : Mem} (hT : RT cX11_costOf (some (iv out.1)) (inR out.1) out.2 (some .int) Go) {v2 : Int} {v3 : Int} {v4 : Int} (qv2 : inR v2) (qv3 : inR v3) (qv4 : inR v4) {k205 : Int → Option (Int × Mem)} (hk205 : ∀ (v5 : Int), inR v5 → k205 v5 = some out → Go 205 [some (.ref (ad 83)), none, some (iv v2), some (iv v3), none, some (iv v5), none, none] [] m) : ∀ (n : Nat) (v5 : Int) (v6 : Int), inR v5 → inR v6 → L11_costOf_174 m v4 k205 n v5 v6 = some out → Go 174 [some (.ref (ad 83)), none, some (iv v2), some (iv v3), some (iv v4), some (iv v5), some (iv v6), none] [] m := by
  intro n
  induction n with
  | zero =>
    intro v5 v6 qv5 qv6 h
    cases h
  | succ n ih =>
    intro v5 v6 qv5 qv6 h
    rw [L11_costOf_174] at h
    refine r_iload (pc := 174) hR (dc dt_X11_costOf 92 rfl) rfl ?_
    refine r_iconst (pc := 176) hR (dc dt_X11_costOf 93 rfl) ?_
    refine r_icmp_ge (pc := 177) (tgt := 205) hR (dc dt_X11_costOf 94 rfl) (by decide) qv6 (rg_c rfl) (fun hc => ?_) (fun hc => ?_)
    · replace h := ite_t hc h
      refine r_weak (L' := [some (.ref (ad 83)), none, some (iv v2), some (iv v3), none, some (iv v5), none, none]) hR ⟨Or.inr rfl, Or.inr rfl, Or.inr rfl, Or.inr rfl, Or.inl rfl, Or.inr rfl, Or.inl rfl, Or.inr rfl, trivial⟩ ?_
      exact hk205 v5 qv5 h
    replace h := ite_f hc h
    refine r_iload (pc := 180) hR (dc dt_X11_costOf 95 rfl) rfl ?_
    refine r_aload_n (pc := 182) hR (dc dt_X11_costOf 96 rfl) rfl ?_
    refine r_getr (pc := 183) (k2 := 98) hR (dc dt_X11_costOf 97 rfl) fl_X11_54 tc_83 rfl ?_
    refine r_iconst (pc := 186) hR (dc dt_X11_costOf 98 rfl) ?_
    refine r_iload (pc := 187) hR (dc dt_X11_costOf 99 rfl) rfl ?_
    refine r_imul (pc := 189) hR (dc dt_X11_costOf 100 rfl) ?_
    refine r_iload (pc := 190) hR (dc dt_X11_costOf 101 rfl) rfl ?_
    refine r_iadd (pc := 192) hR (dc dt_X11_costOf 102 rfl) ?_
    obtain ⟨g1, h⟩ := gd_some h
    refine r_iald (pc := 193) hR (dc dt_X11_costOf 103 rfl) tc_98 g1 (w32_in _) ?_
    refine r_callS (pc := 194) (rest := []) hR (dc dt_X11_costOf 104 rfl) cl_X11_227 (ok_F11_lesser qv5 (rd_in _ _ _)) (by decide) rfl (Nat.le_of_ble_eq_true rfl) rfl (fun q194r => ?_)
    show Go 197 [some (.ref (ad 83)), none, some (iv v2), some (iv v3), some (iv v4), some (iv v5), some (iv v6), none] [iv (F11_lesser v5 (rd m 98 (w32 ((w32 (4 * v4)) + v6))))] m
    refine r_istore (pc := 197) (L' := [some (.ref (ad 83)), none, some (iv v2), some (iv v3), some (iv v4), some (iv (F11_lesser v5 (rd m 98 (w32 ((w32 (4 * v4)) + v6))))), some (iv v6), none]) hR (dc dt_X11_costOf 105 rfl) (by decide) rfl rfl ?_
    refine r_iinc (pc := 199) (L' := [some (.ref (ad 83)), none, some (iv v2), some (iv v3), some (iv v4), some (iv (F11_lesser v5 (rd m 98 (w32 ((w32 (4 * v4)) + v6))))), some (iv (w32 (v6 + 1))), none]) hR (dc dt_X11_costOf 106 rfl) rfl (by decide) rfl rfl ?_
    refine r_goto (pc := 202) (tgt := 174) hR (dc dt_X11_costOf 107 rfl) (by decide) ?_
    exact ih (F11_lesser v5 (rd m 98 (w32 ((w32 (4 * v4)) + v6)))) (w32 (v6 + 1)) q194r (w32_in _) h
set_option maxRecDepth 100000 in
set_option maxHeartbeats 4000000 in
theorem lp_L11_costOf_138 {Go : Nat → List (Option Value) → List Value → Mem → Prop} (hR : RS l G cy ad tt RX11 cX11_costOf 8 2 Go) {out : Int × Mem} {m : Mem} (hT : RT cX11_costOf (some (iv out.1)) (inR out.1) out.2 (some .int) Go) : ∀ (n : Nat) (v2 : Int) (v3 : Int), inR v2 → inR v3 → L11_costOf_138 m n v2 v3 = some out → Go 138 [some (.ref (ad 83)), none, some (iv v2), some (iv v3), none, none, none, none] [] m := by
  intro n
  induction n with
  | zero =>
    intro v2 v3 qv2 qv3 h
    cases h
  | succ n ih =>
    intro v2 v3 qv2 qv3 h
    rw [L11_costOf_138] at h
    refine r_iload_n (pc := 138) hR (dc dt_X11_costOf 73 rfl) rfl ?_
    refine r_aload_n (pc := 139) hR (dc dt_X11_costOf 74 rfl) rfl ?_
    refine r_geti (pc := 140) hR (dc dt_X11_costOf 75 rfl) fl_X11_214 tc_83 rfl ?_
    refine r_icmp_ge (pc := 143) (tgt := 216) hR (dc dt_X11_costOf 76 rfl) (by decide) qv3 (rd_in _ _ _) (fun hc => ?_) (fun hc => ?_)
    · replace h := ite_t hc h
      refine r_iload_n (pc := 216) hR (dc dt_X11_costOf 114 rfl) rfl ?_
      exact r_iret hT (dc dt_X11_costOf 115 rfl) (congrArg Prod.fst (Option.some.inj h)) (congrArg Prod.snd (Option.some.inj h)) qv2
    replace h := ite_f hc h
    refine r_aload_n (pc := 146) hR (dc dt_X11_costOf 77 rfl) rfl ?_
    refine r_getr (pc := 147) (k2 := 100) hR (dc dt_X11_costOf 78 rfl) fl_X11_60 tc_83 rfl ?_
    refine r_iload_n (pc := 150) hR (dc dt_X11_costOf 79 rfl) rfl ?_
    obtain ⟨g1, h⟩ := gd_some h
    refine r_iald (pc := 151) hR (dc dt_X11_costOf 80 rfl) tc_100 g1 qv3 ?_
    refine r_istore (pc := 152) (L' := [some (.ref (ad 83)), none, some (iv v2), some (iv v3), some (iv (rd m 100 v3)), none, none, none]) hR (dc dt_X11_costOf 81 rfl) (by decide) rfl rfl ?_
    refine r_aload_n (pc := 154) hR (dc dt_X11_costOf 82 rfl) rfl ?_
    refine r_getr (pc := 155) (k2 := 96) hR (dc dt_X11_costOf 83 rfl) fl_X11_48 tc_83 rfl ?_
    refine r_iload (pc := 158) hR (dc dt_X11_costOf 84 rfl) rfl ?_
    obtain ⟨g1, h⟩ := gd_some h
    refine r_iald (pc := 160) hR (dc dt_X11_costOf 85 rfl) tc_96 g1 (rd_in _ _ _) ?_
    refine jn_e h (fun (K : Int → Option (Int × Mem)) => ∀ (v2_210 : Int), inR v2_210 → K v2_210 = some out → Go 210 [some (.ref (ad 83)), none, some (iv v2_210), some (iv v3), none, none, none, none] [] m) (fun v2_210 qv2_210 h => ?_) (fun K210 J210 h => ?_)
    · refine r_iinc (pc := 210) (L' := [some (.ref (ad 83)), none, some (iv v2_210), some (iv (w32 (v3 + 1))), none, none, none, none]) hR (dc dt_X11_costOf 112 rfl) rfl (by decide) rfl rfl ?_
      refine r_goto (pc := 213) (tgt := 138) hR (dc dt_X11_costOf 113 rfl) (by decide) ?_
      exact ih v2_210 (w32 (v3 + 1)) qv2_210 (w32_in _) h
    refine r_if_lt (pc := 161) (tgt := 167) hR (dc dt_X11_costOf 86 rfl) (by decide) (rd_in _ _ _) (fun hc => ?_) (fun hc => ?_)
    · replace h := ite_t hc h
      refine r_ldc (pc := 167) hR (dc dt_X11_costOf 88 rfl) kw_X11_223 ?_
      refine r_istore (pc := 169) (L' := [some (.ref (ad 83)), none, some (iv v2), some (iv v3), some (iv (rd m 100 v3)), some (iv 1000000), none, none]) hR (dc dt_X11_costOf 89 rfl) (by decide) rfl rfl ?_
      refine r_iconst (pc := 171) hR (dc dt_X11_costOf 90 rfl) ?_
      refine r_istore (pc := 172) (L' := [some (.ref (ad 83)), none, some (iv v2), some (iv v3), some (iv (rd m 100 v3)), some (iv 1000000), some (iv 0), none]) hR (dc dt_X11_costOf 91 rfl) (by decide) rfl rfl ?_
      refine lp_L11_costOf_174 hR hT qv2 qv3 (rd_in _ _ _) (fun v5_205 qv5_205 h => ?_) FU 1000000 0 (rg_c rfl) (rg_c rfl) h
      show Go 205 [some (.ref (ad 83)), none, some (iv v2), some (iv v3), none, some (iv v5_205), none, none] [] m
      refine r_iload_n (pc := 205) hR (dc dt_X11_costOf 108 rfl) rfl ?_
      refine r_iload (pc := 206) hR (dc dt_X11_costOf 109 rfl) rfl ?_
      refine r_iadd (pc := 208) hR (dc dt_X11_costOf 110 rfl) ?_
      refine r_istore_n (pc := 209) (L' := [some (.ref (ad 83)), none, some (iv (w32 (v2 + v5_205))), some (iv v3), none, some (iv v5_205), none, none]) hR (dc dt_X11_costOf 111 rfl) (by decide) rfl rfl ?_
      refine r_weak (L' := [some (.ref (ad 83)), none, some (iv (w32 (v2 + v5_205))), some (iv v3), none, none, none, none]) hR ⟨Or.inr rfl, Or.inr rfl, Or.inr rfl, Or.inr rfl, Or.inr rfl, Or.inl rfl, Or.inr rfl, Or.inr rfl, trivial⟩ ?_
      exact J210 (w32 (v2 + v5_205)) (w32_in _) h
    replace h := ite_f hc h
    refine r_goto (pc := 164) (tgt := 210) hR (dc dt_X11_costOf 87 rfl) (by decide) ?_
    refine r_weak (L' := [some (.ref (ad 83)), none, some (iv v2), some (iv v3), none, none, none, none]) hR ⟨Or.inr rfl, Or.inr rfl, Or.inr rfl, Or.inr rfl, Or.inl rfl, Or.inr rfl, Or.inr rfl, Or.inr rfl, trivial⟩ ?_
    exact J210 v2 qv2 h
set_option maxRecDepth 100000 in
set_option maxHeartbeats 4000000 in
theorem ok_F11_costOf {m : Mem}  {v1 : Int} (q1 : inR v1) {out : Int × Mem} (h : F11_costOf m v1 = some out) : CT l G cy ad tt yX11_costOf cX11_costOf 8 (some .int) 2 [.ref (ad 83), iv v1] m (some (iv out.1)) (inR out.1) out.2 := by
  refine CT_of (by decide) (Nat.le_of_ble_eq_true rfl) (fun Go hR hT => ?_)
  replace hR : RS l G cy ad tt RX11 cX11_costOf 8 2 Go := hR
  show Go 0 [some (.ref (ad 83)), some (iv v1), none, none, none, none, none, none] [] m
  unfold F11_costOf at h
  refine r_iconst (pc := 0) hR (dc dt_X11_costOf 0 rfl) ?_
  refine r_istore_n (pc := 1) (L' := [some (.ref (ad 83)), some (iv v1), some (iv 0), none, none, none, none, none]) hR (dc dt_X11_costOf 1 rfl) (by decide) rfl rfl ?_
  refine r_aload_n (pc := 2) hR (dc dt_X11_costOf 2 rfl) rfl ?_
  refine r_geti (pc := 3) hR (dc dt_X11_costOf 3 rfl) fl_X11_214 tc_83 rfl ?_
  refine r_iconst (pc := 6) hR (dc dt_X11_costOf 4 rfl) ?_
  refine r_isub (pc := 7) hR (dc dt_X11_costOf 5 rfl) ?_
  refine r_istore_n (pc := 8) (L' := [some (.ref (ad 83)), some (iv v1), some (iv 0), some (iv (w32 ((rd m 83 24) - 1))), none, none, none, none]) hR (dc dt_X11_costOf 6 rfl) (by decide) rfl rfl ?_
  refine lp_L11_costOf_9 hR hT q1 (fun m_136 h => ?_) FU (w32 ((rd m 83 24) - 1)) m (w32_in _) h
  show Go 136 [some (.ref (ad 83)), none, some (iv 0), none, none, none, none, none] [] m_136
  refine r_iconst (pc := 136) hR (dc dt_X11_costOf 71 rfl) ?_
  refine r_istore_n (pc := 137) (L' := [some (.ref (ad 83)), none, some (iv 0), some (iv 0), none, none, none, none]) hR (dc dt_X11_costOf 72 rfl) (by decide) rfl rfl ?_
  refine lp_L11_costOf_138 hR hT FU 0 0 (rg_c rfl) (rg_c rfl) h
def tb_X11_findBeyond : List (Nat × (Instr × Nat)) := [(0, (.iconst 0, 1)), (1, (.istore_n 1, 1)), (2, (.iload_n 1, 1)), (3, (.aload_n 0, 1)), (4, (.getfield 214, 3)), (7, (.if_icmp .ge 155, 3)), (10, (.aload_n 0, 1)), (11, (.getfield 60, 3)), (14, (.iload_n 1, 1)), (15, (.iaload, 1)), (16, (.istore_n 2, 1)), (17, (.aload_n 0, 1)), (18, (.getfield 48, 3)), (21, (.iload_n 2, 1)), (22, (.iaload, 1)), (23, (.istore_n 3, 1)), (24, (.iconst 0, 1)), (25, (.istore 4, 2)), (27, (.iload 4, 2)), (29, (.iconst 4, 1)), (30, (.if_icmp .ge 126, 3)), (33, (.iload_n 3, 1)), (34, (.ifCond .ge 18, 3)), (37, (.aload_n 0, 1)), (38, (.getfield 57, 3)), (41, (.iconst 4, 1)), (42, (.iload_n 2, 1)), (43, (.imul, 1)), (44, (.iload 4, 2)), (46, (.iadd, 1)), (47, (.iconst 0, 1)), (48, (.iastore, 1)), (49, (.goto 101, 3)), (52, (.ldc 223, 2)), (54, (.istore 5, 2)), (56, (.iconst 0, 1)), (57, (.istore 6, 2)), (59, (.iload 6, 2)), (61, (.iconst 4, 1)), (62, (.if_icmp .ge 75, 3)), (65, (.aload_n 0, 1)), (66, (.getfield 54, 3)), (69, (.iconst 4, 1)), (70, (.iload_n 3, 1)), (71, (.imul, 1)), (72, (.iload 6, 2)), (74, (.iadd, 1)), (75, (.iaload, 1)), (76, (.ldc 223, 2)), (78, (.if_icmp .lt 6, 3)), (81, (.goto 50, 3)), (84, (.iload 5, 2)), (86, (.aload_n 0, 1)), (87, (.getfield 57, 3)), (90, (.iconst 4, 1)), (91, (.iload_n 3, 1)), (92, (.imul, 1)), (93, (.iload 6, 2)), (95, (.iadd, 1)), (96, (.iaload, 1)), (97, (.aload_n 0, 1)), (98, (.getfield 54, 3)), (101, (.iconst 4, 1)), (102, (.iload_n 3, 1)), (103, (.imul, 1)), (104, (.iload 6, 2)), (106, (.iadd, 1)), (107, (.iaload, 1)), (108, (.iadd, 1)), (109, (.aload_n 0, 1)), (110, (.iload_n 2, 1)), (111, (.iload 6, 2)), (113, (.invokevirtual 233, 3)), (116, (.isub, 1)), (117, (.aload_n 0, 1)), (118, (.iload 6, 2)), (120, (.iload 4, 2)), (122, (.invokevirtual 224, 3)), (125, (.iadd, 1)), (126, (.invokestatic 227, 3)), (129, (.istore 5, 2)), (131, (.iinc 6 1, 3)), (134, (.goto (-75), 3)), (137, (.aload_n 0, 1)), (138, (.getfield 57, 3)), (141, (.iconst 4, 1)), (142, (.iload_n 2, 1)), (143, (.imul, 1)), (144, (.iload 4, 2)), (146, (.iadd, 1)), (147, (.iload 5, 2)), (149, (.iastore, 1)), (150, (.iinc 4 1, 3)), (153, (.goto (-126), 3)), (156, (.iinc 1 1, 3)), (159, (.goto (-157), 3)), (162, (.return_, 1))]
set_option maxRecDepth 100000 in
theorem dt_X11_findBeyond : (tb_X11_findBeyond.all fun q => decide (decode cX11_findBeyond q.1 = .ok q.2)) = true := by decide +kernel
set_option maxRecDepth 100000 in
set_option maxHeartbeats 4000000 in
theorem lp_L11_findBeyond_59 {Go : Nat → List (Option Value) → List Value → Mem → Prop} (hR : RS l G cy ad tt RX11 cX11_findBeyond 7 2 Go) {out : Mem} {m : Mem} (hT : RT cX11_findBeyond none True out none Go) {v1 : Int} {v2 : Int} {v3 : Int} {v4 : Int} (qv1 : inR v1) (qv2 : inR v2) (qv3 : inR v3) (qv4 : inR v4) {k137 : Int → Option Mem} (hk137 : ∀ (v5 : Int), inR v5 → k137 v5 = some out → Go 137 [some (.ref (ad 83)), some (iv v1), some (iv v2), some (iv v3), some (iv v4), some (iv v5), none] [] m) : ∀ (n : Nat) (v5 : Int) (v6 : Int), inR v5 → inR v6 → L11_findBeyond_59 m v2 v3 v4 k137 n v5 v6 = some out → Go 59 [some (.ref (ad 83)), some (iv v1), some (iv v2), some (iv v3), some (iv v4), some (iv v5), some (iv v6)] [] m := by
  intro n
  induction n with
  | zero =>
    intro v5 v6 qv5 qv6 h
    cases h
  | succ n ih =>
    intro v5 v6 qv5 qv6 h
    rw [L11_findBeyond_59] at h
    refine r_iload (pc := 59) hR (dc dt_X11_findBeyond 37 rfl) rfl ?_
    refine r_iconst (pc := 61) hR (dc dt_X11_findBeyond 38 rfl) ?_
    refine r_icmp_ge (pc := 62) (tgt := 137) hR (dc dt_X11_findBeyond 39 rfl) (by decide) qv6 (rg_c rfl) (fun hc => ?_) (fun hc => ?_)
    · replace h := ite_t hc h
      refine r_weak (L' := [some (.ref (ad 83)), some (iv v1), some (iv v2), some (iv v3), some (iv v4), some (iv v5), none]) hR ⟨Or.inr rfl, Or.inr rfl, Or.inr rfl, Or.inr rfl, Or.inr rfl, Or.inr rfl, Or.inl rfl, trivial⟩ ?_
      exact hk137 v5 qv5 h
    replace h := ite_f hc h
    refine r_aload_n (pc := 65) hR (dc dt_X11_findBeyond 40 rfl) rfl ?_
    refine r_getr (pc := 66) (k2 := 98) hR (dc dt_X11_findBeyond 41 rfl) fl_X11_54 tc_83 rfl ?_
    refine r_iconst (pc := 69) hR (dc dt_X11_findBeyond 42 rfl) ?_
    refine r_iload_n (pc := 70) hR (dc dt_X11_findBeyond 43 rfl) rfl ?_
    refine r_imul (pc := 71) hR (dc dt_X11_findBeyond 44 rfl) ?_
    refine r_iload (pc := 72) hR (dc dt_X11_findBeyond 45 rfl) rfl ?_
    refine r_iadd (pc := 74) hR (dc dt_X11_findBeyond 46 rfl) ?_
    obtain ⟨g1, h⟩ := gd_some h
    refine r_iald (pc := 75) hR (dc dt_X11_findBeyond 47 rfl) tc_98 g1 (w32_in _) ?_
    refine r_ldc (pc := 76) hR (dc dt_X11_findBeyond 48 rfl) kw_X11_223 ?_
    refine jn_e h (fun (K : Int → Option Mem) => ∀ (v5_131 : Int), inR v5_131 → K v5_131 = some out → Go 131 [some (.ref (ad 83)), some (iv v1), some (iv v2), some (iv v3), some (iv v4), some (iv v5_131), some (iv v6)] [] m) (fun v5_131 qv5_131 h => ?_) (fun K131 J131 h => ?_)
    · refine r_iinc (pc := 131) (L' := [some (.ref (ad 83)), some (iv v1), some (iv v2), some (iv v3), some (iv v4), some (iv v5_131), some (iv (w32 (v6 + 1)))]) hR (dc dt_X11_findBeyond 81 rfl) rfl (by decide) rfl rfl ?_
      refine r_goto (pc := 134) (tgt := 59) hR (dc dt_X11_findBeyond 82 rfl) (by decide) ?_
      exact ih v5_131 (w32 (v6 + 1)) qv5_131 (w32_in _) h
    refine r_icmp_lt (pc := 78) (tgt := 84) hR (dc dt_X11_findBeyond 49 rfl) (by decide) (rd_in _ _ _) (rg_c rfl) (fun hc => ?_) (fun hc => ?_)
    · replace h := ite_t hc h
      refine r_iload (pc := 84) hR (dc dt_X11_findBeyond 51 rfl) rfl ?_
      refine r_aload_n (pc := 86) hR (dc dt_X11_findBeyond 52 rfl) rfl ?_
      refine r_getr (pc := 87) (k2 := 99) hR (dc dt_X11_findBeyond 53 rfl) fl_X11_57 tc_83 rfl ?_
      refine r_iconst (pc := 90) hR (dc dt_X11_findBeyond 54 rfl) ?_
      refine r_iload_n (pc := 91) hR (dc dt_X11_findBeyond 55 rfl) rfl ?_
      refine r_imul (pc := 92) hR (dc dt_X11_findBeyond 56 rfl) ?_
      refine r_iload (pc := 93) hR (dc dt_X11_findBeyond 57 rfl) rfl ?_
      refine r_iadd (pc := 95) hR (dc dt_X11_findBeyond 58 rfl) ?_
      obtain ⟨g1, h⟩ := gd_some h
      refine r_iald (pc := 96) hR (dc dt_X11_findBeyond 59 rfl) tc_99 g1 (w32_in _) ?_
      refine r_aload_n (pc := 97) hR (dc dt_X11_findBeyond 60 rfl) rfl ?_
      refine r_getr (pc := 98) (k2 := 98) hR (dc dt_X11_findBeyond 61 rfl) fl_X11_54 tc_83 rfl ?_
      refine r_iconst (pc := 101) hR (dc dt_X11_findBeyond 62 rfl) ?_
      refine r_iload_n (pc := 102) hR (dc dt_X11_findBeyond 63 rfl) rfl ?_
      refine r_imul (pc := 103) hR (dc dt_X11_findBeyond 64 rfl) ?_
      refine r_iload (pc := 104) hR (dc dt_X11_findBeyond 65 rfl) rfl ?_
      refine r_iadd (pc := 106) hR (dc dt_X11_findBeyond 66 rfl) ?_
      obtain ⟨g1, h⟩ := gd_some h
      refine r_iald (pc := 107) hR (dc dt_X11_findBeyond 67 rfl) tc_98 g1 (w32_in _) ?_
      refine r_iadd (pc := 108) hR (dc dt_X11_findBeyond 68 rfl) ?_
      refine r_aload_n (pc := 109) hR (dc dt_X11_findBeyond 69 rfl) rfl ?_
      refine r_iload_n (pc := 110) hR (dc dt_X11_findBeyond 70 rfl) rfl ?_
      refine r_iload (pc := 111) hR (dc dt_X11_findBeyond 71 rfl) rfl ?_
      obtain ⟨r113, e113, h⟩ := b1_some h
      refine r_callV (pc := 113) (rest := [iv (w32 ((rd m 99 (w32 ((w32 (4 * v3)) + v6))) + (rd m 98 (w32 ((w32 (4 * v3)) + v6))))), iv v5]) hR (dc dt_X11_findBeyond 72 rfl) cl_X11_233 tc_83 rfl (ok_F11_leastFrom qv2 qv6 e113) (by decide) rfl (Nat.le_of_ble_eq_true rfl) rfl (fun q113r => ?_)
      show Go 116 [some (.ref (ad 83)), some (iv v1), some (iv v2), some (iv v3), some (iv v4), some (iv v5), some (iv v6)] [iv r113, iv (w32 ((rd m 99 (w32 ((w32 (4 * v3)) + v6))) + (rd m 98 (w32 ((w32 (4 * v3)) + v6))))), iv v5] m
      refine r_isub (pc := 116) hR (dc dt_X11_findBeyond 73 rfl) ?_
      refine r_aload_n (pc := 117) hR (dc dt_X11_findBeyond 74 rfl) rfl ?_
      refine r_iload (pc := 118) hR (dc dt_X11_findBeyond 75 rfl) rfl ?_
      refine r_iload (pc := 120) hR (dc dt_X11_findBeyond 76 rfl) rfl ?_
      obtain ⟨r122, e122, h⟩ := b1_some h
      refine r_callV (pc := 122) (rest := [iv (w32 ((w32 ((rd m 99 (w32 ((w32 (4 * v3)) + v6))) + (rd m 98 (w32 ((w32 (4 * v3)) + v6))))) - r113)), iv v5]) hR (dc dt_X11_findBeyond 77 rfl) cl_X11_224 tc_83 rfl (ok_F11_priceOf qv6 qv4 e122) (by decide) rfl (Nat.le_of_ble_eq_true rfl) rfl (fun q122r => ?_)
      show Go 125 [some (.ref (ad 83)), some (iv v1), some (iv v2), some (iv v3), some (iv v4), some (iv v5), some (iv v6)] [iv r122, iv (w32 ((w32 ((rd m 99 (w32 ((w32 (4 * v3)) + v6))) + (rd m 98 (w32 ((w32 (4 * v3)) + v6))))) - r113)), iv v5] m
      refine r_iadd (pc := 125) hR (dc dt_X11_findBeyond 78 rfl) ?_
      refine r_callS (pc := 126) (rest := []) hR (dc dt_X11_findBeyond 79 rfl) cl_X11_227 (ok_F11_lesser qv5 (w32_in _)) (by decide) rfl (Nat.le_of_ble_eq_true rfl) rfl (fun q126r => ?_)
      show Go 129 [some (.ref (ad 83)), some (iv v1), some (iv v2), some (iv v3), some (iv v4), some (iv v5), some (iv v6)] [iv (F11_lesser v5 (w32 ((w32 ((w32 ((rd m 99 (w32 ((w32 (4 * v3)) + v6))) + (rd m 98 (w32 ((w32 (4 * v3)) + v6))))) - r113)) + r122)))] m
      refine r_istore (pc := 129) (L' := [some (.ref (ad 83)), some (iv v1), some (iv v2), some (iv v3), some (iv v4), some (iv (F11_lesser v5 (w32 ((w32 ((w32 ((rd m 99 (w32 ((w32 (4 * v3)) + v6))) + (rd m 98 (w32 ((w32 (4 * v3)) + v6))))) - r113)) + r122)))), some (iv v6)]) hR (dc dt_X11_findBeyond 80 rfl) (by decide) rfl rfl ?_
      exact J131 (F11_lesser v5 (w32 ((w32 ((w32 ((rd m 99 (w32 ((w32 (4 * v3)) + v6))) + (rd m 98 (w32 ((w32 (4 * v3)) + v6))))) - r113)) + r122))) q126r h
    replace h := ite_f hc h
    refine r_goto (pc := 81) (tgt := 131) hR (dc dt_X11_findBeyond 50 rfl) (by decide) ?_
    exact J131 v5 qv5 h
set_option maxRecDepth 100000 in
set_option maxHeartbeats 4000000 in
theorem lp_L11_findBeyond_27 {Go : Nat → List (Option Value) → List Value → Mem → Prop} (hR : RS l G cy ad tt RX11 cX11_findBeyond 7 2 Go) {out : Mem} (hT : RT cX11_findBeyond none True out none Go) {v1 : Int} {v2 : Int} {v3 : Int} (qv1 : inR v1) (qv2 : inR v2) (qv3 : inR v3) {k156 : Mem → Option Mem} (hk156 : ∀ (m : Mem), k156 m = some out → Go 156 [some (.ref (ad 83)), some (iv v1), none, none, none, none, none] [] m) : ∀ (n : Nat) (v4 : Int) (m : Mem), inR v4 → L11_findBeyond_27 v2 v3 k156 n v4 m = some out → Go 27 [some (.ref (ad 83)), some (iv v1), some (iv v2), some (iv v3), some (iv v4), none, none] [] m := by
  intro n
  induction n with
  | zero =>
    intro v4 m qv4 h
    cases h
  | succ n ih =>
    intro v4 m qv4 h
    rw [L11_findBeyond_27] at h
    refine r_iload (pc := 27) hR (dc dt_X11_findBeyond 18 rfl) rfl ?_
    refine r_iconst (pc := 29) hR (dc dt_X11_findBeyond 19 rfl) ?_
    refine r_icmp_ge (pc := 30) (tgt := 156) hR (dc dt_X11_findBeyond 20 rfl) (by decide) qv4 (rg_c rfl) (fun hc => ?_) (fun hc => ?_)
    · replace h := ite_t hc h
      refine r_weak (L' := [some (.ref (ad 83)), some (iv v1), none, none, none, none, none]) hR ⟨Or.inr rfl, Or.inr rfl, Or.inl rfl, Or.inl rfl, Or.inl rfl, Or.inr rfl, Or.inr rfl, trivial⟩ ?_
      exact hk156 m h
    replace h := ite_f hc h
    refine r_iload_n (pc := 33) hR (dc dt_X11_findBeyond 21 rfl) rfl ?_
    refine jn_e h (fun (K : Mem → Option Mem) => ∀ (m_150 : Mem), K m_150 = some out → Go 150 [some (.ref (ad 83)), some (iv v1), some (iv v2), some (iv v3), some (iv v4), none, none] [] m_150) (fun m_150 h => ?_) (fun K150 J150 h => ?_)
    · refine r_iinc (pc := 150) (L' := [some (.ref (ad 83)), some (iv v1), some (iv v2), some (iv v3), some (iv (w32 (v4 + 1))), none, none]) hR (dc dt_X11_findBeyond 92 rfl) rfl (by decide) rfl rfl ?_
      refine r_goto (pc := 153) (tgt := 27) hR (dc dt_X11_findBeyond 93 rfl) (by decide) ?_
      exact ih (w32 (v4 + 1)) m_150 (w32_in _) h
    refine r_if_ge (pc := 34) (tgt := 52) hR (dc dt_X11_findBeyond 22 rfl) (by decide) qv3 (fun hc => ?_) (fun hc => ?_)
    · replace h := ite_t hc h
      refine r_ldc (pc := 52) hR (dc dt_X11_findBeyond 33 rfl) kw_X11_223 ?_
      refine r_istore (pc := 54) (L' := [some (.ref (ad 83)), some (iv v1), some (iv v2), some (iv v3), some (iv v4), some (iv 1000000), none]) hR (dc dt_X11_findBeyond 34 rfl) (by decide) rfl rfl ?_
      refine r_iconst (pc := 56) hR (dc dt_X11_findBeyond 35 rfl) ?_
      refine r_istore (pc := 57) (L' := [some (.ref (ad 83)), some (iv v1), some (iv v2), some (iv v3), some (iv v4), some (iv 1000000), some (iv 0)]) hR (dc dt_X11_findBeyond 36 rfl) (by decide) rfl rfl ?_
      refine lp_L11_findBeyond_59 hR hT qv1 qv2 qv3 qv4 (fun v5_137 qv5_137 h => ?_) FU 1000000 0 (rg_c rfl) (rg_c rfl) h
      show Go 137 [some (.ref (ad 83)), some (iv v1), some (iv v2), some (iv v3), some (iv v4), some (iv v5_137), none] [] m
      refine r_aload_n (pc := 137) hR (dc dt_X11_findBeyond 83 rfl) rfl ?_
      refine r_getr (pc := 138) (k2 := 99) hR (dc dt_X11_findBeyond 84 rfl) fl_X11_57 tc_83 rfl ?_
      refine r_iconst (pc := 141) hR (dc dt_X11_findBeyond 85 rfl) ?_
      refine r_iload_n (pc := 142) hR (dc dt_X11_findBeyond 86 rfl) rfl ?_
      refine r_imul (pc := 143) hR (dc dt_X11_findBeyond 87 rfl) ?_
      refine r_iload (pc := 144) hR (dc dt_X11_findBeyond 88 rfl) rfl ?_
      refine r_iadd (pc := 146) hR (dc dt_X11_findBeyond 89 rfl) ?_
      refine r_iload (pc := 147) hR (dc dt_X11_findBeyond 90 rfl) rfl ?_
      obtain ⟨g1, h⟩ := gd_some h
      refine r_iast (pc := 149) hR (dc dt_X11_findBeyond 91 rfl) tc_99 g1 (w32_in _) ?_
      replace h := stw_e h
      generalize wr m 99 (w32 ((w32 (4 * v2)) + v4)) v5_137 = m149 at h ⊢
      refine r_weak (L' := [some (.ref (ad 83)), some (iv v1), some (iv v2), some (iv v3), some (iv v4), none, none]) hR ⟨Or.inr rfl, Or.inr rfl, Or.inr rfl, Or.inr rfl, Or.inr rfl, Or.inl rfl, Or.inr rfl, trivial⟩ ?_
      exact J150 m149 h
    replace h := ite_f hc h
    refine r_aload_n (pc := 37) hR (dc dt_X11_findBeyond 23 rfl) rfl ?_
    refine r_getr (pc := 38) (k2 := 99) hR (dc dt_X11_findBeyond 24 rfl) fl_X11_57 tc_83 rfl ?_
    refine r_iconst (pc := 41) hR (dc dt_X11_findBeyond 25 rfl) ?_
    refine r_iload_n (pc := 42) hR (dc dt_X11_findBeyond 26 rfl) rfl ?_
    refine r_imul (pc := 43) hR (dc dt_X11_findBeyond 27 rfl) ?_
    refine r_iload (pc := 44) hR (dc dt_X11_findBeyond 28 rfl) rfl ?_
    refine r_iadd (pc := 46) hR (dc dt_X11_findBeyond 29 rfl) ?_
    refine r_iconst (pc := 47) hR (dc dt_X11_findBeyond 30 rfl) ?_
    obtain ⟨g1, h⟩ := gd_some h
    refine r_iast (pc := 48) hR (dc dt_X11_findBeyond 31 rfl) tc_99 g1 (w32_in _) ?_
    replace h := stw_e h
    generalize wr m 99 (w32 ((w32 (4 * v2)) + v4)) 0 = m48 at h ⊢
    refine r_goto (pc := 49) (tgt := 150) hR (dc dt_X11_findBeyond 32 rfl) (by decide) ?_
    exact J150 m48 h
set_option maxRecDepth 100000 in
set_option maxHeartbeats 4000000 in
theorem lp_L11_findBeyond_2 {Go : Nat → List (Option Value) → List Value → Mem → Prop} (hR : RS l G cy ad tt RX11 cX11_findBeyond 7 2 Go) {out : Mem} (hT : RT cX11_findBeyond none True out none Go) : ∀ (n : Nat) (v1 : Int) (m : Mem), inR v1 → L11_findBeyond_2 n v1 m = some out → Go 2 [some (.ref (ad 83)), some (iv v1), none, none, none, none, none] [] m := by
  intro n
  induction n with
  | zero =>
    intro v1 m qv1 h
    cases h
  | succ n ih =>
    intro v1 m qv1 h
    rw [L11_findBeyond_2] at h
    refine r_iload_n (pc := 2) hR (dc dt_X11_findBeyond 2 rfl) rfl ?_
    refine r_aload_n (pc := 3) hR (dc dt_X11_findBeyond 3 rfl) rfl ?_
    refine r_geti (pc := 4) hR (dc dt_X11_findBeyond 4 rfl) fl_X11_214 tc_83 rfl ?_
    refine r_icmp_ge (pc := 7) (tgt := 162) hR (dc dt_X11_findBeyond 5 rfl) (by decide) qv1 (rd_in _ _ _) (fun hc => ?_) (fun hc => ?_)
    · replace h := ite_t hc h
      exact r_vret hT (dc dt_X11_findBeyond 96 rfl) (Option.some.inj h)
    replace h := ite_f hc h
    refine r_aload_n (pc := 10) hR (dc dt_X11_findBeyond 6 rfl) rfl ?_
    refine r_getr (pc := 11) (k2 := 100) hR (dc dt_X11_findBeyond 7 rfl) fl_X11_60 tc_83 rfl ?_
    refine r_iload_n (pc := 14) hR (dc dt_X11_findBeyond 8 rfl) rfl ?_
    obtain ⟨g1, h⟩ := gd_some h
    refine r_iald (pc := 15) hR (dc dt_X11_findBeyond 9 rfl) tc_100 g1 qv1 ?_
    refine r_istore_n (pc := 16) (L' := [some (.ref (ad 83)), some (iv v1), some (iv (rd m 100 v1)), none, none, none, none]) hR (dc dt_X11_findBeyond 10 rfl) (by decide) rfl rfl ?_
    refine r_aload_n (pc := 17) hR (dc dt_X11_findBeyond 11 rfl) rfl ?_
    refine r_getr (pc := 18) (k2 := 96) hR (dc dt_X11_findBeyond 12 rfl) fl_X11_48 tc_83 rfl ?_
    refine r_iload_n (pc := 21) hR (dc dt_X11_findBeyond 13 rfl) rfl ?_
    obtain ⟨g1, h⟩ := gd_some h
    refine r_iald (pc := 22) hR (dc dt_X11_findBeyond 14 rfl) tc_96 g1 (rd_in _ _ _) ?_
    refine r_istore_n (pc := 23) (L' := [some (.ref (ad 83)), some (iv v1), some (iv (rd m 100 v1)), some (iv (rd m 96 (rd m 100 v1))), none, none, none]) hR (dc dt_X11_findBeyond 15 rfl) (by decide) rfl rfl ?_
    refine r_iconst (pc := 24) hR (dc dt_X11_findBeyond 16 rfl) ?_
    refine r_istore (pc := 25) (L' := [some (.ref (ad 83)), some (iv v1), some (iv (rd m 100 v1)), some (iv (rd m 96 (rd m 100 v1))), some (iv 0), none, none]) hR (dc dt_X11_findBeyond 17 rfl) (by decide) rfl rfl ?_
    refine lp_L11_findBeyond_27 hR hT qv1 (rd_in _ _ _) (rd_in _ _ _) (fun m_156 h => ?_) FU 0 m (rg_c rfl) h
    show Go 156 [some (.ref (ad 83)), some (iv v1), none, none, none, none, none] [] m_156
    refine r_iinc (pc := 156) (L' := [some (.ref (ad 83)), some (iv (w32 (v1 + 1))), none, none, none, none, none]) hR (dc dt_X11_findBeyond 94 rfl) rfl (by decide) rfl rfl ?_
    refine r_goto (pc := 159) (tgt := 2) hR (dc dt_X11_findBeyond 95 rfl) (by decide) ?_
    exact ih (w32 (v1 + 1)) m_156 (w32_in _) h
set_option maxRecDepth 100000 in
set_option maxHeartbeats 4000000 in
theorem ok_F11_findBeyond {m : Mem}   {out : Mem} (h : F11_findBeyond m = some out) : CT l G cy ad tt yX11_findBeyond cX11_findBeyond 7 none 2 [.ref (ad 83)] m none True out := by
  refine CT_of (by decide) (Nat.le_of_ble_eq_true rfl) (fun Go hR hT => ?_)
  replace hR : RS l G cy ad tt RX11 cX11_findBeyond 7 2 Go := hR
  show Go 0 [some (.ref (ad 83)), none, none, none, none, none, none] [] m
  unfold F11_findBeyond at h
  refine r_iconst (pc := 0) hR (dc dt_X11_findBeyond 0 rfl) ?_
  refine r_istore_n (pc := 1) (L' := [some (.ref (ad 83)), some (iv 0), none, none, none, none, none]) hR (dc dt_X11_findBeyond 1 rfl) (by decide) rfl rfl ?_
  refine lp_L11_findBeyond_2 hR hT FU 0 m (rg_c rfl) h
def tb_X11_lookAtAll : List (Nat × (Instr × Nat)) := [(0, (.aload_n 0, 1)), (1, (.iconst (-1), 1)), (2, (.putfield 220, 3)), (5, (.iconst 0, 1)), (6, (.istore_n 1, 1)), (7, (.iload_n 1, 1)), (8, (.bipush 12, 2)), (10, (.if_icmp .ge 40, 3)), (13, (.aload_n 0, 1)), (14, (.getfield 51, 3)), (17, (.iload_n 1, 1)), (18, (.iload_n 1, 1)), (19, (.aload_n 0, 1)), (20, (.getfield 138, 3)), (23, (.if_icmp .ge 7, 3)), (26, (.iconst 1, 1)), (27, (.goto 4, 3)), (30, (.iconst 0, 1)), (31, (.bastore, 1)), (32, (.aload_n 0, 1)), (33, (.getfield 48, 3)), (36, (.iload_n 1, 1)), (37, (.aload_n 0, 1)), (38, (.getfield 23, 3)), (41, (.iload_n 1, 1)), (42, (.iaload, 1)), (43, (.iastore, 1)), (44, (.iinc 1 1, 3)), (47, (.goto (-40), 3)), (50, (.aload_n 0, 1)), (51, (.invokevirtual 236, 3)), (54, (.return_, 1))]
set_option maxRecDepth 100000 in
theorem dt_X11_lookAtAll : (tb_X11_lookAtAll.all fun q => decide (decode cX11_lookAtAll q.1 = .ok q.2)) = true := by decide +kernel
set_option maxRecDepth 100000 in
set_option maxHeartbeats 4000000 in
theorem lp_L11_lookAtAll_7 {Go : Nat → List (Option Value) → List Value → Mem → Prop} (hR : RS l G cy ad tt RX11 cX11_lookAtAll 2 2 Go) {out : Mem} (hT : RT cX11_lookAtAll none True out none Go) {k50 : Mem → Option Mem} (hk50 : ∀ (m : Mem), k50 m = some out → Go 50 [some (.ref (ad 83)), none] [] m) : ∀ (n : Nat) (v1 : Int) (m : Mem), inR v1 → L11_lookAtAll_7 k50 n v1 m = some out → Go 7 [some (.ref (ad 83)), some (iv v1)] [] m := by
  intro n
  induction n with
  | zero =>
    intro v1 m qv1 h
    cases h
  | succ n ih =>
    intro v1 m qv1 h
    rw [L11_lookAtAll_7] at h
    refine r_iload_n (pc := 7) hR (dc dt_X11_lookAtAll 5 rfl) rfl ?_
    refine r_bipush (pc := 8) hR (dc dt_X11_lookAtAll 6 rfl) (by decide) ?_
    refine r_icmp_ge (pc := 10) (tgt := 50) hR (dc dt_X11_lookAtAll 7 rfl) (by decide) qv1 (rg_c rfl) (fun hc => ?_) (fun hc => ?_)
    · replace h := ite_t hc h
      refine r_weak (L' := [some (.ref (ad 83)), none]) hR ⟨Or.inr rfl, Or.inl rfl, trivial⟩ ?_
      exact hk50 m h
    replace h := ite_f hc h
    refine r_aload_n (pc := 13) hR (dc dt_X11_lookAtAll 8 rfl) rfl ?_
    refine r_getr (pc := 14) (k2 := 97) hR (dc dt_X11_lookAtAll 9 rfl) fl_X11_51 tc_83 rfl ?_
    refine r_iload_n (pc := 17) hR (dc dt_X11_lookAtAll 10 rfl) rfl ?_
    refine r_iload_n (pc := 18) hR (dc dt_X11_lookAtAll 11 rfl) rfl ?_
    refine r_aload_n (pc := 19) hR (dc dt_X11_lookAtAll 12 rfl) rfl ?_
    refine r_geti (pc := 20) hR (dc dt_X11_lookAtAll 13 rfl) fl_X11_138 tc_83 rfl ?_
    refine jn_e h (fun (K : Int → Option Mem) => ∀ (x31 : Int), inZ x31 → K x31 = some out → Go 31 [some (.ref (ad 83)), some (iv v1)] [iv x31, iv v1, .ref (ad 97)] m) (fun x31 qx31 h => ?_) (fun K31 J31 h => ?_)
    · obtain ⟨g1, h⟩ := gd_some h
      refine r_zast (pc := 31) hR (dc dt_X11_lookAtAll 18 rfl) tc_97 g1 qv1 qx31 ?_
      replace h := stw_e h
      generalize wr m 97 v1 x31 = m31 at h ⊢
      refine r_aload_n (pc := 32) hR (dc dt_X11_lookAtAll 19 rfl) rfl ?_
      refine r_getr (pc := 33) (k2 := 96) hR (dc dt_X11_lookAtAll 20 rfl) fl_X11_48 tc_83 rfl ?_
      refine r_iload_n (pc := 36) hR (dc dt_X11_lookAtAll 21 rfl) rfl ?_
      refine r_aload_n (pc := 37) hR (dc dt_X11_lookAtAll 22 rfl) rfl ?_
      refine r_getr (pc := 38) (k2 := 88) hR (dc dt_X11_lookAtAll 23 rfl) fl_X11_23 tc_83 rfl ?_
      refine r_iload_n (pc := 41) hR (dc dt_X11_lookAtAll 24 rfl) rfl ?_
      obtain ⟨g1, h⟩ := gd_some h
      refine r_iald (pc := 42) hR (dc dt_X11_lookAtAll 25 rfl) tc_88 g1 qv1 ?_
      obtain ⟨g1, h⟩ := gd_some h
      refine r_iast (pc := 43) hR (dc dt_X11_lookAtAll 26 rfl) tc_96 g1 qv1 ?_
      replace h := stw_e h
      generalize wr m31 96 v1 (rd m31 88 v1) = m43 at h ⊢
      refine r_iinc (pc := 44) (L' := [some (.ref (ad 83)), some (iv (w32 (v1 + 1)))]) hR (dc dt_X11_lookAtAll 27 rfl) rfl (by decide) rfl rfl ?_
      refine r_goto (pc := 47) (tgt := 7) hR (dc dt_X11_lookAtAll 28 rfl) (by decide) ?_
      exact ih (w32 (v1 + 1)) m43 (w32_in _) h
    refine r_icmp_ge (pc := 23) (tgt := 30) hR (dc dt_X11_lookAtAll 14 rfl) (by decide) qv1 (rd_in _ _ _) (fun hc => ?_) (fun hc => ?_)
    · replace h := ite_t hc h
      refine r_iconst (pc := 30) hR (dc dt_X11_lookAtAll 17 rfl) ?_
      exact J31 0 (Or.inl rfl) h
    replace h := ite_f hc h
    refine r_iconst (pc := 26) hR (dc dt_X11_lookAtAll 15 rfl) ?_
    refine r_goto (pc := 27) (tgt := 31) hR (dc dt_X11_lookAtAll 16 rfl) (by decide) ?_
    exact J31 1 (Or.inr rfl) h
set_option maxRecDepth 100000 in
set_option maxHeartbeats 4000000 in
theorem ok_F11_lookAtAll {m : Mem}   {out : Mem} (h : F11_lookAtAll m = some out) : CT l G cy ad tt yX11_lookAtAll cX11_lookAtAll 2 none 2 [.ref (ad 83)] m none True out := by
  refine CT_of (by decide) (Nat.le_of_ble_eq_true rfl) (fun Go hR hT => ?_)
  replace hR : RS l G cy ad tt RX11 cX11_lookAtAll 2 2 Go := hR
  show Go 0 [some (.ref (ad 83)), none] [] m
  unfold F11_lookAtAll at h
  refine r_aload_n (pc := 0) hR (dc dt_X11_lookAtAll 0 rfl) rfl ?_
  refine r_iconst (pc := 1) hR (dc dt_X11_lookAtAll 1 rfl) ?_
  refine r_puti (pc := 2) hR (dc dt_X11_lookAtAll 2 rfl) fl_X11_220 tc_83 rfl rfl rfl ?_
  replace h := stw_e h
  generalize wr m 83 25 (-1) = m2 at h ⊢
  refine r_iconst (pc := 5) hR (dc dt_X11_lookAtAll 3 rfl) ?_
  refine r_istore_n (pc := 6) (L' := [some (.ref (ad 83)), some (iv 0)]) hR (dc dt_X11_lookAtAll 4 rfl) (by decide) rfl rfl ?_
  refine lp_L11_lookAtAll_7 hR hT (fun m_50 h => ?_) FU 0 m2 (rg_c rfl) h
  show Go 50 [some (.ref (ad 83)), none] [] m_50
  refine r_aload_n (pc := 50) hR (dc dt_X11_lookAtAll 29 rfl) rfl ?_
  obtain ⟨m51, e51, h⟩ := b1_some h
  refine r_callV (pc := 51) (rest := []) hR (dc dt_X11_lookAtAll 30 rfl) cl_X11_236 tc_83 rfl (ok_F11_findOrder  e51) (by decide) rfl (Nat.le_of_ble_eq_true rfl) rfl (fun q51r => ?_)
  show Go 54 [some (.ref (ad 83)), none] [] m51
  exact r_vret hT (dc dt_X11_lookAtAll 31 rfl) (Option.some.inj h)
def tb_X11_cost : List (Nat × (Instr × Nat)) := [(0, (.iload_n 1, 1)), (1, (.iconst (-1), 1)), (2, (.if_icmp .eq 12, 3)), (5, (.iload_n 1, 1)), (6, (.invokestatic 158, 3)), (9, (.ifCond .ne 5, 3)), (12, (.iconst (-1), 1)), (13, (.ireturn, 1)), (14, (.aload_n 0, 1)), (15, (.invokevirtual 239, 3)), (18, (.iload_n 1, 1)), (19, (.ifCond .lt 9, 3)), (22, (.aload_n 0, 1)), (23, (.iload_n 1, 1)), (24, (.invokevirtual 242, 3)), (27, (.ireturn, 1)), (28, (.iconst 0, 1)), (29, (.istore_n 2, 1)), (30, (.iconst 0, 1)), (31, (.istore_n 3, 1)), (32, (.iload_n 3, 1)), (33, (.bipush 16, 2)), (35, (.if_icmp .ge 17, 3)), (38, (.iload_n 2, 1)), (39, (.aload_n 0, 1)), (40, (.iload_n 3, 1)), (41, (.invokevirtual 242, 3)), (44, (.iadd, 1)), (45, (.istore_n 2, 1)), (46, (.iinc 3 1, 3)), (49, (.goto (-17), 3)), (52, (.iload_n 2, 1)), (53, (.ireturn, 1))]
set_option maxRecDepth 100000 in
theorem dt_X11_cost : (tb_X11_cost.all fun q => decide (decode cX11_cost q.1 = .ok q.2)) = true := by decide +kernel
set_option maxRecDepth 100000 in
set_option maxHeartbeats 4000000 in
theorem lp_L11_cost_32 {Go : Nat → List (Option Value) → List Value → Mem → Prop} (hR : RS l G cy ad tt RX11 cX11_cost 4 3 Go) {out : Int × Mem} (hT : RT cX11_cost (some (iv out.1)) (inR out.1) out.2 (some .int) Go) : ∀ (n : Nat) (v2 : Int) (v3 : Int) (m : Mem), inR v2 → inR v3 → L11_cost_32 n v2 v3 m = some out → Go 32 [some (.ref (ad 83)), none, some (iv v2), some (iv v3)] [] m := by
  intro n
  induction n with
  | zero =>
    intro v2 v3 m qv2 qv3 h
    cases h
  | succ n ih =>
    intro v2 v3 m qv2 qv3 h
    rw [L11_cost_32] at h
    refine r_iload_n (pc := 32) hR (dc dt_X11_cost 20 rfl) rfl ?_
    refine r_bipush (pc := 33) hR (dc dt_X11_cost 21 rfl) (by decide) ?_
    refine r_icmp_ge (pc := 35) (tgt := 52) hR (dc dt_X11_cost 22 rfl) (by decide) qv3 (rg_c rfl) (fun hc => ?_) (fun hc => ?_)
    · replace h := ite_t hc h
      refine r_iload_n (pc := 52) hR (dc dt_X11_cost 31 rfl) rfl ?_
      exact r_iret hT (dc dt_X11_cost 32 rfl) (congrArg Prod.fst (Option.some.inj h)) (congrArg Prod.snd (Option.some.inj h)) qv2
    replace h := ite_f hc h
    refine r_iload_n (pc := 38) hR (dc dt_X11_cost 23 rfl) rfl ?_
    refine r_aload_n (pc := 39) hR (dc dt_X11_cost 24 rfl) rfl ?_
    refine r_iload_n (pc := 40) hR (dc dt_X11_cost 25 rfl) rfl ?_
    obtain ⟨r41, m41, e41, h⟩ := b2_some h
    refine r_callV (pc := 41) (rest := [iv v2]) hR (dc dt_X11_cost 26 rfl) cl_X11_242 tc_83 rfl (ok_F11_costOf qv3 e41) (by decide) rfl (Nat.le_of_ble_eq_true rfl) rfl (fun q41r => ?_)
    show Go 44 [some (.ref (ad 83)), none, some (iv v2), some (iv v3)] [iv r41, iv v2] m41
    refine r_iadd (pc := 44) hR (dc dt_X11_cost 27 rfl) ?_
    refine r_istore_n (pc := 45) (L' := [some (.ref (ad 83)), none, some (iv (w32 (v2 + r41))), some (iv v3)]) hR (dc dt_X11_cost 28 rfl) (by decide) rfl rfl ?_
    refine r_iinc (pc := 46) (L' := [some (.ref (ad 83)), none, some (iv (w32 (v2 + r41))), some (iv (w32 (v3 + 1)))]) hR (dc dt_X11_cost 29 rfl) rfl (by decide) rfl rfl ?_
    refine r_goto (pc := 49) (tgt := 32) hR (dc dt_X11_cost 30 rfl) (by decide) ?_
    exact ih (w32 (v2 + r41)) (w32 (v3 + 1)) m41 (w32_in _) (w32_in _) h
set_option maxRecDepth 100000 in
set_option maxHeartbeats 4000000 in
theorem ok_F11_cost {m : Mem}  {v1 : Int} (q1 : inR v1) {out : Int × Mem} (h : F11_cost m v1 = some out) : CT l G cy ad tt yX11_cost cX11_cost 4 (some .int) 3 [.ref (ad 83), iv v1] m (some (iv out.1)) (inR out.1) out.2 := by
  refine CT_of (by decide) (Nat.le_of_ble_eq_true rfl) (fun Go hR hT => ?_)
  replace hR : RS l G cy ad tt RX11 cX11_cost 4 3 Go := hR
  show Go 0 [some (.ref (ad 83)), some (iv v1), none, none] [] m
  unfold F11_cost at h
  refine r_iload_n (pc := 0) hR (dc dt_X11_cost 0 rfl) rfl ?_
  refine r_iconst (pc := 1) hR (dc dt_X11_cost 1 rfl) ?_
  refine jn_e h (fun (K : Option (Int × Mem)) => K = some out → Go 14 [some (.ref (ad 83)), some (iv v1), none, none] [] m) (fun h => ?_) (fun K14 J14 h => ?_)
  · refine r_aload_n (pc := 14) hR (dc dt_X11_cost 8 rfl) rfl ?_
    obtain ⟨m15, e15, h⟩ := b1_some h
    refine r_callV (pc := 15) (rest := []) hR (dc dt_X11_cost 9 rfl) cl_X11_239 tc_83 rfl (ok_F11_lookAtAll  e15) (by decide) rfl (Nat.le_of_ble_eq_true rfl) rfl (fun q15r => ?_)
    show Go 18 [some (.ref (ad 83)), some (iv v1), none, none] [] m15
    refine r_iload_n (pc := 18) hR (dc dt_X11_cost 10 rfl) rfl ?_
    refine r_if_lt (pc := 19) (tgt := 28) hR (dc dt_X11_cost 11 rfl) (by decide) q1 (fun hc => ?_) (fun hc => ?_)
    · replace h := ite_t hc h
      refine r_iconst (pc := 28) hR (dc dt_X11_cost 16 rfl) ?_
      refine r_istore_n (pc := 29) (L' := [some (.ref (ad 83)), some (iv v1), some (iv 0), none]) hR (dc dt_X11_cost 17 rfl) (by decide) rfl rfl ?_
      refine r_iconst (pc := 30) hR (dc dt_X11_cost 18 rfl) ?_
      refine r_istore_n (pc := 31) (L' := [some (.ref (ad 83)), some (iv v1), some (iv 0), some (iv 0)]) hR (dc dt_X11_cost 19 rfl) (by decide) rfl rfl ?_
      refine r_weak (L' := [some (.ref (ad 83)), none, some (iv 0), some (iv 0)]) hR ⟨Or.inr rfl, Or.inl rfl, Or.inr rfl, Or.inr rfl, trivial⟩ ?_
      refine lp_L11_cost_32 hR hT FU 0 0 m15 (rg_c rfl) (rg_c rfl) h
    replace h := ite_f hc h
    refine r_aload_n (pc := 22) hR (dc dt_X11_cost 12 rfl) rfl ?_
    refine r_iload_n (pc := 23) hR (dc dt_X11_cost 13 rfl) rfl ?_
    obtain ⟨r24, m24, e24, h⟩ := b2_some h
    refine r_callV (pc := 24) (rest := []) hR (dc dt_X11_cost 14 rfl) cl_X11_242 tc_83 rfl (ok_F11_costOf q1 e24) (by decide) rfl (Nat.le_of_ble_eq_true rfl) rfl (fun q24r => ?_)
    show Go 27 [some (.ref (ad 83)), some (iv v1), none, none] [iv r24] m24
    exact r_iret hT (dc dt_X11_cost 15 rfl) (congrArg Prod.fst (Option.some.inj h)) (congrArg Prod.snd (Option.some.inj h)) q24r
  refine r_icmp_eq (pc := 2) (tgt := 14) hR (dc dt_X11_cost 2 rfl) (by decide) q1 (rg_c rfl) (fun hc => ?_) (fun hc => ?_)
  · replace h := ite_t hc h
    exact J14 h
  replace h := ite_f hc h
  refine r_iload_n (pc := 5) hR (dc dt_X11_cost 3 rfl) rfl ?_
  refine r_callS (pc := 6) (rest := []) hR (dc dt_X11_cost 4 rfl) cl_X11_158 (ok_F11_isClause q1) (by decide) rfl (Nat.le_of_ble_eq_true rfl) rfl (fun q6r => ?_)
  show Go 9 [some (.ref (ad 83)), some (iv v1), none, none] [iv (F11_isClause v1)] m
  refine r_if_ne (pc := 9) (tgt := 14) hR (dc dt_X11_cost 5 rfl) (by decide) (inZ_R q6r) (fun hc => ?_) (fun hc => ?_)
  · replace h := ite_t hc h
    exact J14 h
  replace h := ite_f hc h
  refine r_iconst (pc := 12) hR (dc dt_X11_cost 6 rfl) ?_
  exact r_iret hT (dc dt_X11_cost 7 rfl) (congrArg Prod.fst (Option.some.inj h)) (congrArg Prod.snd (Option.some.inj h)) (rg_c rfl)
def tb_X11_filledBy : List (Nat × (Instr × Nat)) := [(0, (.aload_n 0, 1)), (1, (.iload_n 2, 1)), (2, (.invokevirtual 242, 3)), (5, (.pop, 1)), (6, (.aload_n 0, 1)), (7, (.invokevirtual 245, 3)), (10, (.ldc 223, 2)), (12, (.istore_n 3, 1)), (13, (.iconst 0, 1)), (14, (.istore 4, 2)), (16, (.iload 4, 2)), (18, (.iconst 4, 1)), (19, (.if_icmp .ge 53, 3)), (22, (.aload_n 0, 1)), (23, (.getfield 54, 3)), (26, (.iconst 4, 1)), (27, (.iload_n 1, 1)), (28, (.imul, 1)), (29, (.iload 4, 2)), (31, (.iadd, 1)), (32, (.iaload, 1)), (33, (.ldc 223, 2)), (35, (.if_icmp .ge 31, 3)), (38, (.iload_n 3, 1)), (39, (.aload_n 0, 1)), (40, (.getfield 54, 3)), (43, (.iconst 4, 1)), (44, (.iload_n 1, 1)), (45, (.imul, 1)), (46, (.iload 4, 2)), (48, (.iadd, 1)), (49, (.iaload, 1)), (50, (.aload_n 0, 1)), (51, (.getfield 57, 3)), (54, (.iconst 4, 1)), (55, (.iload_n 1, 1)), (56, (.imul, 1)), (57, (.iload 4, 2)), (59, (.iadd, 1)), (60, (.iaload, 1)), (61, (.iadd, 1)), (62, (.invokestatic 227, 3)), (65, (.istore_n 3, 1)), (66, (.iinc 4 1, 3)), (69, (.goto (-53), 3)), (72, (.iconst 0, 1)), (73, (.istore 4, 2)), (75, (.iconst 0, 1)), (76, (.istore 5, 2)), (78, (.iload 5, 2)), (80, (.iconst 4, 1)), (81, (.if_icmp .ge 61, 3)), (84, (.aload_n 0, 1)), (85, (.getfield 54, 3)), (88, (.iconst 4, 1)), (89, (.iload_n 1, 1)), (90, (.imul, 1)), (91, (.iload 5, 2)), (93, (.iadd, 1)), (94, (.iaload, 1)), (95, (.ldc 223, 2)), (97, (.if_icmp .ge 39, 3)), (100, (.aload_n 0, 1)), (101, (.getfield 54, 3)), (104, (.iconst 4, 1)), (105, (.iload_n 1, 1)), (106, (.imul, 1)), (107, (.iload 5, 2)), (109, (.iadd, 1)), (110, (.iaload, 1)), (111, (.aload_n 0, 1)), (112, (.getfield 57, 3)), (115, (.iconst 4, 1)), (116, (.iload_n 1, 1)), (117, (.imul, 1)), (118, (.iload 5, 2)), (120, (.iadd, 1)), (121, (.iaload, 1)), (122, (.iadd, 1)), (123, (.iload_n 3, 1)), (124, (.if_icmp .ne 12, 3)), (127, (.iload 4, 2)), (129, (.iconst 1, 1)), (130, (.iload 5, 2)), (132, (.ishl, 1)), (133, (.ior, 1)), (134, (.istore 4, 2)), (136, (.iinc 5 1, 3)), (139, (.goto (-61), 3)), (142, (.iload 4, 2)), (144, (.ireturn, 1))]
set_option maxRecDepth 100000 in
theorem dt_X11_filledBy : (tb_X11_filledBy.all fun q => decide (decode cX11_filledBy q.1 = .ok q.2)) = true := by decide +kernel
set_option maxRecDepth 100000 in
set_option maxHeartbeats 4000000 in
theorem lp_L11_filledBy_16 {Go : Nat → List (Option Value) → List Value → Mem → Prop} (hR : RS l G cy ad tt RX11 cX11_filledBy 6 3 Go) {out : Int × Mem} {m : Mem} (hT : RT cX11_filledBy (some (iv out.1)) (inR out.1) out.2 (some .int) Go) {v1 : Int} (qv1 : inR v1) {k72 : Int → Option (Int × Mem)} (hk72 : ∀ (v3 : Int), inR v3 → k72 v3 = some out → Go 72 [some (.ref (ad 83)), some (iv v1), none, some (iv v3), none, none] [] m) : ∀ (n : Nat) (v3 : Int) (v4 : Int), inR v3 → inR v4 → L11_filledBy_16 m v1 k72 n v3 v4 = some out → Go 16 [some (.ref (ad 83)), some (iv v1), none, some (iv v3), some (iv v4), none] [] m := by
  intro n
  induction n with
  | zero =>
    intro v3 v4 qv3 qv4 h
    cases h
  | succ n ih =>
    intro v3 v4 qv3 qv4 h
    rw [L11_filledBy_16] at h
    refine r_iload (pc := 16) hR (dc dt_X11_filledBy 10 rfl) rfl ?_
    refine r_iconst (pc := 18) hR (dc dt_X11_filledBy 11 rfl) ?_
    refine r_icmp_ge (pc := 19) (tgt := 72) hR (dc dt_X11_filledBy 12 rfl) (by decide) qv4 (rg_c rfl) (fun hc => ?_) (fun hc => ?_)
    · replace h := ite_t hc h
      refine r_weak (L' := [some (.ref (ad 83)), some (iv v1), none, some (iv v3), none, none]) hR ⟨Or.inr rfl, Or.inr rfl, Or.inr rfl, Or.inr rfl, Or.inl rfl, Or.inr rfl, trivial⟩ ?_
      exact hk72 v3 qv3 h
    replace h := ite_f hc h
    refine r_aload_n (pc := 22) hR (dc dt_X11_filledBy 13 rfl) rfl ?_
    refine r_getr (pc := 23) (k2 := 98) hR (dc dt_X11_filledBy 14 rfl) fl_X11_54 tc_83 rfl ?_
    refine r_iconst (pc := 26) hR (dc dt_X11_filledBy 15 rfl) ?_
    refine r_iload_n (pc := 27) hR (dc dt_X11_filledBy 16 rfl) rfl ?_
    refine r_imul (pc := 28) hR (dc dt_X11_filledBy 17 rfl) ?_
    refine r_iload (pc := 29) hR (dc dt_X11_filledBy 18 rfl) rfl ?_
    refine r_iadd (pc := 31) hR (dc dt_X11_filledBy 19 rfl) ?_
    obtain ⟨g1, h⟩ := gd_some h
    refine r_iald (pc := 32) hR (dc dt_X11_filledBy 20 rfl) tc_98 g1 (w32_in _) ?_
    refine r_ldc (pc := 33) hR (dc dt_X11_filledBy 21 rfl) kw_X11_223 ?_
    refine jn_e h (fun (K : Int → Option (Int × Mem)) => ∀ (v3_66 : Int), inR v3_66 → K v3_66 = some out → Go 66 [some (.ref (ad 83)), some (iv v1), none, some (iv v3_66), some (iv v4), none] [] m) (fun v3_66 qv3_66 h => ?_) (fun K66 J66 h => ?_)
    · refine r_iinc (pc := 66) (L' := [some (.ref (ad 83)), some (iv v1), none, some (iv v3_66), some (iv (w32 (v4 + 1))), none]) hR (dc dt_X11_filledBy 43 rfl) rfl (by decide) rfl rfl ?_
      refine r_goto (pc := 69) (tgt := 16) hR (dc dt_X11_filledBy 44 rfl) (by decide) ?_
      exact ih v3_66 (w32 (v4 + 1)) qv3_66 (w32_in _) h
    refine r_icmp_ge (pc := 35) (tgt := 66) hR (dc dt_X11_filledBy 22 rfl) (by decide) (rd_in _ _ _) (rg_c rfl) (fun hc => ?_) (fun hc => ?_)
    · replace h := ite_t hc h
      exact J66 v3 qv3 h
    replace h := ite_f hc h
    refine r_iload_n (pc := 38) hR (dc dt_X11_filledBy 23 rfl) rfl ?_
    refine r_aload_n (pc := 39) hR (dc dt_X11_filledBy 24 rfl) rfl ?_
    refine r_getr (pc := 40) (k2 := 98) hR (dc dt_X11_filledBy 25 rfl) fl_X11_54 tc_83 rfl ?_
    refine r_iconst (pc := 43) hR (dc dt_X11_filledBy 26 rfl) ?_
    refine r_iload_n (pc := 44) hR (dc dt_X11_filledBy 27 rfl) rfl ?_
    refine r_imul (pc := 45) hR (dc dt_X11_filledBy 28 rfl) ?_
    refine r_iload (pc := 46) hR (dc dt_X11_filledBy 29 rfl) rfl ?_
    refine r_iadd (pc := 48) hR (dc dt_X11_filledBy 30 rfl) ?_
    obtain ⟨g1, h⟩ := gd_some h
    refine r_iald (pc := 49) hR (dc dt_X11_filledBy 31 rfl) tc_98 g1 (w32_in _) ?_
    refine r_aload_n (pc := 50) hR (dc dt_X11_filledBy 32 rfl) rfl ?_
    refine r_getr (pc := 51) (k2 := 99) hR (dc dt_X11_filledBy 33 rfl) fl_X11_57 tc_83 rfl ?_
    refine r_iconst (pc := 54) hR (dc dt_X11_filledBy 34 rfl) ?_
    refine r_iload_n (pc := 55) hR (dc dt_X11_filledBy 35 rfl) rfl ?_
    refine r_imul (pc := 56) hR (dc dt_X11_filledBy 36 rfl) ?_
    refine r_iload (pc := 57) hR (dc dt_X11_filledBy 37 rfl) rfl ?_
    refine r_iadd (pc := 59) hR (dc dt_X11_filledBy 38 rfl) ?_
    obtain ⟨g1, h⟩ := gd_some h
    refine r_iald (pc := 60) hR (dc dt_X11_filledBy 39 rfl) tc_99 g1 (w32_in _) ?_
    refine r_iadd (pc := 61) hR (dc dt_X11_filledBy 40 rfl) ?_
    refine r_callS (pc := 62) (rest := []) hR (dc dt_X11_filledBy 41 rfl) cl_X11_227 (ok_F11_lesser qv3 (w32_in _)) (by decide) rfl (Nat.le_of_ble_eq_true rfl) rfl (fun q62r => ?_)
    show Go 65 [some (.ref (ad 83)), some (iv v1), none, some (iv v3), some (iv v4), none] [iv (F11_lesser v3 (w32 ((rd m 98 (w32 ((w32 (4 * v1)) + v4))) + (rd m 99 (w32 ((w32 (4 * v1)) + v4))))))] m
    refine r_istore_n (pc := 65) (L' := [some (.ref (ad 83)), some (iv v1), none, some (iv (F11_lesser v3 (w32 ((rd m 98 (w32 ((w32 (4 * v1)) + v4))) + (rd m 99 (w32 ((w32 (4 * v1)) + v4))))))), some (iv v4), none]) hR (dc dt_X11_filledBy 42 rfl) (by decide) rfl rfl ?_
    exact J66 (F11_lesser v3 (w32 ((rd m 98 (w32 ((w32 (4 * v1)) + v4))) + (rd m 99 (w32 ((w32 (4 * v1)) + v4)))))) q62r h
set_option maxRecDepth 100000 in
set_option maxHeartbeats 4000000 in
theorem lp_L11_filledBy_78 {Go : Nat → List (Option Value) → List Value → Mem → Prop} (hR : RS l G cy ad tt RX11 cX11_filledBy 6 3 Go) {out : Int × Mem} {m : Mem} (hT : RT cX11_filledBy (some (iv out.1)) (inR out.1) out.2 (some .int) Go) {v1 : Int} {v3 : Int} (qv1 : inR v1) (qv3 : inR v3) : ∀ (n : Nat) (v4 : Int) (v5 : Int), inR v4 → inR v5 → L11_filledBy_78 m v1 v3 n v4 v5 = some out → Go 78 [some (.ref (ad 83)), some (iv v1), none, some (iv v3), some (iv v4), some (iv v5)] [] m := by
  intro n
  induction n with
  | zero =>
    intro v4 v5 qv4 qv5 h
    cases h
  | succ n ih =>
    intro v4 v5 qv4 qv5 h
    rw [L11_filledBy_78] at h
    refine r_iload (pc := 78) hR (dc dt_X11_filledBy 49 rfl) rfl ?_
    refine r_iconst (pc := 80) hR (dc dt_X11_filledBy 50 rfl) ?_
    refine r_icmp_ge (pc := 81) (tgt := 142) hR (dc dt_X11_filledBy 51 rfl) (by decide) qv5 (rg_c rfl) (fun hc => ?_) (fun hc => ?_)
    · replace h := ite_t hc h
      refine r_iload (pc := 142) hR (dc dt_X11_filledBy 89 rfl) rfl ?_
      exact r_iret hT (dc dt_X11_filledBy 90 rfl) (congrArg Prod.fst (Option.some.inj h)) (congrArg Prod.snd (Option.some.inj h)) qv4
    replace h := ite_f hc h
    refine r_aload_n (pc := 84) hR (dc dt_X11_filledBy 52 rfl) rfl ?_
    refine r_getr (pc := 85) (k2 := 98) hR (dc dt_X11_filledBy 53 rfl) fl_X11_54 tc_83 rfl ?_
    refine r_iconst (pc := 88) hR (dc dt_X11_filledBy 54 rfl) ?_
    refine r_iload_n (pc := 89) hR (dc dt_X11_filledBy 55 rfl) rfl ?_
    refine r_imul (pc := 90) hR (dc dt_X11_filledBy 56 rfl) ?_
    refine r_iload (pc := 91) hR (dc dt_X11_filledBy 57 rfl) rfl ?_
    refine r_iadd (pc := 93) hR (dc dt_X11_filledBy 58 rfl) ?_
    obtain ⟨g1, h⟩ := gd_some h
    refine r_iald (pc := 94) hR (dc dt_X11_filledBy 59 rfl) tc_98 g1 (w32_in _) ?_
    refine r_ldc (pc := 95) hR (dc dt_X11_filledBy 60 rfl) kw_X11_223 ?_
    refine jn_e h (fun (K : Int → Option (Int × Mem)) => ∀ (v4_136 : Int), inR v4_136 → K v4_136 = some out → Go 136 [some (.ref (ad 83)), some (iv v1), none, some (iv v3), some (iv v4_136), some (iv v5)] [] m) (fun v4_136 qv4_136 h => ?_) (fun K136 J136 h => ?_)
    · refine r_iinc (pc := 136) (L' := [some (.ref (ad 83)), some (iv v1), none, some (iv v3), some (iv v4_136), some (iv (w32 (v5 + 1)))]) hR (dc dt_X11_filledBy 87 rfl) rfl (by decide) rfl rfl ?_
      refine r_goto (pc := 139) (tgt := 78) hR (dc dt_X11_filledBy 88 rfl) (by decide) ?_
      exact ih v4_136 (w32 (v5 + 1)) qv4_136 (w32_in _) h
    refine r_icmp_ge (pc := 97) (tgt := 136) hR (dc dt_X11_filledBy 61 rfl) (by decide) (rd_in _ _ _) (rg_c rfl) (fun hc => ?_) (fun hc => ?_)
    · replace h := ite_t hc h
      exact J136 v4 qv4 h
    replace h := ite_f hc h
    refine r_aload_n (pc := 100) hR (dc dt_X11_filledBy 62 rfl) rfl ?_
    refine r_getr (pc := 101) (k2 := 98) hR (dc dt_X11_filledBy 63 rfl) fl_X11_54 tc_83 rfl ?_
    refine r_iconst (pc := 104) hR (dc dt_X11_filledBy 64 rfl) ?_
    refine r_iload_n (pc := 105) hR (dc dt_X11_filledBy 65 rfl) rfl ?_
    refine r_imul (pc := 106) hR (dc dt_X11_filledBy 66 rfl) ?_
    refine r_iload (pc := 107) hR (dc dt_X11_filledBy 67 rfl) rfl ?_
    refine r_iadd (pc := 109) hR (dc dt_X11_filledBy 68 rfl) ?_
    obtain ⟨g1, h⟩ := gd_some h
    refine r_iald (pc := 110) hR (dc dt_X11_filledBy 69 rfl) tc_98 g1 (w32_in _) ?_
    refine r_aload_n (pc := 111) hR (dc dt_X11_filledBy 70 rfl) rfl ?_
    refine r_getr (pc := 112) (k2 := 99) hR (dc dt_X11_filledBy 71 rfl) fl_X11_57 tc_83 rfl ?_
    refine r_iconst (pc := 115) hR (dc dt_X11_filledBy 72 rfl) ?_
    refine r_iload_n (pc := 116) hR (dc dt_X11_filledBy 73 rfl) rfl ?_
    refine r_imul (pc := 117) hR (dc dt_X11_filledBy 74 rfl) ?_
    refine r_iload (pc := 118) hR (dc dt_X11_filledBy 75 rfl) rfl ?_
    refine r_iadd (pc := 120) hR (dc dt_X11_filledBy 76 rfl) ?_
    obtain ⟨g1, h⟩ := gd_some h
    refine r_iald (pc := 121) hR (dc dt_X11_filledBy 77 rfl) tc_99 g1 (w32_in _) ?_
    refine r_iadd (pc := 122) hR (dc dt_X11_filledBy 78 rfl) ?_
    refine r_iload_n (pc := 123) hR (dc dt_X11_filledBy 79 rfl) rfl ?_
    refine r_icmp_ne (pc := 124) (tgt := 136) hR (dc dt_X11_filledBy 80 rfl) (by decide) (w32_in _) qv3 (fun hc => ?_) (fun hc => ?_)
    · replace h := ite_t hc h
      exact J136 v4 qv4 h
    replace h := ite_f hc h
    refine r_iload (pc := 127) hR (dc dt_X11_filledBy 81 rfl) rfl ?_
    refine r_iconst (pc := 129) hR (dc dt_X11_filledBy 82 rfl) ?_
    refine r_iload (pc := 130) hR (dc dt_X11_filledBy 83 rfl) rfl ?_
    refine r_ishl (pc := 132) hR (dc dt_X11_filledBy 84 rfl) ?_
    refine r_ior (pc := 133) hR (dc dt_X11_filledBy 85 rfl) ?_
    refine r_istore (pc := 134) (L' := [some (.ref (ad 83)), some (iv v1), none, some (iv v3), some (iv (bor v4 (shl 1 v5))), some (iv v5)]) hR (dc dt_X11_filledBy 86 rfl) (by decide) rfl rfl ?_
    exact J136 (bor v4 (shl 1 v5)) (ti_in _) h
set_option maxRecDepth 100000 in
set_option maxHeartbeats 4000000 in
theorem ok_F11_filledBy {m : Mem}  {v1 v2 : Int} (q1 : inR v1) (q2 : inR v2) {out : Int × Mem} (h : F11_filledBy m v1 v2 = some out) : CT l G cy ad tt yX11_filledBy cX11_filledBy 6 (some .int) 3 [.ref (ad 83), iv v1, iv v2] m (some (iv out.1)) (inR out.1) out.2 := by
  refine CT_of (by decide) (Nat.le_of_ble_eq_true rfl) (fun Go hR hT => ?_)
  replace hR : RS l G cy ad tt RX11 cX11_filledBy 6 3 Go := hR
  show Go 0 [some (.ref (ad 83)), some (iv v1), some (iv v2), none, none, none] [] m
  unfold F11_filledBy at h
  refine r_aload_n (pc := 0) hR (dc dt_X11_filledBy 0 rfl) rfl ?_
  refine r_iload_n (pc := 1) hR (dc dt_X11_filledBy 1 rfl) rfl ?_
  obtain ⟨r2, m2, e2, h⟩ := b2_some h
  refine r_callV (pc := 2) (rest := []) hR (dc dt_X11_filledBy 2 rfl) cl_X11_242 tc_83 rfl (ok_F11_costOf q2 e2) (by decide) rfl (Nat.le_of_ble_eq_true rfl) rfl (fun q2r => ?_)
  show Go 5 [some (.ref (ad 83)), some (iv v1), some (iv v2), none, none, none] [iv r2] m2
  refine r_pop (pc := 5) hR (dc dt_X11_filledBy 3 rfl) rfl ?_
  refine r_aload_n (pc := 6) hR (dc dt_X11_filledBy 4 rfl) rfl ?_
  obtain ⟨m7, e7, h⟩ := b1_some h
  refine r_callV (pc := 7) (rest := []) hR (dc dt_X11_filledBy 5 rfl) cl_X11_245 tc_83 rfl (ok_F11_findBeyond  e7) (by decide) rfl (Nat.le_of_ble_eq_true rfl) rfl (fun q7r => ?_)
  show Go 10 [some (.ref (ad 83)), some (iv v1), some (iv v2), none, none, none] [] m7
  refine r_ldc (pc := 10) hR (dc dt_X11_filledBy 6 rfl) kw_X11_223 ?_
  refine r_istore_n (pc := 12) (L' := [some (.ref (ad 83)), some (iv v1), some (iv v2), some (iv 1000000), none, none]) hR (dc dt_X11_filledBy 7 rfl) (by decide) rfl rfl ?_
  refine r_iconst (pc := 13) hR (dc dt_X11_filledBy 8 rfl) ?_
  refine r_istore (pc := 14) (L' := [some (.ref (ad 83)), some (iv v1), some (iv v2), some (iv 1000000), some (iv 0), none]) hR (dc dt_X11_filledBy 9 rfl) (by decide) rfl rfl ?_
  refine r_weak (L' := [some (.ref (ad 83)), some (iv v1), none, some (iv 1000000), some (iv 0), none]) hR ⟨Or.inr rfl, Or.inr rfl, Or.inl rfl, Or.inr rfl, Or.inr rfl, Or.inr rfl, trivial⟩ ?_
  refine lp_L11_filledBy_16 hR hT q1 (fun v3_72 qv3_72 h => ?_) FU 1000000 0 (rg_c rfl) (rg_c rfl) h
  show Go 72 [some (.ref (ad 83)), some (iv v1), none, some (iv v3_72), none, none] [] m7
  refine r_iconst (pc := 72) hR (dc dt_X11_filledBy 45 rfl) ?_
  refine r_istore (pc := 73) (L' := [some (.ref (ad 83)), some (iv v1), none, some (iv v3_72), some (iv 0), none]) hR (dc dt_X11_filledBy 46 rfl) (by decide) rfl rfl ?_
  refine r_iconst (pc := 75) hR (dc dt_X11_filledBy 47 rfl) ?_
  refine r_istore (pc := 76) (L' := [some (.ref (ad 83)), some (iv v1), none, some (iv v3_72), some (iv 0), some (iv 0)]) hR (dc dt_X11_filledBy 48 rfl) (by decide) rfl rfl ?_
  refine lp_L11_filledBy_78 hR hT q1 qv3_72 FU 0 0 (rg_c rfl) (rg_c rfl) h
def tb_X11_filled : List (Nat × (Instr × Nat)) := [(0, (.aload_n 0, 1)), (1, (.iload_n 1, 1)), (2, (.invokevirtual 182, 3)), (5, (.ifCond .eq 10, 3)), (8, (.iload_n 2, 1)), (9, (.invokestatic 158, 3)), (12, (.ifCond .ne 5, 3)), (15, (.iconst (-1), 1)), (16, (.ireturn, 1)), (17, (.aload_n 0, 1)), (18, (.invokevirtual 239, 3)), (21, (.aload_n 0, 1)), (22, (.iload_n 1, 1)), (23, (.iload_n 2, 1)), (24, (.invokevirtual 248, 3)), (27, (.ireturn, 1))]
set_option maxRecDepth 100000 in
theorem dt_X11_filled : (tb_X11_filled.all fun q => decide (decode cX11_filled q.1 = .ok q.2)) = true := by decide +kernel
set_option maxRecDepth 100000 in
set_option maxHeartbeats 4000000 in
theorem ok_F11_filled {m : Mem}  {v1 v2 : Int} (q1 : inR v1) (q2 : inR v2) {out : Int × Mem} (h : F11_filled m v1 v2 = some out) : CT l G cy ad tt yX11_filled cX11_filled 3 (some .int) 4 [.ref (ad 83), iv v1, iv v2] m (some (iv out.1)) (inR out.1) out.2 := by
  refine CT_of (by decide) (Nat.le_of_ble_eq_true rfl) (fun Go hR hT => ?_)
  replace hR : RS l G cy ad tt RX11 cX11_filled 3 4 Go := hR
  show Go 0 [some (.ref (ad 83)), some (iv v1), some (iv v2)] [] m
  unfold F11_filled at h
  refine r_aload_n (pc := 0) hR (dc dt_X11_filled 0 rfl) rfl ?_
  refine r_iload_n (pc := 1) hR (dc dt_X11_filled 1 rfl) rfl ?_
  refine r_callV (pc := 2) (rest := []) hR (dc dt_X11_filled 2 rfl) cl_X11_182 tc_83 rfl (ok_F11_isCharter q1) (by decide) rfl (Nat.le_of_ble_eq_true rfl) rfl (fun q2r => ?_)
  show Go 5 [some (.ref (ad 83)), some (iv v1), some (iv v2)] [iv (F11_isCharter m v1)] m
  refine r_if_eq (pc := 5) (tgt := 15) hR (dc dt_X11_filled 3 rfl) (by decide) (inZ_R q2r) (fun hc => ?_) (fun hc => ?_)
  · replace h := ite_t hc h
    refine r_iconst (pc := 15) hR (dc dt_X11_filled 7 rfl) ?_
    exact r_iret hT (dc dt_X11_filled 8 rfl) (congrArg Prod.fst (Option.some.inj h)) (congrArg Prod.snd (Option.some.inj h)) (rg_c rfl)
  replace h := ite_f hc h
  refine r_iload_n (pc := 8) hR (dc dt_X11_filled 4 rfl) rfl ?_
  refine r_callS (pc := 9) (rest := []) hR (dc dt_X11_filled 5 rfl) cl_X11_158 (ok_F11_isClause q2) (by decide) rfl (Nat.le_of_ble_eq_true rfl) rfl (fun q9r => ?_)
  show Go 12 [some (.ref (ad 83)), some (iv v1), some (iv v2)] [iv (F11_isClause v2)] m
  refine r_if_ne (pc := 12) (tgt := 17) hR (dc dt_X11_filled 6 rfl) (by decide) (inZ_R q9r) (fun hc => ?_) (fun hc => ?_)
  · replace h := ite_t hc h
    refine r_aload_n (pc := 17) hR (dc dt_X11_filled 9 rfl) rfl ?_
    obtain ⟨m18, e18, h⟩ := b1_some h
    refine r_callV (pc := 18) (rest := []) hR (dc dt_X11_filled 10 rfl) cl_X11_239 tc_83 rfl (ok_F11_lookAtAll  e18) (by decide) rfl (Nat.le_of_ble_eq_true rfl) rfl (fun q18r => ?_)
    show Go 21 [some (.ref (ad 83)), some (iv v1), some (iv v2)] [] m18
    refine r_aload_n (pc := 21) hR (dc dt_X11_filled 11 rfl) rfl ?_
    refine r_iload_n (pc := 22) hR (dc dt_X11_filled 12 rfl) rfl ?_
    refine r_iload_n (pc := 23) hR (dc dt_X11_filled 13 rfl) rfl ?_
    obtain ⟨r24, m24, e24, h⟩ := b2_some h
    refine r_callV (pc := 24) (rest := []) hR (dc dt_X11_filled 14 rfl) cl_X11_248 tc_83 rfl (ok_F11_filledBy q1 q2 e24) (by decide) rfl (Nat.le_of_ble_eq_true rfl) rfl (fun q24r => ?_)
    show Go 27 [some (.ref (ad 83)), some (iv v1), some (iv v2)] [iv r24] m24
    exact r_iret hT (dc dt_X11_filled 15 rfl) (congrArg Prod.fst (Option.some.inj h)) (congrArg Prod.snd (Option.some.inj h)) q24r
  replace h := ite_f hc h
  refine r_iconst (pc := 15) hR (dc dt_X11_filled 7 rfl) ?_
  exact r_iret hT (dc dt_X11_filled 8 rfl) (congrArg Prod.fst (Option.some.inj h)) (congrArg Prod.snd (Option.some.inj h)) (rg_c rfl)
def tb_X11_law : List (Nat × (Instr × Nat)) := [(0, (.aload_n 0, 1)), (1, (.iload_n 1, 1)), (2, (.invokevirtual 182, 3)), (5, (.ifCond .eq 10, 3)), (8, (.iload_n 2, 1)), (9, (.invokestatic 158, 3)), (12, (.ifCond .ne 5, 3)), (15, (.iconst (-1), 1)), (16, (.ireturn, 1)), (17, (.aload_n 0, 1)), (18, (.invokevirtual 239, 3)), (21, (.aload_n 0, 1)), (22, (.iload_n 1, 1)), (23, (.putfield 220, 3)), (26, (.aload_n 0, 1)), (27, (.iload_n 1, 1)), (28, (.iload_n 2, 1)), (29, (.invokevirtual 248, 3)), (32, (.istore_n 3, 1)), (33, (.aload_n 0, 1)), (34, (.iconst (-1), 1)), (35, (.putfield 220, 3)), (38, (.iload_n 3, 1)), (39, (.ireturn, 1))]
set_option maxRecDepth 100000 in
theorem dt_X11_law : (tb_X11_law.all fun q => decide (decode cX11_law q.1 = .ok q.2)) = true := by decide +kernel
set_option maxRecDepth 100000 in
set_option maxHeartbeats 4000000 in
theorem ok_F11_law {m : Mem}  {v1 v2 : Int} (q1 : inR v1) (q2 : inR v2) {out : Int × Mem} (h : F11_law m v1 v2 = some out) : CT l G cy ad tt yX11_law cX11_law 4 (some .int) 4 [.ref (ad 83), iv v1, iv v2] m (some (iv out.1)) (inR out.1) out.2 := by
  refine CT_of (by decide) (Nat.le_of_ble_eq_true rfl) (fun Go hR hT => ?_)
  replace hR : RS l G cy ad tt RX11 cX11_law 4 4 Go := hR
  show Go 0 [some (.ref (ad 83)), some (iv v1), some (iv v2), none] [] m
  unfold F11_law at h
  refine r_aload_n (pc := 0) hR (dc dt_X11_law 0 rfl) rfl ?_
  refine r_iload_n (pc := 1) hR (dc dt_X11_law 1 rfl) rfl ?_
  refine r_callV (pc := 2) (rest := []) hR (dc dt_X11_law 2 rfl) cl_X11_182 tc_83 rfl (ok_F11_isCharter q1) (by decide) rfl (Nat.le_of_ble_eq_true rfl) rfl (fun q2r => ?_)
  show Go 5 [some (.ref (ad 83)), some (iv v1), some (iv v2), none] [iv (F11_isCharter m v1)] m
  refine r_if_eq (pc := 5) (tgt := 15) hR (dc dt_X11_law 3 rfl) (by decide) (inZ_R q2r) (fun hc => ?_) (fun hc => ?_)
  · replace h := ite_t hc h
    refine r_iconst (pc := 15) hR (dc dt_X11_law 7 rfl) ?_
    exact r_iret hT (dc dt_X11_law 8 rfl) (congrArg Prod.fst (Option.some.inj h)) (congrArg Prod.snd (Option.some.inj h)) (rg_c rfl)
  replace h := ite_f hc h
  refine r_iload_n (pc := 8) hR (dc dt_X11_law 4 rfl) rfl ?_
  refine r_callS (pc := 9) (rest := []) hR (dc dt_X11_law 5 rfl) cl_X11_158 (ok_F11_isClause q2) (by decide) rfl (Nat.le_of_ble_eq_true rfl) rfl (fun q9r => ?_)
  show Go 12 [some (.ref (ad 83)), some (iv v1), some (iv v2), none] [iv (F11_isClause v2)] m
  refine r_if_ne (pc := 12) (tgt := 17) hR (dc dt_X11_law 6 rfl) (by decide) (inZ_R q9r) (fun hc => ?_) (fun hc => ?_)
  · replace h := ite_t hc h
    refine r_aload_n (pc := 17) hR (dc dt_X11_law 9 rfl) rfl ?_
    obtain ⟨m18, e18, h⟩ := b1_some h
    refine r_callV (pc := 18) (rest := []) hR (dc dt_X11_law 10 rfl) cl_X11_239 tc_83 rfl (ok_F11_lookAtAll  e18) (by decide) rfl (Nat.le_of_ble_eq_true rfl) rfl (fun q18r => ?_)
    show Go 21 [some (.ref (ad 83)), some (iv v1), some (iv v2), none] [] m18
    refine r_aload_n (pc := 21) hR (dc dt_X11_law 11 rfl) rfl ?_
    refine r_iload_n (pc := 22) hR (dc dt_X11_law 12 rfl) rfl ?_
    refine r_puti (pc := 23) hR (dc dt_X11_law 13 rfl) fl_X11_220 tc_83 rfl rfl rfl ?_
    replace h := stw_e h
    generalize wr m18 83 25 v1 = m23 at h ⊢
    refine r_aload_n (pc := 26) hR (dc dt_X11_law 14 rfl) rfl ?_
    refine r_iload_n (pc := 27) hR (dc dt_X11_law 15 rfl) rfl ?_
    refine r_iload_n (pc := 28) hR (dc dt_X11_law 16 rfl) rfl ?_
    obtain ⟨r29, m29, e29, h⟩ := b2_some h
    refine r_callV (pc := 29) (rest := []) hR (dc dt_X11_law 17 rfl) cl_X11_248 tc_83 rfl (ok_F11_filledBy q1 q2 e29) (by decide) rfl (Nat.le_of_ble_eq_true rfl) rfl (fun q29r => ?_)
    show Go 32 [some (.ref (ad 83)), some (iv v1), some (iv v2), none] [iv r29] m29
    refine r_istore_n (pc := 32) (L' := [some (.ref (ad 83)), some (iv v1), some (iv v2), some (iv r29)]) hR (dc dt_X11_law 18 rfl) (by decide) rfl rfl ?_
    refine r_aload_n (pc := 33) hR (dc dt_X11_law 19 rfl) rfl ?_
    refine r_iconst (pc := 34) hR (dc dt_X11_law 20 rfl) ?_
    refine r_puti (pc := 35) hR (dc dt_X11_law 21 rfl) fl_X11_220 tc_83 rfl rfl rfl ?_
    replace h := stw_e h
    generalize wr m29 83 25 (-1) = m35 at h ⊢
    refine r_iload_n (pc := 38) hR (dc dt_X11_law 22 rfl) rfl ?_
    exact r_iret hT (dc dt_X11_law 23 rfl) (congrArg Prod.fst (Option.some.inj h)) (congrArg Prod.snd (Option.some.inj h)) q29r
  replace h := ite_f hc h
  refine r_iconst (pc := 15) hR (dc dt_X11_law 7 rfl) ?_
  exact r_iret hT (dc dt_X11_law 8 rfl) (congrArg Prod.fst (Option.some.inj h)) (congrArg Prod.snd (Option.some.inj h)) (rg_c rfl)
def tb_X11_findDays : List (Nat × (Instr × Nat)) := [(0, (.iconst 0, 1)), (1, (.istore_n 1, 1)), (2, (.iload_n 1, 1)), (3, (.aload_n 0, 1)), (4, (.getfield 214, 3)), (7, (.if_icmp .ge 62, 3)), (10, (.aload_n 0, 1)), (11, (.getfield 60, 3)), (14, (.iload_n 1, 1)), (15, (.iaload, 1)), (16, (.istore_n 2, 1)), (17, (.aload_n 0, 1)), (18, (.getfield 63, 3)), (21, (.iload_n 2, 1)), (22, (.aload_n 0, 1)), (23, (.getfield 48, 3)), (26, (.iload_n 2, 1)), (27, (.iaload, 1)), (28, (.ifCond .ge 12, 3)), (31, (.aload_n 0, 1)), (32, (.getfield 7, 3)), (35, (.iload_n 2, 1)), (36, (.iaload, 1)), (37, (.goto 25, 3)), (40, (.aload_n 0, 1)), (41, (.getfield 7, 3)), (44, (.iload_n 2, 1)), (45, (.iaload, 1)), (46, (.aload_n 0, 1)), (47, (.getfield 63, 3)), (50, (.aload_n 0, 1)), (51, (.getfield 48, 3)), (54, (.iload_n 2, 1)), (55, (.iaload, 1)), (56, (.iaload, 1)), (57, (.iconst 1, 1)), (58, (.iadd, 1)), (59, (.invokestatic 251, 3)), (62, (.iastore, 1)), (63, (.iinc 1 1, 3)), (66, (.goto (-64), 3)), (69, (.aload_n 0, 1)), (70, (.getfield 214, 3)), (73, (.iconst 1, 1)), (74, (.isub, 1)), (75, (.istore_n 1, 1)), (76, (.iload_n 1, 1)), (77, (.ifCond .lt 86, 3)), (80, (.aload_n 0, 1)), (81, (.getfield 60, 3)), (84, (.iload_n 1, 1)), (85, (.iaload, 1)), (86, (.istore_n 2, 1)), (87, (.aload_n 0, 1)), (88, (.getfield 66, 3)), (91, (.iload_n 2, 1)), (92, (.aload_n 0, 1)), (93, (.getfield 13, 3)), (96, (.iload_n 2, 1)), (97, (.iaload, 1)), (98, (.iastore, 1)), (99, (.iconst 0, 1)), (100, (.istore_n 3, 1)), (101, (.iload_n 3, 1)), (102, (.aload_n 0, 1)), (103, (.getfield 138, 3)), (106, (.if_icmp .ge 51, 3)), (109, (.aload_n 0, 1)), (110, (.getfield 51, 3)), (113, (.iload_n 3, 1)), (114, (.baload, 1)), (115, (.ifCond .eq 36, 3)), (118, (.aload_n 0, 1)), (119, (.getfield 48, 3)), (122, (.iload_n 3, 1)), (123, (.iaload, 1)), (124, (.iload_n 2, 1)), (125, (.if_icmp .ne 26, 3)), (128, (.aload_n 0, 1)), (129, (.getfield 66, 3)), (132, (.iload_n 2, 1)), (133, (.aload_n 0, 1)), (134, (.getfield 66, 3)), (137, (.iload_n 2, 1)), (138, (.iaload, 1)), (139, (.aload_n 0, 1)), (140, (.getfield 66, 3)), (143, (.iload_n 3, 1)), (144, (.iaload, 1)), (145, (.iconst 1, 1)), (146, (.isub, 1)), (147, (.invokestatic 227, 3)), (150, (.iastore, 1)), (151, (.iinc 3 1, 3)), (154, (.goto (-53), 3)), (157, (.iinc 1 (-1), 3)), (160, (.goto (-84), 3)), (163, (.iconst 0, 1)), (164, (.istore_n 1, 1)), (165, (.iload_n 1, 1)), (166, (.aload_n 0, 1)), (167, (.getfield 138, 3)), (170, (.if_icmp .ge 35, 3)), (173, (.aload_n 0, 1)), (174, (.getfield 51, 3)), (177, (.iload_n 1, 1)), (178, (.baload, 1)), (179, (.ifCond .eq 20, 3)), (182, (.aload_n 0, 1)), (183, (.getfield 63, 3)), (186, (.iload_n 1, 1)), (187, (.iaload, 1)), (188, (.aload_n 0, 1)), (189, (.getfield 13, 3)), (192, (.iload_n 1, 1)), (193, (.iaload, 1)), (194, (.if_icmp .le 5, 3)), (197, (.iload_n 1, 1)), (198, (.ireturn, 1)), (199, (.iinc 1 1, 3)), (202, (.goto (-37), 3)), (205, (.bipush (-2), 2)), (207, (.ireturn, 1))]
set_option maxRecDepth 100000 in
theorem dt_X11_findDays : (tb_X11_findDays.all fun q => decide (decode cX11_findDays q.1 = .ok q.2)) = true := by decide +kernel
set_option maxRecDepth 100000 in
set_option maxHeartbeats 4000000 in
theorem lp_L11_findDays_2 {Go : Nat → List (Option Value) → List Value → Mem → Prop} (hR : RS l G cy ad tt RX11 cX11_findDays 4 1 Go) {out : Int × Mem} (hT : RT cX11_findDays (some (iv out.1)) (inR out.1) out.2 (some .int) Go) {k69 : Mem → Option (Int × Mem)} (hk69 : ∀ (m : Mem), k69 m = some out → Go 69 [some (.ref (ad 83)), none, none, none] [] m) : ∀ (n : Nat) (v1 : Int) (m : Mem), inR v1 → L11_findDays_2 k69 n v1 m = some out → Go 2 [some (.ref (ad 83)), some (iv v1), none, none] [] m := by
  intro n
  induction n with
  | zero =>
    intro v1 m qv1 h
    cases h
  | succ n ih =>
    intro v1 m qv1 h
    rw [L11_findDays_2] at h
    refine r_iload_n (pc := 2) hR (dc dt_X11_findDays 2 rfl) rfl ?_
    refine r_aload_n (pc := 3) hR (dc dt_X11_findDays 3 rfl) rfl ?_
    refine r_geti (pc := 4) hR (dc dt_X11_findDays 4 rfl) fl_X11_214 tc_83 rfl ?_
    refine r_icmp_ge (pc := 7) (tgt := 69) hR (dc dt_X11_findDays 5 rfl) (by decide) qv1 (rd_in _ _ _) (fun hc => ?_) (fun hc => ?_)
    · replace h := ite_t hc h
      refine r_weak (L' := [some (.ref (ad 83)), none, none, none]) hR ⟨Or.inr rfl, Or.inl rfl, Or.inr rfl, Or.inr rfl, trivial⟩ ?_
      exact hk69 m h
    replace h := ite_f hc h
    refine r_aload_n (pc := 10) hR (dc dt_X11_findDays 6 rfl) rfl ?_
    refine r_getr (pc := 11) (k2 := 100) hR (dc dt_X11_findDays 7 rfl) fl_X11_60 tc_83 rfl ?_
    refine r_iload_n (pc := 14) hR (dc dt_X11_findDays 8 rfl) rfl ?_
    obtain ⟨g1, h⟩ := gd_some h
    refine r_iald (pc := 15) hR (dc dt_X11_findDays 9 rfl) tc_100 g1 qv1 ?_
    refine r_istore_n (pc := 16) (L' := [some (.ref (ad 83)), some (iv v1), some (iv (rd m 100 v1)), none]) hR (dc dt_X11_findDays 10 rfl) (by decide) rfl rfl ?_
    refine r_aload_n (pc := 17) hR (dc dt_X11_findDays 11 rfl) rfl ?_
    refine r_getr (pc := 18) (k2 := 101) hR (dc dt_X11_findDays 12 rfl) fl_X11_63 tc_83 rfl ?_
    refine r_iload_n (pc := 21) hR (dc dt_X11_findDays 13 rfl) rfl ?_
    refine r_aload_n (pc := 22) hR (dc dt_X11_findDays 14 rfl) rfl ?_
    refine r_getr (pc := 23) (k2 := 96) hR (dc dt_X11_findDays 15 rfl) fl_X11_48 tc_83 rfl ?_
    refine r_iload_n (pc := 26) hR (dc dt_X11_findDays 16 rfl) rfl ?_
    obtain ⟨g1, h⟩ := gd_some h
    refine r_iald (pc := 27) hR (dc dt_X11_findDays 17 rfl) tc_96 g1 (rd_in _ _ _) ?_
    refine jn_e h (fun (K : Int → Option (Int × Mem)) => ∀ (x62 : Int), inR x62 → K x62 = some out → Go 62 [some (.ref (ad 83)), some (iv v1), none, none] [iv x62, iv (rd m 100 v1), .ref (ad 101)] m) (fun x62 qx62 h => ?_) (fun K62 J62 h => ?_)
    · obtain ⟨g1, h⟩ := gd_some h
      refine r_iast (pc := 62) hR (dc dt_X11_findDays 38 rfl) tc_101 g1 (rd_in _ _ _) ?_
      replace h := stw_e h
      generalize wr m 101 (rd m 100 v1) x62 = m62 at h ⊢
      refine r_iinc (pc := 63) (L' := [some (.ref (ad 83)), some (iv (w32 (v1 + 1))), none, none]) hR (dc dt_X11_findDays 39 rfl) rfl (by decide) rfl rfl ?_
      refine r_goto (pc := 66) (tgt := 2) hR (dc dt_X11_findDays 40 rfl) (by decide) ?_
      exact ih (w32 (v1 + 1)) m62 (w32_in _) h
    refine r_if_ge (pc := 28) (tgt := 40) hR (dc dt_X11_findDays 18 rfl) (by decide) (rd_in _ _ _) (fun hc => ?_) (fun hc => ?_)
    · replace h := ite_t hc h
      refine r_aload_n (pc := 40) hR (dc dt_X11_findDays 24 rfl) rfl ?_
      refine r_getr (pc := 41) (k2 := 84) hR (dc dt_X11_findDays 25 rfl) fl_X11_7 tc_83 rfl ?_
      refine r_iload_n (pc := 44) hR (dc dt_X11_findDays 26 rfl) rfl ?_
      obtain ⟨g1, h⟩ := gd_some h
      refine r_iald (pc := 45) hR (dc dt_X11_findDays 27 rfl) tc_84 g1 (rd_in _ _ _) ?_
      refine r_aload_n (pc := 46) hR (dc dt_X11_findDays 28 rfl) rfl ?_
      refine r_getr (pc := 47) (k2 := 101) hR (dc dt_X11_findDays 29 rfl) fl_X11_63 tc_83 rfl ?_
      refine r_aload_n (pc := 50) hR (dc dt_X11_findDays 30 rfl) rfl ?_
      refine r_getr (pc := 51) (k2 := 96) hR (dc dt_X11_findDays 31 rfl) fl_X11_48 tc_83 rfl ?_
      refine r_iload_n (pc := 54) hR (dc dt_X11_findDays 32 rfl) rfl ?_
      obtain ⟨g1, h⟩ := gd_some h
      refine r_iald (pc := 55) hR (dc dt_X11_findDays 33 rfl) tc_96 g1 (rd_in _ _ _) ?_
      obtain ⟨g1, h⟩ := gd_some h
      refine r_iald (pc := 56) hR (dc dt_X11_findDays 34 rfl) tc_101 g1 (rd_in _ _ _) ?_
      refine r_iconst (pc := 57) hR (dc dt_X11_findDays 35 rfl) ?_
      refine r_iadd (pc := 58) hR (dc dt_X11_findDays 36 rfl) ?_
      refine r_callS (pc := 59) (rest := [iv (rd m 100 v1), .ref (ad 101)]) hR (dc dt_X11_findDays 37 rfl) cl_X11_251 (ok_F11_greater (rd_in _ _ _) (w32_in _)) (by decide) rfl (Nat.le_of_ble_eq_true rfl) rfl (fun q59r => ?_)
      show Go 62 [some (.ref (ad 83)), some (iv v1), some (iv (rd m 100 v1)), none] [iv (F11_greater (rd m 84 (rd m 100 v1)) (w32 ((rd m 101 (rd m 96 (rd m 100 v1))) + 1))), iv (rd m 100 v1), .ref (ad 101)] m
      refine r_weak (L' := [some (.ref (ad 83)), some (iv v1), none, none]) hR ⟨Or.inr rfl, Or.inr rfl, Or.inl rfl, Or.inr rfl, trivial⟩ ?_
      exact J62 (F11_greater (rd m 84 (rd m 100 v1)) (w32 ((rd m 101 (rd m 96 (rd m 100 v1))) + 1))) q59r h
    replace h := ite_f hc h
    refine r_aload_n (pc := 31) hR (dc dt_X11_findDays 19 rfl) rfl ?_
    refine r_getr (pc := 32) (k2 := 84) hR (dc dt_X11_findDays 20 rfl) fl_X11_7 tc_83 rfl ?_
    refine r_iload_n (pc := 35) hR (dc dt_X11_findDays 21 rfl) rfl ?_
    obtain ⟨g1, h⟩ := gd_some h
    refine r_iald (pc := 36) hR (dc dt_X11_findDays 22 rfl) tc_84 g1 (rd_in _ _ _) ?_
    refine r_goto (pc := 37) (tgt := 62) hR (dc dt_X11_findDays 23 rfl) (by decide) ?_
    refine r_weak (L' := [some (.ref (ad 83)), some (iv v1), none, none]) hR ⟨Or.inr rfl, Or.inr rfl, Or.inl rfl, Or.inr rfl, trivial⟩ ?_
    exact J62 (rd m 84 (rd m 100 v1)) (rd_in _ _ _) h
set_option maxRecDepth 100000 in
set_option maxHeartbeats 4000000 in
theorem lp_L11_findDays_101 {Go : Nat → List (Option Value) → List Value → Mem → Prop} (hR : RS l G cy ad tt RX11 cX11_findDays 4 1 Go) {out : Int × Mem} (hT : RT cX11_findDays (some (iv out.1)) (inR out.1) out.2 (some .int) Go) {v1 : Int} {v2 : Int} (qv1 : inR v1) (qv2 : inR v2) {k157 : Mem → Option (Int × Mem)} (hk157 : ∀ (m : Mem), k157 m = some out → Go 157 [some (.ref (ad 83)), some (iv v1), none, none] [] m) : ∀ (n : Nat) (v3 : Int) (m : Mem), inR v3 → L11_findDays_101 v2 k157 n v3 m = some out → Go 101 [some (.ref (ad 83)), some (iv v1), some (iv v2), some (iv v3)] [] m := by
  intro n
  induction n with
  | zero =>
    intro v3 m qv3 h
    cases h
  | succ n ih =>
    intro v3 m qv3 h
    rw [L11_findDays_101] at h
    refine r_iload_n (pc := 101) hR (dc dt_X11_findDays 63 rfl) rfl ?_
    refine r_aload_n (pc := 102) hR (dc dt_X11_findDays 64 rfl) rfl ?_
    refine r_geti (pc := 103) hR (dc dt_X11_findDays 65 rfl) fl_X11_138 tc_83 rfl ?_
    refine r_icmp_ge (pc := 106) (tgt := 157) hR (dc dt_X11_findDays 66 rfl) (by decide) qv3 (rd_in _ _ _) (fun hc => ?_) (fun hc => ?_)
    · replace h := ite_t hc h
      refine r_weak (L' := [some (.ref (ad 83)), some (iv v1), none, none]) hR ⟨Or.inr rfl, Or.inr rfl, Or.inl rfl, Or.inl rfl, trivial⟩ ?_
      exact hk157 m h
    replace h := ite_f hc h
    refine r_aload_n (pc := 109) hR (dc dt_X11_findDays 67 rfl) rfl ?_
    refine r_getr (pc := 110) (k2 := 97) hR (dc dt_X11_findDays 68 rfl) fl_X11_51 tc_83 rfl ?_
    refine r_iload_n (pc := 113) hR (dc dt_X11_findDays 69 rfl) rfl ?_
    obtain ⟨g1, h⟩ := gd_some h
    refine r_zald (pc := 114) hR (dc dt_X11_findDays 70 rfl) tc_97 g1 qv3 ?_
    refine jn_e h (fun (K : Mem → Option (Int × Mem)) => ∀ (m_151 : Mem), K m_151 = some out → Go 151 [some (.ref (ad 83)), some (iv v1), some (iv v2), some (iv v3)] [] m_151) (fun m_151 h => ?_) (fun K151 J151 h => ?_)
    · refine r_iinc (pc := 151) (L' := [some (.ref (ad 83)), some (iv v1), some (iv v2), some (iv (w32 (v3 + 1)))]) hR (dc dt_X11_findDays 93 rfl) rfl (by decide) rfl rfl ?_
      refine r_goto (pc := 154) (tgt := 101) hR (dc dt_X11_findDays 94 rfl) (by decide) ?_
      exact ih (w32 (v3 + 1)) m_151 (w32_in _) h
    refine r_if_eq (pc := 115) (tgt := 151) hR (dc dt_X11_findDays 71 rfl) (by decide) (rd_in _ _ _) (fun hc => ?_) (fun hc => ?_)
    · replace h := ite_t hc h
      exact J151 m h
    replace h := ite_f hc h
    refine r_aload_n (pc := 118) hR (dc dt_X11_findDays 72 rfl) rfl ?_
    refine r_getr (pc := 119) (k2 := 96) hR (dc dt_X11_findDays 73 rfl) fl_X11_48 tc_83 rfl ?_
    refine r_iload_n (pc := 122) hR (dc dt_X11_findDays 74 rfl) rfl ?_
    obtain ⟨g1, h⟩ := gd_some h
    refine r_iald (pc := 123) hR (dc dt_X11_findDays 75 rfl) tc_96 g1 qv3 ?_
    refine r_iload_n (pc := 124) hR (dc dt_X11_findDays 76 rfl) rfl ?_
    refine r_icmp_ne (pc := 125) (tgt := 151) hR (dc dt_X11_findDays 77 rfl) (by decide) (rd_in _ _ _) qv2 (fun hc => ?_) (fun hc => ?_)
    · replace h := ite_t hc h
      exact J151 m h
    replace h := ite_f hc h
    refine r_aload_n (pc := 128) hR (dc dt_X11_findDays 78 rfl) rfl ?_
    refine r_getr (pc := 129) (k2 := 102) hR (dc dt_X11_findDays 79 rfl) fl_X11_66 tc_83 rfl ?_
    refine r_iload_n (pc := 132) hR (dc dt_X11_findDays 80 rfl) rfl ?_
    refine r_aload_n (pc := 133) hR (dc dt_X11_findDays 81 rfl) rfl ?_
    refine r_getr (pc := 134) (k2 := 102) hR (dc dt_X11_findDays 82 rfl) fl_X11_66 tc_83 rfl ?_
    refine r_iload_n (pc := 137) hR (dc dt_X11_findDays 83 rfl) rfl ?_
    obtain ⟨g1, h⟩ := gd_some h
    refine r_iald (pc := 138) hR (dc dt_X11_findDays 84 rfl) tc_102 g1 qv2 ?_
    refine r_aload_n (pc := 139) hR (dc dt_X11_findDays 85 rfl) rfl ?_
    refine r_getr (pc := 140) (k2 := 102) hR (dc dt_X11_findDays 86 rfl) fl_X11_66 tc_83 rfl ?_
    refine r_iload_n (pc := 143) hR (dc dt_X11_findDays 87 rfl) rfl ?_
    obtain ⟨g1, h⟩ := gd_some h
    refine r_iald (pc := 144) hR (dc dt_X11_findDays 88 rfl) tc_102 g1 qv3 ?_
    refine r_iconst (pc := 145) hR (dc dt_X11_findDays 89 rfl) ?_
    refine r_isub (pc := 146) hR (dc dt_X11_findDays 90 rfl) ?_
    refine r_callS (pc := 147) (rest := [iv v2, .ref (ad 102)]) hR (dc dt_X11_findDays 91 rfl) cl_X11_227 (ok_F11_lesser (rd_in _ _ _) (w32_in _)) (by decide) rfl (Nat.le_of_ble_eq_true rfl) rfl (fun q147r => ?_)
    show Go 150 [some (.ref (ad 83)), some (iv v1), some (iv v2), some (iv v3)] [iv (F11_lesser (rd m 102 v2) (w32 ((rd m 102 v3) - 1))), iv v2, .ref (ad 102)] m
    obtain ⟨g1, h⟩ := gd_some h
    refine r_iast (pc := 150) hR (dc dt_X11_findDays 92 rfl) tc_102 g1 qv2 ?_
    replace h := stw_e h
    generalize wr m 102 v2 (F11_lesser (rd m 102 v2) (w32 ((rd m 102 v3) - 1))) = m150 at h ⊢
    exact J151 m150 h
set_option maxRecDepth 100000 in
set_option maxHeartbeats 4000000 in
theorem lp_L11_findDays_76 {Go : Nat → List (Option Value) → List Value → Mem → Prop} (hR : RS l G cy ad tt RX11 cX11_findDays 4 1 Go) {out : Int × Mem} (hT : RT cX11_findDays (some (iv out.1)) (inR out.1) out.2 (some .int) Go) {k163 : Mem → Option (Int × Mem)} (hk163 : ∀ (m : Mem), k163 m = some out → Go 163 [some (.ref (ad 83)), none, none, none] [] m) : ∀ (n : Nat) (v1 : Int) (m : Mem), inR v1 → L11_findDays_76 k163 n v1 m = some out → Go 76 [some (.ref (ad 83)), some (iv v1), none, none] [] m := by
  intro n
  induction n with
  | zero =>
    intro v1 m qv1 h
    cases h
  | succ n ih =>
    intro v1 m qv1 h
    rw [L11_findDays_76] at h
    refine r_iload_n (pc := 76) hR (dc dt_X11_findDays 46 rfl) rfl ?_
    refine r_if_lt (pc := 77) (tgt := 163) hR (dc dt_X11_findDays 47 rfl) (by decide) qv1 (fun hc => ?_) (fun hc => ?_)
    · replace h := ite_t hc h
      refine r_weak (L' := [some (.ref (ad 83)), none, none, none]) hR ⟨Or.inr rfl, Or.inl rfl, Or.inr rfl, Or.inr rfl, trivial⟩ ?_
      exact hk163 m h
    replace h := ite_f hc h
    refine r_aload_n (pc := 80) hR (dc dt_X11_findDays 48 rfl) rfl ?_
    refine r_getr (pc := 81) (k2 := 100) hR (dc dt_X11_findDays 49 rfl) fl_X11_60 tc_83 rfl ?_
    refine r_iload_n (pc := 84) hR (dc dt_X11_findDays 50 rfl) rfl ?_
    obtain ⟨g1, h⟩ := gd_some h
    refine r_iald (pc := 85) hR (dc dt_X11_findDays 51 rfl) tc_100 g1 qv1 ?_
    refine r_istore_n (pc := 86) (L' := [some (.ref (ad 83)), some (iv v1), some (iv (rd m 100 v1)), none]) hR (dc dt_X11_findDays 52 rfl) (by decide) rfl rfl ?_
    refine r_aload_n (pc := 87) hR (dc dt_X11_findDays 53 rfl) rfl ?_
    refine r_getr (pc := 88) (k2 := 102) hR (dc dt_X11_findDays 54 rfl) fl_X11_66 tc_83 rfl ?_
    refine r_iload_n (pc := 91) hR (dc dt_X11_findDays 55 rfl) rfl ?_
    refine r_aload_n (pc := 92) hR (dc dt_X11_findDays 56 rfl) rfl ?_
    refine r_getr (pc := 93) (k2 := 85) hR (dc dt_X11_findDays 57 rfl) fl_X11_13 tc_83 rfl ?_
    refine r_iload_n (pc := 96) hR (dc dt_X11_findDays 58 rfl) rfl ?_
    obtain ⟨g1, h⟩ := gd_some h
    refine r_iald (pc := 97) hR (dc dt_X11_findDays 59 rfl) tc_85 g1 (rd_in _ _ _) ?_
    obtain ⟨g1, h⟩ := gd_some h
    refine r_iast (pc := 98) hR (dc dt_X11_findDays 60 rfl) tc_102 g1 (rd_in _ _ _) ?_
    replace h := stw_e h
    generalize wr m 102 (rd m 100 v1) (rd m 85 (rd m 100 v1)) = m98 at h ⊢
    refine r_iconst (pc := 99) hR (dc dt_X11_findDays 61 rfl) ?_
    refine r_istore_n (pc := 100) (L' := [some (.ref (ad 83)), some (iv v1), some (iv (rd m 100 v1)), some (iv 0)]) hR (dc dt_X11_findDays 62 rfl) (by decide) rfl rfl ?_
    refine lp_L11_findDays_101 hR hT qv1 (rd_in _ _ _) (fun m_157 h => ?_) FU 0 m98 (rg_c rfl) h
    show Go 157 [some (.ref (ad 83)), some (iv v1), none, none] [] m_157
    refine r_iinc (pc := 157) (L' := [some (.ref (ad 83)), some (iv (w32 (v1 + (-1)))), none, none]) hR (dc dt_X11_findDays 95 rfl) rfl (by decide) rfl rfl ?_
    refine r_goto (pc := 160) (tgt := 76) hR (dc dt_X11_findDays 96 rfl) (by decide) ?_
    exact ih (w32 (v1 + (-1))) m_157 (w32_in _) h
set_option maxRecDepth 100000 in
set_option maxHeartbeats 4000000 in
theorem lp_L11_findDays_165 {Go : Nat → List (Option Value) → List Value → Mem → Prop} (hR : RS l G cy ad tt RX11 cX11_findDays 4 1 Go) {out : Int × Mem} {m : Mem} (hT : RT cX11_findDays (some (iv out.1)) (inR out.1) out.2 (some .int) Go) : ∀ (n : Nat) (v1 : Int), inR v1 → L11_findDays_165 m n v1 = some out → Go 165 [some (.ref (ad 83)), some (iv v1), none, none] [] m := by
  intro n
  induction n with
  | zero =>
    intro v1 qv1 h
    cases h
  | succ n ih =>
    intro v1 qv1 h
    rw [L11_findDays_165] at h
    refine r_iload_n (pc := 165) hR (dc dt_X11_findDays 99 rfl) rfl ?_
    refine r_aload_n (pc := 166) hR (dc dt_X11_findDays 100 rfl) rfl ?_
    refine r_geti (pc := 167) hR (dc dt_X11_findDays 101 rfl) fl_X11_138 tc_83 rfl ?_
    refine r_icmp_ge (pc := 170) (tgt := 205) hR (dc dt_X11_findDays 102 rfl) (by decide) qv1 (rd_in _ _ _) (fun hc => ?_) (fun hc => ?_)
    · replace h := ite_t hc h
      refine r_bipush (pc := 205) hR (dc dt_X11_findDays 121 rfl) (by decide) ?_
      exact r_iret hT (dc dt_X11_findDays 122 rfl) (congrArg Prod.fst (Option.some.inj h)) (congrArg Prod.snd (Option.some.inj h)) (rg_c rfl)
    replace h := ite_f hc h
    refine r_aload_n (pc := 173) hR (dc dt_X11_findDays 103 rfl) rfl ?_
    refine r_getr (pc := 174) (k2 := 97) hR (dc dt_X11_findDays 104 rfl) fl_X11_51 tc_83 rfl ?_
    refine r_iload_n (pc := 177) hR (dc dt_X11_findDays 105 rfl) rfl ?_
    obtain ⟨g1, h⟩ := gd_some h
    refine r_zald (pc := 178) hR (dc dt_X11_findDays 106 rfl) tc_97 g1 qv1 ?_
    refine jn_e h (fun (K : Option (Int × Mem)) => K = some out → Go 199 [some (.ref (ad 83)), some (iv v1), none, none] [] m) (fun h => ?_) (fun K199 J199 h => ?_)
    · refine r_iinc (pc := 199) (L' := [some (.ref (ad 83)), some (iv (w32 (v1 + 1))), none, none]) hR (dc dt_X11_findDays 119 rfl) rfl (by decide) rfl rfl ?_
      refine r_goto (pc := 202) (tgt := 165) hR (dc dt_X11_findDays 120 rfl) (by decide) ?_
      exact ih (w32 (v1 + 1)) (w32_in _) h
    refine r_if_eq (pc := 179) (tgt := 199) hR (dc dt_X11_findDays 107 rfl) (by decide) (rd_in _ _ _) (fun hc => ?_) (fun hc => ?_)
    · replace h := ite_t hc h
      exact J199 h
    replace h := ite_f hc h
    refine r_aload_n (pc := 182) hR (dc dt_X11_findDays 108 rfl) rfl ?_
    refine r_getr (pc := 183) (k2 := 101) hR (dc dt_X11_findDays 109 rfl) fl_X11_63 tc_83 rfl ?_
    refine r_iload_n (pc := 186) hR (dc dt_X11_findDays 110 rfl) rfl ?_
    obtain ⟨g1, h⟩ := gd_some h
    refine r_iald (pc := 187) hR (dc dt_X11_findDays 111 rfl) tc_101 g1 qv1 ?_
    refine r_aload_n (pc := 188) hR (dc dt_X11_findDays 112 rfl) rfl ?_
    refine r_getr (pc := 189) (k2 := 85) hR (dc dt_X11_findDays 113 rfl) fl_X11_13 tc_83 rfl ?_
    refine r_iload_n (pc := 192) hR (dc dt_X11_findDays 114 rfl) rfl ?_
    obtain ⟨g1, h⟩ := gd_some h
    refine r_iald (pc := 193) hR (dc dt_X11_findDays 115 rfl) tc_85 g1 qv1 ?_
    refine r_icmp_le (pc := 194) (tgt := 199) hR (dc dt_X11_findDays 116 rfl) (by decide) (rd_in _ _ _) (rd_in _ _ _) (fun hc => ?_) (fun hc => ?_)
    · replace h := ite_t hc h
      exact J199 h
    replace h := ite_f hc h
    refine r_iload_n (pc := 197) hR (dc dt_X11_findDays 117 rfl) rfl ?_
    exact r_iret hT (dc dt_X11_findDays 118 rfl) (congrArg Prod.fst (Option.some.inj h)) (congrArg Prod.snd (Option.some.inj h)) qv1
set_option maxRecDepth 100000 in
set_option maxHeartbeats 4000000 in
theorem ok_F11_findDays {m : Mem}   {out : Int × Mem} (h : F11_findDays m = some out) : CT l G cy ad tt yX11_findDays cX11_findDays 4 (some .int) 1 [.ref (ad 83)] m (some (iv out.1)) (inR out.1) out.2 := by
  refine CT_of (by decide) (Nat.le_of_ble_eq_true rfl) (fun Go hR hT => ?_)
  replace hR : RS l G cy ad tt RX11 cX11_findDays 4 1 Go := hR
  show Go 0 [some (.ref (ad 83)), none, none, none] [] m
  unfold F11_findDays at h
  refine r_iconst (pc := 0) hR (dc dt_X11_findDays 0 rfl) ?_
  refine r_istore_n (pc := 1) (L' := [some (.ref (ad 83)), some (iv 0), none, none]) hR (dc dt_X11_findDays 1 rfl) (by decide) rfl rfl ?_
  refine lp_L11_findDays_2 hR hT (fun m_69 h => ?_) FU 0 m (rg_c rfl) h
  show Go 69 [some (.ref (ad 83)), none, none, none] [] m_69
  refine r_aload_n (pc := 69) hR (dc dt_X11_findDays 41 rfl) rfl ?_
  refine r_geti (pc := 70) hR (dc dt_X11_findDays 42 rfl) fl_X11_214 tc_83 rfl ?_
  refine r_iconst (pc := 73) hR (dc dt_X11_findDays 43 rfl) ?_
  refine r_isub (pc := 74) hR (dc dt_X11_findDays 44 rfl) ?_
  refine r_istore_n (pc := 75) (L' := [some (.ref (ad 83)), some (iv (w32 ((rd m_69 83 24) - 1))), none, none]) hR (dc dt_X11_findDays 45 rfl) (by decide) rfl rfl ?_
  refine lp_L11_findDays_76 hR hT (fun m_163 h => ?_) FU (w32 ((rd m_69 83 24) - 1)) m_69 (w32_in _) h
  show Go 163 [some (.ref (ad 83)), none, none, none] [] m_163
  refine r_iconst (pc := 163) hR (dc dt_X11_findDays 97 rfl) ?_
  refine r_istore_n (pc := 164) (L' := [some (.ref (ad 83)), some (iv 0), none, none]) hR (dc dt_X11_findDays 98 rfl) (by decide) rfl rfl ?_
  refine lp_L11_findDays_165 hR hT FU 0 (rg_c rfl) h
def tb_X11_days : List (Nat × (Instr × Nat)) := [(0, (.aload_n 0, 1)), (1, (.iload_n 1, 1)), (2, (.invokevirtual 182, 3)), (5, (.ifCond .eq 12, 3)), (8, (.iload_n 2, 1)), (9, (.iconst 0, 1)), (10, (.iconst 2, 1)), (11, (.invokestatic 134, 3)), (14, (.ifCond .ne 5, 3)), (17, (.iconst (-1), 1)), (18, (.ireturn, 1)), (19, (.aload_n 0, 1)), (20, (.invokevirtual 239, 3)), (23, (.aload_n 0, 1)), (24, (.invokevirtual 254, 3)), (27, (.istore_n 3, 1)), (28, (.iload_n 2, 1)), (29, (.iconst 2, 1)), (30, (.if_icmp .ne 7, 3)), (33, (.iload_n 3, 1)), (34, (.goto 31, 3)), (37, (.iload_n 3, 1)), (38, (.ifCond .lt 8, 3)), (41, (.bipush (-2), 2)), (43, (.goto 22, 3)), (46, (.iload_n 2, 1)), (47, (.ifCond .ne 12, 3)), (50, (.aload_n 0, 1)), (51, (.getfield 63, 3)), (54, (.iload_n 1, 1)), (55, (.iaload, 1)), (56, (.goto 9, 3)), (59, (.aload_n 0, 1)), (60, (.getfield 66, 3)), (63, (.iload_n 1, 1)), (64, (.iaload, 1)), (65, (.ireturn, 1))]
set_option maxRecDepth 100000 in
theorem dt_X11_days : (tb_X11_days.all fun q => decide (decode cX11_days q.1 = .ok q.2)) = true := by decide +kernel
set_option maxRecDepth 100000 in
set_option maxHeartbeats 4000000 in
theorem ok_F11_days {m : Mem}  {v1 v2 : Int} (q1 : inR v1) (q2 : inR v2) {out : Int × Mem} (h : F11_days m v1 v2 = some out) : CT l G cy ad tt yX11_days cX11_days 4 (some .int) 3 [.ref (ad 83), iv v1, iv v2] m (some (iv out.1)) (inR out.1) out.2 := by
  refine CT_of (by decide) (Nat.le_of_ble_eq_true rfl) (fun Go hR hT => ?_)
  replace hR : RS l G cy ad tt RX11 cX11_days 4 3 Go := hR
  show Go 0 [some (.ref (ad 83)), some (iv v1), some (iv v2), none] [] m
  unfold F11_days at h
  refine r_aload_n (pc := 0) hR (dc dt_X11_days 0 rfl) rfl ?_
  refine r_iload_n (pc := 1) hR (dc dt_X11_days 1 rfl) rfl ?_
  refine r_callV (pc := 2) (rest := []) hR (dc dt_X11_days 2 rfl) cl_X11_182 tc_83 rfl (ok_F11_isCharter q1) (by decide) rfl (Nat.le_of_ble_eq_true rfl) rfl (fun q2r => ?_)
  show Go 5 [some (.ref (ad 83)), some (iv v1), some (iv v2), none] [iv (F11_isCharter m v1)] m
  refine r_if_eq (pc := 5) (tgt := 17) hR (dc dt_X11_days 3 rfl) (by decide) (inZ_R q2r) (fun hc => ?_) (fun hc => ?_)
  · replace h := ite_t hc h
    refine r_iconst (pc := 17) hR (dc dt_X11_days 9 rfl) ?_
    exact r_iret hT (dc dt_X11_days 10 rfl) (congrArg Prod.fst (Option.some.inj h)) (congrArg Prod.snd (Option.some.inj h)) (rg_c rfl)
  replace h := ite_f hc h
  refine r_iload_n (pc := 8) hR (dc dt_X11_days 4 rfl) rfl ?_
  refine r_iconst (pc := 9) hR (dc dt_X11_days 5 rfl) ?_
  refine r_iconst (pc := 10) hR (dc dt_X11_days 6 rfl) ?_
  refine r_callS (pc := 11) (rest := []) hR (dc dt_X11_days 7 rfl) cl_X11_134 (ok_F11_in q2 (rg_c rfl) (rg_c rfl)) (by decide) rfl (Nat.le_of_ble_eq_true rfl) rfl (fun q11r => ?_)
  show Go 14 [some (.ref (ad 83)), some (iv v1), some (iv v2), none] [iv (F11_in v2 0 2)] m
  refine r_if_ne (pc := 14) (tgt := 19) hR (dc dt_X11_days 8 rfl) (by decide) (inZ_R q11r) (fun hc => ?_) (fun hc => ?_)
  · replace h := ite_t hc h
    refine r_aload_n (pc := 19) hR (dc dt_X11_days 11 rfl) rfl ?_
    obtain ⟨m20, e20, h⟩ := b1_some h
    refine r_callV (pc := 20) (rest := []) hR (dc dt_X11_days 12 rfl) cl_X11_239 tc_83 rfl (ok_F11_lookAtAll  e20) (by decide) rfl (Nat.le_of_ble_eq_true rfl) rfl (fun q20r => ?_)
    show Go 23 [some (.ref (ad 83)), some (iv v1), some (iv v2), none] [] m20
    refine r_aload_n (pc := 23) hR (dc dt_X11_days 13 rfl) rfl ?_
    obtain ⟨r24, m24, e24, h⟩ := b2_some h
    refine r_callV (pc := 24) (rest := []) hR (dc dt_X11_days 14 rfl) cl_X11_254 tc_83 rfl (ok_F11_findDays  e24) (by decide) rfl (Nat.le_of_ble_eq_true rfl) rfl (fun q24r => ?_)
    show Go 27 [some (.ref (ad 83)), some (iv v1), some (iv v2), none] [iv r24] m24
    refine r_istore_n (pc := 27) (L' := [some (.ref (ad 83)), some (iv v1), some (iv v2), some (iv r24)]) hR (dc dt_X11_days 15 rfl) (by decide) rfl rfl ?_
    refine r_iload_n (pc := 28) hR (dc dt_X11_days 16 rfl) rfl ?_
    refine r_iconst (pc := 29) hR (dc dt_X11_days 17 rfl) ?_
    refine r_icmp_ne (pc := 30) (tgt := 37) hR (dc dt_X11_days 18 rfl) (by decide) q2 (rg_c rfl) (fun hc => ?_) (fun hc => ?_)
    · replace h := ite_t hc h
      refine r_iload_n (pc := 37) hR (dc dt_X11_days 21 rfl) rfl ?_
      refine r_if_lt (pc := 38) (tgt := 46) hR (dc dt_X11_days 22 rfl) (by decide) q24r (fun hc => ?_) (fun hc => ?_)
      · replace h := ite_t hc h
        refine r_iload_n (pc := 46) hR (dc dt_X11_days 25 rfl) rfl ?_
        refine r_if_ne (pc := 47) (tgt := 59) hR (dc dt_X11_days 26 rfl) (by decide) q2 (fun hc => ?_) (fun hc => ?_)
        · replace h := ite_t hc h
          refine r_aload_n (pc := 59) hR (dc dt_X11_days 32 rfl) rfl ?_
          refine r_getr (pc := 60) (k2 := 102) hR (dc dt_X11_days 33 rfl) fl_X11_66 tc_83 rfl ?_
          refine r_iload_n (pc := 63) hR (dc dt_X11_days 34 rfl) rfl ?_
          obtain ⟨g1, h⟩ := gd_some h
          refine r_iald (pc := 64) hR (dc dt_X11_days 35 rfl) tc_102 g1 q1 ?_
          exact r_iret hT (dc dt_X11_days 36 rfl) (congrArg Prod.fst (Option.some.inj h)) (congrArg Prod.snd (Option.some.inj h)) (rd_in _ _ _)
        replace h := ite_f hc h
        refine r_aload_n (pc := 50) hR (dc dt_X11_days 27 rfl) rfl ?_
        refine r_getr (pc := 51) (k2 := 101) hR (dc dt_X11_days 28 rfl) fl_X11_63 tc_83 rfl ?_
        refine r_iload_n (pc := 54) hR (dc dt_X11_days 29 rfl) rfl ?_
        obtain ⟨g1, h⟩ := gd_some h
        refine r_iald (pc := 55) hR (dc dt_X11_days 30 rfl) tc_101 g1 q1 ?_
        refine r_goto (pc := 56) (tgt := 65) hR (dc dt_X11_days 31 rfl) (by decide) ?_
        exact r_iret hT (dc dt_X11_days 36 rfl) (congrArg Prod.fst (Option.some.inj h)) (congrArg Prod.snd (Option.some.inj h)) (rd_in _ _ _)
      replace h := ite_f hc h
      refine r_bipush (pc := 41) hR (dc dt_X11_days 23 rfl) (by decide) ?_
      refine r_goto (pc := 43) (tgt := 65) hR (dc dt_X11_days 24 rfl) (by decide) ?_
      exact r_iret hT (dc dt_X11_days 36 rfl) (congrArg Prod.fst (Option.some.inj h)) (congrArg Prod.snd (Option.some.inj h)) (rg_c rfl)
    replace h := ite_f hc h
    refine r_iload_n (pc := 33) hR (dc dt_X11_days 19 rfl) rfl ?_
    refine r_goto (pc := 34) (tgt := 65) hR (dc dt_X11_days 20 rfl) (by decide) ?_
    exact r_iret hT (dc dt_X11_days 36 rfl) (congrArg Prod.fst (Option.some.inj h)) (congrArg Prod.snd (Option.some.inj h)) q24r
  replace h := ite_f hc h
  refine r_iconst (pc := 17) hR (dc dt_X11_days 9 rfl) ?_
  exact r_iret hT (dc dt_X11_days 10 rfl) (congrArg Prod.fst (Option.some.inj h)) (congrArg Prod.snd (Option.some.inj h)) (rg_c rfl)
def tb_X11_placeOf : List (Nat × (Instr × Nat)) := [(0, (.iconst 0, 1)), (1, (.istore_n 2, 1)), (2, (.iload_n 2, 1)), (3, (.aload_n 0, 1)), (4, (.getfield 260, 3)), (7, (.if_icmp .ge 21, 3)), (10, (.aload_n 0, 1)), (11, (.getfield 69, 3)), (14, (.iload_n 2, 1)), (15, (.iaload, 1)), (16, (.iload_n 1, 1)), (17, (.if_icmp .ne 5, 3)), (20, (.iload_n 2, 1)), (21, (.ireturn, 1)), (22, (.iinc 2 1, 3)), (25, (.goto (-23), 3)), (28, (.iconst (-1), 1)), (29, (.ireturn, 1))]
set_option maxRecDepth 100000 in
theorem dt_X11_placeOf : (tb_X11_placeOf.all fun q => decide (decode cX11_placeOf q.1 = .ok q.2)) = true := by decide +kernel
set_option maxRecDepth 100000 in
set_option maxHeartbeats 4000000 in
theorem lp_L11_placeOf_2 {Go : Nat → List (Option Value) → List Value → Mem → Prop} (hR : RS l G cy ad tt RX11 cX11_placeOf 3 0 Go) {out : Int} {m : Mem} (hT : RT cX11_placeOf (some (iv out)) (inR out) m (some .int) Go) {v1 : Int} (qv1 : inR v1) : ∀ (n : Nat) (v2 : Int), inR v2 → L11_placeOf_2 m v1 n v2 = some out → Go 2 [some (.ref (ad 83)), some (iv v1), some (iv v2)] [] m := by
  intro n
  induction n with
  | zero =>
    intro v2 qv2 h
    cases h
  | succ n ih =>
    intro v2 qv2 h
    rw [L11_placeOf_2] at h
    refine r_iload_n (pc := 2) hR (dc dt_X11_placeOf 2 rfl) rfl ?_
    refine r_aload_n (pc := 3) hR (dc dt_X11_placeOf 3 rfl) rfl ?_
    refine r_geti (pc := 4) hR (dc dt_X11_placeOf 4 rfl) fl_X11_260 tc_83 rfl ?_
    refine r_icmp_ge (pc := 7) (tgt := 28) hR (dc dt_X11_placeOf 5 rfl) (by decide) qv2 (rd_in _ _ _) (fun hc => ?_) (fun hc => ?_)
    · replace h := ite_t hc h
      refine r_iconst (pc := 28) hR (dc dt_X11_placeOf 16 rfl) ?_
      exact r_iret hT (dc dt_X11_placeOf 17 rfl) (Option.some.inj h) rfl (rg_c rfl)
    replace h := ite_f hc h
    refine r_aload_n (pc := 10) hR (dc dt_X11_placeOf 6 rfl) rfl ?_
    refine r_getr (pc := 11) (k2 := 103) hR (dc dt_X11_placeOf 7 rfl) fl_X11_69 tc_83 rfl ?_
    refine r_iload_n (pc := 14) hR (dc dt_X11_placeOf 8 rfl) rfl ?_
    obtain ⟨g1, h⟩ := gd_some h
    refine r_iald (pc := 15) hR (dc dt_X11_placeOf 9 rfl) tc_103 g1 qv2 ?_
    refine r_iload_n (pc := 16) hR (dc dt_X11_placeOf 10 rfl) rfl ?_
    refine r_icmp_ne (pc := 17) (tgt := 22) hR (dc dt_X11_placeOf 11 rfl) (by decide) (rd_in _ _ _) qv1 (fun hc => ?_) (fun hc => ?_)
    · replace h := ite_t hc h
      refine r_iinc (pc := 22) (L' := [some (.ref (ad 83)), some (iv v1), some (iv (w32 (v2 + 1)))]) hR (dc dt_X11_placeOf 14 rfl) rfl (by decide) rfl rfl ?_
      refine r_goto (pc := 25) (tgt := 2) hR (dc dt_X11_placeOf 15 rfl) (by decide) ?_
      exact ih (w32 (v2 + 1)) (w32_in _) h
    replace h := ite_f hc h
    refine r_iload_n (pc := 20) hR (dc dt_X11_placeOf 12 rfl) rfl ?_
    exact r_iret hT (dc dt_X11_placeOf 13 rfl) (Option.some.inj h) rfl qv2
set_option maxRecDepth 100000 in
set_option maxHeartbeats 4000000 in
theorem ok_F11_placeOf {m : Mem}  {v1 : Int} (q1 : inR v1) {out : Int} (h : F11_placeOf m v1 = some out) : CT l G cy ad tt yX11_placeOf cX11_placeOf 3 (some .int) 0 [.ref (ad 83), iv v1] m (some (iv out)) (inR out) m := by
  refine CT_of (by decide) (Nat.le_of_ble_eq_true rfl) (fun Go hR hT => ?_)
  replace hR : RS l G cy ad tt RX11 cX11_placeOf 3 0 Go := hR
  show Go 0 [some (.ref (ad 83)), some (iv v1), none] [] m
  unfold F11_placeOf at h
  refine r_iconst (pc := 0) hR (dc dt_X11_placeOf 0 rfl) ?_
  refine r_istore_n (pc := 1) (L' := [some (.ref (ad 83)), some (iv v1), some (iv 0)]) hR (dc dt_X11_placeOf 1 rfl) (by decide) rfl rfl ?_
  refine lp_L11_placeOf_2 hR hT q1 FU 0 (rg_c rfl) h
def tb_X11_list : List (Nat × (Instr × Nat)) := [(0, (.aload_n 0, 1)), (1, (.iload_n 1, 1)), (2, (.invokevirtual 182, 3)), (5, (.ifCond .eq 11, 3)), (8, (.aload_n 0, 1)), (9, (.iload_n 1, 1)), (10, (.invokevirtual 257, 3)), (13, (.ifCond .lt 5, 3)), (16, (.iconst (-1), 1)), (17, (.ireturn, 1)), (18, (.aload_n 0, 1)), (19, (.getfield 260, 3)), (22, (.bipush 6, 2)), (24, (.if_icmp .ne 6, 3)), (27, (.bipush (-3), 2)), (29, (.ireturn, 1)), (30, (.aload_n 0, 1)), (31, (.getfield 69, 3)), (34, (.aload_n 0, 1)), (35, (.getfield 260, 3)), (38, (.iload_n 1, 1)), (39, (.iastore, 1)), (40, (.aload_n 0, 1)), (41, (.dup, 1)), (42, (.getfield 260, 3)), (45, (.iconst 1, 1)), (46, (.iadd, 1)), (47, (.putfield 260, 3)), (50, (.aload_n 0, 1)), (51, (.iconst 0, 1)), (52, (.putfield 198, 3)), (55, (.aload_n 0, 1)), (56, (.getfield 260, 3)), (59, (.ireturn, 1))]
set_option maxRecDepth 100000 in
theorem dt_X11_list : (tb_X11_list.all fun q => decide (decode cX11_list q.1 = .ok q.2)) = true := by decide +kernel
set_option maxRecDepth 100000 in
set_option maxHeartbeats 4000000 in
theorem ok_F11_list {m : Mem}  {v1 : Int} (q1 : inR v1) {out : Int × Mem} (h : F11_list m v1 = some out) : CT l G cy ad tt yX11_list cX11_list 2 (some .int) 2 [.ref (ad 83), iv v1] m (some (iv out.1)) (inR out.1) out.2 := by
  refine CT_of (by decide) (Nat.le_of_ble_eq_true rfl) (fun Go hR hT => ?_)
  replace hR : RS l G cy ad tt RX11 cX11_list 2 2 Go := hR
  show Go 0 [some (.ref (ad 83)), some (iv v1)] [] m
  unfold F11_list at h
  refine r_aload_n (pc := 0) hR (dc dt_X11_list 0 rfl) rfl ?_
  refine r_iload_n (pc := 1) hR (dc dt_X11_list 1 rfl) rfl ?_
  refine r_callV (pc := 2) (rest := []) hR (dc dt_X11_list 2 rfl) cl_X11_182 tc_83 rfl (ok_F11_isCharter q1) (by decide) rfl (Nat.le_of_ble_eq_true rfl) rfl (fun q2r => ?_)
  show Go 5 [some (.ref (ad 83)), some (iv v1)] [iv (F11_isCharter m v1)] m
  refine r_if_eq (pc := 5) (tgt := 16) hR (dc dt_X11_list 3 rfl) (by decide) (inZ_R q2r) (fun hc => ?_) (fun hc => ?_)
  · replace h := ite_t hc h
    refine r_iconst (pc := 16) hR (dc dt_X11_list 8 rfl) ?_
    exact r_iret hT (dc dt_X11_list 9 rfl) (congrArg Prod.fst (Option.some.inj h)) (congrArg Prod.snd (Option.some.inj h)) (rg_c rfl)
  replace h := ite_f hc h
  refine r_aload_n (pc := 8) hR (dc dt_X11_list 4 rfl) rfl ?_
  refine r_iload_n (pc := 9) hR (dc dt_X11_list 5 rfl) rfl ?_
  obtain ⟨r10, e10, h⟩ := b1_some h
  refine r_callV (pc := 10) (rest := []) hR (dc dt_X11_list 6 rfl) cl_X11_257 tc_83 rfl (ok_F11_placeOf q1 e10) (by decide) rfl (Nat.le_of_ble_eq_true rfl) rfl (fun q10r => ?_)
  show Go 13 [some (.ref (ad 83)), some (iv v1)] [iv r10] m
  refine r_if_lt (pc := 13) (tgt := 18) hR (dc dt_X11_list 7 rfl) (by decide) q10r (fun hc => ?_) (fun hc => ?_)
  · replace h := ite_t hc h
    refine r_aload_n (pc := 18) hR (dc dt_X11_list 10 rfl) rfl ?_
    refine r_geti (pc := 19) hR (dc dt_X11_list 11 rfl) fl_X11_260 tc_83 rfl ?_
    refine r_bipush (pc := 22) hR (dc dt_X11_list 12 rfl) (by decide) ?_
    refine r_icmp_ne (pc := 24) (tgt := 30) hR (dc dt_X11_list 13 rfl) (by decide) (rd_in _ _ _) (rg_c rfl) (fun hc => ?_) (fun hc => ?_)
    · replace h := ite_t hc h
      refine r_aload_n (pc := 30) hR (dc dt_X11_list 16 rfl) rfl ?_
      refine r_getr (pc := 31) (k2 := 103) hR (dc dt_X11_list 17 rfl) fl_X11_69 tc_83 rfl ?_
      refine r_aload_n (pc := 34) hR (dc dt_X11_list 18 rfl) rfl ?_
      refine r_geti (pc := 35) hR (dc dt_X11_list 19 rfl) fl_X11_260 tc_83 rfl ?_
      refine r_iload_n (pc := 38) hR (dc dt_X11_list 20 rfl) rfl ?_
      obtain ⟨g1, h⟩ := gd_some h
      refine r_iast (pc := 39) hR (dc dt_X11_list 21 rfl) tc_103 g1 (rd_in _ _ _) ?_
      replace h := stw_e h
      generalize wr m 103 (rd m 83 28) v1 = m39 at h ⊢
      refine r_aload_n (pc := 40) hR (dc dt_X11_list 22 rfl) rfl ?_
      refine r_dup (pc := 41) hR (dc dt_X11_list 23 rfl) rfl ?_
      refine r_geti (pc := 42) hR (dc dt_X11_list 24 rfl) fl_X11_260 tc_83 rfl ?_
      refine r_iconst (pc := 45) hR (dc dt_X11_list 25 rfl) ?_
      refine r_iadd (pc := 46) hR (dc dt_X11_list 26 rfl) ?_
      refine r_puti (pc := 47) hR (dc dt_X11_list 27 rfl) fl_X11_260 tc_83 rfl rfl rfl ?_
      replace h := stw_e h
      generalize wr m39 83 28 (w32 ((rd m39 83 28) + 1)) = m47 at h ⊢
      refine r_aload_n (pc := 50) hR (dc dt_X11_list 28 rfl) rfl ?_
      refine r_iconst (pc := 51) hR (dc dt_X11_list 29 rfl) ?_
      refine r_puti (pc := 52) hR (dc dt_X11_list 30 rfl) fl_X11_198 tc_83 rfl (narZ (Or.inl rfl)) rfl ?_
      replace h := stw_e h
      generalize wr m47 83 31 0 = m52 at h ⊢
      refine r_aload_n (pc := 55) hR (dc dt_X11_list 31 rfl) rfl ?_
      refine r_geti (pc := 56) hR (dc dt_X11_list 32 rfl) fl_X11_260 tc_83 rfl ?_
      exact r_iret hT (dc dt_X11_list 33 rfl) (congrArg Prod.fst (Option.some.inj h)) (congrArg Prod.snd (Option.some.inj h)) (rd_in _ _ _)
    replace h := ite_f hc h
    refine r_bipush (pc := 27) hR (dc dt_X11_list 14 rfl) (by decide) ?_
    exact r_iret hT (dc dt_X11_list 15 rfl) (congrArg Prod.fst (Option.some.inj h)) (congrArg Prod.snd (Option.some.inj h)) (rg_c rfl)
  replace h := ite_f hc h
  refine r_iconst (pc := 16) hR (dc dt_X11_list 8 rfl) ?_
  exact r_iret hT (dc dt_X11_list 9 rfl) (congrArg Prod.fst (Option.some.inj h)) (congrArg Prod.snd (Option.some.inj h)) (rg_c rfl)
def tb_X11_unlist : List (Nat × (Instr × Nat)) := [(0, (.aload_n 0, 1)), (1, (.getfield 260, 3)), (4, (.istore_n 1, 1)), (5, (.aload_n 0, 1)), (6, (.iconst 0, 1)), (7, (.putfield 260, 3)), (10, (.aload_n 0, 1)), (11, (.iconst 0, 1)), (12, (.putfield 198, 3)), (15, (.iload_n 1, 1)), (16, (.ireturn, 1))]
set_option maxRecDepth 100000 in
theorem dt_X11_unlist : (tb_X11_unlist.all fun q => decide (decode cX11_unlist q.1 = .ok q.2)) = true := by decide +kernel
set_option maxRecDepth 100000 in
set_option maxHeartbeats 4000000 in
theorem ok_F11_unlist {m : Mem}   {out : Int × Mem} (h : F11_unlist m = some out) : CT l G cy ad tt yX11_unlist cX11_unlist 2 (some .int) 0 [.ref (ad 83)] m (some (iv out.1)) (inR out.1) out.2 := by
  refine CT_of (by decide) (Nat.le_of_ble_eq_true rfl) (fun Go hR hT => ?_)
  replace hR : RS l G cy ad tt RX11 cX11_unlist 2 0 Go := hR
  show Go 0 [some (.ref (ad 83)), none] [] m
  unfold F11_unlist at h
  refine r_aload_n (pc := 0) hR (dc dt_X11_unlist 0 rfl) rfl ?_
  refine r_geti (pc := 1) hR (dc dt_X11_unlist 1 rfl) fl_X11_260 tc_83 rfl ?_
  refine r_istore_n (pc := 4) (L' := [some (.ref (ad 83)), some (iv (rd m 83 28))]) hR (dc dt_X11_unlist 2 rfl) (by decide) rfl rfl ?_
  refine r_aload_n (pc := 5) hR (dc dt_X11_unlist 3 rfl) rfl ?_
  refine r_iconst (pc := 6) hR (dc dt_X11_unlist 4 rfl) ?_
  refine r_puti (pc := 7) hR (dc dt_X11_unlist 5 rfl) fl_X11_260 tc_83 rfl rfl rfl ?_
  replace h := stw_e h
  generalize wr m 83 28 0 = m7 at h ⊢
  refine r_aload_n (pc := 10) hR (dc dt_X11_unlist 6 rfl) rfl ?_
  refine r_iconst (pc := 11) hR (dc dt_X11_unlist 7 rfl) ?_
  refine r_puti (pc := 12) hR (dc dt_X11_unlist 8 rfl) fl_X11_198 tc_83 rfl (narZ (Or.inl rfl)) rfl ?_
  replace h := stw_e h
  generalize wr m7 83 31 0 = m12 at h ⊢
  refine r_iload_n (pc := 15) hR (dc dt_X11_unlist 9 rfl) rfl ?_
  exact r_iret hT (dc dt_X11_unlist 10 rfl) (congrArg Prod.fst (Option.some.inj h)) (congrArg Prod.snd (Option.some.inj h)) (rd_in _ _ _)
def tb_X11_isOneTree : List (Nat × (Instr × Nat)) := [(0, (.iconst 0, 1)), (1, (.istore_n 1, 1)), (2, (.iload_n 1, 1)), (3, (.aload_n 0, 1)), (4, (.getfield 260, 3)), (7, (.if_icmp .ge 48, 3)), (10, (.iload_n 1, 1)), (11, (.istore_n 2, 1)), (12, (.iconst 0, 1)), (13, (.istore_n 3, 1)), (14, (.iload_n 3, 1)), (15, (.aload_n 0, 1)), (16, (.getfield 260, 3)), (19, (.if_icmp .ge 22, 3)), (22, (.iload_n 2, 1)), (23, (.bipush 9, 2)), (25, (.if_icmp .eq 16, 3)), (28, (.aload_n 0, 1)), (29, (.getfield 72, 3)), (32, (.iload_n 2, 1)), (33, (.iaload, 1)), (34, (.istore_n 2, 1)), (35, (.iinc 3 1, 3)), (38, (.goto (-24), 3)), (41, (.iload_n 2, 1)), (42, (.bipush 9, 2)), (44, (.if_icmp .eq 5, 3)), (47, (.iconst 0, 1)), (48, (.ireturn, 1)), (49, (.iinc 1 1, 3)), (52, (.goto (-50), 3)), (55, (.iconst 1, 1)), (56, (.ireturn, 1))]
set_option maxRecDepth 100000 in
theorem dt_X11_isOneTree : (tb_X11_isOneTree.all fun q => decide (decode cX11_isOneTree q.1 = .ok q.2)) = true := by decide +kernel
set_option maxRecDepth 100000 in
set_option maxHeartbeats 4000000 in
theorem lp_L11_isOneTree_14 {Go : Nat → List (Option Value) → List Value → Mem → Prop} (hR : RS l G cy ad tt RX11 cX11_isOneTree 4 0 Go) {out : Int} {m : Mem} (hT : RT cX11_isOneTree (some (iv out)) (inZ out) m (some .boolean) Go) {v1 : Int} (qv1 : inR v1) {k41 : Int → Option Int} (hk41 : ∀ (v2 : Int), inR v2 → k41 v2 = some out → Go 41 [some (.ref (ad 83)), some (iv v1), some (iv v2), none] [] m) : ∀ (n : Nat) (v2 : Int) (v3 : Int), inR v2 → inR v3 → L11_isOneTree_14 m k41 n v2 v3 = some out → Go 14 [some (.ref (ad 83)), some (iv v1), some (iv v2), some (iv v3)] [] m := by
  intro n
  induction n with
  | zero =>
    intro v2 v3 qv2 qv3 h
    cases h
  | succ n ih =>
    intro v2 v3 qv2 qv3 h
    rw [L11_isOneTree_14] at h
    refine r_iload_n (pc := 14) hR (dc dt_X11_isOneTree 10 rfl) rfl ?_
    refine r_aload_n (pc := 15) hR (dc dt_X11_isOneTree 11 rfl) rfl ?_
    refine r_geti (pc := 16) hR (dc dt_X11_isOneTree 12 rfl) fl_X11_260 tc_83 rfl ?_
    refine r_icmp_ge (pc := 19) (tgt := 41) hR (dc dt_X11_isOneTree 13 rfl) (by decide) qv3 (rd_in _ _ _) (fun hc => ?_) (fun hc => ?_)
    · replace h := ite_t hc h
      refine r_weak (L' := [some (.ref (ad 83)), some (iv v1), some (iv v2), none]) hR ⟨Or.inr rfl, Or.inr rfl, Or.inr rfl, Or.inl rfl, trivial⟩ ?_
      exact hk41 v2 qv2 h
    replace h := ite_f hc h
    refine r_iload_n (pc := 22) hR (dc dt_X11_isOneTree 14 rfl) rfl ?_
    refine r_bipush (pc := 23) hR (dc dt_X11_isOneTree 15 rfl) (by decide) ?_
    refine r_icmp_eq (pc := 25) (tgt := 41) hR (dc dt_X11_isOneTree 16 rfl) (by decide) qv2 (rg_c rfl) (fun hc => ?_) (fun hc => ?_)
    · replace h := ite_t hc h
      refine r_weak (L' := [some (.ref (ad 83)), some (iv v1), some (iv v2), none]) hR ⟨Or.inr rfl, Or.inr rfl, Or.inr rfl, Or.inl rfl, trivial⟩ ?_
      exact hk41 v2 qv2 h
    replace h := ite_f hc h
    refine r_aload_n (pc := 28) hR (dc dt_X11_isOneTree 17 rfl) rfl ?_
    refine r_getr (pc := 29) (k2 := 104) hR (dc dt_X11_isOneTree 18 rfl) fl_X11_72 tc_83 rfl ?_
    refine r_iload_n (pc := 32) hR (dc dt_X11_isOneTree 19 rfl) rfl ?_
    obtain ⟨g1, h⟩ := gd_some h
    refine r_iald (pc := 33) hR (dc dt_X11_isOneTree 20 rfl) tc_104 g1 qv2 ?_
    refine r_istore_n (pc := 34) (L' := [some (.ref (ad 83)), some (iv v1), some (iv (rd m 104 v2)), some (iv v3)]) hR (dc dt_X11_isOneTree 21 rfl) (by decide) rfl rfl ?_
    refine r_iinc (pc := 35) (L' := [some (.ref (ad 83)), some (iv v1), some (iv (rd m 104 v2)), some (iv (w32 (v3 + 1)))]) hR (dc dt_X11_isOneTree 22 rfl) rfl (by decide) rfl rfl ?_
    refine r_goto (pc := 38) (tgt := 14) hR (dc dt_X11_isOneTree 23 rfl) (by decide) ?_
    exact ih (rd m 104 v2) (w32 (v3 + 1)) (rd_in _ _ _) (w32_in _) h
set_option maxRecDepth 100000 in
set_option maxHeartbeats 4000000 in
theorem lp_L11_isOneTree_2 {Go : Nat → List (Option Value) → List Value → Mem → Prop} (hR : RS l G cy ad tt RX11 cX11_isOneTree 4 0 Go) {out : Int} {m : Mem} (hT : RT cX11_isOneTree (some (iv out)) (inZ out) m (some .boolean) Go) : ∀ (n : Nat) (v1 : Int), inR v1 → L11_isOneTree_2 m n v1 = some out → Go 2 [some (.ref (ad 83)), some (iv v1), none, none] [] m := by
  intro n
  induction n with
  | zero =>
    intro v1 qv1 h
    cases h
  | succ n ih =>
    intro v1 qv1 h
    rw [L11_isOneTree_2] at h
    refine r_iload_n (pc := 2) hR (dc dt_X11_isOneTree 2 rfl) rfl ?_
    refine r_aload_n (pc := 3) hR (dc dt_X11_isOneTree 3 rfl) rfl ?_
    refine r_geti (pc := 4) hR (dc dt_X11_isOneTree 4 rfl) fl_X11_260 tc_83 rfl ?_
    refine r_icmp_ge (pc := 7) (tgt := 55) hR (dc dt_X11_isOneTree 5 rfl) (by decide) qv1 (rd_in _ _ _) (fun hc => ?_) (fun hc => ?_)
    · replace h := ite_t hc h
      refine r_iconst (pc := 55) hR (dc dt_X11_isOneTree 31 rfl) ?_
      exact r_zret hT (dc dt_X11_isOneTree 32 rfl) (Option.some.inj h) rfl (Or.inr rfl)
    replace h := ite_f hc h
    refine r_iload_n (pc := 10) hR (dc dt_X11_isOneTree 6 rfl) rfl ?_
    refine r_istore_n (pc := 11) (L' := [some (.ref (ad 83)), some (iv v1), some (iv v1), none]) hR (dc dt_X11_isOneTree 7 rfl) (by decide) rfl rfl ?_
    refine r_iconst (pc := 12) hR (dc dt_X11_isOneTree 8 rfl) ?_
    refine r_istore_n (pc := 13) (L' := [some (.ref (ad 83)), some (iv v1), some (iv v1), some (iv 0)]) hR (dc dt_X11_isOneTree 9 rfl) (by decide) rfl rfl ?_
    refine lp_L11_isOneTree_14 hR hT qv1 (fun v2_41 qv2_41 h => ?_) FU v1 0 qv1 (rg_c rfl) h
    show Go 41 [some (.ref (ad 83)), some (iv v1), some (iv v2_41), none] [] m
    refine r_iload_n (pc := 41) hR (dc dt_X11_isOneTree 24 rfl) rfl ?_
    refine r_bipush (pc := 42) hR (dc dt_X11_isOneTree 25 rfl) (by decide) ?_
    refine r_icmp_eq (pc := 44) (tgt := 49) hR (dc dt_X11_isOneTree 26 rfl) (by decide) qv2_41 (rg_c rfl) (fun hc => ?_) (fun hc => ?_)
    · replace h := ite_t hc h
      refine r_iinc (pc := 49) (L' := [some (.ref (ad 83)), some (iv (w32 (v1 + 1))), some (iv v2_41), none]) hR (dc dt_X11_isOneTree 29 rfl) rfl (by decide) rfl rfl ?_
      refine r_goto (pc := 52) (tgt := 2) hR (dc dt_X11_isOneTree 30 rfl) (by decide) ?_
      refine r_weak (L' := [some (.ref (ad 83)), some (iv (w32 (v1 + 1))), none, none]) hR ⟨Or.inr rfl, Or.inr rfl, Or.inl rfl, Or.inr rfl, trivial⟩ ?_
      exact ih (w32 (v1 + 1)) (w32_in _) h
    replace h := ite_f hc h
    refine r_iconst (pc := 47) hR (dc dt_X11_isOneTree 27 rfl) ?_
    exact r_zret hT (dc dt_X11_isOneTree 28 rfl) (Option.some.inj h) rfl (Or.inl rfl)
set_option maxRecDepth 100000 in
set_option maxHeartbeats 4000000 in
theorem ok_F11_isOneTree {m : Mem}   {out : Int} (h : F11_isOneTree m = some out) : CT l G cy ad tt yX11_isOneTree cX11_isOneTree 4 (some .boolean) 0 [.ref (ad 83)] m (some (iv out)) (inZ out) m := by
  refine CT_of (by decide) (Nat.le_of_ble_eq_true rfl) (fun Go hR hT => ?_)
  replace hR : RS l G cy ad tt RX11 cX11_isOneTree 4 0 Go := hR
  show Go 0 [some (.ref (ad 83)), none, none, none] [] m
  unfold F11_isOneTree at h
  refine r_iconst (pc := 0) hR (dc dt_X11_isOneTree 0 rfl) ?_
  refine r_istore_n (pc := 1) (L' := [some (.ref (ad 83)), some (iv 0), none, none]) hR (dc dt_X11_isOneTree 1 rfl) (by decide) rfl rfl ?_
  refine lp_L11_isOneTree_2 hR hT FU 0 (rg_c rfl) h
def tb_X11_weigh : List (Nat × (Instr × Nat)) := [(0, (.aload_n 0, 1)), (1, (.invokevirtual 263, 3)), (4, (.ifCond .ne 4, 3)), (7, (.return_, 1)), (8, (.iconst 0, 1)), (9, (.istore_n 1, 1)), (10, (.iload_n 1, 1)), (11, (.bipush 12, 2)), (13, (.if_icmp .ge 16, 3)), (16, (.aload_n 0, 1)), (17, (.getfield 51, 3)), (20, (.iload_n 1, 1)), (21, (.iconst 0, 1)), (22, (.bastore, 1)), (23, (.iinc 1 1, 3)), (26, (.goto (-16), 3)), (29, (.iconst 0, 1)), (30, (.istore_n 1, 1)), (31, (.iload_n 1, 1)), (32, (.aload_n 0, 1)), (33, (.getfield 260, 3)), (36, (.if_icmp .ge 58, 3)), (39, (.aload_n 0, 1)), (40, (.getfield 51, 3)), (43, (.aload_n 0, 1)), (44, (.getfield 69, 3)), (47, (.iload_n 1, 1)), (48, (.iaload, 1)), (49, (.iconst 1, 1)), (50, (.bastore, 1)), (51, (.aload_n 0, 1)), (52, (.getfield 48, 3)), (55, (.aload_n 0, 1)), (56, (.getfield 69, 3)), (59, (.iload_n 1, 1)), (60, (.iaload, 1)), (61, (.aload_n 0, 1)), (62, (.getfield 72, 3)), (65, (.iload_n 1, 1)), (66, (.iaload, 1)), (67, (.bipush 9, 2)), (69, (.if_icmp .ne 7, 3)), (72, (.iconst (-1), 1)), (73, (.goto 14, 3)), (76, (.aload_n 0, 1)), (77, (.getfield 69, 3)), (80, (.aload_n 0, 1)), (81, (.getfield 72, 3)), (84, (.iload_n 1, 1)), (85, (.iaload, 1)), (86, (.iaload, 1)), (87, (.iastore, 1)), (88, (.iinc 1 1, 3)), (91, (.goto (-60), 3)), (94, (.aload_n 0, 1)), (95, (.invokevirtual 236, 3)), (98, (.aload_n 0, 1)), (99, (.invokevirtual 254, 3)), (102, (.ifCond .lt 4, 3)), (105, (.return_, 1)), (106, (.iconst 0, 1)), (107, (.istore_n 1, 1)), (108, (.iconst 0, 1)), (109, (.istore_n 2, 1)), (110, (.iload_n 2, 1)), (111, (.bipush 16, 2)), (113, (.if_icmp .ge 32, 3)), (116, (.aload_n 0, 1)), (117, (.getfield 267, 3)), (120, (.ifCond .eq 11, 3)), (123, (.iload_n 1, 1)), (124, (.aload_n 0, 1)), (125, (.getfield 270, 3)), (128, (.if_icmp .gt 17, 3)), (131, (.iload_n 1, 1)), (132, (.aload_n 0, 1)), (133, (.iload_n 2, 1)), (134, (.invokevirtual 242, 3)), (137, (.iadd, 1)), (138, (.istore_n 1, 1)), (139, (.iinc 2 1, 3)), (142, (.goto (-32), 3)), (145, (.aload_n 0, 1)), (146, (.getfield 267, 3)), (149, (.ifCond .le 12, 3)), (152, (.iload_n 1, 1)), (153, (.aload_n 0, 1)), (154, (.getfield 270, 3)), (157, (.if_icmp .le 4, 3)), (160, (.return_, 1)), (161, (.aload_n 0, 1)), (162, (.getfield 267, 3)), (165, (.ifCond .eq 11, 3)), (168, (.iload_n 1, 1)), (169, (.aload_n 0, 1)), (170, (.getfield 270, 3)), (173, (.if_icmp .ge 34, 3)), (176, (.aload_n 0, 1)), (177, (.iload_n 1, 1)), (178, (.putfield 270, 3)), (181, (.aload_n 0, 1)), (182, (.iconst 0, 1)), (183, (.putfield 267, 3)), (186, (.iconst 0, 1)), (187, (.istore_n 2, 1)), (188, (.iload_n 2, 1)), (189, (.bipush 60, 2)), (191, (.if_icmp .ge 16, 3)), (194, (.aload_n 0, 1)), (195, (.getfield 78, 3)), (198, (.iload_n 2, 1)), (199, (.iconst 0, 1)), (200, (.iastore, 1)), (201, (.iinc 2 1, 3)), (204, (.goto (-16), 3)), (207, (.iconst 0, 1)), (208, (.istore_n 2, 1)), (209, (.iconst 0, 1)), (210, (.istore_n 3, 1)), (211, (.iload_n 3, 1)), (212, (.aload_n 0, 1)), (213, (.getfield 260, 3)), (216, (.if_icmp .ge 41, 3)), (219, (.bipush 10, 2)), (221, (.iload_n 2, 1)), (222, (.imul, 1)), (223, (.aload_n 0, 1)), (224, (.getfield 72, 3)), (227, (.iload_n 3, 1)), (228, (.iaload, 1)), (229, (.iadd, 1)), (230, (.istore_n 2, 1)), (231, (.aload_n 0, 1)), (232, (.getfield 78, 3)), (235, (.bipush 10, 2)), (237, (.iload_n 3, 1)), (238, (.imul, 1)), (239, (.aload_n 0, 1)), (240, (.getfield 72, 3)), (243, (.iload_n 3, 1)), (244, (.iaload, 1)), (245, (.iadd, 1)), (246, (.dup2, 1)), (247, (.iaload, 1)), (248, (.iconst 1, 1)), (249, (.iadd, 1)), (250, (.iastore, 1)), (251, (.iinc 3 1, 3)), (254, (.goto (-43), 3)), (257, (.aload_n 0, 1)), (258, (.getfield 75, 3)), (261, (.aload_n 0, 1)), (262, (.getfield 267, 3)), (265, (.iload_n 2, 1)), (266, (.iastore, 1)), (267, (.aload_n 0, 1)), (268, (.dup, 1)), (269, (.getfield 267, 3)), (272, (.iconst 1, 1)), (273, (.iadd, 1)), (274, (.putfield 267, 3)), (277, (.return_, 1))]
set_option maxRecDepth 100000 in
theorem dt_X11_weigh : (tb_X11_weigh.all fun q => decide (decode cX11_weigh q.1 = .ok q.2)) = true := by decide +kernel
set_option maxRecDepth 100000 in
set_option maxHeartbeats 4000000 in
theorem lp_L11_weigh_10 {Go : Nat → List (Option Value) → List Value → Mem → Prop} (hR : RS l G cy ad tt RX11 cX11_weigh 4 3 Go) {out : Mem} (hT : RT cX11_weigh none True out none Go) {k29 : Mem → Option Mem} (hk29 : ∀ (m : Mem), k29 m = some out → Go 29 [some (.ref (ad 83)), none, none, none] [] m) : ∀ (n : Nat) (v1 : Int) (m : Mem), inR v1 → L11_weigh_10 k29 n v1 m = some out → Go 10 [some (.ref (ad 83)), some (iv v1), none, none] [] m := by
  intro n
  induction n with
  | zero =>
    intro v1 m qv1 h
    cases h
  | succ n ih =>
    intro v1 m qv1 h
    rw [L11_weigh_10] at h
    refine r_iload_n (pc := 10) hR (dc dt_X11_weigh 6 rfl) rfl ?_
    refine r_bipush (pc := 11) hR (dc dt_X11_weigh 7 rfl) (by decide) ?_
    refine r_icmp_ge (pc := 13) (tgt := 29) hR (dc dt_X11_weigh 8 rfl) (by decide) qv1 (rg_c rfl) (fun hc => ?_) (fun hc => ?_)
    · replace h := ite_t hc h
      refine r_weak (L' := [some (.ref (ad 83)), none, none, none]) hR ⟨Or.inr rfl, Or.inl rfl, Or.inr rfl, Or.inr rfl, trivial⟩ ?_
      exact hk29 m h
    replace h := ite_f hc h
    refine r_aload_n (pc := 16) hR (dc dt_X11_weigh 9 rfl) rfl ?_
    refine r_getr (pc := 17) (k2 := 97) hR (dc dt_X11_weigh 10 rfl) fl_X11_51 tc_83 rfl ?_
    refine r_iload_n (pc := 20) hR (dc dt_X11_weigh 11 rfl) rfl ?_
    refine r_iconst (pc := 21) hR (dc dt_X11_weigh 12 rfl) ?_
    obtain ⟨g1, h⟩ := gd_some h
    refine r_zast (pc := 22) hR (dc dt_X11_weigh 13 rfl) tc_97 g1 qv1 (Or.inl rfl) ?_
    replace h := stw_e h
    generalize wr m 97 v1 0 = m22 at h ⊢
    refine r_iinc (pc := 23) (L' := [some (.ref (ad 83)), some (iv (w32 (v1 + 1))), none, none]) hR (dc dt_X11_weigh 14 rfl) rfl (by decide) rfl rfl ?_
    refine r_goto (pc := 26) (tgt := 10) hR (dc dt_X11_weigh 15 rfl) (by decide) ?_
    exact ih (w32 (v1 + 1)) m22 (w32_in _) h
set_option maxRecDepth 100000 in
set_option maxHeartbeats 4000000 in
theorem lp_L11_weigh_31 {Go : Nat → List (Option Value) → List Value → Mem → Prop} (hR : RS l G cy ad tt RX11 cX11_weigh 4 3 Go) {out : Mem} (hT : RT cX11_weigh none True out none Go) {k94 : Mem → Option Mem} (hk94 : ∀ (m : Mem), k94 m = some out → Go 94 [some (.ref (ad 83)), none, none, none] [] m) : ∀ (n : Nat) (v1 : Int) (m : Mem), inR v1 → L11_weigh_31 k94 n v1 m = some out → Go 31 [some (.ref (ad 83)), some (iv v1), none, none] [] m := by
  intro n
  induction n with
  | zero =>
    intro v1 m qv1 h
    cases h
  | succ n ih =>
    intro v1 m qv1 h
    rw [L11_weigh_31] at h
    refine r_iload_n (pc := 31) hR (dc dt_X11_weigh 18 rfl) rfl ?_
    refine r_aload_n (pc := 32) hR (dc dt_X11_weigh 19 rfl) rfl ?_
    refine r_geti (pc := 33) hR (dc dt_X11_weigh 20 rfl) fl_X11_260 tc_83 rfl ?_
    refine r_icmp_ge (pc := 36) (tgt := 94) hR (dc dt_X11_weigh 21 rfl) (by decide) qv1 (rd_in _ _ _) (fun hc => ?_) (fun hc => ?_)
    · replace h := ite_t hc h
      refine r_weak (L' := [some (.ref (ad 83)), none, none, none]) hR ⟨Or.inr rfl, Or.inl rfl, Or.inr rfl, Or.inr rfl, trivial⟩ ?_
      exact hk94 m h
    replace h := ite_f hc h
    refine r_aload_n (pc := 39) hR (dc dt_X11_weigh 22 rfl) rfl ?_
    refine r_getr (pc := 40) (k2 := 97) hR (dc dt_X11_weigh 23 rfl) fl_X11_51 tc_83 rfl ?_
    refine r_aload_n (pc := 43) hR (dc dt_X11_weigh 24 rfl) rfl ?_
    refine r_getr (pc := 44) (k2 := 103) hR (dc dt_X11_weigh 25 rfl) fl_X11_69 tc_83 rfl ?_
    refine r_iload_n (pc := 47) hR (dc dt_X11_weigh 26 rfl) rfl ?_
    obtain ⟨g1, h⟩ := gd_some h
    refine r_iald (pc := 48) hR (dc dt_X11_weigh 27 rfl) tc_103 g1 qv1 ?_
    refine r_iconst (pc := 49) hR (dc dt_X11_weigh 28 rfl) ?_
    obtain ⟨g1, h⟩ := gd_some h
    refine r_zast (pc := 50) hR (dc dt_X11_weigh 29 rfl) tc_97 g1 (rd_in _ _ _) (Or.inr rfl) ?_
    replace h := stw_e h
    generalize wr m 97 (rd m 103 v1) 1 = m50 at h ⊢
    refine r_aload_n (pc := 51) hR (dc dt_X11_weigh 30 rfl) rfl ?_
    refine r_getr (pc := 52) (k2 := 96) hR (dc dt_X11_weigh 31 rfl) fl_X11_48 tc_83 rfl ?_
    refine r_aload_n (pc := 55) hR (dc dt_X11_weigh 32 rfl) rfl ?_
    refine r_getr (pc := 56) (k2 := 103) hR (dc dt_X11_weigh 33 rfl) fl_X11_69 tc_83 rfl ?_
    refine r_iload_n (pc := 59) hR (dc dt_X11_weigh 34 rfl) rfl ?_
    obtain ⟨g1, h⟩ := gd_some h
    refine r_iald (pc := 60) hR (dc dt_X11_weigh 35 rfl) tc_103 g1 qv1 ?_
    refine r_aload_n (pc := 61) hR (dc dt_X11_weigh 36 rfl) rfl ?_
    refine r_getr (pc := 62) (k2 := 104) hR (dc dt_X11_weigh 37 rfl) fl_X11_72 tc_83 rfl ?_
    refine r_iload_n (pc := 65) hR (dc dt_X11_weigh 38 rfl) rfl ?_
    obtain ⟨g1, h⟩ := gd_some h
    refine r_iald (pc := 66) hR (dc dt_X11_weigh 39 rfl) tc_104 g1 qv1 ?_
    refine r_bipush (pc := 67) hR (dc dt_X11_weigh 40 rfl) (by decide) ?_
    refine jn_e h (fun (K : Int → Option Mem) => ∀ (x87 : Int), inR x87 → K x87 = some out → Go 87 [some (.ref (ad 83)), some (iv v1), none, none] [iv x87, iv (rd m50 103 v1), .ref (ad 96)] m50) (fun x87 qx87 h => ?_) (fun K87 J87 h => ?_)
    · obtain ⟨g1, h⟩ := gd_some h
      refine r_iast (pc := 87) hR (dc dt_X11_weigh 51 rfl) tc_96 g1 (rd_in _ _ _) ?_
      replace h := stw_e h
      generalize wr m50 96 (rd m50 103 v1) x87 = m87 at h ⊢
      refine r_iinc (pc := 88) (L' := [some (.ref (ad 83)), some (iv (w32 (v1 + 1))), none, none]) hR (dc dt_X11_weigh 52 rfl) rfl (by decide) rfl rfl ?_
      refine r_goto (pc := 91) (tgt := 31) hR (dc dt_X11_weigh 53 rfl) (by decide) ?_
      exact ih (w32 (v1 + 1)) m87 (w32_in _) h
    refine r_icmp_ne (pc := 69) (tgt := 76) hR (dc dt_X11_weigh 41 rfl) (by decide) (rd_in _ _ _) (rg_c rfl) (fun hc => ?_) (fun hc => ?_)
    · replace h := ite_t hc h
      refine r_aload_n (pc := 76) hR (dc dt_X11_weigh 44 rfl) rfl ?_
      refine r_getr (pc := 77) (k2 := 103) hR (dc dt_X11_weigh 45 rfl) fl_X11_69 tc_83 rfl ?_
      refine r_aload_n (pc := 80) hR (dc dt_X11_weigh 46 rfl) rfl ?_
      refine r_getr (pc := 81) (k2 := 104) hR (dc dt_X11_weigh 47 rfl) fl_X11_72 tc_83 rfl ?_
      refine r_iload_n (pc := 84) hR (dc dt_X11_weigh 48 rfl) rfl ?_
      obtain ⟨g1, h⟩ := gd_some h
      refine r_iald (pc := 85) hR (dc dt_X11_weigh 49 rfl) tc_104 g1 qv1 ?_
      obtain ⟨g1, h⟩ := gd_some h
      refine r_iald (pc := 86) hR (dc dt_X11_weigh 50 rfl) tc_103 g1 (rd_in _ _ _) ?_
      exact J87 (rd m50 103 (rd m50 104 v1)) (rd_in _ _ _) h
    replace h := ite_f hc h
    refine r_iconst (pc := 72) hR (dc dt_X11_weigh 42 rfl) ?_
    refine r_goto (pc := 73) (tgt := 87) hR (dc dt_X11_weigh 43 rfl) (by decide) ?_
    exact J87 (-1) (rg_c rfl) h
set_option maxRecDepth 100000 in
set_option maxHeartbeats 4000000 in
theorem lp_L11_weigh_110 {Go : Nat → List (Option Value) → List Value → Mem → Prop} (hR : RS l G cy ad tt RX11 cX11_weigh 4 3 Go) {out : Mem} (hT : RT cX11_weigh none True out none Go) {k145 : Int → Mem → Option Mem} (hk145 : ∀ (v1 : Int) (m : Mem), inR v1 → k145 v1 m = some out → Go 145 [some (.ref (ad 83)), some (iv v1), none, none] [] m) : ∀ (n : Nat) (v1 : Int) (v2 : Int) (m : Mem), inR v1 → inR v2 → L11_weigh_110 k145 n v1 v2 m = some out → Go 110 [some (.ref (ad 83)), some (iv v1), some (iv v2), none] [] m := by
  intro n
  induction n with
  | zero =>
    intro v1 v2 m qv1 qv2 h
    cases h
  | succ n ih =>
    intro v1 v2 m qv1 qv2 h
    rw [L11_weigh_110] at h
    refine r_iload_n (pc := 110) hR (dc dt_X11_weigh 64 rfl) rfl ?_
    refine r_bipush (pc := 111) hR (dc dt_X11_weigh 65 rfl) (by decide) ?_
    refine r_icmp_ge (pc := 113) (tgt := 145) hR (dc dt_X11_weigh 66 rfl) (by decide) qv2 (rg_c rfl) (fun hc => ?_) (fun hc => ?_)
    · replace h := ite_t hc h
      refine r_weak (L' := [some (.ref (ad 83)), some (iv v1), none, none]) hR ⟨Or.inr rfl, Or.inr rfl, Or.inl rfl, Or.inr rfl, trivial⟩ ?_
      exact hk145 v1 m qv1 h
    replace h := ite_f hc h
    refine r_aload_n (pc := 116) hR (dc dt_X11_weigh 67 rfl) rfl ?_
    refine r_geti (pc := 117) hR (dc dt_X11_weigh 68 rfl) fl_X11_267 tc_83 rfl ?_
    refine jn_e h (fun (K : Option Mem) => K = some out → Go 131 [some (.ref (ad 83)), some (iv v1), some (iv v2), none] [] m) (fun h => ?_) (fun K131 J131 h => ?_)
    · refine r_iload_n (pc := 131) hR (dc dt_X11_weigh 74 rfl) rfl ?_
      refine r_aload_n (pc := 132) hR (dc dt_X11_weigh 75 rfl) rfl ?_
      refine r_iload_n (pc := 133) hR (dc dt_X11_weigh 76 rfl) rfl ?_
      obtain ⟨r134, m134, e134, h⟩ := b2_some h
      refine r_callV (pc := 134) (rest := [iv v1]) hR (dc dt_X11_weigh 77 rfl) cl_X11_242 tc_83 rfl (ok_F11_costOf qv2 e134) (by decide) rfl (Nat.le_of_ble_eq_true rfl) rfl (fun q134r => ?_)
      show Go 137 [some (.ref (ad 83)), some (iv v1), some (iv v2), none] [iv r134, iv v1] m134
      refine r_iadd (pc := 137) hR (dc dt_X11_weigh 78 rfl) ?_
      refine r_istore_n (pc := 138) (L' := [some (.ref (ad 83)), some (iv (w32 (v1 + r134))), some (iv v2), none]) hR (dc dt_X11_weigh 79 rfl) (by decide) rfl rfl ?_
      refine r_iinc (pc := 139) (L' := [some (.ref (ad 83)), some (iv (w32 (v1 + r134))), some (iv (w32 (v2 + 1))), none]) hR (dc dt_X11_weigh 80 rfl) rfl (by decide) rfl rfl ?_
      refine r_goto (pc := 142) (tgt := 110) hR (dc dt_X11_weigh 81 rfl) (by decide) ?_
      exact ih (w32 (v1 + r134)) (w32 (v2 + 1)) m134 (w32_in _) (w32_in _) h
    refine r_if_eq (pc := 120) (tgt := 131) hR (dc dt_X11_weigh 69 rfl) (by decide) (rd_in _ _ _) (fun hc => ?_) (fun hc => ?_)
    · replace h := ite_t hc h
      exact J131 h
    replace h := ite_f hc h
    refine r_iload_n (pc := 123) hR (dc dt_X11_weigh 70 rfl) rfl ?_
    refine r_aload_n (pc := 124) hR (dc dt_X11_weigh 71 rfl) rfl ?_
    refine r_geti (pc := 125) hR (dc dt_X11_weigh 72 rfl) fl_X11_270 tc_83 rfl ?_
    refine r_icmp_gt (pc := 128) (tgt := 145) hR (dc dt_X11_weigh 73 rfl) (by decide) qv1 (rd_in _ _ _) (fun hc => ?_) (fun hc => ?_)
    · replace h := ite_t hc h
      refine r_weak (L' := [some (.ref (ad 83)), some (iv v1), none, none]) hR ⟨Or.inr rfl, Or.inr rfl, Or.inl rfl, Or.inr rfl, trivial⟩ ?_
      exact hk145 v1 m qv1 h
    replace h := ite_f hc h
    exact J131 h
set_option maxRecDepth 100000 in
set_option maxHeartbeats 4000000 in
theorem lp_L11_weigh_211 {Go : Nat → List (Option Value) → List Value → Mem → Prop} (hR : RS l G cy ad tt RX11 cX11_weigh 4 3 Go) {out : Mem} (hT : RT cX11_weigh none True out none Go) {k257 : Int → Mem → Option Mem} (hk257 : ∀ (v2 : Int) (m : Mem), inR v2 → k257 v2 m = some out → Go 257 [some (.ref (ad 83)), none, some (iv v2), none] [] m) : ∀ (n : Nat) (v2 : Int) (v3 : Int) (m : Mem), inR v2 → inR v3 → L11_weigh_211 k257 n v2 v3 m = some out → Go 211 [some (.ref (ad 83)), none, some (iv v2), some (iv v3)] [] m := by
  intro n
  induction n with
  | zero =>
    intro v2 v3 m qv2 qv3 h
    cases h
  | succ n ih =>
    intro v2 v3 m qv2 qv3 h
    rw [L11_weigh_211] at h
    refine r_iload_n (pc := 211) hR (dc dt_X11_weigh 119 rfl) rfl ?_
    refine r_aload_n (pc := 212) hR (dc dt_X11_weigh 120 rfl) rfl ?_
    refine r_geti (pc := 213) hR (dc dt_X11_weigh 121 rfl) fl_X11_260 tc_83 rfl ?_
    refine r_icmp_ge (pc := 216) (tgt := 257) hR (dc dt_X11_weigh 122 rfl) (by decide) qv3 (rd_in _ _ _) (fun hc => ?_) (fun hc => ?_)
    · replace h := ite_t hc h
      refine r_weak (L' := [some (.ref (ad 83)), none, some (iv v2), none]) hR ⟨Or.inr rfl, Or.inr rfl, Or.inr rfl, Or.inl rfl, trivial⟩ ?_
      exact hk257 v2 m qv2 h
    replace h := ite_f hc h
    refine r_bipush (pc := 219) hR (dc dt_X11_weigh 123 rfl) (by decide) ?_
    refine r_iload_n (pc := 221) hR (dc dt_X11_weigh 124 rfl) rfl ?_
    refine r_imul (pc := 222) hR (dc dt_X11_weigh 125 rfl) ?_
    refine r_aload_n (pc := 223) hR (dc dt_X11_weigh 126 rfl) rfl ?_
    refine r_getr (pc := 224) (k2 := 104) hR (dc dt_X11_weigh 127 rfl) fl_X11_72 tc_83 rfl ?_
    refine r_iload_n (pc := 227) hR (dc dt_X11_weigh 128 rfl) rfl ?_
    obtain ⟨g1, h⟩ := gd_some h
    refine r_iald (pc := 228) hR (dc dt_X11_weigh 129 rfl) tc_104 g1 qv3 ?_
    refine r_iadd (pc := 229) hR (dc dt_X11_weigh 130 rfl) ?_
    refine r_istore_n (pc := 230) (L' := [some (.ref (ad 83)), none, some (iv (w32 ((w32 (10 * v2)) + (rd m 104 v3)))), some (iv v3)]) hR (dc dt_X11_weigh 131 rfl) (by decide) rfl rfl ?_
    refine r_aload_n (pc := 231) hR (dc dt_X11_weigh 132 rfl) rfl ?_
    refine r_getr (pc := 232) (k2 := 106) hR (dc dt_X11_weigh 133 rfl) fl_X11_78 tc_83 rfl ?_
    refine r_bipush (pc := 235) hR (dc dt_X11_weigh 134 rfl) (by decide) ?_
    refine r_iload_n (pc := 237) hR (dc dt_X11_weigh 135 rfl) rfl ?_
    refine r_imul (pc := 238) hR (dc dt_X11_weigh 136 rfl) ?_
    refine r_aload_n (pc := 239) hR (dc dt_X11_weigh 137 rfl) rfl ?_
    refine r_getr (pc := 240) (k2 := 104) hR (dc dt_X11_weigh 138 rfl) fl_X11_72 tc_83 rfl ?_
    refine r_iload_n (pc := 243) hR (dc dt_X11_weigh 139 rfl) rfl ?_
    obtain ⟨g1, h⟩ := gd_some h
    refine r_iald (pc := 244) hR (dc dt_X11_weigh 140 rfl) tc_104 g1 qv3 ?_
    refine r_iadd (pc := 245) hR (dc dt_X11_weigh 141 rfl) ?_
    refine r_dup2 (pc := 246) hR (dc dt_X11_weigh 142 rfl) rfl rfl ?_
    obtain ⟨g1, h⟩ := gd_some h
    refine r_iald (pc := 247) hR (dc dt_X11_weigh 143 rfl) tc_106 g1 (w32_in _) ?_
    refine r_iconst (pc := 248) hR (dc dt_X11_weigh 144 rfl) ?_
    refine r_iadd (pc := 249) hR (dc dt_X11_weigh 145 rfl) ?_
    obtain ⟨g1, h⟩ := gd_some h
    refine r_iast (pc := 250) hR (dc dt_X11_weigh 146 rfl) tc_106 g1 (w32_in _) ?_
    replace h := stw_e h
    generalize wr m 106 (w32 ((w32 (10 * v3)) + (rd m 104 v3))) (w32 ((rd m 106 (w32 ((w32 (10 * v3)) + (rd m 104 v3)))) + 1)) = m250 at h ⊢
    refine r_iinc (pc := 251) (L' := [some (.ref (ad 83)), none, some (iv (w32 ((w32 (10 * v2)) + (rd m 104 v3)))), some (iv (w32 (v3 + 1)))]) hR (dc dt_X11_weigh 147 rfl) rfl (by decide) rfl rfl ?_
    refine r_goto (pc := 254) (tgt := 211) hR (dc dt_X11_weigh 148 rfl) (by decide) ?_
    exact ih (w32 ((w32 (10 * v2)) + (rd m 104 v3))) (w32 (v3 + 1)) m250 (w32_in _) (w32_in _) h
set_option maxRecDepth 100000 in
set_option maxHeartbeats 4000000 in
theorem lp_L11_weigh_188 {Go : Nat → List (Option Value) → List Value → Mem → Prop} (hR : RS l G cy ad tt RX11 cX11_weigh 4 3 Go) {out : Mem} (hT : RT cX11_weigh none True out none Go) {k207 : Mem → Option Mem} (hk207 : ∀ (m : Mem), k207 m = some out → Go 207 [some (.ref (ad 83)), none, none, none] [] m) : ∀ (n : Nat) (v2 : Int) (m : Mem), inR v2 → L11_weigh_188 k207 n v2 m = some out → Go 188 [some (.ref (ad 83)), none, some (iv v2), none] [] m := by
  intro n
  induction n with
  | zero =>
    intro v2 m qv2 h
    cases h
  | succ n ih =>
    intro v2 m qv2 h
    rw [L11_weigh_188] at h
    refine r_iload_n (pc := 188) hR (dc dt_X11_weigh 105 rfl) rfl ?_
    refine r_bipush (pc := 189) hR (dc dt_X11_weigh 106 rfl) (by decide) ?_
    refine r_icmp_ge (pc := 191) (tgt := 207) hR (dc dt_X11_weigh 107 rfl) (by decide) qv2 (rg_c rfl) (fun hc => ?_) (fun hc => ?_)
    · replace h := ite_t hc h
      refine r_weak (L' := [some (.ref (ad 83)), none, none, none]) hR ⟨Or.inr rfl, Or.inr rfl, Or.inl rfl, Or.inr rfl, trivial⟩ ?_
      exact hk207 m h
    replace h := ite_f hc h
    refine r_aload_n (pc := 194) hR (dc dt_X11_weigh 108 rfl) rfl ?_
    refine r_getr (pc := 195) (k2 := 106) hR (dc dt_X11_weigh 109 rfl) fl_X11_78 tc_83 rfl ?_
    refine r_iload_n (pc := 198) hR (dc dt_X11_weigh 110 rfl) rfl ?_
    refine r_iconst (pc := 199) hR (dc dt_X11_weigh 111 rfl) ?_
    obtain ⟨g1, h⟩ := gd_some h
    refine r_iast (pc := 200) hR (dc dt_X11_weigh 112 rfl) tc_106 g1 qv2 ?_
    replace h := stw_e h
    generalize wr m 106 v2 0 = m200 at h ⊢
    refine r_iinc (pc := 201) (L' := [some (.ref (ad 83)), none, some (iv (w32 (v2 + 1))), none]) hR (dc dt_X11_weigh 113 rfl) rfl (by decide) rfl rfl ?_
    refine r_goto (pc := 204) (tgt := 188) hR (dc dt_X11_weigh 114 rfl) (by decide) ?_
    exact ih (w32 (v2 + 1)) m200 (w32_in _) h
set_option maxRecDepth 100000 in
set_option maxHeartbeats 4000000 in
theorem ok_F11_weigh {m : Mem}   {out : Mem} (h : F11_weigh m = some out) : CT l G cy ad tt yX11_weigh cX11_weigh 4 none 3 [.ref (ad 83)] m none True out := by
  refine CT_of (by decide) (Nat.le_of_ble_eq_true rfl) (fun Go hR hT => ?_)
  replace hR : RS l G cy ad tt RX11 cX11_weigh 4 3 Go := hR
  show Go 0 [some (.ref (ad 83)), none, none, none] [] m
  unfold F11_weigh at h
  refine r_aload_n (pc := 0) hR (dc dt_X11_weigh 0 rfl) rfl ?_
  obtain ⟨r1, e1, h⟩ := b1_some h
  refine r_callV (pc := 1) (rest := []) hR (dc dt_X11_weigh 1 rfl) cl_X11_263 tc_83 rfl (ok_F11_isOneTree  e1) (by decide) rfl (Nat.le_of_ble_eq_true rfl) rfl (fun q1r => ?_)
  show Go 4 [some (.ref (ad 83)), none, none, none] [iv r1] m
  refine r_if_ne (pc := 4) (tgt := 8) hR (dc dt_X11_weigh 2 rfl) (by decide) (inZ_R q1r) (fun hc => ?_) (fun hc => ?_)
  · replace h := ite_t hc h
    refine r_iconst (pc := 8) hR (dc dt_X11_weigh 4 rfl) ?_
    refine r_istore_n (pc := 9) (L' := [some (.ref (ad 83)), some (iv 0), none, none]) hR (dc dt_X11_weigh 5 rfl) (by decide) rfl rfl ?_
    refine lp_L11_weigh_10 hR hT (fun m_29 h => ?_) FU 0 m (rg_c rfl) h
    show Go 29 [some (.ref (ad 83)), none, none, none] [] m_29
    refine r_iconst (pc := 29) hR (dc dt_X11_weigh 16 rfl) ?_
    refine r_istore_n (pc := 30) (L' := [some (.ref (ad 83)), some (iv 0), none, none]) hR (dc dt_X11_weigh 17 rfl) (by decide) rfl rfl ?_
    refine lp_L11_weigh_31 hR hT (fun m_94 h => ?_) FU 0 m_29 (rg_c rfl) h
    show Go 94 [some (.ref (ad 83)), none, none, none] [] m_94
    refine r_aload_n (pc := 94) hR (dc dt_X11_weigh 54 rfl) rfl ?_
    obtain ⟨m95, e95, h⟩ := b1_some h
    refine r_callV (pc := 95) (rest := []) hR (dc dt_X11_weigh 55 rfl) cl_X11_236 tc_83 rfl (ok_F11_findOrder  e95) (by decide) rfl (Nat.le_of_ble_eq_true rfl) rfl (fun q95r => ?_)
    show Go 98 [some (.ref (ad 83)), none, none, none] [] m95
    refine r_aload_n (pc := 98) hR (dc dt_X11_weigh 56 rfl) rfl ?_
    obtain ⟨r99, m99, e99, h⟩ := b2_some h
    refine r_callV (pc := 99) (rest := []) hR (dc dt_X11_weigh 57 rfl) cl_X11_254 tc_83 rfl (ok_F11_findDays  e99) (by decide) rfl (Nat.le_of_ble_eq_true rfl) rfl (fun q99r => ?_)
    show Go 102 [some (.ref (ad 83)), none, none, none] [iv r99] m99
    refine r_if_lt (pc := 102) (tgt := 106) hR (dc dt_X11_weigh 58 rfl) (by decide) q99r (fun hc => ?_) (fun hc => ?_)
    · replace h := ite_t hc h
      refine r_iconst (pc := 106) hR (dc dt_X11_weigh 60 rfl) ?_
      refine r_istore_n (pc := 107) (L' := [some (.ref (ad 83)), some (iv 0), none, none]) hR (dc dt_X11_weigh 61 rfl) (by decide) rfl rfl ?_
      refine r_iconst (pc := 108) hR (dc dt_X11_weigh 62 rfl) ?_
      refine r_istore_n (pc := 109) (L' := [some (.ref (ad 83)), some (iv 0), some (iv 0), none]) hR (dc dt_X11_weigh 63 rfl) (by decide) rfl rfl ?_
      refine lp_L11_weigh_110 hR hT (fun v1_145 m_145 qv1_145 h => ?_) FU 0 0 m99 (rg_c rfl) (rg_c rfl) h
      show Go 145 [some (.ref (ad 83)), some (iv v1_145), none, none] [] m_145
      refine r_aload_n (pc := 145) hR (dc dt_X11_weigh 82 rfl) rfl ?_
      refine r_geti (pc := 146) hR (dc dt_X11_weigh 83 rfl) fl_X11_267 tc_83 rfl ?_
      refine jn_e h (fun (K : Option Mem) => K = some out → Go 161 [some (.ref (ad 83)), some (iv v1_145), none, none] [] m_145) (fun h => ?_) (fun K161 J161 h => ?_)
      · refine r_aload_n (pc := 161) hR (dc dt_X11_weigh 90 rfl) rfl ?_
        refine r_geti (pc := 162) hR (dc dt_X11_weigh 91 rfl) fl_X11_267 tc_83 rfl ?_
        refine jn_e h (fun (K : Mem → Option Mem) => ∀ (m_207 : Mem), K m_207 = some out → Go 207 [some (.ref (ad 83)), none, none, none] [] m_207) (fun m_207 h => ?_) (fun K207 J207 h => ?_)
        · refine r_iconst (pc := 207) hR (dc dt_X11_weigh 115 rfl) ?_
          refine r_istore_n (pc := 208) (L' := [some (.ref (ad 83)), none, some (iv 0), none]) hR (dc dt_X11_weigh 116 rfl) (by decide) rfl rfl ?_
          refine r_iconst (pc := 209) hR (dc dt_X11_weigh 117 rfl) ?_
          refine r_istore_n (pc := 210) (L' := [some (.ref (ad 83)), none, some (iv 0), some (iv 0)]) hR (dc dt_X11_weigh 118 rfl) (by decide) rfl rfl ?_
          refine lp_L11_weigh_211 hR hT (fun v2_257 m_257 qv2_257 h => ?_) FU 0 0 m_207 (rg_c rfl) (rg_c rfl) h
          show Go 257 [some (.ref (ad 83)), none, some (iv v2_257), none] [] m_257
          refine r_aload_n (pc := 257) hR (dc dt_X11_weigh 149 rfl) rfl ?_
          refine r_getr (pc := 258) (k2 := 105) hR (dc dt_X11_weigh 150 rfl) fl_X11_75 tc_83 rfl ?_
          refine r_aload_n (pc := 261) hR (dc dt_X11_weigh 151 rfl) rfl ?_
          refine r_geti (pc := 262) hR (dc dt_X11_weigh 152 rfl) fl_X11_267 tc_83 rfl ?_
          refine r_iload_n (pc := 265) hR (dc dt_X11_weigh 153 rfl) rfl ?_
          obtain ⟨g1, h⟩ := gd_some h
          refine r_iast (pc := 266) hR (dc dt_X11_weigh 154 rfl) tc_105 g1 (rd_in _ _ _) ?_
          replace h := stw_e h
          generalize wr m_257 105 (rd m_257 83 33) v2_257 = m266 at h ⊢
          refine r_aload_n (pc := 267) hR (dc dt_X11_weigh 155 rfl) rfl ?_
          refine r_dup (pc := 268) hR (dc dt_X11_weigh 156 rfl) rfl ?_
          refine r_geti (pc := 269) hR (dc dt_X11_weigh 157 rfl) fl_X11_267 tc_83 rfl ?_
          refine r_iconst (pc := 272) hR (dc dt_X11_weigh 158 rfl) ?_
          refine r_iadd (pc := 273) hR (dc dt_X11_weigh 159 rfl) ?_
          refine r_puti (pc := 274) hR (dc dt_X11_weigh 160 rfl) fl_X11_267 tc_83 rfl rfl rfl ?_
          replace h := stw_e h
          generalize wr m266 83 33 (w32 ((rd m266 83 33) + 1)) = m274 at h ⊢
          exact r_vret hT (dc dt_X11_weigh 161 rfl) (Option.some.inj h)
        refine jn_e h (fun (K : Option Mem) => K = some out → Go 176 [some (.ref (ad 83)), some (iv v1_145), none, none] [] m_145) (fun h => ?_) (fun K176 J176 h => ?_)
        · refine r_aload_n (pc := 176) hR (dc dt_X11_weigh 97 rfl) rfl ?_
          refine r_iload_n (pc := 177) hR (dc dt_X11_weigh 98 rfl) rfl ?_
          refine r_puti (pc := 178) hR (dc dt_X11_weigh 99 rfl) fl_X11_270 tc_83 rfl rfl rfl ?_
          replace h := stw_e h
          generalize wr m_145 83 32 v1_145 = m178 at h ⊢
          refine r_aload_n (pc := 181) hR (dc dt_X11_weigh 100 rfl) rfl ?_
          refine r_iconst (pc := 182) hR (dc dt_X11_weigh 101 rfl) ?_
          refine r_puti (pc := 183) hR (dc dt_X11_weigh 102 rfl) fl_X11_267 tc_83 rfl rfl rfl ?_
          replace h := stw_e h
          generalize wr m178 83 33 0 = m183 at h ⊢
          refine r_iconst (pc := 186) hR (dc dt_X11_weigh 103 rfl) ?_
          refine r_istore_n (pc := 187) (L' := [some (.ref (ad 83)), some (iv v1_145), some (iv 0), none]) hR (dc dt_X11_weigh 104 rfl) (by decide) rfl rfl ?_
          refine r_weak (L' := [some (.ref (ad 83)), none, some (iv 0), none]) hR ⟨Or.inr rfl, Or.inl rfl, Or.inr rfl, Or.inr rfl, trivial⟩ ?_
          refine lp_L11_weigh_188 hR hT (fun m_207 h => ?_) FU 0 m183 (rg_c rfl) h
          show Go 207 [some (.ref (ad 83)), none, none, none] [] m_207
          exact J207 m_207 h
        refine r_if_eq (pc := 165) (tgt := 176) hR (dc dt_X11_weigh 92 rfl) (by decide) (rd_in _ _ _) (fun hc => ?_) (fun hc => ?_)
        · replace h := ite_t hc h
          exact J176 h
        replace h := ite_f hc h
        refine r_iload_n (pc := 168) hR (dc dt_X11_weigh 93 rfl) rfl ?_
        refine r_aload_n (pc := 169) hR (dc dt_X11_weigh 94 rfl) rfl ?_
        refine r_geti (pc := 170) hR (dc dt_X11_weigh 95 rfl) fl_X11_270 tc_83 rfl ?_
        refine r_icmp_ge (pc := 173) (tgt := 207) hR (dc dt_X11_weigh 96 rfl) (by decide) qv1_145 (rd_in _ _ _) (fun hc => ?_) (fun hc => ?_)
        · replace h := ite_t hc h
          refine r_weak (L' := [some (.ref (ad 83)), none, none, none]) hR ⟨Or.inr rfl, Or.inl rfl, Or.inr rfl, Or.inr rfl, trivial⟩ ?_
          exact J207 m_145 h
        replace h := ite_f hc h
        exact J176 h
      refine r_if_le (pc := 149) (tgt := 161) hR (dc dt_X11_weigh 84 rfl) (by decide) (rd_in _ _ _) (fun hc => ?_) (fun hc => ?_)
      · replace h := ite_t hc h
        exact J161 h
      replace h := ite_f hc h
      refine r_iload_n (pc := 152) hR (dc dt_X11_weigh 85 rfl) rfl ?_
      refine r_aload_n (pc := 153) hR (dc dt_X11_weigh 86 rfl) rfl ?_
      refine r_geti (pc := 154) hR (dc dt_X11_weigh 87 rfl) fl_X11_270 tc_83 rfl ?_
      refine r_icmp_le (pc := 157) (tgt := 161) hR (dc dt_X11_weigh 88 rfl) (by decide) qv1_145 (rd_in _ _ _) (fun hc => ?_) (fun hc => ?_)
      · replace h := ite_t hc h
        exact J161 h
      replace h := ite_f hc h
      exact r_vret hT (dc dt_X11_weigh 89 rfl) (Option.some.inj h)
    replace h := ite_f hc h
    exact r_vret hT (dc dt_X11_weigh 59 rfl) (Option.some.inj h)
  replace h := ite_f hc h
  exact r_vret hT (dc dt_X11_weigh 3 rfl) (Option.some.inj h)
def tb_X11_mothersFrom : List (Nat × (Instr × Nat)) := [(0, (.iload_n 1, 1)), (1, (.aload_n 0, 1)), (2, (.getfield 260, 3)), (5, (.if_icmp .ne 13, 3)), (8, (.iload_n 2, 1)), (9, (.iconst 1, 1)), (10, (.if_icmp .ne 7, 3)), (13, (.aload_n 0, 1)), (14, (.invokevirtual 273, 3)), (17, (.return_, 1)), (18, (.iconst 0, 1)), (19, (.istore_n 3, 1)), (20, (.iload_n 3, 1)), (21, (.aload_n 0, 1)), (22, (.getfield 260, 3)), (25, (.if_icmp .ge 32, 3)), (28, (.iload_n 3, 1)), (29, (.iload_n 1, 1)), (30, (.if_icmp .ne 6, 3)), (33, (.goto 18, 3)), (36, (.aload_n 0, 1)), (37, (.getfield 72, 3)), (40, (.iload_n 1, 1)), (41, (.iload_n 3, 1)), (42, (.iastore, 1)), (43, (.aload_n 0, 1)), (44, (.iload_n 1, 1)), (45, (.iconst 1, 1)), (46, (.iadd, 1)), (47, (.iload_n 2, 1)), (48, (.invokevirtual 276, 3)), (51, (.iinc 3 1, 3)), (54, (.goto (-34), 3)), (57, (.aload_n 0, 1)), (58, (.getfield 72, 3)), (61, (.iload_n 1, 1)), (62, (.bipush 9, 2)), (64, (.iastore, 1)), (65, (.iload_n 2, 1)), (66, (.ifCond .ne 11, 3)), (69, (.aload_n 0, 1)), (70, (.iload_n 1, 1)), (71, (.iconst 1, 1)), (72, (.iadd, 1)), (73, (.iconst 1, 1)), (74, (.invokevirtual 276, 3)), (77, (.return_, 1))]
set_option maxRecDepth 100000 in
theorem dt_X11_mothersFrom : (tb_X11_mothersFrom.all fun q => decide (decode cX11_mothersFrom q.1 = .ok q.2)) = true := by decide +kernel
set_option maxRecDepth 100000 in
set_option maxHeartbeats 4000000 in
theorem lp_L11_mothersFrom_20 {D : Nat} {Go : Nat → List (Option Value) → List Value → Mem → Prop} (hR : RS l G cy ad tt RX11 cX11_mothersFrom 4 (4 + (D + 1)) Go) {out : Mem} (hT : RT cX11_mothersFrom none True out none Go) {rec : Mem → Int → Int → Option Mem} (rec_ok : ∀ {m : Mem} {w0 : Int} {w1 : Int} (_ : inR w0) (_ : inR w1) {out : Mem} (_ : rec m w0 w1 = some out), CT l G cy ad tt yX11_mothersFrom cX11_mothersFrom 4 none (4 + D) [.ref (ad 83), iv w0, iv w1] m none True out) {v1 : Int} {v2 : Int} (qv1 : inR v1) (qv2 : inR v2) {k57 : Mem → Option Mem} (hk57 : ∀ (m : Mem), k57 m = some out → Go 57 [some (.ref (ad 83)), some (iv v1), some (iv v2), none] [] m) : ∀ (n : Nat) (v3 : Int) (m : Mem), inR v3 → L11_mothersFrom_20 rec v1 v2 k57 n v3 m = some out → Go 20 [some (.ref (ad 83)), some (iv v1), some (iv v2), some (iv v3)] [] m := by
  intro n
  induction n with
  | zero =>
    intro v3 m qv3 h
    cases h
  | succ n ih =>
    intro v3 m qv3 h
    rw [L11_mothersFrom_20] at h
    refine r_iload_n (pc := 20) hR (dc dt_X11_mothersFrom 12 rfl) rfl ?_
    refine r_aload_n (pc := 21) hR (dc dt_X11_mothersFrom 13 rfl) rfl ?_
    refine r_geti (pc := 22) hR (dc dt_X11_mothersFrom 14 rfl) fl_X11_260 tc_83 rfl ?_
    refine r_icmp_ge (pc := 25) (tgt := 57) hR (dc dt_X11_mothersFrom 15 rfl) (by decide) qv3 (rd_in _ _ _) (fun hc => ?_) (fun hc => ?_)
    · replace h := ite_t hc h
      refine r_weak (L' := [some (.ref (ad 83)), some (iv v1), some (iv v2), none]) hR ⟨Or.inr rfl, Or.inr rfl, Or.inr rfl, Or.inl rfl, trivial⟩ ?_
      exact hk57 m h
    replace h := ite_f hc h
    refine r_iload_n (pc := 28) hR (dc dt_X11_mothersFrom 16 rfl) rfl ?_
    refine r_iload_n (pc := 29) hR (dc dt_X11_mothersFrom 17 rfl) rfl ?_
    refine jn_e h (fun (K : Mem → Option Mem) => ∀ (m_51 : Mem), K m_51 = some out → Go 51 [some (.ref (ad 83)), some (iv v1), some (iv v2), some (iv v3)] [] m_51) (fun m_51 h => ?_) (fun K51 J51 h => ?_)
    · refine r_iinc (pc := 51) (L' := [some (.ref (ad 83)), some (iv v1), some (iv v2), some (iv (w32 (v3 + 1)))]) hR (dc dt_X11_mothersFrom 31 rfl) rfl (by decide) rfl rfl ?_
      refine r_goto (pc := 54) (tgt := 20) hR (dc dt_X11_mothersFrom 32 rfl) (by decide) ?_
      exact ih (w32 (v3 + 1)) m_51 (w32_in _) h
    refine r_icmp_ne (pc := 30) (tgt := 36) hR (dc dt_X11_mothersFrom 18 rfl) (by decide) qv3 qv1 (fun hc => ?_) (fun hc => ?_)
    · replace h := ite_t hc h
      refine r_aload_n (pc := 36) hR (dc dt_X11_mothersFrom 20 rfl) rfl ?_
      refine r_getr (pc := 37) (k2 := 104) hR (dc dt_X11_mothersFrom 21 rfl) fl_X11_72 tc_83 rfl ?_
      refine r_iload_n (pc := 40) hR (dc dt_X11_mothersFrom 22 rfl) rfl ?_
      refine r_iload_n (pc := 41) hR (dc dt_X11_mothersFrom 23 rfl) rfl ?_
      obtain ⟨g1, h⟩ := gd_some h
      refine r_iast (pc := 42) hR (dc dt_X11_mothersFrom 24 rfl) tc_104 g1 qv1 ?_
      replace h := stw_e h
      generalize wr m 104 v1 v3 = m42 at h ⊢
      refine r_aload_n (pc := 43) hR (dc dt_X11_mothersFrom 25 rfl) rfl ?_
      refine r_iload_n (pc := 44) hR (dc dt_X11_mothersFrom 26 rfl) rfl ?_
      refine r_iconst (pc := 45) hR (dc dt_X11_mothersFrom 27 rfl) ?_
      refine r_iadd (pc := 46) hR (dc dt_X11_mothersFrom 28 rfl) ?_
      refine r_iload_n (pc := 47) hR (dc dt_X11_mothersFrom 29 rfl) rfl ?_
      obtain ⟨m48, e48, h⟩ := b1_some h
      refine r_callV (pc := 48) (rest := []) hR (dc dt_X11_mothersFrom 30 rfl) cl_X11_276 tc_83 rfl (rec_ok (w32_in _) qv2 e48) (by omega) rfl (Nat.le_of_ble_eq_true rfl) rfl (fun q48r => ?_)
      show Go 51 [some (.ref (ad 83)), some (iv v1), some (iv v2), some (iv v3)] [] m48
      exact J51 m48 h
    replace h := ite_f hc h
    refine r_goto (pc := 33) (tgt := 51) hR (dc dt_X11_mothersFrom 19 rfl) (by decide) ?_
    exact J51 m h
set_option maxRecDepth 100000 in
set_option maxHeartbeats 4000000 in
theorem ok_F11_mothersFrom : ∀ (n : Nat) {m : Mem}  {v1 v2 : Int} (q1 : inR v1) (q2 : inR v2) {out : Mem} (h : F11_mothersFrom n m v1 v2 = some out), n ≤ 9 → CT l G cy ad tt yX11_mothersFrom cX11_mothersFrom 4 none (4 + n) [.ref (ad 83), iv v1, iv v2] m none True out := by
  intro n
  induction n with
  | zero => intros; rename_i h _; cases h
  | succ n rec_ih =>
    intro m v1 v2 q1 q2 out h hn
    refine CT_of (by decide) (Nat.le_of_ble_eq_true rfl) (fun Go hR hT => ?_)
    replace hR : RS l G cy ad tt RX11 cX11_mothersFrom 4 (4 + (n + 1)) Go := hR
    show Go 0 [some (.ref (ad 83)), some (iv v1), some (iv v2), none] [] m
    rw [F11_mothersFrom] at h
    have rec_ok : ∀ {m : Mem} {w0 : Int} {w1 : Int} (_ : inR w0) (_ : inR w1) {out : Mem} (_ : F11_mothersFrom n m w0 w1 = some out), CT l G cy ad tt yX11_mothersFrom cX11_mothersFrom 4 none (4 + n) [.ref (ad 83), iv w0, iv w1] m none True out := by
      intro m w0 w1 aw0 aw1 out hr
      exact rec_ih aw0 aw1 hr (by omega)
    refine r_iload_n (pc := 0) hR (dc dt_X11_mothersFrom 0 rfl) rfl ?_
    refine r_aload_n (pc := 1) hR (dc dt_X11_mothersFrom 1 rfl) rfl ?_
    refine r_geti (pc := 2) hR (dc dt_X11_mothersFrom 2 rfl) fl_X11_260 tc_83 rfl ?_
    refine r_icmp_ne (pc := 5) (tgt := 18) hR (dc dt_X11_mothersFrom 3 rfl) (by decide) q1 (rd_in _ _ _) (fun hc => ?_) (fun hc => ?_)
    · replace h := ite_t hc h
      refine r_iconst (pc := 18) hR (dc dt_X11_mothersFrom 10 rfl) ?_
      refine r_istore_n (pc := 19) (L' := [some (.ref (ad 83)), some (iv v1), some (iv v2), some (iv 0)]) hR (dc dt_X11_mothersFrom 11 rfl) (by decide) rfl rfl ?_
      refine lp_L11_mothersFrom_20 hR hT rec_ok q1 q2 (fun m_57 h => ?_) FU 0 m (rg_c rfl) h
      show Go 57 [some (.ref (ad 83)), some (iv v1), some (iv v2), none] [] m_57
      refine r_aload_n (pc := 57) hR (dc dt_X11_mothersFrom 33 rfl) rfl ?_
      refine r_getr (pc := 58) (k2 := 104) hR (dc dt_X11_mothersFrom 34 rfl) fl_X11_72 tc_83 rfl ?_
      refine r_iload_n (pc := 61) hR (dc dt_X11_mothersFrom 35 rfl) rfl ?_
      refine r_bipush (pc := 62) hR (dc dt_X11_mothersFrom 36 rfl) (by decide) ?_
      obtain ⟨g1, h⟩ := gd_some h
      refine r_iast (pc := 64) hR (dc dt_X11_mothersFrom 37 rfl) tc_104 g1 q1 ?_
      replace h := stw_e h
      generalize wr m_57 104 v1 9 = m64 at h ⊢
      refine r_iload_n (pc := 65) hR (dc dt_X11_mothersFrom 38 rfl) rfl ?_
      refine r_if_ne (pc := 66) (tgt := 77) hR (dc dt_X11_mothersFrom 39 rfl) (by decide) q2 (fun hc => ?_) (fun hc => ?_)
      · replace h := ite_t hc h
        exact r_vret hT (dc dt_X11_mothersFrom 46 rfl) (Option.some.inj h)
      replace h := ite_f hc h
      refine r_aload_n (pc := 69) hR (dc dt_X11_mothersFrom 40 rfl) rfl ?_
      refine r_iload_n (pc := 70) hR (dc dt_X11_mothersFrom 41 rfl) rfl ?_
      refine r_iconst (pc := 71) hR (dc dt_X11_mothersFrom 42 rfl) ?_
      refine r_iadd (pc := 72) hR (dc dt_X11_mothersFrom 43 rfl) ?_
      refine r_iconst (pc := 73) hR (dc dt_X11_mothersFrom 44 rfl) ?_
      obtain ⟨m74, e74, h⟩ := b1_some h
      refine r_callV (pc := 74) (rest := []) hR (dc dt_X11_mothersFrom 45 rfl) cl_X11_276 tc_83 rfl (rec_ok (w32_in _) (rg_c rfl) e74) (by omega) rfl (Nat.le_of_ble_eq_true rfl) rfl (fun q74r => ?_)
      show Go 77 [some (.ref (ad 83)), some (iv v1), some (iv v2), none] [] m74
      exact r_vret hT (dc dt_X11_mothersFrom 46 rfl) (Option.some.inj h)
    replace h := ite_f hc h
    refine r_iload_n (pc := 8) hR (dc dt_X11_mothersFrom 4 rfl) rfl ?_
    refine r_iconst (pc := 9) hR (dc dt_X11_mothersFrom 5 rfl) ?_
    refine r_icmp_ne (pc := 10) (tgt := 17) hR (dc dt_X11_mothersFrom 6 rfl) (by decide) q2 (rg_c rfl) (fun hc => ?_) (fun hc => ?_)
    · replace h := ite_t hc h
      exact r_vret hT (dc dt_X11_mothersFrom 9 rfl) (Option.some.inj h)
    replace h := ite_f hc h
    refine r_aload_n (pc := 13) hR (dc dt_X11_mothersFrom 7 rfl) rfl ?_
    obtain ⟨m14, e14, h⟩ := b1_some h
    refine r_callV (pc := 14) (rest := []) hR (dc dt_X11_mothersFrom 8 rfl) cl_X11_273 tc_83 rfl (ok_F11_weigh  e14) (by omega) rfl (Nat.le_of_ble_eq_true rfl) rfl (fun q14r => ?_)
    show Go 17 [some (.ref (ad 83)), some (iv v1), some (iv v2), none] [] m14
    exact r_vret hT (dc dt_X11_mothersFrom 9 rfl) (Option.some.inj h)
def tb_X11_findBest : List (Nat × (Instr × Nat)) := [(0, (.aload_n 0, 1)), (1, (.getfield 198, 3)), (4, (.ifCond .eq 4, 3)), (7, (.return_, 1)), (8, (.aload_n 0, 1)), (9, (.iconst 1, 1)), (10, (.putfield 198, 3)), (13, (.aload_n 0, 1)), (14, (.iconst (-1), 1)), (15, (.putfield 220, 3)), (18, (.aload_n 0, 1)), (19, (.iconst 0, 1)), (20, (.putfield 267, 3)), (23, (.aload_n 0, 1)), (24, (.iconst 0, 1)), (25, (.iconst 0, 1)), (26, (.invokevirtual 276, 3)), (29, (.return_, 1))]
set_option maxRecDepth 100000 in
theorem dt_X11_findBest : (tb_X11_findBest.all fun q => decide (decode cX11_findBest q.1 = .ok q.2)) = true := by decide +kernel
set_option maxRecDepth 100000 in
set_option maxHeartbeats 4000000 in
theorem ok_F11_findBest {m : Mem}   {out : Mem} (h : F11_findBest m = some out) : CT l G cy ad tt yX11_findBest cX11_findBest 1 none 14 [.ref (ad 83)] m none True out := by
  refine CT_of (by decide) (Nat.le_of_ble_eq_true rfl) (fun Go hR hT => ?_)
  replace hR : RS l G cy ad tt RX11 cX11_findBest 1 14 Go := hR
  show Go 0 [some (.ref (ad 83))] [] m
  unfold F11_findBest at h
  refine r_aload_n (pc := 0) hR (dc dt_X11_findBest 0 rfl) rfl ?_
  refine r_geti (pc := 1) hR (dc dt_X11_findBest 1 rfl) fl_X11_198 tc_83 rfl ?_
  refine r_if_eq (pc := 4) (tgt := 8) hR (dc dt_X11_findBest 2 rfl) (by decide) (rd_in _ _ _) (fun hc => ?_) (fun hc => ?_)
  · replace h := ite_t hc h
    refine r_aload_n (pc := 8) hR (dc dt_X11_findBest 4 rfl) rfl ?_
    refine r_iconst (pc := 9) hR (dc dt_X11_findBest 5 rfl) ?_
    refine r_puti (pc := 10) hR (dc dt_X11_findBest 6 rfl) fl_X11_198 tc_83 rfl (narZ (Or.inr rfl)) rfl ?_
    replace h := stw_e h
    generalize wr m 83 31 1 = m10 at h ⊢
    refine r_aload_n (pc := 13) hR (dc dt_X11_findBest 7 rfl) rfl ?_
    refine r_iconst (pc := 14) hR (dc dt_X11_findBest 8 rfl) ?_
    refine r_puti (pc := 15) hR (dc dt_X11_findBest 9 rfl) fl_X11_220 tc_83 rfl rfl rfl ?_
    replace h := stw_e h
    generalize wr m10 83 25 (-1) = m15 at h ⊢
    refine r_aload_n (pc := 18) hR (dc dt_X11_findBest 10 rfl) rfl ?_
    refine r_iconst (pc := 19) hR (dc dt_X11_findBest 11 rfl) ?_
    refine r_puti (pc := 20) hR (dc dt_X11_findBest 12 rfl) fl_X11_267 tc_83 rfl rfl rfl ?_
    replace h := stw_e h
    generalize wr m15 83 33 0 = m20 at h ⊢
    refine r_aload_n (pc := 23) hR (dc dt_X11_findBest 13 rfl) rfl ?_
    refine r_iconst (pc := 24) hR (dc dt_X11_findBest 14 rfl) ?_
    refine r_iconst (pc := 25) hR (dc dt_X11_findBest 15 rfl) ?_
    obtain ⟨m26, e26, h⟩ := b1_some h
    refine r_callV (pc := 26) (rest := []) hR (dc dt_X11_findBest 16 rfl) cl_X11_276 tc_83 rfl (ok_F11_mothersFrom 9 (rg_c rfl) (rg_c rfl) e26 (Nat.le_refl _)) (by decide) rfl (Nat.le_of_ble_eq_true rfl) rfl (fun q26r => ?_)
    show Go 29 [some (.ref (ad 83))] [] m26
    exact r_vret hT (dc dt_X11_findBest 17 rfl) (Option.some.inj h)
  replace h := ite_f hc h
  exact r_vret hT (dc dt_X11_findBest 3 rfl) (Option.some.inj h)
def tb_X11_boundNow : List (Nat × (Instr × Nat)) := [(0, (.iconst 0, 1)), (1, (.istore_n 1, 1)), (2, (.iconst 0, 1)), (3, (.istore_n 2, 1)), (4, (.iload_n 2, 1)), (5, (.bipush 16, 2)), (7, (.if_icmp .ge 113, 3)), (10, (.iconst 0, 1)), (11, (.istore_n 3, 1)), (12, (.iconst 0, 1)), (13, (.istore 4, 2)), (15, (.iload 4, 2)), (17, (.aload_n 0, 1)), (18, (.getfield 260, 3)), (21, (.if_icmp .ge 45, 3)), (24, (.aload_n 0, 1)), (25, (.getfield 26, 3)), (28, (.bipush 16, 2)), (30, (.aload_n 0, 1)), (31, (.getfield 69, 3)), (34, (.iload 4, 2)), (36, (.iaload, 1)), (37, (.imul, 1)), (38, (.iload_n 2, 1)), (39, (.iadd, 1)), (40, (.iaload, 1)), (41, (.istore 5, 2)), (43, (.iload 5, 2)), (45, (.iconst 1, 1)), (46, (.iconst 3, 1)), (47, (.invokestatic 134, 3)), (50, (.ifCond .eq 10, 3)), (53, (.iload_n 3, 1)), (54, (.iconst 1, 1)), (55, (.iload 5, 2)), (57, (.ishl, 1)), (58, (.ior, 1)), (59, (.istore_n 3, 1)), (60, (.iinc 4 1, 3)), (63, (.goto (-48), 3)), (66, (.iload_n 3, 1)), (67, (.iconst 1, 1)), (68, (.ishr, 1)), (69, (.iconst 1, 1)), (70, (.iand, 1)), (71, (.iload_n 3, 1)), (72, (.iconst 2, 1)), (73, (.ishr, 1)), (74, (.iconst 1, 1)), (75, (.iand, 1)), (76, (.iadd, 1)), (77, (.iload_n 3, 1)), (78, (.iconst 3, 1)), (79, (.ishr, 1)), (80, (.iconst 1, 1)), (81, (.iand, 1)), (82, (.iadd, 1)), (83, (.istore 4, 2)), (85, (.iload 4, 2)), (87, (.iconst 1, 1)), (88, (.if_icmp .le 26, 3)), (91, (.iload_n 1, 1)), (92, (.iload 4, 2)), (94, (.iconst 1, 1)), (95, (.isub, 1)), (96, (.aload_n 0, 1)), (97, (.getfield 29, 3)), (100, (.iconst 0, 1)), (101, (.iaload, 1)), (102, (.aload_n 0, 1)), (103, (.getfield 29, 3)), (106, (.iconst 2, 1)), (107, (.iaload, 1)), (108, (.invokestatic 227, 3)), (111, (.imul, 1)), (112, (.iadd, 1)), (113, (.istore_n 1, 1)), (114, (.iinc 2 1, 3)), (117, (.goto (-113), 3)), (120, (.iload_n 1, 1)), (121, (.ireturn, 1))]
set_option maxRecDepth 100000 in
theorem dt_X11_boundNow : (tb_X11_boundNow.all fun q => decide (decode cX11_boundNow q.1 = .ok q.2)) = true := by decide +kernel
set_option maxRecDepth 100000 in
set_option maxHeartbeats 4000000 in
theorem lp_L11_boundNow_15 {Go : Nat → List (Option Value) → List Value → Mem → Prop} (hR : RS l G cy ad tt RX11 cX11_boundNow 6 1 Go) {out : Int} {m : Mem} (hT : RT cX11_boundNow (some (iv out)) (inR out) m (some .int) Go) {v1 : Int} {v2 : Int} (qv1 : inR v1) (qv2 : inR v2) {k66 : Int → Option Int} (hk66 : ∀ (v3 : Int), inR v3 → k66 v3 = some out → Go 66 [some (.ref (ad 83)), some (iv v1), some (iv v2), some (iv v3), none, none] [] m) : ∀ (n : Nat) (v3 : Int) (v4 : Int), inR v3 → inR v4 → L11_boundNow_15 m v2 k66 n v3 v4 = some out → Go 15 [some (.ref (ad 83)), some (iv v1), some (iv v2), some (iv v3), some (iv v4), none] [] m := by
  intro n
  induction n with
  | zero =>
    intro v3 v4 qv3 qv4 h
    cases h
  | succ n ih =>
    intro v3 v4 qv3 qv4 h
    rw [L11_boundNow_15] at h
    refine r_iload (pc := 15) hR (dc dt_X11_boundNow 11 rfl) rfl ?_
    refine r_aload_n (pc := 17) hR (dc dt_X11_boundNow 12 rfl) rfl ?_
    refine r_geti (pc := 18) hR (dc dt_X11_boundNow 13 rfl) fl_X11_260 tc_83 rfl ?_
    refine r_icmp_ge (pc := 21) (tgt := 66) hR (dc dt_X11_boundNow 14 rfl) (by decide) qv4 (rd_in _ _ _) (fun hc => ?_) (fun hc => ?_)
    · replace h := ite_t hc h
      refine r_weak (L' := [some (.ref (ad 83)), some (iv v1), some (iv v2), some (iv v3), none, none]) hR ⟨Or.inr rfl, Or.inr rfl, Or.inr rfl, Or.inr rfl, Or.inl rfl, Or.inr rfl, trivial⟩ ?_
      exact hk66 v3 qv3 h
    replace h := ite_f hc h
    refine r_aload_n (pc := 24) hR (dc dt_X11_boundNow 15 rfl) rfl ?_
    refine r_getr (pc := 25) (k2 := 89) hR (dc dt_X11_boundNow 16 rfl) fl_X11_26 tc_83 rfl ?_
    refine r_bipush (pc := 28) hR (dc dt_X11_boundNow 17 rfl) (by decide) ?_
    refine r_aload_n (pc := 30) hR (dc dt_X11_boundNow 18 rfl) rfl ?_
    refine r_getr (pc := 31) (k2 := 103) hR (dc dt_X11_boundNow 19 rfl) fl_X11_69 tc_83 rfl ?_
    refine r_iload (pc := 34) hR (dc dt_X11_boundNow 20 rfl) rfl ?_
    obtain ⟨g1, h⟩ := gd_some h
    refine r_iald (pc := 36) hR (dc dt_X11_boundNow 21 rfl) tc_103 g1 qv4 ?_
    refine r_imul (pc := 37) hR (dc dt_X11_boundNow 22 rfl) ?_
    refine r_iload_n (pc := 38) hR (dc dt_X11_boundNow 23 rfl) rfl ?_
    refine r_iadd (pc := 39) hR (dc dt_X11_boundNow 24 rfl) ?_
    obtain ⟨g1, h⟩ := gd_some h
    refine r_iald (pc := 40) hR (dc dt_X11_boundNow 25 rfl) tc_89 g1 (w32_in _) ?_
    refine r_istore (pc := 41) (L' := [some (.ref (ad 83)), some (iv v1), some (iv v2), some (iv v3), some (iv v4), some (iv (rd m 89 (w32 ((w32 (16 * (rd m 103 v4))) + v2))))]) hR (dc dt_X11_boundNow 26 rfl) (by decide) rfl rfl ?_
    refine r_iload (pc := 43) hR (dc dt_X11_boundNow 27 rfl) rfl ?_
    refine r_iconst (pc := 45) hR (dc dt_X11_boundNow 28 rfl) ?_
    refine r_iconst (pc := 46) hR (dc dt_X11_boundNow 29 rfl) ?_
    refine r_callS (pc := 47) (rest := []) hR (dc dt_X11_boundNow 30 rfl) cl_X11_134 (ok_F11_in (rd_in _ _ _) (rg_c rfl) (rg_c rfl)) (by decide) rfl (Nat.le_of_ble_eq_true rfl) rfl (fun q47r => ?_)
    show Go 50 [some (.ref (ad 83)), some (iv v1), some (iv v2), some (iv v3), some (iv v4), some (iv (rd m 89 (w32 ((w32 (16 * (rd m 103 v4))) + v2))))] [iv (F11_in (rd m 89 (w32 ((w32 (16 * (rd m 103 v4))) + v2))) 1 3)] m
    refine jn_e h (fun (K : Int → Option Int) => ∀ (v3_60 : Int), inR v3_60 → K v3_60 = some out → Go 60 [some (.ref (ad 83)), some (iv v1), some (iv v2), some (iv v3_60), some (iv v4), none] [] m) (fun v3_60 qv3_60 h => ?_) (fun K60 J60 h => ?_)
    · refine r_iinc (pc := 60) (L' := [some (.ref (ad 83)), some (iv v1), some (iv v2), some (iv v3_60), some (iv (w32 (v4 + 1))), none]) hR (dc dt_X11_boundNow 38 rfl) rfl (by decide) rfl rfl ?_
      refine r_goto (pc := 63) (tgt := 15) hR (dc dt_X11_boundNow 39 rfl) (by decide) ?_
      exact ih v3_60 (w32 (v4 + 1)) qv3_60 (w32_in _) h
    refine r_if_eq (pc := 50) (tgt := 60) hR (dc dt_X11_boundNow 31 rfl) (by decide) (inZ_R q47r) (fun hc => ?_) (fun hc => ?_)
    · replace h := ite_t hc h
      refine r_weak (L' := [some (.ref (ad 83)), some (iv v1), some (iv v2), some (iv v3), some (iv v4), none]) hR ⟨Or.inr rfl, Or.inr rfl, Or.inr rfl, Or.inr rfl, Or.inr rfl, Or.inl rfl, trivial⟩ ?_
      exact J60 v3 qv3 h
    replace h := ite_f hc h
    refine r_iload_n (pc := 53) hR (dc dt_X11_boundNow 32 rfl) rfl ?_
    refine r_iconst (pc := 54) hR (dc dt_X11_boundNow 33 rfl) ?_
    refine r_iload (pc := 55) hR (dc dt_X11_boundNow 34 rfl) rfl ?_
    refine r_ishl (pc := 57) hR (dc dt_X11_boundNow 35 rfl) ?_
    refine r_ior (pc := 58) hR (dc dt_X11_boundNow 36 rfl) ?_
    refine r_istore_n (pc := 59) (L' := [some (.ref (ad 83)), some (iv v1), some (iv v2), some (iv (bor v3 (shl 1 (rd m 89 (w32 ((w32 (16 * (rd m 103 v4))) + v2)))))), some (iv v4), some (iv (rd m 89 (w32 ((w32 (16 * (rd m 103 v4))) + v2))))]) hR (dc dt_X11_boundNow 37 rfl) (by decide) rfl rfl ?_
    refine r_weak (L' := [some (.ref (ad 83)), some (iv v1), some (iv v2), some (iv (bor v3 (shl 1 (rd m 89 (w32 ((w32 (16 * (rd m 103 v4))) + v2)))))), some (iv v4), none]) hR ⟨Or.inr rfl, Or.inr rfl, Or.inr rfl, Or.inr rfl, Or.inr rfl, Or.inl rfl, trivial⟩ ?_
    exact J60 (bor v3 (shl 1 (rd m 89 (w32 ((w32 (16 * (rd m 103 v4))) + v2))))) (ti_in _) h
set_option maxRecDepth 100000 in
set_option maxHeartbeats 4000000 in
theorem lp_L11_boundNow_4 {Go : Nat → List (Option Value) → List Value → Mem → Prop} (hR : RS l G cy ad tt RX11 cX11_boundNow 6 1 Go) {out : Int} {m : Mem} (hT : RT cX11_boundNow (some (iv out)) (inR out) m (some .int) Go) : ∀ (n : Nat) (v1 : Int) (v2 : Int), inR v1 → inR v2 → L11_boundNow_4 m n v1 v2 = some out → Go 4 [some (.ref (ad 83)), some (iv v1), some (iv v2), none, none, none] [] m := by
  intro n
  induction n with
  | zero =>
    intro v1 v2 qv1 qv2 h
    cases h
  | succ n ih =>
    intro v1 v2 qv1 qv2 h
    rw [L11_boundNow_4] at h
    refine r_iload_n (pc := 4) hR (dc dt_X11_boundNow 4 rfl) rfl ?_
    refine r_bipush (pc := 5) hR (dc dt_X11_boundNow 5 rfl) (by decide) ?_
    refine r_icmp_ge (pc := 7) (tgt := 120) hR (dc dt_X11_boundNow 6 rfl) (by decide) qv2 (rg_c rfl) (fun hc => ?_) (fun hc => ?_)
    · replace h := ite_t hc h
      refine r_iload_n (pc := 120) hR (dc dt_X11_boundNow 79 rfl) rfl ?_
      exact r_iret hT (dc dt_X11_boundNow 80 rfl) (Option.some.inj h) rfl qv1
    replace h := ite_f hc h
    refine r_iconst (pc := 10) hR (dc dt_X11_boundNow 7 rfl) ?_
    refine r_istore_n (pc := 11) (L' := [some (.ref (ad 83)), some (iv v1), some (iv v2), some (iv 0), none, none]) hR (dc dt_X11_boundNow 8 rfl) (by decide) rfl rfl ?_
    refine r_iconst (pc := 12) hR (dc dt_X11_boundNow 9 rfl) ?_
    refine r_istore (pc := 13) (L' := [some (.ref (ad 83)), some (iv v1), some (iv v2), some (iv 0), some (iv 0), none]) hR (dc dt_X11_boundNow 10 rfl) (by decide) rfl rfl ?_
    refine lp_L11_boundNow_15 hR hT qv1 qv2 (fun v3_66 qv3_66 h => ?_) FU 0 0 (rg_c rfl) (rg_c rfl) h
    show Go 66 [some (.ref (ad 83)), some (iv v1), some (iv v2), some (iv v3_66), none, none] [] m
    refine r_iload_n (pc := 66) hR (dc dt_X11_boundNow 40 rfl) rfl ?_
    refine r_iconst (pc := 67) hR (dc dt_X11_boundNow 41 rfl) ?_
    refine r_ishr (pc := 68) hR (dc dt_X11_boundNow 42 rfl) ?_
    refine r_iconst (pc := 69) hR (dc dt_X11_boundNow 43 rfl) ?_
    refine r_iand (pc := 70) hR (dc dt_X11_boundNow 44 rfl) ?_
    refine r_iload_n (pc := 71) hR (dc dt_X11_boundNow 45 rfl) rfl ?_
    refine r_iconst (pc := 72) hR (dc dt_X11_boundNow 46 rfl) ?_
    refine r_ishr (pc := 73) hR (dc dt_X11_boundNow 47 rfl) ?_
    refine r_iconst (pc := 74) hR (dc dt_X11_boundNow 48 rfl) ?_
    refine r_iand (pc := 75) hR (dc dt_X11_boundNow 49 rfl) ?_
    refine r_iadd (pc := 76) hR (dc dt_X11_boundNow 50 rfl) ?_
    refine r_iload_n (pc := 77) hR (dc dt_X11_boundNow 51 rfl) rfl ?_
    refine r_iconst (pc := 78) hR (dc dt_X11_boundNow 52 rfl) ?_
    refine r_ishr (pc := 79) hR (dc dt_X11_boundNow 53 rfl) ?_
    refine r_iconst (pc := 80) hR (dc dt_X11_boundNow 54 rfl) ?_
    refine r_iand (pc := 81) hR (dc dt_X11_boundNow 55 rfl) ?_
    refine r_iadd (pc := 82) hR (dc dt_X11_boundNow 56 rfl) ?_
    refine r_istore (pc := 83) (L' := [some (.ref (ad 83)), some (iv v1), some (iv v2), some (iv v3_66), some (iv (w32 ((w32 ((band (shr v3_66 1) 1) + (band (shr v3_66 2) 1))) + (band (shr v3_66 3) 1)))), none]) hR (dc dt_X11_boundNow 57 rfl) (by decide) rfl rfl ?_
    refine r_iload (pc := 85) hR (dc dt_X11_boundNow 58 rfl) rfl ?_
    refine r_iconst (pc := 87) hR (dc dt_X11_boundNow 59 rfl) ?_
    refine jn_e h (fun (K : Int → Option Int) => ∀ (v1_114 : Int), inR v1_114 → K v1_114 = some out → Go 114 [some (.ref (ad 83)), some (iv v1_114), some (iv v2), none, none, none] [] m) (fun v1_114 qv1_114 h => ?_) (fun K114 J114 h => ?_)
    · refine r_iinc (pc := 114) (L' := [some (.ref (ad 83)), some (iv v1_114), some (iv (w32 (v2 + 1))), none, none, none]) hR (dc dt_X11_boundNow 77 rfl) rfl (by decide) rfl rfl ?_
      refine r_goto (pc := 117) (tgt := 4) hR (dc dt_X11_boundNow 78 rfl) (by decide) ?_
      exact ih v1_114 (w32 (v2 + 1)) qv1_114 (w32_in _) h
    refine r_icmp_le (pc := 88) (tgt := 114) hR (dc dt_X11_boundNow 60 rfl) (by decide) (w32_in _) (rg_c rfl) (fun hc => ?_) (fun hc => ?_)
    · replace h := ite_t hc h
      refine r_weak (L' := [some (.ref (ad 83)), some (iv v1), some (iv v2), none, none, none]) hR ⟨Or.inr rfl, Or.inr rfl, Or.inr rfl, Or.inl rfl, Or.inl rfl, Or.inr rfl, trivial⟩ ?_
      exact J114 v1 qv1 h
    replace h := ite_f hc h
    refine r_iload_n (pc := 91) hR (dc dt_X11_boundNow 61 rfl) rfl ?_
    refine r_iload (pc := 92) hR (dc dt_X11_boundNow 62 rfl) rfl ?_
    refine r_iconst (pc := 94) hR (dc dt_X11_boundNow 63 rfl) ?_
    refine r_isub (pc := 95) hR (dc dt_X11_boundNow 64 rfl) ?_
    refine r_aload_n (pc := 96) hR (dc dt_X11_boundNow 65 rfl) rfl ?_
    refine r_getr (pc := 97) (k2 := 90) hR (dc dt_X11_boundNow 66 rfl) fl_X11_29 tc_83 rfl ?_
    refine r_iconst (pc := 100) hR (dc dt_X11_boundNow 67 rfl) ?_
    obtain ⟨g1, h⟩ := gd_some h
    refine r_iald (pc := 101) hR (dc dt_X11_boundNow 68 rfl) tc_90 g1 (rg_c rfl) ?_
    refine r_aload_n (pc := 102) hR (dc dt_X11_boundNow 69 rfl) rfl ?_
    refine r_getr (pc := 103) (k2 := 90) hR (dc dt_X11_boundNow 70 rfl) fl_X11_29 tc_83 rfl ?_
    refine r_iconst (pc := 106) hR (dc dt_X11_boundNow 71 rfl) ?_
    obtain ⟨g1, h⟩ := gd_some h
    refine r_iald (pc := 107) hR (dc dt_X11_boundNow 72 rfl) tc_90 g1 (rg_c rfl) ?_
    refine r_callS (pc := 108) (rest := [iv (w32 ((w32 ((w32 ((band (shr v3_66 1) 1) + (band (shr v3_66 2) 1))) + (band (shr v3_66 3) 1))) - 1)), iv v1]) hR (dc dt_X11_boundNow 73 rfl) cl_X11_227 (ok_F11_lesser (rd_in _ _ _) (rd_in _ _ _)) (by decide) rfl (Nat.le_of_ble_eq_true rfl) rfl (fun q108r => ?_)
    show Go 111 [some (.ref (ad 83)), some (iv v1), some (iv v2), some (iv v3_66), some (iv (w32 ((w32 ((band (shr v3_66 1) 1) + (band (shr v3_66 2) 1))) + (band (shr v3_66 3) 1)))), none] [iv (F11_lesser (rd m 90 0) (rd m 90 2)), iv (w32 ((w32 ((w32 ((band (shr v3_66 1) 1) + (band (shr v3_66 2) 1))) + (band (shr v3_66 3) 1))) - 1)), iv v1] m
    refine r_imul (pc := 111) hR (dc dt_X11_boundNow 74 rfl) ?_
    refine r_iadd (pc := 112) hR (dc dt_X11_boundNow 75 rfl) ?_
    refine r_istore_n (pc := 113) (L' := [some (.ref (ad 83)), some (iv (w32 (v1 + (w32 ((w32 ((w32 ((w32 ((band (shr v3_66 1) 1) + (band (shr v3_66 2) 1))) + (band (shr v3_66 3) 1))) - 1)) * (F11_lesser (rd m 90 0) (rd m 90 2))))))), some (iv v2), some (iv v3_66), some (iv (w32 ((w32 ((band (shr v3_66 1) 1) + (band (shr v3_66 2) 1))) + (band (shr v3_66 3) 1)))), none]) hR (dc dt_X11_boundNow 76 rfl) (by decide) rfl rfl ?_
    refine r_weak (L' := [some (.ref (ad 83)), some (iv (w32 (v1 + (w32 ((w32 ((w32 ((w32 ((band (shr v3_66 1) 1) + (band (shr v3_66 2) 1))) + (band (shr v3_66 3) 1))) - 1)) * (F11_lesser (rd m 90 0) (rd m 90 2))))))), some (iv v2), none, none, none]) hR ⟨Or.inr rfl, Or.inr rfl, Or.inr rfl, Or.inl rfl, Or.inl rfl, Or.inr rfl, trivial⟩ ?_
    exact J114 (w32 (v1 + (w32 ((w32 ((w32 ((w32 ((band (shr v3_66 1) 1) + (band (shr v3_66 2) 1))) + (band (shr v3_66 3) 1))) - 1)) * (F11_lesser (rd m 90 0) (rd m 90 2)))))) (w32_in _) h
set_option maxRecDepth 100000 in
set_option maxHeartbeats 4000000 in
theorem ok_F11_boundNow {m : Mem}   {out : Int} (h : F11_boundNow m = some out) : CT l G cy ad tt yX11_boundNow cX11_boundNow 6 (some .int) 1 [.ref (ad 83)] m (some (iv out)) (inR out) m := by
  refine CT_of (by decide) (Nat.le_of_ble_eq_true rfl) (fun Go hR hT => ?_)
  replace hR : RS l G cy ad tt RX11 cX11_boundNow 6 1 Go := hR
  show Go 0 [some (.ref (ad 83)), none, none, none, none, none] [] m
  unfold F11_boundNow at h
  refine r_iconst (pc := 0) hR (dc dt_X11_boundNow 0 rfl) ?_
  refine r_istore_n (pc := 1) (L' := [some (.ref (ad 83)), some (iv 0), none, none, none, none]) hR (dc dt_X11_boundNow 1 rfl) (by decide) rfl rfl ?_
  refine r_iconst (pc := 2) hR (dc dt_X11_boundNow 2 rfl) ?_
  refine r_istore_n (pc := 3) (L' := [some (.ref (ad 83)), some (iv 0), some (iv 0), none, none, none]) hR (dc dt_X11_boundNow 3 rfl) (by decide) rfl rfl ?_
  refine lp_L11_boundNow_4 hR hT FU 0 0 (rg_c rfl) (rg_c rfl) h
def tb_X11_best : List (Nat × (Instr × Nat)) := [(0, (.iload_n 1, 1)), (1, (.iconst 0, 1)), (2, (.iconst 4, 1)), (3, (.invokestatic 134, 3)), (6, (.ifCond .ne 5, 3)), (9, (.iconst (-1), 1)), (10, (.ireturn, 1)), (11, (.aload_n 0, 1)), (12, (.getfield 260, 3)), (15, (.iconst 2, 1)), (16, (.if_icmp .ge 6, 3)), (19, (.bipush (-5), 2)), (21, (.ireturn, 1)), (22, (.iload_n 1, 1)), (23, (.iconst 3, 1)), (24, (.if_icmp .ne 8, 3)), (27, (.aload_n 0, 1)), (28, (.invokevirtual 280, 3)), (31, (.ireturn, 1)), (32, (.aload_n 0, 1)), (33, (.invokevirtual 283, 3)), (36, (.aload_n 0, 1)), (37, (.getfield 267, 3)), (40, (.ifCond .ne 6, 3)), (43, (.bipush (-2), 2)), (45, (.ireturn, 1)), (46, (.iload_n 1, 1)), (47, (.ifCond .ne 8, 3)), (50, (.aload_n 0, 1)), (51, (.getfield 270, 3)), (54, (.ireturn, 1)), (55, (.iload_n 1, 1)), (56, (.iconst 1, 1)), (57, (.if_icmp .ne 8, 3)), (60, (.aload_n 0, 1)), (61, (.getfield 267, 3)), (64, (.ireturn, 1)), (65, (.iload_n 1, 1)), (66, (.iconst 4, 1)), (67, (.if_icmp .ne 13, 3)), (70, (.aload_n 0, 1)), (71, (.getfield 270, 3)), (74, (.aload_n 0, 1)), (75, (.invokevirtual 280, 3)), (78, (.isub, 1)), (79, (.ireturn, 1)), (80, (.iconst 0, 1)), (81, (.istore_n 2, 1)), (82, (.iconst 0, 1)), (83, (.istore_n 3, 1)), (84, (.iload_n 3, 1)), (85, (.aload_n 0, 1)), (86, (.getfield 260, 3)), (89, (.if_icmp .ge 50, 3)), (92, (.iconst 0, 1)), (93, (.istore 4, 2)), (95, (.iload 4, 2)), (97, (.bipush 10, 2)), (99, (.if_icmp .ge 34, 3)), (102, (.aload_n 0, 1)), (103, (.getfield 78, 3)), (106, (.bipush 10, 2)), (108, (.iload_n 3, 1)), (109, (.imul, 1)), (110, (.iload 4, 2)), (112, (.iadd, 1)), (113, (.iaload, 1)), (114, (.aload_n 0, 1)), (115, (.getfield 267, 3)), (118, (.if_icmp .ne 9, 3)), (121, (.iload_n 2, 1)), (122, (.iconst 1, 1)), (123, (.iload_n 3, 1)), (124, (.ishl, 1)), (125, (.ior, 1)), (126, (.istore_n 2, 1)), (127, (.iinc 4 1, 3)), (130, (.goto (-35), 3)), (133, (.iinc 3 1, 3)), (136, (.goto (-52), 3)), (139, (.iload_n 2, 1)), (140, (.ireturn, 1))]
set_option maxRecDepth 100000 in
theorem dt_X11_best : (tb_X11_best.all fun q => decide (decode cX11_best q.1 = .ok q.2)) = true := by decide +kernel
set_option maxRecDepth 100000 in
set_option maxHeartbeats 4000000 in
theorem lp_L11_best_95 {Go : Nat → List (Option Value) → List Value → Mem → Prop} (hR : RS l G cy ad tt RX11 cX11_best 5 15 Go) {out : Int × Mem} {m : Mem} (hT : RT cX11_best (some (iv out.1)) (inR out.1) out.2 (some .int) Go) {v3 : Int} (qv3 : inR v3) {k133 : Int → Option (Int × Mem)} (hk133 : ∀ (v2 : Int), inR v2 → k133 v2 = some out → Go 133 [some (.ref (ad 83)), none, some (iv v2), some (iv v3), none] [] m) : ∀ (n : Nat) (v2 : Int) (v4 : Int), inR v2 → inR v4 → L11_best_95 m v3 k133 n v2 v4 = some out → Go 95 [some (.ref (ad 83)), none, some (iv v2), some (iv v3), some (iv v4)] [] m := by
  intro n
  induction n with
  | zero =>
    intro v2 v4 qv2 qv4 h
    cases h
  | succ n ih =>
    intro v2 v4 qv2 qv4 h
    rw [L11_best_95] at h
    refine r_iload (pc := 95) hR (dc dt_X11_best 56 rfl) rfl ?_
    refine r_bipush (pc := 97) hR (dc dt_X11_best 57 rfl) (by decide) ?_
    refine r_icmp_ge (pc := 99) (tgt := 133) hR (dc dt_X11_best 58 rfl) (by decide) qv4 (rg_c rfl) (fun hc => ?_) (fun hc => ?_)
    · replace h := ite_t hc h
      refine r_weak (L' := [some (.ref (ad 83)), none, some (iv v2), some (iv v3), none]) hR ⟨Or.inr rfl, Or.inr rfl, Or.inr rfl, Or.inr rfl, Or.inl rfl, trivial⟩ ?_
      exact hk133 v2 qv2 h
    replace h := ite_f hc h
    refine r_aload_n (pc := 102) hR (dc dt_X11_best 59 rfl) rfl ?_
    refine r_getr (pc := 103) (k2 := 106) hR (dc dt_X11_best 60 rfl) fl_X11_78 tc_83 rfl ?_
    refine r_bipush (pc := 106) hR (dc dt_X11_best 61 rfl) (by decide) ?_
    refine r_iload_n (pc := 108) hR (dc dt_X11_best 62 rfl) rfl ?_
    refine r_imul (pc := 109) hR (dc dt_X11_best 63 rfl) ?_
    refine r_iload (pc := 110) hR (dc dt_X11_best 64 rfl) rfl ?_
    refine r_iadd (pc := 112) hR (dc dt_X11_best 65 rfl) ?_
    obtain ⟨g1, h⟩ := gd_some h
    refine r_iald (pc := 113) hR (dc dt_X11_best 66 rfl) tc_106 g1 (w32_in _) ?_
    refine r_aload_n (pc := 114) hR (dc dt_X11_best 67 rfl) rfl ?_
    refine r_geti (pc := 115) hR (dc dt_X11_best 68 rfl) fl_X11_267 tc_83 rfl ?_
    refine jn_e h (fun (K : Int → Option (Int × Mem)) => ∀ (v2_127 : Int), inR v2_127 → K v2_127 = some out → Go 127 [some (.ref (ad 83)), none, some (iv v2_127), some (iv v3), some (iv v4)] [] m) (fun v2_127 qv2_127 h => ?_) (fun K127 J127 h => ?_)
    · refine r_iinc (pc := 127) (L' := [some (.ref (ad 83)), none, some (iv v2_127), some (iv v3), some (iv (w32 (v4 + 1)))]) hR (dc dt_X11_best 76 rfl) rfl (by decide) rfl rfl ?_
      refine r_goto (pc := 130) (tgt := 95) hR (dc dt_X11_best 77 rfl) (by decide) ?_
      exact ih v2_127 (w32 (v4 + 1)) qv2_127 (w32_in _) h
    refine r_icmp_ne (pc := 118) (tgt := 127) hR (dc dt_X11_best 69 rfl) (by decide) (rd_in _ _ _) (rd_in _ _ _) (fun hc => ?_) (fun hc => ?_)
    · replace h := ite_t hc h
      exact J127 v2 qv2 h
    replace h := ite_f hc h
    refine r_iload_n (pc := 121) hR (dc dt_X11_best 70 rfl) rfl ?_
    refine r_iconst (pc := 122) hR (dc dt_X11_best 71 rfl) ?_
    refine r_iload_n (pc := 123) hR (dc dt_X11_best 72 rfl) rfl ?_
    refine r_ishl (pc := 124) hR (dc dt_X11_best 73 rfl) ?_
    refine r_ior (pc := 125) hR (dc dt_X11_best 74 rfl) ?_
    refine r_istore_n (pc := 126) (L' := [some (.ref (ad 83)), none, some (iv (bor v2 (shl 1 v3))), some (iv v3), some (iv v4)]) hR (dc dt_X11_best 75 rfl) (by decide) rfl rfl ?_
    exact J127 (bor v2 (shl 1 v3)) (ti_in _) h
set_option maxRecDepth 100000 in
set_option maxHeartbeats 4000000 in
theorem lp_L11_best_84 {Go : Nat → List (Option Value) → List Value → Mem → Prop} (hR : RS l G cy ad tt RX11 cX11_best 5 15 Go) {out : Int × Mem} {m : Mem} (hT : RT cX11_best (some (iv out.1)) (inR out.1) out.2 (some .int) Go) : ∀ (n : Nat) (v2 : Int) (v3 : Int), inR v2 → inR v3 → L11_best_84 m n v2 v3 = some out → Go 84 [some (.ref (ad 83)), none, some (iv v2), some (iv v3), none] [] m := by
  intro n
  induction n with
  | zero =>
    intro v2 v3 qv2 qv3 h
    cases h
  | succ n ih =>
    intro v2 v3 qv2 qv3 h
    rw [L11_best_84] at h
    refine r_iload_n (pc := 84) hR (dc dt_X11_best 50 rfl) rfl ?_
    refine r_aload_n (pc := 85) hR (dc dt_X11_best 51 rfl) rfl ?_
    refine r_geti (pc := 86) hR (dc dt_X11_best 52 rfl) fl_X11_260 tc_83 rfl ?_
    refine r_icmp_ge (pc := 89) (tgt := 139) hR (dc dt_X11_best 53 rfl) (by decide) qv3 (rd_in _ _ _) (fun hc => ?_) (fun hc => ?_)
    · replace h := ite_t hc h
      refine r_iload_n (pc := 139) hR (dc dt_X11_best 80 rfl) rfl ?_
      exact r_iret hT (dc dt_X11_best 81 rfl) (congrArg Prod.fst (Option.some.inj h)) (congrArg Prod.snd (Option.some.inj h)) qv2
    replace h := ite_f hc h
    refine r_iconst (pc := 92) hR (dc dt_X11_best 54 rfl) ?_
    refine r_istore (pc := 93) (L' := [some (.ref (ad 83)), none, some (iv v2), some (iv v3), some (iv 0)]) hR (dc dt_X11_best 55 rfl) (by decide) rfl rfl ?_
    refine lp_L11_best_95 hR hT qv3 (fun v2_133 qv2_133 h => ?_) FU v2 0 qv2 (rg_c rfl) h
    show Go 133 [some (.ref (ad 83)), none, some (iv v2_133), some (iv v3), none] [] m
    refine r_iinc (pc := 133) (L' := [some (.ref (ad 83)), none, some (iv v2_133), some (iv (w32 (v3 + 1))), none]) hR (dc dt_X11_best 78 rfl) rfl (by decide) rfl rfl ?_
    refine r_goto (pc := 136) (tgt := 84) hR (dc dt_X11_best 79 rfl) (by decide) ?_
    exact ih v2_133 (w32 (v3 + 1)) qv2_133 (w32_in _) h
set_option maxRecDepth 100000 in
set_option maxHeartbeats 4000000 in
theorem ok_F11_best {m : Mem}  {v1 : Int} (q1 : inR v1) {out : Int × Mem} (h : F11_best m v1 = some out) : CT l G cy ad tt yX11_best cX11_best 5 (some .int) 15 [.ref (ad 83), iv v1] m (some (iv out.1)) (inR out.1) out.2 := by
  refine CT_of (by decide) (Nat.le_of_ble_eq_true rfl) (fun Go hR hT => ?_)
  replace hR : RS l G cy ad tt RX11 cX11_best 5 15 Go := hR
  show Go 0 [some (.ref (ad 83)), some (iv v1), none, none, none] [] m
  unfold F11_best at h
  refine r_iload_n (pc := 0) hR (dc dt_X11_best 0 rfl) rfl ?_
  refine r_iconst (pc := 1) hR (dc dt_X11_best 1 rfl) ?_
  refine r_iconst (pc := 2) hR (dc dt_X11_best 2 rfl) ?_
  refine r_callS (pc := 3) (rest := []) hR (dc dt_X11_best 3 rfl) cl_X11_134 (ok_F11_in q1 (rg_c rfl) (rg_c rfl)) (by decide) rfl (Nat.le_of_ble_eq_true rfl) rfl (fun q3r => ?_)
  show Go 6 [some (.ref (ad 83)), some (iv v1), none, none, none] [iv (F11_in v1 0 4)] m
  refine r_if_ne (pc := 6) (tgt := 11) hR (dc dt_X11_best 4 rfl) (by decide) (inZ_R q3r) (fun hc => ?_) (fun hc => ?_)
  · replace h := ite_t hc h
    refine r_aload_n (pc := 11) hR (dc dt_X11_best 7 rfl) rfl ?_
    refine r_geti (pc := 12) hR (dc dt_X11_best 8 rfl) fl_X11_260 tc_83 rfl ?_
    refine r_iconst (pc := 15) hR (dc dt_X11_best 9 rfl) ?_
    refine r_icmp_ge (pc := 16) (tgt := 22) hR (dc dt_X11_best 10 rfl) (by decide) (rd_in _ _ _) (rg_c rfl) (fun hc => ?_) (fun hc => ?_)
    · replace h := ite_t hc h
      refine r_iload_n (pc := 22) hR (dc dt_X11_best 13 rfl) rfl ?_
      refine r_iconst (pc := 23) hR (dc dt_X11_best 14 rfl) ?_
      refine r_icmp_ne (pc := 24) (tgt := 32) hR (dc dt_X11_best 15 rfl) (by decide) q1 (rg_c rfl) (fun hc => ?_) (fun hc => ?_)
      · replace h := ite_t hc h
        refine r_aload_n (pc := 32) hR (dc dt_X11_best 19 rfl) rfl ?_
        obtain ⟨m33, e33, h⟩ := b1_some h
        refine r_callV (pc := 33) (rest := []) hR (dc dt_X11_best 20 rfl) cl_X11_283 tc_83 rfl (ok_F11_findBest  e33) (by decide) rfl (Nat.le_of_ble_eq_true rfl) rfl (fun q33r => ?_)
        show Go 36 [some (.ref (ad 83)), some (iv v1), none, none, none] [] m33
        refine r_aload_n (pc := 36) hR (dc dt_X11_best 21 rfl) rfl ?_
        refine r_geti (pc := 37) hR (dc dt_X11_best 22 rfl) fl_X11_267 tc_83 rfl ?_
        refine r_if_ne (pc := 40) (tgt := 46) hR (dc dt_X11_best 23 rfl) (by decide) (rd_in _ _ _) (fun hc => ?_) (fun hc => ?_)
        · replace h := ite_t hc h
          refine r_iload_n (pc := 46) hR (dc dt_X11_best 26 rfl) rfl ?_
          refine r_if_ne (pc := 47) (tgt := 55) hR (dc dt_X11_best 27 rfl) (by decide) q1 (fun hc => ?_) (fun hc => ?_)
          · replace h := ite_t hc h
            refine r_iload_n (pc := 55) hR (dc dt_X11_best 31 rfl) rfl ?_
            refine r_iconst (pc := 56) hR (dc dt_X11_best 32 rfl) ?_
            refine r_icmp_ne (pc := 57) (tgt := 65) hR (dc dt_X11_best 33 rfl) (by decide) q1 (rg_c rfl) (fun hc => ?_) (fun hc => ?_)
            · replace h := ite_t hc h
              refine r_iload_n (pc := 65) hR (dc dt_X11_best 37 rfl) rfl ?_
              refine r_iconst (pc := 66) hR (dc dt_X11_best 38 rfl) ?_
              refine r_icmp_ne (pc := 67) (tgt := 80) hR (dc dt_X11_best 39 rfl) (by decide) q1 (rg_c rfl) (fun hc => ?_) (fun hc => ?_)
              · replace h := ite_t hc h
                refine r_iconst (pc := 80) hR (dc dt_X11_best 46 rfl) ?_
                refine r_istore_n (pc := 81) (L' := [some (.ref (ad 83)), some (iv v1), some (iv 0), none, none]) hR (dc dt_X11_best 47 rfl) (by decide) rfl rfl ?_
                refine r_iconst (pc := 82) hR (dc dt_X11_best 48 rfl) ?_
                refine r_istore_n (pc := 83) (L' := [some (.ref (ad 83)), some (iv v1), some (iv 0), some (iv 0), none]) hR (dc dt_X11_best 49 rfl) (by decide) rfl rfl ?_
                refine r_weak (L' := [some (.ref (ad 83)), none, some (iv 0), some (iv 0), none]) hR ⟨Or.inr rfl, Or.inl rfl, Or.inr rfl, Or.inr rfl, Or.inr rfl, trivial⟩ ?_
                refine lp_L11_best_84 hR hT FU 0 0 (rg_c rfl) (rg_c rfl) h
              replace h := ite_f hc h
              refine r_aload_n (pc := 70) hR (dc dt_X11_best 40 rfl) rfl ?_
              refine r_geti (pc := 71) hR (dc dt_X11_best 41 rfl) fl_X11_270 tc_83 rfl ?_
              refine r_aload_n (pc := 74) hR (dc dt_X11_best 42 rfl) rfl ?_
              obtain ⟨r75, e75, h⟩ := b1_some h
              refine r_callV (pc := 75) (rest := [iv (rd m33 83 32)]) hR (dc dt_X11_best 43 rfl) cl_X11_280 tc_83 rfl (ok_F11_boundNow  e75) (by decide) rfl (Nat.le_of_ble_eq_true rfl) rfl (fun q75r => ?_)
              show Go 78 [some (.ref (ad 83)), some (iv v1), none, none, none] [iv r75, iv (rd m33 83 32)] m33
              refine r_isub (pc := 78) hR (dc dt_X11_best 44 rfl) ?_
              exact r_iret hT (dc dt_X11_best 45 rfl) (congrArg Prod.fst (Option.some.inj h)) (congrArg Prod.snd (Option.some.inj h)) (w32_in _)
            replace h := ite_f hc h
            refine r_aload_n (pc := 60) hR (dc dt_X11_best 34 rfl) rfl ?_
            refine r_geti (pc := 61) hR (dc dt_X11_best 35 rfl) fl_X11_267 tc_83 rfl ?_
            exact r_iret hT (dc dt_X11_best 36 rfl) (congrArg Prod.fst (Option.some.inj h)) (congrArg Prod.snd (Option.some.inj h)) (rd_in _ _ _)
          replace h := ite_f hc h
          refine r_aload_n (pc := 50) hR (dc dt_X11_best 28 rfl) rfl ?_
          refine r_geti (pc := 51) hR (dc dt_X11_best 29 rfl) fl_X11_270 tc_83 rfl ?_
          exact r_iret hT (dc dt_X11_best 30 rfl) (congrArg Prod.fst (Option.some.inj h)) (congrArg Prod.snd (Option.some.inj h)) (rd_in _ _ _)
        replace h := ite_f hc h
        refine r_bipush (pc := 43) hR (dc dt_X11_best 24 rfl) (by decide) ?_
        exact r_iret hT (dc dt_X11_best 25 rfl) (congrArg Prod.fst (Option.some.inj h)) (congrArg Prod.snd (Option.some.inj h)) (rg_c rfl)
      replace h := ite_f hc h
      refine r_aload_n (pc := 27) hR (dc dt_X11_best 16 rfl) rfl ?_
      obtain ⟨r28, e28, h⟩ := b1_some h
      refine r_callV (pc := 28) (rest := []) hR (dc dt_X11_best 17 rfl) cl_X11_280 tc_83 rfl (ok_F11_boundNow  e28) (by decide) rfl (Nat.le_of_ble_eq_true rfl) rfl (fun q28r => ?_)
      show Go 31 [some (.ref (ad 83)), some (iv v1), none, none, none] [iv r28] m
      exact r_iret hT (dc dt_X11_best 18 rfl) (congrArg Prod.fst (Option.some.inj h)) (congrArg Prod.snd (Option.some.inj h)) q28r
    replace h := ite_f hc h
    refine r_bipush (pc := 19) hR (dc dt_X11_best 11 rfl) (by decide) ?_
    exact r_iret hT (dc dt_X11_best 12 rfl) (congrArg Prod.fst (Option.some.inj h)) (congrArg Prod.snd (Option.some.inj h)) (rg_c rfl)
  replace h := ite_f hc h
  refine r_iconst (pc := 9) hR (dc dt_X11_best 5 rfl) ?_
  exact r_iret hT (dc dt_X11_best 6 rfl) (congrArg Prod.fst (Option.some.inj h)) (congrArg Prod.snd (Option.some.inj h)) (rg_c rfl)
def tb_X11_tree : List (Nat × (Instr × Nat)) := [(0, (.iload_n 2, 1)), (1, (.iconst 0, 1)), (2, (.aload_n 0, 1)), (3, (.getfield 260, 3)), (6, (.iconst 1, 1)), (7, (.isub, 1)), (8, (.invokestatic 134, 3)), (11, (.ifCond .eq 7, 3)), (14, (.iload_n 1, 1)), (15, (.ifCond .ge 5, 3)), (18, (.iconst (-1), 1)), (19, (.ireturn, 1)), (20, (.aload_n 0, 1)), (21, (.getfield 260, 3)), (24, (.iconst 2, 1)), (25, (.if_icmp .ge 6, 3)), (28, (.bipush (-5), 2)), (30, (.ireturn, 1)), (31, (.aload_n 0, 1)), (32, (.invokevirtual 283, 3)), (35, (.aload_n 0, 1)), (36, (.getfield 267, 3)), (39, (.ifCond .ne 6, 3)), (42, (.bipush (-2), 2)), (44, (.ireturn, 1)), (45, (.iload_n 1, 1)), (46, (.aload_n 0, 1)), (47, (.getfield 267, 3)), (50, (.if_icmp .lt 5, 3)), (53, (.iconst (-1), 1)), (54, (.ireturn, 1)), (55, (.aload_n 0, 1)), (56, (.getfield 75, 3)), (59, (.iload_n 1, 1)), (60, (.iaload, 1)), (61, (.istore_n 3, 1)), (62, (.aload_n 0, 1)), (63, (.getfield 260, 3)), (66, (.iconst 1, 1)), (67, (.isub, 1)), (68, (.istore 4, 2)), (70, (.iload 4, 2)), (72, (.iload_n 2, 1)), (73, (.if_icmp .le 14, 3)), (76, (.iload_n 3, 1)), (77, (.bipush 10, 2)), (79, (.idiv, 1)), (80, (.istore_n 3, 1)), (81, (.iinc 4 (-1), 3)), (84, (.goto (-14), 3)), (87, (.iload_n 3, 1)), (88, (.bipush 10, 2)), (90, (.irem, 1)), (91, (.ireturn, 1))]
set_option maxRecDepth 100000 in
theorem dt_X11_tree : (tb_X11_tree.all fun q => decide (decode cX11_tree q.1 = .ok q.2)) = true := by decide +kernel
set_option maxRecDepth 100000 in
set_option maxHeartbeats 4000000 in
theorem lp_L11_tree_70 {Go : Nat → List (Option Value) → List Value → Mem → Prop} (hR : RS l G cy ad tt RX11 cX11_tree 5 15 Go) {out : Int × Mem} {m : Mem} (hT : RT cX11_tree (some (iv out.1)) (inR out.1) out.2 (some .int) Go) {v2 : Int} (qv2 : inR v2) {k87 : Int → Option (Int × Mem)} (hk87 : ∀ (v3 : Int), inR v3 → k87 v3 = some out → Go 87 [none, none, none, some (iv v3), none] [] m) : ∀ (n : Nat) (v3 : Int) (v4 : Int), inR v3 → inR v4 → L11_tree_70 v2 k87 n v3 v4 = some out → Go 70 [none, none, some (iv v2), some (iv v3), some (iv v4)] [] m := by
  intro n
  induction n with
  | zero =>
    intro v3 v4 qv3 qv4 h
    cases h
  | succ n ih =>
    intro v3 v4 qv3 qv4 h
    rw [L11_tree_70] at h
    refine r_iload (pc := 70) hR (dc dt_X11_tree 41 rfl) rfl ?_
    refine r_iload_n (pc := 72) hR (dc dt_X11_tree 42 rfl) rfl ?_
    refine r_icmp_le (pc := 73) (tgt := 87) hR (dc dt_X11_tree 43 rfl) (by decide) qv4 qv2 (fun hc => ?_) (fun hc => ?_)
    · replace h := ite_t hc h
      refine r_weak (L' := [none, none, none, some (iv v3), none]) hR ⟨Or.inr rfl, Or.inr rfl, Or.inl rfl, Or.inr rfl, Or.inl rfl, trivial⟩ ?_
      exact hk87 v3 qv3 h
    replace h := ite_f hc h
    refine r_iload_n (pc := 76) hR (dc dt_X11_tree 44 rfl) rfl ?_
    refine r_bipush (pc := 77) hR (dc dt_X11_tree 45 rfl) (by decide) ?_
    refine r_idiv (pc := 79) hR (dc dt_X11_tree 46 rfl) (by decide) (rg_c rfl) ?_
    refine r_istore_n (pc := 80) (L' := [none, none, some (iv v2), some (iv (idv v3 10)), some (iv v4)]) hR (dc dt_X11_tree 47 rfl) (by decide) rfl rfl ?_
    refine r_iinc (pc := 81) (L' := [none, none, some (iv v2), some (iv (idv v3 10)), some (iv (w32 (v4 + (-1))))]) hR (dc dt_X11_tree 48 rfl) rfl (by decide) rfl rfl ?_
    refine r_goto (pc := 84) (tgt := 70) hR (dc dt_X11_tree 49 rfl) (by decide) ?_
    exact ih (idv v3 10) (w32 (v4 + (-1))) (ti_in _) (w32_in _) h
set_option maxRecDepth 100000 in
set_option maxHeartbeats 4000000 in
theorem ok_F11_tree {m : Mem}  {v1 v2 : Int} (q1 : inR v1) (q2 : inR v2) {out : Int × Mem} (h : F11_tree m v1 v2 = some out) : CT l G cy ad tt yX11_tree cX11_tree 5 (some .int) 15 [.ref (ad 83), iv v1, iv v2] m (some (iv out.1)) (inR out.1) out.2 := by
  refine CT_of (by decide) (Nat.le_of_ble_eq_true rfl) (fun Go hR hT => ?_)
  replace hR : RS l G cy ad tt RX11 cX11_tree 5 15 Go := hR
  show Go 0 [some (.ref (ad 83)), some (iv v1), some (iv v2), none, none] [] m
  unfold F11_tree at h
  refine r_iload_n (pc := 0) hR (dc dt_X11_tree 0 rfl) rfl ?_
  refine r_iconst (pc := 1) hR (dc dt_X11_tree 1 rfl) ?_
  refine r_aload_n (pc := 2) hR (dc dt_X11_tree 2 rfl) rfl ?_
  refine r_geti (pc := 3) hR (dc dt_X11_tree 3 rfl) fl_X11_260 tc_83 rfl ?_
  refine r_iconst (pc := 6) hR (dc dt_X11_tree 4 rfl) ?_
  refine r_isub (pc := 7) hR (dc dt_X11_tree 5 rfl) ?_
  refine r_callS (pc := 8) (rest := []) hR (dc dt_X11_tree 6 rfl) cl_X11_134 (ok_F11_in q2 (rg_c rfl) (w32_in _)) (by decide) rfl (Nat.le_of_ble_eq_true rfl) rfl (fun q8r => ?_)
  show Go 11 [some (.ref (ad 83)), some (iv v1), some (iv v2), none, none] [iv (F11_in v2 0 (w32 ((rd m 83 28) - 1)))] m
  refine r_if_eq (pc := 11) (tgt := 18) hR (dc dt_X11_tree 7 rfl) (by decide) (inZ_R q8r) (fun hc => ?_) (fun hc => ?_)
  · replace h := ite_t hc h
    refine r_iconst (pc := 18) hR (dc dt_X11_tree 10 rfl) ?_
    exact r_iret hT (dc dt_X11_tree 11 rfl) (congrArg Prod.fst (Option.some.inj h)) (congrArg Prod.snd (Option.some.inj h)) (rg_c rfl)
  replace h := ite_f hc h
  refine r_iload_n (pc := 14) hR (dc dt_X11_tree 8 rfl) rfl ?_
  refine r_if_ge (pc := 15) (tgt := 20) hR (dc dt_X11_tree 9 rfl) (by decide) q1 (fun hc => ?_) (fun hc => ?_)
  · replace h := ite_t hc h
    refine r_aload_n (pc := 20) hR (dc dt_X11_tree 12 rfl) rfl ?_
    refine r_geti (pc := 21) hR (dc dt_X11_tree 13 rfl) fl_X11_260 tc_83 rfl ?_
    refine r_iconst (pc := 24) hR (dc dt_X11_tree 14 rfl) ?_
    refine r_icmp_ge (pc := 25) (tgt := 31) hR (dc dt_X11_tree 15 rfl) (by decide) (rd_in _ _ _) (rg_c rfl) (fun hc => ?_) (fun hc => ?_)
    · replace h := ite_t hc h
      refine r_aload_n (pc := 31) hR (dc dt_X11_tree 18 rfl) rfl ?_
      obtain ⟨m32, e32, h⟩ := b1_some h
      refine r_callV (pc := 32) (rest := []) hR (dc dt_X11_tree 19 rfl) cl_X11_283 tc_83 rfl (ok_F11_findBest  e32) (by decide) rfl (Nat.le_of_ble_eq_true rfl) rfl (fun q32r => ?_)
      show Go 35 [some (.ref (ad 83)), some (iv v1), some (iv v2), none, none] [] m32
      refine r_aload_n (pc := 35) hR (dc dt_X11_tree 20 rfl) rfl ?_
      refine r_geti (pc := 36) hR (dc dt_X11_tree 21 rfl) fl_X11_267 tc_83 rfl ?_
      refine r_if_ne (pc := 39) (tgt := 45) hR (dc dt_X11_tree 22 rfl) (by decide) (rd_in _ _ _) (fun hc => ?_) (fun hc => ?_)
      · replace h := ite_t hc h
        refine r_iload_n (pc := 45) hR (dc dt_X11_tree 25 rfl) rfl ?_
        refine r_aload_n (pc := 46) hR (dc dt_X11_tree 26 rfl) rfl ?_
        refine r_geti (pc := 47) hR (dc dt_X11_tree 27 rfl) fl_X11_267 tc_83 rfl ?_
        refine r_icmp_lt (pc := 50) (tgt := 55) hR (dc dt_X11_tree 28 rfl) (by decide) q1 (rd_in _ _ _) (fun hc => ?_) (fun hc => ?_)
        · replace h := ite_t hc h
          refine r_aload_n (pc := 55) hR (dc dt_X11_tree 31 rfl) rfl ?_
          refine r_getr (pc := 56) (k2 := 105) hR (dc dt_X11_tree 32 rfl) fl_X11_75 tc_83 rfl ?_
          refine r_iload_n (pc := 59) hR (dc dt_X11_tree 33 rfl) rfl ?_
          obtain ⟨g1, h⟩ := gd_some h
          refine r_iald (pc := 60) hR (dc dt_X11_tree 34 rfl) tc_105 g1 q1 ?_
          refine r_istore_n (pc := 61) (L' := [some (.ref (ad 83)), some (iv v1), some (iv v2), some (iv (rd m32 105 v1)), none]) hR (dc dt_X11_tree 35 rfl) (by decide) rfl rfl ?_
          refine r_aload_n (pc := 62) hR (dc dt_X11_tree 36 rfl) rfl ?_
          refine r_geti (pc := 63) hR (dc dt_X11_tree 37 rfl) fl_X11_260 tc_83 rfl ?_
          refine r_iconst (pc := 66) hR (dc dt_X11_tree 38 rfl) ?_
          refine r_isub (pc := 67) hR (dc dt_X11_tree 39 rfl) ?_
          refine r_istore (pc := 68) (L' := [some (.ref (ad 83)), some (iv v1), some (iv v2), some (iv (rd m32 105 v1)), some (iv (w32 ((rd m32 83 28) - 1)))]) hR (dc dt_X11_tree 40 rfl) (by decide) rfl rfl ?_
          refine r_weak (L' := [none, none, some (iv v2), some (iv (rd m32 105 v1)), some (iv (w32 ((rd m32 83 28) - 1)))]) hR ⟨Or.inl rfl, Or.inl rfl, Or.inr rfl, Or.inr rfl, Or.inr rfl, trivial⟩ ?_
          refine lp_L11_tree_70 hR hT q2 (fun v3_87 qv3_87 h => ?_) FU (rd m32 105 v1) (w32 ((rd m32 83 28) - 1)) (rd_in _ _ _) (w32_in _) h
          show Go 87 [none, none, none, some (iv v3_87), none] [] m32
          refine r_iload_n (pc := 87) hR (dc dt_X11_tree 50 rfl) rfl ?_
          refine r_bipush (pc := 88) hR (dc dt_X11_tree 51 rfl) (by decide) ?_
          refine r_irem (pc := 90) hR (dc dt_X11_tree 52 rfl) (by decide) (rg_c rfl) ?_
          exact r_iret hT (dc dt_X11_tree 53 rfl) (congrArg Prod.fst (Option.some.inj h)) (congrArg Prod.snd (Option.some.inj h)) (ti_in _)
        replace h := ite_f hc h
        refine r_iconst (pc := 53) hR (dc dt_X11_tree 29 rfl) ?_
        exact r_iret hT (dc dt_X11_tree 30 rfl) (congrArg Prod.fst (Option.some.inj h)) (congrArg Prod.snd (Option.some.inj h)) (rg_c rfl)
      replace h := ite_f hc h
      refine r_bipush (pc := 42) hR (dc dt_X11_tree 23 rfl) (by decide) ?_
      exact r_iret hT (dc dt_X11_tree 24 rfl) (congrArg Prod.fst (Option.some.inj h)) (congrArg Prod.snd (Option.some.inj h)) (rg_c rfl)
    replace h := ite_f hc h
    refine r_bipush (pc := 28) hR (dc dt_X11_tree 16 rfl) (by decide) ?_
    exact r_iret hT (dc dt_X11_tree 17 rfl) (congrArg Prod.fst (Option.some.inj h)) (congrArg Prod.snd (Option.some.inj h)) (rg_c rfl)
  replace h := ite_f hc h
  refine r_iconst (pc := 18) hR (dc dt_X11_tree 10 rfl) ?_
  exact r_iret hT (dc dt_X11_tree 11 rfl) (congrArg Prod.fst (Option.some.inj h)) (congrArg Prod.snd (Option.some.inj h)) (rg_c rfl)
def tb_X11_never : List (Nat × (Instr × Nat)) := [(0, (.iload_n 1, 1)), (1, (.iconst 0, 1)), (2, (.aload_n 0, 1)), (3, (.getfield 260, 3)), (6, (.iconst 1, 1)), (7, (.isub, 1)), (8, (.invokestatic 134, 3)), (11, (.ifCond .ne 5, 3)), (14, (.iconst (-1), 1)), (15, (.ireturn, 1)), (16, (.aload_n 0, 1)), (17, (.getfield 260, 3)), (20, (.iconst 2, 1)), (21, (.if_icmp .ge 6, 3)), (24, (.bipush (-5), 2)), (26, (.ireturn, 1)), (27, (.aload_n 0, 1)), (28, (.invokevirtual 283, 3)), (31, (.aload_n 0, 1)), (32, (.getfield 267, 3)), (35, (.ifCond .ne 6, 3)), (38, (.bipush (-2), 2)), (40, (.ireturn, 1)), (41, (.iconst 0, 1)), (42, (.istore_n 2, 1)), (43, (.iconst 0, 1)), (44, (.istore_n 3, 1)), (45, (.iload_n 3, 1)), (46, (.aload_n 0, 1)), (47, (.getfield 260, 3)), (50, (.if_icmp .ge 29, 3)), (53, (.aload_n 0, 1)), (54, (.getfield 78, 3)), (57, (.bipush 10, 2)), (59, (.iload_n 1, 1)), (60, (.imul, 1)), (61, (.iload_n 3, 1)), (62, (.iadd, 1)), (63, (.iaload, 1)), (64, (.ifCond .ne 9, 3)), (67, (.iload_n 2, 1)), (68, (.iconst 1, 1)), (69, (.iload_n 3, 1)), (70, (.ishl, 1)), (71, (.ior, 1)), (72, (.istore_n 2, 1)), (73, (.iinc 3 1, 3)), (76, (.goto (-31), 3)), (79, (.iload_n 2, 1)), (80, (.ireturn, 1))]
set_option maxRecDepth 100000 in
theorem dt_X11_never : (tb_X11_never.all fun q => decide (decode cX11_never q.1 = .ok q.2)) = true := by decide +kernel
set_option maxRecDepth 100000 in
set_option maxHeartbeats 4000000 in
theorem lp_L11_never_45 {Go : Nat → List (Option Value) → List Value → Mem → Prop} (hR : RS l G cy ad tt RX11 cX11_never 4 15 Go) {out : Int × Mem} {m : Mem} (hT : RT cX11_never (some (iv out.1)) (inR out.1) out.2 (some .int) Go) {v1 : Int} (qv1 : inR v1) : ∀ (n : Nat) (v2 : Int) (v3 : Int), inR v2 → inR v3 → L11_never_45 m v1 n v2 v3 = some out → Go 45 [some (.ref (ad 83)), some (iv v1), some (iv v2), some (iv v3)] [] m := by
  intro n
  induction n with
  | zero =>
    intro v2 v3 qv2 qv3 h
    cases h
  | succ n ih =>
    intro v2 v3 qv2 qv3 h
    rw [L11_never_45] at h
    refine r_iload_n (pc := 45) hR (dc dt_X11_never 27 rfl) rfl ?_
    refine r_aload_n (pc := 46) hR (dc dt_X11_never 28 rfl) rfl ?_
    refine r_geti (pc := 47) hR (dc dt_X11_never 29 rfl) fl_X11_260 tc_83 rfl ?_
    refine r_icmp_ge (pc := 50) (tgt := 79) hR (dc dt_X11_never 30 rfl) (by decide) qv3 (rd_in _ _ _) (fun hc => ?_) (fun hc => ?_)
    · replace h := ite_t hc h
      refine r_iload_n (pc := 79) hR (dc dt_X11_never 48 rfl) rfl ?_
      exact r_iret hT (dc dt_X11_never 49 rfl) (congrArg Prod.fst (Option.some.inj h)) (congrArg Prod.snd (Option.some.inj h)) qv2
    replace h := ite_f hc h
    refine r_aload_n (pc := 53) hR (dc dt_X11_never 31 rfl) rfl ?_
    refine r_getr (pc := 54) (k2 := 106) hR (dc dt_X11_never 32 rfl) fl_X11_78 tc_83 rfl ?_
    refine r_bipush (pc := 57) hR (dc dt_X11_never 33 rfl) (by decide) ?_
    refine r_iload_n (pc := 59) hR (dc dt_X11_never 34 rfl) rfl ?_
    refine r_imul (pc := 60) hR (dc dt_X11_never 35 rfl) ?_
    refine r_iload_n (pc := 61) hR (dc dt_X11_never 36 rfl) rfl ?_
    refine r_iadd (pc := 62) hR (dc dt_X11_never 37 rfl) ?_
    obtain ⟨g1, h⟩ := gd_some h
    refine r_iald (pc := 63) hR (dc dt_X11_never 38 rfl) tc_106 g1 (w32_in _) ?_
    refine jn_e h (fun (K : Int → Option (Int × Mem)) => ∀ (v2_73 : Int), inR v2_73 → K v2_73 = some out → Go 73 [some (.ref (ad 83)), some (iv v1), some (iv v2_73), some (iv v3)] [] m) (fun v2_73 qv2_73 h => ?_) (fun K73 J73 h => ?_)
    · refine r_iinc (pc := 73) (L' := [some (.ref (ad 83)), some (iv v1), some (iv v2_73), some (iv (w32 (v3 + 1)))]) hR (dc dt_X11_never 46 rfl) rfl (by decide) rfl rfl ?_
      refine r_goto (pc := 76) (tgt := 45) hR (dc dt_X11_never 47 rfl) (by decide) ?_
      exact ih v2_73 (w32 (v3 + 1)) qv2_73 (w32_in _) h
    refine r_if_ne (pc := 64) (tgt := 73) hR (dc dt_X11_never 39 rfl) (by decide) (rd_in _ _ _) (fun hc => ?_) (fun hc => ?_)
    · replace h := ite_t hc h
      exact J73 v2 qv2 h
    replace h := ite_f hc h
    refine r_iload_n (pc := 67) hR (dc dt_X11_never 40 rfl) rfl ?_
    refine r_iconst (pc := 68) hR (dc dt_X11_never 41 rfl) ?_
    refine r_iload_n (pc := 69) hR (dc dt_X11_never 42 rfl) rfl ?_
    refine r_ishl (pc := 70) hR (dc dt_X11_never 43 rfl) ?_
    refine r_ior (pc := 71) hR (dc dt_X11_never 44 rfl) ?_
    refine r_istore_n (pc := 72) (L' := [some (.ref (ad 83)), some (iv v1), some (iv (bor v2 (shl 1 v3))), some (iv v3)]) hR (dc dt_X11_never 45 rfl) (by decide) rfl rfl ?_
    exact J73 (bor v2 (shl 1 v3)) (ti_in _) h
set_option maxRecDepth 100000 in
set_option maxHeartbeats 4000000 in
theorem ok_F11_never {m : Mem}  {v1 : Int} (q1 : inR v1) {out : Int × Mem} (h : F11_never m v1 = some out) : CT l G cy ad tt yX11_never cX11_never 4 (some .int) 15 [.ref (ad 83), iv v1] m (some (iv out.1)) (inR out.1) out.2 := by
  refine CT_of (by decide) (Nat.le_of_ble_eq_true rfl) (fun Go hR hT => ?_)
  replace hR : RS l G cy ad tt RX11 cX11_never 4 15 Go := hR
  show Go 0 [some (.ref (ad 83)), some (iv v1), none, none] [] m
  unfold F11_never at h
  refine r_iload_n (pc := 0) hR (dc dt_X11_never 0 rfl) rfl ?_
  refine r_iconst (pc := 1) hR (dc dt_X11_never 1 rfl) ?_
  refine r_aload_n (pc := 2) hR (dc dt_X11_never 2 rfl) rfl ?_
  refine r_geti (pc := 3) hR (dc dt_X11_never 3 rfl) fl_X11_260 tc_83 rfl ?_
  refine r_iconst (pc := 6) hR (dc dt_X11_never 4 rfl) ?_
  refine r_isub (pc := 7) hR (dc dt_X11_never 5 rfl) ?_
  refine r_callS (pc := 8) (rest := []) hR (dc dt_X11_never 6 rfl) cl_X11_134 (ok_F11_in q1 (rg_c rfl) (w32_in _)) (by decide) rfl (Nat.le_of_ble_eq_true rfl) rfl (fun q8r => ?_)
  show Go 11 [some (.ref (ad 83)), some (iv v1), none, none] [iv (F11_in v1 0 (w32 ((rd m 83 28) - 1)))] m
  refine r_if_ne (pc := 11) (tgt := 16) hR (dc dt_X11_never 7 rfl) (by decide) (inZ_R q8r) (fun hc => ?_) (fun hc => ?_)
  · replace h := ite_t hc h
    refine r_aload_n (pc := 16) hR (dc dt_X11_never 10 rfl) rfl ?_
    refine r_geti (pc := 17) hR (dc dt_X11_never 11 rfl) fl_X11_260 tc_83 rfl ?_
    refine r_iconst (pc := 20) hR (dc dt_X11_never 12 rfl) ?_
    refine r_icmp_ge (pc := 21) (tgt := 27) hR (dc dt_X11_never 13 rfl) (by decide) (rd_in _ _ _) (rg_c rfl) (fun hc => ?_) (fun hc => ?_)
    · replace h := ite_t hc h
      refine r_aload_n (pc := 27) hR (dc dt_X11_never 16 rfl) rfl ?_
      obtain ⟨m28, e28, h⟩ := b1_some h
      refine r_callV (pc := 28) (rest := []) hR (dc dt_X11_never 17 rfl) cl_X11_283 tc_83 rfl (ok_F11_findBest  e28) (by decide) rfl (Nat.le_of_ble_eq_true rfl) rfl (fun q28r => ?_)
      show Go 31 [some (.ref (ad 83)), some (iv v1), none, none] [] m28
      refine r_aload_n (pc := 31) hR (dc dt_X11_never 18 rfl) rfl ?_
      refine r_geti (pc := 32) hR (dc dt_X11_never 19 rfl) fl_X11_267 tc_83 rfl ?_
      refine r_if_ne (pc := 35) (tgt := 41) hR (dc dt_X11_never 20 rfl) (by decide) (rd_in _ _ _) (fun hc => ?_) (fun hc => ?_)
      · replace h := ite_t hc h
        refine r_iconst (pc := 41) hR (dc dt_X11_never 23 rfl) ?_
        refine r_istore_n (pc := 42) (L' := [some (.ref (ad 83)), some (iv v1), some (iv 0), none]) hR (dc dt_X11_never 24 rfl) (by decide) rfl rfl ?_
        refine r_iconst (pc := 43) hR (dc dt_X11_never 25 rfl) ?_
        refine r_istore_n (pc := 44) (L' := [some (.ref (ad 83)), some (iv v1), some (iv 0), some (iv 0)]) hR (dc dt_X11_never 26 rfl) (by decide) rfl rfl ?_
        refine lp_L11_never_45 hR hT q1 FU 0 0 (rg_c rfl) (rg_c rfl) h
      replace h := ite_f hc h
      refine r_bipush (pc := 38) hR (dc dt_X11_never 21 rfl) (by decide) ?_
      exact r_iret hT (dc dt_X11_never 22 rfl) (congrArg Prod.fst (Option.some.inj h)) (congrArg Prod.snd (Option.some.inj h)) (rg_c rfl)
    replace h := ite_f hc h
    refine r_bipush (pc := 24) hR (dc dt_X11_never 14 rfl) (by decide) ?_
    exact r_iret hT (dc dt_X11_never 15 rfl) (congrArg Prod.fst (Option.some.inj h)) (congrArg Prod.snd (Option.some.inj h)) (rg_c rfl)
  replace h := ite_f hc h
  refine r_iconst (pc := 14) hR (dc dt_X11_never 8 rfl) ?_
  exact r_iret hT (dc dt_X11_never 9 rfl) (congrArg Prod.fst (Option.some.inj h)) (congrArg Prod.snd (Option.some.inj h)) (rg_c rfl)
end SIM
