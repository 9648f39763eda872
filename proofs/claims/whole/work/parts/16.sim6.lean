section SIM
variable {l : Launch} {G : va_G} {cy ad tt : Nat → Nat}
def tb_X11_chain : List (Nat × (Instr × Nat)) := [(0, (.iload_n 1, 1)), (1, (.invokestatic 342, 3)), (4, (.ifCond .eq 10, 3)), (7, (.iload_n 2, 1)), (8, (.invokestatic 342, 3)), (11, (.ifCond .ne 5, 3)), (14, (.iconst (-1), 1)), (15, (.ireturn, 1)), (16, (.iload_n 1, 1)), (17, (.aload_n 0, 1)), (18, (.getfield 96, 3)), (21, (.invokestatic 330, 3)), (24, (.istore_n 3, 1)), (25, (.aload_n 0, 1)), (26, (.getfield 105, 3)), (29, (.iconst 0, 1)), (30, (.iload_n 3, 1)), (31, (.iastore, 1)), (32, (.iconst 0, 1)), (33, (.istore 4, 2)), (35, (.iload 4, 2)), (37, (.bipush 6, 2)), (39, (.if_icmp .ge 33, 3)), (42, (.aload_n 0, 1)), (43, (.getfield 102, 3)), (46, (.iload 4, 2)), (48, (.iload 4, 2)), (50, (.iload_n 3, 1)), (51, (.if_icmp .ge 13, 3)), (54, (.aload_n 0, 1)), (55, (.getfield 96, 3)), (58, (.iload 4, 2)), (60, (.iaload, 1)), (61, (.goto 4, 3)), (64, (.iconst 0, 1)), (65, (.iastore, 1)), (66, (.iinc 4 1, 3)), (69, (.goto (-34), 3)), (72, (.iconst 0, 1)), (73, (.istore 4, 2)), (75, (.iload 4, 2)), (77, (.iconst 3, 1)), (78, (.if_icmp .gt 23, 3)), (81, (.aload_n 0, 1)), (82, (.iconst 0, 1)), (83, (.iload 4, 2)), (85, (.iload_n 2, 1)), (86, (.invokevirtual 354, 3)), (89, (.ifCond .eq 6, 3)), (92, (.iload 4, 2)), (94, (.ireturn, 1)), (95, (.iinc 4 1, 3)), (98, (.goto (-23), 3)), (101, (.bipush (-2), 2)), (103, (.ireturn, 1))]
set_option maxRecDepth 100000 in
theorem dt_X11_chain : (tb_X11_chain.all fun q => decide (decode cX11_chain q.1 = .ok q.2)) = true := by decide +kernel
set_option maxRecDepth 100000 in
set_option maxHeartbeats 4000000 in
theorem lp_L11_chain_35 {Go : Nat → List (Option Value) → List Value → Mem → Prop} (hR : RS l G cy ad tt RX11 cX11_chain 5 9 Go) {out : Int × Mem} (hT : RT cX11_chain (some (iv out.1)) (inR out.1) out.2 (some .int) Go) {v2 : Int} {v3 : Int} (qv2 : inR v2) (qv3 : inR v3) {k72 : Mem → Option (Int × Mem)} (hk72 : ∀ (m : Mem), k72 m = some out → Go 72 [some (.ref (ad 83)), none, some (iv v2), none, none] [] m) : ∀ (n : Nat) (v4 : Int) (m : Mem), inR v4 → L11_chain_35 v3 k72 n v4 m = some out → Go 35 [some (.ref (ad 83)), none, some (iv v2), some (iv v3), some (iv v4)] [] m := by
  intro n
  induction n with
  | zero =>
    intro v4 m qv4 h
    cases h
  | succ n ih =>
    intro v4 m qv4 h
    rw [L11_chain_35] at h
    refine r_iload (pc := 35) hR (dc dt_X11_chain 20 rfl) rfl ?_
    refine r_bipush (pc := 37) hR (dc dt_X11_chain 21 rfl) (by decide) ?_
    refine r_icmp_ge (pc := 39) (tgt := 72) hR (dc dt_X11_chain 22 rfl) (by decide) qv4 (rg_c rfl) (fun hc => ?_) (fun hc => ?_)
    · replace h := ite_t hc h
      refine r_weak (L' := [some (.ref (ad 83)), none, some (iv v2), none, none]) hR ⟨Or.inr rfl, Or.inr rfl, Or.inr rfl, Or.inl rfl, Or.inl rfl, trivial⟩ ?_
      exact hk72 m h
    replace h := ite_f hc h
    refine r_aload_n (pc := 42) hR (dc dt_X11_chain 23 rfl) rfl ?_
    refine r_getr (pc := 43) (k2 := 114) hR (dc dt_X11_chain 24 rfl) fl_X11_102 tc_83 rfl ?_
    refine r_iload (pc := 46) hR (dc dt_X11_chain 25 rfl) rfl ?_
    refine r_iload (pc := 48) hR (dc dt_X11_chain 26 rfl) rfl ?_
    refine r_iload_n (pc := 50) hR (dc dt_X11_chain 27 rfl) rfl ?_
    refine jn_e h (fun (K : Int → Option (Int × Mem)) => ∀ (x65 : Int), inR x65 → K x65 = some out → Go 65 [some (.ref (ad 83)), none, some (iv v2), some (iv v3), some (iv v4)] [iv x65, iv v4, .ref (ad 114)] m) (fun x65 qx65 h => ?_) (fun K65 J65 h => ?_)
    · obtain ⟨g1, h⟩ := gd_some h
      refine r_iast (pc := 65) hR (dc dt_X11_chain 35 rfl) tc_114 g1 qv4 ?_
      replace h := stw_e h
      generalize wr m 114 v4 x65 = m65 at h ⊢
      refine r_iinc (pc := 66) (L' := [some (.ref (ad 83)), none, some (iv v2), some (iv v3), some (iv (w32 (v4 + 1)))]) hR (dc dt_X11_chain 36 rfl) rfl (by decide) rfl rfl ?_
      refine r_goto (pc := 69) (tgt := 35) hR (dc dt_X11_chain 37 rfl) (by decide) ?_
      exact ih (w32 (v4 + 1)) m65 (w32_in _) h
    refine r_icmp_ge (pc := 51) (tgt := 64) hR (dc dt_X11_chain 28 rfl) (by decide) qv4 qv3 (fun hc => ?_) (fun hc => ?_)
    · replace h := ite_t hc h
      refine r_iconst (pc := 64) hR (dc dt_X11_chain 34 rfl) ?_
      exact J65 0 (rg_c rfl) h
    replace h := ite_f hc h
    refine r_aload_n (pc := 54) hR (dc dt_X11_chain 29 rfl) rfl ?_
    refine r_getr (pc := 55) (k2 := 112) hR (dc dt_X11_chain 30 rfl) fl_X11_96 tc_83 rfl ?_
    refine r_iload (pc := 58) hR (dc dt_X11_chain 31 rfl) rfl ?_
    obtain ⟨g1, h⟩ := gd_some h
    refine r_iald (pc := 60) hR (dc dt_X11_chain 32 rfl) tc_112 g1 qv4 ?_
    refine r_goto (pc := 61) (tgt := 65) hR (dc dt_X11_chain 33 rfl) (by decide) ?_
    exact J65 (rd m 112 v4) (rd_in _ _ _) h
set_option maxRecDepth 100000 in
set_option maxHeartbeats 4000000 in
theorem lp_L11_chain_75 {Go : Nat → List (Option Value) → List Value → Mem → Prop} (hR : RS l G cy ad tt RX11 cX11_chain 5 9 Go) {out : Int × Mem} (hT : RT cX11_chain (some (iv out.1)) (inR out.1) out.2 (some .int) Go) {v2 : Int} (qv2 : inR v2) : ∀ (n : Nat) (v4 : Int) (m : Mem), inR v4 → L11_chain_75 v2 n v4 m = some out → Go 75 [some (.ref (ad 83)), none, some (iv v2), none, some (iv v4)] [] m := by
  intro n
  induction n with
  | zero =>
    intro v4 m qv4 h
    cases h
  | succ n ih =>
    intro v4 m qv4 h
    rw [L11_chain_75] at h
    refine r_iload (pc := 75) hR (dc dt_X11_chain 40 rfl) rfl ?_
    refine r_iconst (pc := 77) hR (dc dt_X11_chain 41 rfl) ?_
    refine r_icmp_gt (pc := 78) (tgt := 101) hR (dc dt_X11_chain 42 rfl) (by decide) qv4 (rg_c rfl) (fun hc => ?_) (fun hc => ?_)
    · replace h := ite_t hc h
      refine r_bipush (pc := 101) hR (dc dt_X11_chain 53 rfl) (by decide) ?_
      exact r_iret hT (dc dt_X11_chain 54 rfl) (congrArg Prod.fst (Option.some.inj h)) (congrArg Prod.snd (Option.some.inj h)) (rg_c rfl)
    replace h := ite_f hc h
    refine r_aload_n (pc := 81) hR (dc dt_X11_chain 43 rfl) rfl ?_
    refine r_iconst (pc := 82) hR (dc dt_X11_chain 44 rfl) ?_
    refine r_iload (pc := 83) hR (dc dt_X11_chain 45 rfl) rfl ?_
    refine r_iload_n (pc := 85) hR (dc dt_X11_chain 46 rfl) rfl ?_
    obtain ⟨r86, m86, e86, h⟩ := b2_some h
    refine r_callV (pc := 86) (rest := []) hR (dc dt_X11_chain 47 rfl) cl_X11_354 tc_83 rfl (ok_F11_reaches 6 (rg_c rfl) qv4 qv2 e86 (Nat.le_refl _)) (by decide) rfl (Nat.le_of_ble_eq_true rfl) rfl (fun q86r => ?_)
    show Go 89 [some (.ref (ad 83)), none, some (iv v2), none, some (iv v4)] [iv r86] m86
    refine r_if_eq (pc := 89) (tgt := 95) hR (dc dt_X11_chain 48 rfl) (by decide) (inZ_R q86r) (fun hc => ?_) (fun hc => ?_)
    · replace h := ite_t hc h
      refine r_iinc (pc := 95) (L' := [some (.ref (ad 83)), none, some (iv v2), none, some (iv (w32 (v4 + 1)))]) hR (dc dt_X11_chain 51 rfl) rfl (by decide) rfl rfl ?_
      refine r_goto (pc := 98) (tgt := 75) hR (dc dt_X11_chain 52 rfl) (by decide) ?_
      exact ih (w32 (v4 + 1)) m86 (w32_in _) h
    replace h := ite_f hc h
    refine r_iload (pc := 92) hR (dc dt_X11_chain 49 rfl) rfl ?_
    exact r_iret hT (dc dt_X11_chain 50 rfl) (congrArg Prod.fst (Option.some.inj h)) (congrArg Prod.snd (Option.some.inj h)) qv4
set_option maxRecDepth 100000 in
set_option maxHeartbeats 4000000 in
theorem ok_F11_chain {m : Mem}  {v1 v2 : Int} (q1 : inR v1) (q2 : inR v2) {out : Int × Mem} (h : F11_chain m v1 v2 = some out) : CT l G cy ad tt yX11_chain cX11_chain 5 (some .int) 9 [.ref (ad 83), iv v1, iv v2] m (some (iv out.1)) (inR out.1) out.2 := by
  refine CT_of (by decide) (Nat.le_of_ble_eq_true rfl) (fun Go hR hT => ?_)
  replace hR : RS l G cy ad tt RX11 cX11_chain 5 9 Go := hR
  show Go 0 [some (.ref (ad 83)), some (iv v1), some (iv v2), none, none] [] m
  unfold F11_chain at h
  refine r_iload_n (pc := 0) hR (dc dt_X11_chain 0 rfl) rfl ?_
  refine r_callS (pc := 1) (rest := []) hR (dc dt_X11_chain 1 rfl) cl_X11_342 (ok_F11_isNumber q1) (by decide) rfl (Nat.le_of_ble_eq_true rfl) rfl (fun q1r => ?_)
  show Go 4 [some (.ref (ad 83)), some (iv v1), some (iv v2), none, none] [iv (F11_isNumber v1)] m
  refine r_if_eq (pc := 4) (tgt := 14) hR (dc dt_X11_chain 2 rfl) (by decide) (inZ_R q1r) (fun hc => ?_) (fun hc => ?_)
  · replace h := ite_t hc h
    refine r_iconst (pc := 14) hR (dc dt_X11_chain 6 rfl) ?_
    exact r_iret hT (dc dt_X11_chain 7 rfl) (congrArg Prod.fst (Option.some.inj h)) (congrArg Prod.snd (Option.some.inj h)) (rg_c rfl)
  replace h := ite_f hc h
  refine r_iload_n (pc := 7) hR (dc dt_X11_chain 3 rfl) rfl ?_
  refine r_callS (pc := 8) (rest := []) hR (dc dt_X11_chain 4 rfl) cl_X11_342 (ok_F11_isNumber q2) (by decide) rfl (Nat.le_of_ble_eq_true rfl) rfl (fun q8r => ?_)
  show Go 11 [some (.ref (ad 83)), some (iv v1), some (iv v2), none, none] [iv (F11_isNumber v2)] m
  refine r_if_ne (pc := 11) (tgt := 16) hR (dc dt_X11_chain 5 rfl) (by decide) (inZ_R q8r) (fun hc => ?_) (fun hc => ?_)
  · replace h := ite_t hc h
    refine r_iload_n (pc := 16) hR (dc dt_X11_chain 8 rfl) rfl ?_
    refine r_aload_n (pc := 17) hR (dc dt_X11_chain 9 rfl) rfl ?_
    refine r_getr (pc := 18) (k2 := 112) hR (dc dt_X11_chain 10 rfl) fl_X11_96 tc_83 rfl ?_
    obtain ⟨r21, m21, e21, h⟩ := b2_some h
    refine r_callS (pc := 21) (rest := []) hR (dc dt_X11_chain 11 rfl) cl_X11_330 (ok_F11_digitsOf tc_112 q1 e21) (by decide) rfl (Nat.le_of_ble_eq_true rfl) rfl (fun q21r => ?_)
    show Go 24 [some (.ref (ad 83)), some (iv v1), some (iv v2), none, none] [iv r21] m21
    refine r_istore_n (pc := 24) (L' := [some (.ref (ad 83)), some (iv v1), some (iv v2), some (iv r21), none]) hR (dc dt_X11_chain 12 rfl) (by decide) rfl rfl ?_
    refine r_aload_n (pc := 25) hR (dc dt_X11_chain 13 rfl) rfl ?_
    refine r_getr (pc := 26) (k2 := 115) hR (dc dt_X11_chain 14 rfl) fl_X11_105 tc_83 rfl ?_
    refine r_iconst (pc := 29) hR (dc dt_X11_chain 15 rfl) ?_
    refine r_iload_n (pc := 30) hR (dc dt_X11_chain 16 rfl) rfl ?_
    obtain ⟨g1, h⟩ := gd_some h
    refine r_iast (pc := 31) hR (dc dt_X11_chain 17 rfl) tc_115 g1 (rg_c rfl) ?_
    replace h := stw_e h
    generalize wr m21 115 0 r21 = m31 at h ⊢
    refine r_iconst (pc := 32) hR (dc dt_X11_chain 18 rfl) ?_
    refine r_istore (pc := 33) (L' := [some (.ref (ad 83)), some (iv v1), some (iv v2), some (iv r21), some (iv 0)]) hR (dc dt_X11_chain 19 rfl) (by decide) rfl rfl ?_
    refine r_weak (L' := [some (.ref (ad 83)), none, some (iv v2), some (iv r21), some (iv 0)]) hR ⟨Or.inr rfl, Or.inl rfl, Or.inr rfl, Or.inr rfl, Or.inr rfl, trivial⟩ ?_
    refine lp_L11_chain_35 hR hT q2 q21r (fun m_72 h => ?_) FU 0 m31 (rg_c rfl) h
    show Go 72 [some (.ref (ad 83)), none, some (iv v2), none, none] [] m_72
    refine r_iconst (pc := 72) hR (dc dt_X11_chain 38 rfl) ?_
    refine r_istore (pc := 73) (L' := [some (.ref (ad 83)), none, some (iv v2), none, some (iv 0)]) hR (dc dt_X11_chain 39 rfl) (by decide) rfl rfl ?_
    refine lp_L11_chain_75 hR hT q2 FU 0 m_72 (rg_c rfl) h
  replace h := ite_f hc h
  refine r_iconst (pc := 14) hR (dc dt_X11_chain 6 rfl) ?_
  exact r_iret hT (dc dt_X11_chain 7 rfl) (congrArg Prod.fst (Option.some.inj h)) (congrArg Prod.snd (Option.some.inj h)) (rg_c rfl)
def tb_X11_isBody : List (Nat × (Instr × Nat)) := [(0, (.iload_n 1, 1)), (1, (.iconst 0, 1)), (2, (.aload_n 0, 1)), (3, (.getfield 357, 3)), (6, (.iconst 1, 1)), (7, (.isub, 1)), (8, (.invokestatic 134, 3)), (11, (.ireturn, 1))]
set_option maxRecDepth 100000 in
theorem dt_X11_isBody : (tb_X11_isBody.all fun q => decide (decode cX11_isBody q.1 = .ok q.2)) = true := by decide +kernel
set_option maxRecDepth 100000 in
set_option maxHeartbeats 4000000 in
theorem ok_F11_isBody {m : Mem}  {v1 : Int} (q1 : inR v1) : CT l G cy ad tt yX11_isBody cX11_isBody 2 (some .boolean) 1 [.ref (ad 83), iv v1] m (some (iv (F11_isBody m v1))) (inZ (F11_isBody m v1)) m := by
  refine CT_of (by decide) (Nat.le_of_ble_eq_true rfl) (fun Go hR hT => ?_)
  replace hR : RS l G cy ad tt RX11 cX11_isBody 2 1 Go := hR
  show Go 0 [some (.ref (ad 83)), some (iv v1)] [] m
  obtain ⟨out, h⟩ : ∃ out, F11_isBody m v1 = out := ⟨_, rfl⟩
  rw [h] at hT
  unfold F11_isBody at h
  refine r_iload_n (pc := 0) hR (dc dt_X11_isBody 0 rfl) rfl ?_
  refine r_iconst (pc := 1) hR (dc dt_X11_isBody 1 rfl) ?_
  refine r_aload_n (pc := 2) hR (dc dt_X11_isBody 2 rfl) rfl ?_
  refine r_geti (pc := 3) hR (dc dt_X11_isBody 3 rfl) fl_X11_357 tc_83 rfl ?_
  refine r_iconst (pc := 6) hR (dc dt_X11_isBody 4 rfl) ?_
  refine r_isub (pc := 7) hR (dc dt_X11_isBody 5 rfl) ?_
  refine r_callS (pc := 8) (rest := []) hR (dc dt_X11_isBody 6 rfl) cl_X11_134 (ok_F11_in q1 (rg_c rfl) (w32_in _)) (by decide) rfl (Nat.le_of_ble_eq_true rfl) rfl (fun q8r => ?_)
  show Go 11 [some (.ref (ad 83)), some (iv v1)] [iv (F11_in v1 0 (w32 ((rd m 83 46) - 1)))] m
  exact r_zret hT (dc dt_X11_isBody 7 rfl) h rfl q8r
def tb_X11_isUnder : List (Nat × (Instr × Nat)) := [(0, (.iload_n 1, 1)), (1, (.ifCond .eq 34, 3)), (4, (.iload_n 0, 1)), (5, (.iload_n 1, 1)), (6, (.if_icmp .eq 29, 3)), (9, (.iload_n 1, 1)), (10, (.iconst 1, 1)), (11, (.if_icmp .ne 14, 3)), (14, (.iload_n 0, 1)), (15, (.iconst 3, 1)), (16, (.if_icmp .eq 19, 3)), (19, (.iload_n 0, 1)), (20, (.bipush 6, 2)), (22, (.if_icmp .eq 13, 3)), (25, (.iload_n 1, 1)), (26, (.iconst 4, 1)), (27, (.if_icmp .ne 12, 3)), (30, (.iload_n 0, 1)), (31, (.iconst 5, 1)), (32, (.if_icmp .ne 7, 3)), (35, (.iconst 1, 1)), (36, (.goto 4, 3)), (39, (.iconst 0, 1)), (40, (.ireturn, 1))]
set_option maxRecDepth 100000 in
theorem dt_X11_isUnder : (tb_X11_isUnder.all fun q => decide (decode cX11_isUnder q.1 = .ok q.2)) = true := by decide +kernel
set_option maxRecDepth 100000 in
set_option maxHeartbeats 4000000 in
theorem ok_F11_isUnder {m : Mem}  {v0 v1 : Int} (q0 : inR v0) (q1 : inR v1) : CT l G cy ad tt yX11_isUnder cX11_isUnder 2 (some .boolean) 0 [iv v0, iv v1] m (some (iv (F11_isUnder v0 v1))) (inZ (F11_isUnder v0 v1)) m := by
  refine CT_of (by decide) (Nat.le_of_ble_eq_true rfl) (fun Go hR hT => ?_)
  replace hR : RS l G cy ad tt RX11 cX11_isUnder 2 0 Go := hR
  show Go 0 [some (iv v0), some (iv v1)] [] m
  obtain ⟨out, h⟩ : ∃ out, F11_isUnder v0 v1 = out := ⟨_, rfl⟩
  rw [h] at hT
  unfold F11_isUnder at h
  refine r_iload_n (pc := 0) hR (dc dt_X11_isUnder 0 rfl) rfl ?_
  refine jn_e h (fun (K : Int) => K = out → Go 35 [none, none] [] m) (fun h => ?_) (fun K35 J35 h => ?_)
  · refine r_iconst (pc := 35) hR (dc dt_X11_isUnder 20 rfl) ?_
    refine r_goto (pc := 36) (tgt := 40) hR (dc dt_X11_isUnder 21 rfl) (by decide) ?_
    exact r_zret hT (dc dt_X11_isUnder 23 rfl) h rfl (Or.inr rfl)
  refine r_if_eq (pc := 1) (tgt := 35) hR (dc dt_X11_isUnder 1 rfl) (by decide) q1 (fun hc => ?_) (fun hc => ?_)
  · replace h := ite_t hc h
    refine r_weak (L' := [none, none]) hR ⟨Or.inl rfl, Or.inl rfl, trivial⟩ ?_
    exact J35 h
  replace h := ite_f hc h
  refine r_iload_n (pc := 4) hR (dc dt_X11_isUnder 2 rfl) rfl ?_
  refine r_iload_n (pc := 5) hR (dc dt_X11_isUnder 3 rfl) rfl ?_
  refine r_icmp_eq (pc := 6) (tgt := 35) hR (dc dt_X11_isUnder 4 rfl) (by decide) q0 q1 (fun hc => ?_) (fun hc => ?_)
  · replace h := ite_t hc h
    refine r_weak (L' := [none, none]) hR ⟨Or.inl rfl, Or.inl rfl, trivial⟩ ?_
    exact J35 h
  replace h := ite_f hc h
  refine r_iload_n (pc := 9) hR (dc dt_X11_isUnder 5 rfl) rfl ?_
  refine r_iconst (pc := 10) hR (dc dt_X11_isUnder 6 rfl) ?_
  refine jn_e h (fun (K : Int) => K = out → Go 25 [some (iv v0), some (iv v1)] [] m) (fun h => ?_) (fun K25 J25 h => ?_)
  · refine r_iload_n (pc := 25) hR (dc dt_X11_isUnder 14 rfl) rfl ?_
    refine r_iconst (pc := 26) hR (dc dt_X11_isUnder 15 rfl) ?_
    refine jn_e h (fun (K : Int) => K = out → Go 39 [none, none] [] m) (fun h => ?_) (fun K39 J39 h => ?_)
    · refine r_iconst (pc := 39) hR (dc dt_X11_isUnder 22 rfl) ?_
      exact r_zret hT (dc dt_X11_isUnder 23 rfl) h rfl (Or.inl rfl)
    refine r_icmp_ne (pc := 27) (tgt := 39) hR (dc dt_X11_isUnder 16 rfl) (by decide) q1 (rg_c rfl) (fun hc => ?_) (fun hc => ?_)
    · replace h := ite_t hc h
      refine r_weak (L' := [none, none]) hR ⟨Or.inl rfl, Or.inl rfl, trivial⟩ ?_
      exact J39 h
    replace h := ite_f hc h
    refine r_iload_n (pc := 30) hR (dc dt_X11_isUnder 17 rfl) rfl ?_
    refine r_iconst (pc := 31) hR (dc dt_X11_isUnder 18 rfl) ?_
    refine r_icmp_ne (pc := 32) (tgt := 39) hR (dc dt_X11_isUnder 19 rfl) (by decide) q0 (rg_c rfl) (fun hc => ?_) (fun hc => ?_)
    · replace h := ite_t hc h
      refine r_weak (L' := [none, none]) hR ⟨Or.inl rfl, Or.inl rfl, trivial⟩ ?_
      exact J39 h
    replace h := ite_f hc h
    refine r_weak (L' := [none, none]) hR ⟨Or.inl rfl, Or.inl rfl, trivial⟩ ?_
    exact J35 h
  refine r_icmp_ne (pc := 11) (tgt := 25) hR (dc dt_X11_isUnder 7 rfl) (by decide) q1 (rg_c rfl) (fun hc => ?_) (fun hc => ?_)
  · replace h := ite_t hc h
    exact J25 h
  replace h := ite_f hc h
  refine r_iload_n (pc := 14) hR (dc dt_X11_isUnder 8 rfl) rfl ?_
  refine r_iconst (pc := 15) hR (dc dt_X11_isUnder 9 rfl) ?_
  refine r_icmp_eq (pc := 16) (tgt := 35) hR (dc dt_X11_isUnder 10 rfl) (by decide) q0 (rg_c rfl) (fun hc => ?_) (fun hc => ?_)
  · replace h := ite_t hc h
    refine r_weak (L' := [none, none]) hR ⟨Or.inl rfl, Or.inl rfl, trivial⟩ ?_
    exact J35 h
  replace h := ite_f hc h
  refine r_iload_n (pc := 19) hR (dc dt_X11_isUnder 11 rfl) rfl ?_
  refine r_bipush (pc := 20) hR (dc dt_X11_isUnder 12 rfl) (by decide) ?_
  refine r_icmp_eq (pc := 22) (tgt := 35) hR (dc dt_X11_isUnder 13 rfl) (by decide) q0 (rg_c rfl) (fun hc => ?_) (fun hc => ?_)
  · replace h := ite_t hc h
    refine r_weak (L' := [none, none]) hR ⟨Or.inl rfl, Or.inl rfl, trivial⟩ ?_
    exact J35 h
  replace h := ite_f hc h
  exact J25 h
def tb_X11_path : List (Nat × (Instr × Nat)) := [(0, (.iload_n 1, 1)), (1, (.iconst 0, 1)), (2, (.bipush 6, 2)), (4, (.invokestatic 134, 3)), (7, (.ifCond .eq 11, 3)), (10, (.aload_n 0, 1)), (11, (.iload_n 2, 1)), (12, (.invokevirtual 182, 3)), (15, (.ifCond .ne 5, 3)), (18, (.iconst (-1), 1)), (19, (.ireturn, 1)), (20, (.aload_n 0, 1)), (21, (.getfield 357, 3)), (24, (.bipush 100, 2)), (26, (.if_icmp .ne 6, 3)), (29, (.bipush (-3), 2)), (31, (.ireturn, 1)), (32, (.aload_n 0, 1)), (33, (.getfield 108, 3)), (36, (.aload_n 0, 1)), (37, (.getfield 357, 3)), (40, (.iload_n 1, 1)), (41, (.iastore, 1)), (42, (.aload_n 0, 1)), (43, (.getfield 111, 3)), (46, (.aload_n 0, 1)), (47, (.getfield 357, 3)), (50, (.iload_n 2, 1)), (51, (.iastore, 1)), (52, (.aload_n 0, 1)), (53, (.dup, 1)), (54, (.getfield 357, 3)), (57, (.iconst 1, 1)), (58, (.iadd, 1)), (59, (.putfield 357, 3)), (62, (.aload_n 0, 1)), (63, (.getfield 357, 3)), (66, (.iconst 1, 1)), (67, (.isub, 1)), (68, (.ireturn, 1))]
set_option maxRecDepth 100000 in
theorem dt_X11_path : (tb_X11_path.all fun q => decide (decode cX11_path q.1 = .ok q.2)) = true := by decide +kernel
set_option maxRecDepth 100000 in
set_option maxHeartbeats 4000000 in
theorem ok_F11_path {m : Mem}  {v1 v2 : Int} (q1 : inR v1) (q2 : inR v2) {out : Int × Mem} (h : F11_path m v1 v2 = some out) : CT l G cy ad tt yX11_path cX11_path 3 (some .int) 2 [.ref (ad 83), iv v1, iv v2] m (some (iv out.1)) (inR out.1) out.2 := by
  refine CT_of (by decide) (Nat.le_of_ble_eq_true rfl) (fun Go hR hT => ?_)
  replace hR : RS l G cy ad tt RX11 cX11_path 3 2 Go := hR
  show Go 0 [some (.ref (ad 83)), some (iv v1), some (iv v2)] [] m
  unfold F11_path at h
  refine r_iload_n (pc := 0) hR (dc dt_X11_path 0 rfl) rfl ?_
  refine r_iconst (pc := 1) hR (dc dt_X11_path 1 rfl) ?_
  refine r_bipush (pc := 2) hR (dc dt_X11_path 2 rfl) (by decide) ?_
  refine r_callS (pc := 4) (rest := []) hR (dc dt_X11_path 3 rfl) cl_X11_134 (ok_F11_in q1 (rg_c rfl) (rg_c rfl)) (by decide) rfl (Nat.le_of_ble_eq_true rfl) rfl (fun q4r => ?_)
  show Go 7 [some (.ref (ad 83)), some (iv v1), some (iv v2)] [iv (F11_in v1 0 6)] m
  refine r_if_eq (pc := 7) (tgt := 18) hR (dc dt_X11_path 4 rfl) (by decide) (inZ_R q4r) (fun hc => ?_) (fun hc => ?_)
  · replace h := ite_t hc h
    refine r_iconst (pc := 18) hR (dc dt_X11_path 9 rfl) ?_
    exact r_iret hT (dc dt_X11_path 10 rfl) (congrArg Prod.fst (Option.some.inj h)) (congrArg Prod.snd (Option.some.inj h)) (rg_c rfl)
  replace h := ite_f hc h
  refine r_aload_n (pc := 10) hR (dc dt_X11_path 5 rfl) rfl ?_
  refine r_iload_n (pc := 11) hR (dc dt_X11_path 6 rfl) rfl ?_
  refine r_callV (pc := 12) (rest := []) hR (dc dt_X11_path 7 rfl) cl_X11_182 tc_83 rfl (ok_F11_isCharter q2) (by decide) rfl (Nat.le_of_ble_eq_true rfl) rfl (fun q12r => ?_)
  show Go 15 [some (.ref (ad 83)), some (iv v1), some (iv v2)] [iv (F11_isCharter m v2)] m
  refine r_if_ne (pc := 15) (tgt := 20) hR (dc dt_X11_path 8 rfl) (by decide) (inZ_R q12r) (fun hc => ?_) (fun hc => ?_)
  · replace h := ite_t hc h
    refine r_aload_n (pc := 20) hR (dc dt_X11_path 11 rfl) rfl ?_
    refine r_geti (pc := 21) hR (dc dt_X11_path 12 rfl) fl_X11_357 tc_83 rfl ?_
    refine r_bipush (pc := 24) hR (dc dt_X11_path 13 rfl) (by decide) ?_
    refine r_icmp_ne (pc := 26) (tgt := 32) hR (dc dt_X11_path 14 rfl) (by decide) (rd_in _ _ _) (rg_c rfl) (fun hc => ?_) (fun hc => ?_)
    · replace h := ite_t hc h
      refine r_aload_n (pc := 32) hR (dc dt_X11_path 17 rfl) rfl ?_
      refine r_getr (pc := 33) (k2 := 116) hR (dc dt_X11_path 18 rfl) fl_X11_108 tc_83 rfl ?_
      refine r_aload_n (pc := 36) hR (dc dt_X11_path 19 rfl) rfl ?_
      refine r_geti (pc := 37) hR (dc dt_X11_path 20 rfl) fl_X11_357 tc_83 rfl ?_
      refine r_iload_n (pc := 40) hR (dc dt_X11_path 21 rfl) rfl ?_
      obtain ⟨g1, h⟩ := gd_some h
      refine r_iast (pc := 41) hR (dc dt_X11_path 22 rfl) tc_116 g1 (rd_in _ _ _) ?_
      replace h := stw_e h
      generalize wr m 116 (rd m 83 46) v1 = m41 at h ⊢
      refine r_aload_n (pc := 42) hR (dc dt_X11_path 23 rfl) rfl ?_
      refine r_getr (pc := 43) (k2 := 117) hR (dc dt_X11_path 24 rfl) fl_X11_111 tc_83 rfl ?_
      refine r_aload_n (pc := 46) hR (dc dt_X11_path 25 rfl) rfl ?_
      refine r_geti (pc := 47) hR (dc dt_X11_path 26 rfl) fl_X11_357 tc_83 rfl ?_
      refine r_iload_n (pc := 50) hR (dc dt_X11_path 27 rfl) rfl ?_
      obtain ⟨g1, h⟩ := gd_some h
      refine r_iast (pc := 51) hR (dc dt_X11_path 28 rfl) tc_117 g1 (rd_in _ _ _) ?_
      replace h := stw_e h
      generalize wr m41 117 (rd m41 83 46) v2 = m51 at h ⊢
      refine r_aload_n (pc := 52) hR (dc dt_X11_path 29 rfl) rfl ?_
      refine r_dup (pc := 53) hR (dc dt_X11_path 30 rfl) rfl ?_
      refine r_geti (pc := 54) hR (dc dt_X11_path 31 rfl) fl_X11_357 tc_83 rfl ?_
      refine r_iconst (pc := 57) hR (dc dt_X11_path 32 rfl) ?_
      refine r_iadd (pc := 58) hR (dc dt_X11_path 33 rfl) ?_
      refine r_puti (pc := 59) hR (dc dt_X11_path 34 rfl) fl_X11_357 tc_83 rfl rfl rfl ?_
      replace h := stw_e h
      generalize wr m51 83 46 (w32 ((rd m51 83 46) + 1)) = m59 at h ⊢
      refine r_aload_n (pc := 62) hR (dc dt_X11_path 35 rfl) rfl ?_
      refine r_geti (pc := 63) hR (dc dt_X11_path 36 rfl) fl_X11_357 tc_83 rfl ?_
      refine r_iconst (pc := 66) hR (dc dt_X11_path 37 rfl) ?_
      refine r_isub (pc := 67) hR (dc dt_X11_path 38 rfl) ?_
      exact r_iret hT (dc dt_X11_path 39 rfl) (congrArg Prod.fst (Option.some.inj h)) (congrArg Prod.snd (Option.some.inj h)) (w32_in _)
    replace h := ite_f hc h
    refine r_bipush (pc := 29) hR (dc dt_X11_path 15 rfl) (by decide) ?_
    exact r_iret hT (dc dt_X11_path 16 rfl) (congrArg Prod.fst (Option.some.inj h)) (congrArg Prod.snd (Option.some.inj h)) (rg_c rfl)
  replace h := ite_f hc h
  refine r_iconst (pc := 18) hR (dc dt_X11_path 9 rfl) ?_
  exact r_iret hT (dc dt_X11_path 10 rfl) (congrArg Prod.fst (Option.some.inj h)) (congrArg Prod.snd (Option.some.inj h)) (rg_c rfl)
def tb_X11_ran : List (Nat × (Instr × Nat)) := [(0, (.aload_n 0, 1)), (1, (.getfield 360, 3)), (4, (.bipush 24, 2)), (6, (.if_icmp .ge 13, 3)), (9, (.aload_n 0, 1)), (10, (.getfield 114, 3)), (13, (.aload_n 0, 1)), (14, (.getfield 360, 3)), (17, (.iload_n 1, 1)), (18, (.iastore, 1)), (19, (.aload_n 0, 1)), (20, (.dup, 1)), (21, (.getfield 360, 3)), (24, (.iconst 1, 1)), (25, (.iadd, 1)), (26, (.putfield 360, 3)), (29, (.return_, 1))]
set_option maxRecDepth 100000 in
theorem dt_X11_ran : (tb_X11_ran.all fun q => decide (decode cX11_ran q.1 = .ok q.2)) = true := by decide +kernel
set_option maxRecDepth 100000 in
set_option maxHeartbeats 4000000 in
theorem ok_F11_ran {m : Mem}  {v1 : Int} (q1 : inR v1) {out : Mem} (h : F11_ran m v1 = some out) : CT l G cy ad tt yX11_ran cX11_ran 2 none 0 [.ref (ad 83), iv v1] m none True out := by
  refine CT_of (by decide) (Nat.le_of_ble_eq_true rfl) (fun Go hR hT => ?_)
  replace hR : RS l G cy ad tt RX11 cX11_ran 2 0 Go := hR
  show Go 0 [some (.ref (ad 83)), some (iv v1)] [] m
  unfold F11_ran at h
  refine r_aload_n (pc := 0) hR (dc dt_X11_ran 0 rfl) rfl ?_
  refine r_geti (pc := 1) hR (dc dt_X11_ran 1 rfl) fl_X11_360 tc_83 rfl ?_
  refine r_bipush (pc := 4) hR (dc dt_X11_ran 2 rfl) (by decide) ?_
  refine jn_e h (fun (K : Mem → Option Mem) => ∀ (m_19 : Mem), K m_19 = some out → Go 19 [some (.ref (ad 83)), none] [] m_19) (fun m_19 h => ?_) (fun K19 J19 h => ?_)
  · refine r_aload_n (pc := 19) hR (dc dt_X11_ran 10 rfl) rfl ?_
    refine r_dup (pc := 20) hR (dc dt_X11_ran 11 rfl) rfl ?_
    refine r_geti (pc := 21) hR (dc dt_X11_ran 12 rfl) fl_X11_360 tc_83 rfl ?_
    refine r_iconst (pc := 24) hR (dc dt_X11_ran 13 rfl) ?_
    refine r_iadd (pc := 25) hR (dc dt_X11_ran 14 rfl) ?_
    refine r_puti (pc := 26) hR (dc dt_X11_ran 15 rfl) fl_X11_360 tc_83 rfl rfl rfl ?_
    replace h := stw_e h
    generalize wr m_19 83 49 (w32 ((rd m_19 83 49) + 1)) = m26 at h ⊢
    exact r_vret hT (dc dt_X11_ran 16 rfl) (Option.some.inj h)
  refine r_icmp_ge (pc := 6) (tgt := 19) hR (dc dt_X11_ran 3 rfl) (by decide) (rd_in _ _ _) (rg_c rfl) (fun hc => ?_) (fun hc => ?_)
  · replace h := ite_t hc h
    refine r_weak (L' := [some (.ref (ad 83)), none]) hR ⟨Or.inr rfl, Or.inl rfl, trivial⟩ ?_
    exact J19 m h
  replace h := ite_f hc h
  refine r_aload_n (pc := 9) hR (dc dt_X11_ran 4 rfl) rfl ?_
  refine r_getr (pc := 10) (k2 := 118) hR (dc dt_X11_ran 5 rfl) fl_X11_114 tc_83 rfl ?_
  refine r_aload_n (pc := 13) hR (dc dt_X11_ran 6 rfl) rfl ?_
  refine r_geti (pc := 14) hR (dc dt_X11_ran 7 rfl) fl_X11_360 tc_83 rfl ?_
  refine r_iload_n (pc := 17) hR (dc dt_X11_ran 8 rfl) rfl ?_
  obtain ⟨g1, h⟩ := gd_some h
  refine r_iast (pc := 18) hR (dc dt_X11_ran 9 rfl) tc_118 g1 (rd_in _ _ _) ?_
  replace h := stw_e h
  generalize wr m 118 (rd m 83 49) v1 = m18 at h ⊢
  refine r_weak (L' := [some (.ref (ad 83)), none]) hR ⟨Or.inr rfl, Or.inl rfl, trivial⟩ ?_
  exact J19 m18 h
def tb_X11_plainCosts : List (Nat × (Instr × Nat)) := [(0, (.aload_n 0, 1)), (1, (.iconst 1, 1)), (2, (.invokevirtual 363, 3)), (5, (.iload_n 2, 1)), (6, (.iload_n 1, 1)), (7, (.iadd, 1)), (8, (.ireturn, 1))]
set_option maxRecDepth 100000 in
theorem dt_X11_plainCosts : (tb_X11_plainCosts.all fun q => decide (decode cX11_plainCosts q.1 = .ok q.2)) = true := by decide +kernel
set_option maxRecDepth 100000 in
set_option maxHeartbeats 4000000 in
theorem ok_F11_plainCosts {m : Mem}  {v1 v2 : Int} (q1 : inR v1) (q2 : inR v2) {out : Int × Mem} (h : F11_plainCosts m v1 v2 = some out) : CT l G cy ad tt yX11_plainCosts cX11_plainCosts 3 (some .int) 1 [.ref (ad 83), iv v1, iv v2] m (some (iv out.1)) (inR out.1) out.2 := by
  refine CT_of (by decide) (Nat.le_of_ble_eq_true rfl) (fun Go hR hT => ?_)
  replace hR : RS l G cy ad tt RX11 cX11_plainCosts 3 1 Go := hR
  show Go 0 [some (.ref (ad 83)), some (iv v1), some (iv v2)] [] m
  unfold F11_plainCosts at h
  refine r_aload_n (pc := 0) hR (dc dt_X11_plainCosts 0 rfl) rfl ?_
  refine r_iconst (pc := 1) hR (dc dt_X11_plainCosts 1 rfl) ?_
  obtain ⟨m2, e2, h⟩ := b1_some h
  refine r_callV (pc := 2) (rest := []) hR (dc dt_X11_plainCosts 2 rfl) cl_X11_363 tc_83 rfl (ok_F11_ran (rg_c rfl) e2) (by decide) rfl (Nat.le_of_ble_eq_true rfl) rfl (fun q2r => ?_)
  show Go 5 [some (.ref (ad 83)), some (iv v1), some (iv v2)] [] m2
  refine r_iload_n (pc := 5) hR (dc dt_X11_plainCosts 3 rfl) rfl ?_
  refine r_iload_n (pc := 6) hR (dc dt_X11_plainCosts 4 rfl) rfl ?_
  refine r_iadd (pc := 7) hR (dc dt_X11_plainCosts 5 rfl) ?_
  exact r_iret hT (dc dt_X11_plainCosts 6 rfl) (congrArg Prod.fst (Option.some.inj h)) (congrArg Prod.snd (Option.some.inj h)) (w32_in _)
def tb_X11_costs : List (Nat × (Instr × Nat)) := [(0, (.aload_n 0, 1)), (1, (.getfield 108, 3)), (4, (.iload_n 1, 1)), (5, (.iaload, 1)), (6, (.iconst 3, 1)), (7, (.if_icmp .ne 18, 3)), (10, (.aload_n 0, 1)), (11, (.bipush 40, 2)), (13, (.invokevirtual 363, 3)), (16, (.aload_n 0, 1)), (17, (.iload_n 1, 1)), (18, (.iload_n 2, 1)), (19, (.invokevirtual 366, 3)), (22, (.iconst 1, 1)), (23, (.isub, 1)), (24, (.ireturn, 1)), (25, (.aload_n 0, 1)), (26, (.getfield 108, 3)), (29, (.iload_n 1, 1)), (30, (.iaload, 1)), (31, (.iconst 5, 1)), (32, (.if_icmp .ne 18, 3)), (35, (.aload_n 0, 1)), (36, (.bipush 60, 2)), (38, (.invokevirtual 363, 3)), (41, (.aload_n 0, 1)), (42, (.iload_n 1, 1)), (43, (.iload_n 2, 1)), (44, (.iconst 1, 1)), (45, (.iadd, 1)), (46, (.invokevirtual 366, 3)), (49, (.ireturn, 1)), (50, (.aload_n 0, 1)), (51, (.iload_n 1, 1)), (52, (.iload_n 2, 1)), (53, (.invokevirtual 366, 3)), (56, (.ireturn, 1))]
set_option maxRecDepth 100000 in
theorem dt_X11_costs : (tb_X11_costs.all fun q => decide (decode cX11_costs q.1 = .ok q.2)) = true := by decide +kernel
set_option maxRecDepth 100000 in
set_option maxHeartbeats 4000000 in
theorem ok_F11_costs {m : Mem}  {v1 v2 : Int} (q1 : inR v1) (q2 : inR v2) {out : Int × Mem} (h : F11_costs m v1 v2 = some out) : CT l G cy ad tt yX11_costs cX11_costs 3 (some .int) 2 [.ref (ad 83), iv v1, iv v2] m (some (iv out.1)) (inR out.1) out.2 := by
  refine CT_of (by decide) (Nat.le_of_ble_eq_true rfl) (fun Go hR hT => ?_)
  replace hR : RS l G cy ad tt RX11 cX11_costs 3 2 Go := hR
  show Go 0 [some (.ref (ad 83)), some (iv v1), some (iv v2)] [] m
  unfold F11_costs at h
  refine r_aload_n (pc := 0) hR (dc dt_X11_costs 0 rfl) rfl ?_
  refine r_getr (pc := 1) (k2 := 116) hR (dc dt_X11_costs 1 rfl) fl_X11_108 tc_83 rfl ?_
  refine r_iload_n (pc := 4) hR (dc dt_X11_costs 2 rfl) rfl ?_
  obtain ⟨g1, h⟩ := gd_some h
  refine r_iald (pc := 5) hR (dc dt_X11_costs 3 rfl) tc_116 g1 q1 ?_
  refine r_iconst (pc := 6) hR (dc dt_X11_costs 4 rfl) ?_
  refine r_icmp_ne (pc := 7) (tgt := 25) hR (dc dt_X11_costs 5 rfl) (by decide) (rd_in _ _ _) (rg_c rfl) (fun hc => ?_) (fun hc => ?_)
  · replace h := ite_t hc h
    refine r_aload_n (pc := 25) hR (dc dt_X11_costs 16 rfl) rfl ?_
    refine r_getr (pc := 26) (k2 := 116) hR (dc dt_X11_costs 17 rfl) fl_X11_108 tc_83 rfl ?_
    refine r_iload_n (pc := 29) hR (dc dt_X11_costs 18 rfl) rfl ?_
    obtain ⟨g1, h⟩ := gd_some h
    refine r_iald (pc := 30) hR (dc dt_X11_costs 19 rfl) tc_116 g1 q1 ?_
    refine r_iconst (pc := 31) hR (dc dt_X11_costs 20 rfl) ?_
    refine r_icmp_ne (pc := 32) (tgt := 50) hR (dc dt_X11_costs 21 rfl) (by decide) (rd_in _ _ _) (rg_c rfl) (fun hc => ?_) (fun hc => ?_)
    · replace h := ite_t hc h
      refine r_aload_n (pc := 50) hR (dc dt_X11_costs 32 rfl) rfl ?_
      refine r_iload_n (pc := 51) hR (dc dt_X11_costs 33 rfl) rfl ?_
      refine r_iload_n (pc := 52) hR (dc dt_X11_costs 34 rfl) rfl ?_
      obtain ⟨r53, m53, e53, h⟩ := b2_some h
      refine r_callV (pc := 53) (rest := []) hR (dc dt_X11_costs 35 rfl) cl_X11_366 tc_83 rfl (ok_F11_plainCosts q1 q2 e53) (by decide) rfl (Nat.le_of_ble_eq_true rfl) rfl (fun q53r => ?_)
      show Go 56 [some (.ref (ad 83)), some (iv v1), some (iv v2)] [iv r53] m53
      exact r_iret hT (dc dt_X11_costs 36 rfl) (congrArg Prod.fst (Option.some.inj h)) (congrArg Prod.snd (Option.some.inj h)) q53r
    replace h := ite_f hc h
    refine r_aload_n (pc := 35) hR (dc dt_X11_costs 22 rfl) rfl ?_
    refine r_bipush (pc := 36) hR (dc dt_X11_costs 23 rfl) (by decide) ?_
    obtain ⟨m38, e38, h⟩ := b1_some h
    refine r_callV (pc := 38) (rest := []) hR (dc dt_X11_costs 24 rfl) cl_X11_363 tc_83 rfl (ok_F11_ran (rg_c rfl) e38) (by decide) rfl (Nat.le_of_ble_eq_true rfl) rfl (fun q38r => ?_)
    show Go 41 [some (.ref (ad 83)), some (iv v1), some (iv v2)] [] m38
    refine r_aload_n (pc := 41) hR (dc dt_X11_costs 25 rfl) rfl ?_
    refine r_iload_n (pc := 42) hR (dc dt_X11_costs 26 rfl) rfl ?_
    refine r_iload_n (pc := 43) hR (dc dt_X11_costs 27 rfl) rfl ?_
    refine r_iconst (pc := 44) hR (dc dt_X11_costs 28 rfl) ?_
    refine r_iadd (pc := 45) hR (dc dt_X11_costs 29 rfl) ?_
    obtain ⟨r46, m46, e46, h⟩ := b2_some h
    refine r_callV (pc := 46) (rest := []) hR (dc dt_X11_costs 30 rfl) cl_X11_366 tc_83 rfl (ok_F11_plainCosts q1 (w32_in _) e46) (by decide) rfl (Nat.le_of_ble_eq_true rfl) rfl (fun q46r => ?_)
    show Go 49 [some (.ref (ad 83)), some (iv v1), some (iv v2)] [iv r46] m46
    exact r_iret hT (dc dt_X11_costs 31 rfl) (congrArg Prod.fst (Option.some.inj h)) (congrArg Prod.snd (Option.some.inj h)) q46r
  replace h := ite_f hc h
  refine r_aload_n (pc := 10) hR (dc dt_X11_costs 6 rfl) rfl ?_
  refine r_bipush (pc := 11) hR (dc dt_X11_costs 7 rfl) (by decide) ?_
  obtain ⟨m13, e13, h⟩ := b1_some h
  refine r_callV (pc := 13) (rest := []) hR (dc dt_X11_costs 8 rfl) cl_X11_363 tc_83 rfl (ok_F11_ran (rg_c rfl) e13) (by decide) rfl (Nat.le_of_ble_eq_true rfl) rfl (fun q13r => ?_)
  show Go 16 [some (.ref (ad 83)), some (iv v1), some (iv v2)] [] m13
  refine r_aload_n (pc := 16) hR (dc dt_X11_costs 9 rfl) rfl ?_
  refine r_iload_n (pc := 17) hR (dc dt_X11_costs 10 rfl) rfl ?_
  refine r_iload_n (pc := 18) hR (dc dt_X11_costs 11 rfl) rfl ?_
  obtain ⟨r19, m19, e19, h⟩ := b2_some h
  refine r_callV (pc := 19) (rest := []) hR (dc dt_X11_costs 12 rfl) cl_X11_366 tc_83 rfl (ok_F11_plainCosts q1 q2 e19) (by decide) rfl (Nat.le_of_ble_eq_true rfl) rfl (fun q19r => ?_)
  show Go 22 [some (.ref (ad 83)), some (iv v1), some (iv v2)] [iv r19] m19
  refine r_iconst (pc := 22) hR (dc dt_X11_costs 13 rfl) ?_
  refine r_isub (pc := 23) hR (dc dt_X11_costs 14 rfl) ?_
  exact r_iret hT (dc dt_X11_costs 15 rfl) (congrArg Prod.fst (Option.some.inj h)) (congrArg Prod.snd (Option.some.inj h)) (w32_in _)
def tb_X11_plainLets : List (Nat × (Instr × Nat)) := [(0, (.aload_n 0, 1)), (1, (.bipush 10, 2)), (3, (.invokevirtual 363, 3)), (6, (.aload_n 0, 1)), (7, (.iload_n 1, 1)), (8, (.iload_n 2, 1)), (9, (.invokevirtual 369, 3)), (12, (.iconst 2, 1)), (13, (.imul, 1)), (14, (.ireturn, 1))]
set_option maxRecDepth 100000 in
theorem dt_X11_plainLets : (tb_X11_plainLets.all fun q => decide (decode cX11_plainLets q.1 = .ok q.2)) = true := by decide +kernel
set_option maxRecDepth 100000 in
set_option maxHeartbeats 4000000 in
theorem ok_F11_plainLets {m : Mem}  {v1 v2 : Int} (q1 : inR v1) (q2 : inR v2) {out : Int × Mem} (h : F11_plainLets m v1 v2 = some out) : CT l G cy ad tt yX11_plainLets cX11_plainLets 3 (some .int) 3 [.ref (ad 83), iv v1, iv v2] m (some (iv out.1)) (inR out.1) out.2 := by
  refine CT_of (by decide) (Nat.le_of_ble_eq_true rfl) (fun Go hR hT => ?_)
  replace hR : RS l G cy ad tt RX11 cX11_plainLets 3 3 Go := hR
  show Go 0 [some (.ref (ad 83)), some (iv v1), some (iv v2)] [] m
  unfold F11_plainLets at h
  refine r_aload_n (pc := 0) hR (dc dt_X11_plainLets 0 rfl) rfl ?_
  refine r_bipush (pc := 1) hR (dc dt_X11_plainLets 1 rfl) (by decide) ?_
  obtain ⟨m3, e3, h⟩ := b1_some h
  refine r_callV (pc := 3) (rest := []) hR (dc dt_X11_plainLets 2 rfl) cl_X11_363 tc_83 rfl (ok_F11_ran (rg_c rfl) e3) (by decide) rfl (Nat.le_of_ble_eq_true rfl) rfl (fun q3r => ?_)
  show Go 6 [some (.ref (ad 83)), some (iv v1), some (iv v2)] [] m3
  refine r_aload_n (pc := 6) hR (dc dt_X11_plainLets 3 rfl) rfl ?_
  refine r_iload_n (pc := 7) hR (dc dt_X11_plainLets 4 rfl) rfl ?_
  refine r_iload_n (pc := 8) hR (dc dt_X11_plainLets 5 rfl) rfl ?_
  obtain ⟨r9, m9, e9, h⟩ := b2_some h
  refine r_callV (pc := 9) (rest := []) hR (dc dt_X11_plainLets 6 rfl) cl_X11_369 tc_83 rfl (ok_F11_costs q1 q2 e9) (by decide) rfl (Nat.le_of_ble_eq_true rfl) rfl (fun q9r => ?_)
  show Go 12 [some (.ref (ad 83)), some (iv v1), some (iv v2)] [iv r9] m9
  refine r_iconst (pc := 12) hR (dc dt_X11_plainLets 7 rfl) ?_
  refine r_imul (pc := 13) hR (dc dt_X11_plainLets 8 rfl) ?_
  exact r_iret hT (dc dt_X11_plainLets 9 rfl) (congrArg Prod.fst (Option.some.inj h)) (congrArg Prod.snd (Option.some.inj h)) (w32_in _)
def tb_X11_childLets : List (Nat × (Instr × Nat)) := [(0, (.aload_n 0, 1)), (1, (.bipush 20, 2)), (3, (.invokevirtual 363, 3)), (6, (.aload_n 0, 1)), (7, (.iload_n 1, 1)), (8, (.iload_n 2, 1)), (9, (.invokevirtual 372, 3)), (12, (.aload_n 0, 1)), (13, (.getfield 111, 3)), (16, (.iload_n 1, 1)), (17, (.iaload, 1)), (18, (.iadd, 1)), (19, (.ireturn, 1))]
set_option maxRecDepth 100000 in
theorem dt_X11_childLets : (tb_X11_childLets.all fun q => decide (decode cX11_childLets q.1 = .ok q.2)) = true := by decide +kernel
set_option maxRecDepth 100000 in
set_option maxHeartbeats 4000000 in
theorem ok_F11_childLets {m : Mem}  {v1 v2 : Int} (q1 : inR v1) (q2 : inR v2) {out : Int × Mem} (h : F11_childLets m v1 v2 = some out) : CT l G cy ad tt yX11_childLets cX11_childLets 3 (some .int) 4 [.ref (ad 83), iv v1, iv v2] m (some (iv out.1)) (inR out.1) out.2 := by
  refine CT_of (by decide) (Nat.le_of_ble_eq_true rfl) (fun Go hR hT => ?_)
  replace hR : RS l G cy ad tt RX11 cX11_childLets 3 4 Go := hR
  show Go 0 [some (.ref (ad 83)), some (iv v1), some (iv v2)] [] m
  unfold F11_childLets at h
  refine r_aload_n (pc := 0) hR (dc dt_X11_childLets 0 rfl) rfl ?_
  refine r_bipush (pc := 1) hR (dc dt_X11_childLets 1 rfl) (by decide) ?_
  obtain ⟨m3, e3, h⟩ := b1_some h
  refine r_callV (pc := 3) (rest := []) hR (dc dt_X11_childLets 2 rfl) cl_X11_363 tc_83 rfl (ok_F11_ran (rg_c rfl) e3) (by decide) rfl (Nat.le_of_ble_eq_true rfl) rfl (fun q3r => ?_)
  show Go 6 [some (.ref (ad 83)), some (iv v1), some (iv v2)] [] m3
  refine r_aload_n (pc := 6) hR (dc dt_X11_childLets 3 rfl) rfl ?_
  refine r_iload_n (pc := 7) hR (dc dt_X11_childLets 4 rfl) rfl ?_
  refine r_iload_n (pc := 8) hR (dc dt_X11_childLets 5 rfl) rfl ?_
  obtain ⟨r9, m9, e9, h⟩ := b2_some h
  refine r_callV (pc := 9) (rest := []) hR (dc dt_X11_childLets 6 rfl) cl_X11_372 tc_83 rfl (ok_F11_plainLets q1 q2 e9) (by decide) rfl (Nat.le_of_ble_eq_true rfl) rfl (fun q9r => ?_)
  show Go 12 [some (.ref (ad 83)), some (iv v1), some (iv v2)] [iv r9] m9
  refine r_aload_n (pc := 12) hR (dc dt_X11_childLets 7 rfl) rfl ?_
  refine r_getr (pc := 13) (k2 := 117) hR (dc dt_X11_childLets 8 rfl) fl_X11_111 tc_83 rfl ?_
  refine r_iload_n (pc := 16) hR (dc dt_X11_childLets 9 rfl) rfl ?_
  obtain ⟨g1, h⟩ := gd_some h
  refine r_iald (pc := 17) hR (dc dt_X11_childLets 10 rfl) tc_117 g1 q1 ?_
  refine r_iadd (pc := 18) hR (dc dt_X11_childLets 11 rfl) ?_
  exact r_iret hT (dc dt_X11_childLets 12 rfl) (congrArg Prod.fst (Option.some.inj h)) (congrArg Prod.snd (Option.some.inj h)) (w32_in _)
def tb_X11_plainKeeps : List (Nat × (Instr × Nat)) := [(0, (.aload_n 0, 1)), (1, (.bipush 11, 2)), (3, (.invokevirtual 363, 3)), (6, (.iload_n 2, 1)), (7, (.iload_n 1, 1)), (8, (.ixor, 1)), (9, (.ireturn, 1))]
set_option maxRecDepth 100000 in
theorem dt_X11_plainKeeps : (tb_X11_plainKeeps.all fun q => decide (decode cX11_plainKeeps q.1 = .ok q.2)) = true := by decide +kernel
set_option maxRecDepth 100000 in
set_option maxHeartbeats 4000000 in
theorem ok_F11_plainKeeps {m : Mem}  {v1 v2 : Int} (q1 : inR v1) (q2 : inR v2) {out : Int × Mem} (h : F11_plainKeeps m v1 v2 = some out) : CT l G cy ad tt yX11_plainKeeps cX11_plainKeeps 3 (some .int) 1 [.ref (ad 83), iv v1, iv v2] m (some (iv out.1)) (inR out.1) out.2 := by
  refine CT_of (by decide) (Nat.le_of_ble_eq_true rfl) (fun Go hR hT => ?_)
  replace hR : RS l G cy ad tt RX11 cX11_plainKeeps 3 1 Go := hR
  show Go 0 [some (.ref (ad 83)), some (iv v1), some (iv v2)] [] m
  unfold F11_plainKeeps at h
  refine r_aload_n (pc := 0) hR (dc dt_X11_plainKeeps 0 rfl) rfl ?_
  refine r_bipush (pc := 1) hR (dc dt_X11_plainKeeps 1 rfl) (by decide) ?_
  obtain ⟨m3, e3, h⟩ := b1_some h
  refine r_callV (pc := 3) (rest := []) hR (dc dt_X11_plainKeeps 2 rfl) cl_X11_363 tc_83 rfl (ok_F11_ran (rg_c rfl) e3) (by decide) rfl (Nat.le_of_ble_eq_true rfl) rfl (fun q3r => ?_)
  show Go 6 [some (.ref (ad 83)), some (iv v1), some (iv v2)] [] m3
  refine r_iload_n (pc := 6) hR (dc dt_X11_plainKeeps 3 rfl) rfl ?_
  refine r_iload_n (pc := 7) hR (dc dt_X11_plainKeeps 4 rfl) rfl ?_
  refine r_ixor (pc := 8) hR (dc dt_X11_plainKeeps 5 rfl) ?_
  exact r_iret hT (dc dt_X11_plainKeeps 6 rfl) (congrArg Prod.fst (Option.some.inj h)) (congrArg Prod.snd (Option.some.inj h)) (ti_in _)
def tb_X11_lostKeeps : List (Nat × (Instr × Nat)) := [(0, (.aload_n 0, 1)), (1, (.bipush 50, 2)), (3, (.invokevirtual 363, 3)), (6, (.aload_n 0, 1)), (7, (.iload_n 1, 1)), (8, (.iload_n 2, 1)), (9, (.invokevirtual 384, 3)), (12, (.ineg, 1)), (13, (.ireturn, 1))]
set_option maxRecDepth 100000 in
theorem dt_X11_lostKeeps : (tb_X11_lostKeeps.all fun q => decide (decode cX11_lostKeeps q.1 = .ok q.2)) = true := by decide +kernel
set_option maxRecDepth 100000 in
set_option maxHeartbeats 4000000 in
theorem ok_F11_lostKeeps {m : Mem}  {v1 v2 : Int} (q1 : inR v1) (q2 : inR v2) {out : Int × Mem} (h : F11_lostKeeps m v1 v2 = some out) : CT l G cy ad tt yX11_lostKeeps cX11_lostKeeps 3 (some .int) 2 [.ref (ad 83), iv v1, iv v2] m (some (iv out.1)) (inR out.1) out.2 := by
  refine CT_of (by decide) (Nat.le_of_ble_eq_true rfl) (fun Go hR hT => ?_)
  replace hR : RS l G cy ad tt RX11 cX11_lostKeeps 3 2 Go := hR
  show Go 0 [some (.ref (ad 83)), some (iv v1), some (iv v2)] [] m
  unfold F11_lostKeeps at h
  refine r_aload_n (pc := 0) hR (dc dt_X11_lostKeeps 0 rfl) rfl ?_
  refine r_bipush (pc := 1) hR (dc dt_X11_lostKeeps 1 rfl) (by decide) ?_
  obtain ⟨m3, e3, h⟩ := b1_some h
  refine r_callV (pc := 3) (rest := []) hR (dc dt_X11_lostKeeps 2 rfl) cl_X11_363 tc_83 rfl (ok_F11_ran (rg_c rfl) e3) (by decide) rfl (Nat.le_of_ble_eq_true rfl) rfl (fun q3r => ?_)
  show Go 6 [some (.ref (ad 83)), some (iv v1), some (iv v2)] [] m3
  refine r_aload_n (pc := 6) hR (dc dt_X11_lostKeeps 3 rfl) rfl ?_
  refine r_iload_n (pc := 7) hR (dc dt_X11_lostKeeps 4 rfl) rfl ?_
  refine r_iload_n (pc := 8) hR (dc dt_X11_lostKeeps 5 rfl) rfl ?_
  obtain ⟨r9, m9, e9, h⟩ := b2_some h
  refine r_callV (pc := 9) (rest := []) hR (dc dt_X11_lostKeeps 6 rfl) cl_X11_384 tc_83 rfl (ok_F11_plainKeeps q1 q2 e9) (by decide) rfl (Nat.le_of_ble_eq_true rfl) rfl (fun q9r => ?_)
  show Go 12 [some (.ref (ad 83)), some (iv v1), some (iv v2)] [iv r9] m9
  refine r_ineg (pc := 12) hR (dc dt_X11_lostKeeps 7 rfl) ?_
  exact r_iret hT (dc dt_X11_lostKeeps 8 rfl) (congrArg Prod.fst (Option.some.inj h)) (congrArg Prod.snd (Option.some.inj h)) (w32_in _)
def tb_X11_keeps : List (Nat × (Instr × Nat)) := [(0, (.aload_n 0, 1)), (1, (.getfield 108, 3)), (4, (.iload_n 1, 1)), (5, (.iaload, 1)), (6, (.iconst 2, 1)), (7, (.if_icmp .ne 18, 3)), (10, (.aload_n 0, 1)), (11, (.bipush 30, 2)), (13, (.invokevirtual 363, 3)), (16, (.aload_n 0, 1)), (17, (.iload_n 1, 1)), (18, (.iload_n 2, 1)), (19, (.invokevirtual 384, 3)), (22, (.iconst 3, 1)), (23, (.imul, 1)), (24, (.ireturn, 1)), (25, (.aload_n 0, 1)), (26, (.getfield 108, 3)), (29, (.iload_n 1, 1)), (30, (.iaload, 1)), (31, (.iconst 5, 1)), (32, (.if_icmp .ne 25, 3)), (35, (.aload_n 0, 1)), (36, (.bipush 61, 2)), (38, (.invokevirtual 363, 3)), (41, (.aload_n 0, 1)), (42, (.iload_n 1, 1)), (43, (.iload_n 2, 1)), (44, (.invokevirtual 387, 3)), (47, (.istore_n 3, 1)), (48, (.iload_n 3, 1)), (49, (.aload_n 0, 1)), (50, (.iload_n 1, 1)), (51, (.iconst 2, 1)), (52, (.invokevirtual 369, 3)), (55, (.iadd, 1)), (56, (.ireturn, 1)), (57, (.aload_n 0, 1)), (58, (.getfield 108, 3)), (61, (.iload_n 1, 1)), (62, (.iaload, 1)), (63, (.iconst 4, 1)), (64, (.if_icmp .ne 12, 3)), (67, (.aload_n 0, 1)), (68, (.iload_n 1, 1)), (69, (.iload_n 2, 1)), (70, (.invokevirtual 387, 3)), (73, (.goto 9, 3)), (76, (.aload_n 0, 1)), (77, (.iload_n 1, 1)), (78, (.iload_n 2, 1)), (79, (.invokevirtual 384, 3)), (82, (.ireturn, 1))]
set_option maxRecDepth 100000 in
theorem dt_X11_keeps : (tb_X11_keeps.all fun q => decide (decode cX11_keeps q.1 = .ok q.2)) = true := by decide +kernel
set_option maxRecDepth 100000 in
set_option maxHeartbeats 4000000 in
theorem ok_F11_keeps {m : Mem}  {v1 v2 : Int} (q1 : inR v1) (q2 : inR v2) {out : Int × Mem} (h : F11_keeps m v1 v2 = some out) : CT l G cy ad tt yX11_keeps cX11_keeps 4 (some .int) 3 [.ref (ad 83), iv v1, iv v2] m (some (iv out.1)) (inR out.1) out.2 := by
  refine CT_of (by decide) (Nat.le_of_ble_eq_true rfl) (fun Go hR hT => ?_)
  replace hR : RS l G cy ad tt RX11 cX11_keeps 4 3 Go := hR
  show Go 0 [some (.ref (ad 83)), some (iv v1), some (iv v2), none] [] m
  unfold F11_keeps at h
  refine r_aload_n (pc := 0) hR (dc dt_X11_keeps 0 rfl) rfl ?_
  refine r_getr (pc := 1) (k2 := 116) hR (dc dt_X11_keeps 1 rfl) fl_X11_108 tc_83 rfl ?_
  refine r_iload_n (pc := 4) hR (dc dt_X11_keeps 2 rfl) rfl ?_
  obtain ⟨g1, h⟩ := gd_some h
  refine r_iald (pc := 5) hR (dc dt_X11_keeps 3 rfl) tc_116 g1 q1 ?_
  refine r_iconst (pc := 6) hR (dc dt_X11_keeps 4 rfl) ?_
  refine r_icmp_ne (pc := 7) (tgt := 25) hR (dc dt_X11_keeps 5 rfl) (by decide) (rd_in _ _ _) (rg_c rfl) (fun hc => ?_) (fun hc => ?_)
  · replace h := ite_t hc h
    refine r_aload_n (pc := 25) hR (dc dt_X11_keeps 16 rfl) rfl ?_
    refine r_getr (pc := 26) (k2 := 116) hR (dc dt_X11_keeps 17 rfl) fl_X11_108 tc_83 rfl ?_
    refine r_iload_n (pc := 29) hR (dc dt_X11_keeps 18 rfl) rfl ?_
    obtain ⟨g1, h⟩ := gd_some h
    refine r_iald (pc := 30) hR (dc dt_X11_keeps 19 rfl) tc_116 g1 q1 ?_
    refine r_iconst (pc := 31) hR (dc dt_X11_keeps 20 rfl) ?_
    refine r_icmp_ne (pc := 32) (tgt := 57) hR (dc dt_X11_keeps 21 rfl) (by decide) (rd_in _ _ _) (rg_c rfl) (fun hc => ?_) (fun hc => ?_)
    · replace h := ite_t hc h
      refine r_aload_n (pc := 57) hR (dc dt_X11_keeps 37 rfl) rfl ?_
      refine r_getr (pc := 58) (k2 := 116) hR (dc dt_X11_keeps 38 rfl) fl_X11_108 tc_83 rfl ?_
      refine r_iload_n (pc := 61) hR (dc dt_X11_keeps 39 rfl) rfl ?_
      obtain ⟨g1, h⟩ := gd_some h
      refine r_iald (pc := 62) hR (dc dt_X11_keeps 40 rfl) tc_116 g1 q1 ?_
      refine r_iconst (pc := 63) hR (dc dt_X11_keeps 41 rfl) ?_
      refine r_icmp_ne (pc := 64) (tgt := 76) hR (dc dt_X11_keeps 42 rfl) (by decide) (rd_in _ _ _) (rg_c rfl) (fun hc => ?_) (fun hc => ?_)
      · replace h := ite_t hc h
        refine r_aload_n (pc := 76) hR (dc dt_X11_keeps 48 rfl) rfl ?_
        refine r_iload_n (pc := 77) hR (dc dt_X11_keeps 49 rfl) rfl ?_
        refine r_iload_n (pc := 78) hR (dc dt_X11_keeps 50 rfl) rfl ?_
        obtain ⟨r79, m79, e79, h⟩ := b2_some h
        refine r_callV (pc := 79) (rest := []) hR (dc dt_X11_keeps 51 rfl) cl_X11_384 tc_83 rfl (ok_F11_plainKeeps q1 q2 e79) (by decide) rfl (Nat.le_of_ble_eq_true rfl) rfl (fun q79r => ?_)
        show Go 82 [some (.ref (ad 83)), some (iv v1), some (iv v2), none] [iv r79] m79
        exact r_iret hT (dc dt_X11_keeps 52 rfl) (congrArg Prod.fst (Option.some.inj h)) (congrArg Prod.snd (Option.some.inj h)) q79r
      replace h := ite_f hc h
      refine r_aload_n (pc := 67) hR (dc dt_X11_keeps 43 rfl) rfl ?_
      refine r_iload_n (pc := 68) hR (dc dt_X11_keeps 44 rfl) rfl ?_
      refine r_iload_n (pc := 69) hR (dc dt_X11_keeps 45 rfl) rfl ?_
      obtain ⟨r70, m70, e70, h⟩ := b2_some h
      refine r_callV (pc := 70) (rest := []) hR (dc dt_X11_keeps 46 rfl) cl_X11_387 tc_83 rfl (ok_F11_lostKeeps q1 q2 e70) (by decide) rfl (Nat.le_of_ble_eq_true rfl) rfl (fun q70r => ?_)
      show Go 73 [some (.ref (ad 83)), some (iv v1), some (iv v2), none] [iv r70] m70
      refine r_goto (pc := 73) (tgt := 82) hR (dc dt_X11_keeps 47 rfl) (by decide) ?_
      exact r_iret hT (dc dt_X11_keeps 52 rfl) (congrArg Prod.fst (Option.some.inj h)) (congrArg Prod.snd (Option.some.inj h)) q70r
    replace h := ite_f hc h
    refine r_aload_n (pc := 35) hR (dc dt_X11_keeps 22 rfl) rfl ?_
    refine r_bipush (pc := 36) hR (dc dt_X11_keeps 23 rfl) (by decide) ?_
    obtain ⟨m38, e38, h⟩ := b1_some h
    refine r_callV (pc := 38) (rest := []) hR (dc dt_X11_keeps 24 rfl) cl_X11_363 tc_83 rfl (ok_F11_ran (rg_c rfl) e38) (by decide) rfl (Nat.le_of_ble_eq_true rfl) rfl (fun q38r => ?_)
    show Go 41 [some (.ref (ad 83)), some (iv v1), some (iv v2), none] [] m38
    refine r_aload_n (pc := 41) hR (dc dt_X11_keeps 25 rfl) rfl ?_
    refine r_iload_n (pc := 42) hR (dc dt_X11_keeps 26 rfl) rfl ?_
    refine r_iload_n (pc := 43) hR (dc dt_X11_keeps 27 rfl) rfl ?_
    obtain ⟨r44, m44, e44, h⟩ := b2_some h
    refine r_callV (pc := 44) (rest := []) hR (dc dt_X11_keeps 28 rfl) cl_X11_387 tc_83 rfl (ok_F11_lostKeeps q1 q2 e44) (by decide) rfl (Nat.le_of_ble_eq_true rfl) rfl (fun q44r => ?_)
    show Go 47 [some (.ref (ad 83)), some (iv v1), some (iv v2), none] [iv r44] m44
    refine r_istore_n (pc := 47) (L' := [some (.ref (ad 83)), some (iv v1), some (iv v2), some (iv r44)]) hR (dc dt_X11_keeps 29 rfl) (by decide) rfl rfl ?_
    refine r_iload_n (pc := 48) hR (dc dt_X11_keeps 30 rfl) rfl ?_
    refine r_aload_n (pc := 49) hR (dc dt_X11_keeps 31 rfl) rfl ?_
    refine r_iload_n (pc := 50) hR (dc dt_X11_keeps 32 rfl) rfl ?_
    refine r_iconst (pc := 51) hR (dc dt_X11_keeps 33 rfl) ?_
    obtain ⟨r52, m52, e52, h⟩ := b2_some h
    refine r_callV (pc := 52) (rest := [iv r44]) hR (dc dt_X11_keeps 34 rfl) cl_X11_369 tc_83 rfl (ok_F11_costs q1 (rg_c rfl) e52) (by decide) rfl (Nat.le_of_ble_eq_true rfl) rfl (fun q52r => ?_)
    show Go 55 [some (.ref (ad 83)), some (iv v1), some (iv v2), some (iv r44)] [iv r52, iv r44] m52
    refine r_iadd (pc := 55) hR (dc dt_X11_keeps 35 rfl) ?_
    exact r_iret hT (dc dt_X11_keeps 36 rfl) (congrArg Prod.fst (Option.some.inj h)) (congrArg Prod.snd (Option.some.inj h)) (w32_in _)
  replace h := ite_f hc h
  refine r_aload_n (pc := 10) hR (dc dt_X11_keeps 6 rfl) rfl ?_
  refine r_bipush (pc := 11) hR (dc dt_X11_keeps 7 rfl) (by decide) ?_
  obtain ⟨m13, e13, h⟩ := b1_some h
  refine r_callV (pc := 13) (rest := []) hR (dc dt_X11_keeps 8 rfl) cl_X11_363 tc_83 rfl (ok_F11_ran (rg_c rfl) e13) (by decide) rfl (Nat.le_of_ble_eq_true rfl) rfl (fun q13r => ?_)
  show Go 16 [some (.ref (ad 83)), some (iv v1), some (iv v2), none] [] m13
  refine r_aload_n (pc := 16) hR (dc dt_X11_keeps 9 rfl) rfl ?_
  refine r_iload_n (pc := 17) hR (dc dt_X11_keeps 10 rfl) rfl ?_
  refine r_iload_n (pc := 18) hR (dc dt_X11_keeps 11 rfl) rfl ?_
  obtain ⟨r19, m19, e19, h⟩ := b2_some h
  refine r_callV (pc := 19) (rest := []) hR (dc dt_X11_keeps 12 rfl) cl_X11_384 tc_83 rfl (ok_F11_plainKeeps q1 q2 e19) (by decide) rfl (Nat.le_of_ble_eq_true rfl) rfl (fun q19r => ?_)
  show Go 22 [some (.ref (ad 83)), some (iv v1), some (iv v2), none] [iv r19] m19
  refine r_iconst (pc := 22) hR (dc dt_X11_keeps 13 rfl) ?_
  refine r_imul (pc := 23) hR (dc dt_X11_keeps 14 rfl) ?_
  exact r_iret hT (dc dt_X11_keeps 15 rfl) (congrArg Prod.fst (Option.some.inj h)) (congrArg Prod.snd (Option.some.inj h)) (w32_in _)
def tb_X11_lets : List (Nat × (Instr × Nat)) := [(0, (.aload_n 0, 1)), (1, (.getfield 108, 3)), (4, (.iload_n 1, 1)), (5, (.iaload, 1)), (6, (.bipush 6, 2)), (8, (.if_icmp .ne 25, 3)), (11, (.aload_n 0, 1)), (12, (.bipush 70, 2)), (14, (.invokevirtual 363, 3)), (17, (.aload_n 0, 1)), (18, (.iload_n 1, 1)), (19, (.iload_n 2, 1)), (20, (.invokevirtual 375, 3)), (23, (.istore_n 3, 1)), (24, (.iload_n 3, 1)), (25, (.aload_n 0, 1)), (26, (.iload_n 1, 1)), (27, (.iconst 2, 1)), (28, (.invokevirtual 378, 3)), (31, (.isub, 1)), (32, (.ireturn, 1)), (33, (.aload_n 0, 1)), (34, (.getfield 108, 3)), (37, (.iload_n 1, 1)), (38, (.iaload, 1)), (39, (.iconst 1, 1)), (40, (.invokestatic 381, 3)), (43, (.ifCond .eq 12, 3)), (46, (.aload_n 0, 1)), (47, (.iload_n 1, 1)), (48, (.iload_n 2, 1)), (49, (.invokevirtual 375, 3)), (52, (.goto 9, 3)), (55, (.aload_n 0, 1)), (56, (.iload_n 1, 1)), (57, (.iload_n 2, 1)), (58, (.invokevirtual 372, 3)), (61, (.ireturn, 1))]
set_option maxRecDepth 100000 in
theorem dt_X11_lets : (tb_X11_lets.all fun q => decide (decode cX11_lets q.1 = .ok q.2)) = true := by decide +kernel
set_option maxRecDepth 100000 in
set_option maxHeartbeats 4000000 in
theorem ok_F11_lets {m : Mem}  {v1 v2 : Int} (q1 : inR v1) (q2 : inR v2) {out : Int × Mem} (h : F11_lets m v1 v2 = some out) : CT l G cy ad tt yX11_lets cX11_lets 4 (some .int) 5 [.ref (ad 83), iv v1, iv v2] m (some (iv out.1)) (inR out.1) out.2 := by
  refine CT_of (by decide) (Nat.le_of_ble_eq_true rfl) (fun Go hR hT => ?_)
  replace hR : RS l G cy ad tt RX11 cX11_lets 4 5 Go := hR
  show Go 0 [some (.ref (ad 83)), some (iv v1), some (iv v2), none] [] m
  unfold F11_lets at h
  refine r_aload_n (pc := 0) hR (dc dt_X11_lets 0 rfl) rfl ?_
  refine r_getr (pc := 1) (k2 := 116) hR (dc dt_X11_lets 1 rfl) fl_X11_108 tc_83 rfl ?_
  refine r_iload_n (pc := 4) hR (dc dt_X11_lets 2 rfl) rfl ?_
  obtain ⟨g1, h⟩ := gd_some h
  refine r_iald (pc := 5) hR (dc dt_X11_lets 3 rfl) tc_116 g1 q1 ?_
  refine r_bipush (pc := 6) hR (dc dt_X11_lets 4 rfl) (by decide) ?_
  refine r_icmp_ne (pc := 8) (tgt := 33) hR (dc dt_X11_lets 5 rfl) (by decide) (rd_in _ _ _) (rg_c rfl) (fun hc => ?_) (fun hc => ?_)
  · replace h := ite_t hc h
    refine r_aload_n (pc := 33) hR (dc dt_X11_lets 21 rfl) rfl ?_
    refine r_getr (pc := 34) (k2 := 116) hR (dc dt_X11_lets 22 rfl) fl_X11_108 tc_83 rfl ?_
    refine r_iload_n (pc := 37) hR (dc dt_X11_lets 23 rfl) rfl ?_
    obtain ⟨g1, h⟩ := gd_some h
    refine r_iald (pc := 38) hR (dc dt_X11_lets 24 rfl) tc_116 g1 q1 ?_
    refine r_iconst (pc := 39) hR (dc dt_X11_lets 25 rfl) ?_
    refine r_callS (pc := 40) (rest := []) hR (dc dt_X11_lets 26 rfl) cl_X11_381 (ok_F11_isUnder (rd_in _ _ _) (rg_c rfl)) (by decide) rfl (Nat.le_of_ble_eq_true rfl) rfl (fun q40r => ?_)
    show Go 43 [some (.ref (ad 83)), some (iv v1), some (iv v2), none] [iv (F11_isUnder (rd m 116 v1) 1)] m
    refine r_if_eq (pc := 43) (tgt := 55) hR (dc dt_X11_lets 27 rfl) (by decide) (inZ_R q40r) (fun hc => ?_) (fun hc => ?_)
    · replace h := ite_t hc h
      refine r_aload_n (pc := 55) hR (dc dt_X11_lets 33 rfl) rfl ?_
      refine r_iload_n (pc := 56) hR (dc dt_X11_lets 34 rfl) rfl ?_
      refine r_iload_n (pc := 57) hR (dc dt_X11_lets 35 rfl) rfl ?_
      obtain ⟨r58, m58, e58, h⟩ := b2_some h
      refine r_callV (pc := 58) (rest := []) hR (dc dt_X11_lets 36 rfl) cl_X11_372 tc_83 rfl (ok_F11_plainLets q1 q2 e58) (by decide) rfl (Nat.le_of_ble_eq_true rfl) rfl (fun q58r => ?_)
      show Go 61 [some (.ref (ad 83)), some (iv v1), some (iv v2), none] [iv r58] m58
      exact r_iret hT (dc dt_X11_lets 37 rfl) (congrArg Prod.fst (Option.some.inj h)) (congrArg Prod.snd (Option.some.inj h)) q58r
    replace h := ite_f hc h
    refine r_aload_n (pc := 46) hR (dc dt_X11_lets 28 rfl) rfl ?_
    refine r_iload_n (pc := 47) hR (dc dt_X11_lets 29 rfl) rfl ?_
    refine r_iload_n (pc := 48) hR (dc dt_X11_lets 30 rfl) rfl ?_
    obtain ⟨r49, m49, e49, h⟩ := b2_some h
    refine r_callV (pc := 49) (rest := []) hR (dc dt_X11_lets 31 rfl) cl_X11_375 tc_83 rfl (ok_F11_childLets q1 q2 e49) (by decide) rfl (Nat.le_of_ble_eq_true rfl) rfl (fun q49r => ?_)
    show Go 52 [some (.ref (ad 83)), some (iv v1), some (iv v2), none] [iv r49] m49
    refine r_goto (pc := 52) (tgt := 61) hR (dc dt_X11_lets 32 rfl) (by decide) ?_
    exact r_iret hT (dc dt_X11_lets 37 rfl) (congrArg Prod.fst (Option.some.inj h)) (congrArg Prod.snd (Option.some.inj h)) q49r
  replace h := ite_f hc h
  refine r_aload_n (pc := 11) hR (dc dt_X11_lets 6 rfl) rfl ?_
  refine r_bipush (pc := 12) hR (dc dt_X11_lets 7 rfl) (by decide) ?_
  obtain ⟨m14, e14, h⟩ := b1_some h
  refine r_callV (pc := 14) (rest := []) hR (dc dt_X11_lets 8 rfl) cl_X11_363 tc_83 rfl (ok_F11_ran (rg_c rfl) e14) (by decide) rfl (Nat.le_of_ble_eq_true rfl) rfl (fun q14r => ?_)
  show Go 17 [some (.ref (ad 83)), some (iv v1), some (iv v2), none] [] m14
  refine r_aload_n (pc := 17) hR (dc dt_X11_lets 9 rfl) rfl ?_
  refine r_iload_n (pc := 18) hR (dc dt_X11_lets 10 rfl) rfl ?_
  refine r_iload_n (pc := 19) hR (dc dt_X11_lets 11 rfl) rfl ?_
  obtain ⟨r20, m20, e20, h⟩ := b2_some h
  refine r_callV (pc := 20) (rest := []) hR (dc dt_X11_lets 12 rfl) cl_X11_375 tc_83 rfl (ok_F11_childLets q1 q2 e20) (by decide) rfl (Nat.le_of_ble_eq_true rfl) rfl (fun q20r => ?_)
  show Go 23 [some (.ref (ad 83)), some (iv v1), some (iv v2), none] [iv r20] m20
  refine r_istore_n (pc := 23) (L' := [some (.ref (ad 83)), some (iv v1), some (iv v2), some (iv r20)]) hR (dc dt_X11_lets 13 rfl) (by decide) rfl rfl ?_
  refine r_iload_n (pc := 24) hR (dc dt_X11_lets 14 rfl) rfl ?_
  refine r_aload_n (pc := 25) hR (dc dt_X11_lets 15 rfl) rfl ?_
  refine r_iload_n (pc := 26) hR (dc dt_X11_lets 16 rfl) rfl ?_
  refine r_iconst (pc := 27) hR (dc dt_X11_lets 17 rfl) ?_
  obtain ⟨r28, m28, e28, h⟩ := b2_some h
  refine r_callV (pc := 28) (rest := [iv r20]) hR (dc dt_X11_lets 18 rfl) cl_X11_378 tc_83 rfl (ok_F11_keeps q1 (rg_c rfl) e28) (by decide) rfl (Nat.le_of_ble_eq_true rfl) rfl (fun q28r => ?_)
  show Go 31 [some (.ref (ad 83)), some (iv v1), some (iv v2), some (iv r20)] [iv r28, iv r20] m28
  refine r_isub (pc := 31) hR (dc dt_X11_lets 19 rfl) ?_
  exact r_iret hT (dc dt_X11_lets 20 rfl) (congrArg Prod.fst (Option.some.inj h)) (congrArg Prod.snd (Option.some.inj h)) (w32_in _)
def tb_X11_plainTells : List (Nat × (Instr × Nat)) := [(0, (.aload_n 0, 1)), (1, (.iconst 2, 1)), (2, (.invokevirtual 363, 3)), (5, (.aload_n 0, 1)), (6, (.iload_n 1, 1)), (7, (.iload_n 2, 1)), (8, (.invokevirtual 390, 3)), (11, (.istore_n 3, 1)), (12, (.iload_n 3, 1)), (13, (.aload_n 0, 1)), (14, (.iload_n 1, 1)), (15, (.iconst 1, 1)), (16, (.invokevirtual 378, 3)), (19, (.isub, 1)), (20, (.ireturn, 1))]
set_option maxRecDepth 100000 in
theorem dt_X11_plainTells : (tb_X11_plainTells.all fun q => decide (decode cX11_plainTells q.1 = .ok q.2)) = true := by decide +kernel
set_option maxRecDepth 100000 in
set_option maxHeartbeats 4000000 in
theorem ok_F11_plainTells {m : Mem}  {v1 v2 : Int} (q1 : inR v1) (q2 : inR v2) {out : Int × Mem} (h : F11_plainTells m v1 v2 = some out) : CT l G cy ad tt yX11_plainTells cX11_plainTells 4 (some .int) 6 [.ref (ad 83), iv v1, iv v2] m (some (iv out.1)) (inR out.1) out.2 := by
  refine CT_of (by decide) (Nat.le_of_ble_eq_true rfl) (fun Go hR hT => ?_)
  replace hR : RS l G cy ad tt RX11 cX11_plainTells 4 6 Go := hR
  show Go 0 [some (.ref (ad 83)), some (iv v1), some (iv v2), none] [] m
  unfold F11_plainTells at h
  refine r_aload_n (pc := 0) hR (dc dt_X11_plainTells 0 rfl) rfl ?_
  refine r_iconst (pc := 1) hR (dc dt_X11_plainTells 1 rfl) ?_
  obtain ⟨m2, e2, h⟩ := b1_some h
  refine r_callV (pc := 2) (rest := []) hR (dc dt_X11_plainTells 2 rfl) cl_X11_363 tc_83 rfl (ok_F11_ran (rg_c rfl) e2) (by decide) rfl (Nat.le_of_ble_eq_true rfl) rfl (fun q2r => ?_)
  show Go 5 [some (.ref (ad 83)), some (iv v1), some (iv v2), none] [] m2
  refine r_aload_n (pc := 5) hR (dc dt_X11_plainTells 3 rfl) rfl ?_
  refine r_iload_n (pc := 6) hR (dc dt_X11_plainTells 4 rfl) rfl ?_
  refine r_iload_n (pc := 7) hR (dc dt_X11_plainTells 5 rfl) rfl ?_
  obtain ⟨r8, m8, e8, h⟩ := b2_some h
  refine r_callV (pc := 8) (rest := []) hR (dc dt_X11_plainTells 6 rfl) cl_X11_390 tc_83 rfl (ok_F11_lets q1 q2 e8) (by decide) rfl (Nat.le_of_ble_eq_true rfl) rfl (fun q8r => ?_)
  show Go 11 [some (.ref (ad 83)), some (iv v1), some (iv v2), none] [iv r8] m8
  refine r_istore_n (pc := 11) (L' := [some (.ref (ad 83)), some (iv v1), some (iv v2), some (iv r8)]) hR (dc dt_X11_plainTells 7 rfl) (by decide) rfl rfl ?_
  refine r_iload_n (pc := 12) hR (dc dt_X11_plainTells 8 rfl) rfl ?_
  refine r_aload_n (pc := 13) hR (dc dt_X11_plainTells 9 rfl) rfl ?_
  refine r_iload_n (pc := 14) hR (dc dt_X11_plainTells 10 rfl) rfl ?_
  refine r_iconst (pc := 15) hR (dc dt_X11_plainTells 11 rfl) ?_
  obtain ⟨r16, m16, e16, h⟩ := b2_some h
  refine r_callV (pc := 16) (rest := [iv r8]) hR (dc dt_X11_plainTells 12 rfl) cl_X11_378 tc_83 rfl (ok_F11_keeps q1 (rg_c rfl) e16) (by decide) rfl (Nat.le_of_ble_eq_true rfl) rfl (fun q16r => ?_)
  show Go 19 [some (.ref (ad 83)), some (iv v1), some (iv v2), some (iv r8)] [iv r16, iv r8] m16
  refine r_isub (pc := 19) hR (dc dt_X11_plainTells 13 rfl) ?_
  exact r_iret hT (dc dt_X11_plainTells 14 rfl) (congrArg Prod.fst (Option.some.inj h)) (congrArg Prod.snd (Option.some.inj h)) (w32_in _)
def tb_X11_tells : List (Nat × (Instr × Nat)) := [(0, (.aload_n 0, 1)), (1, (.getfield 108, 3)), (4, (.iload_n 1, 1)), (5, (.iaload, 1)), (6, (.iconst 3, 1)), (7, (.if_icmp .ne 18, 3)), (10, (.aload_n 0, 1)), (11, (.bipush 41, 2)), (13, (.invokevirtual 363, 3)), (16, (.aload_n 0, 1)), (17, (.iload_n 1, 1)), (18, (.iload_n 2, 1)), (19, (.invokevirtual 393, 3)), (22, (.iconst 5, 1)), (23, (.ixor, 1)), (24, (.ireturn, 1)), (25, (.aload_n 0, 1)), (26, (.iload_n 1, 1)), (27, (.iload_n 2, 1)), (28, (.invokevirtual 393, 3)), (31, (.ireturn, 1))]
set_option maxRecDepth 100000 in
theorem dt_X11_tells : (tb_X11_tells.all fun q => decide (decode cX11_tells q.1 = .ok q.2)) = true := by decide +kernel
set_option maxRecDepth 100000 in
set_option maxHeartbeats 4000000 in
theorem ok_F11_tells {m : Mem}  {v1 v2 : Int} (q1 : inR v1) (q2 : inR v2) {out : Int × Mem} (h : F11_tells m v1 v2 = some out) : CT l G cy ad tt yX11_tells cX11_tells 3 (some .int) 7 [.ref (ad 83), iv v1, iv v2] m (some (iv out.1)) (inR out.1) out.2 := by
  refine CT_of (by decide) (Nat.le_of_ble_eq_true rfl) (fun Go hR hT => ?_)
  replace hR : RS l G cy ad tt RX11 cX11_tells 3 7 Go := hR
  show Go 0 [some (.ref (ad 83)), some (iv v1), some (iv v2)] [] m
  unfold F11_tells at h
  refine r_aload_n (pc := 0) hR (dc dt_X11_tells 0 rfl) rfl ?_
  refine r_getr (pc := 1) (k2 := 116) hR (dc dt_X11_tells 1 rfl) fl_X11_108 tc_83 rfl ?_
  refine r_iload_n (pc := 4) hR (dc dt_X11_tells 2 rfl) rfl ?_
  obtain ⟨g1, h⟩ := gd_some h
  refine r_iald (pc := 5) hR (dc dt_X11_tells 3 rfl) tc_116 g1 q1 ?_
  refine r_iconst (pc := 6) hR (dc dt_X11_tells 4 rfl) ?_
  refine r_icmp_ne (pc := 7) (tgt := 25) hR (dc dt_X11_tells 5 rfl) (by decide) (rd_in _ _ _) (rg_c rfl) (fun hc => ?_) (fun hc => ?_)
  · replace h := ite_t hc h
    refine r_aload_n (pc := 25) hR (dc dt_X11_tells 16 rfl) rfl ?_
    refine r_iload_n (pc := 26) hR (dc dt_X11_tells 17 rfl) rfl ?_
    refine r_iload_n (pc := 27) hR (dc dt_X11_tells 18 rfl) rfl ?_
    obtain ⟨r28, m28, e28, h⟩ := b2_some h
    refine r_callV (pc := 28) (rest := []) hR (dc dt_X11_tells 19 rfl) cl_X11_393 tc_83 rfl (ok_F11_plainTells q1 q2 e28) (by decide) rfl (Nat.le_of_ble_eq_true rfl) rfl (fun q28r => ?_)
    show Go 31 [some (.ref (ad 83)), some (iv v1), some (iv v2)] [iv r28] m28
    exact r_iret hT (dc dt_X11_tells 20 rfl) (congrArg Prod.fst (Option.some.inj h)) (congrArg Prod.snd (Option.some.inj h)) q28r
  replace h := ite_f hc h
  refine r_aload_n (pc := 10) hR (dc dt_X11_tells 6 rfl) rfl ?_
  refine r_bipush (pc := 11) hR (dc dt_X11_tells 7 rfl) (by decide) ?_
  obtain ⟨m13, e13, h⟩ := b1_some h
  refine r_callV (pc := 13) (rest := []) hR (dc dt_X11_tells 8 rfl) cl_X11_363 tc_83 rfl (ok_F11_ran (rg_c rfl) e13) (by decide) rfl (Nat.le_of_ble_eq_true rfl) rfl (fun q13r => ?_)
  show Go 16 [some (.ref (ad 83)), some (iv v1), some (iv v2)] [] m13
  refine r_aload_n (pc := 16) hR (dc dt_X11_tells 9 rfl) rfl ?_
  refine r_iload_n (pc := 17) hR (dc dt_X11_tells 10 rfl) rfl ?_
  refine r_iload_n (pc := 18) hR (dc dt_X11_tells 11 rfl) rfl ?_
  obtain ⟨r19, m19, e19, h⟩ := b2_some h
  refine r_callV (pc := 19) (rest := []) hR (dc dt_X11_tells 12 rfl) cl_X11_393 tc_83 rfl (ok_F11_plainTells q1 q2 e19) (by decide) rfl (Nat.le_of_ble_eq_true rfl) rfl (fun q19r => ?_)
  show Go 22 [some (.ref (ad 83)), some (iv v1), some (iv v2)] [iv r19] m19
  refine r_iconst (pc := 22) hR (dc dt_X11_tells 13 rfl) ?_
  refine r_ixor (pc := 23) hR (dc dt_X11_tells 14 rfl) ?_
  exact r_iret hT (dc dt_X11_tells 15 rfl) (congrArg Prod.fst (Option.some.inj h)) (congrArg Prod.snd (Option.some.inj h)) (ti_in _)
def tb_X11_act : List (Nat × (Instr × Nat)) := [(0, (.aload_n 0, 1)), (1, (.iconst 0, 1)), (2, (.putfield 360, 3)), (5, (.aload_n 0, 1)), (6, (.iload_n 1, 1)), (7, (.invokevirtual 396, 3)), (10, (.ifCond .eq 12, 3)), (13, (.iload_n 2, 1)), (14, (.iconst 0, 1)), (15, (.iconst 3, 1)), (16, (.invokestatic 134, 3)), (19, (.ifCond .ne 5, 3)), (22, (.iconst 0, 1)), (23, (.ireturn, 1)), (24, (.iload_n 2, 1)), (25, (.ifCond .ne 12, 3)), (28, (.aload_n 0, 1)), (29, (.iload_n 1, 1)), (30, (.iload_n 3, 1)), (31, (.invokevirtual 369, 3)), (34, (.goto 37, 3)), (37, (.iload_n 2, 1)), (38, (.iconst 1, 1)), (39, (.if_icmp .ne 12, 3)), (42, (.aload_n 0, 1)), (43, (.iload_n 1, 1)), (44, (.iload_n 3, 1)), (45, (.invokevirtual 390, 3)), (48, (.goto 23, 3)), (51, (.iload_n 2, 1)), (52, (.iconst 2, 1)), (53, (.if_icmp .ne 12, 3)), (56, (.aload_n 0, 1)), (57, (.iload_n 1, 1)), (58, (.iload_n 3, 1)), (59, (.invokevirtual 378, 3)), (62, (.goto 9, 3)), (65, (.aload_n 0, 1)), (66, (.iload_n 1, 1)), (67, (.iload_n 3, 1)), (68, (.invokevirtual 399, 3)), (71, (.ireturn, 1))]
set_option maxRecDepth 100000 in
theorem dt_X11_act : (tb_X11_act.all fun q => decide (decode cX11_act q.1 = .ok q.2)) = true := by decide +kernel
set_option maxRecDepth 100000 in
set_option maxHeartbeats 4000000 in
theorem ok_F11_act {m : Mem}  {v1 v2 v3 : Int} (q1 : inR v1) (q2 : inR v2) (q3 : inR v3) {out : Int × Mem} (h : F11_act m v1 v2 v3 = some out) : CT l G cy ad tt yX11_act cX11_act 4 (some .int) 8 [.ref (ad 83), iv v1, iv v2, iv v3] m (some (iv out.1)) (inR out.1) out.2 := by
  refine CT_of (by decide) (Nat.le_of_ble_eq_true rfl) (fun Go hR hT => ?_)
  replace hR : RS l G cy ad tt RX11 cX11_act 4 8 Go := hR
  show Go 0 [some (.ref (ad 83)), some (iv v1), some (iv v2), some (iv v3)] [] m
  unfold F11_act at h
  refine r_aload_n (pc := 0) hR (dc dt_X11_act 0 rfl) rfl ?_
  refine r_iconst (pc := 1) hR (dc dt_X11_act 1 rfl) ?_
  refine r_puti (pc := 2) hR (dc dt_X11_act 2 rfl) fl_X11_360 tc_83 rfl rfl rfl ?_
  replace h := stw_e h
  generalize wr m 83 49 0 = m2 at h ⊢
  refine r_aload_n (pc := 5) hR (dc dt_X11_act 3 rfl) rfl ?_
  refine r_iload_n (pc := 6) hR (dc dt_X11_act 4 rfl) rfl ?_
  refine r_callV (pc := 7) (rest := []) hR (dc dt_X11_act 5 rfl) cl_X11_396 tc_83 rfl (ok_F11_isBody q1) (by decide) rfl (Nat.le_of_ble_eq_true rfl) rfl (fun q7r => ?_)
  show Go 10 [some (.ref (ad 83)), some (iv v1), some (iv v2), some (iv v3)] [iv (F11_isBody m2 v1)] m2
  refine r_if_eq (pc := 10) (tgt := 22) hR (dc dt_X11_act 6 rfl) (by decide) (inZ_R q7r) (fun hc => ?_) (fun hc => ?_)
  · replace h := ite_t hc h
    refine r_iconst (pc := 22) hR (dc dt_X11_act 12 rfl) ?_
    exact r_iret hT (dc dt_X11_act 13 rfl) (congrArg Prod.fst (Option.some.inj h)) (congrArg Prod.snd (Option.some.inj h)) (rg_c rfl)
  replace h := ite_f hc h
  refine r_iload_n (pc := 13) hR (dc dt_X11_act 7 rfl) rfl ?_
  refine r_iconst (pc := 14) hR (dc dt_X11_act 8 rfl) ?_
  refine r_iconst (pc := 15) hR (dc dt_X11_act 9 rfl) ?_
  refine r_callS (pc := 16) (rest := []) hR (dc dt_X11_act 10 rfl) cl_X11_134 (ok_F11_in q2 (rg_c rfl) (rg_c rfl)) (by decide) rfl (Nat.le_of_ble_eq_true rfl) rfl (fun q16r => ?_)
  show Go 19 [some (.ref (ad 83)), some (iv v1), some (iv v2), some (iv v3)] [iv (F11_in v2 0 3)] m2
  refine r_if_ne (pc := 19) (tgt := 24) hR (dc dt_X11_act 11 rfl) (by decide) (inZ_R q16r) (fun hc => ?_) (fun hc => ?_)
  · replace h := ite_t hc h
    refine r_iload_n (pc := 24) hR (dc dt_X11_act 14 rfl) rfl ?_
    refine r_if_ne (pc := 25) (tgt := 37) hR (dc dt_X11_act 15 rfl) (by decide) q2 (fun hc => ?_) (fun hc => ?_)
    · replace h := ite_t hc h
      refine r_iload_n (pc := 37) hR (dc dt_X11_act 21 rfl) rfl ?_
      refine r_iconst (pc := 38) hR (dc dt_X11_act 22 rfl) ?_
      refine r_icmp_ne (pc := 39) (tgt := 51) hR (dc dt_X11_act 23 rfl) (by decide) q2 (rg_c rfl) (fun hc => ?_) (fun hc => ?_)
      · replace h := ite_t hc h
        refine r_iload_n (pc := 51) hR (dc dt_X11_act 29 rfl) rfl ?_
        refine r_iconst (pc := 52) hR (dc dt_X11_act 30 rfl) ?_
        refine r_icmp_ne (pc := 53) (tgt := 65) hR (dc dt_X11_act 31 rfl) (by decide) q2 (rg_c rfl) (fun hc => ?_) (fun hc => ?_)
        · replace h := ite_t hc h
          refine r_aload_n (pc := 65) hR (dc dt_X11_act 37 rfl) rfl ?_
          refine r_iload_n (pc := 66) hR (dc dt_X11_act 38 rfl) rfl ?_
          refine r_iload_n (pc := 67) hR (dc dt_X11_act 39 rfl) rfl ?_
          obtain ⟨r68, m68, e68, h⟩ := b2_some h
          refine r_callV (pc := 68) (rest := []) hR (dc dt_X11_act 40 rfl) cl_X11_399 tc_83 rfl (ok_F11_tells q1 q3 e68) (by decide) rfl (Nat.le_of_ble_eq_true rfl) rfl (fun q68r => ?_)
          show Go 71 [some (.ref (ad 83)), some (iv v1), some (iv v2), some (iv v3)] [iv r68] m68
          exact r_iret hT (dc dt_X11_act 41 rfl) (congrArg Prod.fst (Option.some.inj h)) (congrArg Prod.snd (Option.some.inj h)) q68r
        replace h := ite_f hc h
        refine r_aload_n (pc := 56) hR (dc dt_X11_act 32 rfl) rfl ?_
        refine r_iload_n (pc := 57) hR (dc dt_X11_act 33 rfl) rfl ?_
        refine r_iload_n (pc := 58) hR (dc dt_X11_act 34 rfl) rfl ?_
        obtain ⟨r59, m59, e59, h⟩ := b2_some h
        refine r_callV (pc := 59) (rest := []) hR (dc dt_X11_act 35 rfl) cl_X11_378 tc_83 rfl (ok_F11_keeps q1 q3 e59) (by decide) rfl (Nat.le_of_ble_eq_true rfl) rfl (fun q59r => ?_)
        show Go 62 [some (.ref (ad 83)), some (iv v1), some (iv v2), some (iv v3)] [iv r59] m59
        refine r_goto (pc := 62) (tgt := 71) hR (dc dt_X11_act 36 rfl) (by decide) ?_
        exact r_iret hT (dc dt_X11_act 41 rfl) (congrArg Prod.fst (Option.some.inj h)) (congrArg Prod.snd (Option.some.inj h)) q59r
      replace h := ite_f hc h
      refine r_aload_n (pc := 42) hR (dc dt_X11_act 24 rfl) rfl ?_
      refine r_iload_n (pc := 43) hR (dc dt_X11_act 25 rfl) rfl ?_
      refine r_iload_n (pc := 44) hR (dc dt_X11_act 26 rfl) rfl ?_
      obtain ⟨r45, m45, e45, h⟩ := b2_some h
      refine r_callV (pc := 45) (rest := []) hR (dc dt_X11_act 27 rfl) cl_X11_390 tc_83 rfl (ok_F11_lets q1 q3 e45) (by decide) rfl (Nat.le_of_ble_eq_true rfl) rfl (fun q45r => ?_)
      show Go 48 [some (.ref (ad 83)), some (iv v1), some (iv v2), some (iv v3)] [iv r45] m45
      refine r_goto (pc := 48) (tgt := 71) hR (dc dt_X11_act 28 rfl) (by decide) ?_
      exact r_iret hT (dc dt_X11_act 41 rfl) (congrArg Prod.fst (Option.some.inj h)) (congrArg Prod.snd (Option.some.inj h)) q45r
    replace h := ite_f hc h
    refine r_aload_n (pc := 28) hR (dc dt_X11_act 16 rfl) rfl ?_
    refine r_iload_n (pc := 29) hR (dc dt_X11_act 17 rfl) rfl ?_
    refine r_iload_n (pc := 30) hR (dc dt_X11_act 18 rfl) rfl ?_
    obtain ⟨r31, m31, e31, h⟩ := b2_some h
    refine r_callV (pc := 31) (rest := []) hR (dc dt_X11_act 19 rfl) cl_X11_369 tc_83 rfl (ok_F11_costs q1 q3 e31) (by decide) rfl (Nat.le_of_ble_eq_true rfl) rfl (fun q31r => ?_)
    show Go 34 [some (.ref (ad 83)), some (iv v1), some (iv v2), some (iv v3)] [iv r31] m31
    refine r_goto (pc := 34) (tgt := 71) hR (dc dt_X11_act 20 rfl) (by decide) ?_
    exact r_iret hT (dc dt_X11_act 41 rfl) (congrArg Prod.fst (Option.some.inj h)) (congrArg Prod.snd (Option.some.inj h)) q31r
  replace h := ite_f hc h
  refine r_iconst (pc := 22) hR (dc dt_X11_act 12 rfl) ?_
  exact r_iret hT (dc dt_X11_act 13 rfl) (congrArg Prod.fst (Option.some.inj h)) (congrArg Prod.snd (Option.some.inj h)) (rg_c rfl)
def tb_X11_trace : List (Nat × (Instr × Nat)) := [(0, (.iload_n 1, 1)), (1, (.ifCond .lt 26, 3)), (4, (.iload_n 1, 1)), (5, (.aload_n 0, 1)), (6, (.getfield 360, 3)), (9, (.if_icmp .ge 18, 3)), (12, (.iload_n 1, 1)), (13, (.bipush 24, 2)), (15, (.if_icmp .ge 12, 3)), (18, (.aload_n 0, 1)), (19, (.getfield 114, 3)), (22, (.iload_n 1, 1)), (23, (.iaload, 1)), (24, (.goto 4, 3)), (27, (.iconst (-1), 1)), (28, (.ireturn, 1))]
set_option maxRecDepth 100000 in
theorem dt_X11_trace : (tb_X11_trace.all fun q => decide (decode cX11_trace q.1 = .ok q.2)) = true := by decide +kernel
set_option maxRecDepth 100000 in
set_option maxHeartbeats 4000000 in
theorem ok_F11_trace {m : Mem}  {v1 : Int} (q1 : inR v1) {out : Int} (h : F11_trace m v1 = some out) : CT l G cy ad tt yX11_trace cX11_trace 2 (some .int) 0 [.ref (ad 83), iv v1] m (some (iv out)) (inR out) m := by
  refine CT_of (by decide) (Nat.le_of_ble_eq_true rfl) (fun Go hR hT => ?_)
  replace hR : RS l G cy ad tt RX11 cX11_trace 2 0 Go := hR
  show Go 0 [some (.ref (ad 83)), some (iv v1)] [] m
  unfold F11_trace at h
  refine r_iload_n (pc := 0) hR (dc dt_X11_trace 0 rfl) rfl ?_
  refine jn_e h (fun (K : Option Int) => K = some out → Go 27 [none, none] [] m) (fun h => ?_) (fun K27 J27 h => ?_)
  · refine r_iconst (pc := 27) hR (dc dt_X11_trace 14 rfl) ?_
    exact r_iret hT (dc dt_X11_trace 15 rfl) (Option.some.inj h) rfl (rg_c rfl)
  refine r_if_lt (pc := 1) (tgt := 27) hR (dc dt_X11_trace 1 rfl) (by decide) q1 (fun hc => ?_) (fun hc => ?_)
  · replace h := ite_t hc h
    refine r_weak (L' := [none, none]) hR ⟨Or.inl rfl, Or.inl rfl, trivial⟩ ?_
    exact J27 h
  replace h := ite_f hc h
  refine r_iload_n (pc := 4) hR (dc dt_X11_trace 2 rfl) rfl ?_
  refine r_aload_n (pc := 5) hR (dc dt_X11_trace 3 rfl) rfl ?_
  refine r_geti (pc := 6) hR (dc dt_X11_trace 4 rfl) fl_X11_360 tc_83 rfl ?_
  refine r_icmp_ge (pc := 9) (tgt := 27) hR (dc dt_X11_trace 5 rfl) (by decide) q1 (rd_in _ _ _) (fun hc => ?_) (fun hc => ?_)
  · replace h := ite_t hc h
    refine r_weak (L' := [none, none]) hR ⟨Or.inl rfl, Or.inl rfl, trivial⟩ ?_
    exact J27 h
  replace h := ite_f hc h
  refine r_iload_n (pc := 12) hR (dc dt_X11_trace 6 rfl) rfl ?_
  refine r_bipush (pc := 13) hR (dc dt_X11_trace 7 rfl) (by decide) ?_
  refine r_icmp_ge (pc := 15) (tgt := 27) hR (dc dt_X11_trace 8 rfl) (by decide) q1 (rg_c rfl) (fun hc => ?_) (fun hc => ?_)
  · replace h := ite_t hc h
    refine r_weak (L' := [none, none]) hR ⟨Or.inl rfl, Or.inl rfl, trivial⟩ ?_
    exact J27 h
  replace h := ite_f hc h
  refine r_aload_n (pc := 18) hR (dc dt_X11_trace 9 rfl) rfl ?_
  refine r_getr (pc := 19) (k2 := 118) hR (dc dt_X11_trace 10 rfl) fl_X11_114 tc_83 rfl ?_
  refine r_iload_n (pc := 22) hR (dc dt_X11_trace 11 rfl) rfl ?_
  obtain ⟨g1, h⟩ := gd_some h
  refine r_iald (pc := 23) hR (dc dt_X11_trace 12 rfl) tc_118 g1 q1 ?_
  refine r_goto (pc := 24) (tgt := 28) hR (dc dt_X11_trace 13 rfl) (by decide) ?_
  exact r_iret hT (dc dt_X11_trace 15 rfl) (Option.some.inj h) rfl (rd_in _ _ _)
def tb_X11_count : List (Nat × (Instr × Nat)) := [(0, (.iload_n 1, 1)), (1, (.tableswitch 69 0 5 #[39, 44, 49, 54, 59, 64], 39)), (40, (.aload_n 0, 1)), (41, (.getfield 138, 3)), (44, (.ireturn, 1)), (45, (.aload_n 0, 1)), (46, (.getfield 141, 3)), (49, (.ireturn, 1)), (50, (.aload_n 0, 1)), (51, (.getfield 260, 3)), (54, (.ireturn, 1)), (55, (.aload_n 0, 1)), (56, (.getfield 191, 3)), (59, (.ireturn, 1)), (60, (.aload_n 0, 1)), (61, (.getfield 357, 3)), (64, (.ireturn, 1)), (65, (.aload_n 0, 1)), (66, (.getfield 360, 3)), (69, (.ireturn, 1)), (70, (.iconst (-1), 1)), (71, (.ireturn, 1))]
set_option maxRecDepth 100000 in
theorem dt_X11_count : (tb_X11_count.all fun q => decide (decode cX11_count q.1 = .ok q.2)) = true := by decide +kernel
set_option maxRecDepth 100000 in
set_option maxHeartbeats 4000000 in
theorem ok_F11_count {m : Mem}  {v1 : Int} (q1 : inR v1) : CT l G cy ad tt yX11_count cX11_count 2 (some .int) 0 [.ref (ad 83), iv v1] m (some (iv (F11_count m v1))) (inR (F11_count m v1)) m := by
  refine CT_of (by decide) (Nat.le_of_ble_eq_true rfl) (fun Go hR hT => ?_)
  replace hR : RS l G cy ad tt RX11 cX11_count 2 0 Go := hR
  show Go 0 [some (.ref (ad 83)), some (iv v1)] [] m
  obtain ⟨out, h⟩ : ∃ out, F11_count m v1 = out := ⟨_, rfl⟩
  rw [h] at hT
  unfold F11_count at h
  refine r_iload_n (pc := 0) hR (dc dt_X11_count 0 rfl) rfl ?_
  show Go 1 [some (.ref (ad 83)), some (iv v1)] [iv v1] m
  by_cases hc0 : v1 = 0
  · replace h := ite_t hc0 h
    refine r_tabIn (pc := 1) (tgt := 40) hR (dc dt_X11_count 1 rfl) q1 (by omega) (by omega) (by rw [hc0]; rfl) (by decide) ?_
    refine r_aload_n (pc := 40) hR (dc dt_X11_count 2 rfl) rfl ?_
    refine r_geti (pc := 41) hR (dc dt_X11_count 3 rfl) fl_X11_138 tc_83 rfl ?_
    exact r_iret hT (dc dt_X11_count 4 rfl) h rfl (rd_in _ _ _)
  replace h := ite_f hc0 h
  by_cases hc1 : v1 = 1
  · replace h := ite_t hc1 h
    refine r_tabIn (pc := 1) (tgt := 45) hR (dc dt_X11_count 1 rfl) q1 (by omega) (by omega) (by rw [hc1]; rfl) (by decide) ?_
    refine r_aload_n (pc := 45) hR (dc dt_X11_count 5 rfl) rfl ?_
    refine r_geti (pc := 46) hR (dc dt_X11_count 6 rfl) fl_X11_141 tc_83 rfl ?_
    exact r_iret hT (dc dt_X11_count 7 rfl) h rfl (rd_in _ _ _)
  replace h := ite_f hc1 h
  by_cases hc2 : v1 = 2
  · replace h := ite_t hc2 h
    refine r_tabIn (pc := 1) (tgt := 50) hR (dc dt_X11_count 1 rfl) q1 (by omega) (by omega) (by rw [hc2]; rfl) (by decide) ?_
    refine r_aload_n (pc := 50) hR (dc dt_X11_count 8 rfl) rfl ?_
    refine r_geti (pc := 51) hR (dc dt_X11_count 9 rfl) fl_X11_260 tc_83 rfl ?_
    exact r_iret hT (dc dt_X11_count 10 rfl) h rfl (rd_in _ _ _)
  replace h := ite_f hc2 h
  by_cases hc3 : v1 = 3
  · replace h := ite_t hc3 h
    refine r_tabIn (pc := 1) (tgt := 55) hR (dc dt_X11_count 1 rfl) q1 (by omega) (by omega) (by rw [hc3]; rfl) (by decide) ?_
    refine r_aload_n (pc := 55) hR (dc dt_X11_count 11 rfl) rfl ?_
    refine r_geti (pc := 56) hR (dc dt_X11_count 12 rfl) fl_X11_191 tc_83 rfl ?_
    exact r_iret hT (dc dt_X11_count 13 rfl) h rfl (rd_in _ _ _)
  replace h := ite_f hc3 h
  by_cases hc4 : v1 = 4
  · replace h := ite_t hc4 h
    refine r_tabIn (pc := 1) (tgt := 60) hR (dc dt_X11_count 1 rfl) q1 (by omega) (by omega) (by rw [hc4]; rfl) (by decide) ?_
    refine r_aload_n (pc := 60) hR (dc dt_X11_count 14 rfl) rfl ?_
    refine r_geti (pc := 61) hR (dc dt_X11_count 15 rfl) fl_X11_357 tc_83 rfl ?_
    exact r_iret hT (dc dt_X11_count 16 rfl) h rfl (rd_in _ _ _)
  replace h := ite_f hc4 h
  by_cases hc5 : v1 = 5
  · replace h := ite_t hc5 h
    refine r_tabIn (pc := 1) (tgt := 65) hR (dc dt_X11_count 1 rfl) q1 (by omega) (by omega) (by rw [hc5]; rfl) (by decide) ?_
    refine r_aload_n (pc := 65) hR (dc dt_X11_count 17 rfl) rfl ?_
    refine r_geti (pc := 66) hR (dc dt_X11_count 18 rfl) fl_X11_360 tc_83 rfl ?_
    exact r_iret hT (dc dt_X11_count 19 rfl) h rfl (rd_in _ _ _)
  replace h := ite_f hc5 h
  refine r_tabOut (pc := 1) (tgt := 70) hR (dc dt_X11_count 1 rfl) q1 (by omega) (by decide) ?_
  refine r_iconst (pc := 70) hR (dc dt_X11_count 20 rfl) ?_
  exact r_iret hT (dc dt_X11_count 21 rfl) h rfl (rg_c rfl)
def tb_X11_keep : List (Nat × (Instr × Nat)) := [(0, (.iload_n 1, 1)), (1, (.invokestatic 206, 3)), (4, (.ifCond .eq 16, 3)), (7, (.iload_n 2, 1)), (8, (.iconst (-1), 1)), (9, (.if_icmp .eq 13, 3)), (12, (.aload_n 0, 1)), (13, (.iload_n 2, 1)), (14, (.invokevirtual 396, 3)), (17, (.ifCond .ne 5, 3)), (20, (.iconst (-1), 1)), (21, (.ireturn, 1)), (22, (.aload_n 0, 1)), (23, (.getfield 117, 3)), (26, (.iload_n 1, 1)), (27, (.iload_n 2, 1)), (28, (.iastore, 1)), (29, (.iconst 1, 1)), (30, (.ireturn, 1))]
set_option maxRecDepth 100000 in
theorem dt_X11_keep : (tb_X11_keep.all fun q => decide (decode cX11_keep q.1 = .ok q.2)) = true := by decide +kernel
set_option maxRecDepth 100000 in
set_option maxHeartbeats 4000000 in
theorem ok_F11_keep {m : Mem}  {v1 v2 : Int} (q1 : inR v1) (q2 : inR v2) {out : Int × Mem} (h : F11_keep m v1 v2 = some out) : CT l G cy ad tt yX11_keep cX11_keep 3 (some .int) 2 [.ref (ad 83), iv v1, iv v2] m (some (iv out.1)) (inR out.1) out.2 := by
  refine CT_of (by decide) (Nat.le_of_ble_eq_true rfl) (fun Go hR hT => ?_)
  replace hR : RS l G cy ad tt RX11 cX11_keep 3 2 Go := hR
  show Go 0 [some (.ref (ad 83)), some (iv v1), some (iv v2)] [] m
  unfold F11_keep at h
  refine r_iload_n (pc := 0) hR (dc dt_X11_keep 0 rfl) rfl ?_
  refine r_callS (pc := 1) (rest := []) hR (dc dt_X11_keep 1 rfl) cl_X11_206 (ok_F11_isShelf q1) (by decide) rfl (Nat.le_of_ble_eq_true rfl) rfl (fun q1r => ?_)
  show Go 4 [some (.ref (ad 83)), some (iv v1), some (iv v2)] [iv (F11_isShelf v1)] m
  refine r_if_eq (pc := 4) (tgt := 20) hR (dc dt_X11_keep 2 rfl) (by decide) (inZ_R q1r) (fun hc => ?_) (fun hc => ?_)
  · replace h := ite_t hc h
    refine r_iconst (pc := 20) hR (dc dt_X11_keep 10 rfl) ?_
    exact r_iret hT (dc dt_X11_keep 11 rfl) (congrArg Prod.fst (Option.some.inj h)) (congrArg Prod.snd (Option.some.inj h)) (rg_c rfl)
  replace h := ite_f hc h
  refine r_iload_n (pc := 7) hR (dc dt_X11_keep 3 rfl) rfl ?_
  refine r_iconst (pc := 8) hR (dc dt_X11_keep 4 rfl) ?_
  refine jn_e h (fun (K : Option (Int × Mem)) => K = some out → Go 22 [some (.ref (ad 83)), some (iv v1), some (iv v2)] [] m) (fun h => ?_) (fun K22 J22 h => ?_)
  · refine r_aload_n (pc := 22) hR (dc dt_X11_keep 12 rfl) rfl ?_
    refine r_getr (pc := 23) (k2 := 119) hR (dc dt_X11_keep 13 rfl) fl_X11_117 tc_83 rfl ?_
    refine r_iload_n (pc := 26) hR (dc dt_X11_keep 14 rfl) rfl ?_
    refine r_iload_n (pc := 27) hR (dc dt_X11_keep 15 rfl) rfl ?_
    obtain ⟨g1, h⟩ := gd_some h
    refine r_iast (pc := 28) hR (dc dt_X11_keep 16 rfl) tc_119 g1 q1 ?_
    replace h := stw_e h
    generalize wr m 119 v1 v2 = m28 at h ⊢
    refine r_iconst (pc := 29) hR (dc dt_X11_keep 17 rfl) ?_
    exact r_iret hT (dc dt_X11_keep 18 rfl) (congrArg Prod.fst (Option.some.inj h)) (congrArg Prod.snd (Option.some.inj h)) (rg_c rfl)
  refine r_icmp_eq (pc := 9) (tgt := 22) hR (dc dt_X11_keep 5 rfl) (by decide) q2 (rg_c rfl) (fun hc => ?_) (fun hc => ?_)
  · replace h := ite_t hc h
    exact J22 h
  replace h := ite_f hc h
  refine r_aload_n (pc := 12) hR (dc dt_X11_keep 6 rfl) rfl ?_
  refine r_iload_n (pc := 13) hR (dc dt_X11_keep 7 rfl) rfl ?_
  refine r_callV (pc := 14) (rest := []) hR (dc dt_X11_keep 8 rfl) cl_X11_396 tc_83 rfl (ok_F11_isBody q2) (by decide) rfl (Nat.le_of_ble_eq_true rfl) rfl (fun q14r => ?_)
  show Go 17 [some (.ref (ad 83)), some (iv v1), some (iv v2)] [iv (F11_isBody m v2)] m
  refine r_if_ne (pc := 17) (tgt := 22) hR (dc dt_X11_keep 9 rfl) (by decide) (inZ_R q14r) (fun hc => ?_) (fun hc => ?_)
  · replace h := ite_t hc h
    exact J22 h
  replace h := ite_f hc h
  refine r_iconst (pc := 20) hR (dc dt_X11_keep 10 rfl) ?_
  exact r_iret hT (dc dt_X11_keep 11 rfl) (congrArg Prod.fst (Option.some.inj h)) (congrArg Prod.snd (Option.some.inj h)) (rg_c rfl)
def tb_X11_row : List (Nat × (Instr × Nat)) := [(0, (.iload_n 1, 1)), (1, (.invokestatic 206, 3)), (4, (.ifCond .eq 18, 3)), (7, (.iload_n 2, 1)), (8, (.iconst 0, 1)), (9, (.iconst 4, 1)), (10, (.invokestatic 134, 3)), (13, (.ifCond .eq 9, 3)), (16, (.iload_n 3, 1)), (17, (.bipush 60, 2)), (19, (.if_icmp .le 5, 3)), (22, (.iconst (-1), 1)), (23, (.ireturn, 1)), (24, (.iload_n 3, 1)), (25, (.ifCond .ge 6, 3)), (28, (.bipush (-14), 2)), (30, (.ireturn, 1)), (31, (.aload_n 0, 1)), (32, (.getfield 117, 3)), (35, (.iload_n 1, 1)), (36, (.bipush (-2), 2)), (38, (.iload_n 2, 1)), (39, (.isub, 1)), (40, (.iastore, 1)), (41, (.aload_n 0, 1)), (42, (.getfield 120, 3)), (45, (.iload_n 1, 1)), (46, (.iload_n 3, 1)), (47, (.iastore, 1)), (48, (.bipush 60, 2)), (50, (.iload_n 1, 1)), (51, (.imul, 1)), (52, (.istore 4, 2)), (54, (.iload 4, 2)), (56, (.bipush 60, 2)), (58, (.iload_n 1, 1)), (59, (.imul, 1)), (60, (.bipush 60, 2)), (62, (.iadd, 1)), (63, (.if_icmp .ge 17, 3)), (66, (.aload_n 0, 1)), (67, (.getfield 123, 3)), (70, (.iload 4, 2)), (72, (.lconst 0, 1)), (73, (.lastore, 1)), (74, (.iinc 4 1, 3)), (77, (.goto (-23), 3)), (80, (.iconst 1, 1)), (81, (.ireturn, 1))]
set_option maxRecDepth 100000 in
theorem dt_X11_row : (tb_X11_row.all fun q => decide (decode cX11_row q.1 = .ok q.2)) = true := by decide +kernel
set_option maxRecDepth 100000 in
set_option maxHeartbeats 4000000 in
theorem lp_L11_row_54 {Go : Nat → List (Option Value) → List Value → Mem → Prop} (hR : RS l G cy ad tt RX11 cX11_row 5 2 Go) {out : Int × Mem} (hT : RT cX11_row (some (iv out.1)) (inR out.1) out.2 (some .int) Go) {v1 : Int} (qv1 : inR v1) : ∀ (n : Nat) (v4 : Int) (m : Mem), inR v4 → L11_row_54 v1 n v4 m = some out → Go 54 [some (.ref (ad 83)), some (iv v1), none, none, some (iv v4)] [] m := by
  intro n
  induction n with
  | zero =>
    intro v4 m qv4 h
    cases h
  | succ n ih =>
    intro v4 m qv4 h
    rw [L11_row_54] at h
    refine r_iload (pc := 54) hR (dc dt_X11_row 33 rfl) rfl ?_
    refine r_bipush (pc := 56) hR (dc dt_X11_row 34 rfl) (by decide) ?_
    refine r_iload_n (pc := 58) hR (dc dt_X11_row 35 rfl) rfl ?_
    refine r_imul (pc := 59) hR (dc dt_X11_row 36 rfl) ?_
    refine r_bipush (pc := 60) hR (dc dt_X11_row 37 rfl) (by decide) ?_
    refine r_iadd (pc := 62) hR (dc dt_X11_row 38 rfl) ?_
    refine r_icmp_ge (pc := 63) (tgt := 80) hR (dc dt_X11_row 39 rfl) (by decide) qv4 (w32_in _) (fun hc => ?_) (fun hc => ?_)
    · replace h := ite_t hc h
      refine r_iconst (pc := 80) hR (dc dt_X11_row 47 rfl) ?_
      exact r_iret hT (dc dt_X11_row 48 rfl) (congrArg Prod.fst (Option.some.inj h)) (congrArg Prod.snd (Option.some.inj h)) (rg_c rfl)
    replace h := ite_f hc h
    refine r_aload_n (pc := 66) hR (dc dt_X11_row 40 rfl) rfl ?_
    refine r_getr (pc := 67) (k2 := 121) hR (dc dt_X11_row 41 rfl) fl_X11_123 tc_83 rfl ?_
    refine r_iload (pc := 70) hR (dc dt_X11_row 42 rfl) rfl ?_
    refine r_lconst (pc := 72) hR (dc dt_X11_row 43 rfl) ?_
    show Go 73 [some (.ref (ad 83)), some (iv v1), none, none, some (iv v4)] [jv 0, iv v4, .ref (ad 121)] m
    obtain ⟨g1, h⟩ := gd_some h
    refine r_last (pc := 73) hR (dc dt_X11_row 44 rfl) tc_121 g1 qv4 ?_
    replace h := stw_e h
    generalize wr m 121 v4 0 = m73 at h ⊢
    refine r_iinc (pc := 74) (L' := [some (.ref (ad 83)), some (iv v1), none, none, some (iv (w32 (v4 + 1)))]) hR (dc dt_X11_row 45 rfl) rfl (by decide) rfl rfl ?_
    refine r_goto (pc := 77) (tgt := 54) hR (dc dt_X11_row 46 rfl) (by decide) ?_
    exact ih (w32 (v4 + 1)) m73 (w32_in _) h
set_option maxRecDepth 100000 in
set_option maxHeartbeats 4000000 in
theorem ok_F11_row {m : Mem}  {v1 v2 v3 : Int} (q1 : inR v1) (q2 : inR v2) (q3 : inR v3) {out : Int × Mem} (h : F11_row m v1 v2 v3 = some out) : CT l G cy ad tt yX11_row cX11_row 5 (some .int) 2 [.ref (ad 83), iv v1, iv v2, iv v3] m (some (iv out.1)) (inR out.1) out.2 := by
  refine CT_of (by decide) (Nat.le_of_ble_eq_true rfl) (fun Go hR hT => ?_)
  replace hR : RS l G cy ad tt RX11 cX11_row 5 2 Go := hR
  show Go 0 [some (.ref (ad 83)), some (iv v1), some (iv v2), some (iv v3), none] [] m
  unfold F11_row at h
  refine r_iload_n (pc := 0) hR (dc dt_X11_row 0 rfl) rfl ?_
  refine r_callS (pc := 1) (rest := []) hR (dc dt_X11_row 1 rfl) cl_X11_206 (ok_F11_isShelf q1) (by decide) rfl (Nat.le_of_ble_eq_true rfl) rfl (fun q1r => ?_)
  show Go 4 [some (.ref (ad 83)), some (iv v1), some (iv v2), some (iv v3), none] [iv (F11_isShelf v1)] m
  refine r_if_eq (pc := 4) (tgt := 22) hR (dc dt_X11_row 2 rfl) (by decide) (inZ_R q1r) (fun hc => ?_) (fun hc => ?_)
  · replace h := ite_t hc h
    refine r_iconst (pc := 22) hR (dc dt_X11_row 11 rfl) ?_
    exact r_iret hT (dc dt_X11_row 12 rfl) (congrArg Prod.fst (Option.some.inj h)) (congrArg Prod.snd (Option.some.inj h)) (rg_c rfl)
  replace h := ite_f hc h
  refine r_iload_n (pc := 7) hR (dc dt_X11_row 3 rfl) rfl ?_
  refine r_iconst (pc := 8) hR (dc dt_X11_row 4 rfl) ?_
  refine r_iconst (pc := 9) hR (dc dt_X11_row 5 rfl) ?_
  refine r_callS (pc := 10) (rest := []) hR (dc dt_X11_row 6 rfl) cl_X11_134 (ok_F11_in q2 (rg_c rfl) (rg_c rfl)) (by decide) rfl (Nat.le_of_ble_eq_true rfl) rfl (fun q10r => ?_)
  show Go 13 [some (.ref (ad 83)), some (iv v1), some (iv v2), some (iv v3), none] [iv (F11_in v2 0 4)] m
  refine r_if_eq (pc := 13) (tgt := 22) hR (dc dt_X11_row 7 rfl) (by decide) (inZ_R q10r) (fun hc => ?_) (fun hc => ?_)
  · replace h := ite_t hc h
    refine r_iconst (pc := 22) hR (dc dt_X11_row 11 rfl) ?_
    exact r_iret hT (dc dt_X11_row 12 rfl) (congrArg Prod.fst (Option.some.inj h)) (congrArg Prod.snd (Option.some.inj h)) (rg_c rfl)
  replace h := ite_f hc h
  refine r_iload_n (pc := 16) hR (dc dt_X11_row 8 rfl) rfl ?_
  refine r_bipush (pc := 17) hR (dc dt_X11_row 9 rfl) (by decide) ?_
  refine r_icmp_le (pc := 19) (tgt := 24) hR (dc dt_X11_row 10 rfl) (by decide) q3 (rg_c rfl) (fun hc => ?_) (fun hc => ?_)
  · replace h := ite_t hc h
    refine r_iload_n (pc := 24) hR (dc dt_X11_row 13 rfl) rfl ?_
    refine r_if_ge (pc := 25) (tgt := 31) hR (dc dt_X11_row 14 rfl) (by decide) q3 (fun hc => ?_) (fun hc => ?_)
    · replace h := ite_t hc h
      refine r_aload_n (pc := 31) hR (dc dt_X11_row 17 rfl) rfl ?_
      refine r_getr (pc := 32) (k2 := 119) hR (dc dt_X11_row 18 rfl) fl_X11_117 tc_83 rfl ?_
      refine r_iload_n (pc := 35) hR (dc dt_X11_row 19 rfl) rfl ?_
      refine r_bipush (pc := 36) hR (dc dt_X11_row 20 rfl) (by decide) ?_
      refine r_iload_n (pc := 38) hR (dc dt_X11_row 21 rfl) rfl ?_
      refine r_isub (pc := 39) hR (dc dt_X11_row 22 rfl) ?_
      obtain ⟨g1, h⟩ := gd_some h
      refine r_iast (pc := 40) hR (dc dt_X11_row 23 rfl) tc_119 g1 q1 ?_
      replace h := stw_e h
      generalize wr m 119 v1 (w32 ((-2) - v2)) = m40 at h ⊢
      refine r_aload_n (pc := 41) hR (dc dt_X11_row 24 rfl) rfl ?_
      refine r_getr (pc := 42) (k2 := 120) hR (dc dt_X11_row 25 rfl) fl_X11_120 tc_83 rfl ?_
      refine r_iload_n (pc := 45) hR (dc dt_X11_row 26 rfl) rfl ?_
      refine r_iload_n (pc := 46) hR (dc dt_X11_row 27 rfl) rfl ?_
      obtain ⟨g1, h⟩ := gd_some h
      refine r_iast (pc := 47) hR (dc dt_X11_row 28 rfl) tc_120 g1 q1 ?_
      replace h := stw_e h
      generalize wr m40 120 v1 v3 = m47 at h ⊢
      refine r_bipush (pc := 48) hR (dc dt_X11_row 29 rfl) (by decide) ?_
      refine r_iload_n (pc := 50) hR (dc dt_X11_row 30 rfl) rfl ?_
      refine r_imul (pc := 51) hR (dc dt_X11_row 31 rfl) ?_
      refine r_istore (pc := 52) (L' := [some (.ref (ad 83)), some (iv v1), some (iv v2), some (iv v3), some (iv (w32 (60 * v1)))]) hR (dc dt_X11_row 32 rfl) (by decide) rfl rfl ?_
      refine r_weak (L' := [some (.ref (ad 83)), some (iv v1), none, none, some (iv (w32 (60 * v1)))]) hR ⟨Or.inr rfl, Or.inr rfl, Or.inl rfl, Or.inl rfl, Or.inr rfl, trivial⟩ ?_
      refine lp_L11_row_54 hR hT q1 FU (w32 (60 * v1)) m47 (w32_in _) h
    replace h := ite_f hc h
    refine r_bipush (pc := 28) hR (dc dt_X11_row 15 rfl) (by decide) ?_
    exact r_iret hT (dc dt_X11_row 16 rfl) (congrArg Prod.fst (Option.some.inj h)) (congrArg Prod.snd (Option.some.inj h)) (rg_c rfl)
  replace h := ite_f hc h
  refine r_iconst (pc := 22) hR (dc dt_X11_row 11 rfl) ?_
  exact r_iret hT (dc dt_X11_row 12 rfl) (congrArg Prod.fst (Option.some.inj h)) (congrArg Prod.snd (Option.some.inj h)) (rg_c rfl)
def tb_X11_whyNoPlace : List (Nat × (Instr × Nat)) := [(0, (.iload_n 1, 1)), (1, (.invokestatic 206, 3)), (4, (.ifCond .ne 5, 3)), (7, (.iconst (-1), 1)), (8, (.ireturn, 1)), (9, (.aload_n 0, 1)), (10, (.getfield 117, 3)), (13, (.iload_n 1, 1)), (14, (.iaload, 1)), (15, (.iconst (-1), 1)), (16, (.if_icmp .ne 6, 3)), (19, (.bipush (-11), 2)), (21, (.ireturn, 1)), (22, (.aload_n 0, 1)), (23, (.getfield 117, 3)), (26, (.iload_n 1, 1)), (27, (.iaload, 1)), (28, (.ifCond .lt 6, 3)), (31, (.bipush (-12), 2)), (33, (.ireturn, 1)), (34, (.iload_n 2, 1)), (35, (.iconst 0, 1)), (36, (.aload_n 0, 1)), (37, (.getfield 120, 3)), (40, (.iload_n 1, 1)), (41, (.iaload, 1)), (42, (.iconst 1, 1)), (43, (.isub, 1)), (44, (.invokestatic 134, 3)), (47, (.ifCond .eq 7, 3)), (50, (.iconst 0, 1)), (51, (.goto 5, 3)), (54, (.bipush (-13), 2)), (56, (.ireturn, 1))]
set_option maxRecDepth 100000 in
theorem dt_X11_whyNoPlace : (tb_X11_whyNoPlace.all fun q => decide (decode cX11_whyNoPlace q.1 = .ok q.2)) = true := by decide +kernel
set_option maxRecDepth 100000 in
set_option maxHeartbeats 4000000 in
theorem ok_F11_whyNoPlace {m : Mem}  {v1 v2 : Int} (q1 : inR v1) (q2 : inR v2) {out : Int} (h : F11_whyNoPlace m v1 v2 = some out) : CT l G cy ad tt yX11_whyNoPlace cX11_whyNoPlace 3 (some .int) 2 [.ref (ad 83), iv v1, iv v2] m (some (iv out)) (inR out) m := by
  refine CT_of (by decide) (Nat.le_of_ble_eq_true rfl) (fun Go hR hT => ?_)
  replace hR : RS l G cy ad tt RX11 cX11_whyNoPlace 3 2 Go := hR
  show Go 0 [some (.ref (ad 83)), some (iv v1), some (iv v2)] [] m
  unfold F11_whyNoPlace at h
  refine r_iload_n (pc := 0) hR (dc dt_X11_whyNoPlace 0 rfl) rfl ?_
  refine r_callS (pc := 1) (rest := []) hR (dc dt_X11_whyNoPlace 1 rfl) cl_X11_206 (ok_F11_isShelf q1) (by decide) rfl (Nat.le_of_ble_eq_true rfl) rfl (fun q1r => ?_)
  show Go 4 [some (.ref (ad 83)), some (iv v1), some (iv v2)] [iv (F11_isShelf v1)] m
  refine r_if_ne (pc := 4) (tgt := 9) hR (dc dt_X11_whyNoPlace 2 rfl) (by decide) (inZ_R q1r) (fun hc => ?_) (fun hc => ?_)
  · replace h := ite_t hc h
    refine r_aload_n (pc := 9) hR (dc dt_X11_whyNoPlace 5 rfl) rfl ?_
    refine r_getr (pc := 10) (k2 := 119) hR (dc dt_X11_whyNoPlace 6 rfl) fl_X11_117 tc_83 rfl ?_
    refine r_iload_n (pc := 13) hR (dc dt_X11_whyNoPlace 7 rfl) rfl ?_
    obtain ⟨g1, h⟩ := gd_some h
    refine r_iald (pc := 14) hR (dc dt_X11_whyNoPlace 8 rfl) tc_119 g1 q1 ?_
    refine r_iconst (pc := 15) hR (dc dt_X11_whyNoPlace 9 rfl) ?_
    refine r_icmp_ne (pc := 16) (tgt := 22) hR (dc dt_X11_whyNoPlace 10 rfl) (by decide) (rd_in _ _ _) (rg_c rfl) (fun hc => ?_) (fun hc => ?_)
    · replace h := ite_t hc h
      refine r_aload_n (pc := 22) hR (dc dt_X11_whyNoPlace 13 rfl) rfl ?_
      refine r_getr (pc := 23) (k2 := 119) hR (dc dt_X11_whyNoPlace 14 rfl) fl_X11_117 tc_83 rfl ?_
      refine r_iload_n (pc := 26) hR (dc dt_X11_whyNoPlace 15 rfl) rfl ?_
      obtain ⟨g1, h⟩ := gd_some h
      refine r_iald (pc := 27) hR (dc dt_X11_whyNoPlace 16 rfl) tc_119 g1 q1 ?_
      refine r_if_lt (pc := 28) (tgt := 34) hR (dc dt_X11_whyNoPlace 17 rfl) (by decide) (rd_in _ _ _) (fun hc => ?_) (fun hc => ?_)
      · replace h := ite_t hc h
        refine r_iload_n (pc := 34) hR (dc dt_X11_whyNoPlace 20 rfl) rfl ?_
        refine r_iconst (pc := 35) hR (dc dt_X11_whyNoPlace 21 rfl) ?_
        refine r_aload_n (pc := 36) hR (dc dt_X11_whyNoPlace 22 rfl) rfl ?_
        refine r_getr (pc := 37) (k2 := 120) hR (dc dt_X11_whyNoPlace 23 rfl) fl_X11_120 tc_83 rfl ?_
        refine r_iload_n (pc := 40) hR (dc dt_X11_whyNoPlace 24 rfl) rfl ?_
        obtain ⟨g1, h⟩ := gd_some h
        refine r_iald (pc := 41) hR (dc dt_X11_whyNoPlace 25 rfl) tc_120 g1 q1 ?_
        refine r_iconst (pc := 42) hR (dc dt_X11_whyNoPlace 26 rfl) ?_
        refine r_isub (pc := 43) hR (dc dt_X11_whyNoPlace 27 rfl) ?_
        refine r_callS (pc := 44) (rest := []) hR (dc dt_X11_whyNoPlace 28 rfl) cl_X11_134 (ok_F11_in q2 (rg_c rfl) (w32_in _)) (by decide) rfl (Nat.le_of_ble_eq_true rfl) rfl (fun q44r => ?_)
        show Go 47 [some (.ref (ad 83)), some (iv v1), some (iv v2)] [iv (F11_in v2 0 (w32 ((rd m 120 v1) - 1)))] m
        refine r_if_eq (pc := 47) (tgt := 54) hR (dc dt_X11_whyNoPlace 29 rfl) (by decide) (inZ_R q44r) (fun hc => ?_) (fun hc => ?_)
        · replace h := ite_t hc h
          refine r_bipush (pc := 54) hR (dc dt_X11_whyNoPlace 32 rfl) (by decide) ?_
          exact r_iret hT (dc dt_X11_whyNoPlace 33 rfl) (Option.some.inj h) rfl (rg_c rfl)
        replace h := ite_f hc h
        refine r_iconst (pc := 50) hR (dc dt_X11_whyNoPlace 30 rfl) ?_
        refine r_goto (pc := 51) (tgt := 56) hR (dc dt_X11_whyNoPlace 31 rfl) (by decide) ?_
        exact r_iret hT (dc dt_X11_whyNoPlace 33 rfl) (Option.some.inj h) rfl (rg_c rfl)
      replace h := ite_f hc h
      refine r_bipush (pc := 31) hR (dc dt_X11_whyNoPlace 18 rfl) (by decide) ?_
      exact r_iret hT (dc dt_X11_whyNoPlace 19 rfl) (Option.some.inj h) rfl (rg_c rfl)
    replace h := ite_f hc h
    refine r_bipush (pc := 19) hR (dc dt_X11_whyNoPlace 11 rfl) (by decide) ?_
    exact r_iret hT (dc dt_X11_whyNoPlace 12 rfl) (Option.some.inj h) rfl (rg_c rfl)
  replace h := ite_f hc h
  refine r_iconst (pc := 7) hR (dc dt_X11_whyNoPlace 3 rfl) ?_
  exact r_iret hT (dc dt_X11_whyNoPlace 4 rfl) (Option.some.inj h) rfl (rg_c rfl)
def tb_X11_put : List (Nat × (Instr × Nat)) := [(0, (.aload_n 0, 1)), (1, (.iload_n 1, 1)), (2, (.iload_n 2, 1)), (3, (.invokevirtual 402, 3)), (6, (.istore 5, 2)), (8, (.iload 5, 2)), (10, (.ifCond .ge 6, 3)), (13, (.iload 5, 2)), (15, (.ireturn, 1)), (16, (.bipush (-2), 2)), (18, (.aload_n 0, 1)), (19, (.getfield 117, 3)), (22, (.iload_n 1, 1)), (23, (.iaload, 1)), (24, (.isub, 1)), (25, (.istore 6, 2)), (27, (.aload_n 0, 1)), (28, (.getfield 123, 3)), (31, (.bipush 60, 2)), (33, (.iload_n 1, 1)), (34, (.imul, 1)), (35, (.iload_n 2, 1)), (36, (.iadd, 1)), (37, (.iload 6, 2)), (39, (.ifCond .ne 10, 3)), (42, (.lload_n 3, 1)), (43, (.l2i, 1)), (44, (.i2b, 1)), (45, (.i2l, 1)), (46, (.goto 49, 3)), (49, (.iload 6, 2)), (51, (.iconst 1, 1)), (52, (.if_icmp .ne 10, 3)), (55, (.lload_n 3, 1)), (56, (.l2i, 1)), (57, (.i2s, 1)), (58, (.i2l, 1)), (59, (.goto 36, 3)), (62, (.iload 6, 2)), (64, (.iconst 2, 1)), (65, (.if_icmp .ne 9, 3)), (68, (.lload_n 3, 1)), (69, (.l2i, 1)), (70, (.i2l, 1)), (71, (.goto 24, 3)), (74, (.iload 6, 2)), (76, (.iconst 3, 1)), (77, (.if_icmp .ne 7, 3)), (80, (.lload_n 3, 1)), (81, (.goto 14, 3)), (84, (.lload_n 3, 1)), (85, (.lconst 0, 1)), (86, (.lcmp, 1)), (87, (.ifCond .eq 7, 3)), (90, (.lconst 1, 1)), (91, (.goto 4, 3)), (94, (.lconst 0, 1)), (95, (.lastore, 1)), (96, (.iconst 1, 1)), (97, (.ireturn, 1))]
set_option maxRecDepth 100000 in
theorem dt_X11_put : (tb_X11_put.all fun q => decide (decode cX11_put q.1 = .ok q.2)) = true := by decide +kernel
set_option maxRecDepth 100000 in
set_option maxHeartbeats 4000000 in
theorem ok_F11_put {m : Mem}  {v1 v2 v3 : Int} (q1 : inR v1) (q2 : inR v2) (q3 : inL v3) {out : Int × Mem} (h : F11_put m v1 v2 v3 = some out) : CT l G cy ad tt yX11_put cX11_put 7 (some .int) 3 [.ref (ad 83), iv v1, iv v2, jv v3] m (some (iv out.1)) (inR out.1) out.2 := by
  refine CT_of (by decide) (Nat.le_of_ble_eq_true rfl) (fun Go hR hT => ?_)
  replace hR : RS l G cy ad tt RX11 cX11_put 7 3 Go := hR
  show Go 0 [some (.ref (ad 83)), some (iv v1), some (iv v2), some (jv v3), none, none, none] [] m
  unfold F11_put at h
  refine r_aload_n (pc := 0) hR (dc dt_X11_put 0 rfl) rfl ?_
  refine r_iload_n (pc := 1) hR (dc dt_X11_put 1 rfl) rfl ?_
  refine r_iload_n (pc := 2) hR (dc dt_X11_put 2 rfl) rfl ?_
  obtain ⟨r3, e3, h⟩ := b1_some h
  refine r_callV (pc := 3) (rest := []) hR (dc dt_X11_put 3 rfl) cl_X11_402 tc_83 rfl (ok_F11_whyNoPlace q1 q2 e3) (by decide) rfl (Nat.le_of_ble_eq_true rfl) rfl (fun q3r => ?_)
  show Go 6 [some (.ref (ad 83)), some (iv v1), some (iv v2), some (jv v3), none, none, none] [iv r3] m
  refine r_istore (pc := 6) (L' := [some (.ref (ad 83)), some (iv v1), some (iv v2), some (jv v3), none, some (iv r3), none]) hR (dc dt_X11_put 4 rfl) (by decide) rfl rfl ?_
  refine r_iload (pc := 8) hR (dc dt_X11_put 5 rfl) rfl ?_
  refine r_if_ge (pc := 10) (tgt := 16) hR (dc dt_X11_put 6 rfl) (by decide) q3r (fun hc => ?_) (fun hc => ?_)
  · replace h := ite_t hc h
    refine r_bipush (pc := 16) hR (dc dt_X11_put 9 rfl) (by decide) ?_
    refine r_aload_n (pc := 18) hR (dc dt_X11_put 10 rfl) rfl ?_
    refine r_getr (pc := 19) (k2 := 119) hR (dc dt_X11_put 11 rfl) fl_X11_117 tc_83 rfl ?_
    refine r_iload_n (pc := 22) hR (dc dt_X11_put 12 rfl) rfl ?_
    obtain ⟨g1, h⟩ := gd_some h
    refine r_iald (pc := 23) hR (dc dt_X11_put 13 rfl) tc_119 g1 q1 ?_
    refine r_isub (pc := 24) hR (dc dt_X11_put 14 rfl) ?_
    refine r_istore (pc := 25) (L' := [some (.ref (ad 83)), some (iv v1), some (iv v2), some (jv v3), none, some (iv r3), some (iv (w32 ((-2) - (rd m 119 v1))))]) hR (dc dt_X11_put 15 rfl) (by decide) rfl rfl ?_
    refine r_aload_n (pc := 27) hR (dc dt_X11_put 16 rfl) rfl ?_
    refine r_getr (pc := 28) (k2 := 121) hR (dc dt_X11_put 17 rfl) fl_X11_123 tc_83 rfl ?_
    refine r_bipush (pc := 31) hR (dc dt_X11_put 18 rfl) (by decide) ?_
    refine r_iload_n (pc := 33) hR (dc dt_X11_put 19 rfl) rfl ?_
    refine r_imul (pc := 34) hR (dc dt_X11_put 20 rfl) ?_
    refine r_iload_n (pc := 35) hR (dc dt_X11_put 21 rfl) rfl ?_
    refine r_iadd (pc := 36) hR (dc dt_X11_put 22 rfl) ?_
    refine r_iload (pc := 37) hR (dc dt_X11_put 23 rfl) rfl ?_
    refine jn_e h (fun (K : Int → Option (Int × Mem)) => ∀ (x95 : Int), inL x95 → K x95 = some out → Go 95 [none, none, none, none, none, none, none] [jv x95, iv (w32 ((w32 (60 * v1)) + v2)), .ref (ad 121)] m) (fun x95 qx95 h => ?_) (fun K95 J95 h => ?_)
    · obtain ⟨g1, h⟩ := gd_some h
      refine r_last (pc := 95) hR (dc dt_X11_put 57 rfl) tc_121 g1 (w32_in _) ?_
      replace h := stw_e h
      generalize wr m 121 (w32 ((w32 (60 * v1)) + v2)) x95 = m95 at h ⊢
      refine r_iconst (pc := 96) hR (dc dt_X11_put 58 rfl) ?_
      exact r_iret hT (dc dt_X11_put 59 rfl) (congrArg Prod.fst (Option.some.inj h)) (congrArg Prod.snd (Option.some.inj h)) (rg_c rfl)
    refine r_if_ne (pc := 39) (tgt := 49) hR (dc dt_X11_put 24 rfl) (by decide) (w32_in _) (fun hc => ?_) (fun hc => ?_)
    · replace h := ite_t hc h
      refine r_iload (pc := 49) hR (dc dt_X11_put 30 rfl) rfl ?_
      refine r_iconst (pc := 51) hR (dc dt_X11_put 31 rfl) ?_
      refine r_icmp_ne (pc := 52) (tgt := 62) hR (dc dt_X11_put 32 rfl) (by decide) (w32_in _) (rg_c rfl) (fun hc => ?_) (fun hc => ?_)
      · replace h := ite_t hc h
        refine r_iload (pc := 62) hR (dc dt_X11_put 38 rfl) rfl ?_
        refine r_iconst (pc := 64) hR (dc dt_X11_put 39 rfl) ?_
        refine r_icmp_ne (pc := 65) (tgt := 74) hR (dc dt_X11_put 40 rfl) (by decide) (w32_in _) (rg_c rfl) (fun hc => ?_) (fun hc => ?_)
        · replace h := ite_t hc h
          refine r_iload (pc := 74) hR (dc dt_X11_put 45 rfl) rfl ?_
          refine r_iconst (pc := 76) hR (dc dt_X11_put 46 rfl) ?_
          refine r_icmp_ne (pc := 77) (tgt := 84) hR (dc dt_X11_put 47 rfl) (by decide) (w32_in _) (rg_c rfl) (fun hc => ?_) (fun hc => ?_)
          · replace h := ite_t hc h
            refine r_lload_n (pc := 84) hR (dc dt_X11_put 50 rfl) rfl ?_
            refine r_lconst (pc := 85) hR (dc dt_X11_put 51 rfl) ?_
            show Go 86 [some (.ref (ad 83)), some (iv v1), some (iv v2), some (jv v3), none, some (iv r3), some (iv (w32 ((-2) - (rd m 119 v1))))] [jv 0, jv v3, iv (w32 ((w32 (60 * v1)) + v2)), .ref (ad 121)] m
            refine r_lcmp (pc := 86) hR (dc dt_X11_put 52 rfl) q3 (rg_l (by decide)) ?_
            refine r_if_eq (pc := 87) (tgt := 94) hR (dc dt_X11_put 53 rfl) (by decide) (lcm_in _ _) (fun hc => ?_) (fun hc => ?_)
            · replace h := ite_t hc h
              refine r_lconst (pc := 94) hR (dc dt_X11_put 56 rfl) ?_
              show Go 95 [some (.ref (ad 83)), some (iv v1), some (iv v2), some (jv v3), none, some (iv r3), some (iv (w32 ((-2) - (rd m 119 v1))))] [jv 0, iv (w32 ((w32 (60 * v1)) + v2)), .ref (ad 121)] m
              refine r_weak (L' := [none, none, none, none, none, none, none]) hR ⟨Or.inl rfl, Or.inl rfl, Or.inl rfl, Or.inl rfl, Or.inr rfl, Or.inl rfl, Or.inl rfl, trivial⟩ ?_
              exact J95 0 (rg_l (by decide)) h
            replace h := ite_f hc h
            refine r_lconst (pc := 90) hR (dc dt_X11_put 54 rfl) ?_
            show Go 91 [some (.ref (ad 83)), some (iv v1), some (iv v2), some (jv v3), none, some (iv r3), some (iv (w32 ((-2) - (rd m 119 v1))))] [jv 1, iv (w32 ((w32 (60 * v1)) + v2)), .ref (ad 121)] m
            refine r_goto (pc := 91) (tgt := 95) hR (dc dt_X11_put 55 rfl) (by decide) ?_
            refine r_weak (L' := [none, none, none, none, none, none, none]) hR ⟨Or.inl rfl, Or.inl rfl, Or.inl rfl, Or.inl rfl, Or.inr rfl, Or.inl rfl, Or.inl rfl, trivial⟩ ?_
            exact J95 1 (rg_l (by decide)) h
          replace h := ite_f hc h
          refine r_lload_n (pc := 80) hR (dc dt_X11_put 48 rfl) rfl ?_
          refine r_goto (pc := 81) (tgt := 95) hR (dc dt_X11_put 49 rfl) (by decide) ?_
          refine r_weak (L' := [none, none, none, none, none, none, none]) hR ⟨Or.inl rfl, Or.inl rfl, Or.inl rfl, Or.inl rfl, Or.inr rfl, Or.inl rfl, Or.inl rfl, trivial⟩ ?_
          exact J95 v3 q3 h
        replace h := ite_f hc h
        refine r_lload_n (pc := 68) hR (dc dt_X11_put 41 rfl) rfl ?_
        refine r_l2i (pc := 69) hR (dc dt_X11_put 42 rfl) ?_
        refine r_i2l (pc := 70) hR (dc dt_X11_put 43 rfl) (w32_in _) ?_
        refine r_goto (pc := 71) (tgt := 95) hR (dc dt_X11_put 44 rfl) (by decide) ?_
        refine r_weak (L' := [none, none, none, none, none, none, none]) hR ⟨Or.inl rfl, Or.inl rfl, Or.inl rfl, Or.inl rfl, Or.inr rfl, Or.inl rfl, Or.inl rfl, trivial⟩ ?_
        exact J95 (w32 v3) (R_L (w32_in _)) h
      replace h := ite_f hc h
      refine r_lload_n (pc := 55) hR (dc dt_X11_put 33 rfl) rfl ?_
      refine r_l2i (pc := 56) hR (dc dt_X11_put 34 rfl) ?_
      refine r_i2s (pc := 57) hR (dc dt_X11_put 35 rfl) ?_
      refine r_i2l (pc := 58) hR (dc dt_X11_put 36 rfl) (ti_in _) ?_
      refine r_goto (pc := 59) (tgt := 95) hR (dc dt_X11_put 37 rfl) (by decide) ?_
      refine r_weak (L' := [none, none, none, none, none, none, none]) hR ⟨Or.inl rfl, Or.inl rfl, Or.inl rfl, Or.inl rfl, Or.inr rfl, Or.inl rfl, Or.inl rfl, trivial⟩ ?_
      exact J95 (i16 (w32 v3)) (R_L (ti_in _)) h
    replace h := ite_f hc h
    refine r_lload_n (pc := 42) hR (dc dt_X11_put 25 rfl) rfl ?_
    refine r_l2i (pc := 43) hR (dc dt_X11_put 26 rfl) ?_
    refine r_i2b (pc := 44) hR (dc dt_X11_put 27 rfl) ?_
    refine r_i2l (pc := 45) hR (dc dt_X11_put 28 rfl) (ti_in _) ?_
    refine r_goto (pc := 46) (tgt := 95) hR (dc dt_X11_put 29 rfl) (by decide) ?_
    refine r_weak (L' := [none, none, none, none, none, none, none]) hR ⟨Or.inl rfl, Or.inl rfl, Or.inl rfl, Or.inl rfl, Or.inr rfl, Or.inl rfl, Or.inl rfl, trivial⟩ ?_
    exact J95 (i8 (w32 v3)) (R_L (ti_in _)) h
  replace h := ite_f hc h
  refine r_iload (pc := 13) hR (dc dt_X11_put 7 rfl) rfl ?_
  exact r_iret hT (dc dt_X11_put 8 rfl) (congrArg Prod.fst (Option.some.inj h)) (congrArg Prod.snd (Option.some.inj h)) q3r
def tb_X11_element : List (Nat × (Instr × Nat)) := [(0, (.aload_n 0, 1)), (1, (.iload_n 1, 1)), (2, (.iload_n 2, 1)), (3, (.invokevirtual 402, 3)), (6, (.ifCond .ge 9, 3)), (9, (.ldc2_w 407, 3)), (12, (.goto 14, 3)), (15, (.aload_n 0, 1)), (16, (.getfield 123, 3)), (19, (.bipush 60, 2)), (21, (.iload_n 1, 1)), (22, (.imul, 1)), (23, (.iload_n 2, 1)), (24, (.iadd, 1)), (25, (.laload, 1)), (26, (.lreturn, 1))]
set_option maxRecDepth 100000 in
theorem dt_X11_element : (tb_X11_element.all fun q => decide (decode cX11_element q.1 = .ok q.2)) = true := by decide +kernel
set_option maxRecDepth 100000 in
set_option maxHeartbeats 4000000 in
theorem ok_F11_element {m : Mem}  {v1 v2 : Int} (q1 : inR v1) (q2 : inR v2) {out : Int} (h : F11_element m v1 v2 = some out) : CT l G cy ad tt yX11_element cX11_element 3 (some .long) 3 [.ref (ad 83), iv v1, iv v2] m (some (jv out)) (inL out) m := by
  refine CT_of (by decide) (Nat.le_of_ble_eq_true rfl) (fun Go hR hT => ?_)
  replace hR : RS l G cy ad tt RX11 cX11_element 3 3 Go := hR
  show Go 0 [some (.ref (ad 83)), some (iv v1), some (iv v2)] [] m
  unfold F11_element at h
  refine r_aload_n (pc := 0) hR (dc dt_X11_element 0 rfl) rfl ?_
  refine r_iload_n (pc := 1) hR (dc dt_X11_element 1 rfl) rfl ?_
  refine r_iload_n (pc := 2) hR (dc dt_X11_element 2 rfl) rfl ?_
  obtain ⟨r3, e3, h⟩ := b1_some h
  refine r_callV (pc := 3) (rest := []) hR (dc dt_X11_element 3 rfl) cl_X11_402 tc_83 rfl (ok_F11_whyNoPlace q1 q2 e3) (by decide) rfl (Nat.le_of_ble_eq_true rfl) rfl (fun q3r => ?_)
  show Go 6 [some (.ref (ad 83)), some (iv v1), some (iv v2)] [iv r3] m
  refine r_if_ge (pc := 6) (tgt := 15) hR (dc dt_X11_element 4 rfl) (by decide) q3r (fun hc => ?_) (fun hc => ?_)
  · replace h := ite_t hc h
    refine r_aload_n (pc := 15) hR (dc dt_X11_element 7 rfl) rfl ?_
    refine r_getr (pc := 16) (k2 := 121) hR (dc dt_X11_element 8 rfl) fl_X11_123 tc_83 rfl ?_
    refine r_bipush (pc := 19) hR (dc dt_X11_element 9 rfl) (by decide) ?_
    refine r_iload_n (pc := 21) hR (dc dt_X11_element 10 rfl) rfl ?_
    refine r_imul (pc := 22) hR (dc dt_X11_element 11 rfl) ?_
    refine r_iload_n (pc := 23) hR (dc dt_X11_element 12 rfl) rfl ?_
    refine r_iadd (pc := 24) hR (dc dt_X11_element 13 rfl) ?_
    obtain ⟨g1, h⟩ := gd_some h
    refine r_lald (pc := 25) hR (dc dt_X11_element 14 rfl) tc_121 g1 (w32_in _) ?_
    exact r_lret hT (dc dt_X11_element 15 rfl) (Option.some.inj h) rfl (rl_in _ _ _)
  replace h := ite_f hc h
  refine r_ldc2 (pc := 9) hR (dc dt_X11_element 5 rfl) kw_X11_407 ?_
  refine r_goto (pc := 12) (tgt := 26) hR (dc dt_X11_element 6 rfl) (by decide) ?_
  exact r_lret hT (dc dt_X11_element 15 rfl) (Option.some.inj h) rfl (rg_l (by decide))
def tb_X11_shift : List (Nat × (Instr × Nat)) := [(0, (.iload_n 1, 1)), (1, (.invokestatic 206, 3)), (4, (.ifCond .eq 10, 3)), (7, (.iload_n 3, 1)), (8, (.invokestatic 206, 3)), (11, (.ifCond .ne 5, 3)), (14, (.iconst (-1), 1)), (15, (.ireturn, 1)), (16, (.aload_n 0, 1)), (17, (.getfield 117, 3)), (20, (.iload_n 1, 1)), (21, (.iaload, 1)), (22, (.iconst (-1), 1)), (23, (.if_icmp .eq 13, 3)), (26, (.aload_n 0, 1)), (27, (.getfield 117, 3)), (30, (.iload_n 3, 1)), (31, (.iaload, 1)), (32, (.iconst (-1), 1)), (33, (.if_icmp .ne 6, 3)), (36, (.bipush (-11), 2)), (38, (.ireturn, 1)), (39, (.aload_n 0, 1)), (40, (.getfield 117, 3)), (43, (.iload_n 1, 1)), (44, (.iaload, 1)), (45, (.ifCond .ge 18, 3)), (48, (.aload_n 0, 1)), (49, (.getfield 117, 3)), (52, (.iload_n 1, 1)), (53, (.iaload, 1)), (54, (.aload_n 0, 1)), (55, (.getfield 117, 3)), (58, (.iload_n 3, 1)), (59, (.iaload, 1)), (60, (.if_icmp .eq 6, 3)), (63, (.bipush (-12), 2)), (65, (.ireturn, 1)), (66, (.iload 5, 2)), (68, (.ifCond .lt 39, 3)), (71, (.iload_n 2, 1)), (72, (.ifCond .lt 35, 3)), (75, (.iload 4, 2)), (77, (.ifCond .lt 30, 3)), (80, (.iload_n 2, 1)), (81, (.aload_n 0, 1)), (82, (.getfield 120, 3)), (85, (.iload_n 1, 1)), (86, (.iaload, 1)), (87, (.iload 5, 2)), (89, (.isub, 1)), (90, (.if_icmp .gt 17, 3)), (93, (.iload 4, 2)), (95, (.aload_n 0, 1)), (96, (.getfield 120, 3)), (99, (.iload_n 3, 1)), (100, (.iaload, 1)), (101, (.iload 5, 2)), (103, (.isub, 1)), (104, (.if_icmp .le 6, 3)), (107, (.bipush (-13), 2)), (109, (.ireturn, 1)), (110, (.iconst 0, 1)), (111, (.istore 6, 2)), (113, (.iload 6, 2)), (115, (.iload 5, 2)), (117, (.if_icmp .ge 30, 3)), (120, (.aload_n 0, 1)), (121, (.getfield 127, 3)), (124, (.iload 6, 2)), (126, (.aload_n 0, 1)), (127, (.getfield 123, 3)), (130, (.bipush 60, 2)), (132, (.iload_n 1, 1)), (133, (.imul, 1)), (134, (.iload_n 2, 1)), (135, (.iadd, 1)), (136, (.iload 6, 2)), (138, (.iadd, 1)), (139, (.laload, 1)), (140, (.lastore, 1)), (141, (.iinc 6 1, 3)), (144, (.goto (-31), 3)), (147, (.iconst 0, 1)), (148, (.istore 6, 2)), (150, (.iload 6, 2)), (152, (.iload 5, 2)), (154, (.if_icmp .ge 31, 3)), (157, (.aload_n 0, 1)), (158, (.getfield 123, 3)), (161, (.bipush 60, 2)), (163, (.iload_n 3, 1)), (164, (.imul, 1)), (165, (.iload 4, 2)), (167, (.iadd, 1)), (168, (.iload 6, 2)), (170, (.iadd, 1)), (171, (.aload_n 0, 1)), (172, (.getfield 127, 3)), (175, (.iload 6, 2)), (177, (.laload, 1)), (178, (.lastore, 1)), (179, (.iinc 6 1, 3)), (182, (.goto (-32), 3)), (185, (.iload 5, 2)), (187, (.ireturn, 1))]
set_option maxRecDepth 100000 in
theorem dt_X11_shift : (tb_X11_shift.all fun q => decide (decode cX11_shift q.1 = .ok q.2)) = true := by decide +kernel
set_option maxRecDepth 100000 in
set_option maxHeartbeats 4000000 in
theorem lp_L11_shift_113 {Go : Nat → List (Option Value) → List Value → Mem → Prop} (hR : RS l G cy ad tt RX11 cX11_shift 7 2 Go) {out : Int × Mem} (hT : RT cX11_shift (some (iv out.1)) (inR out.1) out.2 (some .int) Go) {v1 : Int} {v2 : Int} {v3 : Int} {v4 : Int} {v5 : Int} (qv1 : inR v1) (qv2 : inR v2) (qv3 : inR v3) (qv4 : inR v4) (qv5 : inR v5) {k147 : Mem → Option (Int × Mem)} (hk147 : ∀ (m : Mem), k147 m = some out → Go 147 [some (.ref (ad 83)), none, none, some (iv v3), some (iv v4), some (iv v5), none] [] m) : ∀ (n : Nat) (v6 : Int) (m : Mem), inR v6 → L11_shift_113 v1 v2 v5 k147 n v6 m = some out → Go 113 [some (.ref (ad 83)), some (iv v1), some (iv v2), some (iv v3), some (iv v4), some (iv v5), some (iv v6)] [] m := by
  intro n
  induction n with
  | zero =>
    intro v6 m qv6 h
    cases h
  | succ n ih =>
    intro v6 m qv6 h
    rw [L11_shift_113] at h
    refine r_iload (pc := 113) hR (dc dt_X11_shift 64 rfl) rfl ?_
    refine r_iload (pc := 115) hR (dc dt_X11_shift 65 rfl) rfl ?_
    refine r_icmp_ge (pc := 117) (tgt := 147) hR (dc dt_X11_shift 66 rfl) (by decide) qv6 qv5 (fun hc => ?_) (fun hc => ?_)
    · replace h := ite_t hc h
      refine r_weak (L' := [some (.ref (ad 83)), none, none, some (iv v3), some (iv v4), some (iv v5), none]) hR ⟨Or.inr rfl, Or.inl rfl, Or.inl rfl, Or.inr rfl, Or.inr rfl, Or.inr rfl, Or.inl rfl, trivial⟩ ?_
      exact hk147 m h
    replace h := ite_f hc h
    refine r_aload_n (pc := 120) hR (dc dt_X11_shift 67 rfl) rfl ?_
    refine r_getr (pc := 121) (k2 := 122) hR (dc dt_X11_shift 68 rfl) fl_X11_127 tc_83 rfl ?_
    refine r_iload (pc := 124) hR (dc dt_X11_shift 69 rfl) rfl ?_
    refine r_aload_n (pc := 126) hR (dc dt_X11_shift 70 rfl) rfl ?_
    refine r_getr (pc := 127) (k2 := 121) hR (dc dt_X11_shift 71 rfl) fl_X11_123 tc_83 rfl ?_
    refine r_bipush (pc := 130) hR (dc dt_X11_shift 72 rfl) (by decide) ?_
    refine r_iload_n (pc := 132) hR (dc dt_X11_shift 73 rfl) rfl ?_
    refine r_imul (pc := 133) hR (dc dt_X11_shift 74 rfl) ?_
    refine r_iload_n (pc := 134) hR (dc dt_X11_shift 75 rfl) rfl ?_
    refine r_iadd (pc := 135) hR (dc dt_X11_shift 76 rfl) ?_
    refine r_iload (pc := 136) hR (dc dt_X11_shift 77 rfl) rfl ?_
    refine r_iadd (pc := 138) hR (dc dt_X11_shift 78 rfl) ?_
    obtain ⟨g1, h⟩ := gd_some h
    refine r_lald (pc := 139) hR (dc dt_X11_shift 79 rfl) tc_121 g1 (w32_in _) ?_
    obtain ⟨g1, h⟩ := gd_some h
    refine r_last (pc := 140) hR (dc dt_X11_shift 80 rfl) tc_122 g1 qv6 ?_
    replace h := stw_e h
    generalize wr m 122 v6 (rl m 121 (w32 ((w32 ((w32 (60 * v1)) + v2)) + v6))) = m140 at h ⊢
    refine r_iinc (pc := 141) (L' := [some (.ref (ad 83)), some (iv v1), some (iv v2), some (iv v3), some (iv v4), some (iv v5), some (iv (w32 (v6 + 1)))]) hR (dc dt_X11_shift 81 rfl) rfl (by decide) rfl rfl ?_
    refine r_goto (pc := 144) (tgt := 113) hR (dc dt_X11_shift 82 rfl) (by decide) ?_
    exact ih (w32 (v6 + 1)) m140 (w32_in _) h
set_option maxRecDepth 100000 in
set_option maxHeartbeats 4000000 in
theorem lp_L11_shift_150 {Go : Nat → List (Option Value) → List Value → Mem → Prop} (hR : RS l G cy ad tt RX11 cX11_shift 7 2 Go) {out : Int × Mem} (hT : RT cX11_shift (some (iv out.1)) (inR out.1) out.2 (some .int) Go) {v3 : Int} {v4 : Int} {v5 : Int} (qv3 : inR v3) (qv4 : inR v4) (qv5 : inR v5) : ∀ (n : Nat) (v6 : Int) (m : Mem), inR v6 → L11_shift_150 v3 v4 v5 n v6 m = some out → Go 150 [some (.ref (ad 83)), none, none, some (iv v3), some (iv v4), some (iv v5), some (iv v6)] [] m := by
  intro n
  induction n with
  | zero =>
    intro v6 m qv6 h
    cases h
  | succ n ih =>
    intro v6 m qv6 h
    rw [L11_shift_150] at h
    refine r_iload (pc := 150) hR (dc dt_X11_shift 85 rfl) rfl ?_
    refine r_iload (pc := 152) hR (dc dt_X11_shift 86 rfl) rfl ?_
    refine r_icmp_ge (pc := 154) (tgt := 185) hR (dc dt_X11_shift 87 rfl) (by decide) qv6 qv5 (fun hc => ?_) (fun hc => ?_)
    · replace h := ite_t hc h
      refine r_iload (pc := 185) hR (dc dt_X11_shift 104 rfl) rfl ?_
      exact r_iret hT (dc dt_X11_shift 105 rfl) (congrArg Prod.fst (Option.some.inj h)) (congrArg Prod.snd (Option.some.inj h)) qv5
    replace h := ite_f hc h
    refine r_aload_n (pc := 157) hR (dc dt_X11_shift 88 rfl) rfl ?_
    refine r_getr (pc := 158) (k2 := 121) hR (dc dt_X11_shift 89 rfl) fl_X11_123 tc_83 rfl ?_
    refine r_bipush (pc := 161) hR (dc dt_X11_shift 90 rfl) (by decide) ?_
    refine r_iload_n (pc := 163) hR (dc dt_X11_shift 91 rfl) rfl ?_
    refine r_imul (pc := 164) hR (dc dt_X11_shift 92 rfl) ?_
    refine r_iload (pc := 165) hR (dc dt_X11_shift 93 rfl) rfl ?_
    refine r_iadd (pc := 167) hR (dc dt_X11_shift 94 rfl) ?_
    refine r_iload (pc := 168) hR (dc dt_X11_shift 95 rfl) rfl ?_
    refine r_iadd (pc := 170) hR (dc dt_X11_shift 96 rfl) ?_
    refine r_aload_n (pc := 171) hR (dc dt_X11_shift 97 rfl) rfl ?_
    refine r_getr (pc := 172) (k2 := 122) hR (dc dt_X11_shift 98 rfl) fl_X11_127 tc_83 rfl ?_
    refine r_iload (pc := 175) hR (dc dt_X11_shift 99 rfl) rfl ?_
    obtain ⟨g1, h⟩ := gd_some h
    refine r_lald (pc := 177) hR (dc dt_X11_shift 100 rfl) tc_122 g1 qv6 ?_
    obtain ⟨g1, h⟩ := gd_some h
    refine r_last (pc := 178) hR (dc dt_X11_shift 101 rfl) tc_121 g1 (w32_in _) ?_
    replace h := stw_e h
    generalize wr m 121 (w32 ((w32 ((w32 (60 * v3)) + v4)) + v6)) (rl m 122 v6) = m178 at h ⊢
    refine r_iinc (pc := 179) (L' := [some (.ref (ad 83)), none, none, some (iv v3), some (iv v4), some (iv v5), some (iv (w32 (v6 + 1)))]) hR (dc dt_X11_shift 102 rfl) rfl (by decide) rfl rfl ?_
    refine r_goto (pc := 182) (tgt := 150) hR (dc dt_X11_shift 103 rfl) (by decide) ?_
    exact ih (w32 (v6 + 1)) m178 (w32_in _) h
set_option maxRecDepth 100000 in
set_option maxHeartbeats 4000000 in
theorem ok_F11_shift {m : Mem}  {v1 v2 v3 v4 v5 : Int} (q1 : inR v1) (q2 : inR v2) (q3 : inR v3) (q4 : inR v4) (q5 : inR v5) {out : Int × Mem} (h : F11_shift m v1 v2 v3 v4 v5 = some out) : CT l G cy ad tt yX11_shift cX11_shift 7 (some .int) 2 [.ref (ad 83), iv v1, iv v2, iv v3, iv v4, iv v5] m (some (iv out.1)) (inR out.1) out.2 := by
  refine CT_of (by decide) (Nat.le_of_ble_eq_true rfl) (fun Go hR hT => ?_)
  replace hR : RS l G cy ad tt RX11 cX11_shift 7 2 Go := hR
  show Go 0 [some (.ref (ad 83)), some (iv v1), some (iv v2), some (iv v3), some (iv v4), some (iv v5), none] [] m
  unfold F11_shift at h
  refine r_iload_n (pc := 0) hR (dc dt_X11_shift 0 rfl) rfl ?_
  refine r_callS (pc := 1) (rest := []) hR (dc dt_X11_shift 1 rfl) cl_X11_206 (ok_F11_isShelf q1) (by decide) rfl (Nat.le_of_ble_eq_true rfl) rfl (fun q1r => ?_)
  show Go 4 [some (.ref (ad 83)), some (iv v1), some (iv v2), some (iv v3), some (iv v4), some (iv v5), none] [iv (F11_isShelf v1)] m
  refine r_if_eq (pc := 4) (tgt := 14) hR (dc dt_X11_shift 2 rfl) (by decide) (inZ_R q1r) (fun hc => ?_) (fun hc => ?_)
  · replace h := ite_t hc h
    refine r_iconst (pc := 14) hR (dc dt_X11_shift 6 rfl) ?_
    exact r_iret hT (dc dt_X11_shift 7 rfl) (congrArg Prod.fst (Option.some.inj h)) (congrArg Prod.snd (Option.some.inj h)) (rg_c rfl)
  replace h := ite_f hc h
  refine r_iload_n (pc := 7) hR (dc dt_X11_shift 3 rfl) rfl ?_
  refine r_callS (pc := 8) (rest := []) hR (dc dt_X11_shift 4 rfl) cl_X11_206 (ok_F11_isShelf q3) (by decide) rfl (Nat.le_of_ble_eq_true rfl) rfl (fun q8r => ?_)
  show Go 11 [some (.ref (ad 83)), some (iv v1), some (iv v2), some (iv v3), some (iv v4), some (iv v5), none] [iv (F11_isShelf v3)] m
  refine r_if_ne (pc := 11) (tgt := 16) hR (dc dt_X11_shift 5 rfl) (by decide) (inZ_R q8r) (fun hc => ?_) (fun hc => ?_)
  · replace h := ite_t hc h
    refine r_aload_n (pc := 16) hR (dc dt_X11_shift 8 rfl) rfl ?_
    refine r_getr (pc := 17) (k2 := 119) hR (dc dt_X11_shift 9 rfl) fl_X11_117 tc_83 rfl ?_
    refine r_iload_n (pc := 20) hR (dc dt_X11_shift 10 rfl) rfl ?_
    obtain ⟨g1, h⟩ := gd_some h
    refine r_iald (pc := 21) hR (dc dt_X11_shift 11 rfl) tc_119 g1 q1 ?_
    refine r_iconst (pc := 22) hR (dc dt_X11_shift 12 rfl) ?_
    refine r_icmp_eq (pc := 23) (tgt := 36) hR (dc dt_X11_shift 13 rfl) (by decide) (rd_in _ _ _) (rg_c rfl) (fun hc => ?_) (fun hc => ?_)
    · replace h := ite_t hc h
      refine r_bipush (pc := 36) hR (dc dt_X11_shift 20 rfl) (by decide) ?_
      exact r_iret hT (dc dt_X11_shift 21 rfl) (congrArg Prod.fst (Option.some.inj h)) (congrArg Prod.snd (Option.some.inj h)) (rg_c rfl)
    replace h := ite_f hc h
    refine r_aload_n (pc := 26) hR (dc dt_X11_shift 14 rfl) rfl ?_
    refine r_getr (pc := 27) (k2 := 119) hR (dc dt_X11_shift 15 rfl) fl_X11_117 tc_83 rfl ?_
    refine r_iload_n (pc := 30) hR (dc dt_X11_shift 16 rfl) rfl ?_
    obtain ⟨g1, h⟩ := gd_some h
    refine r_iald (pc := 31) hR (dc dt_X11_shift 17 rfl) tc_119 g1 q3 ?_
    refine r_iconst (pc := 32) hR (dc dt_X11_shift 18 rfl) ?_
    refine r_icmp_ne (pc := 33) (tgt := 39) hR (dc dt_X11_shift 19 rfl) (by decide) (rd_in _ _ _) (rg_c rfl) (fun hc => ?_) (fun hc => ?_)
    · replace h := ite_t hc h
      refine r_aload_n (pc := 39) hR (dc dt_X11_shift 22 rfl) rfl ?_
      refine r_getr (pc := 40) (k2 := 119) hR (dc dt_X11_shift 23 rfl) fl_X11_117 tc_83 rfl ?_
      refine r_iload_n (pc := 43) hR (dc dt_X11_shift 24 rfl) rfl ?_
      obtain ⟨g1, h⟩ := gd_some h
      refine r_iald (pc := 44) hR (dc dt_X11_shift 25 rfl) tc_119 g1 q1 ?_
      refine r_if_ge (pc := 45) (tgt := 63) hR (dc dt_X11_shift 26 rfl) (by decide) (rd_in _ _ _) (fun hc => ?_) (fun hc => ?_)
      · replace h := ite_t hc h
        refine r_bipush (pc := 63) hR (dc dt_X11_shift 36 rfl) (by decide) ?_
        exact r_iret hT (dc dt_X11_shift 37 rfl) (congrArg Prod.fst (Option.some.inj h)) (congrArg Prod.snd (Option.some.inj h)) (rg_c rfl)
      replace h := ite_f hc h
      refine r_aload_n (pc := 48) hR (dc dt_X11_shift 27 rfl) rfl ?_
      refine r_getr (pc := 49) (k2 := 119) hR (dc dt_X11_shift 28 rfl) fl_X11_117 tc_83 rfl ?_
      refine r_iload_n (pc := 52) hR (dc dt_X11_shift 29 rfl) rfl ?_
      obtain ⟨g1, h⟩ := gd_some h
      refine r_iald (pc := 53) hR (dc dt_X11_shift 30 rfl) tc_119 g1 q1 ?_
      refine r_aload_n (pc := 54) hR (dc dt_X11_shift 31 rfl) rfl ?_
      refine r_getr (pc := 55) (k2 := 119) hR (dc dt_X11_shift 32 rfl) fl_X11_117 tc_83 rfl ?_
      refine r_iload_n (pc := 58) hR (dc dt_X11_shift 33 rfl) rfl ?_
      obtain ⟨g1, h⟩ := gd_some h
      refine r_iald (pc := 59) hR (dc dt_X11_shift 34 rfl) tc_119 g1 q3 ?_
      refine r_icmp_eq (pc := 60) (tgt := 66) hR (dc dt_X11_shift 35 rfl) (by decide) (rd_in _ _ _) (rd_in _ _ _) (fun hc => ?_) (fun hc => ?_)
      · replace h := ite_t hc h
        refine r_iload (pc := 66) hR (dc dt_X11_shift 38 rfl) rfl ?_
        refine r_if_lt (pc := 68) (tgt := 107) hR (dc dt_X11_shift 39 rfl) (by decide) q5 (fun hc => ?_) (fun hc => ?_)
        · replace h := ite_t hc h
          refine r_bipush (pc := 107) hR (dc dt_X11_shift 60 rfl) (by decide) ?_
          exact r_iret hT (dc dt_X11_shift 61 rfl) (congrArg Prod.fst (Option.some.inj h)) (congrArg Prod.snd (Option.some.inj h)) (rg_c rfl)
        replace h := ite_f hc h
        refine r_iload_n (pc := 71) hR (dc dt_X11_shift 40 rfl) rfl ?_
        refine r_if_lt (pc := 72) (tgt := 107) hR (dc dt_X11_shift 41 rfl) (by decide) q2 (fun hc => ?_) (fun hc => ?_)
        · replace h := ite_t hc h
          refine r_bipush (pc := 107) hR (dc dt_X11_shift 60 rfl) (by decide) ?_
          exact r_iret hT (dc dt_X11_shift 61 rfl) (congrArg Prod.fst (Option.some.inj h)) (congrArg Prod.snd (Option.some.inj h)) (rg_c rfl)
        replace h := ite_f hc h
        refine r_iload (pc := 75) hR (dc dt_X11_shift 42 rfl) rfl ?_
        refine r_if_lt (pc := 77) (tgt := 107) hR (dc dt_X11_shift 43 rfl) (by decide) q4 (fun hc => ?_) (fun hc => ?_)
        · replace h := ite_t hc h
          refine r_bipush (pc := 107) hR (dc dt_X11_shift 60 rfl) (by decide) ?_
          exact r_iret hT (dc dt_X11_shift 61 rfl) (congrArg Prod.fst (Option.some.inj h)) (congrArg Prod.snd (Option.some.inj h)) (rg_c rfl)
        replace h := ite_f hc h
        refine r_iload_n (pc := 80) hR (dc dt_X11_shift 44 rfl) rfl ?_
        refine r_aload_n (pc := 81) hR (dc dt_X11_shift 45 rfl) rfl ?_
        refine r_getr (pc := 82) (k2 := 120) hR (dc dt_X11_shift 46 rfl) fl_X11_120 tc_83 rfl ?_
        refine r_iload_n (pc := 85) hR (dc dt_X11_shift 47 rfl) rfl ?_
        obtain ⟨g1, h⟩ := gd_some h
        refine r_iald (pc := 86) hR (dc dt_X11_shift 48 rfl) tc_120 g1 q1 ?_
        refine r_iload (pc := 87) hR (dc dt_X11_shift 49 rfl) rfl ?_
        refine r_isub (pc := 89) hR (dc dt_X11_shift 50 rfl) ?_
        refine r_icmp_gt (pc := 90) (tgt := 107) hR (dc dt_X11_shift 51 rfl) (by decide) q2 (w32_in _) (fun hc => ?_) (fun hc => ?_)
        · replace h := ite_t hc h
          refine r_bipush (pc := 107) hR (dc dt_X11_shift 60 rfl) (by decide) ?_
          exact r_iret hT (dc dt_X11_shift 61 rfl) (congrArg Prod.fst (Option.some.inj h)) (congrArg Prod.snd (Option.some.inj h)) (rg_c rfl)
        replace h := ite_f hc h
        refine r_iload (pc := 93) hR (dc dt_X11_shift 52 rfl) rfl ?_
        refine r_aload_n (pc := 95) hR (dc dt_X11_shift 53 rfl) rfl ?_
        refine r_getr (pc := 96) (k2 := 120) hR (dc dt_X11_shift 54 rfl) fl_X11_120 tc_83 rfl ?_
        refine r_iload_n (pc := 99) hR (dc dt_X11_shift 55 rfl) rfl ?_
        obtain ⟨g1, h⟩ := gd_some h
        refine r_iald (pc := 100) hR (dc dt_X11_shift 56 rfl) tc_120 g1 q3 ?_
        refine r_iload (pc := 101) hR (dc dt_X11_shift 57 rfl) rfl ?_
        refine r_isub (pc := 103) hR (dc dt_X11_shift 58 rfl) ?_
        refine r_icmp_le (pc := 104) (tgt := 110) hR (dc dt_X11_shift 59 rfl) (by decide) q4 (w32_in _) (fun hc => ?_) (fun hc => ?_)
        · replace h := ite_t hc h
          refine r_iconst (pc := 110) hR (dc dt_X11_shift 62 rfl) ?_
          refine r_istore (pc := 111) (L' := [some (.ref (ad 83)), some (iv v1), some (iv v2), some (iv v3), some (iv v4), some (iv v5), some (iv 0)]) hR (dc dt_X11_shift 63 rfl) (by decide) rfl rfl ?_
          refine lp_L11_shift_113 hR hT q1 q2 q3 q4 q5 (fun m_147 h => ?_) FU 0 m (rg_c rfl) h
          show Go 147 [some (.ref (ad 83)), none, none, some (iv v3), some (iv v4), some (iv v5), none] [] m_147
          refine r_iconst (pc := 147) hR (dc dt_X11_shift 83 rfl) ?_
          refine r_istore (pc := 148) (L' := [some (.ref (ad 83)), none, none, some (iv v3), some (iv v4), some (iv v5), some (iv 0)]) hR (dc dt_X11_shift 84 rfl) (by decide) rfl rfl ?_
          refine lp_L11_shift_150 hR hT q3 q4 q5 FU 0 m_147 (rg_c rfl) h
        replace h := ite_f hc h
        refine r_bipush (pc := 107) hR (dc dt_X11_shift 60 rfl) (by decide) ?_
        exact r_iret hT (dc dt_X11_shift 61 rfl) (congrArg Prod.fst (Option.some.inj h)) (congrArg Prod.snd (Option.some.inj h)) (rg_c rfl)
      replace h := ite_f hc h
      refine r_bipush (pc := 63) hR (dc dt_X11_shift 36 rfl) (by decide) ?_
      exact r_iret hT (dc dt_X11_shift 37 rfl) (congrArg Prod.fst (Option.some.inj h)) (congrArg Prod.snd (Option.some.inj h)) (rg_c rfl)
    replace h := ite_f hc h
    refine r_bipush (pc := 36) hR (dc dt_X11_shift 20 rfl) (by decide) ?_
    exact r_iret hT (dc dt_X11_shift 21 rfl) (congrArg Prod.fst (Option.some.inj h)) (congrArg Prod.snd (Option.some.inj h)) (rg_c rfl)
  replace h := ite_f hc h
  refine r_iconst (pc := 14) hR (dc dt_X11_shift 6 rfl) ?_
  exact r_iret hT (dc dt_X11_shift 7 rfl) (congrArg Prod.fst (Option.some.inj h)) (congrArg Prod.snd (Option.some.inj h)) (rg_c rfl)
def tb_X11_taken : List (Nat × (Instr × Nat)) := [(0, (.iload_n 1, 1)), (1, (.invokestatic 206, 3)), (4, (.ifCond .eq 13, 3)), (7, (.iload_n 2, 1)), (8, (.iconst 0, 1)), (9, (.bipush 6, 2)), (11, (.invokestatic 134, 3)), (14, (.ifCond .ne 5, 3)), (17, (.iconst (-1), 1)), (18, (.ireturn, 1)), (19, (.aload_n 0, 1)), (20, (.getfield 117, 3)), (23, (.iload_n 1, 1)), (24, (.iaload, 1)), (25, (.iconst (-1), 1)), (26, (.if_icmp .ne 6, 3)), (29, (.bipush (-11), 2)), (31, (.ireturn, 1)), (32, (.aload_n 0, 1)), (33, (.getfield 117, 3)), (36, (.iload_n 1, 1)), (37, (.iaload, 1)), (38, (.ifCond .lt 35, 3)), (41, (.aload_n 0, 1)), (42, (.getfield 108, 3)), (45, (.aload_n 0, 1)), (46, (.getfield 117, 3)), (49, (.iload_n 1, 1)), (50, (.iaload, 1)), (51, (.iaload, 1)), (52, (.iload_n 2, 1)), (53, (.invokestatic 381, 3)), (56, (.ifCond .eq 17, 3)), (59, (.aload_n 0, 1)), (60, (.getfield 108, 3)), (63, (.aload_n 0, 1)), (64, (.getfield 117, 3)), (67, (.iload_n 1, 1)), (68, (.iaload, 1)), (69, (.iaload, 1)), (70, (.goto 5, 3)), (73, (.bipush (-12), 2)), (75, (.ireturn, 1))]
set_option maxRecDepth 100000 in
theorem dt_X11_taken : (tb_X11_taken.all fun q => decide (decode cX11_taken q.1 = .ok q.2)) = true := by decide +kernel
set_option maxRecDepth 100000 in
set_option maxHeartbeats 4000000 in
theorem ok_F11_taken {m : Mem}  {v1 v2 : Int} (q1 : inR v1) (q2 : inR v2) {out : Int} (h : F11_taken m v1 v2 = some out) : CT l G cy ad tt yX11_taken cX11_taken 3 (some .int) 2 [.ref (ad 83), iv v1, iv v2] m (some (iv out)) (inR out) m := by
  refine CT_of (by decide) (Nat.le_of_ble_eq_true rfl) (fun Go hR hT => ?_)
  replace hR : RS l G cy ad tt RX11 cX11_taken 3 2 Go := hR
  show Go 0 [some (.ref (ad 83)), some (iv v1), some (iv v2)] [] m
  unfold F11_taken at h
  refine r_iload_n (pc := 0) hR (dc dt_X11_taken 0 rfl) rfl ?_
  refine r_callS (pc := 1) (rest := []) hR (dc dt_X11_taken 1 rfl) cl_X11_206 (ok_F11_isShelf q1) (by decide) rfl (Nat.le_of_ble_eq_true rfl) rfl (fun q1r => ?_)
  show Go 4 [some (.ref (ad 83)), some (iv v1), some (iv v2)] [iv (F11_isShelf v1)] m
  refine r_if_eq (pc := 4) (tgt := 17) hR (dc dt_X11_taken 2 rfl) (by decide) (inZ_R q1r) (fun hc => ?_) (fun hc => ?_)
  · replace h := ite_t hc h
    refine r_iconst (pc := 17) hR (dc dt_X11_taken 8 rfl) ?_
    exact r_iret hT (dc dt_X11_taken 9 rfl) (Option.some.inj h) rfl (rg_c rfl)
  replace h := ite_f hc h
  refine r_iload_n (pc := 7) hR (dc dt_X11_taken 3 rfl) rfl ?_
  refine r_iconst (pc := 8) hR (dc dt_X11_taken 4 rfl) ?_
  refine r_bipush (pc := 9) hR (dc dt_X11_taken 5 rfl) (by decide) ?_
  refine r_callS (pc := 11) (rest := []) hR (dc dt_X11_taken 6 rfl) cl_X11_134 (ok_F11_in q2 (rg_c rfl) (rg_c rfl)) (by decide) rfl (Nat.le_of_ble_eq_true rfl) rfl (fun q11r => ?_)
  show Go 14 [some (.ref (ad 83)), some (iv v1), some (iv v2)] [iv (F11_in v2 0 6)] m
  refine r_if_ne (pc := 14) (tgt := 19) hR (dc dt_X11_taken 7 rfl) (by decide) (inZ_R q11r) (fun hc => ?_) (fun hc => ?_)
  · replace h := ite_t hc h
    refine r_aload_n (pc := 19) hR (dc dt_X11_taken 10 rfl) rfl ?_
    refine r_getr (pc := 20) (k2 := 119) hR (dc dt_X11_taken 11 rfl) fl_X11_117 tc_83 rfl ?_
    refine r_iload_n (pc := 23) hR (dc dt_X11_taken 12 rfl) rfl ?_
    obtain ⟨g1, h⟩ := gd_some h
    refine r_iald (pc := 24) hR (dc dt_X11_taken 13 rfl) tc_119 g1 q1 ?_
    refine r_iconst (pc := 25) hR (dc dt_X11_taken 14 rfl) ?_
    refine r_icmp_ne (pc := 26) (tgt := 32) hR (dc dt_X11_taken 15 rfl) (by decide) (rd_in _ _ _) (rg_c rfl) (fun hc => ?_) (fun hc => ?_)
    · replace h := ite_t hc h
      refine r_aload_n (pc := 32) hR (dc dt_X11_taken 18 rfl) rfl ?_
      refine r_getr (pc := 33) (k2 := 119) hR (dc dt_X11_taken 19 rfl) fl_X11_117 tc_83 rfl ?_
      refine r_iload_n (pc := 36) hR (dc dt_X11_taken 20 rfl) rfl ?_
      obtain ⟨g1, h⟩ := gd_some h
      refine r_iald (pc := 37) hR (dc dt_X11_taken 21 rfl) tc_119 g1 q1 ?_
      refine jn_e h (fun (K : Option Int) => K = some out → Go 73 [none, none, none] [] m) (fun h => ?_) (fun K73 J73 h => ?_)
      · refine r_bipush (pc := 73) hR (dc dt_X11_taken 41 rfl) (by decide) ?_
        exact r_iret hT (dc dt_X11_taken 42 rfl) (Option.some.inj h) rfl (rg_c rfl)
      refine r_if_lt (pc := 38) (tgt := 73) hR (dc dt_X11_taken 22 rfl) (by decide) (rd_in _ _ _) (fun hc => ?_) (fun hc => ?_)
      · replace h := ite_t hc h
        refine r_weak (L' := [none, none, none]) hR ⟨Or.inl rfl, Or.inl rfl, Or.inl rfl, trivial⟩ ?_
        exact J73 h
      replace h := ite_f hc h
      refine r_aload_n (pc := 41) hR (dc dt_X11_taken 23 rfl) rfl ?_
      refine r_getr (pc := 42) (k2 := 116) hR (dc dt_X11_taken 24 rfl) fl_X11_108 tc_83 rfl ?_
      refine r_aload_n (pc := 45) hR (dc dt_X11_taken 25 rfl) rfl ?_
      refine r_getr (pc := 46) (k2 := 119) hR (dc dt_X11_taken 26 rfl) fl_X11_117 tc_83 rfl ?_
      refine r_iload_n (pc := 49) hR (dc dt_X11_taken 27 rfl) rfl ?_
      obtain ⟨g1, h⟩ := gd_some h
      refine r_iald (pc := 50) hR (dc dt_X11_taken 28 rfl) tc_119 g1 q1 ?_
      obtain ⟨g1, h⟩ := gd_some h
      refine r_iald (pc := 51) hR (dc dt_X11_taken 29 rfl) tc_116 g1 (rd_in _ _ _) ?_
      refine r_iload_n (pc := 52) hR (dc dt_X11_taken 30 rfl) rfl ?_
      refine r_callS (pc := 53) (rest := []) hR (dc dt_X11_taken 31 rfl) cl_X11_381 (ok_F11_isUnder (rd_in _ _ _) q2) (by decide) rfl (Nat.le_of_ble_eq_true rfl) rfl (fun q53r => ?_)
      show Go 56 [some (.ref (ad 83)), some (iv v1), some (iv v2)] [iv (F11_isUnder (rd m 116 (rd m 119 v1)) v2)] m
      refine r_if_eq (pc := 56) (tgt := 73) hR (dc dt_X11_taken 32 rfl) (by decide) (inZ_R q53r) (fun hc => ?_) (fun hc => ?_)
      · replace h := ite_t hc h
        refine r_weak (L' := [none, none, none]) hR ⟨Or.inl rfl, Or.inl rfl, Or.inl rfl, trivial⟩ ?_
        exact J73 h
      replace h := ite_f hc h
      refine r_aload_n (pc := 59) hR (dc dt_X11_taken 33 rfl) rfl ?_
      refine r_getr (pc := 60) (k2 := 116) hR (dc dt_X11_taken 34 rfl) fl_X11_108 tc_83 rfl ?_
      refine r_aload_n (pc := 63) hR (dc dt_X11_taken 35 rfl) rfl ?_
      refine r_getr (pc := 64) (k2 := 119) hR (dc dt_X11_taken 36 rfl) fl_X11_117 tc_83 rfl ?_
      refine r_iload_n (pc := 67) hR (dc dt_X11_taken 37 rfl) rfl ?_
      obtain ⟨g1, h⟩ := gd_some h
      refine r_iald (pc := 68) hR (dc dt_X11_taken 38 rfl) tc_119 g1 q1 ?_
      obtain ⟨g1, h⟩ := gd_some h
      refine r_iald (pc := 69) hR (dc dt_X11_taken 39 rfl) tc_116 g1 (rd_in _ _ _) ?_
      refine r_goto (pc := 70) (tgt := 75) hR (dc dt_X11_taken 40 rfl) (by decide) ?_
      exact r_iret hT (dc dt_X11_taken 42 rfl) (Option.some.inj h) rfl (rd_in _ _ _)
    replace h := ite_f hc h
    refine r_bipush (pc := 29) hR (dc dt_X11_taken 16 rfl) (by decide) ?_
    exact r_iret hT (dc dt_X11_taken 17 rfl) (Option.some.inj h) rfl (rg_c rfl)
  replace h := ite_f hc h
  refine r_iconst (pc := 17) hR (dc dt_X11_taken 8 rfl) ?_
  exact r_iret hT (dc dt_X11_taken 9 rfl) (Option.some.inj h) rfl (rg_c rfl)
end SIM
