section SIM
variable {l : Launch} {G : va_G} {cy ad tt : Nat → Nat}
def tb_X8_take : List (Nat × (Instr × Nat)) := [(0, (.aload_n 0, 1)), (1, (.getfield 18, 3)), (4, (.iload_n 1, 1)), (5, (.iadd, 1)), (6, (.bipush 120, 2)), (8, (.if_icmp .le 6, 3)), (11, (.bipush (-3), 2)), (13, (.ireturn, 1)), (14, (.iconst 0, 1)), (15, (.istore_n 3, 1)), (16, (.iload_n 3, 1)), (17, (.iload_n 1, 1)), (18, (.if_icmp .ge 38, 3)), (21, (.aload_n 0, 1)), (22, (.getfield 11, 3)), (25, (.aload_n 0, 1)), (26, (.getfield 18, 3)), (29, (.iload_n 2, 1)), (30, (.bipush 8, 2)), (32, (.iload_n 3, 1)), (33, (.imul, 1)), (34, (.ishr, 1)), (35, (.sipush 255, 3)), (38, (.iand, 1)), (39, (.iastore, 1)), (40, (.aload_n 0, 1)), (41, (.dup, 1)), (42, (.getfield 18, 3)), (45, (.iconst 1, 1)), (46, (.iadd, 1)), (47, (.putfield 18, 3)), (50, (.iinc 3 1, 3)), (53, (.goto (-37), 3)), (56, (.aload_n 0, 1)), (57, (.getfield 18, 3)), (60, (.ireturn, 1))]
set_option maxRecDepth 100000 in
theorem dt_X8_take : (tb_X8_take.all fun q => decide (decode cX8_take q.1 = .ok q.2)) = true := by decide +kernel
set_option maxRecDepth 100000 in
set_option maxHeartbeats 4000000 in
theorem lp_L8_take_16 {Go : Nat → List (Option Value) → List Value → Mem → Prop} (hR : RS l G cy ad tt RX8 cX8_take 4 0 Go) {out : Int × Mem} (hT : RT cX8_take (some (iv out.1)) (inR out.1) out.2 (some .int) Go) {v1 : Int} {v2 : Int} (qv1 : inR v1) (qv2 : inR v2) {k56 : Mem → Option (Int × Mem)} (hk56 : ∀ (m : Mem), k56 m = some out → Go 56 [some (.ref (ad 1)), none, none, none] [] m) : ∀ (n : Nat) (v3 : Int) (m : Mem), inR v3 → L8_take_16 v1 v2 k56 n v3 m = some out → Go 16 [some (.ref (ad 1)), some (iv v1), some (iv v2), some (iv v3)] [] m := by
  intro n
  induction n with
  | zero =>
    intro v3 m qv3 h
    cases h
  | succ n ih =>
    intro v3 m qv3 h
    rw [L8_take_16] at h
    refine r_iload_n (pc := 16) hR (dc dt_X8_take 10 rfl) rfl ?_
    refine r_iload_n (pc := 17) hR (dc dt_X8_take 11 rfl) rfl ?_
    refine r_icmp_ge (pc := 18) (tgt := 56) hR (dc dt_X8_take 12 rfl) (by decide) qv3 qv1 (fun hc => ?_) (fun hc => ?_)
    · replace h := ite_t hc h
      refine r_weak (L' := [some (.ref (ad 1)), none, none, none]) hR ⟨Or.inr rfl, Or.inl rfl, Or.inl rfl, Or.inl rfl, trivial⟩ ?_
      exact hk56 m h
    replace h := ite_f hc h
    refine r_aload_n (pc := 21) hR (dc dt_X8_take 13 rfl) rfl ?_
    refine r_getr (pc := 22) (k2 := 2) hR (dc dt_X8_take 14 rfl) fl_X8_11 tc_1 rfl ?_
    refine r_aload_n (pc := 25) hR (dc dt_X8_take 15 rfl) rfl ?_
    refine r_geti (pc := 26) hR (dc dt_X8_take 16 rfl) fl_X8_18 tc_1 rfl ?_
    refine r_iload_n (pc := 29) hR (dc dt_X8_take 17 rfl) rfl ?_
    refine r_bipush (pc := 30) hR (dc dt_X8_take 18 rfl) (by decide) ?_
    refine r_iload_n (pc := 32) hR (dc dt_X8_take 19 rfl) rfl ?_
    refine r_imul (pc := 33) hR (dc dt_X8_take 20 rfl) ?_
    refine r_ishr (pc := 34) hR (dc dt_X8_take 21 rfl) ?_
    refine r_sipush (pc := 35) hR (dc dt_X8_take 22 rfl) (by decide) ?_
    refine r_iand (pc := 38) hR (dc dt_X8_take 23 rfl) ?_
    obtain ⟨g1, h⟩ := gd_some h
    refine r_iast (pc := 39) hR (dc dt_X8_take 24 rfl) tc_2 g1 (rd_in _ _ _) ?_
    replace h := stw_e h
    generalize wr m 2 (rd m 1 1) (band (shr v2 (w32 (8 * v3))) 255) = m39 at h ⊢
    refine r_aload_n (pc := 40) hR (dc dt_X8_take 25 rfl) rfl ?_
    refine r_dup (pc := 41) hR (dc dt_X8_take 26 rfl) rfl ?_
    refine r_geti (pc := 42) hR (dc dt_X8_take 27 rfl) fl_X8_18 tc_1 rfl ?_
    refine r_iconst (pc := 45) hR (dc dt_X8_take 28 rfl) ?_
    refine r_iadd (pc := 46) hR (dc dt_X8_take 29 rfl) ?_
    refine r_puti (pc := 47) hR (dc dt_X8_take 30 rfl) fl_X8_18 tc_1 rfl rfl rfl ?_
    replace h := stw_e h
    generalize wr m39 1 1 (w32 ((rd m39 1 1) + 1)) = m47 at h ⊢
    refine r_iinc (pc := 50) (L' := [some (.ref (ad 1)), some (iv v1), some (iv v2), some (iv (w32 (v3 + 1)))]) hR (dc dt_X8_take 31 rfl) rfl (by decide) rfl rfl ?_
    refine r_goto (pc := 53) (tgt := 16) hR (dc dt_X8_take 32 rfl) (by decide) ?_
    exact ih (w32 (v3 + 1)) m47 (w32_in _) h
set_option maxRecDepth 100000 in
set_option maxHeartbeats 4000000 in
theorem ok_F8_take {m : Mem}  {v1 v2 : Int} (q1 : inR v1) (q2 : inR v2) {out : Int × Mem} (h : F8_take m v1 v2 = some out) : CT l G cy ad tt yX8_take cX8_take 4 (some .int) 0 [.ref (ad 1), iv v1, iv v2] m (some (iv out.1)) (inR out.1) out.2 := by
  refine CT_of (by decide) (Nat.le_of_ble_eq_true rfl) (fun Go hR hT => ?_)
  replace hR : RS l G cy ad tt RX8 cX8_take 4 0 Go := hR
  show Go 0 [some (.ref (ad 1)), some (iv v1), some (iv v2), none] [] m
  unfold F8_take at h
  refine r_aload_n (pc := 0) hR (dc dt_X8_take 0 rfl) rfl ?_
  refine r_geti (pc := 1) hR (dc dt_X8_take 1 rfl) fl_X8_18 tc_1 rfl ?_
  refine r_iload_n (pc := 4) hR (dc dt_X8_take 2 rfl) rfl ?_
  refine r_iadd (pc := 5) hR (dc dt_X8_take 3 rfl) ?_
  refine r_bipush (pc := 6) hR (dc dt_X8_take 4 rfl) (by decide) ?_
  refine r_icmp_le (pc := 8) (tgt := 14) hR (dc dt_X8_take 5 rfl) (by decide) (w32_in _) (rg_c rfl) (fun hc => ?_) (fun hc => ?_)
  · replace h := ite_t hc h
    refine r_iconst (pc := 14) hR (dc dt_X8_take 8 rfl) ?_
    refine r_istore_n (pc := 15) (L' := [some (.ref (ad 1)), some (iv v1), some (iv v2), some (iv 0)]) hR (dc dt_X8_take 9 rfl) (by decide) rfl rfl ?_
    refine lp_L8_take_16 hR hT q1 q2 (fun m_56 h => ?_) FU 0 m (rg_c rfl) h
    show Go 56 [some (.ref (ad 1)), none, none, none] [] m_56
    refine r_aload_n (pc := 56) hR (dc dt_X8_take 33 rfl) rfl ?_
    refine r_geti (pc := 57) hR (dc dt_X8_take 34 rfl) fl_X8_18 tc_1 rfl ?_
    exact r_iret hT (dc dt_X8_take 35 rfl) (congrArg Prod.fst (Option.some.inj h)) (congrArg Prod.snd (Option.some.inj h)) (rd_in _ _ _)
  replace h := ite_f hc h
  refine r_bipush (pc := 11) hR (dc dt_X8_take 6 rfl) (by decide) ?_
  exact r_iret hT (dc dt_X8_take 7 rfl) (congrArg Prod.fst (Option.some.inj h)) (congrArg Prod.snd (Option.some.inj h)) (rg_c rfl)
def tb_X10_feed : List (Nat × (Instr × Nat)) := [(0, (.iload_n 1, 1)), (1, (.iconst 1, 1)), (2, (.if_icmp .lt 8, 3)), (5, (.iload_n 1, 1)), (6, (.iconst 4, 1)), (7, (.if_icmp .le 7, 3)), (10, (.iconst (-1), 1)), (11, (.goto 12, 3)), (14, (.aload_n 0, 1)), (15, (.getfield 10, 3)), (18, (.iload_n 1, 1)), (19, (.iload_n 2, 1)), (20, (.invokevirtual 76, 3)), (23, (.ireturn, 1))]
set_option maxRecDepth 100000 in
theorem dt_X10_feed : (tb_X10_feed.all fun q => decide (decode cX10_feed q.1 = .ok q.2)) = true := by decide +kernel
set_option maxRecDepth 100000 in
set_option maxHeartbeats 4000000 in
theorem ok_F10_feed {m : Mem}  {v1 v2 : Int} (q1 : inR v1) (q2 : inR v2) {out : Int × Mem} (h : F10_feed m v1 v2 = some out) : CT l G cy ad tt yX10_feed cX10_feed 3 (some .int) 1 [.ref (ad 0), iv v1, iv v2] m (some (iv out.1)) (inR out.1) out.2 := by
  refine CT_of (by decide) (Nat.le_of_ble_eq_true rfl) (fun Go hR hT => ?_)
  replace hR : RS l G cy ad tt RX10 cX10_feed 3 1 Go := hR
  show Go 0 [some (.ref (ad 0)), some (iv v1), some (iv v2)] [] m
  unfold F10_feed at h
  refine r_iload_n (pc := 0) hR (dc dt_X10_feed 0 rfl) rfl ?_
  refine r_iconst (pc := 1) hR (dc dt_X10_feed 1 rfl) ?_
  refine jn_e h (fun (K : Option (Int × Mem)) => K = some out → Go 10 [none, none, none] [] m) (fun h => ?_) (fun K10 J10 h => ?_)
  · refine r_iconst (pc := 10) hR (dc dt_X10_feed 6 rfl) ?_
    refine r_goto (pc := 11) (tgt := 23) hR (dc dt_X10_feed 7 rfl) (by decide) ?_
    exact r_iret hT (dc dt_X10_feed 13 rfl) (congrArg Prod.fst (Option.some.inj h)) (congrArg Prod.snd (Option.some.inj h)) (rg_c rfl)
  refine r_icmp_lt (pc := 2) (tgt := 10) hR (dc dt_X10_feed 2 rfl) (by decide) q1 (rg_c rfl) (fun hc => ?_) (fun hc => ?_)
  · replace h := ite_t hc h
    refine r_weak (L' := [none, none, none]) hR ⟨Or.inl rfl, Or.inl rfl, Or.inl rfl, trivial⟩ ?_
    exact J10 h
  replace h := ite_f hc h
  refine r_iload_n (pc := 5) hR (dc dt_X10_feed 3 rfl) rfl ?_
  refine r_iconst (pc := 6) hR (dc dt_X10_feed 4 rfl) ?_
  refine r_icmp_le (pc := 7) (tgt := 14) hR (dc dt_X10_feed 5 rfl) (by decide) q1 (rg_c rfl) (fun hc => ?_) (fun hc => ?_)
  · replace h := ite_t hc h
    refine r_aload_n (pc := 14) hR (dc dt_X10_feed 8 rfl) rfl ?_
    refine r_getr (pc := 15) (k2 := 1) hR (dc dt_X10_feed 9 rfl) fl_X10_10 tc_0 rfl ?_
    refine r_iload_n (pc := 18) hR (dc dt_X10_feed 10 rfl) rfl ?_
    refine r_iload_n (pc := 19) hR (dc dt_X10_feed 11 rfl) rfl ?_
    obtain ⟨r20, m20, e20, h⟩ := b2_some h
    refine r_callV (pc := 20) (rest := []) hR (dc dt_X10_feed 12 rfl) cl_X10_76 tc_1 rfl (ok_F8_take q1 q2 e20) (by decide) rfl (Nat.le_of_ble_eq_true rfl) rfl (fun q20r => ?_)
    show Go 23 [some (.ref (ad 0)), some (iv v1), some (iv v2)] [iv r20] m20
    exact r_iret hT (dc dt_X10_feed 13 rfl) (congrArg Prod.fst (Option.some.inj h)) (congrArg Prod.snd (Option.some.inj h)) q20r
  replace h := ite_f hc h
  refine r_weak (L' := [none, none, none]) hR ⟨Or.inl rfl, Or.inl rfl, Or.inl rfl, trivial⟩ ?_
  exact J10 h
def tb_J7_fill_53178 : List (Nat × (Instr × Nat)) := [(0, (.iconst 0, 1)), (1, (.istore_n 2, 1)), (2, (.aload_n 0, 1)), (3, (.arraylength, 1)), (4, (.istore_n 3, 1)), (5, (.iload_n 2, 1)), (6, (.iload_n 3, 1)), (7, (.if_icmp .ge 13, 3)), (10, (.aload_n 0, 1)), (11, (.iload_n 2, 1)), (12, (.iload_n 1, 1)), (13, (.iastore, 1)), (14, (.iinc 2 1, 3)), (17, (.goto (-12), 3)), (20, (.return_, 1))]
set_option maxRecDepth 100000 in
theorem dt_J7_fill_53178 : (tb_J7_fill_53178.all fun q => decide (decode cJ7_fill_53178 q.1 = .ok q.2)) = true := by decide +kernel
set_option maxRecDepth 100000 in
set_option maxHeartbeats 4000000 in
theorem lp_LJ7_fill_53178_5 {Go : Nat → List (Option Value) → List Value → Mem → Prop} (hR : RS l G cy ad tt RJ7 cJ7_fill_53178 4 0 Go) {out : Mem} (hT : RT cJ7_fill_53178 none True out none Go) {a0 : Nat} {len : Nat} (ha0 : tab[a0]? = some (.inl (0, len))) (hn : len < 2147483648) {v1 : Int} {v3 : Int} (qv1 : inR v1) (qv3 : inR v3) : ∀ (n : Nat) (v2 : Int) (m : Mem), inR v2 → LJ7_fill_53178_5 a0 len v1 v3 n v2 m = some out → Go 5 [some (.ref (ad a0)), some (iv v1), some (iv v2), some (iv v3)] [] m := by
  intro n
  induction n with
  | zero =>
    intro v2 m qv2 h
    cases h
  | succ n ih =>
    intro v2 m qv2 h
    rw [LJ7_fill_53178_5] at h
    refine r_iload_n (pc := 5) hR (dc dt_J7_fill_53178 5 rfl) rfl ?_
    refine r_iload_n (pc := 6) hR (dc dt_J7_fill_53178 6 rfl) rfl ?_
    refine r_icmp_ge (pc := 7) (tgt := 20) hR (dc dt_J7_fill_53178 7 rfl) (by decide) qv2 qv3 (fun hc => ?_) (fun hc => ?_)
    · replace h := ite_t hc h
      exact r_vret hT (dc dt_J7_fill_53178 14 rfl) (Option.some.inj h)
    replace h := ite_f hc h
    refine r_aload_n (pc := 10) hR (dc dt_J7_fill_53178 8 rfl) rfl ?_
    refine r_iload_n (pc := 11) hR (dc dt_J7_fill_53178 9 rfl) rfl ?_
    refine r_iload_n (pc := 12) hR (dc dt_J7_fill_53178 10 rfl) rfl ?_
    obtain ⟨g1, h⟩ := gd_some h
    refine r_iast (pc := 13) hR (dc dt_J7_fill_53178 11 rfl) ha0 g1 qv2 ?_
    replace h := stw_e h
    generalize wr m a0 v2 v1 = m13 at h ⊢
    refine r_iinc (pc := 14) (L' := [some (.ref (ad a0)), some (iv v1), some (iv (w32 (v2 + 1))), some (iv v3)]) hR (dc dt_J7_fill_53178 12 rfl) rfl (by decide) rfl rfl ?_
    refine r_goto (pc := 17) (tgt := 5) hR (dc dt_J7_fill_53178 13 rfl) (by decide) ?_
    exact ih (w32 (v2 + 1)) m13 (w32_in _) h
set_option maxRecDepth 100000 in
set_option maxHeartbeats 4000000 in
theorem ok_FJ7_fill_53178 {m : Mem} {a0 : Nat} {len : Nat} {v1 : Int} (ha0 : tab[a0]? = some (.inl (0, len))) (hn : len < 2147483648) (q1 : inR v1) {out : Mem} (h : FJ7_fill_53178 m a0 len v1 = some out) : CT l G cy ad tt yJ7_fill_53178 cJ7_fill_53178 4 none 0 [.ref (ad a0), iv v1] m none True out := by
  refine CT_of (by decide) (Nat.le_of_ble_eq_true rfl) (fun Go hR hT => ?_)
  replace hR : RS l G cy ad tt RJ7 cJ7_fill_53178 4 0 Go := hR
  show Go 0 [some (.ref (ad a0)), some (iv v1), none, none] [] m
  unfold FJ7_fill_53178 at h
  refine r_iconst (pc := 0) hR (dc dt_J7_fill_53178 0 rfl) ?_
  refine r_istore_n (pc := 1) (L' := [some (.ref (ad a0)), some (iv v1), some (iv 0), none]) hR (dc dt_J7_fill_53178 1 rfl) (by decide) rfl rfl ?_
  refine r_aload_n (pc := 2) hR (dc dt_J7_fill_53178 2 rfl) rfl ?_
  refine r_alen (pc := 3) hR (dc dt_J7_fill_53178 3 rfl) ha0 (by decide) ?_
  refine r_istore_n (pc := 4) (L' := [some (.ref (ad a0)), some (iv v1), some (iv 0), some (iv (len : Int))]) hR (dc dt_J7_fill_53178 4 rfl) (by decide) rfl rfl ?_
  refine lp_LJ7_fill_53178_5 hR hT ha0 hn q1 (nat_in hn) FU 0 m (rg_c rfl) h
def tb_X8_sign : List (Nat × (Instr × Nat)) := [(0, (.aload_n 0, 1)), (1, (.getfield 22, 3)), (4, (.ifCond .lt 35, 3)), (7, (.aload_n 0, 1)), (8, (.getfield 22, 3)), (11, (.aload_n 0, 1)), (12, (.getfield 18, 3)), (15, (.if_icmp .ge 24, 3)), (18, (.aload_n 0, 1)), (19, (.getfield 22, 3)), (22, (.bipush 120, 2)), (24, (.if_icmp .ge 15, 3)), (27, (.aload_n 0, 1)), (28, (.getfield 11, 3)), (31, (.aload_n 0, 1)), (32, (.getfield 22, 3)), (35, (.iaload, 1)), (36, (.goto 4, 3)), (39, (.iconst (-1), 1)), (40, (.ireturn, 1))]
set_option maxRecDepth 100000 in
theorem dt_X8_sign : (tb_X8_sign.all fun q => decide (decode cX8_sign q.1 = .ok q.2)) = true := by decide +kernel
set_option maxRecDepth 100000 in
set_option maxHeartbeats 4000000 in
theorem ok_F8_sign {m : Mem}   {out : Int} (h : F8_sign m = some out) : CT l G cy ad tt yX8_sign cX8_sign 1 (some .int) 0 [.ref (ad 1)] m (some (iv out)) (inR out) m := by
  refine CT_of (by decide) (Nat.le_of_ble_eq_true rfl) (fun Go hR hT => ?_)
  replace hR : RS l G cy ad tt RX8 cX8_sign 1 0 Go := hR
  show Go 0 [some (.ref (ad 1))] [] m
  unfold F8_sign at h
  refine r_aload_n (pc := 0) hR (dc dt_X8_sign 0 rfl) rfl ?_
  refine r_geti (pc := 1) hR (dc dt_X8_sign 1 rfl) fl_X8_22 tc_1 rfl ?_
  refine jn_e h (fun (K : Option Int) => K = some out → Go 39 [none] [] m) (fun h => ?_) (fun K39 J39 h => ?_)
  · refine r_iconst (pc := 39) hR (dc dt_X8_sign 18 rfl) ?_
    exact r_iret hT (dc dt_X8_sign 19 rfl) (Option.some.inj h) rfl (rg_c rfl)
  refine r_if_lt (pc := 4) (tgt := 39) hR (dc dt_X8_sign 2 rfl) (by decide) (rd_in _ _ _) (fun hc => ?_) (fun hc => ?_)
  · replace h := ite_t hc h
    refine r_weak (L' := [none]) hR ⟨Or.inl rfl, trivial⟩ ?_
    exact J39 h
  replace h := ite_f hc h
  refine r_aload_n (pc := 7) hR (dc dt_X8_sign 3 rfl) rfl ?_
  refine r_geti (pc := 8) hR (dc dt_X8_sign 4 rfl) fl_X8_22 tc_1 rfl ?_
  refine r_aload_n (pc := 11) hR (dc dt_X8_sign 5 rfl) rfl ?_
  refine r_geti (pc := 12) hR (dc dt_X8_sign 6 rfl) fl_X8_18 tc_1 rfl ?_
  refine r_icmp_ge (pc := 15) (tgt := 39) hR (dc dt_X8_sign 7 rfl) (by decide) (rd_in _ _ _) (rd_in _ _ _) (fun hc => ?_) (fun hc => ?_)
  · replace h := ite_t hc h
    refine r_weak (L' := [none]) hR ⟨Or.inl rfl, trivial⟩ ?_
    exact J39 h
  replace h := ite_f hc h
  refine r_aload_n (pc := 18) hR (dc dt_X8_sign 8 rfl) rfl ?_
  refine r_geti (pc := 19) hR (dc dt_X8_sign 9 rfl) fl_X8_22 tc_1 rfl ?_
  refine r_bipush (pc := 22) hR (dc dt_X8_sign 10 rfl) (by decide) ?_
  refine r_icmp_ge (pc := 24) (tgt := 39) hR (dc dt_X8_sign 11 rfl) (by decide) (rd_in _ _ _) (rg_c rfl) (fun hc => ?_) (fun hc => ?_)
  · replace h := ite_t hc h
    refine r_weak (L' := [none]) hR ⟨Or.inl rfl, trivial⟩ ?_
    exact J39 h
  replace h := ite_f hc h
  refine r_aload_n (pc := 27) hR (dc dt_X8_sign 12 rfl) rfl ?_
  refine r_getr (pc := 28) (k2 := 2) hR (dc dt_X8_sign 13 rfl) fl_X8_11 tc_1 rfl ?_
  refine r_aload_n (pc := 31) hR (dc dt_X8_sign 14 rfl) rfl ?_
  refine r_geti (pc := 32) hR (dc dt_X8_sign 15 rfl) fl_X8_22 tc_1 rfl ?_
  obtain ⟨g1, h⟩ := gd_some h
  refine r_iald (pc := 35) hR (dc dt_X8_sign 16 rfl) tc_2 g1 (rd_in _ _ _) ?_
  refine r_goto (pc := 36) (tgt := 40) hR (dc dt_X8_sign 17 rfl) (by decide) ?_
  exact r_iret hT (dc dt_X8_sign 19 rfl) (Option.some.inj h) rfl (rd_in _ _ _)
def tb_X8_number : List (Nat × (Instr × Nat)) := [(0, (.iconst (-1), 1)), (1, (.istore_n 2, 1)), (2, (.iconst 0, 1)), (3, (.istore_n 3, 1)), (4, (.iload_n 3, 1)), (5, (.iload_n 1, 1)), (6, (.if_icmp .ge 54, 3)), (9, (.aload_n 0, 1)), (10, (.invokevirtual 54, 3)), (13, (.bipush 48, 2)), (15, (.if_icmp .lt 45, 3)), (18, (.aload_n 0, 1)), (19, (.invokevirtual 54, 3)), (22, (.bipush 57, 2)), (24, (.if_icmp .gt 36, 3)), (27, (.iload_n 2, 1)), (28, (.iconst 0, 1)), (29, (.invokestatic 64, 3)), (32, (.bipush 10, 2)), (34, (.imul, 1)), (35, (.aload_n 0, 1)), (36, (.invokevirtual 54, 3)), (39, (.iadd, 1)), (40, (.bipush 48, 2)), (42, (.isub, 1)), (43, (.istore_n 2, 1)), (44, (.aload_n 0, 1)), (45, (.dup, 1)), (46, (.getfield 22, 3)), (49, (.iconst 1, 1)), (50, (.iadd, 1)), (51, (.putfield 22, 3)), (54, (.iinc 3 1, 3)), (57, (.goto (-53), 3)), (60, (.iload_n 2, 1)), (61, (.ireturn, 1))]
set_option maxRecDepth 100000 in
theorem dt_X8_number : (tb_X8_number.all fun q => decide (decode cX8_number q.1 = .ok q.2)) = true := by decide +kernel
set_option maxRecDepth 100000 in
set_option maxHeartbeats 4000000 in
theorem lp_L8_number_4 {Go : Nat → List (Option Value) → List Value → Mem → Prop} (hR : RS l G cy ad tt RX8 cX8_number 4 1 Go) {out : Int × Mem} (hT : RT cX8_number (some (iv out.1)) (inR out.1) out.2 (some .int) Go) {v1 : Int} (qv1 : inR v1) : ∀ (n : Nat) (v2 : Int) (v3 : Int) (m : Mem), inR v2 → inR v3 → L8_number_4 v1 n v2 v3 m = some out → Go 4 [some (.ref (ad 1)), some (iv v1), some (iv v2), some (iv v3)] [] m := by
  intro n
  induction n with
  | zero =>
    intro v2 v3 m qv2 qv3 h
    cases h
  | succ n ih =>
    intro v2 v3 m qv2 qv3 h
    rw [L8_number_4] at h
    refine r_iload_n (pc := 4) hR (dc dt_X8_number 4 rfl) rfl ?_
    refine r_iload_n (pc := 5) hR (dc dt_X8_number 5 rfl) rfl ?_
    refine r_icmp_ge (pc := 6) (tgt := 60) hR (dc dt_X8_number 6 rfl) (by decide) qv3 qv1 (fun hc => ?_) (fun hc => ?_)
    · replace h := ite_t hc h
      refine r_iload_n (pc := 60) hR (dc dt_X8_number 34 rfl) rfl ?_
      exact r_iret hT (dc dt_X8_number 35 rfl) (congrArg Prod.fst (Option.some.inj h)) (congrArg Prod.snd (Option.some.inj h)) qv2
    replace h := ite_f hc h
    refine r_aload_n (pc := 9) hR (dc dt_X8_number 7 rfl) rfl ?_
    obtain ⟨r10, e10, h⟩ := b1_some h
    refine r_callV (pc := 10) (rest := []) hR (dc dt_X8_number 8 rfl) cl_X8_54 tc_1 rfl (ok_F8_sign  e10) (by decide) rfl (Nat.le_of_ble_eq_true rfl) rfl (fun q10r => ?_)
    show Go 13 [some (.ref (ad 1)), some (iv v1), some (iv v2), some (iv v3)] [iv r10] m
    refine r_bipush (pc := 13) hR (dc dt_X8_number 9 rfl) (by decide) ?_
    refine r_icmp_lt (pc := 15) (tgt := 60) hR (dc dt_X8_number 10 rfl) (by decide) q10r (rg_c rfl) (fun hc => ?_) (fun hc => ?_)
    · replace h := ite_t hc h
      refine r_iload_n (pc := 60) hR (dc dt_X8_number 34 rfl) rfl ?_
      exact r_iret hT (dc dt_X8_number 35 rfl) (congrArg Prod.fst (Option.some.inj h)) (congrArg Prod.snd (Option.some.inj h)) qv2
    replace h := ite_f hc h
    refine r_aload_n (pc := 18) hR (dc dt_X8_number 11 rfl) rfl ?_
    obtain ⟨r19, e19, h⟩ := b1_some h
    refine r_callV (pc := 19) (rest := []) hR (dc dt_X8_number 12 rfl) cl_X8_54 tc_1 rfl (ok_F8_sign  e19) (by decide) rfl (Nat.le_of_ble_eq_true rfl) rfl (fun q19r => ?_)
    show Go 22 [some (.ref (ad 1)), some (iv v1), some (iv v2), some (iv v3)] [iv r19] m
    refine r_bipush (pc := 22) hR (dc dt_X8_number 13 rfl) (by decide) ?_
    refine r_icmp_gt (pc := 24) (tgt := 60) hR (dc dt_X8_number 14 rfl) (by decide) q19r (rg_c rfl) (fun hc => ?_) (fun hc => ?_)
    · replace h := ite_t hc h
      refine r_iload_n (pc := 60) hR (dc dt_X8_number 34 rfl) rfl ?_
      exact r_iret hT (dc dt_X8_number 35 rfl) (congrArg Prod.fst (Option.some.inj h)) (congrArg Prod.snd (Option.some.inj h)) qv2
    replace h := ite_f hc h
    refine r_iload_n (pc := 27) hR (dc dt_X8_number 15 rfl) rfl ?_
    refine r_iconst (pc := 28) hR (dc dt_X8_number 16 rfl) ?_
    refine r_max (pc := 29) hR (dc dt_X8_number 17 rfl) mw_X8_64 qv2 (rg_c rfl) (Nat.le_of_ble_eq_true rfl) (by decide) ?_
    refine r_bipush (pc := 32) hR (dc dt_X8_number 18 rfl) (by decide) ?_
    refine r_imul (pc := 34) hR (dc dt_X8_number 19 rfl) ?_
    refine r_aload_n (pc := 35) hR (dc dt_X8_number 20 rfl) rfl ?_
    obtain ⟨r36, e36, h⟩ := b1_some h
    refine r_callV (pc := 36) (rest := [iv (w32 ((imx v2 0) * 10))]) hR (dc dt_X8_number 21 rfl) cl_X8_54 tc_1 rfl (ok_F8_sign  e36) (by decide) rfl (Nat.le_of_ble_eq_true rfl) rfl (fun q36r => ?_)
    show Go 39 [some (.ref (ad 1)), some (iv v1), some (iv v2), some (iv v3)] [iv r36, iv (w32 ((imx v2 0) * 10))] m
    refine r_iadd (pc := 39) hR (dc dt_X8_number 22 rfl) ?_
    refine r_bipush (pc := 40) hR (dc dt_X8_number 23 rfl) (by decide) ?_
    refine r_isub (pc := 42) hR (dc dt_X8_number 24 rfl) ?_
    refine r_istore_n (pc := 43) (L' := [some (.ref (ad 1)), some (iv v1), some (iv (w32 ((w32 ((w32 ((imx v2 0) * 10)) + r36)) - 48))), some (iv v3)]) hR (dc dt_X8_number 25 rfl) (by decide) rfl rfl ?_
    refine r_aload_n (pc := 44) hR (dc dt_X8_number 26 rfl) rfl ?_
    refine r_dup (pc := 45) hR (dc dt_X8_number 27 rfl) rfl ?_
    refine r_geti (pc := 46) hR (dc dt_X8_number 28 rfl) fl_X8_22 tc_1 rfl ?_
    refine r_iconst (pc := 49) hR (dc dt_X8_number 29 rfl) ?_
    refine r_iadd (pc := 50) hR (dc dt_X8_number 30 rfl) ?_
    refine r_puti (pc := 51) hR (dc dt_X8_number 31 rfl) fl_X8_22 tc_1 rfl rfl rfl ?_
    replace h := stw_e h
    generalize wr m 1 6 (w32 ((rd m 1 6) + 1)) = m51 at h ⊢
    refine r_iinc (pc := 54) (L' := [some (.ref (ad 1)), some (iv v1), some (iv (w32 ((w32 ((w32 ((imx v2 0) * 10)) + r36)) - 48))), some (iv (w32 (v3 + 1)))]) hR (dc dt_X8_number 32 rfl) rfl (by decide) rfl rfl ?_
    refine r_goto (pc := 57) (tgt := 4) hR (dc dt_X8_number 33 rfl) (by decide) ?_
    exact ih (w32 ((w32 ((w32 ((imx v2 0) * 10)) + r36)) - 48)) (w32 (v3 + 1)) m51 (w32_in _) (w32_in _) h
set_option maxRecDepth 100000 in
set_option maxHeartbeats 4000000 in
theorem ok_F8_number {m : Mem}  {v1 : Int} (q1 : inR v1) {out : Int × Mem} (h : F8_number m v1 = some out) : CT l G cy ad tt yX8_number cX8_number 4 (some .int) 1 [.ref (ad 1), iv v1] m (some (iv out.1)) (inR out.1) out.2 := by
  refine CT_of (by decide) (Nat.le_of_ble_eq_true rfl) (fun Go hR hT => ?_)
  replace hR : RS l G cy ad tt RX8 cX8_number 4 1 Go := hR
  show Go 0 [some (.ref (ad 1)), some (iv v1), none, none] [] m
  unfold F8_number at h
  refine r_iconst (pc := 0) hR (dc dt_X8_number 0 rfl) ?_
  refine r_istore_n (pc := 1) (L' := [some (.ref (ad 1)), some (iv v1), some (iv (-1)), none]) hR (dc dt_X8_number 1 rfl) (by decide) rfl rfl ?_
  refine r_iconst (pc := 2) hR (dc dt_X8_number 2 rfl) ?_
  refine r_istore_n (pc := 3) (L' := [some (.ref (ad 1)), some (iv v1), some (iv (-1)), some (iv 0)]) hR (dc dt_X8_number 3 rfl) (by decide) rfl rfl ?_
  refine lp_L8_number_4 hR hT q1 FU (-1) 0 m (rg_c rfl) (rg_c rfl) h
def tb_X8_readDays : List (Nat × (Instr × Nat)) := [(0, (.aload_n 0, 1)), (1, (.aload_n 0, 1)), (2, (.iconst 3, 1)), (3, (.invokevirtual 45, 3)), (6, (.putfield 48, 3)), (9, (.aload_n 0, 1)), (10, (.getfield 48, 3)), (13, (.ifCond .ge 8, 3)), (16, (.aload_n 0, 1)), (17, (.getfield 22, 3)), (20, (.ireturn, 1)), (21, (.aload_n 0, 1)), (22, (.aload_n 0, 1)), (23, (.getfield 48, 3)), (26, (.putfield 51, 3)), (29, (.aload_n 0, 1)), (30, (.invokevirtual 54, 3)), (33, (.bipush 45, 2)), (35, (.if_icmp .eq 5, 3)), (38, (.iconst (-1), 1)), (39, (.ireturn, 1)), (40, (.aload_n 0, 1)), (41, (.dup, 1)), (42, (.getfield 22, 3)), (45, (.iconst 1, 1)), (46, (.iadd, 1)), (47, (.putfield 22, 3)), (50, (.aload_n 0, 1)), (51, (.getfield 22, 3)), (54, (.istore_n 1, 1)), (55, (.aload_n 0, 1)), (56, (.aload_n 0, 1)), (57, (.iconst 3, 1)), (58, (.invokevirtual 45, 3)), (61, (.putfield 51, 3)), (64, (.aload_n 0, 1)), (65, (.getfield 51, 3)), (68, (.aload_n 0, 1)), (69, (.getfield 48, 3)), (72, (.if_icmp .ge 7, 3)), (75, (.iload_n 1, 1)), (76, (.goto 4, 3)), (79, (.iconst (-1), 1)), (80, (.ireturn, 1))]
set_option maxRecDepth 100000 in
theorem dt_X8_readDays : (tb_X8_readDays.all fun q => decide (decode cX8_readDays q.1 = .ok q.2)) = true := by decide +kernel
set_option maxRecDepth 100000 in
set_option maxHeartbeats 4000000 in
theorem ok_F8_readDays {m : Mem}   {out : Int × Mem} (h : F8_readDays m = some out) : CT l G cy ad tt yX8_readDays cX8_readDays 2 (some .int) 2 [.ref (ad 1)] m (some (iv out.1)) (inR out.1) out.2 := by
  refine CT_of (by decide) (Nat.le_of_ble_eq_true rfl) (fun Go hR hT => ?_)
  replace hR : RS l G cy ad tt RX8 cX8_readDays 2 2 Go := hR
  show Go 0 [some (.ref (ad 1)), none] [] m
  unfold F8_readDays at h
  refine r_aload_n (pc := 0) hR (dc dt_X8_readDays 0 rfl) rfl ?_
  refine r_aload_n (pc := 1) hR (dc dt_X8_readDays 1 rfl) rfl ?_
  refine r_iconst (pc := 2) hR (dc dt_X8_readDays 2 rfl) ?_
  obtain ⟨r3, m3, e3, h⟩ := b2_some h
  refine r_callV (pc := 3) (rest := [.ref (ad 1)]) hR (dc dt_X8_readDays 3 rfl) cl_X8_45 tc_1 rfl (ok_F8_number (rg_c rfl) e3) (by decide) rfl (Nat.le_of_ble_eq_true rfl) rfl (fun q3r => ?_)
  show Go 6 [some (.ref (ad 1)), none] [iv r3, .ref (ad 1)] m3
  refine r_puti (pc := 6) hR (dc dt_X8_readDays 4 rfl) fl_X8_48 tc_1 rfl rfl rfl ?_
  replace h := stw_e h
  generalize wr m3 1 2 r3 = m6 at h ⊢
  refine r_aload_n (pc := 9) hR (dc dt_X8_readDays 5 rfl) rfl ?_
  refine r_geti (pc := 10) hR (dc dt_X8_readDays 6 rfl) fl_X8_48 tc_1 rfl ?_
  refine r_if_ge (pc := 13) (tgt := 21) hR (dc dt_X8_readDays 7 rfl) (by decide) (rd_in _ _ _) (fun hc => ?_) (fun hc => ?_)
  · replace h := ite_t hc h
    refine r_aload_n (pc := 21) hR (dc dt_X8_readDays 11 rfl) rfl ?_
    refine r_aload_n (pc := 22) hR (dc dt_X8_readDays 12 rfl) rfl ?_
    refine r_geti (pc := 23) hR (dc dt_X8_readDays 13 rfl) fl_X8_48 tc_1 rfl ?_
    refine r_puti (pc := 26) hR (dc dt_X8_readDays 14 rfl) fl_X8_51 tc_1 rfl rfl rfl ?_
    replace h := stw_e h
    generalize wr m6 1 3 (rd m6 1 2) = m26 at h ⊢
    refine r_aload_n (pc := 29) hR (dc dt_X8_readDays 15 rfl) rfl ?_
    obtain ⟨r30, e30, h⟩ := b1_some h
    refine r_callV (pc := 30) (rest := []) hR (dc dt_X8_readDays 16 rfl) cl_X8_54 tc_1 rfl (ok_F8_sign  e30) (by decide) rfl (Nat.le_of_ble_eq_true rfl) rfl (fun q30r => ?_)
    show Go 33 [some (.ref (ad 1)), none] [iv r30] m26
    refine r_bipush (pc := 33) hR (dc dt_X8_readDays 17 rfl) (by decide) ?_
    refine r_icmp_eq (pc := 35) (tgt := 40) hR (dc dt_X8_readDays 18 rfl) (by decide) q30r (rg_c rfl) (fun hc => ?_) (fun hc => ?_)
    · replace h := ite_t hc h
      refine r_aload_n (pc := 40) hR (dc dt_X8_readDays 21 rfl) rfl ?_
      refine r_dup (pc := 41) hR (dc dt_X8_readDays 22 rfl) rfl ?_
      refine r_geti (pc := 42) hR (dc dt_X8_readDays 23 rfl) fl_X8_22 tc_1 rfl ?_
      refine r_iconst (pc := 45) hR (dc dt_X8_readDays 24 rfl) ?_
      refine r_iadd (pc := 46) hR (dc dt_X8_readDays 25 rfl) ?_
      refine r_puti (pc := 47) hR (dc dt_X8_readDays 26 rfl) fl_X8_22 tc_1 rfl rfl rfl ?_
      replace h := stw_e h
      generalize wr m26 1 6 (w32 ((rd m26 1 6) + 1)) = m47 at h ⊢
      refine r_aload_n (pc := 50) hR (dc dt_X8_readDays 27 rfl) rfl ?_
      refine r_geti (pc := 51) hR (dc dt_X8_readDays 28 rfl) fl_X8_22 tc_1 rfl ?_
      refine r_istore_n (pc := 54) (L' := [some (.ref (ad 1)), some (iv (rd m47 1 6))]) hR (dc dt_X8_readDays 29 rfl) (by decide) rfl rfl ?_
      refine r_aload_n (pc := 55) hR (dc dt_X8_readDays 30 rfl) rfl ?_
      refine r_aload_n (pc := 56) hR (dc dt_X8_readDays 31 rfl) rfl ?_
      refine r_iconst (pc := 57) hR (dc dt_X8_readDays 32 rfl) ?_
      obtain ⟨r58, m58, e58, h⟩ := b2_some h
      refine r_callV (pc := 58) (rest := [.ref (ad 1)]) hR (dc dt_X8_readDays 33 rfl) cl_X8_45 tc_1 rfl (ok_F8_number (rg_c rfl) e58) (by decide) rfl (Nat.le_of_ble_eq_true rfl) rfl (fun q58r => ?_)
      show Go 61 [some (.ref (ad 1)), some (iv (rd m47 1 6))] [iv r58, .ref (ad 1)] m58
      refine r_puti (pc := 61) hR (dc dt_X8_readDays 34 rfl) fl_X8_51 tc_1 rfl rfl rfl ?_
      replace h := stw_e h
      generalize wr m58 1 3 r58 = m61 at h ⊢
      refine r_aload_n (pc := 64) hR (dc dt_X8_readDays 35 rfl) rfl ?_
      refine r_geti (pc := 65) hR (dc dt_X8_readDays 36 rfl) fl_X8_51 tc_1 rfl ?_
      refine r_aload_n (pc := 68) hR (dc dt_X8_readDays 37 rfl) rfl ?_
      refine r_geti (pc := 69) hR (dc dt_X8_readDays 38 rfl) fl_X8_48 tc_1 rfl ?_
      refine r_icmp_ge (pc := 72) (tgt := 79) hR (dc dt_X8_readDays 39 rfl) (by decide) (rd_in _ _ _) (rd_in _ _ _) (fun hc => ?_) (fun hc => ?_)
      · replace h := ite_t hc h
        refine r_iconst (pc := 79) hR (dc dt_X8_readDays 42 rfl) ?_
        exact r_iret hT (dc dt_X8_readDays 43 rfl) (congrArg Prod.fst (Option.some.inj h)) (congrArg Prod.snd (Option.some.inj h)) (rg_c rfl)
      replace h := ite_f hc h
      refine r_iload_n (pc := 75) hR (dc dt_X8_readDays 40 rfl) rfl ?_
      refine r_goto (pc := 76) (tgt := 80) hR (dc dt_X8_readDays 41 rfl) (by decide) ?_
      exact r_iret hT (dc dt_X8_readDays 43 rfl) (congrArg Prod.fst (Option.some.inj h)) (congrArg Prod.snd (Option.some.inj h)) (rd_in _ _ _)
    replace h := ite_f hc h
    refine r_iconst (pc := 38) hR (dc dt_X8_readDays 19 rfl) ?_
    exact r_iret hT (dc dt_X8_readDays 20 rfl) (congrArg Prod.fst (Option.some.inj h)) (congrArg Prod.snd (Option.some.inj h)) (rg_c rfl)
  replace h := ite_f hc h
  refine r_aload_n (pc := 16) hR (dc dt_X8_readDays 8 rfl) rfl ?_
  refine r_geti (pc := 17) hR (dc dt_X8_readDays 9 rfl) fl_X8_22 tc_1 rfl ?_
  exact r_iret hT (dc dt_X8_readDays 10 rfl) (congrArg Prod.fst (Option.some.inj h)) (congrArg Prod.snd (Option.some.inj h)) (rd_in _ _ _)
def tb_X10_isClause : List (Nat × (Instr × Nat)) := [(0, (.iload_n 0, 1)), (1, (.ifCond .lt 13, 3)), (4, (.iload_n 0, 1)), (5, (.bipush 16, 2)), (7, (.if_icmp .ge 7, 3)), (10, (.iconst 1, 1)), (11, (.goto 4, 3)), (14, (.iconst 0, 1)), (15, (.ireturn, 1))]
set_option maxRecDepth 100000 in
theorem dt_X10_isClause : (tb_X10_isClause.all fun q => decide (decode cX10_isClause q.1 = .ok q.2)) = true := by decide +kernel
set_option maxRecDepth 100000 in
set_option maxHeartbeats 4000000 in
theorem ok_F10_isClause {m : Mem}  {v0 : Int} (q0 : inR v0) : CT l G cy ad tt yX10_isClause cX10_isClause 1 (some .boolean) 0 [iv v0] m (some (iv (F10_isClause v0))) (inZ (F10_isClause v0)) m := by
  refine CT_of (by decide) (Nat.le_of_ble_eq_true rfl) (fun Go hR hT => ?_)
  replace hR : RS l G cy ad tt RX10 cX10_isClause 1 0 Go := hR
  show Go 0 [some (iv v0)] [] m
  obtain ⟨out, h⟩ : ∃ out, F10_isClause v0 = out := ⟨_, rfl⟩
  rw [h] at hT
  unfold F10_isClause at h
  refine r_iload_n (pc := 0) hR (dc dt_X10_isClause 0 rfl) rfl ?_
  refine jn_e h (fun (K : Int) => K = out → Go 14 [none] [] m) (fun h => ?_) (fun K14 J14 h => ?_)
  · refine r_iconst (pc := 14) hR (dc dt_X10_isClause 7 rfl) ?_
    exact r_zret hT (dc dt_X10_isClause 8 rfl) h rfl (Or.inl rfl)
  refine r_if_lt (pc := 1) (tgt := 14) hR (dc dt_X10_isClause 1 rfl) (by decide) q0 (fun hc => ?_) (fun hc => ?_)
  · replace h := ite_t hc h
    refine r_weak (L' := [none]) hR ⟨Or.inl rfl, trivial⟩ ?_
    exact J14 h
  replace h := ite_f hc h
  refine r_iload_n (pc := 4) hR (dc dt_X10_isClause 2 rfl) rfl ?_
  refine r_bipush (pc := 5) hR (dc dt_X10_isClause 3 rfl) (by decide) ?_
  refine r_icmp_ge (pc := 7) (tgt := 14) hR (dc dt_X10_isClause 4 rfl) (by decide) q0 (rg_c rfl) (fun hc => ?_) (fun hc => ?_)
  · replace h := ite_t hc h
    refine r_weak (L' := [none]) hR ⟨Or.inl rfl, trivial⟩ ?_
    exact J14 h
  replace h := ite_f hc h
  refine r_iconst (pc := 10) hR (dc dt_X10_isClause 5 rfl) ?_
  refine r_goto (pc := 11) (tgt := 15) hR (dc dt_X10_isClause 6 rfl) (by decide) ?_
  exact r_zret hT (dc dt_X10_isClause 8 rfl) h rfl (Or.inr rfl)
def tb_X10_isForm : List (Nat × (Instr × Nat)) := [(0, (.iload_n 0, 1)), (1, (.ifCond .lt 8, 3)), (4, (.iload_n 0, 1)), (5, (.iconst 4, 1)), (6, (.if_icmp .lt 9, 3)), (9, (.iload_n 0, 1)), (10, (.bipush 9, 2)), (12, (.if_icmp .ne 7, 3)), (15, (.iconst 1, 1)), (16, (.goto 4, 3)), (19, (.iconst 0, 1)), (20, (.ireturn, 1))]
set_option maxRecDepth 100000 in
theorem dt_X10_isForm : (tb_X10_isForm.all fun q => decide (decode cX10_isForm q.1 = .ok q.2)) = true := by decide +kernel
set_option maxRecDepth 100000 in
set_option maxHeartbeats 4000000 in
theorem ok_F10_isForm {m : Mem}  {v0 : Int} (q0 : inR v0) : CT l G cy ad tt yX10_isForm cX10_isForm 1 (some .boolean) 0 [iv v0] m (some (iv (F10_isForm v0))) (inZ (F10_isForm v0)) m := by
  refine CT_of (by decide) (Nat.le_of_ble_eq_true rfl) (fun Go hR hT => ?_)
  replace hR : RS l G cy ad tt RX10 cX10_isForm 1 0 Go := hR
  show Go 0 [some (iv v0)] [] m
  obtain ⟨out, h⟩ : ∃ out, F10_isForm v0 = out := ⟨_, rfl⟩
  rw [h] at hT
  unfold F10_isForm at h
  refine r_iload_n (pc := 0) hR (dc dt_X10_isForm 0 rfl) rfl ?_
  refine jn_e h (fun (K : Int) => K = out → Go 15 [none] [] m) (fun h => ?_) (fun K15 J15 h => ?_)
  · refine r_iconst (pc := 15) hR (dc dt_X10_isForm 8 rfl) ?_
    refine r_goto (pc := 16) (tgt := 20) hR (dc dt_X10_isForm 9 rfl) (by decide) ?_
    exact r_zret hT (dc dt_X10_isForm 11 rfl) h rfl (Or.inr rfl)
  refine jn_e h (fun (K : Int) => K = out → Go 9 [some (iv v0)] [] m) (fun h => ?_) (fun K9 J9 h => ?_)
  · refine r_iload_n (pc := 9) hR (dc dt_X10_isForm 5 rfl) rfl ?_
    refine r_bipush (pc := 10) hR (dc dt_X10_isForm 6 rfl) (by decide) ?_
    refine r_icmp_ne (pc := 12) (tgt := 19) hR (dc dt_X10_isForm 7 rfl) (by decide) q0 (rg_c rfl) (fun hc => ?_) (fun hc => ?_)
    · replace h := ite_t hc h
      refine r_iconst (pc := 19) hR (dc dt_X10_isForm 10 rfl) ?_
      exact r_zret hT (dc dt_X10_isForm 11 rfl) h rfl (Or.inl rfl)
    replace h := ite_f hc h
    refine r_weak (L' := [none]) hR ⟨Or.inl rfl, trivial⟩ ?_
    exact J15 h
  refine r_if_lt (pc := 1) (tgt := 9) hR (dc dt_X10_isForm 1 rfl) (by decide) q0 (fun hc => ?_) (fun hc => ?_)
  · replace h := ite_t hc h
    exact J9 h
  replace h := ite_f hc h
  refine r_iload_n (pc := 4) hR (dc dt_X10_isForm 2 rfl) rfl ?_
  refine r_iconst (pc := 5) hR (dc dt_X10_isForm 3 rfl) ?_
  refine r_icmp_lt (pc := 6) (tgt := 15) hR (dc dt_X10_isForm 4 rfl) (by decide) q0 (rg_c rfl) (fun hc => ?_) (fun hc => ?_)
  · replace h := ite_t hc h
    refine r_weak (L' := [none]) hR ⟨Or.inl rfl, trivial⟩ ?_
    exact J15 h
  replace h := ite_f hc h
  exact J9 h
def tb_X8_readClauses : List (Nat × (Instr × Nat)) := [(0, (.iconst 0, 1)), (1, (.istore_n 1, 1)), (2, (.iconst 0, 1)), (3, (.istore_n 2, 1)), (4, (.iload_n 2, 1)), (5, (.bipush 16, 2)), (7, (.if_icmp .gt 135, 3)), (10, (.aload_n 0, 1)), (11, (.invokevirtual 54, 3)), (14, (.bipush 44, 2)), (16, (.if_icmp .ne 126, 3)), (19, (.aload_n 0, 1)), (20, (.dup, 1)), (21, (.getfield 22, 3)), (24, (.iconst 1, 1)), (25, (.iadd, 1)), (26, (.putfield 22, 3)), (29, (.aload_n 0, 1)), (30, (.invokevirtual 54, 3)), (33, (.bipush 97, 2)), (35, (.isub, 1)), (36, (.istore_n 3, 1)), (37, (.iload_n 3, 1)), (38, (.invokestatic 57, 3)), (41, (.ifCond .eq 11, 3)), (44, (.iload_n 1, 1)), (45, (.iload_n 3, 1)), (46, (.ishr, 1)), (47, (.iconst 1, 1)), (48, (.iand, 1)), (49, (.ifCond .eq 8, 3)), (52, (.aload_n 0, 1)), (53, (.getfield 22, 3)), (56, (.ireturn, 1)), (57, (.iload_n 1, 1)), (58, (.iconst 1, 1)), (59, (.iload_n 3, 1)), (60, (.ishl, 1)), (61, (.ior, 1)), (62, (.istore_n 1, 1)), (63, (.aload_n 0, 1)), (64, (.dup, 1)), (65, (.getfield 22, 3)), (68, (.iconst 1, 1)), (69, (.iadd, 1)), (70, (.putfield 22, 3)), (73, (.aload_n 0, 1)), (74, (.invokevirtual 54, 3)), (77, (.bipush 63, 2)), (79, (.if_icmp .ne 8, 3)), (82, (.bipush 9, 2)), (84, (.goto 10, 3)), (87, (.aload_n 0, 1)), (88, (.invokevirtual 54, 3)), (91, (.bipush 48, 2)), (93, (.isub, 1)), (94, (.istore 4, 2)), (96, (.iload 4, 2)), (98, (.invokestatic 61, 3)), (101, (.ifCond .eq 12, 3)), (104, (.aload_n 0, 1)), (105, (.invokevirtual 54, 3)), (108, (.bipush 57, 2)), (110, (.if_icmp .ne 8, 3)), (113, (.aload_n 0, 1)), (114, (.getfield 22, 3)), (117, (.ireturn, 1)), (118, (.aload_n 0, 1)), (119, (.getfield 15, 3)), (122, (.iload_n 3, 1)), (123, (.iload 4, 2)), (125, (.iastore, 1)), (126, (.aload_n 0, 1)), (127, (.dup, 1)), (128, (.getfield 22, 3)), (131, (.iconst 1, 1)), (132, (.iadd, 1)), (133, (.putfield 22, 3)), (136, (.iinc 2 1, 3)), (139, (.goto (-135), 3)), (142, (.iconst (-1), 1)), (143, (.ireturn, 1))]
set_option maxRecDepth 100000 in
theorem dt_X8_readClauses : (tb_X8_readClauses.all fun q => decide (decode cX8_readClauses q.1 = .ok q.2)) = true := by decide +kernel
set_option maxRecDepth 100000 in
set_option maxHeartbeats 4000000 in
theorem lp_L8_readClauses_4 {Go : Nat → List (Option Value) → List Value → Mem → Prop} (hR : RS l G cy ad tt RX8 cX8_readClauses 5 1 Go) {out : Int × Mem} (hT : RT cX8_readClauses (some (iv out.1)) (inR out.1) out.2 (some .int) Go) {k52 : Mem → Option (Int × Mem)} {k113 : Mem → Option (Int × Mem)} (hk52 : ∀ (m : Mem), k52 m = some out → Go 52 [some (.ref (ad 1)), none, none, none, none] [] m) (hk113 : ∀ (m : Mem), k113 m = some out → Go 113 [some (.ref (ad 1)), none, none, none, none] [] m) : ∀ (n : Nat) (v1 : Int) (v2 : Int) (m : Mem), inR v1 → inR v2 → L8_readClauses_4 k52 k113 n v1 v2 m = some out → Go 4 [some (.ref (ad 1)), some (iv v1), some (iv v2), none, none] [] m := by
  intro n
  induction n with
  | zero =>
    intro v1 v2 m qv1 qv2 h
    cases h
  | succ n ih =>
    intro v1 v2 m qv1 qv2 h
    rw [L8_readClauses_4] at h
    refine r_iload_n (pc := 4) hR (dc dt_X8_readClauses 4 rfl) rfl ?_
    refine r_bipush (pc := 5) hR (dc dt_X8_readClauses 5 rfl) (by decide) ?_
    refine r_icmp_gt (pc := 7) (tgt := 142) hR (dc dt_X8_readClauses 6 rfl) (by decide) qv2 (rg_c rfl) (fun hc => ?_) (fun hc => ?_)
    · replace h := ite_t hc h
      refine r_iconst (pc := 142) hR (dc dt_X8_readClauses 80 rfl) ?_
      exact r_iret hT (dc dt_X8_readClauses 81 rfl) (congrArg Prod.fst (Option.some.inj h)) (congrArg Prod.snd (Option.some.inj h)) (rg_c rfl)
    replace h := ite_f hc h
    refine r_aload_n (pc := 10) hR (dc dt_X8_readClauses 7 rfl) rfl ?_
    obtain ⟨r11, e11, h⟩ := b1_some h
    refine r_callV (pc := 11) (rest := []) hR (dc dt_X8_readClauses 8 rfl) cl_X8_54 tc_1 rfl (ok_F8_sign  e11) (by decide) rfl (Nat.le_of_ble_eq_true rfl) rfl (fun q11r => ?_)
    show Go 14 [some (.ref (ad 1)), some (iv v1), some (iv v2), none, none] [iv r11] m
    refine r_bipush (pc := 14) hR (dc dt_X8_readClauses 9 rfl) (by decide) ?_
    refine r_icmp_ne (pc := 16) (tgt := 142) hR (dc dt_X8_readClauses 10 rfl) (by decide) q11r (rg_c rfl) (fun hc => ?_) (fun hc => ?_)
    · replace h := ite_t hc h
      refine r_iconst (pc := 142) hR (dc dt_X8_readClauses 80 rfl) ?_
      exact r_iret hT (dc dt_X8_readClauses 81 rfl) (congrArg Prod.fst (Option.some.inj h)) (congrArg Prod.snd (Option.some.inj h)) (rg_c rfl)
    replace h := ite_f hc h
    refine r_aload_n (pc := 19) hR (dc dt_X8_readClauses 11 rfl) rfl ?_
    refine r_dup (pc := 20) hR (dc dt_X8_readClauses 12 rfl) rfl ?_
    refine r_geti (pc := 21) hR (dc dt_X8_readClauses 13 rfl) fl_X8_22 tc_1 rfl ?_
    refine r_iconst (pc := 24) hR (dc dt_X8_readClauses 14 rfl) ?_
    refine r_iadd (pc := 25) hR (dc dt_X8_readClauses 15 rfl) ?_
    refine r_puti (pc := 26) hR (dc dt_X8_readClauses 16 rfl) fl_X8_22 tc_1 rfl rfl rfl ?_
    replace h := stw_e h
    generalize wr m 1 6 (w32 ((rd m 1 6) + 1)) = m26 at h ⊢
    refine r_aload_n (pc := 29) hR (dc dt_X8_readClauses 17 rfl) rfl ?_
    obtain ⟨r30, e30, h⟩ := b1_some h
    refine r_callV (pc := 30) (rest := []) hR (dc dt_X8_readClauses 18 rfl) cl_X8_54 tc_1 rfl (ok_F8_sign  e30) (by decide) rfl (Nat.le_of_ble_eq_true rfl) rfl (fun q30r => ?_)
    show Go 33 [some (.ref (ad 1)), some (iv v1), some (iv v2), none, none] [iv r30] m26
    refine r_bipush (pc := 33) hR (dc dt_X8_readClauses 19 rfl) (by decide) ?_
    refine r_isub (pc := 35) hR (dc dt_X8_readClauses 20 rfl) ?_
    refine r_istore_n (pc := 36) (L' := [some (.ref (ad 1)), some (iv v1), some (iv v2), some (iv (w32 (r30 - 97))), none]) hR (dc dt_X8_readClauses 21 rfl) (by decide) rfl rfl ?_
    refine r_iload_n (pc := 37) hR (dc dt_X8_readClauses 22 rfl) rfl ?_
    refine r_callN (pc := 38) (rest := []) hR (dc dt_X8_readClauses 23 rfl) cn_X8_57 (ok_F10_isClause (w32_in _)) (by decide) rfl (Nat.le_of_ble_eq_true rfl) rfl (fun q38r => ?_)
    show Go 41 [some (.ref (ad 1)), some (iv v1), some (iv v2), some (iv (w32 (r30 - 97))), none] [iv (F10_isClause (w32 (r30 - 97)))] m26
    refine r_if_eq (pc := 41) (tgt := 52) hR (dc dt_X8_readClauses 24 rfl) (by decide) (inZ_R q38r) (fun hc => ?_) (fun hc => ?_)
    · replace h := ite_t hc h
      refine r_weak (L' := [some (.ref (ad 1)), none, none, none, none]) hR ⟨Or.inr rfl, Or.inl rfl, Or.inl rfl, Or.inl rfl, Or.inr rfl, trivial⟩ ?_
      exact hk52 m26 h
    replace h := ite_f hc h
    refine r_iload_n (pc := 44) hR (dc dt_X8_readClauses 25 rfl) rfl ?_
    refine r_iload_n (pc := 45) hR (dc dt_X8_readClauses 26 rfl) rfl ?_
    refine r_ishr (pc := 46) hR (dc dt_X8_readClauses 27 rfl) ?_
    refine r_iconst (pc := 47) hR (dc dt_X8_readClauses 28 rfl) ?_
    refine r_iand (pc := 48) hR (dc dt_X8_readClauses 29 rfl) ?_
    refine r_if_eq (pc := 49) (tgt := 57) hR (dc dt_X8_readClauses 30 rfl) (by decide) (ti_in _) (fun hc => ?_) (fun hc => ?_)
    · replace h := ite_t hc h
      refine r_iload_n (pc := 57) hR (dc dt_X8_readClauses 34 rfl) rfl ?_
      refine r_iconst (pc := 58) hR (dc dt_X8_readClauses 35 rfl) ?_
      refine r_iload_n (pc := 59) hR (dc dt_X8_readClauses 36 rfl) rfl ?_
      refine r_ishl (pc := 60) hR (dc dt_X8_readClauses 37 rfl) ?_
      refine r_ior (pc := 61) hR (dc dt_X8_readClauses 38 rfl) ?_
      refine r_istore_n (pc := 62) (L' := [some (.ref (ad 1)), some (iv (bor v1 (shl 1 (w32 (r30 - 97))))), some (iv v2), some (iv (w32 (r30 - 97))), none]) hR (dc dt_X8_readClauses 39 rfl) (by decide) rfl rfl ?_
      refine r_aload_n (pc := 63) hR (dc dt_X8_readClauses 40 rfl) rfl ?_
      refine r_dup (pc := 64) hR (dc dt_X8_readClauses 41 rfl) rfl ?_
      refine r_geti (pc := 65) hR (dc dt_X8_readClauses 42 rfl) fl_X8_22 tc_1 rfl ?_
      refine r_iconst (pc := 68) hR (dc dt_X8_readClauses 43 rfl) ?_
      refine r_iadd (pc := 69) hR (dc dt_X8_readClauses 44 rfl) ?_
      refine r_puti (pc := 70) hR (dc dt_X8_readClauses 45 rfl) fl_X8_22 tc_1 rfl rfl rfl ?_
      replace h := stw_e h
      generalize wr m26 1 6 (w32 ((rd m26 1 6) + 1)) = m70 at h ⊢
      refine r_aload_n (pc := 73) hR (dc dt_X8_readClauses 46 rfl) rfl ?_
      obtain ⟨r74, e74, h⟩ := b1_some h
      refine r_callV (pc := 74) (rest := []) hR (dc dt_X8_readClauses 47 rfl) cl_X8_54 tc_1 rfl (ok_F8_sign  e74) (by decide) rfl (Nat.le_of_ble_eq_true rfl) rfl (fun q74r => ?_)
      show Go 77 [some (.ref (ad 1)), some (iv (bor v1 (shl 1 (w32 (r30 - 97))))), some (iv v2), some (iv (w32 (r30 - 97))), none] [iv r74] m70
      refine r_bipush (pc := 77) hR (dc dt_X8_readClauses 48 rfl) (by decide) ?_
      refine jn_e h (fun (K : Int → Option (Int × Mem)) => ∀ (x94 : Int), inR x94 → K x94 = some out → Go 94 [some (.ref (ad 1)), some (iv (bor v1 (shl 1 (w32 (r30 - 97))))), some (iv v2), some (iv (w32 (r30 - 97))), none] [iv x94] m70) (fun x94 qx94 h => ?_) (fun K94 J94 h => ?_)
      · refine r_istore (pc := 94) (L' := [some (.ref (ad 1)), some (iv (bor v1 (shl 1 (w32 (r30 - 97))))), some (iv v2), some (iv (w32 (r30 - 97))), some (iv x94)]) hR (dc dt_X8_readClauses 56 rfl) (by decide) rfl rfl ?_
        refine r_iload (pc := 96) hR (dc dt_X8_readClauses 57 rfl) rfl ?_
        refine r_callN (pc := 98) (rest := []) hR (dc dt_X8_readClauses 58 rfl) cn_X8_61 (ok_F10_isForm qx94) (by decide) rfl (Nat.le_of_ble_eq_true rfl) rfl (fun q98r => ?_)
        show Go 101 [some (.ref (ad 1)), some (iv (bor v1 (shl 1 (w32 (r30 - 97))))), some (iv v2), some (iv (w32 (r30 - 97))), some (iv x94)] [iv (F10_isForm x94)] m70
        refine r_if_eq (pc := 101) (tgt := 113) hR (dc dt_X8_readClauses 59 rfl) (by decide) (inZ_R q98r) (fun hc => ?_) (fun hc => ?_)
        · replace h := ite_t hc h
          refine r_weak (L' := [some (.ref (ad 1)), none, none, none, none]) hR ⟨Or.inr rfl, Or.inl rfl, Or.inl rfl, Or.inl rfl, Or.inl rfl, trivial⟩ ?_
          exact hk113 m70 h
        replace h := ite_f hc h
        refine r_aload_n (pc := 104) hR (dc dt_X8_readClauses 60 rfl) rfl ?_
        obtain ⟨r105, e105, h⟩ := b1_some h
        refine r_callV (pc := 105) (rest := []) hR (dc dt_X8_readClauses 61 rfl) cl_X8_54 tc_1 rfl (ok_F8_sign  e105) (by decide) rfl (Nat.le_of_ble_eq_true rfl) rfl (fun q105r => ?_)
        show Go 108 [some (.ref (ad 1)), some (iv (bor v1 (shl 1 (w32 (r30 - 97))))), some (iv v2), some (iv (w32 (r30 - 97))), some (iv x94)] [iv r105] m70
        refine r_bipush (pc := 108) hR (dc dt_X8_readClauses 62 rfl) (by decide) ?_
        refine r_icmp_ne (pc := 110) (tgt := 118) hR (dc dt_X8_readClauses 63 rfl) (by decide) q105r (rg_c rfl) (fun hc => ?_) (fun hc => ?_)
        · replace h := ite_t hc h
          refine r_aload_n (pc := 118) hR (dc dt_X8_readClauses 67 rfl) rfl ?_
          refine r_getr (pc := 119) (k2 := 3) hR (dc dt_X8_readClauses 68 rfl) fl_X8_15 tc_1 rfl ?_
          refine r_iload_n (pc := 122) hR (dc dt_X8_readClauses 69 rfl) rfl ?_
          refine r_iload (pc := 123) hR (dc dt_X8_readClauses 70 rfl) rfl ?_
          obtain ⟨g1, h⟩ := gd_some h
          refine r_iast (pc := 125) hR (dc dt_X8_readClauses 71 rfl) tc_3 g1 (w32_in _) ?_
          replace h := stw_e h
          generalize wr m70 3 (w32 (r30 - 97)) x94 = m125 at h ⊢
          refine r_aload_n (pc := 126) hR (dc dt_X8_readClauses 72 rfl) rfl ?_
          refine r_dup (pc := 127) hR (dc dt_X8_readClauses 73 rfl) rfl ?_
          refine r_geti (pc := 128) hR (dc dt_X8_readClauses 74 rfl) fl_X8_22 tc_1 rfl ?_
          refine r_iconst (pc := 131) hR (dc dt_X8_readClauses 75 rfl) ?_
          refine r_iadd (pc := 132) hR (dc dt_X8_readClauses 76 rfl) ?_
          refine r_puti (pc := 133) hR (dc dt_X8_readClauses 77 rfl) fl_X8_22 tc_1 rfl rfl rfl ?_
          replace h := stw_e h
          generalize wr m125 1 6 (w32 ((rd m125 1 6) + 1)) = m133 at h ⊢
          refine r_iinc (pc := 136) (L' := [some (.ref (ad 1)), some (iv (bor v1 (shl 1 (w32 (r30 - 97))))), some (iv (w32 (v2 + 1))), some (iv (w32 (r30 - 97))), some (iv x94)]) hR (dc dt_X8_readClauses 78 rfl) rfl (by decide) rfl rfl ?_
          refine r_goto (pc := 139) (tgt := 4) hR (dc dt_X8_readClauses 79 rfl) (by decide) ?_
          refine r_weak (L' := [some (.ref (ad 1)), some (iv (bor v1 (shl 1 (w32 (r30 - 97))))), some (iv (w32 (v2 + 1))), none, none]) hR ⟨Or.inr rfl, Or.inr rfl, Or.inr rfl, Or.inl rfl, Or.inl rfl, trivial⟩ ?_
          exact ih (bor v1 (shl 1 (w32 (r30 - 97)))) (w32 (v2 + 1)) m133 (ti_in _) (w32_in _) h
        replace h := ite_f hc h
        refine r_weak (L' := [some (.ref (ad 1)), none, none, none, none]) hR ⟨Or.inr rfl, Or.inl rfl, Or.inl rfl, Or.inl rfl, Or.inl rfl, trivial⟩ ?_
        exact hk113 m70 h
      refine r_icmp_ne (pc := 79) (tgt := 87) hR (dc dt_X8_readClauses 49 rfl) (by decide) q74r (rg_c rfl) (fun hc => ?_) (fun hc => ?_)
      · replace h := ite_t hc h
        refine r_aload_n (pc := 87) hR (dc dt_X8_readClauses 52 rfl) rfl ?_
        obtain ⟨r88, e88, h⟩ := b1_some h
        refine r_callV (pc := 88) (rest := []) hR (dc dt_X8_readClauses 53 rfl) cl_X8_54 tc_1 rfl (ok_F8_sign  e88) (by decide) rfl (Nat.le_of_ble_eq_true rfl) rfl (fun q88r => ?_)
        show Go 91 [some (.ref (ad 1)), some (iv (bor v1 (shl 1 (w32 (r30 - 97))))), some (iv v2), some (iv (w32 (r30 - 97))), none] [iv r88] m70
        refine r_bipush (pc := 91) hR (dc dt_X8_readClauses 54 rfl) (by decide) ?_
        refine r_isub (pc := 93) hR (dc dt_X8_readClauses 55 rfl) ?_
        exact J94 (w32 (r88 - 48)) (w32_in _) h
      replace h := ite_f hc h
      refine r_bipush (pc := 82) hR (dc dt_X8_readClauses 50 rfl) (by decide) ?_
      refine r_goto (pc := 84) (tgt := 94) hR (dc dt_X8_readClauses 51 rfl) (by decide) ?_
      exact J94 9 (rg_c rfl) h
    replace h := ite_f hc h
    refine r_weak (L' := [some (.ref (ad 1)), none, none, none, none]) hR ⟨Or.inr rfl, Or.inl rfl, Or.inl rfl, Or.inl rfl, Or.inr rfl, trivial⟩ ?_
    exact hk52 m26 h
set_option maxRecDepth 100000 in
set_option maxHeartbeats 4000000 in
theorem ok_F8_readClauses {m : Mem}   {out : Int × Mem} (h : F8_readClauses m = some out) : CT l G cy ad tt yX8_readClauses cX8_readClauses 5 (some .int) 1 [.ref (ad 1)] m (some (iv out.1)) (inR out.1) out.2 := by
  refine CT_of (by decide) (Nat.le_of_ble_eq_true rfl) (fun Go hR hT => ?_)
  replace hR : RS l G cy ad tt RX8 cX8_readClauses 5 1 Go := hR
  show Go 0 [some (.ref (ad 1)), none, none, none, none] [] m
  unfold F8_readClauses at h
  refine r_iconst (pc := 0) hR (dc dt_X8_readClauses 0 rfl) ?_
  refine r_istore_n (pc := 1) (L' := [some (.ref (ad 1)), some (iv 0), none, none, none]) hR (dc dt_X8_readClauses 1 rfl) (by decide) rfl rfl ?_
  refine r_iconst (pc := 2) hR (dc dt_X8_readClauses 2 rfl) ?_
  refine r_istore_n (pc := 3) (L' := [some (.ref (ad 1)), some (iv 0), some (iv 0), none, none]) hR (dc dt_X8_readClauses 3 rfl) (by decide) rfl rfl ?_
  refine lp_L8_readClauses_4 hR hT (fun m_52 h => ?_) (fun m_113 h => ?_) FU 0 0 m (rg_c rfl) (rg_c rfl) h
  · show Go 52 [some (.ref (ad 1)), none, none, none, none] [] m_52
    refine r_aload_n (pc := 52) hR (dc dt_X8_readClauses 31 rfl) rfl ?_
    refine r_geti (pc := 53) hR (dc dt_X8_readClauses 32 rfl) fl_X8_22 tc_1 rfl ?_
    exact r_iret hT (dc dt_X8_readClauses 33 rfl) (congrArg Prod.fst (Option.some.inj h)) (congrArg Prod.snd (Option.some.inj h)) (rd_in _ _ _)
  · show Go 113 [some (.ref (ad 1)), none, none, none, none] [] m_113
    refine r_aload_n (pc := 113) hR (dc dt_X8_readClauses 64 rfl) rfl ?_
    refine r_geti (pc := 114) hR (dc dt_X8_readClauses 65 rfl) fl_X8_22 tc_1 rfl ?_
    exact r_iret hT (dc dt_X8_readClauses 66 rfl) (congrArg Prod.fst (Option.some.inj h)) (congrArg Prod.snd (Option.some.inj h)) (rd_in _ _ _)
def tb_X8_readMother : List (Nat × (Instr × Nat)) := [(0, (.aload_n 0, 1)), (1, (.invokevirtual 54, 3)), (4, (.bipush 60, 2)), (6, (.if_icmp .eq 5, 3)), (9, (.iconst (-1), 1)), (10, (.ireturn, 1)), (11, (.aload_n 0, 1)), (12, (.dup, 1)), (13, (.getfield 22, 3)), (16, (.iconst 1, 1)), (17, (.iadd, 1)), (18, (.putfield 22, 3)), (21, (.aload_n 0, 1)), (22, (.getfield 22, 3)), (25, (.istore_n 2, 1)), (26, (.aload_n 0, 1)), (27, (.aload_n 0, 1)), (28, (.iconst 2, 1)), (29, (.invokevirtual 45, 3)), (32, (.putfield 25, 3)), (35, (.aload_n 0, 1)), (36, (.getfield 25, 3)), (39, (.ifCond .lt 11, 3)), (42, (.aload_n 0, 1)), (43, (.getfield 25, 3)), (46, (.iload_n 1, 1)), (47, (.if_icmp .lt 7, 3)), (50, (.iload_n 2, 1)), (51, (.goto 4, 3)), (54, (.iconst (-1), 1)), (55, (.ireturn, 1))]
set_option maxRecDepth 100000 in
theorem dt_X8_readMother : (tb_X8_readMother.all fun q => decide (decode cX8_readMother q.1 = .ok q.2)) = true := by decide +kernel
set_option maxRecDepth 100000 in
set_option maxHeartbeats 4000000 in
theorem ok_F8_readMother {m : Mem}  {v1 : Int} (q1 : inR v1) {out : Int × Mem} (h : F8_readMother m v1 = some out) : CT l G cy ad tt yX8_readMother cX8_readMother 3 (some .int) 2 [.ref (ad 1), iv v1] m (some (iv out.1)) (inR out.1) out.2 := by
  refine CT_of (by decide) (Nat.le_of_ble_eq_true rfl) (fun Go hR hT => ?_)
  replace hR : RS l G cy ad tt RX8 cX8_readMother 3 2 Go := hR
  show Go 0 [some (.ref (ad 1)), some (iv v1), none] [] m
  unfold F8_readMother at h
  refine r_aload_n (pc := 0) hR (dc dt_X8_readMother 0 rfl) rfl ?_
  obtain ⟨r1, e1, h⟩ := b1_some h
  refine r_callV (pc := 1) (rest := []) hR (dc dt_X8_readMother 1 rfl) cl_X8_54 tc_1 rfl (ok_F8_sign  e1) (by decide) rfl (Nat.le_of_ble_eq_true rfl) rfl (fun q1r => ?_)
  show Go 4 [some (.ref (ad 1)), some (iv v1), none] [iv r1] m
  refine r_bipush (pc := 4) hR (dc dt_X8_readMother 2 rfl) (by decide) ?_
  refine r_icmp_eq (pc := 6) (tgt := 11) hR (dc dt_X8_readMother 3 rfl) (by decide) q1r (rg_c rfl) (fun hc => ?_) (fun hc => ?_)
  · replace h := ite_t hc h
    refine r_aload_n (pc := 11) hR (dc dt_X8_readMother 6 rfl) rfl ?_
    refine r_dup (pc := 12) hR (dc dt_X8_readMother 7 rfl) rfl ?_
    refine r_geti (pc := 13) hR (dc dt_X8_readMother 8 rfl) fl_X8_22 tc_1 rfl ?_
    refine r_iconst (pc := 16) hR (dc dt_X8_readMother 9 rfl) ?_
    refine r_iadd (pc := 17) hR (dc dt_X8_readMother 10 rfl) ?_
    refine r_puti (pc := 18) hR (dc dt_X8_readMother 11 rfl) fl_X8_22 tc_1 rfl rfl rfl ?_
    replace h := stw_e h
    generalize wr m 1 6 (w32 ((rd m 1 6) + 1)) = m18 at h ⊢
    refine r_aload_n (pc := 21) hR (dc dt_X8_readMother 12 rfl) rfl ?_
    refine r_geti (pc := 22) hR (dc dt_X8_readMother 13 rfl) fl_X8_22 tc_1 rfl ?_
    refine r_istore_n (pc := 25) (L' := [some (.ref (ad 1)), some (iv v1), some (iv (rd m18 1 6))]) hR (dc dt_X8_readMother 14 rfl) (by decide) rfl rfl ?_
    refine r_aload_n (pc := 26) hR (dc dt_X8_readMother 15 rfl) rfl ?_
    refine r_aload_n (pc := 27) hR (dc dt_X8_readMother 16 rfl) rfl ?_
    refine r_iconst (pc := 28) hR (dc dt_X8_readMother 17 rfl) ?_
    obtain ⟨r29, m29, e29, h⟩ := b2_some h
    refine r_callV (pc := 29) (rest := [.ref (ad 1)]) hR (dc dt_X8_readMother 18 rfl) cl_X8_45 tc_1 rfl (ok_F8_number (rg_c rfl) e29) (by decide) rfl (Nat.le_of_ble_eq_true rfl) rfl (fun q29r => ?_)
    show Go 32 [some (.ref (ad 1)), some (iv v1), some (iv (rd m18 1 6))] [iv r29, .ref (ad 1)] m29
    refine r_puti (pc := 32) hR (dc dt_X8_readMother 19 rfl) fl_X8_25 tc_1 rfl rfl rfl ?_
    replace h := stw_e h
    generalize wr m29 1 4 r29 = m32 at h ⊢
    refine r_aload_n (pc := 35) hR (dc dt_X8_readMother 20 rfl) rfl ?_
    refine r_geti (pc := 36) hR (dc dt_X8_readMother 21 rfl) fl_X8_25 tc_1 rfl ?_
    refine jn_e h (fun (K : Option (Int × Mem)) => K = some out → Go 50 [none, none, some (iv (rd m18 1 6))] [] m32) (fun h => ?_) (fun K50 J50 h => ?_)
    · refine r_iload_n (pc := 50) hR (dc dt_X8_readMother 27 rfl) rfl ?_
      refine r_goto (pc := 51) (tgt := 55) hR (dc dt_X8_readMother 28 rfl) (by decide) ?_
      exact r_iret hT (dc dt_X8_readMother 30 rfl) (congrArg Prod.fst (Option.some.inj h)) (congrArg Prod.snd (Option.some.inj h)) (rd_in _ _ _)
    refine r_if_lt (pc := 39) (tgt := 50) hR (dc dt_X8_readMother 22 rfl) (by decide) (rd_in _ _ _) (fun hc => ?_) (fun hc => ?_)
    · replace h := ite_t hc h
      refine r_weak (L' := [none, none, some (iv (rd m18 1 6))]) hR ⟨Or.inl rfl, Or.inl rfl, Or.inr rfl, trivial⟩ ?_
      exact J50 h
    replace h := ite_f hc h
    refine r_aload_n (pc := 42) hR (dc dt_X8_readMother 23 rfl) rfl ?_
    refine r_geti (pc := 43) hR (dc dt_X8_readMother 24 rfl) fl_X8_25 tc_1 rfl ?_
    refine r_iload_n (pc := 46) hR (dc dt_X8_readMother 25 rfl) rfl ?_
    refine r_icmp_lt (pc := 47) (tgt := 54) hR (dc dt_X8_readMother 26 rfl) (by decide) (rd_in _ _ _) q1 (fun hc => ?_) (fun hc => ?_)
    · replace h := ite_t hc h
      refine r_iconst (pc := 54) hR (dc dt_X8_readMother 29 rfl) ?_
      exact r_iret hT (dc dt_X8_readMother 30 rfl) (congrArg Prod.fst (Option.some.inj h)) (congrArg Prod.snd (Option.some.inj h)) (rg_c rfl)
    replace h := ite_f hc h
    refine r_weak (L' := [none, none, some (iv (rd m18 1 6))]) hR ⟨Or.inl rfl, Or.inl rfl, Or.inr rfl, trivial⟩ ?_
    exact J50 h
  replace h := ite_f hc h
  refine r_iconst (pc := 9) hR (dc dt_X8_readMother 4 rfl) ?_
  exact r_iret hT (dc dt_X8_readMother 5 rfl) (congrArg Prod.fst (Option.some.inj h)) (congrArg Prod.snd (Option.some.inj h)) (rg_c rfl)
def tb_X8_read : List (Nat × (Instr × Nat)) := [(0, (.aload_n 0, 1)), (1, (.iconst 0, 1)), (2, (.putfield 22, 3)), (5, (.aload_n 0, 1)), (6, (.iconst (-1), 1)), (7, (.putfield 25, 3)), (10, (.aload_n 0, 1)), (11, (.getfield 15, 3)), (14, (.bipush 9, 2)), (16, (.invokestatic 28, 3)), (19, (.aload_n 0, 1)), (20, (.invokevirtual 34, 3)), (23, (.istore_n 2, 1)), (24, (.iload_n 2, 1)), (25, (.ifCond .ge 8, 3)), (28, (.aload_n 0, 1)), (29, (.invokevirtual 38, 3)), (32, (.istore_n 2, 1)), (33, (.iload_n 2, 1)), (34, (.ifCond .ge 9, 3)), (37, (.aload_n 0, 1)), (38, (.iload_n 1, 1)), (39, (.invokevirtual 41, 3)), (42, (.istore_n 2, 1)), (43, (.iload_n 2, 1)), (44, (.ifCond .ge 21, 3)), (47, (.aload_n 0, 1)), (48, (.getfield 22, 3)), (51, (.aload_n 0, 1)), (52, (.getfield 18, 3)), (55, (.if_icmp .ge 10, 3)), (58, (.aload_n 0, 1)), (59, (.getfield 22, 3)), (62, (.goto 4, 3)), (65, (.iload_n 2, 1)), (66, (.ireturn, 1))]
set_option maxRecDepth 100000 in
theorem dt_X8_read : (tb_X8_read.all fun q => decide (decode cX8_read q.1 = .ok q.2)) = true := by decide +kernel
set_option maxRecDepth 100000 in
set_option maxHeartbeats 4000000 in
theorem ok_F8_read {m : Mem}  {v1 : Int} (q1 : inR v1) {out : Int × Mem} (h : F8_read m v1 = some out) : CT l G cy ad tt yX8_read cX8_read 3 (some .int) 3 [.ref (ad 1), iv v1] m (some (iv out.1)) (inR out.1) out.2 := by
  refine CT_of (by decide) (Nat.le_of_ble_eq_true rfl) (fun Go hR hT => ?_)
  replace hR : RS l G cy ad tt RX8 cX8_read 3 3 Go := hR
  show Go 0 [some (.ref (ad 1)), some (iv v1), none] [] m
  unfold F8_read at h
  refine r_aload_n (pc := 0) hR (dc dt_X8_read 0 rfl) rfl ?_
  refine r_iconst (pc := 1) hR (dc dt_X8_read 1 rfl) ?_
  refine r_puti (pc := 2) hR (dc dt_X8_read 2 rfl) fl_X8_22 tc_1 rfl rfl rfl ?_
  replace h := stw_e h
  generalize wr m 1 6 0 = m2 at h ⊢
  refine r_aload_n (pc := 5) hR (dc dt_X8_read 3 rfl) rfl ?_
  refine r_iconst (pc := 6) hR (dc dt_X8_read 4 rfl) ?_
  refine r_puti (pc := 7) hR (dc dt_X8_read 5 rfl) fl_X8_25 tc_1 rfl rfl rfl ?_
  replace h := stw_e h
  generalize wr m2 1 4 (-1) = m7 at h ⊢
  refine r_aload_n (pc := 10) hR (dc dt_X8_read 6 rfl) rfl ?_
  refine r_getr (pc := 11) (k2 := 3) hR (dc dt_X8_read 7 rfl) fl_X8_15 tc_1 rfl ?_
  refine r_bipush (pc := 14) hR (dc dt_X8_read 8 rfl) (by decide) ?_
  obtain ⟨m16, e16, h⟩ := b1_some h
  refine r_callS (pc := 16) (rest := []) hR (dc dt_X8_read 9 rfl) cl_X8_28 (ok_FJ7_fill_53178 tc_3 (by decide) (rg_c rfl) e16) (by decide) rfl (Nat.le_of_ble_eq_true rfl) rfl (fun q16r => ?_)
  show Go 19 [some (.ref (ad 1)), some (iv v1), none] [] m16
  refine r_aload_n (pc := 19) hR (dc dt_X8_read 10 rfl) rfl ?_
  obtain ⟨r20, m20, e20, h⟩ := b2_some h
  refine r_callV (pc := 20) (rest := []) hR (dc dt_X8_read 11 rfl) cl_X8_34 tc_1 rfl (ok_F8_readDays  e20) (by decide) rfl (Nat.le_of_ble_eq_true rfl) rfl (fun q20r => ?_)
  show Go 23 [some (.ref (ad 1)), some (iv v1), none] [iv r20] m20
  refine r_istore_n (pc := 23) (L' := [some (.ref (ad 1)), some (iv v1), some (iv r20)]) hR (dc dt_X8_read 12 rfl) (by decide) rfl rfl ?_
  refine r_iload_n (pc := 24) hR (dc dt_X8_read 13 rfl) rfl ?_
  refine jn_e h (fun (K : Int → Mem → Option (Int × Mem)) => ∀ (v2_33 : Int) (m_33 : Mem), inR v2_33 → K v2_33 m_33 = some out → Go 33 [some (.ref (ad 1)), some (iv v1), some (iv v2_33)] [] m_33) (fun v2_33 m_33 qv2_33 h => ?_) (fun K33 J33 h => ?_)
  · refine r_iload_n (pc := 33) hR (dc dt_X8_read 18 rfl) rfl ?_
    refine jn_e h (fun (K : Int → Mem → Option (Int × Mem)) => ∀ (v2_43 : Int) (m_43 : Mem), inR v2_43 → K v2_43 m_43 = some out → Go 43 [some (.ref (ad 1)), none, some (iv v2_43)] [] m_43) (fun v2_43 m_43 qv2_43 h => ?_) (fun K43 J43 h => ?_)
    · refine r_iload_n (pc := 43) hR (dc dt_X8_read 24 rfl) rfl ?_
      refine jn_e h (fun (K : Option (Int × Mem)) => K = some out → Go 65 [none, none, some (iv v2_43)] [] m_43) (fun h => ?_) (fun K65 J65 h => ?_)
      · refine r_iload_n (pc := 65) hR (dc dt_X8_read 34 rfl) rfl ?_
        exact r_iret hT (dc dt_X8_read 35 rfl) (congrArg Prod.fst (Option.some.inj h)) (congrArg Prod.snd (Option.some.inj h)) qv2_43
      refine r_if_ge (pc := 44) (tgt := 65) hR (dc dt_X8_read 25 rfl) (by decide) qv2_43 (fun hc => ?_) (fun hc => ?_)
      · replace h := ite_t hc h
        refine r_weak (L' := [none, none, some (iv v2_43)]) hR ⟨Or.inl rfl, Or.inr rfl, Or.inr rfl, trivial⟩ ?_
        exact J65 h
      replace h := ite_f hc h
      refine r_aload_n (pc := 47) hR (dc dt_X8_read 26 rfl) rfl ?_
      refine r_geti (pc := 48) hR (dc dt_X8_read 27 rfl) fl_X8_22 tc_1 rfl ?_
      refine r_aload_n (pc := 51) hR (dc dt_X8_read 28 rfl) rfl ?_
      refine r_geti (pc := 52) hR (dc dt_X8_read 29 rfl) fl_X8_18 tc_1 rfl ?_
      refine r_icmp_ge (pc := 55) (tgt := 65) hR (dc dt_X8_read 30 rfl) (by decide) (rd_in _ _ _) (rd_in _ _ _) (fun hc => ?_) (fun hc => ?_)
      · replace h := ite_t hc h
        refine r_weak (L' := [none, none, some (iv v2_43)]) hR ⟨Or.inl rfl, Or.inr rfl, Or.inr rfl, trivial⟩ ?_
        exact J65 h
      replace h := ite_f hc h
      refine r_aload_n (pc := 58) hR (dc dt_X8_read 31 rfl) rfl ?_
      refine r_geti (pc := 59) hR (dc dt_X8_read 32 rfl) fl_X8_22 tc_1 rfl ?_
      refine r_goto (pc := 62) (tgt := 66) hR (dc dt_X8_read 33 rfl) (by decide) ?_
      exact r_iret hT (dc dt_X8_read 35 rfl) (congrArg Prod.fst (Option.some.inj h)) (congrArg Prod.snd (Option.some.inj h)) (rd_in _ _ _)
    refine r_if_ge (pc := 34) (tgt := 43) hR (dc dt_X8_read 19 rfl) (by decide) qv2_33 (fun hc => ?_) (fun hc => ?_)
    · replace h := ite_t hc h
      refine r_weak (L' := [some (.ref (ad 1)), none, some (iv v2_33)]) hR ⟨Or.inr rfl, Or.inl rfl, Or.inr rfl, trivial⟩ ?_
      exact J43 v2_33 m_33 qv2_33 h
    replace h := ite_f hc h
    refine r_aload_n (pc := 37) hR (dc dt_X8_read 20 rfl) rfl ?_
    refine r_iload_n (pc := 38) hR (dc dt_X8_read 21 rfl) rfl ?_
    obtain ⟨r39, m39, e39, h⟩ := b2_some h
    refine r_callV (pc := 39) (rest := []) hR (dc dt_X8_read 22 rfl) cl_X8_41 tc_1 rfl (ok_F8_readMother q1 e39) (by decide) rfl (Nat.le_of_ble_eq_true rfl) rfl (fun q39r => ?_)
    show Go 42 [some (.ref (ad 1)), some (iv v1), some (iv v2_33)] [iv r39] m39
    refine r_istore_n (pc := 42) (L' := [some (.ref (ad 1)), some (iv v1), some (iv r39)]) hR (dc dt_X8_read 23 rfl) (by decide) rfl rfl ?_
    refine r_weak (L' := [some (.ref (ad 1)), none, some (iv r39)]) hR ⟨Or.inr rfl, Or.inl rfl, Or.inr rfl, trivial⟩ ?_
    exact J43 r39 m39 q39r h
  refine r_if_ge (pc := 25) (tgt := 33) hR (dc dt_X8_read 14 rfl) (by decide) q20r (fun hc => ?_) (fun hc => ?_)
  · replace h := ite_t hc h
    exact J33 r20 m20 q20r h
  replace h := ite_f hc h
  refine r_aload_n (pc := 28) hR (dc dt_X8_read 15 rfl) rfl ?_
  obtain ⟨r29, m29, e29, h⟩ := b2_some h
  refine r_callV (pc := 29) (rest := []) hR (dc dt_X8_read 16 rfl) cl_X8_38 tc_1 rfl (ok_F8_readClauses  e29) (by decide) rfl (Nat.le_of_ble_eq_true rfl) rfl (fun q29r => ?_)
  show Go 32 [some (.ref (ad 1)), some (iv v1), some (iv r20)] [iv r29] m29
  refine r_istore_n (pc := 32) (L' := [some (.ref (ad 1)), some (iv v1), some (iv r29)]) hR (dc dt_X8_read 17 rfl) (by decide) rfl rfl ?_
  exact J33 r29 m29 q29r h
def tb_X1_formCell : List (Nat × (Instr × Nat)) := [(0, (.iload_n 1, 1)), (1, (.bipush 16, 2)), (3, (.imul, 1)), (4, (.iload_n 2, 1)), (5, (.iadd, 1)), (6, (.ireturn, 1))]
set_option maxRecDepth 100000 in
theorem dt_X1_formCell : (tb_X1_formCell.all fun q => decide (decode cX1_formCell q.1 = .ok q.2)) = true := by decide +kernel
set_option maxRecDepth 100000 in
set_option maxHeartbeats 4000000 in
theorem ok_F1_formCell {m : Mem}  {v1 v2 : Int} (q1 : inR v1) (q2 : inR v2) : CT l G cy ad tt yX1_formCell cX1_formCell 3 (some .int) 0 [.ref (ad 4), iv v1, iv v2] m (some (iv (F1_formCell v1 v2))) (inR (F1_formCell v1 v2)) m := by
  refine CT_of (by decide) (Nat.le_of_ble_eq_true rfl) (fun Go hR hT => ?_)
  replace hR : RS l G cy ad tt RX1 cX1_formCell 3 0 Go := hR
  show Go 0 [some (.ref (ad 4)), some (iv v1), some (iv v2)] [] m
  obtain ⟨out, h⟩ : ∃ out, F1_formCell v1 v2 = out := ⟨_, rfl⟩
  rw [h] at hT
  unfold F1_formCell at h
  refine r_iload_n (pc := 0) hR (dc dt_X1_formCell 0 rfl) rfl ?_
  refine r_bipush (pc := 1) hR (dc dt_X1_formCell 1 rfl) (by decide) ?_
  refine r_imul (pc := 3) hR (dc dt_X1_formCell 2 rfl) ?_
  refine r_iload_n (pc := 4) hR (dc dt_X1_formCell 3 rfl) rfl ?_
  refine r_iadd (pc := 5) hR (dc dt_X1_formCell 4 rfl) ?_
  exact r_iret hT (dc dt_X1_formCell 5 rfl) h rfl (w32_in _)
def tb_X1_motherCell : List (Nat × (Instr × Nat)) := [(0, (.sipush 197, 3)), (3, (.iload_n 1, 1)), (4, (.iadd, 1)), (5, (.ireturn, 1))]
set_option maxRecDepth 100000 in
theorem dt_X1_motherCell : (tb_X1_motherCell.all fun q => decide (decode cX1_motherCell q.1 = .ok q.2)) = true := by decide +kernel
set_option maxRecDepth 100000 in
set_option maxHeartbeats 4000000 in
theorem ok_F1_motherCell {m : Mem}  {v1 : Int} (q1 : inR v1) : CT l G cy ad tt yX1_motherCell cX1_motherCell 2 (some .int) 0 [.ref (ad 4), iv v1] m (some (iv (F1_motherCell v1))) (inR (F1_motherCell v1)) m := by
  refine CT_of (by decide) (Nat.le_of_ble_eq_true rfl) (fun Go hR hT => ?_)
  replace hR : RS l G cy ad tt RX1 cX1_motherCell 2 0 Go := hR
  show Go 0 [some (.ref (ad 4)), some (iv v1)] [] m
  obtain ⟨out, h⟩ : ∃ out, F1_motherCell v1 = out := ⟨_, rfl⟩
  rw [h] at hT
  unfold F1_motherCell at h
  refine r_sipush (pc := 0) hR (dc dt_X1_motherCell 0 rfl) (by decide) ?_
  refine r_iload_n (pc := 3) hR (dc dt_X1_motherCell 1 rfl) rfl ?_
  refine r_iadd (pc := 4) hR (dc dt_X1_motherCell 2 rfl) ?_
  exact r_iret hT (dc dt_X1_motherCell 3 rfl) h rfl (w32_in _)
def tb_X1_add : List (Nat × (Instr × Nat)) := [(0, (.aload_n 0, 1)), (1, (.getfield 45, 3)), (4, (.istore 5, 2)), (6, (.aload_n 0, 1)), (7, (.getfield 11, 3)), (10, (.iload 5, 2)), (12, (.iload_n 1, 1)), (13, (.iastore, 1)), (14, (.aload_n 0, 1)), (15, (.getfield 15, 3)), (18, (.iload 5, 2)), (20, (.iload_n 2, 1)), (21, (.iastore, 1)), (22, (.aload_n 0, 1)), (23, (.getfield 18, 3)), (26, (.iload 5, 2)), (28, (.iload_n 3, 1)), (29, (.iastore, 1)), (30, (.aload 4, 2)), (32, (.iconst 0, 1)), (33, (.aload_n 0, 1)), (34, (.getfield 24, 3)), (37, (.aload_n 0, 1)), (38, (.iload 5, 2)), (40, (.iconst 0, 1)), (41, (.invokevirtual 49, 3)), (44, (.bipush 16, 2)), (46, (.invokestatic 53, 3)), (49, (.aload_n 0, 1)), (50, (.getfield 24, 3)), (53, (.aload_n 0, 1)), (54, (.iload 5, 2)), (56, (.invokevirtual 59, 3)), (59, (.iconst (-1), 1)), (60, (.iastore, 1)), (61, (.aload_n 0, 1)), (62, (.dup, 1)), (63, (.getfield 45, 3)), (66, (.iconst 1, 1)), (67, (.iadd, 1)), (68, (.putfield 45, 3)), (71, (.iload 5, 2)), (73, (.ireturn, 1))]
set_option maxRecDepth 100000 in
theorem dt_X1_add : (tb_X1_add.all fun q => decide (decode cX1_add q.1 = .ok q.2)) = true := by decide +kernel
set_option maxRecDepth 100000 in
set_option maxHeartbeats 4000000 in
theorem ok_F1_add {m : Mem} {a4 : Nat} {v1 v2 v3 : Int} (ha4 : tab[a4]? = some (.inl (0, 16))) (q1 : inR v1) (q2 : inR v2) (q3 : inR v3) {out : Int × Mem} (h : F1_add m a4 v1 v2 v3 = some out) : CT l G cy ad tt yX1_add cX1_add 6 (some .int) 1 [.ref (ad 4), iv v1, iv v2, iv v3, .ref (ad a4)] m (some (iv out.1)) (inR out.1) out.2 := by
  refine CT_of (by decide) (Nat.le_of_ble_eq_true rfl) (fun Go hR hT => ?_)
  replace hR : RS l G cy ad tt RX1 cX1_add 6 1 Go := hR
  show Go 0 [some (.ref (ad 4)), some (iv v1), some (iv v2), some (iv v3), some (.ref (ad a4)), none] [] m
  unfold F1_add at h
  refine r_aload_n (pc := 0) hR (dc dt_X1_add 0 rfl) rfl ?_
  refine r_geti (pc := 1) hR (dc dt_X1_add 1 rfl) fl_X1_45 tc_4 rfl ?_
  refine r_istore (pc := 4) (L' := [some (.ref (ad 4)), some (iv v1), some (iv v2), some (iv v3), some (.ref (ad a4)), some (iv (rd m 4 0))]) hR (dc dt_X1_add 2 rfl) (by decide) rfl rfl ?_
  refine r_aload_n (pc := 6) hR (dc dt_X1_add 3 rfl) rfl ?_
  refine r_getr (pc := 7) (k2 := 5) hR (dc dt_X1_add 4 rfl) fl_X1_11 tc_4 rfl ?_
  refine r_iload (pc := 10) hR (dc dt_X1_add 5 rfl) rfl ?_
  refine r_iload_n (pc := 12) hR (dc dt_X1_add 6 rfl) rfl ?_
  obtain ⟨g1, h⟩ := gd_some h
  refine r_iast (pc := 13) hR (dc dt_X1_add 7 rfl) tc_5 g1 (rd_in _ _ _) ?_
  replace h := stw_e h
  generalize wr m 5 (rd m 4 0) v1 = m13 at h ⊢
  refine r_aload_n (pc := 14) hR (dc dt_X1_add 8 rfl) rfl ?_
  refine r_getr (pc := 15) (k2 := 6) hR (dc dt_X1_add 9 rfl) fl_X1_15 tc_4 rfl ?_
  refine r_iload (pc := 18) hR (dc dt_X1_add 10 rfl) rfl ?_
  refine r_iload_n (pc := 20) hR (dc dt_X1_add 11 rfl) rfl ?_
  obtain ⟨g1, h⟩ := gd_some h
  refine r_iast (pc := 21) hR (dc dt_X1_add 12 rfl) tc_6 g1 (rd_in _ _ _) ?_
  replace h := stw_e h
  generalize wr m13 6 (rd m 4 0) v2 = m21 at h ⊢
  refine r_aload_n (pc := 22) hR (dc dt_X1_add 13 rfl) rfl ?_
  refine r_getr (pc := 23) (k2 := 7) hR (dc dt_X1_add 14 rfl) fl_X1_18 tc_4 rfl ?_
  refine r_iload (pc := 26) hR (dc dt_X1_add 15 rfl) rfl ?_
  refine r_iload_n (pc := 28) hR (dc dt_X1_add 16 rfl) rfl ?_
  obtain ⟨g1, h⟩ := gd_some h
  refine r_iast (pc := 29) hR (dc dt_X1_add 17 rfl) tc_7 g1 (rd_in _ _ _) ?_
  replace h := stw_e h
  generalize wr m21 7 (rd m 4 0) v3 = m29 at h ⊢
  refine r_aload (pc := 30) hR (dc dt_X1_add 18 rfl) rfl ?_
  refine r_iconst (pc := 32) hR (dc dt_X1_add 19 rfl) ?_
  refine r_aload_n (pc := 33) hR (dc dt_X1_add 20 rfl) rfl ?_
  refine r_getr (pc := 34) (k2 := 9) hR (dc dt_X1_add 21 rfl) fl_X1_24 tc_4 rfl ?_
  refine r_aload_n (pc := 37) hR (dc dt_X1_add 22 rfl) rfl ?_
  refine r_iload (pc := 38) hR (dc dt_X1_add 23 rfl) rfl ?_
  refine r_iconst (pc := 40) hR (dc dt_X1_add 24 rfl) ?_
  refine r_callV (pc := 41) (rest := [.ref (ad 9), iv 0, .ref (ad a4)]) hR (dc dt_X1_add 25 rfl) cl_X1_49 tc_4 rfl (ok_F1_formCell (rd_in _ _ _) (rg_c rfl)) (by decide) rfl (Nat.le_of_ble_eq_true rfl) rfl (fun q41r => ?_)
  show Go 44 [some (.ref (ad 4)), some (iv v1), some (iv v2), some (iv v3), some (.ref (ad a4)), some (iv (rd m 4 0))] [iv (F1_formCell (rd m 4 0) 0), .ref (ad 9), iv 0, .ref (ad a4)] m29
  refine r_bipush (pc := 44) hR (dc dt_X1_add 26 rfl) (by decide) ?_
  obtain ⟨g1, h⟩ := gd_some h
  refine r_copyi (pc := 46) hR (dc dt_X1_add 27 rfl) mw_X1_53 ha4 tc_9 g1 (rg_c rfl) q41r (rg_c rfl) (Nat.le_of_ble_eq_true rfl) (by decide) ?_
  replace h := cpw_e h
  generalize cpy m29 a4 0 9 (F1_formCell (rd m 4 0) 0) 16 = m46 at h ⊢
  refine r_aload_n (pc := 49) hR (dc dt_X1_add 28 rfl) rfl ?_
  refine r_getr (pc := 50) (k2 := 9) hR (dc dt_X1_add 29 rfl) fl_X1_24 tc_4 rfl ?_
  refine r_aload_n (pc := 53) hR (dc dt_X1_add 30 rfl) rfl ?_
  refine r_iload (pc := 54) hR (dc dt_X1_add 31 rfl) rfl ?_
  refine r_callV (pc := 56) (rest := [.ref (ad 9)]) hR (dc dt_X1_add 32 rfl) cl_X1_59 tc_4 rfl (ok_F1_motherCell (rd_in _ _ _)) (by decide) rfl (Nat.le_of_ble_eq_true rfl) rfl (fun q56r => ?_)
  show Go 59 [some (.ref (ad 4)), some (iv v1), some (iv v2), some (iv v3), some (.ref (ad a4)), some (iv (rd m 4 0))] [iv (F1_motherCell (rd m 4 0)), .ref (ad 9)] m46
  refine r_iconst (pc := 59) hR (dc dt_X1_add 33 rfl) ?_
  obtain ⟨g1, h⟩ := gd_some h
  refine r_iast (pc := 60) hR (dc dt_X1_add 34 rfl) tc_9 g1 q56r ?_
  replace h := stw_e h
  generalize wr m46 9 (F1_motherCell (rd m 4 0)) (-1) = m60 at h ⊢
  refine r_aload_n (pc := 61) hR (dc dt_X1_add 35 rfl) rfl ?_
  refine r_dup (pc := 62) hR (dc dt_X1_add 36 rfl) rfl ?_
  refine r_geti (pc := 63) hR (dc dt_X1_add 37 rfl) fl_X1_45 tc_4 rfl ?_
  refine r_iconst (pc := 66) hR (dc dt_X1_add 38 rfl) ?_
  refine r_iadd (pc := 67) hR (dc dt_X1_add 39 rfl) ?_
  refine r_puti (pc := 68) hR (dc dt_X1_add 40 rfl) fl_X1_45 tc_4 rfl rfl rfl ?_
  replace h := stw_e h
  generalize wr m60 4 0 (w32 ((rd m60 4 0) + 1)) = m68 at h ⊢
  refine r_iload (pc := 71) hR (dc dt_X1_add 41 rfl) rfl ?_
  exact r_iret hT (dc dt_X1_add 42 rfl) (congrArg Prod.fst (Option.some.inj h)) (congrArg Prod.snd (Option.some.inj h)) (rd_in _ _ _)
def tb_X10_charter : List (Nat × (Instr × Nat)) := [(0, (.aload_n 0, 1)), (1, (.getfield 19, 3)), (4, (.getfield 80, 3)), (7, (.bipush 12, 2)), (9, (.if_icmp .lt 6, 3)), (12, (.bipush (-3), 2)), (14, (.ireturn, 1)), (15, (.aload_n 0, 1)), (16, (.getfield 10, 3)), (19, (.aload_n 0, 1)), (20, (.getfield 19, 3)), (23, (.getfield 80, 3)), (26, (.invokevirtual 84, 3)), (29, (.istore_n 1, 1)), (30, (.aload_n 0, 1)), (31, (.getfield 10, 3)), (34, (.iconst 0, 1)), (35, (.putfield 88, 3)), (38, (.iload_n 1, 1)), (39, (.ifCond .lt 8, 3)), (42, (.bipush (-100), 2)), (44, (.iload_n 1, 1)), (45, (.isub, 1)), (46, (.ireturn, 1)), (47, (.aload_n 0, 1)), (48, (.getfield 19, 3)), (51, (.aload_n 0, 1)), (52, (.getfield 10, 3)), (55, (.getfield 91, 3)), (58, (.aload_n 0, 1)), (59, (.getfield 10, 3)), (62, (.getfield 94, 3)), (65, (.aload_n 0, 1)), (66, (.getfield 10, 3)), (69, (.getfield 97, 3)), (72, (.aload_n 0, 1)), (73, (.getfield 10, 3)), (76, (.getfield 100, 3)), (79, (.invokevirtual 104, 3)), (82, (.ireturn, 1))]
set_option maxRecDepth 100000 in
theorem dt_X10_charter : (tb_X10_charter.all fun q => decide (decode cX10_charter q.1 = .ok q.2)) = true := by decide +kernel
set_option maxRecDepth 100000 in
set_option maxHeartbeats 4000000 in
theorem ok_F10_charter {m : Mem}   {out : Int × Mem} (h : F10_charter m = some out) : CT l G cy ad tt yX10_charter cX10_charter 2 (some .int) 4 [.ref (ad 0)] m (some (iv out.1)) (inR out.1) out.2 := by
  refine CT_of (by decide) (Nat.le_of_ble_eq_true rfl) (fun Go hR hT => ?_)
  replace hR : RS l G cy ad tt RX10 cX10_charter 2 4 Go := hR
  show Go 0 [some (.ref (ad 0)), none] [] m
  unfold F10_charter at h
  refine r_aload_n (pc := 0) hR (dc dt_X10_charter 0 rfl) rfl ?_
  refine r_getr (pc := 1) (k2 := 4) hR (dc dt_X10_charter 1 rfl) fl_X10_19 tc_0 rfl ?_
  refine r_geti (pc := 4) hR (dc dt_X10_charter 2 rfl) fl_X10_80 tc_4 rfl ?_
  refine r_bipush (pc := 7) hR (dc dt_X10_charter 3 rfl) (by decide) ?_
  refine r_icmp_lt (pc := 9) (tgt := 15) hR (dc dt_X10_charter 4 rfl) (by decide) (rd_in _ _ _) (rg_c rfl) (fun hc => ?_) (fun hc => ?_)
  · replace h := ite_t hc h
    refine r_aload_n (pc := 15) hR (dc dt_X10_charter 7 rfl) rfl ?_
    refine r_getr (pc := 16) (k2 := 1) hR (dc dt_X10_charter 8 rfl) fl_X10_10 tc_0 rfl ?_
    refine r_aload_n (pc := 19) hR (dc dt_X10_charter 9 rfl) rfl ?_
    refine r_getr (pc := 20) (k2 := 4) hR (dc dt_X10_charter 10 rfl) fl_X10_19 tc_0 rfl ?_
    refine r_geti (pc := 23) hR (dc dt_X10_charter 11 rfl) fl_X10_80 tc_4 rfl ?_
    obtain ⟨r26, m26, e26, h⟩ := b2_some h
    refine r_callV (pc := 26) (rest := []) hR (dc dt_X10_charter 12 rfl) cl_X10_84 tc_1 rfl (ok_F8_read (rd_in _ _ _) e26) (by decide) rfl (Nat.le_of_ble_eq_true rfl) rfl (fun q26r => ?_)
    show Go 29 [some (.ref (ad 0)), none] [iv r26] m26
    refine r_istore_n (pc := 29) (L' := [some (.ref (ad 0)), some (iv r26)]) hR (dc dt_X10_charter 13 rfl) (by decide) rfl rfl ?_
    refine r_aload_n (pc := 30) hR (dc dt_X10_charter 14 rfl) rfl ?_
    refine r_getr (pc := 31) (k2 := 1) hR (dc dt_X10_charter 15 rfl) fl_X10_10 tc_0 rfl ?_
    refine r_iconst (pc := 34) hR (dc dt_X10_charter 16 rfl) ?_
    refine r_puti (pc := 35) hR (dc dt_X10_charter 17 rfl) fl_X10_88 tc_1 rfl rfl rfl ?_
    replace h := stw_e h
    generalize wr m26 1 1 0 = m35 at h ⊢
    refine r_iload_n (pc := 38) hR (dc dt_X10_charter 18 rfl) rfl ?_
    refine r_if_lt (pc := 39) (tgt := 47) hR (dc dt_X10_charter 19 rfl) (by decide) q26r (fun hc => ?_) (fun hc => ?_)
    · replace h := ite_t hc h
      refine r_aload_n (pc := 47) hR (dc dt_X10_charter 24 rfl) rfl ?_
      refine r_getr (pc := 48) (k2 := 4) hR (dc dt_X10_charter 25 rfl) fl_X10_19 tc_0 rfl ?_
      refine r_aload_n (pc := 51) hR (dc dt_X10_charter 26 rfl) rfl ?_
      refine r_getr (pc := 52) (k2 := 1) hR (dc dt_X10_charter 27 rfl) fl_X10_10 tc_0 rfl ?_
      refine r_geti (pc := 55) hR (dc dt_X10_charter 28 rfl) fl_X10_91 tc_1 rfl ?_
      refine r_aload_n (pc := 58) hR (dc dt_X10_charter 29 rfl) rfl ?_
      refine r_getr (pc := 59) (k2 := 1) hR (dc dt_X10_charter 30 rfl) fl_X10_10 tc_0 rfl ?_
      refine r_geti (pc := 62) hR (dc dt_X10_charter 31 rfl) fl_X10_94 tc_1 rfl ?_
      refine r_aload_n (pc := 65) hR (dc dt_X10_charter 32 rfl) rfl ?_
      refine r_getr (pc := 66) (k2 := 1) hR (dc dt_X10_charter 33 rfl) fl_X10_10 tc_0 rfl ?_
      refine r_geti (pc := 69) hR (dc dt_X10_charter 34 rfl) fl_X10_97 tc_1 rfl ?_
      refine r_aload_n (pc := 72) hR (dc dt_X10_charter 35 rfl) rfl ?_
      refine r_getr (pc := 73) (k2 := 1) hR (dc dt_X10_charter 36 rfl) fl_X10_10 tc_0 rfl ?_
      refine r_getr (pc := 76) (k2 := 3) hR (dc dt_X10_charter 37 rfl) fl_X10_100 tc_1 rfl ?_
      obtain ⟨r79, m79, e79, h⟩ := b2_some h
      refine r_callV (pc := 79) (rest := []) hR (dc dt_X10_charter 38 rfl) cl_X10_104 tc_4 rfl (ok_F1_add tc_3 (rd_in _ _ _) (rd_in _ _ _) (rd_in _ _ _) e79) (by decide) rfl (Nat.le_of_ble_eq_true rfl) rfl (fun q79r => ?_)
      show Go 82 [some (.ref (ad 0)), some (iv r26)] [iv r79] m79
      exact r_iret hT (dc dt_X10_charter 39 rfl) (congrArg Prod.fst (Option.some.inj h)) (congrArg Prod.snd (Option.some.inj h)) q79r
    replace h := ite_f hc h
    refine r_bipush (pc := 42) hR (dc dt_X10_charter 20 rfl) (by decide) ?_
    refine r_iload_n (pc := 44) hR (dc dt_X10_charter 21 rfl) rfl ?_
    refine r_isub (pc := 45) hR (dc dt_X10_charter 22 rfl) ?_
    exact r_iret hT (dc dt_X10_charter 23 rfl) (congrArg Prod.fst (Option.some.inj h)) (congrArg Prod.snd (Option.some.inj h)) (w32_in _)
  replace h := ite_f hc h
  refine r_bipush (pc := 12) hR (dc dt_X10_charter 5 rfl) (by decide) ?_
  exact r_iret hT (dc dt_X10_charter 6 rfl) (congrArg Prod.fst (Option.some.inj h)) (congrArg Prod.snd (Option.some.inj h)) (rg_c rfl)
def tb_X1_addLost : List (Nat × (Instr × Nat)) := [(0, (.aload_n 0, 1)), (1, (.iconst 0, 1)), (2, (.sipush 999, 3)), (5, (.iconst (-1), 1)), (6, (.aload_n 0, 1)), (7, (.getfield 36, 3)), (10, (.invokevirtual 63, 3)), (13, (.istore_n 1, 1)), (14, (.aload_n 0, 1)), (15, (.getfield 21, 3)), (18, (.iload_n 1, 1)), (19, (.iconst 1, 1)), (20, (.iastore, 1)), (21, (.iload_n 1, 1)), (22, (.ireturn, 1))]
set_option maxRecDepth 100000 in
theorem dt_X1_addLost : (tb_X1_addLost.all fun q => decide (decode cX1_addLost q.1 = .ok q.2)) = true := by decide +kernel
set_option maxRecDepth 100000 in
set_option maxHeartbeats 4000000 in
theorem ok_F1_addLost {m : Mem}   {out : Int × Mem} (h : F1_addLost m = some out) : CT l G cy ad tt yX1_addLost cX1_addLost 2 (some .int) 2 [.ref (ad 4)] m (some (iv out.1)) (inR out.1) out.2 := by
  refine CT_of (by decide) (Nat.le_of_ble_eq_true rfl) (fun Go hR hT => ?_)
  replace hR : RS l G cy ad tt RX1 cX1_addLost 2 2 Go := hR
  show Go 0 [some (.ref (ad 4)), none] [] m
  unfold F1_addLost at h
  refine r_aload_n (pc := 0) hR (dc dt_X1_addLost 0 rfl) rfl ?_
  refine r_iconst (pc := 1) hR (dc dt_X1_addLost 1 rfl) ?_
  refine r_sipush (pc := 2) hR (dc dt_X1_addLost 2 rfl) (by decide) ?_
  refine r_iconst (pc := 5) hR (dc dt_X1_addLost 3 rfl) ?_
  refine r_aload_n (pc := 6) hR (dc dt_X1_addLost 4 rfl) rfl ?_
  refine r_getr (pc := 7) (k2 := 13) hR (dc dt_X1_addLost 5 rfl) fl_X1_36 tc_4 rfl ?_
  obtain ⟨r10, m10, e10, h⟩ := b2_some h
  refine r_callV (pc := 10) (rest := []) hR (dc dt_X1_addLost 6 rfl) cl_X1_63 tc_4 rfl (ok_F1_add tc_13 (rg_c rfl) (rg_c rfl) (rg_c rfl) e10) (by decide) rfl (Nat.le_of_ble_eq_true rfl) rfl (fun q10r => ?_)
  show Go 13 [some (.ref (ad 4)), none] [iv r10] m10
  refine r_istore_n (pc := 13) (L' := [some (.ref (ad 4)), some (iv r10)]) hR (dc dt_X1_addLost 7 rfl) (by decide) rfl rfl ?_
  refine r_aload_n (pc := 14) hR (dc dt_X1_addLost 8 rfl) rfl ?_
  refine r_getr (pc := 15) (k2 := 8) hR (dc dt_X1_addLost 9 rfl) fl_X1_21 tc_4 rfl ?_
  refine r_iload_n (pc := 18) hR (dc dt_X1_addLost 10 rfl) rfl ?_
  refine r_iconst (pc := 19) hR (dc dt_X1_addLost 11 rfl) ?_
  obtain ⟨g1, h⟩ := gd_some h
  refine r_iast (pc := 20) hR (dc dt_X1_addLost 12 rfl) tc_8 g1 q10r ?_
  replace h := stw_e h
  generalize wr m10 8 r10 1 = m20 at h ⊢
  refine r_iload_n (pc := 21) hR (dc dt_X1_addLost 13 rfl) rfl ?_
  exact r_iret hT (dc dt_X1_addLost 14 rfl) (congrArg Prod.fst (Option.some.inj h)) (congrArg Prod.snd (Option.some.inj h)) q10r
def tb_X10_lost : List (Nat × (Instr × Nat)) := [(0, (.aload_n 0, 1)), (1, (.getfield 19, 3)), (4, (.getfield 80, 3)), (7, (.bipush 12, 2)), (9, (.if_icmp .lt 8, 3)), (12, (.bipush (-3), 2)), (14, (.goto 10, 3)), (17, (.aload_n 0, 1)), (18, (.getfield 19, 3)), (21, (.invokevirtual 108, 3)), (24, (.ireturn, 1))]
set_option maxRecDepth 100000 in
theorem dt_X10_lost : (tb_X10_lost.all fun q => decide (decode cX10_lost q.1 = .ok q.2)) = true := by decide +kernel
set_option maxRecDepth 100000 in
set_option maxHeartbeats 4000000 in
theorem ok_F10_lost {m : Mem}   {out : Int × Mem} (h : F10_lost m = some out) : CT l G cy ad tt yX10_lost cX10_lost 1 (some .int) 3 [.ref (ad 0)] m (some (iv out.1)) (inR out.1) out.2 := by
  refine CT_of (by decide) (Nat.le_of_ble_eq_true rfl) (fun Go hR hT => ?_)
  replace hR : RS l G cy ad tt RX10 cX10_lost 1 3 Go := hR
  show Go 0 [some (.ref (ad 0))] [] m
  unfold F10_lost at h
  refine r_aload_n (pc := 0) hR (dc dt_X10_lost 0 rfl) rfl ?_
  refine r_getr (pc := 1) (k2 := 4) hR (dc dt_X10_lost 1 rfl) fl_X10_19 tc_0 rfl ?_
  refine r_geti (pc := 4) hR (dc dt_X10_lost 2 rfl) fl_X10_80 tc_4 rfl ?_
  refine r_bipush (pc := 7) hR (dc dt_X10_lost 3 rfl) (by decide) ?_
  refine r_icmp_lt (pc := 9) (tgt := 17) hR (dc dt_X10_lost 4 rfl) (by decide) (rd_in _ _ _) (rg_c rfl) (fun hc => ?_) (fun hc => ?_)
  · replace h := ite_t hc h
    refine r_aload_n (pc := 17) hR (dc dt_X10_lost 7 rfl) rfl ?_
    refine r_getr (pc := 18) (k2 := 4) hR (dc dt_X10_lost 8 rfl) fl_X10_19 tc_0 rfl ?_
    obtain ⟨r21, m21, e21, h⟩ := b2_some h
    refine r_callV (pc := 21) (rest := []) hR (dc dt_X10_lost 9 rfl) cl_X10_108 tc_4 rfl (ok_F1_addLost  e21) (by decide) rfl (Nat.le_of_ble_eq_true rfl) rfl (fun q21r => ?_)
    show Go 24 [some (.ref (ad 0))] [iv r21] m21
    exact r_iret hT (dc dt_X10_lost 10 rfl) (congrArg Prod.fst (Option.some.inj h)) (congrArg Prod.snd (Option.some.inj h)) q21r
  replace h := ite_f hc h
  refine r_bipush (pc := 12) hR (dc dt_X10_lost 5 rfl) (by decide) ?_
  refine r_goto (pc := 14) (tgt := 24) hR (dc dt_X10_lost 6 rfl) (by decide) ?_
  exact r_iret hT (dc dt_X10_lost 10 rfl) (congrArg Prod.fst (Option.some.inj h)) (congrArg Prod.snd (Option.some.inj h)) (rg_c rfl)
def tb_X1_has : List (Nat × (Instr × Nat)) := [(0, (.iload_n 1, 1)), (1, (.ifCond .lt 15, 3)), (4, (.iload_n 1, 1)), (5, (.aload_n 0, 1)), (6, (.getfield 45, 3)), (9, (.if_icmp .ge 7, 3)), (12, (.iconst 1, 1)), (13, (.goto 4, 3)), (16, (.iconst 0, 1)), (17, (.ireturn, 1))]
set_option maxRecDepth 100000 in
theorem dt_X1_has : (tb_X1_has.all fun q => decide (decode cX1_has q.1 = .ok q.2)) = true := by decide +kernel
set_option maxRecDepth 100000 in
set_option maxHeartbeats 4000000 in
theorem ok_F1_has {m : Mem}  {v1 : Int} (q1 : inR v1) : CT l G cy ad tt yX1_has cX1_has 2 (some .boolean) 0 [.ref (ad 4), iv v1] m (some (iv (F1_has m v1))) (inZ (F1_has m v1)) m := by
  refine CT_of (by decide) (Nat.le_of_ble_eq_true rfl) (fun Go hR hT => ?_)
  replace hR : RS l G cy ad tt RX1 cX1_has 2 0 Go := hR
  show Go 0 [some (.ref (ad 4)), some (iv v1)] [] m
  obtain ⟨out, h⟩ : ∃ out, F1_has m v1 = out := ⟨_, rfl⟩
  rw [h] at hT
  unfold F1_has at h
  refine r_iload_n (pc := 0) hR (dc dt_X1_has 0 rfl) rfl ?_
  refine jn_e h (fun (K : Int) => K = out → Go 16 [none, none] [] m) (fun h => ?_) (fun K16 J16 h => ?_)
  · refine r_iconst (pc := 16) hR (dc dt_X1_has 8 rfl) ?_
    exact r_zret hT (dc dt_X1_has 9 rfl) h rfl (Or.inl rfl)
  refine r_if_lt (pc := 1) (tgt := 16) hR (dc dt_X1_has 1 rfl) (by decide) q1 (fun hc => ?_) (fun hc => ?_)
  · replace h := ite_t hc h
    refine r_weak (L' := [none, none]) hR ⟨Or.inl rfl, Or.inl rfl, trivial⟩ ?_
    exact J16 h
  replace h := ite_f hc h
  refine r_iload_n (pc := 4) hR (dc dt_X1_has 2 rfl) rfl ?_
  refine r_aload_n (pc := 5) hR (dc dt_X1_has 3 rfl) rfl ?_
  refine r_geti (pc := 6) hR (dc dt_X1_has 4 rfl) fl_X1_45 tc_4 rfl ?_
  refine r_icmp_ge (pc := 9) (tgt := 16) hR (dc dt_X1_has 5 rfl) (by decide) q1 (rd_in _ _ _) (fun hc => ?_) (fun hc => ?_)
  · replace h := ite_t hc h
    refine r_weak (L' := [none, none]) hR ⟨Or.inl rfl, Or.inl rfl, trivial⟩ ?_
    exact J16 h
  replace h := ite_f hc h
  refine r_iconst (pc := 12) hR (dc dt_X1_has 6 rfl) ?_
  refine r_goto (pc := 13) (tgt := 17) hR (dc dt_X1_has 7 rfl) (by decide) ?_
  exact r_zret hT (dc dt_X1_has 9 rfl) h rfl (Or.inr rfl)
def tb_X1_told : List (Nat × (Instr × Nat)) := [(0, (.aload_n 0, 1)), (1, (.getfield 24, 3)), (4, (.aload_n 0, 1)), (5, (.iload_n 1, 1)), (6, (.iload_n 2, 1)), (7, (.invokevirtual 49, 3)), (10, (.iaload, 1)), (11, (.ireturn, 1))]
set_option maxRecDepth 100000 in
theorem dt_X1_told : (tb_X1_told.all fun q => decide (decode cX1_told q.1 = .ok q.2)) = true := by decide +kernel
set_option maxRecDepth 100000 in
set_option maxHeartbeats 4000000 in
theorem ok_F1_told {m : Mem}  {v1 v2 : Int} (q1 : inR v1) (q2 : inR v2) {out : Int} (h : F1_told m v1 v2 = some out) : CT l G cy ad tt yX1_told cX1_told 3 (some .int) 1 [.ref (ad 4), iv v1, iv v2] m (some (iv out)) (inR out) m := by
  refine CT_of (by decide) (Nat.le_of_ble_eq_true rfl) (fun Go hR hT => ?_)
  replace hR : RS l G cy ad tt RX1 cX1_told 3 1 Go := hR
  show Go 0 [some (.ref (ad 4)), some (iv v1), some (iv v2)] [] m
  unfold F1_told at h
  refine r_aload_n (pc := 0) hR (dc dt_X1_told 0 rfl) rfl ?_
  refine r_getr (pc := 1) (k2 := 9) hR (dc dt_X1_told 1 rfl) fl_X1_24 tc_4 rfl ?_
  refine r_aload_n (pc := 4) hR (dc dt_X1_told 2 rfl) rfl ?_
  refine r_iload_n (pc := 5) hR (dc dt_X1_told 3 rfl) rfl ?_
  refine r_iload_n (pc := 6) hR (dc dt_X1_told 4 rfl) rfl ?_
  refine r_callV (pc := 7) (rest := [.ref (ad 9)]) hR (dc dt_X1_told 5 rfl) cl_X1_49 tc_4 rfl (ok_F1_formCell q1 q2) (by decide) rfl (Nat.le_of_ble_eq_true rfl) rfl (fun q7r => ?_)
  show Go 10 [some (.ref (ad 4)), some (iv v1), some (iv v2)] [iv (F1_formCell v1 v2), .ref (ad 9)] m
  obtain ⟨g1, h⟩ := gd_some h
  refine r_iald (pc := 10) hR (dc dt_X1_told 6 rfl) tc_9 g1 q7r ?_
  exact r_iret hT (dc dt_X1_told 7 rfl) (Option.some.inj h) rfl (rd_in _ _ _)
def tb_X10_ofCharter : List (Nat × (Instr × Nat)) := [(0, (.aload_n 0, 1)), (1, (.getfield 19, 3)), (4, (.iload_n 1, 1)), (5, (.invokevirtual 112, 3)), (8, (.ifCond .ne 5, 3)), (11, (.iconst (-1), 1)), (12, (.ireturn, 1)), (13, (.iload_n 2, 1)), (14, (.tableswitch 70 0 3 #[30, 40, 50, 60], 30)), (44, (.aload_n 0, 1)), (45, (.getfield 19, 3)), (48, (.getfield 116, 3)), (51, (.iload_n 1, 1)), (52, (.iaload, 1)), (53, (.ireturn, 1)), (54, (.aload_n 0, 1)), (55, (.getfield 19, 3)), (58, (.getfield 118, 3)), (61, (.iload_n 1, 1)), (62, (.iaload, 1)), (63, (.ireturn, 1)), (64, (.aload_n 0, 1)), (65, (.getfield 19, 3)), (68, (.getfield 120, 3)), (71, (.iload_n 1, 1)), (72, (.iaload, 1)), (73, (.ireturn, 1)), (74, (.aload_n 0, 1)), (75, (.getfield 19, 3)), (78, (.getfield 122, 3)), (81, (.iload_n 1, 1)), (82, (.iaload, 1)), (83, (.ireturn, 1)), (84, (.iload_n 2, 1)), (85, (.bipush 10, 2)), (87, (.if_icmp .lt 24, 3)), (90, (.iload_n 2, 1)), (91, (.bipush 26, 2)), (93, (.if_icmp .ge 18, 3)), (96, (.aload_n 0, 1)), (97, (.getfield 19, 3)), (100, (.iload_n 1, 1)), (101, (.iload_n 2, 1)), (102, (.bipush 10, 2)), (104, (.isub, 1)), (105, (.invokevirtual 125, 3)), (108, (.goto 4, 3)), (111, (.iconst (-1), 1)), (112, (.ireturn, 1))]
set_option maxRecDepth 100000 in
theorem dt_X10_ofCharter : (tb_X10_ofCharter.all fun q => decide (decode cX10_ofCharter q.1 = .ok q.2)) = true := by decide +kernel
set_option maxRecDepth 100000 in
set_option maxHeartbeats 4000000 in
theorem ok_F10_ofCharter {m : Mem}  {v1 v2 : Int} (q1 : inR v1) (q2 : inR v2) {out : Int} (h : F10_ofCharter m v1 v2 = some out) : CT l G cy ad tt yX10_ofCharter cX10_ofCharter 3 (some .int) 2 [.ref (ad 0), iv v1, iv v2] m (some (iv out)) (inR out) m := by
  refine CT_of (by decide) (Nat.le_of_ble_eq_true rfl) (fun Go hR hT => ?_)
  replace hR : RS l G cy ad tt RX10 cX10_ofCharter 3 2 Go := hR
  show Go 0 [some (.ref (ad 0)), some (iv v1), some (iv v2)] [] m
  unfold F10_ofCharter at h
  refine r_aload_n (pc := 0) hR (dc dt_X10_ofCharter 0 rfl) rfl ?_
  refine r_getr (pc := 1) (k2 := 4) hR (dc dt_X10_ofCharter 1 rfl) fl_X10_19 tc_0 rfl ?_
  refine r_iload_n (pc := 4) hR (dc dt_X10_ofCharter 2 rfl) rfl ?_
  refine r_callV (pc := 5) (rest := []) hR (dc dt_X10_ofCharter 3 rfl) cl_X10_112 tc_4 rfl (ok_F1_has q1) (by decide) rfl (Nat.le_of_ble_eq_true rfl) rfl (fun q5r => ?_)
  show Go 8 [some (.ref (ad 0)), some (iv v1), some (iv v2)] [iv (F1_has m v1)] m
  refine r_if_ne (pc := 8) (tgt := 13) hR (dc dt_X10_ofCharter 4 rfl) (by decide) (inZ_R q5r) (fun hc => ?_) (fun hc => ?_)
  · replace h := ite_t hc h
    refine r_iload_n (pc := 13) hR (dc dt_X10_ofCharter 7 rfl) rfl ?_
    show Go 14 [some (.ref (ad 0)), some (iv v1), some (iv v2)] [iv v2] m
    by_cases hc0 : v2 = 0
    · replace h := ite_t hc0 h
      refine r_tabIn (pc := 14) (tgt := 44) hR (dc dt_X10_ofCharter 8 rfl) q2 (by omega) (by omega) (by rw [hc0]; rfl) (by decide) ?_
      refine r_aload_n (pc := 44) hR (dc dt_X10_ofCharter 9 rfl) rfl ?_
      refine r_getr (pc := 45) (k2 := 4) hR (dc dt_X10_ofCharter 10 rfl) fl_X10_19 tc_0 rfl ?_
      refine r_getr (pc := 48) (k2 := 5) hR (dc dt_X10_ofCharter 11 rfl) fl_X10_116 tc_4 rfl ?_
      refine r_iload_n (pc := 51) hR (dc dt_X10_ofCharter 12 rfl) rfl ?_
      obtain ⟨g1, h⟩ := gd_some h
      refine r_iald (pc := 52) hR (dc dt_X10_ofCharter 13 rfl) tc_5 g1 q1 ?_
      exact r_iret hT (dc dt_X10_ofCharter 14 rfl) (Option.some.inj h) rfl (rd_in _ _ _)
    replace h := ite_f hc0 h
    by_cases hc1 : v2 = 1
    · replace h := ite_t hc1 h
      refine r_tabIn (pc := 14) (tgt := 54) hR (dc dt_X10_ofCharter 8 rfl) q2 (by omega) (by omega) (by rw [hc1]; rfl) (by decide) ?_
      refine r_aload_n (pc := 54) hR (dc dt_X10_ofCharter 15 rfl) rfl ?_
      refine r_getr (pc := 55) (k2 := 4) hR (dc dt_X10_ofCharter 16 rfl) fl_X10_19 tc_0 rfl ?_
      refine r_getr (pc := 58) (k2 := 6) hR (dc dt_X10_ofCharter 17 rfl) fl_X10_118 tc_4 rfl ?_
      refine r_iload_n (pc := 61) hR (dc dt_X10_ofCharter 18 rfl) rfl ?_
      obtain ⟨g1, h⟩ := gd_some h
      refine r_iald (pc := 62) hR (dc dt_X10_ofCharter 19 rfl) tc_6 g1 q1 ?_
      exact r_iret hT (dc dt_X10_ofCharter 20 rfl) (Option.some.inj h) rfl (rd_in _ _ _)
    replace h := ite_f hc1 h
    by_cases hc2 : v2 = 2
    · replace h := ite_t hc2 h
      refine r_tabIn (pc := 14) (tgt := 64) hR (dc dt_X10_ofCharter 8 rfl) q2 (by omega) (by omega) (by rw [hc2]; rfl) (by decide) ?_
      refine r_aload_n (pc := 64) hR (dc dt_X10_ofCharter 21 rfl) rfl ?_
      refine r_getr (pc := 65) (k2 := 4) hR (dc dt_X10_ofCharter 22 rfl) fl_X10_19 tc_0 rfl ?_
      refine r_getr (pc := 68) (k2 := 7) hR (dc dt_X10_ofCharter 23 rfl) fl_X10_120 tc_4 rfl ?_
      refine r_iload_n (pc := 71) hR (dc dt_X10_ofCharter 24 rfl) rfl ?_
      obtain ⟨g1, h⟩ := gd_some h
      refine r_iald (pc := 72) hR (dc dt_X10_ofCharter 25 rfl) tc_7 g1 q1 ?_
      exact r_iret hT (dc dt_X10_ofCharter 26 rfl) (Option.some.inj h) rfl (rd_in _ _ _)
    replace h := ite_f hc2 h
    by_cases hc3 : v2 = 3
    · replace h := ite_t hc3 h
      refine r_tabIn (pc := 14) (tgt := 74) hR (dc dt_X10_ofCharter 8 rfl) q2 (by omega) (by omega) (by rw [hc3]; rfl) (by decide) ?_
      refine r_aload_n (pc := 74) hR (dc dt_X10_ofCharter 27 rfl) rfl ?_
      refine r_getr (pc := 75) (k2 := 4) hR (dc dt_X10_ofCharter 28 rfl) fl_X10_19 tc_0 rfl ?_
      refine r_getr (pc := 78) (k2 := 8) hR (dc dt_X10_ofCharter 29 rfl) fl_X10_122 tc_4 rfl ?_
      refine r_iload_n (pc := 81) hR (dc dt_X10_ofCharter 30 rfl) rfl ?_
      obtain ⟨g1, h⟩ := gd_some h
      refine r_iald (pc := 82) hR (dc dt_X10_ofCharter 31 rfl) tc_8 g1 q1 ?_
      exact r_iret hT (dc dt_X10_ofCharter 32 rfl) (Option.some.inj h) rfl (rd_in _ _ _)
    replace h := ite_f hc3 h
    refine r_tabOut (pc := 14) (tgt := 84) hR (dc dt_X10_ofCharter 8 rfl) q2 (by omega) (by decide) ?_
    refine r_iload_n (pc := 84) hR (dc dt_X10_ofCharter 33 rfl) rfl ?_
    refine r_bipush (pc := 85) hR (dc dt_X10_ofCharter 34 rfl) (by decide) ?_
    refine jn_e h (fun (K : Option Int) => K = some out → Go 111 [none, none, none] [] m) (fun h => ?_) (fun K111 J111 h => ?_)
    · refine r_iconst (pc := 111) hR (dc dt_X10_ofCharter 47 rfl) ?_
      exact r_iret hT (dc dt_X10_ofCharter 48 rfl) (Option.some.inj h) rfl (rg_c rfl)
    refine r_icmp_lt (pc := 87) (tgt := 111) hR (dc dt_X10_ofCharter 35 rfl) (by decide) q2 (rg_c rfl) (fun hc => ?_) (fun hc => ?_)
    · replace h := ite_t hc h
      refine r_weak (L' := [none, none, none]) hR ⟨Or.inl rfl, Or.inl rfl, Or.inl rfl, trivial⟩ ?_
      exact J111 h
    replace h := ite_f hc h
    refine r_iload_n (pc := 90) hR (dc dt_X10_ofCharter 36 rfl) rfl ?_
    refine r_bipush (pc := 91) hR (dc dt_X10_ofCharter 37 rfl) (by decide) ?_
    refine r_icmp_ge (pc := 93) (tgt := 111) hR (dc dt_X10_ofCharter 38 rfl) (by decide) q2 (rg_c rfl) (fun hc => ?_) (fun hc => ?_)
    · replace h := ite_t hc h
      refine r_weak (L' := [none, none, none]) hR ⟨Or.inl rfl, Or.inl rfl, Or.inl rfl, trivial⟩ ?_
      exact J111 h
    replace h := ite_f hc h
    refine r_aload_n (pc := 96) hR (dc dt_X10_ofCharter 39 rfl) rfl ?_
    refine r_getr (pc := 97) (k2 := 4) hR (dc dt_X10_ofCharter 40 rfl) fl_X10_19 tc_0 rfl ?_
    refine r_iload_n (pc := 100) hR (dc dt_X10_ofCharter 41 rfl) rfl ?_
    refine r_iload_n (pc := 101) hR (dc dt_X10_ofCharter 42 rfl) rfl ?_
    refine r_bipush (pc := 102) hR (dc dt_X10_ofCharter 43 rfl) (by decide) ?_
    refine r_isub (pc := 104) hR (dc dt_X10_ofCharter 44 rfl) ?_
    obtain ⟨r105, e105, h⟩ := b1_some h
    refine r_callV (pc := 105) (rest := []) hR (dc dt_X10_ofCharter 45 rfl) cl_X10_125 tc_4 rfl (ok_F1_told q1 (w32_in _) e105) (by decide) rfl (Nat.le_of_ble_eq_true rfl) rfl (fun q105r => ?_)
    show Go 108 [some (.ref (ad 0)), some (iv v1), some (iv v2)] [iv r105] m
    refine r_goto (pc := 108) (tgt := 112) hR (dc dt_X10_ofCharter 46 rfl) (by decide) ?_
    exact r_iret hT (dc dt_X10_ofCharter 48 rfl) (Option.some.inj h) rfl q105r
  replace h := ite_f hc h
  refine r_iconst (pc := 11) hR (dc dt_X10_ofCharter 5 rfl) ?_
  exact r_iret hT (dc dt_X10_ofCharter 6 rfl) (Option.some.inj h) rfl (rg_c rfl)
def tb_X1_dropOldest : List (Nat × (Instr × Nat)) := [(0, (.aload_n 0, 1)), (1, (.getfield 27, 3)), (4, (.iconst 1, 1)), (5, (.aload_n 0, 1)), (6, (.getfield 27, 3)), (9, (.iconst 0, 1)), (10, (.bipush 39, 2)), (12, (.invokestatic 53, 3)), (15, (.aload_n 0, 1)), (16, (.getfield 30, 3)), (19, (.iconst 1, 1)), (20, (.aload_n 0, 1)), (21, (.getfield 30, 3)), (24, (.iconst 0, 1)), (25, (.bipush 39, 2)), (27, (.invokestatic 53, 3)), (30, (.aload_n 0, 1)), (31, (.getfield 33, 3)), (34, (.iconst 1, 1)), (35, (.aload_n 0, 1)), (36, (.getfield 33, 3)), (39, (.iconst 0, 1)), (40, (.bipush 39, 2)), (42, (.invokestatic 53, 3)), (45, (.aload_n 0, 1)), (46, (.bipush 39, 2)), (48, (.putfield 73, 3)), (51, (.return_, 1))]
set_option maxRecDepth 100000 in
theorem dt_X1_dropOldest : (tb_X1_dropOldest.all fun q => decide (decode cX1_dropOldest q.1 = .ok q.2)) = true := by decide +kernel
set_option maxRecDepth 100000 in
set_option maxHeartbeats 4000000 in
theorem ok_F1_dropOldest {m : Mem}   {out : Mem} (h : F1_dropOldest m = some out) : CT l G cy ad tt yX1_dropOldest cX1_dropOldest 1 none 1 [.ref (ad 4)] m none True out := by
  refine CT_of (by decide) (Nat.le_of_ble_eq_true rfl) (fun Go hR hT => ?_)
  replace hR : RS l G cy ad tt RX1 cX1_dropOldest 1 1 Go := hR
  show Go 0 [some (.ref (ad 4))] [] m
  unfold F1_dropOldest at h
  refine r_aload_n (pc := 0) hR (dc dt_X1_dropOldest 0 rfl) rfl ?_
  refine r_getr (pc := 1) (k2 := 10) hR (dc dt_X1_dropOldest 1 rfl) fl_X1_27 tc_4 rfl ?_
  refine r_iconst (pc := 4) hR (dc dt_X1_dropOldest 2 rfl) ?_
  refine r_aload_n (pc := 5) hR (dc dt_X1_dropOldest 3 rfl) rfl ?_
  refine r_getr (pc := 6) (k2 := 10) hR (dc dt_X1_dropOldest 4 rfl) fl_X1_27 tc_4 rfl ?_
  refine r_iconst (pc := 9) hR (dc dt_X1_dropOldest 5 rfl) ?_
  refine r_bipush (pc := 10) hR (dc dt_X1_dropOldest 6 rfl) (by decide) ?_
  obtain ⟨g1, h⟩ := gd_some h
  refine r_copyi (pc := 12) hR (dc dt_X1_dropOldest 7 rfl) mw_X1_53 tc_10 tc_10 g1 (rg_c rfl) (rg_c rfl) (rg_c rfl) (Nat.le_of_ble_eq_true rfl) (by decide) ?_
  replace h := cpw_e h
  generalize cpy m 10 1 10 0 39 = m12 at h ⊢
  refine r_aload_n (pc := 15) hR (dc dt_X1_dropOldest 8 rfl) rfl ?_
  refine r_getr (pc := 16) (k2 := 11) hR (dc dt_X1_dropOldest 9 rfl) fl_X1_30 tc_4 rfl ?_
  refine r_iconst (pc := 19) hR (dc dt_X1_dropOldest 10 rfl) ?_
  refine r_aload_n (pc := 20) hR (dc dt_X1_dropOldest 11 rfl) rfl ?_
  refine r_getr (pc := 21) (k2 := 11) hR (dc dt_X1_dropOldest 12 rfl) fl_X1_30 tc_4 rfl ?_
  refine r_iconst (pc := 24) hR (dc dt_X1_dropOldest 13 rfl) ?_
  refine r_bipush (pc := 25) hR (dc dt_X1_dropOldest 14 rfl) (by decide) ?_
  obtain ⟨g1, h⟩ := gd_some h
  refine r_copyi (pc := 27) hR (dc dt_X1_dropOldest 15 rfl) mw_X1_53 tc_11 tc_11 g1 (rg_c rfl) (rg_c rfl) (rg_c rfl) (Nat.le_of_ble_eq_true rfl) (by decide) ?_
  replace h := cpw_e h
  generalize cpy m12 11 1 11 0 39 = m27 at h ⊢
  refine r_aload_n (pc := 30) hR (dc dt_X1_dropOldest 16 rfl) rfl ?_
  refine r_getr (pc := 31) (k2 := 12) hR (dc dt_X1_dropOldest 17 rfl) fl_X1_33 tc_4 rfl ?_
  refine r_iconst (pc := 34) hR (dc dt_X1_dropOldest 18 rfl) ?_
  refine r_aload_n (pc := 35) hR (dc dt_X1_dropOldest 19 rfl) rfl ?_
  refine r_getr (pc := 36) (k2 := 12) hR (dc dt_X1_dropOldest 20 rfl) fl_X1_33 tc_4 rfl ?_
  refine r_iconst (pc := 39) hR (dc dt_X1_dropOldest 21 rfl) ?_
  refine r_bipush (pc := 40) hR (dc dt_X1_dropOldest 22 rfl) (by decide) ?_
  obtain ⟨g1, h⟩ := gd_some h
  refine r_copyi (pc := 42) hR (dc dt_X1_dropOldest 23 rfl) mw_X1_53 tc_12 tc_12 g1 (rg_c rfl) (rg_c rfl) (rg_c rfl) (Nat.le_of_ble_eq_true rfl) (by decide) ?_
  replace h := cpw_e h
  generalize cpy m27 12 1 12 0 39 = m42 at h ⊢
  refine r_aload_n (pc := 45) hR (dc dt_X1_dropOldest 24 rfl) rfl ?_
  refine r_bipush (pc := 46) hR (dc dt_X1_dropOldest 25 rfl) (by decide) ?_
  refine r_puti (pc := 48) hR (dc dt_X1_dropOldest 26 rfl) fl_X1_73 tc_4 rfl rfl rfl ?_
  replace h := stw_e h
  generalize wr m42 4 10 39 = m48 at h ⊢
  exact r_vret hT (dc dt_X1_dropOldest 27 rfl) (Option.some.inj h)
def tb_X1_change : List (Nat × (Instr × Nat)) := [(0, (.aload_n 0, 1)), (1, (.getfield 24, 3)), (4, (.iload_n 1, 1)), (5, (.iaload, 1)), (6, (.istore_n 3, 1)), (7, (.iload_n 3, 1)), (8, (.iload_n 2, 1)), (9, (.if_icmp .ne 5, 3)), (12, (.iload_n 3, 1)), (13, (.ireturn, 1)), (14, (.aload_n 0, 1)), (15, (.getfield 73, 3)), (18, (.bipush 40, 2)), (20, (.if_icmp .lt 7, 3)), (23, (.aload_n 0, 1)), (24, (.invokevirtual 76, 3)), (27, (.aload_n 0, 1)), (28, (.getfield 27, 3)), (31, (.aload_n 0, 1)), (32, (.getfield 73, 3)), (35, (.iload_n 1, 1)), (36, (.iastore, 1)), (37, (.aload_n 0, 1)), (38, (.getfield 30, 3)), (41, (.aload_n 0, 1)), (42, (.getfield 73, 3)), (45, (.iload_n 3, 1)), (46, (.iastore, 1)), (47, (.aload_n 0, 1)), (48, (.getfield 33, 3)), (51, (.aload_n 0, 1)), (52, (.getfield 73, 3)), (55, (.iload_n 2, 1)), (56, (.iastore, 1)), (57, (.aload_n 0, 1)), (58, (.dup, 1)), (59, (.getfield 73, 3)), (62, (.iconst 1, 1)), (63, (.iadd, 1)), (64, (.putfield 73, 3)), (67, (.aload_n 0, 1)), (68, (.iconst 0, 1)), (69, (.putfield 79, 3)), (72, (.aload_n 0, 1)), (73, (.getfield 24, 3)), (76, (.iload_n 1, 1)), (77, (.iload_n 2, 1)), (78, (.iastore, 1)), (79, (.aload_n 0, 1)), (80, (.dup, 1)), (81, (.getfield 82, 3)), (84, (.iconst 1, 1)), (85, (.iadd, 1)), (86, (.putfield 82, 3)), (89, (.iload_n 3, 1)), (90, (.ireturn, 1))]
set_option maxRecDepth 100000 in
theorem dt_X1_change : (tb_X1_change.all fun q => decide (decode cX1_change q.1 = .ok q.2)) = true := by decide +kernel
set_option maxRecDepth 100000 in
set_option maxHeartbeats 4000000 in
theorem ok_F1_change {m : Mem}  {v1 v2 : Int} (q1 : inR v1) (q2 : inR v2) {out : Int × Mem} (h : F1_change m v1 v2 = some out) : CT l G cy ad tt yX1_change cX1_change 4 (some .int) 2 [.ref (ad 4), iv v1, iv v2] m (some (iv out.1)) (inR out.1) out.2 := by
  refine CT_of (by decide) (Nat.le_of_ble_eq_true rfl) (fun Go hR hT => ?_)
  replace hR : RS l G cy ad tt RX1 cX1_change 4 2 Go := hR
  show Go 0 [some (.ref (ad 4)), some (iv v1), some (iv v2), none] [] m
  unfold F1_change at h
  refine r_aload_n (pc := 0) hR (dc dt_X1_change 0 rfl) rfl ?_
  refine r_getr (pc := 1) (k2 := 9) hR (dc dt_X1_change 1 rfl) fl_X1_24 tc_4 rfl ?_
  refine r_iload_n (pc := 4) hR (dc dt_X1_change 2 rfl) rfl ?_
  obtain ⟨g1, h⟩ := gd_some h
  refine r_iald (pc := 5) hR (dc dt_X1_change 3 rfl) tc_9 g1 q1 ?_
  refine r_istore_n (pc := 6) (L' := [some (.ref (ad 4)), some (iv v1), some (iv v2), some (iv (rd m 9 v1))]) hR (dc dt_X1_change 4 rfl) (by decide) rfl rfl ?_
  refine r_iload_n (pc := 7) hR (dc dt_X1_change 5 rfl) rfl ?_
  refine r_iload_n (pc := 8) hR (dc dt_X1_change 6 rfl) rfl ?_
  refine r_icmp_ne (pc := 9) (tgt := 14) hR (dc dt_X1_change 7 rfl) (by decide) (rd_in _ _ _) q2 (fun hc => ?_) (fun hc => ?_)
  · replace h := ite_t hc h
    refine r_aload_n (pc := 14) hR (dc dt_X1_change 10 rfl) rfl ?_
    refine r_geti (pc := 15) hR (dc dt_X1_change 11 rfl) fl_X1_73 tc_4 rfl ?_
    refine r_bipush (pc := 18) hR (dc dt_X1_change 12 rfl) (by decide) ?_
    refine jn_e h (fun (K : Mem → Option (Int × Mem)) => ∀ (m_27 : Mem), K m_27 = some out → Go 27 [some (.ref (ad 4)), some (iv v1), some (iv v2), some (iv (rd m 9 v1))] [] m_27) (fun m_27 h => ?_) (fun K27 J27 h => ?_)
    · refine r_aload_n (pc := 27) hR (dc dt_X1_change 16 rfl) rfl ?_
      refine r_getr (pc := 28) (k2 := 10) hR (dc dt_X1_change 17 rfl) fl_X1_27 tc_4 rfl ?_
      refine r_aload_n (pc := 31) hR (dc dt_X1_change 18 rfl) rfl ?_
      refine r_geti (pc := 32) hR (dc dt_X1_change 19 rfl) fl_X1_73 tc_4 rfl ?_
      refine r_iload_n (pc := 35) hR (dc dt_X1_change 20 rfl) rfl ?_
      obtain ⟨g1, h⟩ := gd_some h
      refine r_iast (pc := 36) hR (dc dt_X1_change 21 rfl) tc_10 g1 (rd_in _ _ _) ?_
      replace h := stw_e h
      generalize wr m_27 10 (rd m_27 4 10) v1 = m36 at h ⊢
      refine r_aload_n (pc := 37) hR (dc dt_X1_change 22 rfl) rfl ?_
      refine r_getr (pc := 38) (k2 := 11) hR (dc dt_X1_change 23 rfl) fl_X1_30 tc_4 rfl ?_
      refine r_aload_n (pc := 41) hR (dc dt_X1_change 24 rfl) rfl ?_
      refine r_geti (pc := 42) hR (dc dt_X1_change 25 rfl) fl_X1_73 tc_4 rfl ?_
      refine r_iload_n (pc := 45) hR (dc dt_X1_change 26 rfl) rfl ?_
      obtain ⟨g1, h⟩ := gd_some h
      refine r_iast (pc := 46) hR (dc dt_X1_change 27 rfl) tc_11 g1 (rd_in _ _ _) ?_
      replace h := stw_e h
      generalize wr m36 11 (rd m36 4 10) (rd m 9 v1) = m46 at h ⊢
      refine r_aload_n (pc := 47) hR (dc dt_X1_change 28 rfl) rfl ?_
      refine r_getr (pc := 48) (k2 := 12) hR (dc dt_X1_change 29 rfl) fl_X1_33 tc_4 rfl ?_
      refine r_aload_n (pc := 51) hR (dc dt_X1_change 30 rfl) rfl ?_
      refine r_geti (pc := 52) hR (dc dt_X1_change 31 rfl) fl_X1_73 tc_4 rfl ?_
      refine r_iload_n (pc := 55) hR (dc dt_X1_change 32 rfl) rfl ?_
      obtain ⟨g1, h⟩ := gd_some h
      refine r_iast (pc := 56) hR (dc dt_X1_change 33 rfl) tc_12 g1 (rd_in _ _ _) ?_
      replace h := stw_e h
      generalize wr m46 12 (rd m46 4 10) v2 = m56 at h ⊢
      refine r_aload_n (pc := 57) hR (dc dt_X1_change 34 rfl) rfl ?_
      refine r_dup (pc := 58) hR (dc dt_X1_change 35 rfl) rfl ?_
      refine r_geti (pc := 59) hR (dc dt_X1_change 36 rfl) fl_X1_73 tc_4 rfl ?_
      refine r_iconst (pc := 62) hR (dc dt_X1_change 37 rfl) ?_
      refine r_iadd (pc := 63) hR (dc dt_X1_change 38 rfl) ?_
      refine r_puti (pc := 64) hR (dc dt_X1_change 39 rfl) fl_X1_73 tc_4 rfl rfl rfl ?_
      replace h := stw_e h
      generalize wr m56 4 10 (w32 ((rd m56 4 10) + 1)) = m64 at h ⊢
      refine r_aload_n (pc := 67) hR (dc dt_X1_change 40 rfl) rfl ?_
      refine r_iconst (pc := 68) hR (dc dt_X1_change 41 rfl) ?_
      refine r_puti (pc := 69) hR (dc dt_X1_change 42 rfl) fl_X1_79 tc_4 rfl rfl rfl ?_
      replace h := stw_e h
      generalize wr m64 4 11 0 = m69 at h ⊢
      refine r_aload_n (pc := 72) hR (dc dt_X1_change 43 rfl) rfl ?_
      refine r_getr (pc := 73) (k2 := 9) hR (dc dt_X1_change 44 rfl) fl_X1_24 tc_4 rfl ?_
      refine r_iload_n (pc := 76) hR (dc dt_X1_change 45 rfl) rfl ?_
      refine r_iload_n (pc := 77) hR (dc dt_X1_change 46 rfl) rfl ?_
      obtain ⟨g1, h⟩ := gd_some h
      refine r_iast (pc := 78) hR (dc dt_X1_change 47 rfl) tc_9 g1 q1 ?_
      replace h := stw_e h
      generalize wr m69 9 v1 v2 = m78 at h ⊢
      refine r_aload_n (pc := 79) hR (dc dt_X1_change 48 rfl) rfl ?_
      refine r_dup (pc := 80) hR (dc dt_X1_change 49 rfl) rfl ?_
      refine r_geti (pc := 81) hR (dc dt_X1_change 50 rfl) fl_X1_82 tc_4 rfl ?_
      refine r_iconst (pc := 84) hR (dc dt_X1_change 51 rfl) ?_
      refine r_iadd (pc := 85) hR (dc dt_X1_change 52 rfl) ?_
      refine r_puti (pc := 86) hR (dc dt_X1_change 53 rfl) fl_X1_82 tc_4 rfl rfl rfl ?_
      replace h := stw_e h
      generalize wr m78 4 12 (w32 ((rd m78 4 12) + 1)) = m86 at h ⊢
      refine r_iload_n (pc := 89) hR (dc dt_X1_change 54 rfl) rfl ?_
      exact r_iret hT (dc dt_X1_change 55 rfl) (congrArg Prod.fst (Option.some.inj h)) (congrArg Prod.snd (Option.some.inj h)) (rd_in _ _ _)
    refine r_icmp_lt (pc := 20) (tgt := 27) hR (dc dt_X1_change 13 rfl) (by decide) (rd_in _ _ _) (rg_c rfl) (fun hc => ?_) (fun hc => ?_)
    · replace h := ite_t hc h
      exact J27 m h
    replace h := ite_f hc h
    refine r_aload_n (pc := 23) hR (dc dt_X1_change 14 rfl) rfl ?_
    obtain ⟨m24, e24, h⟩ := b1_some h
    refine r_callV (pc := 24) (rest := []) hR (dc dt_X1_change 15 rfl) cl_X1_76 tc_4 rfl (ok_F1_dropOldest  e24) (by decide) rfl (Nat.le_of_ble_eq_true rfl) rfl (fun q24r => ?_)
    show Go 27 [some (.ref (ad 4)), some (iv v1), some (iv v2), some (iv (rd m 9 v1))] [] m24
    exact J27 m24 h
  replace h := ite_f hc h
  refine r_iload_n (pc := 12) hR (dc dt_X1_change 8 rfl) rfl ?_
  exact r_iret hT (dc dt_X1_change 9 rfl) (congrArg Prod.fst (Option.some.inj h)) (congrArg Prod.snd (Option.some.inj h)) (rd_in _ _ _)
def tb_X10_form : List (Nat × (Instr × Nat)) := [(0, (.aload_n 0, 1)), (1, (.getfield 19, 3)), (4, (.iload_n 1, 1)), (5, (.invokevirtual 112, 3)), (8, (.ifCond .eq 17, 3)), (11, (.iload_n 2, 1)), (12, (.invokestatic 128, 3)), (15, (.ifCond .eq 10, 3)), (18, (.iload_n 3, 1)), (19, (.invokestatic 131, 3)), (22, (.ifCond .ne 5, 3)), (25, (.iconst (-1), 1)), (26, (.ireturn, 1)), (27, (.aload_n 0, 1)), (28, (.getfield 19, 3)), (31, (.aload_n 0, 1)), (32, (.getfield 19, 3)), (35, (.iload_n 1, 1)), (36, (.iload_n 2, 1)), (37, (.invokevirtual 134, 3)), (40, (.iload_n 3, 1)), (41, (.invokevirtual 137, 3)), (44, (.ireturn, 1))]
set_option maxRecDepth 100000 in
theorem dt_X10_form : (tb_X10_form.all fun q => decide (decode cX10_form q.1 = .ok q.2)) = true := by decide +kernel
set_option maxRecDepth 100000 in
set_option maxHeartbeats 4000000 in
theorem ok_F10_form {m : Mem}  {v1 v2 v3 : Int} (q1 : inR v1) (q2 : inR v2) (q3 : inR v3) {out : Int × Mem} (h : F10_form m v1 v2 v3 = some out) : CT l G cy ad tt yX10_form cX10_form 4 (some .int) 3 [.ref (ad 0), iv v1, iv v2, iv v3] m (some (iv out.1)) (inR out.1) out.2 := by
  refine CT_of (by decide) (Nat.le_of_ble_eq_true rfl) (fun Go hR hT => ?_)
  replace hR : RS l G cy ad tt RX10 cX10_form 4 3 Go := hR
  show Go 0 [some (.ref (ad 0)), some (iv v1), some (iv v2), some (iv v3)] [] m
  unfold F10_form at h
  refine r_aload_n (pc := 0) hR (dc dt_X10_form 0 rfl) rfl ?_
  refine r_getr (pc := 1) (k2 := 4) hR (dc dt_X10_form 1 rfl) fl_X10_19 tc_0 rfl ?_
  refine r_iload_n (pc := 4) hR (dc dt_X10_form 2 rfl) rfl ?_
  refine r_callV (pc := 5) (rest := []) hR (dc dt_X10_form 3 rfl) cl_X10_112 tc_4 rfl (ok_F1_has q1) (by decide) rfl (Nat.le_of_ble_eq_true rfl) rfl (fun q5r => ?_)
  show Go 8 [some (.ref (ad 0)), some (iv v1), some (iv v2), some (iv v3)] [iv (F1_has m v1)] m
  refine r_if_eq (pc := 8) (tgt := 25) hR (dc dt_X10_form 4 rfl) (by decide) (inZ_R q5r) (fun hc => ?_) (fun hc => ?_)
  · replace h := ite_t hc h
    refine r_iconst (pc := 25) hR (dc dt_X10_form 11 rfl) ?_
    exact r_iret hT (dc dt_X10_form 12 rfl) (congrArg Prod.fst (Option.some.inj h)) (congrArg Prod.snd (Option.some.inj h)) (rg_c rfl)
  replace h := ite_f hc h
  refine r_iload_n (pc := 11) hR (dc dt_X10_form 5 rfl) rfl ?_
  refine r_callS (pc := 12) (rest := []) hR (dc dt_X10_form 6 rfl) cl_X10_128 (ok_F10_isClause q2) (by decide) rfl (Nat.le_of_ble_eq_true rfl) rfl (fun q12r => ?_)
  show Go 15 [some (.ref (ad 0)), some (iv v1), some (iv v2), some (iv v3)] [iv (F10_isClause v2)] m
  refine r_if_eq (pc := 15) (tgt := 25) hR (dc dt_X10_form 7 rfl) (by decide) (inZ_R q12r) (fun hc => ?_) (fun hc => ?_)
  · replace h := ite_t hc h
    refine r_iconst (pc := 25) hR (dc dt_X10_form 11 rfl) ?_
    exact r_iret hT (dc dt_X10_form 12 rfl) (congrArg Prod.fst (Option.some.inj h)) (congrArg Prod.snd (Option.some.inj h)) (rg_c rfl)
  replace h := ite_f hc h
  refine r_iload_n (pc := 18) hR (dc dt_X10_form 8 rfl) rfl ?_
  refine r_callS (pc := 19) (rest := []) hR (dc dt_X10_form 9 rfl) cl_X10_131 (ok_F10_isForm q3) (by decide) rfl (Nat.le_of_ble_eq_true rfl) rfl (fun q19r => ?_)
  show Go 22 [some (.ref (ad 0)), some (iv v1), some (iv v2), some (iv v3)] [iv (F10_isForm v3)] m
  refine r_if_ne (pc := 22) (tgt := 27) hR (dc dt_X10_form 10 rfl) (by decide) (inZ_R q19r) (fun hc => ?_) (fun hc => ?_)
  · replace h := ite_t hc h
    refine r_aload_n (pc := 27) hR (dc dt_X10_form 13 rfl) rfl ?_
    refine r_getr (pc := 28) (k2 := 4) hR (dc dt_X10_form 14 rfl) fl_X10_19 tc_0 rfl ?_
    refine r_aload_n (pc := 31) hR (dc dt_X10_form 15 rfl) rfl ?_
    refine r_getr (pc := 32) (k2 := 4) hR (dc dt_X10_form 16 rfl) fl_X10_19 tc_0 rfl ?_
    refine r_iload_n (pc := 35) hR (dc dt_X10_form 17 rfl) rfl ?_
    refine r_iload_n (pc := 36) hR (dc dt_X10_form 18 rfl) rfl ?_
    refine r_callV (pc := 37) (rest := [.ref (ad 4)]) hR (dc dt_X10_form 19 rfl) cl_X10_134 tc_4 rfl (ok_F1_formCell q1 q2) (by decide) rfl (Nat.le_of_ble_eq_true rfl) rfl (fun q37r => ?_)
    show Go 40 [some (.ref (ad 0)), some (iv v1), some (iv v2), some (iv v3)] [iv (F1_formCell v1 v2), .ref (ad 4)] m
    refine r_iload_n (pc := 40) hR (dc dt_X10_form 20 rfl) rfl ?_
    obtain ⟨r41, m41, e41, h⟩ := b2_some h
    refine r_callV (pc := 41) (rest := []) hR (dc dt_X10_form 21 rfl) cl_X10_137 tc_4 rfl (ok_F1_change q37r q3 e41) (by decide) rfl (Nat.le_of_ble_eq_true rfl) rfl (fun q41r => ?_)
    show Go 44 [some (.ref (ad 0)), some (iv v1), some (iv v2), some (iv v3)] [iv r41] m41
    exact r_iret hT (dc dt_X10_form 22 rfl) (congrArg Prod.fst (Option.some.inj h)) (congrArg Prod.snd (Option.some.inj h)) q41r
  replace h := ite_f hc h
  refine r_iconst (pc := 25) hR (dc dt_X10_form 11 rfl) ?_
  exact r_iret hT (dc dt_X10_form 12 rfl) (congrArg Prod.fst (Option.some.inj h)) (congrArg Prod.snd (Option.some.inj h)) (rg_c rfl)
def tb_X10_isShelf : List (Nat × (Instr × Nat)) := [(0, (.iload_n 0, 1)), (1, (.ifCond .lt 13, 3)), (4, (.iload_n 0, 1)), (5, (.bipush 6, 2)), (7, (.if_icmp .ge 7, 3)), (10, (.iconst 1, 1)), (11, (.goto 4, 3)), (14, (.iconst 0, 1)), (15, (.ireturn, 1))]
set_option maxRecDepth 100000 in
theorem dt_X10_isShelf : (tb_X10_isShelf.all fun q => decide (decode cX10_isShelf q.1 = .ok q.2)) = true := by decide +kernel
set_option maxRecDepth 100000 in
set_option maxHeartbeats 4000000 in
theorem ok_F10_isShelf {m : Mem}  {v0 : Int} (q0 : inR v0) : CT l G cy ad tt yX10_isShelf cX10_isShelf 1 (some .boolean) 0 [iv v0] m (some (iv (F10_isShelf v0))) (inZ (F10_isShelf v0)) m := by
  refine CT_of (by decide) (Nat.le_of_ble_eq_true rfl) (fun Go hR hT => ?_)
  replace hR : RS l G cy ad tt RX10 cX10_isShelf 1 0 Go := hR
  show Go 0 [some (iv v0)] [] m
  obtain ⟨out, h⟩ : ∃ out, F10_isShelf v0 = out := ⟨_, rfl⟩
  rw [h] at hT
  unfold F10_isShelf at h
  refine r_iload_n (pc := 0) hR (dc dt_X10_isShelf 0 rfl) rfl ?_
  refine jn_e h (fun (K : Int) => K = out → Go 14 [none] [] m) (fun h => ?_) (fun K14 J14 h => ?_)
  · refine r_iconst (pc := 14) hR (dc dt_X10_isShelf 7 rfl) ?_
    exact r_zret hT (dc dt_X10_isShelf 8 rfl) h rfl (Or.inl rfl)
  refine r_if_lt (pc := 1) (tgt := 14) hR (dc dt_X10_isShelf 1 rfl) (by decide) q0 (fun hc => ?_) (fun hc => ?_)
  · replace h := ite_t hc h
    refine r_weak (L' := [none]) hR ⟨Or.inl rfl, trivial⟩ ?_
    exact J14 h
  replace h := ite_f hc h
  refine r_iload_n (pc := 4) hR (dc dt_X10_isShelf 2 rfl) rfl ?_
  refine r_bipush (pc := 5) hR (dc dt_X10_isShelf 3 rfl) (by decide) ?_
  refine r_icmp_ge (pc := 7) (tgt := 14) hR (dc dt_X10_isShelf 4 rfl) (by decide) q0 (rg_c rfl) (fun hc => ?_) (fun hc => ?_)
  · replace h := ite_t hc h
    refine r_weak (L' := [none]) hR ⟨Or.inl rfl, trivial⟩ ?_
    exact J14 h
  replace h := ite_f hc h
  refine r_iconst (pc := 10) hR (dc dt_X10_isShelf 5 rfl) ?_
  refine r_goto (pc := 11) (tgt := 15) hR (dc dt_X10_isShelf 6 rfl) (by decide) ?_
  exact r_zret hT (dc dt_X10_isShelf 8 rfl) h rfl (Or.inr rfl)
def tb_X6_hasPlace : List (Nat × (Instr × Nat)) := [(0, (.lload_n 1, 1)), (1, (.lconst 0, 1)), (2, (.lcmp, 1)), (3, (.ifCond .lt 17, 3)), (6, (.lload_n 1, 1)), (7, (.aload_n 0, 1)), (8, (.getfield 23, 3)), (11, (.i2l, 1)), (12, (.lcmp, 1)), (13, (.ifCond .ge 7, 3)), (16, (.iconst 1, 1)), (17, (.goto 4, 3)), (20, (.iconst 0, 1)), (21, (.ireturn, 1))]
set_option maxRecDepth 100000 in
theorem dt_X6_hasPlace : (tb_X6_hasPlace.all fun q => decide (decode cX6_hasPlace q.1 = .ok q.2)) = true := by decide +kernel
set_option maxRecDepth 100000 in
set_option maxHeartbeats 4000000 in
theorem ok_F6_hasPlace {m : Mem} {o : Nat} {v1 : Int} (hS0 : isSh o) (q1 : inL v1) : CT l G cy ad tt yX6_hasPlace cX6_hasPlace 3 (some .boolean) 0 [.ref (ad o), jv v1] m (some (iv (F6_hasPlace m o v1))) (inZ (F6_hasPlace m o v1)) m := by
  refine CT_of (by decide) (Nat.le_of_ble_eq_true rfl) (fun Go hR hT => ?_)
  replace hR : RS l G cy ad tt RX6 cX6_hasPlace 3 0 Go := hR
  show Go 0 [some (.ref (ad o)), some (jv v1), none] [] m
  obtain ⟨out, h⟩ : ∃ out, F6_hasPlace m o v1 = out := ⟨_, rfl⟩
  rw [h] at hT
  unfold F6_hasPlace at h
  refine r_lload_n (pc := 0) hR (dc dt_X6_hasPlace 0 rfl) rfl ?_
  refine r_lconst (pc := 1) hR (dc dt_X6_hasPlace 1 rfl) ?_
  show Go 2 [some (.ref (ad o)), some (jv v1), none] [jv 0, jv v1] m
  refine r_lcmp (pc := 2) hR (dc dt_X6_hasPlace 2 rfl) q1 (rg_l (by decide)) ?_
  refine jn_e h (fun (K : Int) => K = out → Go 20 [none, none, none] [] m) (fun h => ?_) (fun K20 J20 h => ?_)
  · refine r_iconst (pc := 20) hR (dc dt_X6_hasPlace 12 rfl) ?_
    exact r_zret hT (dc dt_X6_hasPlace 13 rfl) h rfl (Or.inl rfl)
  refine r_if_lt (pc := 3) (tgt := 20) hR (dc dt_X6_hasPlace 3 rfl) (by decide) (lcm_in _ _) (fun hc => ?_) (fun hc => ?_)
  · replace h := ite_t hc h
    refine r_weak (L' := [none, none, none]) hR ⟨Or.inl rfl, Or.inl rfl, Or.inr rfl, trivial⟩ ?_
    exact J20 h
  replace h := ite_f hc h
  refine r_lload_n (pc := 6) hR (dc dt_X6_hasPlace 4 rfl) rfl ?_
  refine r_aload_n (pc := 7) hR (dc dt_X6_hasPlace 5 rfl) rfl ?_
  refine r_geti (pc := 8) hR (dc dt_X6_hasPlace 6 rfl) fl_X6_23 hS0.1 rfl ?_
  refine r_i2l (pc := 11) hR (dc dt_X6_hasPlace 7 rfl) (rd_in _ _ _) ?_
  refine r_lcmp (pc := 12) hR (dc dt_X6_hasPlace 8 rfl) q1 (R_L (rd_in _ _ _)) ?_
  refine r_if_ge (pc := 13) (tgt := 20) hR (dc dt_X6_hasPlace 9 rfl) (by decide) (lcm_in _ _) (fun hc => ?_) (fun hc => ?_)
  · replace h := ite_t hc h
    refine r_weak (L' := [none, none, none]) hR ⟨Or.inl rfl, Or.inl rfl, Or.inr rfl, trivial⟩ ?_
    exact J20 h
  replace h := ite_f hc h
  refine r_iconst (pc := 16) hR (dc dt_X6_hasPlace 10 rfl) ?_
  refine r_goto (pc := 17) (tgt := 21) hR (dc dt_X6_hasPlace 11 rfl) (by decide) ?_
  exact r_zret hT (dc dt_X6_hasPlace 13 rfl) h rfl (Or.inr rfl)
def tb_X10_forms : List (Nat × (Instr × Nat)) := [(0, (.aload_n 0, 1)), (1, (.getfield 19, 3)), (4, (.iload_n 1, 1)), (5, (.invokevirtual 112, 3)), (8, (.ifCond .eq 23, 3)), (11, (.iload_n 2, 1)), (12, (.invokestatic 140, 3)), (15, (.ifCond .eq 16, 3)), (18, (.iload 4, 2)), (20, (.iconst 1, 1)), (21, (.if_icmp .lt 10, 3)), (24, (.iload 4, 2)), (26, (.bipush 16, 2)), (28, (.if_icmp .le 5, 3)), (31, (.iconst (-1), 1)), (32, (.ireturn, 1)), (33, (.aload_n 0, 1)), (34, (.getfield 71, 3)), (37, (.iload_n 2, 1)), (38, (.aaload, 1)), (39, (.astore 5, 2)), (41, (.aload 5, 2)), (43, (.getfield 143, 3)), (46, (.ifCond .ne 5, 3)), (49, (.iconst 0, 1)), (50, (.ireturn, 1)), (51, (.aload 5, 2)), (53, (.getfield 143, 3)), (56, (.iconst 2, 1)), (57, (.if_icmp .ne 11, 3)), (60, (.aload 5, 2)), (62, (.getfield 146, 3)), (65, (.ifCond .eq 6, 3)), (68, (.bipush (-12), 2)), (70, (.ireturn, 1)), (71, (.iconst 0, 1)), (72, (.istore 6, 2)), (74, (.iload 6, 2)), (76, (.iload 4, 2)), (78, (.if_icmp .ge 67, 3)), (81, (.aload 5, 2)), (83, (.iload_n 3, 1)), (84, (.i2l, 1)), (85, (.iload 6, 2)), (87, (.i2l, 1)), (88, (.ladd, 1)), (89, (.invokevirtual 149, 3)), (92, (.ifCond .eq 53, 3)), (95, (.aload 5, 2)), (97, (.getfield 153, 3)), (100, (.iload_n 3, 1)), (101, (.iload 6, 2)), (103, (.iadd, 1)), (104, (.laload, 1)), (105, (.l2i, 1)), (106, (.istore 7, 2)), (108, (.iload 7, 2)), (110, (.invokestatic 131, 3)), (113, (.ifCond .ne 6, 3)), (116, (.goto 29, 3)), (119, (.aload_n 0, 1)), (120, (.getfield 19, 3)), (123, (.aload_n 0, 1)), (124, (.getfield 19, 3)), (127, (.iload_n 1, 1)), (128, (.iload 6, 2)), (130, (.invokevirtual 134, 3)), (133, (.iload 7, 2)), (135, (.invokevirtual 137, 3)), (138, (.pop, 1)), (139, (.iinc 6 1, 3)), (142, (.goto (-68), 3)), (145, (.iload 6, 2)), (147, (.ireturn, 1))]
set_option maxRecDepth 100000 in
theorem dt_X10_forms : (tb_X10_forms.all fun q => decide (decode cX10_forms q.1 = .ok q.2)) = true := by decide +kernel
set_option maxRecDepth 100000 in
set_option maxHeartbeats 4000000 in
theorem lp_L10_forms_74 {Go : Nat → List (Option Value) → List Value → Mem → Prop} (hR : RS l G cy ad tt RX10 cX10_forms 8 3 Go) {out : Int × Mem} (hT : RT cX10_forms (some (iv out.1)) (inR out.1) out.2 (some .int) Go) {v1 : Int} {v3 : Int} {v4 : Int} {o5 : Nat} (qv1 : inR v1) (qv3 : inR v3) (qv4 : inR v4) (ho5 : isSh o5) {k116 : Int → Mem → Option (Int × Mem)} (hk116 : ∀ (v6 : Int) (m : Mem), inR v6 → k116 v6 m = some out → Go 116 [none, none, none, none, none, none, some (iv v6), none] [] m) : ∀ (n : Nat) (v6 : Int) (m : Mem), inR v6 → L10_forms_74 v1 v3 v4 o5 k116 n v6 m = some out → Go 74 [some (.ref (ad 0)), some (iv v1), none, some (iv v3), some (iv v4), some (.ref (ad o5)), some (iv v6), none] [] m := by
  intro n
  induction n with
  | zero =>
    intro v6 m qv6 h
    cases h
  | succ n ih =>
    intro v6 m qv6 h
    rw [L10_forms_74] at h
    refine r_iload (pc := 74) hR (dc dt_X10_forms 37 rfl) rfl ?_
    refine r_iload (pc := 76) hR (dc dt_X10_forms 38 rfl) rfl ?_
    refine r_icmp_ge (pc := 78) (tgt := 145) hR (dc dt_X10_forms 39 rfl) (by decide) qv6 qv4 (fun hc => ?_) (fun hc => ?_)
    · replace h := ite_t hc h
      refine r_iload (pc := 145) hR (dc dt_X10_forms 72 rfl) rfl ?_
      exact r_iret hT (dc dt_X10_forms 73 rfl) (congrArg Prod.fst (Option.some.inj h)) (congrArg Prod.snd (Option.some.inj h)) qv6
    replace h := ite_f hc h
    refine r_aload (pc := 81) hR (dc dt_X10_forms 40 rfl) rfl ?_
    refine r_iload_n (pc := 83) hR (dc dt_X10_forms 41 rfl) rfl ?_
    refine r_i2l (pc := 84) hR (dc dt_X10_forms 42 rfl) qv3 ?_
    refine r_iload (pc := 85) hR (dc dt_X10_forms 43 rfl) rfl ?_
    refine r_i2l (pc := 87) hR (dc dt_X10_forms 44 rfl) qv6 ?_
    refine r_ladd (pc := 88) hR (dc dt_X10_forms 45 rfl) ?_
    refine r_callV (pc := 89) (rest := []) hR (dc dt_X10_forms 46 rfl) cl_X10_149 ho5.1 rfl (ok_F6_hasPlace ho5 (w64_in _)) (by decide) rfl (Nat.le_of_ble_eq_true rfl) rfl (fun q89r => ?_)
    show Go 92 [some (.ref (ad 0)), some (iv v1), none, some (iv v3), some (iv v4), some (.ref (ad o5)), some (iv v6), none] [iv (F6_hasPlace m o5 (w64 (v3 + v6)))] m
    refine r_if_eq (pc := 92) (tgt := 145) hR (dc dt_X10_forms 47 rfl) (by decide) (inZ_R q89r) (fun hc => ?_) (fun hc => ?_)
    · replace h := ite_t hc h
      refine r_iload (pc := 145) hR (dc dt_X10_forms 72 rfl) rfl ?_
      exact r_iret hT (dc dt_X10_forms 73 rfl) (congrArg Prod.fst (Option.some.inj h)) (congrArg Prod.snd (Option.some.inj h)) qv6
    replace h := ite_f hc h
    refine r_aload (pc := 95) hR (dc dt_X10_forms 48 rfl) rfl ?_
    refine r_getr (pc := 97) (k2 := o5 + 1) hR (dc dt_X10_forms 49 rfl) fl_X10_153 ho5.1 rfl ?_
    refine r_iload_n (pc := 100) hR (dc dt_X10_forms 50 rfl) rfl ?_
    refine r_iload (pc := 101) hR (dc dt_X10_forms 51 rfl) rfl ?_
    refine r_iadd (pc := 103) hR (dc dt_X10_forms 52 rfl) ?_
    obtain ⟨g1, h⟩ := gd_some h
    refine r_lald (pc := 104) hR (dc dt_X10_forms 53 rfl) ho5.2 g1 (w32_in _) ?_
    refine r_l2i (pc := 105) hR (dc dt_X10_forms 54 rfl) ?_
    refine r_istore (pc := 106) (L' := [some (.ref (ad 0)), some (iv v1), none, some (iv v3), some (iv v4), some (.ref (ad o5)), some (iv v6), some (iv (w32 (rl m (o5 + 1) (w32 (v3 + v6)))))]) hR (dc dt_X10_forms 55 rfl) (by decide) rfl rfl ?_
    refine r_iload (pc := 108) hR (dc dt_X10_forms 56 rfl) rfl ?_
    refine r_callS (pc := 110) (rest := []) hR (dc dt_X10_forms 57 rfl) cl_X10_131 (ok_F10_isForm (w32_in _)) (by decide) rfl (Nat.le_of_ble_eq_true rfl) rfl (fun q110r => ?_)
    show Go 113 [some (.ref (ad 0)), some (iv v1), none, some (iv v3), some (iv v4), some (.ref (ad o5)), some (iv v6), some (iv (w32 (rl m (o5 + 1) (w32 (v3 + v6)))))] [iv (F10_isForm (w32 (rl m (o5 + 1) (w32 (v3 + v6)))))] m
    refine r_if_ne (pc := 113) (tgt := 119) hR (dc dt_X10_forms 58 rfl) (by decide) (inZ_R q110r) (fun hc => ?_) (fun hc => ?_)
    · replace h := ite_t hc h
      refine r_aload_n (pc := 119) hR (dc dt_X10_forms 60 rfl) rfl ?_
      refine r_getr (pc := 120) (k2 := 4) hR (dc dt_X10_forms 61 rfl) fl_X10_19 tc_0 rfl ?_
      refine r_aload_n (pc := 123) hR (dc dt_X10_forms 62 rfl) rfl ?_
      refine r_getr (pc := 124) (k2 := 4) hR (dc dt_X10_forms 63 rfl) fl_X10_19 tc_0 rfl ?_
      refine r_iload_n (pc := 127) hR (dc dt_X10_forms 64 rfl) rfl ?_
      refine r_iload (pc := 128) hR (dc dt_X10_forms 65 rfl) rfl ?_
      refine r_callV (pc := 130) (rest := [.ref (ad 4)]) hR (dc dt_X10_forms 66 rfl) cl_X10_134 tc_4 rfl (ok_F1_formCell qv1 qv6) (by decide) rfl (Nat.le_of_ble_eq_true rfl) rfl (fun q130r => ?_)
      show Go 133 [some (.ref (ad 0)), some (iv v1), none, some (iv v3), some (iv v4), some (.ref (ad o5)), some (iv v6), some (iv (w32 (rl m (o5 + 1) (w32 (v3 + v6)))))] [iv (F1_formCell v1 v6), .ref (ad 4)] m
      refine r_iload (pc := 133) hR (dc dt_X10_forms 67 rfl) rfl ?_
      obtain ⟨r135, m135, e135, h⟩ := b2_some h
      refine r_callV (pc := 135) (rest := []) hR (dc dt_X10_forms 68 rfl) cl_X10_137 tc_4 rfl (ok_F1_change q130r (w32_in _) e135) (by decide) rfl (Nat.le_of_ble_eq_true rfl) rfl (fun q135r => ?_)
      show Go 138 [some (.ref (ad 0)), some (iv v1), none, some (iv v3), some (iv v4), some (.ref (ad o5)), some (iv v6), some (iv (w32 (rl m (o5 + 1) (w32 (v3 + v6)))))] [iv r135] m135
      refine r_pop (pc := 138) hR (dc dt_X10_forms 69 rfl) rfl ?_
      refine r_iinc (pc := 139) (L' := [some (.ref (ad 0)), some (iv v1), none, some (iv v3), some (iv v4), some (.ref (ad o5)), some (iv (w32 (v6 + 1))), some (iv (w32 (rl m (o5 + 1) (w32 (v3 + v6)))))]) hR (dc dt_X10_forms 70 rfl) rfl (by decide) rfl rfl ?_
      refine r_goto (pc := 142) (tgt := 74) hR (dc dt_X10_forms 71 rfl) (by decide) ?_
      refine r_weak (L' := [some (.ref (ad 0)), some (iv v1), none, some (iv v3), some (iv v4), some (.ref (ad o5)), some (iv (w32 (v6 + 1))), none]) hR ⟨Or.inr rfl, Or.inr rfl, Or.inr rfl, Or.inr rfl, Or.inr rfl, Or.inr rfl, Or.inr rfl, Or.inl rfl, trivial⟩ ?_
      exact ih (w32 (v6 + 1)) m135 (w32_in _) h
    replace h := ite_f hc h
    refine r_weak (L' := [none, none, none, none, none, none, some (iv v6), none]) hR ⟨Or.inl rfl, Or.inl rfl, Or.inr rfl, Or.inl rfl, Or.inl rfl, Or.inl rfl, Or.inr rfl, Or.inl rfl, trivial⟩ ?_
    exact hk116 v6 m qv6 h
set_option maxRecDepth 100000 in
set_option maxHeartbeats 4000000 in
theorem ok_F10_forms {m : Mem}  {v1 v2 v3 v4 : Int} (q1 : inR v1) (q2 : inR v2) (q3 : inR v3) (q4 : inR v4) {out : Int × Mem} (h : F10_forms m v1 v2 v3 v4 = some out) : CT l G cy ad tt yX10_forms cX10_forms 8 (some .int) 3 [.ref (ad 0), iv v1, iv v2, iv v3, iv v4] m (some (iv out.1)) (inR out.1) out.2 := by
  refine CT_of (by decide) (Nat.le_of_ble_eq_true rfl) (fun Go hR hT => ?_)
  replace hR : RS l G cy ad tt RX10 cX10_forms 8 3 Go := hR
  show Go 0 [some (.ref (ad 0)), some (iv v1), some (iv v2), some (iv v3), some (iv v4), none, none, none] [] m
  unfold F10_forms at h
  refine r_aload_n (pc := 0) hR (dc dt_X10_forms 0 rfl) rfl ?_
  refine r_getr (pc := 1) (k2 := 4) hR (dc dt_X10_forms 1 rfl) fl_X10_19 tc_0 rfl ?_
  refine r_iload_n (pc := 4) hR (dc dt_X10_forms 2 rfl) rfl ?_
  refine r_callV (pc := 5) (rest := []) hR (dc dt_X10_forms 3 rfl) cl_X10_112 tc_4 rfl (ok_F1_has q1) (by decide) rfl (Nat.le_of_ble_eq_true rfl) rfl (fun q5r => ?_)
  show Go 8 [some (.ref (ad 0)), some (iv v1), some (iv v2), some (iv v3), some (iv v4), none, none, none] [iv (F1_has m v1)] m
  refine r_if_eq (pc := 8) (tgt := 31) hR (dc dt_X10_forms 4 rfl) (by decide) (inZ_R q5r) (fun hc => ?_) (fun hc => ?_)
  · replace h := ite_t hc h
    refine r_iconst (pc := 31) hR (dc dt_X10_forms 14 rfl) ?_
    exact r_iret hT (dc dt_X10_forms 15 rfl) (congrArg Prod.fst (Option.some.inj h)) (congrArg Prod.snd (Option.some.inj h)) (rg_c rfl)
  replace h := ite_f hc h
  refine r_iload_n (pc := 11) hR (dc dt_X10_forms 5 rfl) rfl ?_
  refine r_callS (pc := 12) (rest := []) hR (dc dt_X10_forms 6 rfl) cl_X10_140 (ok_F10_isShelf q2) (by decide) rfl (Nat.le_of_ble_eq_true rfl) rfl (fun q12r => ?_)
  show Go 15 [some (.ref (ad 0)), some (iv v1), some (iv v2), some (iv v3), some (iv v4), none, none, none] [iv (F10_isShelf v2)] m
  refine r_if_eq (pc := 15) (tgt := 31) hR (dc dt_X10_forms 7 rfl) (by decide) (inZ_R q12r) (fun hc => ?_) (fun hc => ?_)
  · replace h := ite_t hc h
    refine r_iconst (pc := 31) hR (dc dt_X10_forms 14 rfl) ?_
    exact r_iret hT (dc dt_X10_forms 15 rfl) (congrArg Prod.fst (Option.some.inj h)) (congrArg Prod.snd (Option.some.inj h)) (rg_c rfl)
  replace h := ite_f hc h
  refine r_iload (pc := 18) hR (dc dt_X10_forms 8 rfl) rfl ?_
  refine r_iconst (pc := 20) hR (dc dt_X10_forms 9 rfl) ?_
  refine r_icmp_lt (pc := 21) (tgt := 31) hR (dc dt_X10_forms 10 rfl) (by decide) q4 (rg_c rfl) (fun hc => ?_) (fun hc => ?_)
  · replace h := ite_t hc h
    refine r_iconst (pc := 31) hR (dc dt_X10_forms 14 rfl) ?_
    exact r_iret hT (dc dt_X10_forms 15 rfl) (congrArg Prod.fst (Option.some.inj h)) (congrArg Prod.snd (Option.some.inj h)) (rg_c rfl)
  replace h := ite_f hc h
  refine r_iload (pc := 24) hR (dc dt_X10_forms 11 rfl) rfl ?_
  refine r_bipush (pc := 26) hR (dc dt_X10_forms 12 rfl) (by decide) ?_
  refine r_icmp_le (pc := 28) (tgt := 33) hR (dc dt_X10_forms 13 rfl) (by decide) q4 (rg_c rfl) (fun hc => ?_) (fun hc => ?_)
  · replace h := ite_t hc h
    refine r_aload_n (pc := 33) hR (dc dt_X10_forms 16 rfl) rfl ?_
    refine r_getr (pc := 34) (k2 := 70) hR (dc dt_X10_forms 17 rfl) fl_X10_71 tc_0 rfl ?_
    refine r_iload_n (pc := 37) hR (dc dt_X10_forms 18 rfl) rfl ?_
    obtain ⟨g1, h⟩ := gd_some h
    have hs38 : isSh (71 + 2 * (v2).toNat) := sh_of g1.1 g1.2
    refine r_aald (pc := 38) hR (dc dt_X10_forms 19 rfl) tc_70 g1 q2 ?_
    refine r_astore (pc := 39) (L' := [some (.ref (ad 0)), some (iv v1), some (iv v2), some (iv v3), some (iv v4), some (.ref (ad (71 + 2 * (v2).toNat))), none, none]) hR (dc dt_X10_forms 20 rfl) (by decide) rfl rfl ?_
    refine r_aload (pc := 41) hR (dc dt_X10_forms 21 rfl) rfl ?_
    refine r_geti (pc := 43) hR (dc dt_X10_forms 22 rfl) fl_X10_143 hs38.1 rfl ?_
    refine r_if_ne (pc := 46) (tgt := 51) hR (dc dt_X10_forms 23 rfl) (by decide) (rd_in _ _ _) (fun hc => ?_) (fun hc => ?_)
    · replace h := ite_t hc h
      refine r_aload (pc := 51) hR (dc dt_X10_forms 26 rfl) rfl ?_
      refine r_geti (pc := 53) hR (dc dt_X10_forms 27 rfl) fl_X10_143 hs38.1 rfl ?_
      refine r_iconst (pc := 56) hR (dc dt_X10_forms 28 rfl) ?_
      refine r_icmp_ne (pc := 57) (tgt := 68) hR (dc dt_X10_forms 29 rfl) (by decide) (rd_in _ _ _) (rg_c rfl) (fun hc => ?_) (fun hc => ?_)
      · replace h := ite_t hc h
        refine r_bipush (pc := 68) hR (dc dt_X10_forms 33 rfl) (by decide) ?_
        exact r_iret hT (dc dt_X10_forms 34 rfl) (congrArg Prod.fst (Option.some.inj h)) (congrArg Prod.snd (Option.some.inj h)) (rg_c rfl)
      replace h := ite_f hc h
      refine r_aload (pc := 60) hR (dc dt_X10_forms 30 rfl) rfl ?_
      refine r_geti (pc := 62) hR (dc dt_X10_forms 31 rfl) fl_X10_146 hs38.1 rfl ?_
      refine r_if_eq (pc := 65) (tgt := 71) hR (dc dt_X10_forms 32 rfl) (by decide) (rd_in _ _ _) (fun hc => ?_) (fun hc => ?_)
      · replace h := ite_t hc h
        refine r_iconst (pc := 71) hR (dc dt_X10_forms 35 rfl) ?_
        refine r_istore (pc := 72) (L' := [some (.ref (ad 0)), some (iv v1), some (iv v2), some (iv v3), some (iv v4), some (.ref (ad (71 + 2 * (v2).toNat))), some (iv 0), none]) hR (dc dt_X10_forms 36 rfl) (by decide) rfl rfl ?_
        refine r_weak (L' := [some (.ref (ad 0)), some (iv v1), none, some (iv v3), some (iv v4), some (.ref (ad (71 + 2 * (v2).toNat))), some (iv 0), none]) hR ⟨Or.inr rfl, Or.inr rfl, Or.inl rfl, Or.inr rfl, Or.inr rfl, Or.inr rfl, Or.inr rfl, Or.inr rfl, trivial⟩ ?_
        refine lp_L10_forms_74 hR hT q1 q3 q4 hs38 (fun v6_116 m_116 qv6_116 h => ?_) FU 0 m (rg_c rfl) h
        show Go 116 [none, none, none, none, none, none, some (iv v6_116), none] [] m_116
        refine r_goto (pc := 116) (tgt := 145) hR (dc dt_X10_forms 59 rfl) (by decide) ?_
        refine r_iload (pc := 145) hR (dc dt_X10_forms 72 rfl) rfl ?_
        exact r_iret hT (dc dt_X10_forms 73 rfl) (congrArg Prod.fst (Option.some.inj h)) (congrArg Prod.snd (Option.some.inj h)) qv6_116
      replace h := ite_f hc h
      refine r_bipush (pc := 68) hR (dc dt_X10_forms 33 rfl) (by decide) ?_
      exact r_iret hT (dc dt_X10_forms 34 rfl) (congrArg Prod.fst (Option.some.inj h)) (congrArg Prod.snd (Option.some.inj h)) (rg_c rfl)
    replace h := ite_f hc h
    refine r_iconst (pc := 49) hR (dc dt_X10_forms 24 rfl) ?_
    exact r_iret hT (dc dt_X10_forms 25 rfl) (congrArg Prod.fst (Option.some.inj h)) (congrArg Prod.snd (Option.some.inj h)) (rg_c rfl)
  replace h := ite_f hc h
  refine r_iconst (pc := 31) hR (dc dt_X10_forms 14 rfl) ?_
  exact r_iret hT (dc dt_X10_forms 15 rfl) (congrArg Prod.fst (Option.some.inj h)) (congrArg Prod.snd (Option.some.inj h)) (rg_c rfl)
def tb_X1_costCell : List (Nat × (Instr × Nat)) := [(0, (.sipush 192, 3)), (3, (.iload_n 1, 1)), (4, (.iadd, 1)), (5, (.ireturn, 1))]
set_option maxRecDepth 100000 in
theorem dt_X1_costCell : (tb_X1_costCell.all fun q => decide (decode cX1_costCell q.1 = .ok q.2)) = true := by decide +kernel
set_option maxRecDepth 100000 in
set_option maxHeartbeats 4000000 in
theorem ok_F1_costCell {m : Mem}  {v1 : Int} (q1 : inR v1) : CT l G cy ad tt yX1_costCell cX1_costCell 2 (some .int) 0 [.ref (ad 4), iv v1] m (some (iv (F1_costCell v1))) (inR (F1_costCell v1)) m := by
  refine CT_of (by decide) (Nat.le_of_ble_eq_true rfl) (fun Go hR hT => ?_)
  replace hR : RS l G cy ad tt RX1 cX1_costCell 2 0 Go := hR
  show Go 0 [some (.ref (ad 4)), some (iv v1)] [] m
  obtain ⟨out, h⟩ : ∃ out, F1_costCell v1 = out := ⟨_, rfl⟩
  rw [h] at hT
  unfold F1_costCell at h
  refine r_sipush (pc := 0) hR (dc dt_X1_costCell 0 rfl) (by decide) ?_
  refine r_iload_n (pc := 3) hR (dc dt_X1_costCell 1 rfl) rfl ?_
  refine r_iadd (pc := 4) hR (dc dt_X1_costCell 2 rfl) ?_
  exact r_iret hT (dc dt_X1_costCell 3 rfl) h rfl (w32_in _)
def tb_X10_price : List (Nat × (Instr × Nat)) := [(0, (.iload_n 1, 1)), (1, (.ifCond .lt 18, 3)), (4, (.iload_n 1, 1)), (5, (.iconst 5, 1)), (6, (.if_icmp .ge 13, 3)), (9, (.iload_n 2, 1)), (10, (.ifCond .lt 9, 3)), (13, (.iload_n 2, 1)), (14, (.bipush 99, 2)), (16, (.if_icmp .le 5, 3)), (19, (.iconst (-1), 1)), (20, (.ireturn, 1)), (21, (.aload_n 0, 1)), (22, (.getfield 19, 3)), (25, (.aload_n 0, 1)), (26, (.getfield 19, 3)), (29, (.iload_n 1, 1)), (30, (.invokevirtual 157, 3)), (33, (.iload_n 2, 1)), (34, (.invokevirtual 137, 3)), (37, (.ireturn, 1))]
set_option maxRecDepth 100000 in
theorem dt_X10_price : (tb_X10_price.all fun q => decide (decode cX10_price q.1 = .ok q.2)) = true := by decide +kernel
set_option maxRecDepth 100000 in
set_option maxHeartbeats 4000000 in
theorem ok_F10_price {m : Mem}  {v1 v2 : Int} (q1 : inR v1) (q2 : inR v2) {out : Int × Mem} (h : F10_price m v1 v2 = some out) : CT l G cy ad tt yX10_price cX10_price 3 (some .int) 3 [.ref (ad 0), iv v1, iv v2] m (some (iv out.1)) (inR out.1) out.2 := by
  refine CT_of (by decide) (Nat.le_of_ble_eq_true rfl) (fun Go hR hT => ?_)
  replace hR : RS l G cy ad tt RX10 cX10_price 3 3 Go := hR
  show Go 0 [some (.ref (ad 0)), some (iv v1), some (iv v2)] [] m
  unfold F10_price at h
  refine r_iload_n (pc := 0) hR (dc dt_X10_price 0 rfl) rfl ?_
  refine r_if_lt (pc := 1) (tgt := 19) hR (dc dt_X10_price 1 rfl) (by decide) q1 (fun hc => ?_) (fun hc => ?_)
  · replace h := ite_t hc h
    refine r_iconst (pc := 19) hR (dc dt_X10_price 10 rfl) ?_
    exact r_iret hT (dc dt_X10_price 11 rfl) (congrArg Prod.fst (Option.some.inj h)) (congrArg Prod.snd (Option.some.inj h)) (rg_c rfl)
  replace h := ite_f hc h
  refine r_iload_n (pc := 4) hR (dc dt_X10_price 2 rfl) rfl ?_
  refine r_iconst (pc := 5) hR (dc dt_X10_price 3 rfl) ?_
  refine r_icmp_ge (pc := 6) (tgt := 19) hR (dc dt_X10_price 4 rfl) (by decide) q1 (rg_c rfl) (fun hc => ?_) (fun hc => ?_)
  · replace h := ite_t hc h
    refine r_iconst (pc := 19) hR (dc dt_X10_price 10 rfl) ?_
    exact r_iret hT (dc dt_X10_price 11 rfl) (congrArg Prod.fst (Option.some.inj h)) (congrArg Prod.snd (Option.some.inj h)) (rg_c rfl)
  replace h := ite_f hc h
  refine r_iload_n (pc := 9) hR (dc dt_X10_price 5 rfl) rfl ?_
  refine r_if_lt (pc := 10) (tgt := 19) hR (dc dt_X10_price 6 rfl) (by decide) q2 (fun hc => ?_) (fun hc => ?_)
  · replace h := ite_t hc h
    refine r_iconst (pc := 19) hR (dc dt_X10_price 10 rfl) ?_
    exact r_iret hT (dc dt_X10_price 11 rfl) (congrArg Prod.fst (Option.some.inj h)) (congrArg Prod.snd (Option.some.inj h)) (rg_c rfl)
  replace h := ite_f hc h
  refine r_iload_n (pc := 13) hR (dc dt_X10_price 7 rfl) rfl ?_
  refine r_bipush (pc := 14) hR (dc dt_X10_price 8 rfl) (by decide) ?_
  refine r_icmp_le (pc := 16) (tgt := 21) hR (dc dt_X10_price 9 rfl) (by decide) q2 (rg_c rfl) (fun hc => ?_) (fun hc => ?_)
  · replace h := ite_t hc h
    refine r_aload_n (pc := 21) hR (dc dt_X10_price 12 rfl) rfl ?_
    refine r_getr (pc := 22) (k2 := 4) hR (dc dt_X10_price 13 rfl) fl_X10_19 tc_0 rfl ?_
    refine r_aload_n (pc := 25) hR (dc dt_X10_price 14 rfl) rfl ?_
    refine r_getr (pc := 26) (k2 := 4) hR (dc dt_X10_price 15 rfl) fl_X10_19 tc_0 rfl ?_
    refine r_iload_n (pc := 29) hR (dc dt_X10_price 16 rfl) rfl ?_
    refine r_callV (pc := 30) (rest := [.ref (ad 4)]) hR (dc dt_X10_price 17 rfl) cl_X10_157 tc_4 rfl (ok_F1_costCell q1) (by decide) rfl (Nat.le_of_ble_eq_true rfl) rfl (fun q30r => ?_)
    show Go 33 [some (.ref (ad 0)), some (iv v1), some (iv v2)] [iv (F1_costCell v1), .ref (ad 4)] m
    refine r_iload_n (pc := 33) hR (dc dt_X10_price 18 rfl) rfl ?_
    obtain ⟨r34, m34, e34, h⟩ := b2_some h
    refine r_callV (pc := 34) (rest := []) hR (dc dt_X10_price 19 rfl) cl_X10_137 tc_4 rfl (ok_F1_change q30r q2 e34) (by decide) rfl (Nat.le_of_ble_eq_true rfl) rfl (fun q34r => ?_)
    show Go 37 [some (.ref (ad 0)), some (iv v1), some (iv v2)] [iv r34] m34
    exact r_iret hT (dc dt_X10_price 20 rfl) (congrArg Prod.fst (Option.some.inj h)) (congrArg Prod.snd (Option.some.inj h)) q34r
  replace h := ite_f hc h
  refine r_iconst (pc := 19) hR (dc dt_X10_price 10 rfl) ?_
  exact r_iret hT (dc dt_X10_price 11 rfl) (congrArg Prod.fst (Option.some.inj h)) (congrArg Prod.snd (Option.some.inj h)) (rg_c rfl)
def tb_X10_same : List (Nat × (Instr × Nat)) := [(0, (.aload_n 0, 1)), (1, (.getfield 19, 3)), (4, (.iload_n 1, 1)), (5, (.invokevirtual 112, 3)), (8, (.ifCond .eq 23, 3)), (11, (.aload_n 0, 1)), (12, (.getfield 19, 3)), (15, (.iload_n 2, 1)), (16, (.invokevirtual 112, 3)), (19, (.ifCond .eq 12, 3)), (22, (.iload_n 3, 1)), (23, (.ifCond .lt 8, 3)), (26, (.iload_n 3, 1)), (27, (.iconst 2, 1)), (28, (.if_icmp .le 5, 3)), (31, (.iconst (-1), 1)), (32, (.ireturn, 1)), (33, (.iconst 0, 1)), (34, (.istore 4, 2)), (36, (.iconst 0, 1)), (37, (.istore 5, 2)), (39, (.iload 5, 2)), (41, (.bipush 16, 2)), (43, (.if_icmp .ge 80, 3)), (46, (.aload_n 0, 1)), (47, (.getfield 19, 3)), (50, (.iload_n 1, 1)), (51, (.iload 5, 2)), (53, (.invokevirtual 125, 3)), (56, (.istore 6, 2)), (58, (.aload_n 0, 1)), (59, (.getfield 19, 3)), (62, (.iload_n 2, 1)), (63, (.iload 5, 2)), (65, (.invokevirtual 125, 3)), (68, (.istore 7, 2)), (70, (.iload 6, 2)), (72, (.bipush 9, 2)), (74, (.if_icmp .eq 10, 3)), (77, (.iload 7, 2)), (79, (.bipush 9, 2)), (81, (.if_icmp .ne 7, 3)), (84, (.iconst 2, 1)), (85, (.goto 15, 3)), (88, (.iload 6, 2)), (90, (.iload 7, 2)), (92, (.if_icmp .ne 7, 3)), (95, (.iconst 0, 1)), (96, (.goto 4, 3)), (99, (.iconst 1, 1)), (100, (.istore 8, 2)), (102, (.iload 8, 2)), (104, (.iload_n 3, 1)), (105, (.if_icmp .ne 12, 3)), (108, (.iload 4, 2)), (110, (.iconst 1, 1)), (111, (.iload 5, 2)), (113, (.ishl, 1)), (114, (.ior, 1)), (115, (.istore 4, 2)), (117, (.iinc 5 1, 3)), (120, (.goto (-81), 3)), (123, (.iload 4, 2)), (125, (.ireturn, 1))]
set_option maxRecDepth 100000 in
theorem dt_X10_same : (tb_X10_same.all fun q => decide (decode cX10_same q.1 = .ok q.2)) = true := by decide +kernel
set_option maxRecDepth 100000 in
set_option maxHeartbeats 4000000 in
theorem lp_L10_same_39 {Go : Nat → List (Option Value) → List Value → Mem → Prop} (hR : RS l G cy ad tt RX10 cX10_same 9 2 Go) {out : Int} {m : Mem} (hT : RT cX10_same (some (iv out)) (inR out) m (some .int) Go) {v1 : Int} {v2 : Int} {v3 : Int} (qv1 : inR v1) (qv2 : inR v2) (qv3 : inR v3) : ∀ (n : Nat) (v4 : Int) (v5 : Int), inR v4 → inR v5 → L10_same_39 m v1 v2 v3 n v4 v5 = some out → Go 39 [some (.ref (ad 0)), some (iv v1), some (iv v2), some (iv v3), some (iv v4), some (iv v5), none, none, none] [] m := by
  intro n
  induction n with
  | zero =>
    intro v4 v5 qv4 qv5 h
    cases h
  | succ n ih =>
    intro v4 v5 qv4 qv5 h
    rw [L10_same_39] at h
    refine r_iload (pc := 39) hR (dc dt_X10_same 21 rfl) rfl ?_
    refine r_bipush (pc := 41) hR (dc dt_X10_same 22 rfl) (by decide) ?_
    refine r_icmp_ge (pc := 43) (tgt := 123) hR (dc dt_X10_same 23 rfl) (by decide) qv5 (rg_c rfl) (fun hc => ?_) (fun hc => ?_)
    · replace h := ite_t hc h
      refine r_iload (pc := 123) hR (dc dt_X10_same 62 rfl) rfl ?_
      exact r_iret hT (dc dt_X10_same 63 rfl) (Option.some.inj h) rfl qv4
    replace h := ite_f hc h
    refine r_aload_n (pc := 46) hR (dc dt_X10_same 24 rfl) rfl ?_
    refine r_getr (pc := 47) (k2 := 4) hR (dc dt_X10_same 25 rfl) fl_X10_19 tc_0 rfl ?_
    refine r_iload_n (pc := 50) hR (dc dt_X10_same 26 rfl) rfl ?_
    refine r_iload (pc := 51) hR (dc dt_X10_same 27 rfl) rfl ?_
    obtain ⟨r53, e53, h⟩ := b1_some h
    refine r_callV (pc := 53) (rest := []) hR (dc dt_X10_same 28 rfl) cl_X10_125 tc_4 rfl (ok_F1_told qv1 qv5 e53) (by decide) rfl (Nat.le_of_ble_eq_true rfl) rfl (fun q53r => ?_)
    show Go 56 [some (.ref (ad 0)), some (iv v1), some (iv v2), some (iv v3), some (iv v4), some (iv v5), none, none, none] [iv r53] m
    refine r_istore (pc := 56) (L' := [some (.ref (ad 0)), some (iv v1), some (iv v2), some (iv v3), some (iv v4), some (iv v5), some (iv r53), none, none]) hR (dc dt_X10_same 29 rfl) (by decide) rfl rfl ?_
    refine r_aload_n (pc := 58) hR (dc dt_X10_same 30 rfl) rfl ?_
    refine r_getr (pc := 59) (k2 := 4) hR (dc dt_X10_same 31 rfl) fl_X10_19 tc_0 rfl ?_
    refine r_iload_n (pc := 62) hR (dc dt_X10_same 32 rfl) rfl ?_
    refine r_iload (pc := 63) hR (dc dt_X10_same 33 rfl) rfl ?_
    obtain ⟨r65, e65, h⟩ := b1_some h
    refine r_callV (pc := 65) (rest := []) hR (dc dt_X10_same 34 rfl) cl_X10_125 tc_4 rfl (ok_F1_told qv2 qv5 e65) (by decide) rfl (Nat.le_of_ble_eq_true rfl) rfl (fun q65r => ?_)
    show Go 68 [some (.ref (ad 0)), some (iv v1), some (iv v2), some (iv v3), some (iv v4), some (iv v5), some (iv r53), none, none] [iv r65] m
    refine r_istore (pc := 68) (L' := [some (.ref (ad 0)), some (iv v1), some (iv v2), some (iv v3), some (iv v4), some (iv v5), some (iv r53), some (iv r65), none]) hR (dc dt_X10_same 35 rfl) (by decide) rfl rfl ?_
    refine r_iload (pc := 70) hR (dc dt_X10_same 36 rfl) rfl ?_
    refine r_bipush (pc := 72) hR (dc dt_X10_same 37 rfl) (by decide) ?_
    refine jn_e h (fun (K : Int → Option Int) => ∀ (x100 : Int), inR x100 → K x100 = some out → Go 100 [some (.ref (ad 0)), some (iv v1), some (iv v2), some (iv v3), some (iv v4), some (iv v5), none, none, none] [iv x100] m) (fun x100 qx100 h => ?_) (fun K100 J100 h => ?_)
    · refine r_istore (pc := 100) (L' := [some (.ref (ad 0)), some (iv v1), some (iv v2), some (iv v3), some (iv v4), some (iv v5), none, none, some (iv x100)]) hR (dc dt_X10_same 50 rfl) (by decide) rfl rfl ?_
      refine r_iload (pc := 102) hR (dc dt_X10_same 51 rfl) rfl ?_
      refine r_iload_n (pc := 104) hR (dc dt_X10_same 52 rfl) rfl ?_
      refine jn_e h (fun (K : Int → Option Int) => ∀ (v4_117 : Int), inR v4_117 → K v4_117 = some out → Go 117 [some (.ref (ad 0)), some (iv v1), some (iv v2), some (iv v3), some (iv v4_117), some (iv v5), none, none, none] [] m) (fun v4_117 qv4_117 h => ?_) (fun K117 J117 h => ?_)
      · refine r_iinc (pc := 117) (L' := [some (.ref (ad 0)), some (iv v1), some (iv v2), some (iv v3), some (iv v4_117), some (iv (w32 (v5 + 1))), none, none, none]) hR (dc dt_X10_same 60 rfl) rfl (by decide) rfl rfl ?_
        refine r_goto (pc := 120) (tgt := 39) hR (dc dt_X10_same 61 rfl) (by decide) ?_
        exact ih v4_117 (w32 (v5 + 1)) qv4_117 (w32_in _) h
      refine r_icmp_ne (pc := 105) (tgt := 117) hR (dc dt_X10_same 53 rfl) (by decide) qx100 qv3 (fun hc => ?_) (fun hc => ?_)
      · replace h := ite_t hc h
        refine r_weak (L' := [some (.ref (ad 0)), some (iv v1), some (iv v2), some (iv v3), some (iv v4), some (iv v5), none, none, none]) hR ⟨Or.inr rfl, Or.inr rfl, Or.inr rfl, Or.inr rfl, Or.inr rfl, Or.inr rfl, Or.inr rfl, Or.inr rfl, Or.inl rfl, trivial⟩ ?_
        exact J117 v4 qv4 h
      replace h := ite_f hc h
      refine r_iload (pc := 108) hR (dc dt_X10_same 54 rfl) rfl ?_
      refine r_iconst (pc := 110) hR (dc dt_X10_same 55 rfl) ?_
      refine r_iload (pc := 111) hR (dc dt_X10_same 56 rfl) rfl ?_
      refine r_ishl (pc := 113) hR (dc dt_X10_same 57 rfl) ?_
      refine r_ior (pc := 114) hR (dc dt_X10_same 58 rfl) ?_
      refine r_istore (pc := 115) (L' := [some (.ref (ad 0)), some (iv v1), some (iv v2), some (iv v3), some (iv (bor v4 (shl 1 v5))), some (iv v5), none, none, some (iv x100)]) hR (dc dt_X10_same 59 rfl) (by decide) rfl rfl ?_
      refine r_weak (L' := [some (.ref (ad 0)), some (iv v1), some (iv v2), some (iv v3), some (iv (bor v4 (shl 1 v5))), some (iv v5), none, none, none]) hR ⟨Or.inr rfl, Or.inr rfl, Or.inr rfl, Or.inr rfl, Or.inr rfl, Or.inr rfl, Or.inr rfl, Or.inr rfl, Or.inl rfl, trivial⟩ ?_
      exact J117 (bor v4 (shl 1 v5)) (ti_in _) h
    refine jn_e h (fun (K : Option Int) => K = some out → Go 84 [some (.ref (ad 0)), some (iv v1), some (iv v2), some (iv v3), some (iv v4), some (iv v5), none, none, none] [] m) (fun h => ?_) (fun K84 J84 h => ?_)
    · refine r_iconst (pc := 84) hR (dc dt_X10_same 42 rfl) ?_
      refine r_goto (pc := 85) (tgt := 100) hR (dc dt_X10_same 43 rfl) (by decide) ?_
      exact J100 2 (rg_c rfl) h
    refine r_icmp_eq (pc := 74) (tgt := 84) hR (dc dt_X10_same 38 rfl) (by decide) q53r (rg_c rfl) (fun hc => ?_) (fun hc => ?_)
    · replace h := ite_t hc h
      refine r_weak (L' := [some (.ref (ad 0)), some (iv v1), some (iv v2), some (iv v3), some (iv v4), some (iv v5), none, none, none]) hR ⟨Or.inr rfl, Or.inr rfl, Or.inr rfl, Or.inr rfl, Or.inr rfl, Or.inr rfl, Or.inl rfl, Or.inl rfl, Or.inr rfl, trivial⟩ ?_
      exact J84 h
    replace h := ite_f hc h
    refine r_iload (pc := 77) hR (dc dt_X10_same 39 rfl) rfl ?_
    refine r_bipush (pc := 79) hR (dc dt_X10_same 40 rfl) (by decide) ?_
    refine r_icmp_ne (pc := 81) (tgt := 88) hR (dc dt_X10_same 41 rfl) (by decide) q65r (rg_c rfl) (fun hc => ?_) (fun hc => ?_)
    · replace h := ite_t hc h
      refine r_iload (pc := 88) hR (dc dt_X10_same 44 rfl) rfl ?_
      refine r_iload (pc := 90) hR (dc dt_X10_same 45 rfl) rfl ?_
      refine r_icmp_ne (pc := 92) (tgt := 99) hR (dc dt_X10_same 46 rfl) (by decide) q53r q65r (fun hc => ?_) (fun hc => ?_)
      · replace h := ite_t hc h
        refine r_iconst (pc := 99) hR (dc dt_X10_same 49 rfl) ?_
        refine r_weak (L' := [some (.ref (ad 0)), some (iv v1), some (iv v2), some (iv v3), some (iv v4), some (iv v5), none, none, none]) hR ⟨Or.inr rfl, Or.inr rfl, Or.inr rfl, Or.inr rfl, Or.inr rfl, Or.inr rfl, Or.inl rfl, Or.inl rfl, Or.inr rfl, trivial⟩ ?_
        exact J100 1 (rg_c rfl) h
      replace h := ite_f hc h
      refine r_iconst (pc := 95) hR (dc dt_X10_same 47 rfl) ?_
      refine r_goto (pc := 96) (tgt := 100) hR (dc dt_X10_same 48 rfl) (by decide) ?_
      refine r_weak (L' := [some (.ref (ad 0)), some (iv v1), some (iv v2), some (iv v3), some (iv v4), some (iv v5), none, none, none]) hR ⟨Or.inr rfl, Or.inr rfl, Or.inr rfl, Or.inr rfl, Or.inr rfl, Or.inr rfl, Or.inl rfl, Or.inl rfl, Or.inr rfl, trivial⟩ ?_
      exact J100 0 (rg_c rfl) h
    replace h := ite_f hc h
    refine r_weak (L' := [some (.ref (ad 0)), some (iv v1), some (iv v2), some (iv v3), some (iv v4), some (iv v5), none, none, none]) hR ⟨Or.inr rfl, Or.inr rfl, Or.inr rfl, Or.inr rfl, Or.inr rfl, Or.inr rfl, Or.inl rfl, Or.inl rfl, Or.inr rfl, trivial⟩ ?_
    exact J84 h
set_option maxRecDepth 100000 in
set_option maxHeartbeats 4000000 in
theorem ok_F10_same {m : Mem}  {v1 v2 v3 : Int} (q1 : inR v1) (q2 : inR v2) (q3 : inR v3) {out : Int} (h : F10_same m v1 v2 v3 = some out) : CT l G cy ad tt yX10_same cX10_same 9 (some .int) 2 [.ref (ad 0), iv v1, iv v2, iv v3] m (some (iv out)) (inR out) m := by
  refine CT_of (by decide) (Nat.le_of_ble_eq_true rfl) (fun Go hR hT => ?_)
  replace hR : RS l G cy ad tt RX10 cX10_same 9 2 Go := hR
  show Go 0 [some (.ref (ad 0)), some (iv v1), some (iv v2), some (iv v3), none, none, none, none, none] [] m
  unfold F10_same at h
  refine r_aload_n (pc := 0) hR (dc dt_X10_same 0 rfl) rfl ?_
  refine r_getr (pc := 1) (k2 := 4) hR (dc dt_X10_same 1 rfl) fl_X10_19 tc_0 rfl ?_
  refine r_iload_n (pc := 4) hR (dc dt_X10_same 2 rfl) rfl ?_
  refine r_callV (pc := 5) (rest := []) hR (dc dt_X10_same 3 rfl) cl_X10_112 tc_4 rfl (ok_F1_has q1) (by decide) rfl (Nat.le_of_ble_eq_true rfl) rfl (fun q5r => ?_)
  show Go 8 [some (.ref (ad 0)), some (iv v1), some (iv v2), some (iv v3), none, none, none, none, none] [iv (F1_has m v1)] m
  refine r_if_eq (pc := 8) (tgt := 31) hR (dc dt_X10_same 4 rfl) (by decide) (inZ_R q5r) (fun hc => ?_) (fun hc => ?_)
  · replace h := ite_t hc h
    refine r_iconst (pc := 31) hR (dc dt_X10_same 15 rfl) ?_
    exact r_iret hT (dc dt_X10_same 16 rfl) (Option.some.inj h) rfl (rg_c rfl)
  replace h := ite_f hc h
  refine r_aload_n (pc := 11) hR (dc dt_X10_same 5 rfl) rfl ?_
  refine r_getr (pc := 12) (k2 := 4) hR (dc dt_X10_same 6 rfl) fl_X10_19 tc_0 rfl ?_
  refine r_iload_n (pc := 15) hR (dc dt_X10_same 7 rfl) rfl ?_
  refine r_callV (pc := 16) (rest := []) hR (dc dt_X10_same 8 rfl) cl_X10_112 tc_4 rfl (ok_F1_has q2) (by decide) rfl (Nat.le_of_ble_eq_true rfl) rfl (fun q16r => ?_)
  show Go 19 [some (.ref (ad 0)), some (iv v1), some (iv v2), some (iv v3), none, none, none, none, none] [iv (F1_has m v2)] m
  refine r_if_eq (pc := 19) (tgt := 31) hR (dc dt_X10_same 9 rfl) (by decide) (inZ_R q16r) (fun hc => ?_) (fun hc => ?_)
  · replace h := ite_t hc h
    refine r_iconst (pc := 31) hR (dc dt_X10_same 15 rfl) ?_
    exact r_iret hT (dc dt_X10_same 16 rfl) (Option.some.inj h) rfl (rg_c rfl)
  replace h := ite_f hc h
  refine r_iload_n (pc := 22) hR (dc dt_X10_same 10 rfl) rfl ?_
  refine r_if_lt (pc := 23) (tgt := 31) hR (dc dt_X10_same 11 rfl) (by decide) q3 (fun hc => ?_) (fun hc => ?_)
  · replace h := ite_t hc h
    refine r_iconst (pc := 31) hR (dc dt_X10_same 15 rfl) ?_
    exact r_iret hT (dc dt_X10_same 16 rfl) (Option.some.inj h) rfl (rg_c rfl)
  replace h := ite_f hc h
  refine r_iload_n (pc := 26) hR (dc dt_X10_same 12 rfl) rfl ?_
  refine r_iconst (pc := 27) hR (dc dt_X10_same 13 rfl) ?_
  refine r_icmp_le (pc := 28) (tgt := 33) hR (dc dt_X10_same 14 rfl) (by decide) q3 (rg_c rfl) (fun hc => ?_) (fun hc => ?_)
  · replace h := ite_t hc h
    refine r_iconst (pc := 33) hR (dc dt_X10_same 17 rfl) ?_
    refine r_istore (pc := 34) (L' := [some (.ref (ad 0)), some (iv v1), some (iv v2), some (iv v3), some (iv 0), none, none, none, none]) hR (dc dt_X10_same 18 rfl) (by decide) rfl rfl ?_
    refine r_iconst (pc := 36) hR (dc dt_X10_same 19 rfl) ?_
    refine r_istore (pc := 37) (L' := [some (.ref (ad 0)), some (iv v1), some (iv v2), some (iv v3), some (iv 0), some (iv 0), none, none, none]) hR (dc dt_X10_same 20 rfl) (by decide) rfl rfl ?_
    refine lp_L10_same_39 hR hT q1 q2 q3 FU 0 0 (rg_c rfl) (rg_c rfl) h
  replace h := ite_f hc h
  refine r_iconst (pc := 31) hR (dc dt_X10_same 15 rfl) ?_
  exact r_iret hT (dc dt_X10_same 16 rfl) (Option.some.inj h) rfl (rg_c rfl)
def tb_X1_motherOf : List (Nat × (Instr × Nat)) := [(0, (.aload_n 0, 1)), (1, (.getfield 24, 3)), (4, (.sipush 197, 3)), (7, (.iload_n 1, 1)), (8, (.iadd, 1)), (9, (.iaload, 1)), (10, (.ireturn, 1))]
set_option maxRecDepth 100000 in
theorem dt_X1_motherOf : (tb_X1_motherOf.all fun q => decide (decode cX1_motherOf q.1 = .ok q.2)) = true := by decide +kernel
set_option maxRecDepth 100000 in
set_option maxHeartbeats 4000000 in
theorem ok_F1_motherOf {m : Mem}  {v1 : Int} (q1 : inR v1) {out : Int} (h : F1_motherOf m v1 = some out) : CT l G cy ad tt yX1_motherOf cX1_motherOf 2 (some .int) 0 [.ref (ad 4), iv v1] m (some (iv out)) (inR out) m := by
  refine CT_of (by decide) (Nat.le_of_ble_eq_true rfl) (fun Go hR hT => ?_)
  replace hR : RS l G cy ad tt RX1 cX1_motherOf 2 0 Go := hR
  show Go 0 [some (.ref (ad 4)), some (iv v1)] [] m
  unfold F1_motherOf at h
  refine r_aload_n (pc := 0) hR (dc dt_X1_motherOf 0 rfl) rfl ?_
  refine r_getr (pc := 1) (k2 := 9) hR (dc dt_X1_motherOf 1 rfl) fl_X1_24 tc_4 rfl ?_
  refine r_sipush (pc := 4) hR (dc dt_X1_motherOf 2 rfl) (by decide) ?_
  refine r_iload_n (pc := 7) hR (dc dt_X1_motherOf 3 rfl) rfl ?_
  refine r_iadd (pc := 8) hR (dc dt_X1_motherOf 4 rfl) ?_
  obtain ⟨g1, h⟩ := gd_some h
  refine r_iald (pc := 9) hR (dc dt_X1_motherOf 5 rfl) tc_9 g1 (w32_in _) ?_
  exact r_iret hT (dc dt_X1_motherOf 6 rfl) (Option.some.inj h) rfl (rd_in _ _ _)
def tb_X1_isUnder : List (Nat × (Instr × Nat)) := [(0, (.iload_n 1, 1)), (1, (.istore_n 3, 1)), (2, (.iconst 0, 1)), (3, (.istore 4, 2)), (5, (.iload 4, 2)), (7, (.bipush 12, 2)), (9, (.if_icmp .ge 26, 3)), (12, (.iload_n 3, 1)), (13, (.ifCond .lt 22, 3)), (16, (.iload_n 3, 1)), (17, (.iload_n 2, 1)), (18, (.if_icmp .ne 5, 3)), (21, (.iconst 1, 1)), (22, (.ireturn, 1)), (23, (.aload_n 0, 1)), (24, (.iload_n 3, 1)), (25, (.invokevirtual 70, 3)), (28, (.istore_n 3, 1)), (29, (.iinc 4 1, 3)), (32, (.goto (-27), 3)), (35, (.iconst 0, 1)), (36, (.ireturn, 1))]
set_option maxRecDepth 100000 in
theorem dt_X1_isUnder : (tb_X1_isUnder.all fun q => decide (decode cX1_isUnder q.1 = .ok q.2)) = true := by decide +kernel
set_option maxRecDepth 100000 in
set_option maxHeartbeats 4000000 in
theorem lp_L1_isUnder_5 {Go : Nat → List (Option Value) → List Value → Mem → Prop} (hR : RS l G cy ad tt RX1 cX1_isUnder 5 1 Go) {out : Int} {m : Mem} (hT : RT cX1_isUnder (some (iv out)) (inZ out) m (some .boolean) Go) {v2 : Int} (qv2 : inR v2) : ∀ (n : Nat) (v3 : Int) (v4 : Int), inR v3 → inR v4 → L1_isUnder_5 m v2 n v3 v4 = some out → Go 5 [some (.ref (ad 4)), none, some (iv v2), some (iv v3), some (iv v4)] [] m := by
  intro n
  induction n with
  | zero =>
    intro v3 v4 qv3 qv4 h
    cases h
  | succ n ih =>
    intro v3 v4 qv3 qv4 h
    rw [L1_isUnder_5] at h
    refine r_iload (pc := 5) hR (dc dt_X1_isUnder 4 rfl) rfl ?_
    refine r_bipush (pc := 7) hR (dc dt_X1_isUnder 5 rfl) (by decide) ?_
    refine r_icmp_ge (pc := 9) (tgt := 35) hR (dc dt_X1_isUnder 6 rfl) (by decide) qv4 (rg_c rfl) (fun hc => ?_) (fun hc => ?_)
    · replace h := ite_t hc h
      refine r_iconst (pc := 35) hR (dc dt_X1_isUnder 20 rfl) ?_
      exact r_zret hT (dc dt_X1_isUnder 21 rfl) (Option.some.inj h) rfl (Or.inl rfl)
    replace h := ite_f hc h
    refine r_iload_n (pc := 12) hR (dc dt_X1_isUnder 7 rfl) rfl ?_
    refine r_if_lt (pc := 13) (tgt := 35) hR (dc dt_X1_isUnder 8 rfl) (by decide) qv3 (fun hc => ?_) (fun hc => ?_)
    · replace h := ite_t hc h
      refine r_iconst (pc := 35) hR (dc dt_X1_isUnder 20 rfl) ?_
      exact r_zret hT (dc dt_X1_isUnder 21 rfl) (Option.some.inj h) rfl (Or.inl rfl)
    replace h := ite_f hc h
    refine r_iload_n (pc := 16) hR (dc dt_X1_isUnder 9 rfl) rfl ?_
    refine r_iload_n (pc := 17) hR (dc dt_X1_isUnder 10 rfl) rfl ?_
    refine r_icmp_ne (pc := 18) (tgt := 23) hR (dc dt_X1_isUnder 11 rfl) (by decide) qv3 qv2 (fun hc => ?_) (fun hc => ?_)
    · replace h := ite_t hc h
      refine r_aload_n (pc := 23) hR (dc dt_X1_isUnder 14 rfl) rfl ?_
      refine r_iload_n (pc := 24) hR (dc dt_X1_isUnder 15 rfl) rfl ?_
      obtain ⟨r25, e25, h⟩ := b1_some h
      refine r_callV (pc := 25) (rest := []) hR (dc dt_X1_isUnder 16 rfl) cl_X1_70 tc_4 rfl (ok_F1_motherOf qv3 e25) (by decide) rfl (Nat.le_of_ble_eq_true rfl) rfl (fun q25r => ?_)
      show Go 28 [some (.ref (ad 4)), none, some (iv v2), some (iv v3), some (iv v4)] [iv r25] m
      refine r_istore_n (pc := 28) (L' := [some (.ref (ad 4)), none, some (iv v2), some (iv r25), some (iv v4)]) hR (dc dt_X1_isUnder 17 rfl) (by decide) rfl rfl ?_
      refine r_iinc (pc := 29) (L' := [some (.ref (ad 4)), none, some (iv v2), some (iv r25), some (iv (w32 (v4 + 1)))]) hR (dc dt_X1_isUnder 18 rfl) rfl (by decide) rfl rfl ?_
      refine r_goto (pc := 32) (tgt := 5) hR (dc dt_X1_isUnder 19 rfl) (by decide) ?_
      exact ih r25 (w32 (v4 + 1)) q25r (w32_in _) h
    replace h := ite_f hc h
    refine r_iconst (pc := 21) hR (dc dt_X1_isUnder 12 rfl) ?_
    exact r_zret hT (dc dt_X1_isUnder 13 rfl) (Option.some.inj h) rfl (Or.inr rfl)
set_option maxRecDepth 100000 in
set_option maxHeartbeats 4000000 in
theorem ok_F1_isUnder {m : Mem}  {v1 v2 : Int} (q1 : inR v1) (q2 : inR v2) {out : Int} (h : F1_isUnder m v1 v2 = some out) : CT l G cy ad tt yX1_isUnder cX1_isUnder 5 (some .boolean) 1 [.ref (ad 4), iv v1, iv v2] m (some (iv out)) (inZ out) m := by
  refine CT_of (by decide) (Nat.le_of_ble_eq_true rfl) (fun Go hR hT => ?_)
  replace hR : RS l G cy ad tt RX1 cX1_isUnder 5 1 Go := hR
  show Go 0 [some (.ref (ad 4)), some (iv v1), some (iv v2), none, none] [] m
  unfold F1_isUnder at h
  refine r_iload_n (pc := 0) hR (dc dt_X1_isUnder 0 rfl) rfl ?_
  refine r_istore_n (pc := 1) (L' := [some (.ref (ad 4)), some (iv v1), some (iv v2), some (iv v1), none]) hR (dc dt_X1_isUnder 1 rfl) (by decide) rfl rfl ?_
  refine r_iconst (pc := 2) hR (dc dt_X1_isUnder 2 rfl) ?_
  refine r_istore (pc := 3) (L' := [some (.ref (ad 4)), some (iv v1), some (iv v2), some (iv v1), some (iv 0)]) hR (dc dt_X1_isUnder 3 rfl) (by decide) rfl rfl ?_
  refine r_weak (L' := [some (.ref (ad 4)), none, some (iv v2), some (iv v1), some (iv 0)]) hR ⟨Or.inr rfl, Or.inl rfl, Or.inr rfl, Or.inr rfl, Or.inr rfl, trivial⟩ ?_
  refine lp_L1_isUnder_5 hR hT q2 FU v1 0 q1 (rg_c rfl) h
def tb_X10_mother : List (Nat × (Instr × Nat)) := [(0, (.aload_n 0, 1)), (1, (.getfield 19, 3)), (4, (.iload_n 1, 1)), (5, (.invokevirtual 112, 3)), (8, (.ifCond .eq 24, 3)), (11, (.iload_n 2, 1)), (12, (.iconst (-1), 1)), (13, (.if_icmp .eq 14, 3)), (16, (.aload_n 0, 1)), (17, (.getfield 19, 3)), (20, (.iload_n 2, 1)), (21, (.invokevirtual 112, 3)), (24, (.ifCond .eq 8, 3)), (27, (.iload_n 1, 1)), (28, (.iload_n 2, 1)), (29, (.if_icmp .ne 6, 3)), (32, (.ldc 160, 2)), (34, (.ireturn, 1)), (35, (.aload_n 0, 1)), (36, (.getfield 19, 3)), (39, (.iload_n 2, 1)), (40, (.iload_n 1, 1)), (41, (.invokevirtual 161, 3)), (44, (.ifCond .eq 6, 3)), (47, (.bipush (-2), 2)), (49, (.ireturn, 1)), (50, (.aload_n 0, 1)), (51, (.getfield 19, 3)), (54, (.aload_n 0, 1)), (55, (.getfield 19, 3)), (58, (.iload_n 1, 1)), (59, (.invokevirtual 165, 3)), (62, (.iload_n 2, 1)), (63, (.invokevirtual 137, 3)), (66, (.ireturn, 1))]
set_option maxRecDepth 100000 in
theorem dt_X10_mother : (tb_X10_mother.all fun q => decide (decode cX10_mother q.1 = .ok q.2)) = true := by decide +kernel
set_option maxRecDepth 100000 in
set_option maxHeartbeats 4000000 in
theorem ok_F10_mother {m : Mem}  {v1 v2 : Int} (q1 : inR v1) (q2 : inR v2) {out : Int × Mem} (h : F10_mother m v1 v2 = some out) : CT l G cy ad tt yX10_mother cX10_mother 3 (some .int) 3 [.ref (ad 0), iv v1, iv v2] m (some (iv out.1)) (inR out.1) out.2 := by
  refine CT_of (by decide) (Nat.le_of_ble_eq_true rfl) (fun Go hR hT => ?_)
  replace hR : RS l G cy ad tt RX10 cX10_mother 3 3 Go := hR
  show Go 0 [some (.ref (ad 0)), some (iv v1), some (iv v2)] [] m
  unfold F10_mother at h
  refine r_aload_n (pc := 0) hR (dc dt_X10_mother 0 rfl) rfl ?_
  refine r_getr (pc := 1) (k2 := 4) hR (dc dt_X10_mother 1 rfl) fl_X10_19 tc_0 rfl ?_
  refine r_iload_n (pc := 4) hR (dc dt_X10_mother 2 rfl) rfl ?_
  refine r_callV (pc := 5) (rest := []) hR (dc dt_X10_mother 3 rfl) cl_X10_112 tc_4 rfl (ok_F1_has q1) (by decide) rfl (Nat.le_of_ble_eq_true rfl) rfl (fun q5r => ?_)
  show Go 8 [some (.ref (ad 0)), some (iv v1), some (iv v2)] [iv (F1_has m v1)] m
  refine r_if_eq (pc := 8) (tgt := 32) hR (dc dt_X10_mother 4 rfl) (by decide) (inZ_R q5r) (fun hc => ?_) (fun hc => ?_)
  · replace h := ite_t hc h
    refine r_ldc (pc := 32) hR (dc dt_X10_mother 16 rfl) kw_X10_160 ?_
    exact r_iret hT (dc dt_X10_mother 17 rfl) (congrArg Prod.fst (Option.some.inj h)) (congrArg Prod.snd (Option.some.inj h)) (rg_c rfl)
  replace h := ite_f hc h
  refine r_iload_n (pc := 11) hR (dc dt_X10_mother 5 rfl) rfl ?_
  refine r_iconst (pc := 12) hR (dc dt_X10_mother 6 rfl) ?_
  refine jn_e h (fun (K : Option (Int × Mem)) => K = some out → Go 27 [some (.ref (ad 0)), some (iv v1), some (iv v2)] [] m) (fun h => ?_) (fun K27 J27 h => ?_)
  · refine r_iload_n (pc := 27) hR (dc dt_X10_mother 13 rfl) rfl ?_
    refine r_iload_n (pc := 28) hR (dc dt_X10_mother 14 rfl) rfl ?_
    refine r_icmp_ne (pc := 29) (tgt := 35) hR (dc dt_X10_mother 15 rfl) (by decide) q1 q2 (fun hc => ?_) (fun hc => ?_)
    · replace h := ite_t hc h
      refine r_aload_n (pc := 35) hR (dc dt_X10_mother 18 rfl) rfl ?_
      refine r_getr (pc := 36) (k2 := 4) hR (dc dt_X10_mother 19 rfl) fl_X10_19 tc_0 rfl ?_
      refine r_iload_n (pc := 39) hR (dc dt_X10_mother 20 rfl) rfl ?_
      refine r_iload_n (pc := 40) hR (dc dt_X10_mother 21 rfl) rfl ?_
      obtain ⟨r41, e41, h⟩ := b1_some h
      refine r_callV (pc := 41) (rest := []) hR (dc dt_X10_mother 22 rfl) cl_X10_161 tc_4 rfl (ok_F1_isUnder q2 q1 e41) (by decide) rfl (Nat.le_of_ble_eq_true rfl) rfl (fun q41r => ?_)
      show Go 44 [some (.ref (ad 0)), some (iv v1), some (iv v2)] [iv r41] m
      refine r_if_eq (pc := 44) (tgt := 50) hR (dc dt_X10_mother 23 rfl) (by decide) (inZ_R q41r) (fun hc => ?_) (fun hc => ?_)
      · replace h := ite_t hc h
        refine r_aload_n (pc := 50) hR (dc dt_X10_mother 26 rfl) rfl ?_
        refine r_getr (pc := 51) (k2 := 4) hR (dc dt_X10_mother 27 rfl) fl_X10_19 tc_0 rfl ?_
        refine r_aload_n (pc := 54) hR (dc dt_X10_mother 28 rfl) rfl ?_
        refine r_getr (pc := 55) (k2 := 4) hR (dc dt_X10_mother 29 rfl) fl_X10_19 tc_0 rfl ?_
        refine r_iload_n (pc := 58) hR (dc dt_X10_mother 30 rfl) rfl ?_
        refine r_callV (pc := 59) (rest := [.ref (ad 4)]) hR (dc dt_X10_mother 31 rfl) cl_X10_165 tc_4 rfl (ok_F1_motherCell q1) (by decide) rfl (Nat.le_of_ble_eq_true rfl) rfl (fun q59r => ?_)
        show Go 62 [some (.ref (ad 0)), some (iv v1), some (iv v2)] [iv (F1_motherCell v1), .ref (ad 4)] m
        refine r_iload_n (pc := 62) hR (dc dt_X10_mother 32 rfl) rfl ?_
        obtain ⟨r63, m63, e63, h⟩ := b2_some h
        refine r_callV (pc := 63) (rest := []) hR (dc dt_X10_mother 33 rfl) cl_X10_137 tc_4 rfl (ok_F1_change q59r q2 e63) (by decide) rfl (Nat.le_of_ble_eq_true rfl) rfl (fun q63r => ?_)
        show Go 66 [some (.ref (ad 0)), some (iv v1), some (iv v2)] [iv r63] m63
        exact r_iret hT (dc dt_X10_mother 34 rfl) (congrArg Prod.fst (Option.some.inj h)) (congrArg Prod.snd (Option.some.inj h)) q63r
      replace h := ite_f hc h
      refine r_bipush (pc := 47) hR (dc dt_X10_mother 24 rfl) (by decide) ?_
      exact r_iret hT (dc dt_X10_mother 25 rfl) (congrArg Prod.fst (Option.some.inj h)) (congrArg Prod.snd (Option.some.inj h)) (rg_c rfl)
    replace h := ite_f hc h
    refine r_ldc (pc := 32) hR (dc dt_X10_mother 16 rfl) kw_X10_160 ?_
    exact r_iret hT (dc dt_X10_mother 17 rfl) (congrArg Prod.fst (Option.some.inj h)) (congrArg Prod.snd (Option.some.inj h)) (rg_c rfl)
  refine r_icmp_eq (pc := 13) (tgt := 27) hR (dc dt_X10_mother 7 rfl) (by decide) q2 (rg_c rfl) (fun hc => ?_) (fun hc => ?_)
  · replace h := ite_t hc h
    exact J27 h
  replace h := ite_f hc h
  refine r_aload_n (pc := 16) hR (dc dt_X10_mother 8 rfl) rfl ?_
  refine r_getr (pc := 17) (k2 := 4) hR (dc dt_X10_mother 9 rfl) fl_X10_19 tc_0 rfl ?_
  refine r_iload_n (pc := 20) hR (dc dt_X10_mother 10 rfl) rfl ?_
  refine r_callV (pc := 21) (rest := []) hR (dc dt_X10_mother 11 rfl) cl_X10_112 tc_4 rfl (ok_F1_has q2) (by decide) rfl (Nat.le_of_ble_eq_true rfl) rfl (fun q21r => ?_)
  show Go 24 [some (.ref (ad 0)), some (iv v1), some (iv v2)] [iv (F1_has m v2)] m
  refine r_if_eq (pc := 24) (tgt := 32) hR (dc dt_X10_mother 12 rfl) (by decide) (inZ_R q21r) (fun hc => ?_) (fun hc => ?_)
  · replace h := ite_t hc h
    refine r_ldc (pc := 32) hR (dc dt_X10_mother 16 rfl) kw_X10_160 ?_
    exact r_iret hT (dc dt_X10_mother 17 rfl) (congrArg Prod.fst (Option.some.inj h)) (congrArg Prod.snd (Option.some.inj h)) (rg_c rfl)
  replace h := ite_f hc h
  exact J27 h
def tb_X1_costOf : List (Nat × (Instr × Nat)) := [(0, (.aload_n 0, 1)), (1, (.getfield 24, 3)), (4, (.aload_n 0, 1)), (5, (.iload_n 1, 1)), (6, (.invokevirtual 67, 3)), (9, (.iaload, 1)), (10, (.ireturn, 1))]
set_option maxRecDepth 100000 in
theorem dt_X1_costOf : (tb_X1_costOf.all fun q => decide (decode cX1_costOf q.1 = .ok q.2)) = true := by decide +kernel
set_option maxRecDepth 100000 in
set_option maxHeartbeats 4000000 in
theorem ok_F1_costOf {m : Mem}  {v1 : Int} (q1 : inR v1) {out : Int} (h : F1_costOf m v1 = some out) : CT l G cy ad tt yX1_costOf cX1_costOf 2 (some .int) 1 [.ref (ad 4), iv v1] m (some (iv out)) (inR out) m := by
  refine CT_of (by decide) (Nat.le_of_ble_eq_true rfl) (fun Go hR hT => ?_)
  replace hR : RS l G cy ad tt RX1 cX1_costOf 2 1 Go := hR
  show Go 0 [some (.ref (ad 4)), some (iv v1)] [] m
  unfold F1_costOf at h
  refine r_aload_n (pc := 0) hR (dc dt_X1_costOf 0 rfl) rfl ?_
  refine r_getr (pc := 1) (k2 := 9) hR (dc dt_X1_costOf 1 rfl) fl_X1_24 tc_4 rfl ?_
  refine r_aload_n (pc := 4) hR (dc dt_X1_costOf 2 rfl) rfl ?_
  refine r_iload_n (pc := 5) hR (dc dt_X1_costOf 3 rfl) rfl ?_
  refine r_callV (pc := 6) (rest := [.ref (ad 9)]) hR (dc dt_X1_costOf 4 rfl) cl_X1_67 tc_4 rfl (ok_F1_costCell q1) (by decide) rfl (Nat.le_of_ble_eq_true rfl) rfl (fun q6r => ?_)
  show Go 9 [some (.ref (ad 4)), some (iv v1)] [iv (F1_costCell v1), .ref (ad 9)] m
  obtain ⟨g1, h⟩ := gd_some h
  refine r_iald (pc := 9) hR (dc dt_X1_costOf 5 rfl) tc_9 g1 q6r ?_
  exact r_iret hT (dc dt_X1_costOf 6 rfl) (Option.some.inj h) rfl (rd_in _ _ _)
def tb_X9_takeCosts : List (Nat × (Instr × Nat)) := [(0, (.iconst 0, 1)), (1, (.istore_n 2, 1)), (2, (.iload_n 2, 1)), (3, (.iconst 4, 1)), (4, (.if_icmp .ge 66, 3)), (7, (.iconst 0, 1)), (8, (.istore_n 3, 1)), (9, (.iload_n 3, 1)), (10, (.iconst 4, 1)), (11, (.if_icmp .ge 53, 3)), (14, (.iload_n 2, 1)), (15, (.ifCond .ne 7, 3)), (18, (.iconst 0, 1)), (19, (.goto 12, 3)), (22, (.iload_n 3, 1)), (23, (.ifCond .ne 7, 3)), (26, (.iconst 1, 1)), (27, (.goto 4, 3)), (30, (.iconst 2, 1)), (31, (.istore 4, 2)), (33, (.aload_n 0, 1)), (34, (.getfield 33, 3)), (37, (.iload_n 2, 1)), (38, (.iconst 4, 1)), (39, (.imul, 1)), (40, (.iload_n 3, 1)), (41, (.iadd, 1)), (42, (.iload_n 2, 1)), (43, (.iload_n 3, 1)), (44, (.if_icmp .ne 7, 3)), (47, (.iconst 0, 1)), (48, (.goto 9, 3)), (51, (.aload_n 1, 1)), (52, (.iload 4, 2)), (54, (.invokevirtual 68, 3)), (57, (.iastore, 1)), (58, (.iinc 3 1, 3)), (61, (.goto (-52), 3)), (64, (.iinc 2 1, 3)), (67, (.goto (-65), 3)), (70, (.return_, 1))]
set_option maxRecDepth 100000 in
theorem dt_X9_takeCosts : (tb_X9_takeCosts.all fun q => decide (decode cX9_takeCosts q.1 = .ok q.2)) = true := by decide +kernel
set_option maxRecDepth 100000 in
set_option maxHeartbeats 4000000 in
theorem lp_L9_takeCosts_9 {Go : Nat → List (Option Value) → List Value → Mem → Prop} (hR : RS l G cy ad tt RX9 cX9_takeCosts 5 2 Go) {out : Mem} (hT : RT cX9_takeCosts none True out none Go) {o : Nat} (hT0 : isTr o) {v2 : Int} (qv2 : inR v2) {k64 : Mem → Option Mem} (hk64 : ∀ (m : Mem), k64 m = some out → Go 64 [some (.ref (ad o)), some (.ref (ad 4)), some (iv v2), none, none] [] m) : ∀ (n : Nat) (v3 : Int) (m : Mem), inR v3 → L9_takeCosts_9 o v2 k64 n v3 m = some out → Go 9 [some (.ref (ad o)), some (.ref (ad 4)), some (iv v2), some (iv v3), none] [] m := by
  intro n
  induction n with
  | zero =>
    intro v3 m qv3 h
    cases h
  | succ n ih =>
    intro v3 m qv3 h
    rw [L9_takeCosts_9] at h
    refine r_iload_n (pc := 9) hR (dc dt_X9_takeCosts 7 rfl) rfl ?_
    refine r_iconst (pc := 10) hR (dc dt_X9_takeCosts 8 rfl) ?_
    refine r_icmp_ge (pc := 11) (tgt := 64) hR (dc dt_X9_takeCosts 9 rfl) (by decide) qv3 (rg_c rfl) (fun hc => ?_) (fun hc => ?_)
    · replace h := ite_t hc h
      refine r_weak (L' := [some (.ref (ad o)), some (.ref (ad 4)), some (iv v2), none, none]) hR ⟨Or.inr rfl, Or.inr rfl, Or.inr rfl, Or.inl rfl, Or.inr rfl, trivial⟩ ?_
      exact hk64 m h
    replace h := ite_f hc h
    refine r_iload_n (pc := 14) hR (dc dt_X9_takeCosts 10 rfl) rfl ?_
    refine jn_e h (fun (K : Int → Option Mem) => ∀ (x31 : Int), inR x31 → K x31 = some out → Go 31 [some (.ref (ad o)), some (.ref (ad 4)), some (iv v2), some (iv v3), none] [iv x31] m) (fun x31 qx31 h => ?_) (fun K31 J31 h => ?_)
    · refine r_istore (pc := 31) (L' := [some (.ref (ad o)), some (.ref (ad 4)), some (iv v2), some (iv v3), some (iv x31)]) hR (dc dt_X9_takeCosts 19 rfl) (by decide) rfl rfl ?_
      refine r_aload_n (pc := 33) hR (dc dt_X9_takeCosts 20 rfl) rfl ?_
      refine r_getr (pc := 34) (k2 := o + 8) hR (dc dt_X9_takeCosts 21 rfl) fl_X9_33 hT0.1 rfl ?_
      refine r_iload_n (pc := 37) hR (dc dt_X9_takeCosts 22 rfl) rfl ?_
      refine r_iconst (pc := 38) hR (dc dt_X9_takeCosts 23 rfl) ?_
      refine r_imul (pc := 39) hR (dc dt_X9_takeCosts 24 rfl) ?_
      refine r_iload_n (pc := 40) hR (dc dt_X9_takeCosts 25 rfl) rfl ?_
      refine r_iadd (pc := 41) hR (dc dt_X9_takeCosts 26 rfl) ?_
      refine r_iload_n (pc := 42) hR (dc dt_X9_takeCosts 27 rfl) rfl ?_
      refine r_iload_n (pc := 43) hR (dc dt_X9_takeCosts 28 rfl) rfl ?_
      refine jn_e h (fun (K : Int → Option Mem) => ∀ (x57 : Int), inR x57 → K x57 = some out → Go 57 [some (.ref (ad o)), some (.ref (ad 4)), some (iv v2), some (iv v3), none] [iv x57, iv (w32 ((w32 (v2 * 4)) + v3)), .ref (ad (o + 8))] m) (fun x57 qx57 h => ?_) (fun K57 J57 h => ?_)
      · obtain ⟨g1, h⟩ := gd_some h
        refine r_iast (pc := 57) hR (dc dt_X9_takeCosts 35 rfl) (tr_8 hT0) g1 (w32_in _) ?_
        replace h := stw_e h
        generalize wr m (o + 8) (w32 ((w32 (v2 * 4)) + v3)) x57 = m57 at h ⊢
        refine r_iinc (pc := 58) (L' := [some (.ref (ad o)), some (.ref (ad 4)), some (iv v2), some (iv (w32 (v3 + 1))), none]) hR (dc dt_X9_takeCosts 36 rfl) rfl (by decide) rfl rfl ?_
        refine r_goto (pc := 61) (tgt := 9) hR (dc dt_X9_takeCosts 37 rfl) (by decide) ?_
        exact ih (w32 (v3 + 1)) m57 (w32_in _) h
      refine r_icmp_ne (pc := 44) (tgt := 51) hR (dc dt_X9_takeCosts 29 rfl) (by decide) qv2 qv3 (fun hc => ?_) (fun hc => ?_)
      · replace h := ite_t hc h
        refine r_aload_n (pc := 51) hR (dc dt_X9_takeCosts 32 rfl) rfl ?_
        refine r_iload (pc := 52) hR (dc dt_X9_takeCosts 33 rfl) rfl ?_
        obtain ⟨r54, e54, h⟩ := b1_some h
        refine r_callV (pc := 54) (rest := [iv (w32 ((w32 (v2 * 4)) + v3)), .ref (ad (o + 8))]) hR (dc dt_X9_takeCosts 34 rfl) cl_X9_68 tc_4 rfl (ok_F1_costOf qx31 e54) (by decide) rfl (Nat.le_of_ble_eq_true rfl) rfl (fun q54r => ?_)
        show Go 57 [some (.ref (ad o)), some (.ref (ad 4)), some (iv v2), some (iv v3), some (iv x31)] [iv r54, iv (w32 ((w32 (v2 * 4)) + v3)), .ref (ad (o + 8))] m
        refine r_weak (L' := [some (.ref (ad o)), some (.ref (ad 4)), some (iv v2), some (iv v3), none]) hR ⟨Or.inr rfl, Or.inr rfl, Or.inr rfl, Or.inr rfl, Or.inl rfl, trivial⟩ ?_
        exact J57 r54 q54r h
      replace h := ite_f hc h
      refine r_iconst (pc := 47) hR (dc dt_X9_takeCosts 30 rfl) ?_
      refine r_goto (pc := 48) (tgt := 57) hR (dc dt_X9_takeCosts 31 rfl) (by decide) ?_
      refine r_weak (L' := [some (.ref (ad o)), some (.ref (ad 4)), some (iv v2), some (iv v3), none]) hR ⟨Or.inr rfl, Or.inr rfl, Or.inr rfl, Or.inr rfl, Or.inl rfl, trivial⟩ ?_
      exact J57 0 (rg_c rfl) h
    refine r_if_ne (pc := 15) (tgt := 22) hR (dc dt_X9_takeCosts 11 rfl) (by decide) qv2 (fun hc => ?_) (fun hc => ?_)
    · replace h := ite_t hc h
      refine r_iload_n (pc := 22) hR (dc dt_X9_takeCosts 14 rfl) rfl ?_
      refine r_if_ne (pc := 23) (tgt := 30) hR (dc dt_X9_takeCosts 15 rfl) (by decide) qv3 (fun hc => ?_) (fun hc => ?_)
      · replace h := ite_t hc h
        refine r_iconst (pc := 30) hR (dc dt_X9_takeCosts 18 rfl) ?_
        exact J31 2 (rg_c rfl) h
      replace h := ite_f hc h
      refine r_iconst (pc := 26) hR (dc dt_X9_takeCosts 16 rfl) ?_
      refine r_goto (pc := 27) (tgt := 31) hR (dc dt_X9_takeCosts 17 rfl) (by decide) ?_
      exact J31 1 (rg_c rfl) h
    replace h := ite_f hc h
    refine r_iconst (pc := 18) hR (dc dt_X9_takeCosts 12 rfl) ?_
    refine r_goto (pc := 19) (tgt := 31) hR (dc dt_X9_takeCosts 13 rfl) (by decide) ?_
    exact J31 0 (rg_c rfl) h
set_option maxRecDepth 100000 in
set_option maxHeartbeats 4000000 in
theorem lp_L9_takeCosts_2 {Go : Nat → List (Option Value) → List Value → Mem → Prop} (hR : RS l G cy ad tt RX9 cX9_takeCosts 5 2 Go) {out : Mem} (hT : RT cX9_takeCosts none True out none Go) {o : Nat} (hT0 : isTr o) : ∀ (n : Nat) (v2 : Int) (m : Mem), inR v2 → L9_takeCosts_2 o n v2 m = some out → Go 2 [some (.ref (ad o)), some (.ref (ad 4)), some (iv v2), none, none] [] m := by
  intro n
  induction n with
  | zero =>
    intro v2 m qv2 h
    cases h
  | succ n ih =>
    intro v2 m qv2 h
    rw [L9_takeCosts_2] at h
    refine r_iload_n (pc := 2) hR (dc dt_X9_takeCosts 2 rfl) rfl ?_
    refine r_iconst (pc := 3) hR (dc dt_X9_takeCosts 3 rfl) ?_
    refine r_icmp_ge (pc := 4) (tgt := 70) hR (dc dt_X9_takeCosts 4 rfl) (by decide) qv2 (rg_c rfl) (fun hc => ?_) (fun hc => ?_)
    · replace h := ite_t hc h
      exact r_vret hT (dc dt_X9_takeCosts 40 rfl) (Option.some.inj h)
    replace h := ite_f hc h
    refine r_iconst (pc := 7) hR (dc dt_X9_takeCosts 5 rfl) ?_
    refine r_istore_n (pc := 8) (L' := [some (.ref (ad o)), some (.ref (ad 4)), some (iv v2), some (iv 0), none]) hR (dc dt_X9_takeCosts 6 rfl) (by decide) rfl rfl ?_
    refine lp_L9_takeCosts_9 hR hT hT0 qv2 (fun m_64 h => ?_) FU 0 m (rg_c rfl) h
    show Go 64 [some (.ref (ad o)), some (.ref (ad 4)), some (iv v2), none, none] [] m_64
    refine r_iinc (pc := 64) (L' := [some (.ref (ad o)), some (.ref (ad 4)), some (iv (w32 (v2 + 1))), none, none]) hR (dc dt_X9_takeCosts 38 rfl) rfl (by decide) rfl rfl ?_
    refine r_goto (pc := 67) (tgt := 2) hR (dc dt_X9_takeCosts 39 rfl) (by decide) ?_
    exact ih (w32 (v2 + 1)) m_64 (w32_in _) h
set_option maxRecDepth 100000 in
set_option maxHeartbeats 4000000 in
theorem ok_F9_takeCosts {m : Mem} {o : Nat} (hT0 : isTr o) {out : Mem} (h : F9_takeCosts m o = some out) : CT l G cy ad tt yX9_takeCosts cX9_takeCosts 5 none 2 [.ref (ad o), .ref (ad 4)] m none True out := by
  refine CT_of (by decide) (Nat.le_of_ble_eq_true rfl) (fun Go hR hT => ?_)
  replace hR : RS l G cy ad tt RX9 cX9_takeCosts 5 2 Go := hR
  show Go 0 [some (.ref (ad o)), some (.ref (ad 4)), none, none, none] [] m
  unfold F9_takeCosts at h
  refine r_iconst (pc := 0) hR (dc dt_X9_takeCosts 0 rfl) ?_
  refine r_istore_n (pc := 1) (L' := [some (.ref (ad o)), some (.ref (ad 4)), some (iv 0), none, none]) hR (dc dt_X9_takeCosts 1 rfl) (by decide) rfl rfl ?_
  refine lp_L9_takeCosts_2 hR hT hT0 FU 0 m (rg_c rfl) h
def tb_X9_arrange : List (Nat × (Instr × Nat)) := [(0, (.iconst 0, 1)), (1, (.istore_n 1, 1)), (2, (.iconst 0, 1)), (3, (.istore_n 2, 1)), (4, (.iconst 0, 1)), (5, (.istore_n 3, 1)), (6, (.iload_n 3, 1)), (7, (.aload_n 0, 1)), (8, (.getfield 51, 3)), (11, (.if_icmp .ge 106, 3)), (14, (.iload_n 2, 1)), (15, (.aload_n 0, 1)), (16, (.getfield 51, 3)), (19, (.if_icmp .ge 98, 3)), (22, (.iconst 0, 1)), (23, (.istore 4, 2)), (25, (.iload 4, 2)), (27, (.aload_n 0, 1)), (28, (.getfield 51, 3)), (31, (.if_icmp .ge 80, 3)), (34, (.aload_n 0, 1)), (35, (.getfield 9, 3)), (38, (.iload 4, 2)), (40, (.iaload, 1)), (41, (.ifCond .lt 17, 3)), (44, (.iload_n 1, 1)), (45, (.aload_n 0, 1)), (46, (.getfield 9, 3)), (49, (.iload 4, 2)), (51, (.iaload, 1)), (52, (.ishr, 1)), (53, (.iconst 1, 1)), (54, (.iand, 1)), (55, (.ifCond .eq 7, 3)), (58, (.iconst 1, 1)), (59, (.goto 4, 3)), (62, (.iconst 0, 1)), (63, (.istore 5, 2)), (65, (.iload 5, 2)), (67, (.ifCond .eq 38, 3)), (70, (.iload_n 1, 1)), (71, (.iload 4, 2)), (73, (.ishr, 1)), (74, (.iconst 1, 1)), (75, (.iand, 1)), (76, (.ifCond .ne 29, 3)), (79, (.iload_n 2, 1)), (80, (.aload_n 0, 1)), (81, (.getfield 51, 3)), (84, (.if_icmp .ge 21, 3)), (87, (.iload_n 1, 1)), (88, (.iconst 1, 1)), (89, (.iload 4, 2)), (91, (.ishl, 1)), (92, (.ior, 1)), (93, (.istore_n 1, 1)), (94, (.aload_n 0, 1)), (95, (.getfield 30, 3)), (98, (.iload_n 2, 1)), (99, (.iload 4, 2)), (101, (.iastore, 1)), (102, (.iinc 2 1, 3)), (105, (.iinc 4 1, 3)), (108, (.goto (-83), 3)), (111, (.iinc 3 1, 3)), (114, (.goto (-108), 3)), (117, (.iload_n 2, 1)), (118, (.aload_n 0, 1)), (119, (.getfield 51, 3)), (122, (.if_icmp .ne 7, 3)), (125, (.iconst 1, 1)), (126, (.goto 4, 3)), (129, (.iconst 0, 1)), (130, (.ireturn, 1))]
set_option maxRecDepth 100000 in
theorem dt_X9_arrange : (tb_X9_arrange.all fun q => decide (decode cX9_arrange q.1 = .ok q.2)) = true := by decide +kernel
set_option maxRecDepth 100000 in
set_option maxHeartbeats 4000000 in
theorem lp_L9_arrange_25 {Go : Nat → List (Option Value) → List Value → Mem → Prop} (hR : RS l G cy ad tt RX9 cX9_arrange 6 0 Go) {out : Int × Mem} (hT : RT cX9_arrange (some (iv out.1)) (inZ out.1) out.2 (some .boolean) Go) {o : Nat} (hT0 : isTr o) {v3 : Int} (qv3 : inR v3) {k111 : Int → Int → Mem → Option (Int × Mem)} (hk111 : ∀ (v1 : Int) (v2 : Int) (m : Mem), inR v1 → inR v2 → k111 v1 v2 m = some out → Go 111 [some (.ref (ad o)), some (iv v1), some (iv v2), some (iv v3), none, none] [] m) : ∀ (n : Nat) (v1 : Int) (v2 : Int) (v4 : Int) (m : Mem), inR v1 → inR v2 → inR v4 → L9_arrange_25 o k111 n v1 v2 v4 m = some out → Go 25 [some (.ref (ad o)), some (iv v1), some (iv v2), some (iv v3), some (iv v4), none] [] m := by
  intro n
  induction n with
  | zero =>
    intro v1 v2 v4 m qv1 qv2 qv4 h
    cases h
  | succ n ih =>
    intro v1 v2 v4 m qv1 qv2 qv4 h
    rw [L9_arrange_25] at h
    refine r_iload (pc := 25) hR (dc dt_X9_arrange 16 rfl) rfl ?_
    refine r_aload_n (pc := 27) hR (dc dt_X9_arrange 17 rfl) rfl ?_
    refine r_geti (pc := 28) hR (dc dt_X9_arrange 18 rfl) fl_X9_51 hT0.1 rfl ?_
    refine r_icmp_ge (pc := 31) (tgt := 111) hR (dc dt_X9_arrange 19 rfl) (by decide) qv4 (rd_in _ _ _) (fun hc => ?_) (fun hc => ?_)
    · replace h := ite_t hc h
      refine r_weak (L' := [some (.ref (ad o)), some (iv v1), some (iv v2), some (iv v3), none, none]) hR ⟨Or.inr rfl, Or.inr rfl, Or.inr rfl, Or.inr rfl, Or.inl rfl, Or.inr rfl, trivial⟩ ?_
      exact hk111 v1 v2 m qv1 qv2 h
    replace h := ite_f hc h
    refine r_aload_n (pc := 34) hR (dc dt_X9_arrange 20 rfl) rfl ?_
    refine r_getr (pc := 35) (k2 := o + 1) hR (dc dt_X9_arrange 21 rfl) fl_X9_9 hT0.1 rfl ?_
    refine r_iload (pc := 38) hR (dc dt_X9_arrange 22 rfl) rfl ?_
    obtain ⟨g1, h⟩ := gd_some h
    refine r_iald (pc := 40) hR (dc dt_X9_arrange 23 rfl) (tr_1 hT0) g1 qv4 ?_
    refine jn_e h (fun (K : Int → Option (Int × Mem)) => ∀ (x63 : Int), inZ x63 → K x63 = some out → Go 63 [some (.ref (ad o)), some (iv v1), some (iv v2), some (iv v3), some (iv v4), none] [iv x63] m) (fun x63 qx63 h => ?_) (fun K63 J63 h => ?_)
    · refine r_istore (pc := 63) (L' := [some (.ref (ad o)), some (iv v1), some (iv v2), some (iv v3), some (iv v4), some (iv x63)]) hR (dc dt_X9_arrange 37 rfl) (by decide) rfl rfl ?_
      refine r_iload (pc := 65) hR (dc dt_X9_arrange 38 rfl) rfl ?_
      refine jn_e h (fun (K : Int → Int → Mem → Option (Int × Mem)) => ∀ (v1_105 : Int) (v2_105 : Int) (m_105 : Mem), inR v1_105 → inR v2_105 → K v1_105 v2_105 m_105 = some out → Go 105 [some (.ref (ad o)), some (iv v1_105), some (iv v2_105), some (iv v3), some (iv v4), none] [] m_105) (fun v1_105 v2_105 m_105 qv1_105 qv2_105 h => ?_) (fun K105 J105 h => ?_)
      · refine r_iinc (pc := 105) (L' := [some (.ref (ad o)), some (iv v1_105), some (iv v2_105), some (iv v3), some (iv (w32 (v4 + 1))), none]) hR (dc dt_X9_arrange 62 rfl) rfl (by decide) rfl rfl ?_
        refine r_goto (pc := 108) (tgt := 25) hR (dc dt_X9_arrange 63 rfl) (by decide) ?_
        exact ih v1_105 v2_105 (w32 (v4 + 1)) m_105 qv1_105 qv2_105 (w32_in _) h
      refine r_if_eq (pc := 67) (tgt := 105) hR (dc dt_X9_arrange 39 rfl) (by decide) (inZ_R qx63) (fun hc => ?_) (fun hc => ?_)
      · replace h := ite_t hc h
        refine r_weak (L' := [some (.ref (ad o)), some (iv v1), some (iv v2), some (iv v3), some (iv v4), none]) hR ⟨Or.inr rfl, Or.inr rfl, Or.inr rfl, Or.inr rfl, Or.inr rfl, Or.inl rfl, trivial⟩ ?_
        exact J105 v1 v2 m qv1 qv2 h
      replace h := ite_f hc h
      refine r_iload_n (pc := 70) hR (dc dt_X9_arrange 40 rfl) rfl ?_
      refine r_iload (pc := 71) hR (dc dt_X9_arrange 41 rfl) rfl ?_
      refine r_ishr (pc := 73) hR (dc dt_X9_arrange 42 rfl) ?_
      refine r_iconst (pc := 74) hR (dc dt_X9_arrange 43 rfl) ?_
      refine r_iand (pc := 75) hR (dc dt_X9_arrange 44 rfl) ?_
      refine r_if_ne (pc := 76) (tgt := 105) hR (dc dt_X9_arrange 45 rfl) (by decide) (ti_in _) (fun hc => ?_) (fun hc => ?_)
      · replace h := ite_t hc h
        refine r_weak (L' := [some (.ref (ad o)), some (iv v1), some (iv v2), some (iv v3), some (iv v4), none]) hR ⟨Or.inr rfl, Or.inr rfl, Or.inr rfl, Or.inr rfl, Or.inr rfl, Or.inl rfl, trivial⟩ ?_
        exact J105 v1 v2 m qv1 qv2 h
      replace h := ite_f hc h
      refine r_iload_n (pc := 79) hR (dc dt_X9_arrange 46 rfl) rfl ?_
      refine r_aload_n (pc := 80) hR (dc dt_X9_arrange 47 rfl) rfl ?_
      refine r_geti (pc := 81) hR (dc dt_X9_arrange 48 rfl) fl_X9_51 hT0.1 rfl ?_
      refine r_icmp_ge (pc := 84) (tgt := 105) hR (dc dt_X9_arrange 49 rfl) (by decide) qv2 (rd_in _ _ _) (fun hc => ?_) (fun hc => ?_)
      · replace h := ite_t hc h
        refine r_weak (L' := [some (.ref (ad o)), some (iv v1), some (iv v2), some (iv v3), some (iv v4), none]) hR ⟨Or.inr rfl, Or.inr rfl, Or.inr rfl, Or.inr rfl, Or.inr rfl, Or.inl rfl, trivial⟩ ?_
        exact J105 v1 v2 m qv1 qv2 h
      replace h := ite_f hc h
      refine r_iload_n (pc := 87) hR (dc dt_X9_arrange 50 rfl) rfl ?_
      refine r_iconst (pc := 88) hR (dc dt_X9_arrange 51 rfl) ?_
      refine r_iload (pc := 89) hR (dc dt_X9_arrange 52 rfl) rfl ?_
      refine r_ishl (pc := 91) hR (dc dt_X9_arrange 53 rfl) ?_
      refine r_ior (pc := 92) hR (dc dt_X9_arrange 54 rfl) ?_
      refine r_istore_n (pc := 93) (L' := [some (.ref (ad o)), some (iv (bor v1 (shl 1 v4))), some (iv v2), some (iv v3), some (iv v4), some (iv x63)]) hR (dc dt_X9_arrange 55 rfl) (by decide) rfl rfl ?_
      refine r_aload_n (pc := 94) hR (dc dt_X9_arrange 56 rfl) rfl ?_
      refine r_getr (pc := 95) (k2 := o + 7) hR (dc dt_X9_arrange 57 rfl) fl_X9_30 hT0.1 rfl ?_
      refine r_iload_n (pc := 98) hR (dc dt_X9_arrange 58 rfl) rfl ?_
      refine r_iload (pc := 99) hR (dc dt_X9_arrange 59 rfl) rfl ?_
      obtain ⟨g1, h⟩ := gd_some h
      refine r_iast (pc := 101) hR (dc dt_X9_arrange 60 rfl) (tr_7 hT0) g1 qv2 ?_
      replace h := stw_e h
      generalize wr m (o + 7) v2 v4 = m101 at h ⊢
      refine r_iinc (pc := 102) (L' := [some (.ref (ad o)), some (iv (bor v1 (shl 1 v4))), some (iv (w32 (v2 + 1))), some (iv v3), some (iv v4), some (iv x63)]) hR (dc dt_X9_arrange 61 rfl) rfl (by decide) rfl rfl ?_
      refine r_weak (L' := [some (.ref (ad o)), some (iv (bor v1 (shl 1 v4))), some (iv (w32 (v2 + 1))), some (iv v3), some (iv v4), none]) hR ⟨Or.inr rfl, Or.inr rfl, Or.inr rfl, Or.inr rfl, Or.inr rfl, Or.inl rfl, trivial⟩ ?_
      exact J105 (bor v1 (shl 1 v4)) (w32 (v2 + 1)) m101 (ti_in _) (w32_in _) h
    refine jn_e h (fun (K : Option (Int × Mem)) => K = some out → Go 58 [some (.ref (ad o)), some (iv v1), some (iv v2), some (iv v3), some (iv v4), none] [] m) (fun h => ?_) (fun K58 J58 h => ?_)
    · refine r_iconst (pc := 58) hR (dc dt_X9_arrange 34 rfl) ?_
      refine r_goto (pc := 59) (tgt := 63) hR (dc dt_X9_arrange 35 rfl) (by decide) ?_
      exact J63 1 (Or.inr rfl) h
    refine r_if_lt (pc := 41) (tgt := 58) hR (dc dt_X9_arrange 24 rfl) (by decide) (rd_in _ _ _) (fun hc => ?_) (fun hc => ?_)
    · replace h := ite_t hc h
      exact J58 h
    replace h := ite_f hc h
    refine r_iload_n (pc := 44) hR (dc dt_X9_arrange 25 rfl) rfl ?_
    refine r_aload_n (pc := 45) hR (dc dt_X9_arrange 26 rfl) rfl ?_
    refine r_getr (pc := 46) (k2 := o + 1) hR (dc dt_X9_arrange 27 rfl) fl_X9_9 hT0.1 rfl ?_
    refine r_iload (pc := 49) hR (dc dt_X9_arrange 28 rfl) rfl ?_
    obtain ⟨g1, h⟩ := gd_some h
    refine r_iald (pc := 51) hR (dc dt_X9_arrange 29 rfl) (tr_1 hT0) g1 qv4 ?_
    refine r_ishr (pc := 52) hR (dc dt_X9_arrange 30 rfl) ?_
    refine r_iconst (pc := 53) hR (dc dt_X9_arrange 31 rfl) ?_
    refine r_iand (pc := 54) hR (dc dt_X9_arrange 32 rfl) ?_
    refine r_if_eq (pc := 55) (tgt := 62) hR (dc dt_X9_arrange 33 rfl) (by decide) (ti_in _) (fun hc => ?_) (fun hc => ?_)
    · replace h := ite_t hc h
      refine r_iconst (pc := 62) hR (dc dt_X9_arrange 36 rfl) ?_
      exact J63 0 (Or.inl rfl) h
    replace h := ite_f hc h
    exact J58 h
set_option maxRecDepth 100000 in
set_option maxHeartbeats 4000000 in
theorem lp_L9_arrange_6 {Go : Nat → List (Option Value) → List Value → Mem → Prop} (hR : RS l G cy ad tt RX9 cX9_arrange 6 0 Go) {out : Int × Mem} (hT : RT cX9_arrange (some (iv out.1)) (inZ out.1) out.2 (some .boolean) Go) {o : Nat} (hT0 : isTr o) {k117 : Int → Mem → Option (Int × Mem)} (hk117 : ∀ (v2 : Int) (m : Mem), inR v2 → k117 v2 m = some out → Go 117 [some (.ref (ad o)), none, some (iv v2), none, none, none] [] m) : ∀ (n : Nat) (v1 : Int) (v2 : Int) (v3 : Int) (m : Mem), inR v1 → inR v2 → inR v3 → L9_arrange_6 o k117 n v1 v2 v3 m = some out → Go 6 [some (.ref (ad o)), some (iv v1), some (iv v2), some (iv v3), none, none] [] m := by
  intro n
  induction n with
  | zero =>
    intro v1 v2 v3 m qv1 qv2 qv3 h
    cases h
  | succ n ih =>
    intro v1 v2 v3 m qv1 qv2 qv3 h
    rw [L9_arrange_6] at h
    refine r_iload_n (pc := 6) hR (dc dt_X9_arrange 6 rfl) rfl ?_
    refine r_aload_n (pc := 7) hR (dc dt_X9_arrange 7 rfl) rfl ?_
    refine r_geti (pc := 8) hR (dc dt_X9_arrange 8 rfl) fl_X9_51 hT0.1 rfl ?_
    refine r_icmp_ge (pc := 11) (tgt := 117) hR (dc dt_X9_arrange 9 rfl) (by decide) qv3 (rd_in _ _ _) (fun hc => ?_) (fun hc => ?_)
    · replace h := ite_t hc h
      refine r_weak (L' := [some (.ref (ad o)), none, some (iv v2), none, none, none]) hR ⟨Or.inr rfl, Or.inl rfl, Or.inr rfl, Or.inl rfl, Or.inr rfl, Or.inr rfl, trivial⟩ ?_
      exact hk117 v2 m qv2 h
    replace h := ite_f hc h
    refine r_iload_n (pc := 14) hR (dc dt_X9_arrange 10 rfl) rfl ?_
    refine r_aload_n (pc := 15) hR (dc dt_X9_arrange 11 rfl) rfl ?_
    refine r_geti (pc := 16) hR (dc dt_X9_arrange 12 rfl) fl_X9_51 hT0.1 rfl ?_
    refine r_icmp_ge (pc := 19) (tgt := 117) hR (dc dt_X9_arrange 13 rfl) (by decide) qv2 (rd_in _ _ _) (fun hc => ?_) (fun hc => ?_)
    · replace h := ite_t hc h
      refine r_weak (L' := [some (.ref (ad o)), none, some (iv v2), none, none, none]) hR ⟨Or.inr rfl, Or.inl rfl, Or.inr rfl, Or.inl rfl, Or.inr rfl, Or.inr rfl, trivial⟩ ?_
      exact hk117 v2 m qv2 h
    replace h := ite_f hc h
    refine r_iconst (pc := 22) hR (dc dt_X9_arrange 14 rfl) ?_
    refine r_istore (pc := 23) (L' := [some (.ref (ad o)), some (iv v1), some (iv v2), some (iv v3), some (iv 0), none]) hR (dc dt_X9_arrange 15 rfl) (by decide) rfl rfl ?_
    refine lp_L9_arrange_25 hR hT hT0 qv3 (fun v1_111 v2_111 m_111 qv1_111 qv2_111 h => ?_) FU v1 v2 0 m qv1 qv2 (rg_c rfl) h
    show Go 111 [some (.ref (ad o)), some (iv v1_111), some (iv v2_111), some (iv v3), none, none] [] m_111
    refine r_iinc (pc := 111) (L' := [some (.ref (ad o)), some (iv v1_111), some (iv v2_111), some (iv (w32 (v3 + 1))), none, none]) hR (dc dt_X9_arrange 64 rfl) rfl (by decide) rfl rfl ?_
    refine r_goto (pc := 114) (tgt := 6) hR (dc dt_X9_arrange 65 rfl) (by decide) ?_
    exact ih v1_111 v2_111 (w32 (v3 + 1)) m_111 qv1_111 qv2_111 (w32_in _) h
set_option maxRecDepth 100000 in
set_option maxHeartbeats 4000000 in
theorem ok_F9_arrange {m : Mem} {o : Nat} (hT0 : isTr o) {out : Int × Mem} (h : F9_arrange m o = some out) : CT l G cy ad tt yX9_arrange cX9_arrange 6 (some .boolean) 0 [.ref (ad o)] m (some (iv out.1)) (inZ out.1) out.2 := by
  refine CT_of (by decide) (Nat.le_of_ble_eq_true rfl) (fun Go hR hT => ?_)
  replace hR : RS l G cy ad tt RX9 cX9_arrange 6 0 Go := hR
  show Go 0 [some (.ref (ad o)), none, none, none, none, none] [] m
  unfold F9_arrange at h
  refine r_iconst (pc := 0) hR (dc dt_X9_arrange 0 rfl) ?_
  refine r_istore_n (pc := 1) (L' := [some (.ref (ad o)), some (iv 0), none, none, none, none]) hR (dc dt_X9_arrange 1 rfl) (by decide) rfl rfl ?_
  refine r_iconst (pc := 2) hR (dc dt_X9_arrange 2 rfl) ?_
  refine r_istore_n (pc := 3) (L' := [some (.ref (ad o)), some (iv 0), some (iv 0), none, none, none]) hR (dc dt_X9_arrange 3 rfl) (by decide) rfl rfl ?_
  refine r_iconst (pc := 4) hR (dc dt_X9_arrange 4 rfl) ?_
  refine r_istore_n (pc := 5) (L' := [some (.ref (ad o)), some (iv 0), some (iv 0), some (iv 0), none, none]) hR (dc dt_X9_arrange 5 rfl) (by decide) rfl rfl ?_
  refine lp_L9_arrange_6 hR hT hT0 (fun v2_117 m_117 qv2_117 h => ?_) FU 0 0 0 m (rg_c rfl) (rg_c rfl) (rg_c rfl) h
  show Go 117 [some (.ref (ad o)), none, some (iv v2_117), none, none, none] [] m_117
  refine r_iload_n (pc := 117) hR (dc dt_X9_arrange 66 rfl) rfl ?_
  refine r_aload_n (pc := 118) hR (dc dt_X9_arrange 67 rfl) rfl ?_
  refine r_geti (pc := 119) hR (dc dt_X9_arrange 68 rfl) fl_X9_51 hT0.1 rfl ?_
  refine r_icmp_ne (pc := 122) (tgt := 129) hR (dc dt_X9_arrange 69 rfl) (by decide) qv2_117 (rd_in _ _ _) (fun hc => ?_) (fun hc => ?_)
  · replace h := ite_t hc h
    refine r_iconst (pc := 129) hR (dc dt_X9_arrange 72 rfl) ?_
    exact r_zret hT (dc dt_X9_arrange 73 rfl) (congrArg Prod.fst (Option.some.inj h)) (congrArg Prod.snd (Option.some.inj h)) (Or.inl rfl)
  replace h := ite_f hc h
  refine r_iconst (pc := 125) hR (dc dt_X9_arrange 70 rfl) ?_
  refine r_goto (pc := 126) (tgt := 130) hR (dc dt_X9_arrange 71 rfl) (by decide) ?_
  exact r_zret hT (dc dt_X9_arrange 73 rfl) (congrArg Prod.fst (Option.some.inj h)) (congrArg Prod.snd (Option.some.inj h)) (Or.inr rfl)
def tb_X9_growAsTold : List (Nat × (Instr × Nat)) := [(0, (.aload_n 0, 1)), (1, (.aload_n 1, 1)), (2, (.getfield 45, 3)), (5, (.putfield 51, 3)), (8, (.iconst 0, 1)), (9, (.istore_n 2, 1)), (10, (.iload_n 2, 1)), (11, (.aload_n 0, 1)), (12, (.getfield 51, 3)), (15, (.if_icmp .ge 44, 3)), (18, (.aload_n 0, 1)), (19, (.getfield 9, 3)), (22, (.iload_n 2, 1)), (23, (.aload_n 1, 1)), (24, (.iload_n 2, 1)), (25, (.invokevirtual 54, 3)), (28, (.iastore, 1)), (29, (.aload_n 0, 1)), (30, (.getfield 15, 3)), (33, (.iload_n 2, 1)), (34, (.aload_n 1, 1)), (35, (.getfield 58, 3)), (38, (.iload_n 2, 1)), (39, (.iaload, 1)), (40, (.iastore, 1)), (41, (.aload_n 0, 1)), (42, (.getfield 18, 3)), (45, (.iload_n 2, 1)), (46, (.aload_n 1, 1)), (47, (.getfield 59, 3)), (50, (.iload_n 2, 1)), (51, (.iaload, 1)), (52, (.iastore, 1)), (53, (.iinc 2 1, 3)), (56, (.goto (-46), 3)), (59, (.aload_n 0, 1)), (60, (.aload_n 1, 1)), (61, (.invokevirtual 60, 3)), (64, (.aload_n 0, 1)), (65, (.invokevirtual 64, 3)), (68, (.pop, 1)), (69, (.return_, 1))]
set_option maxRecDepth 100000 in
theorem dt_X9_growAsTold : (tb_X9_growAsTold.all fun q => decide (decode cX9_growAsTold q.1 = .ok q.2)) = true := by decide +kernel
set_option maxRecDepth 100000 in
set_option maxHeartbeats 4000000 in
theorem lp_L9_growAsTold_10 {Go : Nat → List (Option Value) → List Value → Mem → Prop} (hR : RS l G cy ad tt RX9 cX9_growAsTold 3 3 Go) {out : Mem} (hT : RT cX9_growAsTold none True out none Go) {o : Nat} (hT0 : isTr o) {k59 : Mem → Option Mem} (hk59 : ∀ (m : Mem), k59 m = some out → Go 59 [some (.ref (ad o)), some (.ref (ad 4)), none] [] m) : ∀ (n : Nat) (v2 : Int) (m : Mem), inR v2 → L9_growAsTold_10 o k59 n v2 m = some out → Go 10 [some (.ref (ad o)), some (.ref (ad 4)), some (iv v2)] [] m := by
  intro n
  induction n with
  | zero =>
    intro v2 m qv2 h
    cases h
  | succ n ih =>
    intro v2 m qv2 h
    rw [L9_growAsTold_10] at h
    refine r_iload_n (pc := 10) hR (dc dt_X9_growAsTold 6 rfl) rfl ?_
    refine r_aload_n (pc := 11) hR (dc dt_X9_growAsTold 7 rfl) rfl ?_
    refine r_geti (pc := 12) hR (dc dt_X9_growAsTold 8 rfl) fl_X9_51 hT0.1 rfl ?_
    refine r_icmp_ge (pc := 15) (tgt := 59) hR (dc dt_X9_growAsTold 9 rfl) (by decide) qv2 (rd_in _ _ _) (fun hc => ?_) (fun hc => ?_)
    · replace h := ite_t hc h
      refine r_weak (L' := [some (.ref (ad o)), some (.ref (ad 4)), none]) hR ⟨Or.inr rfl, Or.inr rfl, Or.inl rfl, trivial⟩ ?_
      exact hk59 m h
    replace h := ite_f hc h
    refine r_aload_n (pc := 18) hR (dc dt_X9_growAsTold 10 rfl) rfl ?_
    refine r_getr (pc := 19) (k2 := o + 1) hR (dc dt_X9_growAsTold 11 rfl) fl_X9_9 hT0.1 rfl ?_
    refine r_iload_n (pc := 22) hR (dc dt_X9_growAsTold 12 rfl) rfl ?_
    refine r_aload_n (pc := 23) hR (dc dt_X9_growAsTold 13 rfl) rfl ?_
    refine r_iload_n (pc := 24) hR (dc dt_X9_growAsTold 14 rfl) rfl ?_
    obtain ⟨r25, e25, h⟩ := b1_some h
    refine r_callV (pc := 25) (rest := [iv v2, .ref (ad (o + 1))]) hR (dc dt_X9_growAsTold 15 rfl) cl_X9_54 tc_4 rfl (ok_F1_motherOf qv2 e25) (by decide) rfl (Nat.le_of_ble_eq_true rfl) rfl (fun q25r => ?_)
    show Go 28 [some (.ref (ad o)), some (.ref (ad 4)), some (iv v2)] [iv r25, iv v2, .ref (ad (o + 1))] m
    obtain ⟨g1, h⟩ := gd_some h
    refine r_iast (pc := 28) hR (dc dt_X9_growAsTold 16 rfl) (tr_1 hT0) g1 qv2 ?_
    replace h := stw_e h
    generalize wr m (o + 1) v2 r25 = m28 at h ⊢
    refine r_aload_n (pc := 29) hR (dc dt_X9_growAsTold 17 rfl) rfl ?_
    refine r_getr (pc := 30) (k2 := o + 2) hR (dc dt_X9_growAsTold 18 rfl) fl_X9_15 hT0.1 rfl ?_
    refine r_iload_n (pc := 33) hR (dc dt_X9_growAsTold 19 rfl) rfl ?_
    refine r_aload_n (pc := 34) hR (dc dt_X9_growAsTold 20 rfl) rfl ?_
    refine r_getr (pc := 35) (k2 := 5) hR (dc dt_X9_growAsTold 21 rfl) fl_X9_58 tc_4 rfl ?_
    refine r_iload_n (pc := 38) hR (dc dt_X9_growAsTold 22 rfl) rfl ?_
    obtain ⟨g1, h⟩ := gd_some h
    refine r_iald (pc := 39) hR (dc dt_X9_growAsTold 23 rfl) tc_5 g1 qv2 ?_
    obtain ⟨g1, h⟩ := gd_some h
    refine r_iast (pc := 40) hR (dc dt_X9_growAsTold 24 rfl) (tr_2 hT0) g1 qv2 ?_
    replace h := stw_e h
    generalize wr m28 (o + 2) v2 (rd m28 5 v2) = m40 at h ⊢
    refine r_aload_n (pc := 41) hR (dc dt_X9_growAsTold 25 rfl) rfl ?_
    refine r_getr (pc := 42) (k2 := o + 3) hR (dc dt_X9_growAsTold 26 rfl) fl_X9_18 hT0.1 rfl ?_
    refine r_iload_n (pc := 45) hR (dc dt_X9_growAsTold 27 rfl) rfl ?_
    refine r_aload_n (pc := 46) hR (dc dt_X9_growAsTold 28 rfl) rfl ?_
    refine r_getr (pc := 47) (k2 := 6) hR (dc dt_X9_growAsTold 29 rfl) fl_X9_59 tc_4 rfl ?_
    refine r_iload_n (pc := 50) hR (dc dt_X9_growAsTold 30 rfl) rfl ?_
    obtain ⟨g1, h⟩ := gd_some h
    refine r_iald (pc := 51) hR (dc dt_X9_growAsTold 31 rfl) tc_6 g1 qv2 ?_
    obtain ⟨g1, h⟩ := gd_some h
    refine r_iast (pc := 52) hR (dc dt_X9_growAsTold 32 rfl) (tr_3 hT0) g1 qv2 ?_
    replace h := stw_e h
    generalize wr m40 (o + 3) v2 (rd m40 6 v2) = m52 at h ⊢
    refine r_iinc (pc := 53) (L' := [some (.ref (ad o)), some (.ref (ad 4)), some (iv (w32 (v2 + 1)))]) hR (dc dt_X9_growAsTold 33 rfl) rfl (by decide) rfl rfl ?_
    refine r_goto (pc := 56) (tgt := 10) hR (dc dt_X9_growAsTold 34 rfl) (by decide) ?_
    exact ih (w32 (v2 + 1)) m52 (w32_in _) h
set_option maxRecDepth 100000 in
set_option maxHeartbeats 4000000 in
theorem ok_F9_growAsTold {m : Mem} {o : Nat} (hT0 : isTr o) {out : Mem} (h : F9_growAsTold m o = some out) : CT l G cy ad tt yX9_growAsTold cX9_growAsTold 3 none 3 [.ref (ad o), .ref (ad 4)] m none True out := by
  refine CT_of (by decide) (Nat.le_of_ble_eq_true rfl) (fun Go hR hT => ?_)
  replace hR : RS l G cy ad tt RX9 cX9_growAsTold 3 3 Go := hR
  show Go 0 [some (.ref (ad o)), some (.ref (ad 4)), none] [] m
  unfold F9_growAsTold at h
  refine r_aload_n (pc := 0) hR (dc dt_X9_growAsTold 0 rfl) rfl ?_
  refine r_aload_n (pc := 1) hR (dc dt_X9_growAsTold 1 rfl) rfl ?_
  refine r_geti (pc := 2) hR (dc dt_X9_growAsTold 2 rfl) fl_X9_45 tc_4 rfl ?_
  refine r_puti (pc := 5) hR (dc dt_X9_growAsTold 3 rfl) fl_X9_51 hT0.1 rfl rfl rfl ?_
  replace h := stw_e h
  generalize wr m o 0 (rd m 4 0) = m5 at h ⊢
  refine r_iconst (pc := 8) hR (dc dt_X9_growAsTold 4 rfl) ?_
  refine r_istore_n (pc := 9) (L' := [some (.ref (ad o)), some (.ref (ad 4)), some (iv 0)]) hR (dc dt_X9_growAsTold 5 rfl) (by decide) rfl rfl ?_
  refine lp_L9_growAsTold_10 hR hT hT0 (fun m_59 h => ?_) FU 0 m5 (rg_c rfl) h
  show Go 59 [some (.ref (ad o)), some (.ref (ad 4)), none] [] m_59
  refine r_aload_n (pc := 59) hR (dc dt_X9_growAsTold 35 rfl) rfl ?_
  refine r_aload_n (pc := 60) hR (dc dt_X9_growAsTold 36 rfl) rfl ?_
  obtain ⟨m61, e61, h⟩ := b1_some h
  refine r_callV (pc := 61) (rest := []) hR (dc dt_X9_growAsTold 37 rfl) cl_X9_60 hT0.1 rfl (ok_F9_takeCosts hT0 e61) (by decide) rfl (Nat.le_of_ble_eq_true rfl) rfl (fun q61r => ?_)
  show Go 64 [some (.ref (ad o)), some (.ref (ad 4)), none] [] m61
  refine r_aload_n (pc := 64) hR (dc dt_X9_growAsTold 38 rfl) rfl ?_
  obtain ⟨r65, m65, e65, h⟩ := b2_some h
  refine r_callV (pc := 65) (rest := []) hR (dc dt_X9_growAsTold 39 rfl) cl_X9_64 hT0.1 rfl (ok_F9_arrange hT0 e65) (by decide) rfl (Nat.le_of_ble_eq_true rfl) rfl (fun q65r => ?_)
  show Go 68 [some (.ref (ad o)), some (.ref (ad 4)), none] [iv r65] m65
  refine r_pop (pc := 68) hR (dc dt_X9_growAsTold 40 rfl) rfl ?_
  exact r_vret hT (dc dt_X9_growAsTold 41 rfl) (Option.some.inj h)
def tb_X9_write : List (Nat × (Instr × Nat)) := [(0, (.iconst 0, 1)), (1, (.istore_n 3, 1)), (2, (.iload_n 3, 1)), (3, (.aload_n 0, 1)), (4, (.getfield 51, 3)), (7, (.if_icmp .ge 21, 3)), (10, (.aload_n 0, 1)), (11, (.getfield 24, 3)), (14, (.iload_n 3, 1)), (15, (.aload_n 1, 1)), (16, (.iload_n 3, 1)), (17, (.iload_n 2, 1)), (18, (.invokevirtual 71, 3)), (21, (.iastore, 1)), (22, (.iinc 3 1, 3)), (25, (.goto (-23), 3)), (28, (.return_, 1))]
set_option maxRecDepth 100000 in
theorem dt_X9_write : (tb_X9_write.all fun q => decide (decode cX9_write q.1 = .ok q.2)) = true := by decide +kernel
set_option maxRecDepth 100000 in
set_option maxHeartbeats 4000000 in
theorem lp_L9_write_2 {Go : Nat → List (Option Value) → List Value → Mem → Prop} (hR : RS l G cy ad tt RX9 cX9_write 4 2 Go) {out : Mem} (hT : RT cX9_write none True out none Go) {o : Nat} (hT0 : isTr o) {v2 : Int} (qv2 : inR v2) : ∀ (n : Nat) (v3 : Int) (m : Mem), inR v3 → L9_write_2 o v2 n v3 m = some out → Go 2 [some (.ref (ad o)), some (.ref (ad 4)), some (iv v2), some (iv v3)] [] m := by
  intro n
  induction n with
  | zero =>
    intro v3 m qv3 h
    cases h
  | succ n ih =>
    intro v3 m qv3 h
    rw [L9_write_2] at h
    refine r_iload_n (pc := 2) hR (dc dt_X9_write 2 rfl) rfl ?_
    refine r_aload_n (pc := 3) hR (dc dt_X9_write 3 rfl) rfl ?_
    refine r_geti (pc := 4) hR (dc dt_X9_write 4 rfl) fl_X9_51 hT0.1 rfl ?_
    refine r_icmp_ge (pc := 7) (tgt := 28) hR (dc dt_X9_write 5 rfl) (by decide) qv3 (rd_in _ _ _) (fun hc => ?_) (fun hc => ?_)
    · replace h := ite_t hc h
      exact r_vret hT (dc dt_X9_write 16 rfl) (Option.some.inj h)
    replace h := ite_f hc h
    refine r_aload_n (pc := 10) hR (dc dt_X9_write 6 rfl) rfl ?_
    refine r_getr (pc := 11) (k2 := o + 5) hR (dc dt_X9_write 7 rfl) fl_X9_24 hT0.1 rfl ?_
    refine r_iload_n (pc := 14) hR (dc dt_X9_write 8 rfl) rfl ?_
    refine r_aload_n (pc := 15) hR (dc dt_X9_write 9 rfl) rfl ?_
    refine r_iload_n (pc := 16) hR (dc dt_X9_write 10 rfl) rfl ?_
    refine r_iload_n (pc := 17) hR (dc dt_X9_write 11 rfl) rfl ?_
    obtain ⟨r18, e18, h⟩ := b1_some h
    refine r_callV (pc := 18) (rest := [iv v3, .ref (ad (o + 5))]) hR (dc dt_X9_write 12 rfl) cl_X9_71 tc_4 rfl (ok_F1_told qv3 qv2 e18) (by decide) rfl (Nat.le_of_ble_eq_true rfl) rfl (fun q18r => ?_)
    show Go 21 [some (.ref (ad o)), some (.ref (ad 4)), some (iv v2), some (iv v3)] [iv r18, iv v3, .ref (ad (o + 5))] m
    obtain ⟨g1, h⟩ := gd_some h
    refine r_iast (pc := 21) hR (dc dt_X9_write 13 rfl) (tr_5 hT0) g1 qv3 ?_
    replace h := stw_e h
    generalize wr m (o + 5) v3 r18 = m21 at h ⊢
    refine r_iinc (pc := 22) (L' := [some (.ref (ad o)), some (.ref (ad 4)), some (iv v2), some (iv (w32 (v3 + 1)))]) hR (dc dt_X9_write 14 rfl) rfl (by decide) rfl rfl ?_
    refine r_goto (pc := 25) (tgt := 2) hR (dc dt_X9_write 15 rfl) (by decide) ?_
    exact ih (w32 (v3 + 1)) m21 (w32_in _) h
set_option maxRecDepth 100000 in
set_option maxHeartbeats 4000000 in
theorem ok_F9_write {m : Mem} {o : Nat} {v2 : Int} (hT0 : isTr o) (q2 : inR v2) {out : Mem} (h : F9_write m o v2 = some out) : CT l G cy ad tt yX9_write cX9_write 4 none 2 [.ref (ad o), .ref (ad 4), iv v2] m none True out := by
  refine CT_of (by decide) (Nat.le_of_ble_eq_true rfl) (fun Go hR hT => ?_)
  replace hR : RS l G cy ad tt RX9 cX9_write 4 2 Go := hR
  show Go 0 [some (.ref (ad o)), some (.ref (ad 4)), some (iv v2), none] [] m
  unfold F9_write at h
  refine r_iconst (pc := 0) hR (dc dt_X9_write 0 rfl) ?_
  refine r_istore_n (pc := 1) (L' := [some (.ref (ad o)), some (.ref (ad 4)), some (iv v2), some (iv 0)]) hR (dc dt_X9_write 1 rfl) (by decide) rfl rfl ?_
  refine lp_L9_write_2 hR hT hT0 q2 FU 0 m (rg_c rfl) h
def tb_X9_smallestBelow : List (Nat × (Instr × Nat)) := [(0, (.ldc 83, 2)), (2, (.istore_n 2, 1)), (3, (.iconst 0, 1)), (4, (.istore_n 3, 1)), (5, (.iload_n 3, 1)), (6, (.iconst 4, 1)), (7, (.if_icmp .ge 24, 3)), (10, (.iload_n 2, 1)), (11, (.aload_n 0, 1)), (12, (.getfield 36, 3)), (15, (.iload_n 1, 1)), (16, (.iconst 4, 1)), (17, (.imul, 1)), (18, (.iload_n 3, 1)), (19, (.iadd, 1)), (20, (.iaload, 1)), (21, (.invokestatic 80, 3)), (24, (.istore_n 2, 1)), (25, (.iinc 3 1, 3)), (28, (.goto (-23), 3)), (31, (.iload_n 2, 1)), (32, (.ireturn, 1))]
set_option maxRecDepth 100000 in
theorem dt_X9_smallestBelow : (tb_X9_smallestBelow.all fun q => decide (decode cX9_smallestBelow q.1 = .ok q.2)) = true := by decide +kernel
set_option maxRecDepth 100000 in
set_option maxHeartbeats 4000000 in
theorem lp_L9_smallestBelow_5 {Go : Nat → List (Option Value) → List Value → Mem → Prop} (hR : RS l G cy ad tt RX9 cX9_smallestBelow 4 1 Go) {out : Int} {m : Mem} (hT : RT cX9_smallestBelow (some (iv out)) (inR out) m (some .int) Go) {o : Nat} (hT0 : isTr o) {v1 : Int} (qv1 : inR v1) : ∀ (n : Nat) (v2 : Int) (v3 : Int), inR v2 → inR v3 → L9_smallestBelow_5 m o v1 n v2 v3 = some out → Go 5 [some (.ref (ad o)), some (iv v1), some (iv v2), some (iv v3)] [] m := by
  intro n
  induction n with
  | zero =>
    intro v2 v3 qv2 qv3 h
    cases h
  | succ n ih =>
    intro v2 v3 qv2 qv3 h
    rw [L9_smallestBelow_5] at h
    refine r_iload_n (pc := 5) hR (dc dt_X9_smallestBelow 4 rfl) rfl ?_
    refine r_iconst (pc := 6) hR (dc dt_X9_smallestBelow 5 rfl) ?_
    refine r_icmp_ge (pc := 7) (tgt := 31) hR (dc dt_X9_smallestBelow 6 rfl) (by decide) qv3 (rg_c rfl) (fun hc => ?_) (fun hc => ?_)
    · replace h := ite_t hc h
      refine r_iload_n (pc := 31) hR (dc dt_X9_smallestBelow 20 rfl) rfl ?_
      exact r_iret hT (dc dt_X9_smallestBelow 21 rfl) (Option.some.inj h) rfl qv2
    replace h := ite_f hc h
    refine r_iload_n (pc := 10) hR (dc dt_X9_smallestBelow 7 rfl) rfl ?_
    refine r_aload_n (pc := 11) hR (dc dt_X9_smallestBelow 8 rfl) rfl ?_
    refine r_getr (pc := 12) (k2 := o + 9) hR (dc dt_X9_smallestBelow 9 rfl) fl_X9_36 hT0.1 rfl ?_
    refine r_iload_n (pc := 15) hR (dc dt_X9_smallestBelow 10 rfl) rfl ?_
    refine r_iconst (pc := 16) hR (dc dt_X9_smallestBelow 11 rfl) ?_
    refine r_imul (pc := 17) hR (dc dt_X9_smallestBelow 12 rfl) ?_
    refine r_iload_n (pc := 18) hR (dc dt_X9_smallestBelow 13 rfl) rfl ?_
    refine r_iadd (pc := 19) hR (dc dt_X9_smallestBelow 14 rfl) ?_
    obtain ⟨g1, h⟩ := gd_some h
    refine r_iald (pc := 20) hR (dc dt_X9_smallestBelow 15 rfl) (tr_9 hT0) g1 (w32_in _) ?_
    refine r_min (pc := 21) hR (dc dt_X9_smallestBelow 16 rfl) mw_X9_80 qv2 (rd_in _ _ _) (Nat.le_of_ble_eq_true rfl) (by decide) ?_
    refine r_istore_n (pc := 24) (L' := [some (.ref (ad o)), some (iv v1), some (iv (imn v2 (rd m (o + 9) (w32 ((w32 (v1 * 4)) + v3))))), some (iv v3)]) hR (dc dt_X9_smallestBelow 17 rfl) (by decide) rfl rfl ?_
    refine r_iinc (pc := 25) (L' := [some (.ref (ad o)), some (iv v1), some (iv (imn v2 (rd m (o + 9) (w32 ((w32 (v1 * 4)) + v3))))), some (iv (w32 (v3 + 1)))]) hR (dc dt_X9_smallestBelow 18 rfl) rfl (by decide) rfl rfl ?_
    refine r_goto (pc := 28) (tgt := 5) hR (dc dt_X9_smallestBelow 19 rfl) (by decide) ?_
    exact ih (imn v2 (rd m (o + 9) (w32 ((w32 (v1 * 4)) + v3)))) (w32 (v3 + 1)) (imn_in qv2 (rd_in _ _ _)) (w32_in _) h
set_option maxRecDepth 100000 in
set_option maxHeartbeats 4000000 in
theorem ok_F9_smallestBelow {m : Mem} {o : Nat} {v1 : Int} (hT0 : isTr o) (q1 : inR v1) {out : Int} (h : F9_smallestBelow m o v1 = some out) : CT l G cy ad tt yX9_smallestBelow cX9_smallestBelow 4 (some .int) 1 [.ref (ad o), iv v1] m (some (iv out)) (inR out) m := by
  refine CT_of (by decide) (Nat.le_of_ble_eq_true rfl) (fun Go hR hT => ?_)
  replace hR : RS l G cy ad tt RX9 cX9_smallestBelow 4 1 Go := hR
  show Go 0 [some (.ref (ad o)), some (iv v1), none, none] [] m
  unfold F9_smallestBelow at h
  refine r_ldc (pc := 0) hR (dc dt_X9_smallestBelow 0 rfl) kw_X9_83 ?_
  refine r_istore_n (pc := 2) (L' := [some (.ref (ad o)), some (iv v1), some (iv 16777216), none]) hR (dc dt_X9_smallestBelow 1 rfl) (by decide) rfl rfl ?_
  refine r_iconst (pc := 3) hR (dc dt_X9_smallestBelow 2 rfl) ?_
  refine r_istore_n (pc := 4) (L' := [some (.ref (ad o)), some (iv v1), some (iv 16777216), some (iv 0)]) hR (dc dt_X9_smallestBelow 3 rfl) (by decide) rfl rfl ?_
  refine lp_L9_smallestBelow_5 hR hT hT0 q1 FU 16777216 0 (rg_c rfl) (rg_c rfl) h
def tb_X9_hang : List (Nat × (Instr × Nat)) := [(0, (.aload_n 0, 1)), (1, (.getfield 24, 3)), (4, (.iload_n 1, 1)), (5, (.iaload, 1)), (6, (.bipush 9, 2)), (8, (.if_icmp .ne 7, 3)), (11, (.iconst 0, 1)), (12, (.goto 9, 3)), (15, (.aload_n 0, 1)), (16, (.getfield 24, 3)), (19, (.iload_n 1, 1)), (20, (.iaload, 1)), (21, (.istore_n 3, 1)), (22, (.aload_n 0, 1)), (23, (.getfield 24, 3)), (26, (.iload_n 1, 1)), (27, (.iaload, 1)), (28, (.bipush 9, 2)), (30, (.if_icmp .ne 7, 3)), (33, (.iconst 3, 1)), (34, (.goto 9, 3)), (37, (.aload_n 0, 1)), (38, (.getfield 24, 3)), (41, (.iload_n 1, 1)), (42, (.iaload, 1)), (43, (.istore 4, 2)), (45, (.iconst 0, 1)), (46, (.istore 5, 2)), (48, (.iload 5, 2)), (50, (.iconst 4, 1)), (51, (.if_icmp .ge 89, 3)), (54, (.ldc 83, 2)), (56, (.istore 6, 2)), (58, (.iload_n 3, 1)), (59, (.istore 7, 2)), (61, (.iload 7, 2)), (63, (.iload 4, 2)), (65, (.if_icmp .gt 40, 3)), (68, (.iload 6, 2)), (70, (.aload_n 0, 1)), (71, (.getfield 33, 3)), (74, (.iload 5, 2)), (76, (.iconst 4, 1)), (77, (.imul, 1)), (78, (.iload 7, 2)), (80, (.iadd, 1)), (81, (.iaload, 1)), (82, (.aload_n 0, 1)), (83, (.getfield 36, 3)), (86, (.iload_n 1, 1)), (87, (.iconst 4, 1)), (88, (.imul, 1)), (89, (.iload 7, 2)), (91, (.iadd, 1)), (92, (.iaload, 1)), (93, (.iadd, 1)), (94, (.invokestatic 80, 3)), (97, (.istore 6, 2)), (99, (.iinc 7 1, 3)), (102, (.goto (-41), 3)), (105, (.aload_n 0, 1)), (106, (.getfield 42, 3)), (109, (.iload_n 1, 1)), (110, (.iconst 4, 1)), (111, (.imul, 1)), (112, (.iload 5, 2)), (114, (.iadd, 1)), (115, (.iload 6, 2)), (117, (.iastore, 1)), (118, (.aload_n 0, 1)), (119, (.getfield 36, 3)), (122, (.iload_n 2, 1)), (123, (.iconst 4, 1)), (124, (.imul, 1)), (125, (.iload 5, 2)), (127, (.iadd, 1)), (128, (.dup2, 1)), (129, (.iaload, 1)), (130, (.iload 6, 2)), (132, (.iadd, 1)), (133, (.iastore, 1)), (134, (.iinc 5 1, 3)), (137, (.goto (-89), 3)), (140, (.return_, 1))]
set_option maxRecDepth 100000 in
theorem dt_X9_hang : (tb_X9_hang.all fun q => decide (decode cX9_hang q.1 = .ok q.2)) = true := by decide +kernel
set_option maxRecDepth 100000 in
set_option maxHeartbeats 4000000 in
theorem lp_L9_hang_61 {Go : Nat → List (Option Value) → List Value → Mem → Prop} (hR : RS l G cy ad tt RX9 cX9_hang 8 1 Go) {out : Mem} {m : Mem} (hT : RT cX9_hang none True out none Go) {o : Nat} (hT0 : isTr o) {v1 : Int} {v2 : Int} {v3 : Int} {v4 : Int} {v5 : Int} (qv1 : inR v1) (qv2 : inR v2) (qv3 : inR v3) (qv4 : inR v4) (qv5 : inR v5) {k105 : Int → Option Mem} (hk105 : ∀ (v6 : Int), inR v6 → k105 v6 = some out → Go 105 [some (.ref (ad o)), some (iv v1), some (iv v2), some (iv v3), some (iv v4), some (iv v5), some (iv v6), none] [] m) : ∀ (n : Nat) (v6 : Int) (v7 : Int), inR v6 → inR v7 → L9_hang_61 m o v1 v4 v5 k105 n v6 v7 = some out → Go 61 [some (.ref (ad o)), some (iv v1), some (iv v2), some (iv v3), some (iv v4), some (iv v5), some (iv v6), some (iv v7)] [] m := by
  intro n
  induction n with
  | zero =>
    intro v6 v7 qv6 qv7 h
    cases h
  | succ n ih =>
    intro v6 v7 qv6 qv7 h
    rw [L9_hang_61] at h
    refine r_iload (pc := 61) hR (dc dt_X9_hang 35 rfl) rfl ?_
    refine r_iload (pc := 63) hR (dc dt_X9_hang 36 rfl) rfl ?_
    refine r_icmp_gt (pc := 65) (tgt := 105) hR (dc dt_X9_hang 37 rfl) (by decide) qv7 qv4 (fun hc => ?_) (fun hc => ?_)
    · replace h := ite_t hc h
      refine r_weak (L' := [some (.ref (ad o)), some (iv v1), some (iv v2), some (iv v3), some (iv v4), some (iv v5), some (iv v6), none]) hR ⟨Or.inr rfl, Or.inr rfl, Or.inr rfl, Or.inr rfl, Or.inr rfl, Or.inr rfl, Or.inr rfl, Or.inl rfl, trivial⟩ ?_
      exact hk105 v6 qv6 h
    replace h := ite_f hc h
    refine r_iload (pc := 68) hR (dc dt_X9_hang 38 rfl) rfl ?_
    refine r_aload_n (pc := 70) hR (dc dt_X9_hang 39 rfl) rfl ?_
    refine r_getr (pc := 71) (k2 := o + 8) hR (dc dt_X9_hang 40 rfl) fl_X9_33 hT0.1 rfl ?_
    refine r_iload (pc := 74) hR (dc dt_X9_hang 41 rfl) rfl ?_
    refine r_iconst (pc := 76) hR (dc dt_X9_hang 42 rfl) ?_
    refine r_imul (pc := 77) hR (dc dt_X9_hang 43 rfl) ?_
    refine r_iload (pc := 78) hR (dc dt_X9_hang 44 rfl) rfl ?_
    refine r_iadd (pc := 80) hR (dc dt_X9_hang 45 rfl) ?_
    obtain ⟨g1, h⟩ := gd_some h
    refine r_iald (pc := 81) hR (dc dt_X9_hang 46 rfl) (tr_8 hT0) g1 (w32_in _) ?_
    refine r_aload_n (pc := 82) hR (dc dt_X9_hang 47 rfl) rfl ?_
    refine r_getr (pc := 83) (k2 := o + 9) hR (dc dt_X9_hang 48 rfl) fl_X9_36 hT0.1 rfl ?_
    refine r_iload_n (pc := 86) hR (dc dt_X9_hang 49 rfl) rfl ?_
    refine r_iconst (pc := 87) hR (dc dt_X9_hang 50 rfl) ?_
    refine r_imul (pc := 88) hR (dc dt_X9_hang 51 rfl) ?_
    refine r_iload (pc := 89) hR (dc dt_X9_hang 52 rfl) rfl ?_
    refine r_iadd (pc := 91) hR (dc dt_X9_hang 53 rfl) ?_
    obtain ⟨g1, h⟩ := gd_some h
    refine r_iald (pc := 92) hR (dc dt_X9_hang 54 rfl) (tr_9 hT0) g1 (w32_in _) ?_
    refine r_iadd (pc := 93) hR (dc dt_X9_hang 55 rfl) ?_
    refine r_min (pc := 94) hR (dc dt_X9_hang 56 rfl) mw_X9_80 qv6 (w32_in _) (Nat.le_of_ble_eq_true rfl) (by decide) ?_
    refine r_istore (pc := 97) (L' := [some (.ref (ad o)), some (iv v1), some (iv v2), some (iv v3), some (iv v4), some (iv v5), some (iv (imn v6 (w32 ((rd m (o + 8) (w32 ((w32 (v5 * 4)) + v7))) + (rd m (o + 9) (w32 ((w32 (v1 * 4)) + v7))))))), some (iv v7)]) hR (dc dt_X9_hang 57 rfl) (by decide) rfl rfl ?_
    refine r_iinc (pc := 99) (L' := [some (.ref (ad o)), some (iv v1), some (iv v2), some (iv v3), some (iv v4), some (iv v5), some (iv (imn v6 (w32 ((rd m (o + 8) (w32 ((w32 (v5 * 4)) + v7))) + (rd m (o + 9) (w32 ((w32 (v1 * 4)) + v7))))))), some (iv (w32 (v7 + 1)))]) hR (dc dt_X9_hang 58 rfl) rfl (by decide) rfl rfl ?_
    refine r_goto (pc := 102) (tgt := 61) hR (dc dt_X9_hang 59 rfl) (by decide) ?_
    exact ih (imn v6 (w32 ((rd m (o + 8) (w32 ((w32 (v5 * 4)) + v7))) + (rd m (o + 9) (w32 ((w32 (v1 * 4)) + v7)))))) (w32 (v7 + 1)) (imn_in qv6 (w32_in _)) (w32_in _) h
set_option maxRecDepth 100000 in
set_option maxHeartbeats 4000000 in
theorem lp_L9_hang_48 {Go : Nat → List (Option Value) → List Value → Mem → Prop} (hR : RS l G cy ad tt RX9 cX9_hang 8 1 Go) {out : Mem} (hT : RT cX9_hang none True out none Go) {o : Nat} (hT0 : isTr o) {v1 : Int} {v2 : Int} {v3 : Int} {v4 : Int} (qv1 : inR v1) (qv2 : inR v2) (qv3 : inR v3) (qv4 : inR v4) : ∀ (n : Nat) (v5 : Int) (m : Mem), inR v5 → L9_hang_48 o v1 v2 v3 v4 n v5 m = some out → Go 48 [some (.ref (ad o)), some (iv v1), some (iv v2), some (iv v3), some (iv v4), some (iv v5), none, none] [] m := by
  intro n
  induction n with
  | zero =>
    intro v5 m qv5 h
    cases h
  | succ n ih =>
    intro v5 m qv5 h
    rw [L9_hang_48] at h
    refine r_iload (pc := 48) hR (dc dt_X9_hang 28 rfl) rfl ?_
    refine r_iconst (pc := 50) hR (dc dt_X9_hang 29 rfl) ?_
    refine r_icmp_ge (pc := 51) (tgt := 140) hR (dc dt_X9_hang 30 rfl) (by decide) qv5 (rg_c rfl) (fun hc => ?_) (fun hc => ?_)
    · replace h := ite_t hc h
      exact r_vret hT (dc dt_X9_hang 83 rfl) (Option.some.inj h)
    replace h := ite_f hc h
    refine r_ldc (pc := 54) hR (dc dt_X9_hang 31 rfl) kw_X9_83 ?_
    refine r_istore (pc := 56) (L' := [some (.ref (ad o)), some (iv v1), some (iv v2), some (iv v3), some (iv v4), some (iv v5), some (iv 16777216), none]) hR (dc dt_X9_hang 32 rfl) (by decide) rfl rfl ?_
    refine r_iload_n (pc := 58) hR (dc dt_X9_hang 33 rfl) rfl ?_
    refine r_istore (pc := 59) (L' := [some (.ref (ad o)), some (iv v1), some (iv v2), some (iv v3), some (iv v4), some (iv v5), some (iv 16777216), some (iv v3)]) hR (dc dt_X9_hang 34 rfl) (by decide) rfl rfl ?_
    refine lp_L9_hang_61 hR hT hT0 qv1 qv2 qv3 qv4 qv5 (fun v6_105 qv6_105 h => ?_) FU 16777216 v3 (rg_c rfl) qv3 h
    show Go 105 [some (.ref (ad o)), some (iv v1), some (iv v2), some (iv v3), some (iv v4), some (iv v5), some (iv v6_105), none] [] m
    refine r_aload_n (pc := 105) hR (dc dt_X9_hang 60 rfl) rfl ?_
    refine r_getr (pc := 106) (k2 := o + 11) hR (dc dt_X9_hang 61 rfl) fl_X9_42 hT0.1 rfl ?_
    refine r_iload_n (pc := 109) hR (dc dt_X9_hang 62 rfl) rfl ?_
    refine r_iconst (pc := 110) hR (dc dt_X9_hang 63 rfl) ?_
    refine r_imul (pc := 111) hR (dc dt_X9_hang 64 rfl) ?_
    refine r_iload (pc := 112) hR (dc dt_X9_hang 65 rfl) rfl ?_
    refine r_iadd (pc := 114) hR (dc dt_X9_hang 66 rfl) ?_
    refine r_iload (pc := 115) hR (dc dt_X9_hang 67 rfl) rfl ?_
    obtain ⟨g1, h⟩ := gd_some h
    refine r_iast (pc := 117) hR (dc dt_X9_hang 68 rfl) (tr_11 hT0) g1 (w32_in _) ?_
    replace h := stw_e h
    generalize wr m (o + 11) (w32 ((w32 (v1 * 4)) + v5)) v6_105 = m117 at h ⊢
    refine r_aload_n (pc := 118) hR (dc dt_X9_hang 69 rfl) rfl ?_
    refine r_getr (pc := 119) (k2 := o + 9) hR (dc dt_X9_hang 70 rfl) fl_X9_36 hT0.1 rfl ?_
    refine r_iload_n (pc := 122) hR (dc dt_X9_hang 71 rfl) rfl ?_
    refine r_iconst (pc := 123) hR (dc dt_X9_hang 72 rfl) ?_
    refine r_imul (pc := 124) hR (dc dt_X9_hang 73 rfl) ?_
    refine r_iload (pc := 125) hR (dc dt_X9_hang 74 rfl) rfl ?_
    refine r_iadd (pc := 127) hR (dc dt_X9_hang 75 rfl) ?_
    refine r_dup2 (pc := 128) hR (dc dt_X9_hang 76 rfl) rfl rfl ?_
    obtain ⟨g1, h⟩ := gd_some h
    refine r_iald (pc := 129) hR (dc dt_X9_hang 77 rfl) (tr_9 hT0) g1 (w32_in _) ?_
    refine r_iload (pc := 130) hR (dc dt_X9_hang 78 rfl) rfl ?_
    refine r_iadd (pc := 132) hR (dc dt_X9_hang 79 rfl) ?_
    obtain ⟨g1, h⟩ := gd_some h
    refine r_iast (pc := 133) hR (dc dt_X9_hang 80 rfl) (tr_9 hT0) g1 (w32_in _) ?_
    replace h := stw_e h
    generalize wr m117 (o + 9) (w32 ((w32 (v2 * 4)) + v5)) (w32 ((rd m117 (o + 9) (w32 ((w32 (v2 * 4)) + v5))) + v6_105)) = m133 at h ⊢
    refine r_iinc (pc := 134) (L' := [some (.ref (ad o)), some (iv v1), some (iv v2), some (iv v3), some (iv v4), some (iv (w32 (v5 + 1))), some (iv v6_105), none]) hR (dc dt_X9_hang 81 rfl) rfl (by decide) rfl rfl ?_
    refine r_goto (pc := 137) (tgt := 48) hR (dc dt_X9_hang 82 rfl) (by decide) ?_
    refine r_weak (L' := [some (.ref (ad o)), some (iv v1), some (iv v2), some (iv v3), some (iv v4), some (iv (w32 (v5 + 1))), none, none]) hR ⟨Or.inr rfl, Or.inr rfl, Or.inr rfl, Or.inr rfl, Or.inr rfl, Or.inr rfl, Or.inl rfl, Or.inr rfl, trivial⟩ ?_
    exact ih (w32 (v5 + 1)) m133 (w32_in _) h
set_option maxRecDepth 100000 in
set_option maxHeartbeats 4000000 in
theorem ok_F9_hang {m : Mem} {o : Nat} {v1 v2 : Int} (hT0 : isTr o) (q1 : inR v1) (q2 : inR v2) {out : Mem} (h : F9_hang m o v1 v2 = some out) : CT l G cy ad tt yX9_hang cX9_hang 8 none 1 [.ref (ad o), iv v1, iv v2] m none True out := by
  refine CT_of (by decide) (Nat.le_of_ble_eq_true rfl) (fun Go hR hT => ?_)
  replace hR : RS l G cy ad tt RX9 cX9_hang 8 1 Go := hR
  show Go 0 [some (.ref (ad o)), some (iv v1), some (iv v2), none, none, none, none, none] [] m
  unfold F9_hang at h
  refine r_aload_n (pc := 0) hR (dc dt_X9_hang 0 rfl) rfl ?_
  refine r_getr (pc := 1) (k2 := o + 5) hR (dc dt_X9_hang 1 rfl) fl_X9_24 hT0.1 rfl ?_
  refine r_iload_n (pc := 4) hR (dc dt_X9_hang 2 rfl) rfl ?_
  obtain ⟨g1, h⟩ := gd_some h
  refine r_iald (pc := 5) hR (dc dt_X9_hang 3 rfl) (tr_5 hT0) g1 q1 ?_
  refine r_bipush (pc := 6) hR (dc dt_X9_hang 4 rfl) (by decide) ?_
  refine jn_e h (fun (K : Int → Option Mem) => ∀ (x21 : Int), inR x21 → K x21 = some out → Go 21 [some (.ref (ad o)), some (iv v1), some (iv v2), none, none, none, none, none] [iv x21] m) (fun x21 qx21 h => ?_) (fun K21 J21 h => ?_)
  · refine r_istore_n (pc := 21) (L' := [some (.ref (ad o)), some (iv v1), some (iv v2), some (iv x21), none, none, none, none]) hR (dc dt_X9_hang 12 rfl) (by decide) rfl rfl ?_
    refine r_aload_n (pc := 22) hR (dc dt_X9_hang 13 rfl) rfl ?_
    refine r_getr (pc := 23) (k2 := o + 5) hR (dc dt_X9_hang 14 rfl) fl_X9_24 hT0.1 rfl ?_
    refine r_iload_n (pc := 26) hR (dc dt_X9_hang 15 rfl) rfl ?_
    obtain ⟨g1, h⟩ := gd_some h
    refine r_iald (pc := 27) hR (dc dt_X9_hang 16 rfl) (tr_5 hT0) g1 q1 ?_
    refine r_bipush (pc := 28) hR (dc dt_X9_hang 17 rfl) (by decide) ?_
    refine jn_e h (fun (K : Int → Option Mem) => ∀ (x43 : Int), inR x43 → K x43 = some out → Go 43 [some (.ref (ad o)), some (iv v1), some (iv v2), some (iv x21), none, none, none, none] [iv x43] m) (fun x43 qx43 h => ?_) (fun K43 J43 h => ?_)
    · refine r_istore (pc := 43) (L' := [some (.ref (ad o)), some (iv v1), some (iv v2), some (iv x21), some (iv x43), none, none, none]) hR (dc dt_X9_hang 25 rfl) (by decide) rfl rfl ?_
      refine r_iconst (pc := 45) hR (dc dt_X9_hang 26 rfl) ?_
      refine r_istore (pc := 46) (L' := [some (.ref (ad o)), some (iv v1), some (iv v2), some (iv x21), some (iv x43), some (iv 0), none, none]) hR (dc dt_X9_hang 27 rfl) (by decide) rfl rfl ?_
      refine lp_L9_hang_48 hR hT hT0 q1 q2 qx21 qx43 FU 0 m (rg_c rfl) h
    refine r_icmp_ne (pc := 30) (tgt := 37) hR (dc dt_X9_hang 18 rfl) (by decide) (rd_in _ _ _) (rg_c rfl) (fun hc => ?_) (fun hc => ?_)
    · replace h := ite_t hc h
      refine r_aload_n (pc := 37) hR (dc dt_X9_hang 21 rfl) rfl ?_
      refine r_getr (pc := 38) (k2 := o + 5) hR (dc dt_X9_hang 22 rfl) fl_X9_24 hT0.1 rfl ?_
      refine r_iload_n (pc := 41) hR (dc dt_X9_hang 23 rfl) rfl ?_
      obtain ⟨g1, h⟩ := gd_some h
      refine r_iald (pc := 42) hR (dc dt_X9_hang 24 rfl) (tr_5 hT0) g1 q1 ?_
      exact J43 (rd m (o + 5) v1) (rd_in _ _ _) h
    replace h := ite_f hc h
    refine r_iconst (pc := 33) hR (dc dt_X9_hang 19 rfl) ?_
    refine r_goto (pc := 34) (tgt := 43) hR (dc dt_X9_hang 20 rfl) (by decide) ?_
    exact J43 3 (rg_c rfl) h
  refine r_icmp_ne (pc := 8) (tgt := 15) hR (dc dt_X9_hang 5 rfl) (by decide) (rd_in _ _ _) (rg_c rfl) (fun hc => ?_) (fun hc => ?_)
  · replace h := ite_t hc h
    refine r_aload_n (pc := 15) hR (dc dt_X9_hang 8 rfl) rfl ?_
    refine r_getr (pc := 16) (k2 := o + 5) hR (dc dt_X9_hang 9 rfl) fl_X9_24 hT0.1 rfl ?_
    refine r_iload_n (pc := 19) hR (dc dt_X9_hang 10 rfl) rfl ?_
    obtain ⟨g1, h⟩ := gd_some h
    refine r_iald (pc := 20) hR (dc dt_X9_hang 11 rfl) (tr_5 hT0) g1 q1 ?_
    exact J21 (rd m (o + 5) v1) (rd_in _ _ _) h
  replace h := ite_f hc h
  refine r_iconst (pc := 11) hR (dc dt_X9_hang 6 rfl) ?_
  refine r_goto (pc := 12) (tgt := 21) hR (dc dt_X9_hang 7 rfl) (by decide) ?_
  exact J21 0 (rg_c rfl) h
def tb_X9_least : List (Nat × (Instr × Nat)) := [(0, (.iconst 0, 1)), (1, (.istore_n 1, 1)), (2, (.iload_n 1, 1)), (3, (.aload_n 0, 1)), (4, (.getfield 51, 3)), (7, (.if_icmp .ge 59, 3)), (10, (.iconst 0, 1)), (11, (.istore_n 2, 1)), (12, (.iload_n 2, 1)), (13, (.iconst 4, 1)), (14, (.if_icmp .ge 46, 3)), (17, (.aload_n 0, 1)), (18, (.getfield 36, 3)), (21, (.iload_n 1, 1)), (22, (.iconst 4, 1)), (23, (.imul, 1)), (24, (.iload_n 2, 1)), (25, (.iadd, 1)), (26, (.aload_n 0, 1)), (27, (.getfield 24, 3)), (30, (.iload_n 1, 1)), (31, (.iaload, 1)), (32, (.bipush 9, 2)), (34, (.if_icmp .eq 13, 3)), (37, (.aload_n 0, 1)), (38, (.getfield 24, 3)), (41, (.iload_n 1, 1)), (42, (.iaload, 1)), (43, (.iload_n 2, 1)), (44, (.if_icmp .ne 7, 3)), (47, (.iconst 0, 1)), (48, (.goto 5, 3)), (51, (.ldc 83, 2)), (53, (.iastore, 1)), (54, (.iinc 2 1, 3)), (57, (.goto (-45), 3)), (60, (.iinc 1 1, 3)), (63, (.goto (-61), 3)), (66, (.iconst 0, 1)), (67, (.istore_n 1, 1)), (68, (.aload_n 0, 1)), (69, (.getfield 51, 3)), (72, (.iconst 1, 1)), (73, (.isub, 1)), (74, (.istore_n 2, 1)), (75, (.iload_n 2, 1)), (76, (.ifCond .lt 47, 3)), (79, (.aload_n 0, 1)), (80, (.getfield 30, 3)), (83, (.iload_n 2, 1)), (84, (.iaload, 1)), (85, (.istore_n 3, 1)), (86, (.aload_n 0, 1)), (87, (.getfield 9, 3)), (90, (.iload_n 3, 1)), (91, (.iaload, 1)), (92, (.ifCond .ge 14, 3)), (95, (.iload_n 1, 1)), (96, (.aload_n 0, 1)), (97, (.iload_n 3, 1)), (98, (.invokevirtual 84, 3)), (101, (.iadd, 1)), (102, (.istore_n 1, 1)), (103, (.goto 14, 3)), (106, (.aload_n 0, 1)), (107, (.iload_n 3, 1)), (108, (.aload_n 0, 1)), (109, (.getfield 9, 3)), (112, (.iload_n 3, 1)), (113, (.iaload, 1)), (114, (.invokevirtual 87, 3)), (117, (.iinc 2 (-1), 3)), (120, (.goto (-45), 3)), (123, (.iload_n 1, 1)), (124, (.ireturn, 1))]
set_option maxRecDepth 100000 in
theorem dt_X9_least : (tb_X9_least.all fun q => decide (decode cX9_least q.1 = .ok q.2)) = true := by decide +kernel
set_option maxRecDepth 100000 in
set_option maxHeartbeats 4000000 in
theorem lp_L9_least_12 {Go : Nat → List (Option Value) → List Value → Mem → Prop} (hR : RS l G cy ad tt RX9 cX9_least 4 2 Go) {out : Int × Mem} (hT : RT cX9_least (some (iv out.1)) (inR out.1) out.2 (some .int) Go) {o : Nat} (hT0 : isTr o) {v1 : Int} (qv1 : inR v1) {k60 : Mem → Option (Int × Mem)} (hk60 : ∀ (m : Mem), k60 m = some out → Go 60 [some (.ref (ad o)), some (iv v1), none, none] [] m) : ∀ (n : Nat) (v2 : Int) (m : Mem), inR v2 → L9_least_12 o v1 k60 n v2 m = some out → Go 12 [some (.ref (ad o)), some (iv v1), some (iv v2), none] [] m := by
  intro n
  induction n with
  | zero =>
    intro v2 m qv2 h
    cases h
  | succ n ih =>
    intro v2 m qv2 h
    rw [L9_least_12] at h
    refine r_iload_n (pc := 12) hR (dc dt_X9_least 8 rfl) rfl ?_
    refine r_iconst (pc := 13) hR (dc dt_X9_least 9 rfl) ?_
    refine r_icmp_ge (pc := 14) (tgt := 60) hR (dc dt_X9_least 10 rfl) (by decide) qv2 (rg_c rfl) (fun hc => ?_) (fun hc => ?_)
    · replace h := ite_t hc h
      refine r_weak (L' := [some (.ref (ad o)), some (iv v1), none, none]) hR ⟨Or.inr rfl, Or.inr rfl, Or.inl rfl, Or.inr rfl, trivial⟩ ?_
      exact hk60 m h
    replace h := ite_f hc h
    refine r_aload_n (pc := 17) hR (dc dt_X9_least 11 rfl) rfl ?_
    refine r_getr (pc := 18) (k2 := o + 9) hR (dc dt_X9_least 12 rfl) fl_X9_36 hT0.1 rfl ?_
    refine r_iload_n (pc := 21) hR (dc dt_X9_least 13 rfl) rfl ?_
    refine r_iconst (pc := 22) hR (dc dt_X9_least 14 rfl) ?_
    refine r_imul (pc := 23) hR (dc dt_X9_least 15 rfl) ?_
    refine r_iload_n (pc := 24) hR (dc dt_X9_least 16 rfl) rfl ?_
    refine r_iadd (pc := 25) hR (dc dt_X9_least 17 rfl) ?_
    refine r_aload_n (pc := 26) hR (dc dt_X9_least 18 rfl) rfl ?_
    refine r_getr (pc := 27) (k2 := o + 5) hR (dc dt_X9_least 19 rfl) fl_X9_24 hT0.1 rfl ?_
    refine r_iload_n (pc := 30) hR (dc dt_X9_least 20 rfl) rfl ?_
    obtain ⟨g1, h⟩ := gd_some h
    refine r_iald (pc := 31) hR (dc dt_X9_least 21 rfl) (tr_5 hT0) g1 qv1 ?_
    refine r_bipush (pc := 32) hR (dc dt_X9_least 22 rfl) (by decide) ?_
    refine jn_e h (fun (K : Int → Option (Int × Mem)) => ∀ (x53 : Int), inR x53 → K x53 = some out → Go 53 [some (.ref (ad o)), some (iv v1), some (iv v2), none] [iv x53, iv (w32 ((w32 (v1 * 4)) + v2)), .ref (ad (o + 9))] m) (fun x53 qx53 h => ?_) (fun K53 J53 h => ?_)
    · obtain ⟨g1, h⟩ := gd_some h
      refine r_iast (pc := 53) hR (dc dt_X9_least 33 rfl) (tr_9 hT0) g1 (w32_in _) ?_
      replace h := stw_e h
      generalize wr m (o + 9) (w32 ((w32 (v1 * 4)) + v2)) x53 = m53 at h ⊢
      refine r_iinc (pc := 54) (L' := [some (.ref (ad o)), some (iv v1), some (iv (w32 (v2 + 1))), none]) hR (dc dt_X9_least 34 rfl) rfl (by decide) rfl rfl ?_
      refine r_goto (pc := 57) (tgt := 12) hR (dc dt_X9_least 35 rfl) (by decide) ?_
      exact ih (w32 (v2 + 1)) m53 (w32_in _) h
    refine jn_e h (fun (K : Option (Int × Mem)) => K = some out → Go 47 [some (.ref (ad o)), some (iv v1), some (iv v2), none] [iv (w32 ((w32 (v1 * 4)) + v2)), .ref (ad (o + 9))] m) (fun h => ?_) (fun K47 J47 h => ?_)
    · refine r_iconst (pc := 47) hR (dc dt_X9_least 30 rfl) ?_
      refine r_goto (pc := 48) (tgt := 53) hR (dc dt_X9_least 31 rfl) (by decide) ?_
      exact J53 0 (rg_c rfl) h
    refine r_icmp_eq (pc := 34) (tgt := 47) hR (dc dt_X9_least 23 rfl) (by decide) (rd_in _ _ _) (rg_c rfl) (fun hc => ?_) (fun hc => ?_)
    · replace h := ite_t hc h
      exact J47 h
    replace h := ite_f hc h
    refine r_aload_n (pc := 37) hR (dc dt_X9_least 24 rfl) rfl ?_
    refine r_getr (pc := 38) (k2 := o + 5) hR (dc dt_X9_least 25 rfl) fl_X9_24 hT0.1 rfl ?_
    refine r_iload_n (pc := 41) hR (dc dt_X9_least 26 rfl) rfl ?_
    obtain ⟨g1, h⟩ := gd_some h
    refine r_iald (pc := 42) hR (dc dt_X9_least 27 rfl) (tr_5 hT0) g1 qv1 ?_
    refine r_iload_n (pc := 43) hR (dc dt_X9_least 28 rfl) rfl ?_
    refine r_icmp_ne (pc := 44) (tgt := 51) hR (dc dt_X9_least 29 rfl) (by decide) (rd_in _ _ _) qv2 (fun hc => ?_) (fun hc => ?_)
    · replace h := ite_t hc h
      refine r_ldc (pc := 51) hR (dc dt_X9_least 32 rfl) kw_X9_83 ?_
      exact J53 16777216 (rg_c rfl) h
    replace h := ite_f hc h
    exact J47 h
set_option maxRecDepth 100000 in
set_option maxHeartbeats 4000000 in
theorem lp_L9_least_2 {Go : Nat → List (Option Value) → List Value → Mem → Prop} (hR : RS l G cy ad tt RX9 cX9_least 4 2 Go) {out : Int × Mem} (hT : RT cX9_least (some (iv out.1)) (inR out.1) out.2 (some .int) Go) {o : Nat} (hT0 : isTr o) {k66 : Mem → Option (Int × Mem)} (hk66 : ∀ (m : Mem), k66 m = some out → Go 66 [some (.ref (ad o)), none, none, none] [] m) : ∀ (n : Nat) (v1 : Int) (m : Mem), inR v1 → L9_least_2 o k66 n v1 m = some out → Go 2 [some (.ref (ad o)), some (iv v1), none, none] [] m := by
  intro n
  induction n with
  | zero =>
    intro v1 m qv1 h
    cases h
  | succ n ih =>
    intro v1 m qv1 h
    rw [L9_least_2] at h
    refine r_iload_n (pc := 2) hR (dc dt_X9_least 2 rfl) rfl ?_
    refine r_aload_n (pc := 3) hR (dc dt_X9_least 3 rfl) rfl ?_
    refine r_geti (pc := 4) hR (dc dt_X9_least 4 rfl) fl_X9_51 hT0.1 rfl ?_
    refine r_icmp_ge (pc := 7) (tgt := 66) hR (dc dt_X9_least 5 rfl) (by decide) qv1 (rd_in _ _ _) (fun hc => ?_) (fun hc => ?_)
    · replace h := ite_t hc h
      refine r_weak (L' := [some (.ref (ad o)), none, none, none]) hR ⟨Or.inr rfl, Or.inl rfl, Or.inr rfl, Or.inr rfl, trivial⟩ ?_
      exact hk66 m h
    replace h := ite_f hc h
    refine r_iconst (pc := 10) hR (dc dt_X9_least 6 rfl) ?_
    refine r_istore_n (pc := 11) (L' := [some (.ref (ad o)), some (iv v1), some (iv 0), none]) hR (dc dt_X9_least 7 rfl) (by decide) rfl rfl ?_
    refine lp_L9_least_12 hR hT hT0 qv1 (fun m_60 h => ?_) FU 0 m (rg_c rfl) h
    show Go 60 [some (.ref (ad o)), some (iv v1), none, none] [] m_60
    refine r_iinc (pc := 60) (L' := [some (.ref (ad o)), some (iv (w32 (v1 + 1))), none, none]) hR (dc dt_X9_least 36 rfl) rfl (by decide) rfl rfl ?_
    refine r_goto (pc := 63) (tgt := 2) hR (dc dt_X9_least 37 rfl) (by decide) ?_
    exact ih (w32 (v1 + 1)) m_60 (w32_in _) h
set_option maxRecDepth 100000 in
set_option maxHeartbeats 4000000 in
theorem lp_L9_least_75 {Go : Nat → List (Option Value) → List Value → Mem → Prop} (hR : RS l G cy ad tt RX9 cX9_least 4 2 Go) {out : Int × Mem} (hT : RT cX9_least (some (iv out.1)) (inR out.1) out.2 (some .int) Go) {o : Nat} (hT0 : isTr o) : ∀ (n : Nat) (v1 : Int) (v2 : Int) (m : Mem), inR v1 → inR v2 → L9_least_75 o n v1 v2 m = some out → Go 75 [some (.ref (ad o)), some (iv v1), some (iv v2), none] [] m := by
  intro n
  induction n with
  | zero =>
    intro v1 v2 m qv1 qv2 h
    cases h
  | succ n ih =>
    intro v1 v2 m qv1 qv2 h
    rw [L9_least_75] at h
    refine r_iload_n (pc := 75) hR (dc dt_X9_least 45 rfl) rfl ?_
    refine r_if_lt (pc := 76) (tgt := 123) hR (dc dt_X9_least 46 rfl) (by decide) qv2 (fun hc => ?_) (fun hc => ?_)
    · replace h := ite_t hc h
      refine r_iload_n (pc := 123) hR (dc dt_X9_least 73 rfl) rfl ?_
      exact r_iret hT (dc dt_X9_least 74 rfl) (congrArg Prod.fst (Option.some.inj h)) (congrArg Prod.snd (Option.some.inj h)) qv1
    replace h := ite_f hc h
    refine r_aload_n (pc := 79) hR (dc dt_X9_least 47 rfl) rfl ?_
    refine r_getr (pc := 80) (k2 := o + 7) hR (dc dt_X9_least 48 rfl) fl_X9_30 hT0.1 rfl ?_
    refine r_iload_n (pc := 83) hR (dc dt_X9_least 49 rfl) rfl ?_
    obtain ⟨g1, h⟩ := gd_some h
    refine r_iald (pc := 84) hR (dc dt_X9_least 50 rfl) (tr_7 hT0) g1 qv2 ?_
    refine r_istore_n (pc := 85) (L' := [some (.ref (ad o)), some (iv v1), some (iv v2), some (iv (rd m (o + 7) v2))]) hR (dc dt_X9_least 51 rfl) (by decide) rfl rfl ?_
    refine r_aload_n (pc := 86) hR (dc dt_X9_least 52 rfl) rfl ?_
    refine r_getr (pc := 87) (k2 := o + 1) hR (dc dt_X9_least 53 rfl) fl_X9_9 hT0.1 rfl ?_
    refine r_iload_n (pc := 90) hR (dc dt_X9_least 54 rfl) rfl ?_
    obtain ⟨g1, h⟩ := gd_some h
    refine r_iald (pc := 91) hR (dc dt_X9_least 55 rfl) (tr_1 hT0) g1 (rd_in _ _ _) ?_
    refine jn_e h (fun (K : Int → Mem → Option (Int × Mem)) => ∀ (v1_117 : Int) (m_117 : Mem), inR v1_117 → K v1_117 m_117 = some out → Go 117 [some (.ref (ad o)), some (iv v1_117), some (iv v2), none] [] m_117) (fun v1_117 m_117 qv1_117 h => ?_) (fun K117 J117 h => ?_)
    · refine r_iinc (pc := 117) (L' := [some (.ref (ad o)), some (iv v1_117), some (iv (w32 (v2 + (-1)))), none]) hR (dc dt_X9_least 71 rfl) rfl (by decide) rfl rfl ?_
      refine r_goto (pc := 120) (tgt := 75) hR (dc dt_X9_least 72 rfl) (by decide) ?_
      exact ih v1_117 (w32 (v2 + (-1))) m_117 qv1_117 (w32_in _) h
    refine r_if_ge (pc := 92) (tgt := 106) hR (dc dt_X9_least 56 rfl) (by decide) (rd_in _ _ _) (fun hc => ?_) (fun hc => ?_)
    · replace h := ite_t hc h
      refine r_aload_n (pc := 106) hR (dc dt_X9_least 64 rfl) rfl ?_
      refine r_iload_n (pc := 107) hR (dc dt_X9_least 65 rfl) rfl ?_
      refine r_aload_n (pc := 108) hR (dc dt_X9_least 66 rfl) rfl ?_
      refine r_getr (pc := 109) (k2 := o + 1) hR (dc dt_X9_least 67 rfl) fl_X9_9 hT0.1 rfl ?_
      refine r_iload_n (pc := 112) hR (dc dt_X9_least 68 rfl) rfl ?_
      obtain ⟨g1, h⟩ := gd_some h
      refine r_iald (pc := 113) hR (dc dt_X9_least 69 rfl) (tr_1 hT0) g1 (rd_in _ _ _) ?_
      obtain ⟨m114, e114, h⟩ := b1_some h
      refine r_callV (pc := 114) (rest := []) hR (dc dt_X9_least 70 rfl) cl_X9_87 hT0.1 rfl (ok_F9_hang hT0 (rd_in _ _ _) (rd_in _ _ _) e114) (by decide) rfl (Nat.le_of_ble_eq_true rfl) rfl (fun q114r => ?_)
      show Go 117 [some (.ref (ad o)), some (iv v1), some (iv v2), some (iv (rd m (o + 7) v2))] [] m114
      refine r_weak (L' := [some (.ref (ad o)), some (iv v1), some (iv v2), none]) hR ⟨Or.inr rfl, Or.inr rfl, Or.inr rfl, Or.inl rfl, trivial⟩ ?_
      exact J117 v1 m114 qv1 h
    replace h := ite_f hc h
    refine r_iload_n (pc := 95) hR (dc dt_X9_least 57 rfl) rfl ?_
    refine r_aload_n (pc := 96) hR (dc dt_X9_least 58 rfl) rfl ?_
    refine r_iload_n (pc := 97) hR (dc dt_X9_least 59 rfl) rfl ?_
    obtain ⟨r98, e98, h⟩ := b1_some h
    refine r_callV (pc := 98) (rest := [iv v1]) hR (dc dt_X9_least 60 rfl) cl_X9_84 hT0.1 rfl (ok_F9_smallestBelow hT0 (rd_in _ _ _) e98) (by decide) rfl (Nat.le_of_ble_eq_true rfl) rfl (fun q98r => ?_)
    show Go 101 [some (.ref (ad o)), some (iv v1), some (iv v2), some (iv (rd m (o + 7) v2))] [iv r98, iv v1] m
    refine r_iadd (pc := 101) hR (dc dt_X9_least 61 rfl) ?_
    refine r_istore_n (pc := 102) (L' := [some (.ref (ad o)), some (iv (w32 (v1 + r98))), some (iv v2), some (iv (rd m (o + 7) v2))]) hR (dc dt_X9_least 62 rfl) (by decide) rfl rfl ?_
    refine r_goto (pc := 103) (tgt := 117) hR (dc dt_X9_least 63 rfl) (by decide) ?_
    refine r_weak (L' := [some (.ref (ad o)), some (iv (w32 (v1 + r98))), some (iv v2), none]) hR ⟨Or.inr rfl, Or.inr rfl, Or.inr rfl, Or.inl rfl, trivial⟩ ?_
    exact J117 (w32 (v1 + r98)) m (w32_in _) h
set_option maxRecDepth 100000 in
set_option maxHeartbeats 4000000 in
theorem ok_F9_least {m : Mem} {o : Nat} (hT0 : isTr o) {out : Int × Mem} (h : F9_least m o = some out) : CT l G cy ad tt yX9_least cX9_least 4 (some .int) 2 [.ref (ad o)] m (some (iv out.1)) (inR out.1) out.2 := by
  refine CT_of (by decide) (Nat.le_of_ble_eq_true rfl) (fun Go hR hT => ?_)
  replace hR : RS l G cy ad tt RX9 cX9_least 4 2 Go := hR
  show Go 0 [some (.ref (ad o)), none, none, none] [] m
  unfold F9_least at h
  refine r_iconst (pc := 0) hR (dc dt_X9_least 0 rfl) ?_
  refine r_istore_n (pc := 1) (L' := [some (.ref (ad o)), some (iv 0), none, none]) hR (dc dt_X9_least 1 rfl) (by decide) rfl rfl ?_
  refine lp_L9_least_2 hR hT hT0 (fun m_66 h => ?_) FU 0 m (rg_c rfl) h
  show Go 66 [some (.ref (ad o)), none, none, none] [] m_66
  refine r_iconst (pc := 66) hR (dc dt_X9_least 38 rfl) ?_
  refine r_istore_n (pc := 67) (L' := [some (.ref (ad o)), some (iv 0), none, none]) hR (dc dt_X9_least 39 rfl) (by decide) rfl rfl ?_
  refine r_aload_n (pc := 68) hR (dc dt_X9_least 40 rfl) rfl ?_
  refine r_geti (pc := 69) hR (dc dt_X9_least 41 rfl) fl_X9_51 hT0.1 rfl ?_
  refine r_iconst (pc := 72) hR (dc dt_X9_least 42 rfl) ?_
  refine r_isub (pc := 73) hR (dc dt_X9_least 43 rfl) ?_
  refine r_istore_n (pc := 74) (L' := [some (.ref (ad o)), some (iv 0), some (iv (w32 ((rd m_66 o 0) - 1))), none]) hR (dc dt_X9_least 44 rfl) (by decide) rfl rfl ?_
  refine lp_L9_least_75 hR hT hT0 FU 0 (w32 ((rd m_66 o 0) - 1)) m_66 (rg_c rfl) (w32_in _) h
def tb_X10_cost : List (Nat × (Instr × Nat)) := [(0, (.iload_n 1, 1)), (1, (.iconst (-1), 1)), (2, (.if_icmp .eq 12, 3)), (5, (.iload_n 1, 1)), (6, (.invokestatic 128, 3)), (9, (.ifCond .ne 5, 3)), (12, (.iconst (-1), 1)), (13, (.ireturn, 1)), (14, (.aload_n 0, 1)), (15, (.getfield 26, 3)), (18, (.aload_n 0, 1)), (19, (.getfield 19, 3)), (22, (.invokevirtual 168, 3)), (25, (.iconst 0, 1)), (26, (.istore_n 2, 1)), (27, (.iconst 0, 1)), (28, (.istore_n 3, 1)), (29, (.iload_n 3, 1)), (30, (.bipush 16, 2)), (32, (.if_icmp .ge 41, 3)), (35, (.iload_n 1, 1)), (36, (.iconst (-1), 1)), (37, (.if_icmp .eq 8, 3)), (40, (.iload_n 1, 1)), (41, (.iload_n 3, 1)), (42, (.if_icmp .ne 25, 3)), (45, (.aload_n 0, 1)), (46, (.getfield 26, 3)), (49, (.aload_n 0, 1)), (50, (.getfield 19, 3)), (53, (.iload_n 3, 1)), (54, (.invokevirtual 171, 3)), (57, (.iload_n 2, 1)), (58, (.aload_n 0, 1)), (59, (.getfield 26, 3)), (62, (.invokevirtual 175, 3)), (65, (.iadd, 1)), (66, (.istore_n 2, 1)), (67, (.iinc 3 1, 3)), (70, (.goto (-41), 3)), (73, (.iload_n 2, 1)), (74, (.ireturn, 1))]
set_option maxRecDepth 100000 in
theorem dt_X10_cost : (tb_X10_cost.all fun q => decide (decode cX10_cost q.1 = .ok q.2)) = true := by decide +kernel
set_option maxRecDepth 100000 in
set_option maxHeartbeats 4000000 in
theorem lp_L10_cost_29 {Go : Nat → List (Option Value) → List Value → Mem → Prop} (hR : RS l G cy ad tt RX10 cX10_cost 4 4 Go) {out : Int × Mem} (hT : RT cX10_cost (some (iv out.1)) (inR out.1) out.2 (some .int) Go) {v1 : Int} (qv1 : inR v1) : ∀ (n : Nat) (v2 : Int) (v3 : Int) (m : Mem), inR v2 → inR v3 → L10_cost_29 v1 n v2 v3 m = some out → Go 29 [some (.ref (ad 0)), some (iv v1), some (iv v2), some (iv v3)] [] m := by
  intro n
  induction n with
  | zero =>
    intro v2 v3 m qv2 qv3 h
    cases h
  | succ n ih =>
    intro v2 v3 m qv2 qv3 h
    rw [L10_cost_29] at h
    refine r_iload_n (pc := 29) hR (dc dt_X10_cost 17 rfl) rfl ?_
    refine r_bipush (pc := 30) hR (dc dt_X10_cost 18 rfl) (by decide) ?_
    refine r_icmp_ge (pc := 32) (tgt := 73) hR (dc dt_X10_cost 19 rfl) (by decide) qv3 (rg_c rfl) (fun hc => ?_) (fun hc => ?_)
    · replace h := ite_t hc h
      refine r_iload_n (pc := 73) hR (dc dt_X10_cost 40 rfl) rfl ?_
      exact r_iret hT (dc dt_X10_cost 41 rfl) (congrArg Prod.fst (Option.some.inj h)) (congrArg Prod.snd (Option.some.inj h)) qv2
    replace h := ite_f hc h
    refine r_iload_n (pc := 35) hR (dc dt_X10_cost 20 rfl) rfl ?_
    refine r_iconst (pc := 36) hR (dc dt_X10_cost 21 rfl) ?_
    refine jn_e h (fun (K : Int → Mem → Option (Int × Mem)) => ∀ (v2_67 : Int) (m_67 : Mem), inR v2_67 → K v2_67 m_67 = some out → Go 67 [some (.ref (ad 0)), some (iv v1), some (iv v2_67), some (iv v3)] [] m_67) (fun v2_67 m_67 qv2_67 h => ?_) (fun K67 J67 h => ?_)
    · refine r_iinc (pc := 67) (L' := [some (.ref (ad 0)), some (iv v1), some (iv v2_67), some (iv (w32 (v3 + 1)))]) hR (dc dt_X10_cost 38 rfl) rfl (by decide) rfl rfl ?_
      refine r_goto (pc := 70) (tgt := 29) hR (dc dt_X10_cost 39 rfl) (by decide) ?_
      exact ih v2_67 (w32 (v3 + 1)) m_67 qv2_67 (w32_in _) h
    refine jn_e h (fun (K : Option (Int × Mem)) => K = some out → Go 45 [some (.ref (ad 0)), some (iv v1), some (iv v2), some (iv v3)] [] m) (fun h => ?_) (fun K45 J45 h => ?_)
    · refine r_aload_n (pc := 45) hR (dc dt_X10_cost 26 rfl) rfl ?_
      refine r_getr (pc := 46) (k2 := 14) hR (dc dt_X10_cost 27 rfl) fl_X10_26 tc_0 rfl ?_
      refine r_aload_n (pc := 49) hR (dc dt_X10_cost 28 rfl) rfl ?_
      refine r_getr (pc := 50) (k2 := 4) hR (dc dt_X10_cost 29 rfl) fl_X10_19 tc_0 rfl ?_
      refine r_iload_n (pc := 53) hR (dc dt_X10_cost 30 rfl) rfl ?_
      obtain ⟨m54, e54, h⟩ := b1_some h
      refine r_callV (pc := 54) (rest := []) hR (dc dt_X10_cost 31 rfl) cl_X10_171 tc_14 rfl (ok_F9_write tr_c14 qv3 e54) (by decide) rfl (Nat.le_of_ble_eq_true rfl) rfl (fun q54r => ?_)
      show Go 57 [some (.ref (ad 0)), some (iv v1), some (iv v2), some (iv v3)] [] m54
      refine r_iload_n (pc := 57) hR (dc dt_X10_cost 32 rfl) rfl ?_
      refine r_aload_n (pc := 58) hR (dc dt_X10_cost 33 rfl) rfl ?_
      refine r_getr (pc := 59) (k2 := 14) hR (dc dt_X10_cost 34 rfl) fl_X10_26 tc_0 rfl ?_
      obtain ⟨r62, m62, e62, h⟩ := b2_some h
      refine r_callV (pc := 62) (rest := [iv v2]) hR (dc dt_X10_cost 35 rfl) cl_X10_175 tc_14 rfl (ok_F9_least tr_c14 e62) (by decide) rfl (Nat.le_of_ble_eq_true rfl) rfl (fun q62r => ?_)
      show Go 65 [some (.ref (ad 0)), some (iv v1), some (iv v2), some (iv v3)] [iv r62, iv v2] m62
      refine r_iadd (pc := 65) hR (dc dt_X10_cost 36 rfl) ?_
      refine r_istore_n (pc := 66) (L' := [some (.ref (ad 0)), some (iv v1), some (iv (w32 (v2 + r62))), some (iv v3)]) hR (dc dt_X10_cost 37 rfl) (by decide) rfl rfl ?_
      exact J67 (w32 (v2 + r62)) m62 (w32_in _) h
    refine r_icmp_eq (pc := 37) (tgt := 45) hR (dc dt_X10_cost 22 rfl) (by decide) qv1 (rg_c rfl) (fun hc => ?_) (fun hc => ?_)
    · replace h := ite_t hc h
      exact J45 h
    replace h := ite_f hc h
    refine r_iload_n (pc := 40) hR (dc dt_X10_cost 23 rfl) rfl ?_
    refine r_iload_n (pc := 41) hR (dc dt_X10_cost 24 rfl) rfl ?_
    refine r_icmp_ne (pc := 42) (tgt := 67) hR (dc dt_X10_cost 25 rfl) (by decide) qv1 qv3 (fun hc => ?_) (fun hc => ?_)
    · replace h := ite_t hc h
      exact J67 v2 m qv2 h
    replace h := ite_f hc h
    exact J45 h
set_option maxRecDepth 100000 in
set_option maxHeartbeats 4000000 in
theorem ok_F10_cost {m : Mem}  {v1 : Int} (q1 : inR v1) {out : Int × Mem} (h : F10_cost m v1 = some out) : CT l G cy ad tt yX10_cost cX10_cost 4 (some .int) 4 [.ref (ad 0), iv v1] m (some (iv out.1)) (inR out.1) out.2 := by
  refine CT_of (by decide) (Nat.le_of_ble_eq_true rfl) (fun Go hR hT => ?_)
  replace hR : RS l G cy ad tt RX10 cX10_cost 4 4 Go := hR
  show Go 0 [some (.ref (ad 0)), some (iv v1), none, none] [] m
  unfold F10_cost at h
  refine r_iload_n (pc := 0) hR (dc dt_X10_cost 0 rfl) rfl ?_
  refine r_iconst (pc := 1) hR (dc dt_X10_cost 1 rfl) ?_
  refine jn_e h (fun (K : Option (Int × Mem)) => K = some out → Go 14 [some (.ref (ad 0)), some (iv v1), none, none] [] m) (fun h => ?_) (fun K14 J14 h => ?_)
  · refine r_aload_n (pc := 14) hR (dc dt_X10_cost 8 rfl) rfl ?_
    refine r_getr (pc := 15) (k2 := 14) hR (dc dt_X10_cost 9 rfl) fl_X10_26 tc_0 rfl ?_
    refine r_aload_n (pc := 18) hR (dc dt_X10_cost 10 rfl) rfl ?_
    refine r_getr (pc := 19) (k2 := 4) hR (dc dt_X10_cost 11 rfl) fl_X10_19 tc_0 rfl ?_
    obtain ⟨m22, e22, h⟩ := b1_some h
    refine r_callV (pc := 22) (rest := []) hR (dc dt_X10_cost 12 rfl) cl_X10_168 tc_14 rfl (ok_F9_growAsTold tr_c14 e22) (by decide) rfl (Nat.le_of_ble_eq_true rfl) rfl (fun q22r => ?_)
    show Go 25 [some (.ref (ad 0)), some (iv v1), none, none] [] m22
    refine r_iconst (pc := 25) hR (dc dt_X10_cost 13 rfl) ?_
    refine r_istore_n (pc := 26) (L' := [some (.ref (ad 0)), some (iv v1), some (iv 0), none]) hR (dc dt_X10_cost 14 rfl) (by decide) rfl rfl ?_
    refine r_iconst (pc := 27) hR (dc dt_X10_cost 15 rfl) ?_
    refine r_istore_n (pc := 28) (L' := [some (.ref (ad 0)), some (iv v1), some (iv 0), some (iv 0)]) hR (dc dt_X10_cost 16 rfl) (by decide) rfl rfl ?_
    refine lp_L10_cost_29 hR hT q1 FU 0 0 m22 (rg_c rfl) (rg_c rfl) h
  refine r_icmp_eq (pc := 2) (tgt := 14) hR (dc dt_X10_cost 2 rfl) (by decide) q1 (rg_c rfl) (fun hc => ?_) (fun hc => ?_)
  · replace h := ite_t hc h
    exact J14 h
  replace h := ite_f hc h
  refine r_iload_n (pc := 5) hR (dc dt_X10_cost 3 rfl) rfl ?_
  refine r_callS (pc := 6) (rest := []) hR (dc dt_X10_cost 4 rfl) cl_X10_128 (ok_F10_isClause q1) (by decide) rfl (Nat.le_of_ble_eq_true rfl) rfl (fun q6r => ?_)
  show Go 9 [some (.ref (ad 0)), some (iv v1), none, none] [iv (F10_isClause v1)] m
  refine r_if_ne (pc := 9) (tgt := 14) hR (dc dt_X10_cost 5 rfl) (by decide) (inZ_R q6r) (fun hc => ?_) (fun hc => ?_)
  · replace h := ite_t hc h
    exact J14 h
  replace h := ite_f hc h
  refine r_iconst (pc := 12) hR (dc dt_X10_cost 6 rfl) ?_
  exact r_iret hT (dc dt_X10_cost 7 rfl) (congrArg Prod.fst (Option.some.inj h)) (congrArg Prod.snd (Option.some.inj h)) (rg_c rfl)
def tb_X9_besideBranch : List (Nat × (Instr × Nat)) := [(0, (.ldc 83, 2)), (2, (.istore 4, 2)), (4, (.iconst 0, 1)), (5, (.istore 5, 2)), (7, (.iload 5, 2)), (9, (.iconst 4, 1)), (10, (.if_icmp .ge 67, 3)), (13, (.aload_n 0, 1)), (14, (.getfield 39, 3)), (17, (.iload_n 2, 1)), (18, (.iconst 4, 1)), (19, (.imul, 1)), (20, (.iload 5, 2)), (22, (.iadd, 1)), (23, (.iaload, 1)), (24, (.aload_n 0, 1)), (25, (.getfield 36, 3)), (28, (.iload_n 2, 1)), (29, (.iconst 4, 1)), (30, (.imul, 1)), (31, (.iload 5, 2)), (33, (.iadd, 1)), (34, (.iaload, 1)), (35, (.iadd, 1)), (36, (.aload_n 0, 1)), (37, (.getfield 42, 3)), (40, (.iload_n 1, 1)), (41, (.iconst 4, 1)), (42, (.imul, 1)), (43, (.iload 5, 2)), (45, (.iadd, 1)), (46, (.iaload, 1)), (47, (.isub, 1)), (48, (.istore 6, 2)), (50, (.iload 4, 2)), (52, (.iload 6, 2)), (54, (.aload_n 0, 1)), (55, (.getfield 33, 3)), (58, (.iload 5, 2)), (60, (.iconst 4, 1)), (61, (.imul, 1)), (62, (.iload_n 3, 1)), (63, (.iadd, 1)), (64, (.iaload, 1)), (65, (.iadd, 1)), (66, (.invokestatic 80, 3)), (69, (.istore 4, 2)), (71, (.iinc 5 1, 3)), (74, (.goto (-67), 3)), (77, (.iload 4, 2)), (79, (.ireturn, 1))]
set_option maxRecDepth 100000 in
theorem dt_X9_besideBranch : (tb_X9_besideBranch.all fun q => decide (decode cX9_besideBranch q.1 = .ok q.2)) = true := by decide +kernel
set_option maxRecDepth 100000 in
set_option maxHeartbeats 4000000 in
theorem lp_L9_besideBranch_7 {Go : Nat → List (Option Value) → List Value → Mem → Prop} (hR : RS l G cy ad tt RX9 cX9_besideBranch 7 1 Go) {out : Int} {m : Mem} (hT : RT cX9_besideBranch (some (iv out)) (inR out) m (some .int) Go) {o : Nat} (hT0 : isTr o) {v1 : Int} {v2 : Int} {v3 : Int} (qv1 : inR v1) (qv2 : inR v2) (qv3 : inR v3) : ∀ (n : Nat) (v4 : Int) (v5 : Int), inR v4 → inR v5 → L9_besideBranch_7 m o v1 v2 v3 n v4 v5 = some out → Go 7 [some (.ref (ad o)), some (iv v1), some (iv v2), some (iv v3), some (iv v4), some (iv v5), none] [] m := by
  intro n
  induction n with
  | zero =>
    intro v4 v5 qv4 qv5 h
    cases h
  | succ n ih =>
    intro v4 v5 qv4 qv5 h
    rw [L9_besideBranch_7] at h
    refine r_iload (pc := 7) hR (dc dt_X9_besideBranch 4 rfl) rfl ?_
    refine r_iconst (pc := 9) hR (dc dt_X9_besideBranch 5 rfl) ?_
    refine r_icmp_ge (pc := 10) (tgt := 77) hR (dc dt_X9_besideBranch 6 rfl) (by decide) qv5 (rg_c rfl) (fun hc => ?_) (fun hc => ?_)
    · replace h := ite_t hc h
      refine r_iload (pc := 77) hR (dc dt_X9_besideBranch 49 rfl) rfl ?_
      exact r_iret hT (dc dt_X9_besideBranch 50 rfl) (Option.some.inj h) rfl qv4
    replace h := ite_f hc h
    refine r_aload_n (pc := 13) hR (dc dt_X9_besideBranch 7 rfl) rfl ?_
    refine r_getr (pc := 14) (k2 := o + 10) hR (dc dt_X9_besideBranch 8 rfl) fl_X9_39 hT0.1 rfl ?_
    refine r_iload_n (pc := 17) hR (dc dt_X9_besideBranch 9 rfl) rfl ?_
    refine r_iconst (pc := 18) hR (dc dt_X9_besideBranch 10 rfl) ?_
    refine r_imul (pc := 19) hR (dc dt_X9_besideBranch 11 rfl) ?_
    refine r_iload (pc := 20) hR (dc dt_X9_besideBranch 12 rfl) rfl ?_
    refine r_iadd (pc := 22) hR (dc dt_X9_besideBranch 13 rfl) ?_
    obtain ⟨g1, h⟩ := gd_some h
    refine r_iald (pc := 23) hR (dc dt_X9_besideBranch 14 rfl) (tr_10 hT0) g1 (w32_in _) ?_
    refine r_aload_n (pc := 24) hR (dc dt_X9_besideBranch 15 rfl) rfl ?_
    refine r_getr (pc := 25) (k2 := o + 9) hR (dc dt_X9_besideBranch 16 rfl) fl_X9_36 hT0.1 rfl ?_
    refine r_iload_n (pc := 28) hR (dc dt_X9_besideBranch 17 rfl) rfl ?_
    refine r_iconst (pc := 29) hR (dc dt_X9_besideBranch 18 rfl) ?_
    refine r_imul (pc := 30) hR (dc dt_X9_besideBranch 19 rfl) ?_
    refine r_iload (pc := 31) hR (dc dt_X9_besideBranch 20 rfl) rfl ?_
    refine r_iadd (pc := 33) hR (dc dt_X9_besideBranch 21 rfl) ?_
    obtain ⟨g1, h⟩ := gd_some h
    refine r_iald (pc := 34) hR (dc dt_X9_besideBranch 22 rfl) (tr_9 hT0) g1 (w32_in _) ?_
    refine r_iadd (pc := 35) hR (dc dt_X9_besideBranch 23 rfl) ?_
    refine r_aload_n (pc := 36) hR (dc dt_X9_besideBranch 24 rfl) rfl ?_
    refine r_getr (pc := 37) (k2 := o + 11) hR (dc dt_X9_besideBranch 25 rfl) fl_X9_42 hT0.1 rfl ?_
    refine r_iload_n (pc := 40) hR (dc dt_X9_besideBranch 26 rfl) rfl ?_
    refine r_iconst (pc := 41) hR (dc dt_X9_besideBranch 27 rfl) ?_
    refine r_imul (pc := 42) hR (dc dt_X9_besideBranch 28 rfl) ?_
    refine r_iload (pc := 43) hR (dc dt_X9_besideBranch 29 rfl) rfl ?_
    refine r_iadd (pc := 45) hR (dc dt_X9_besideBranch 30 rfl) ?_
    obtain ⟨g1, h⟩ := gd_some h
    refine r_iald (pc := 46) hR (dc dt_X9_besideBranch 31 rfl) (tr_11 hT0) g1 (w32_in _) ?_
    refine r_isub (pc := 47) hR (dc dt_X9_besideBranch 32 rfl) ?_
    refine r_istore (pc := 48) (L' := [some (.ref (ad o)), some (iv v1), some (iv v2), some (iv v3), some (iv v4), some (iv v5), some (iv (w32 ((w32 ((rd m (o + 10) (w32 ((w32 (v2 * 4)) + v5))) + (rd m (o + 9) (w32 ((w32 (v2 * 4)) + v5))))) - (rd m (o + 11) (w32 ((w32 (v1 * 4)) + v5))))))]) hR (dc dt_X9_besideBranch 33 rfl) (by decide) rfl rfl ?_
    refine r_iload (pc := 50) hR (dc dt_X9_besideBranch 34 rfl) rfl ?_
    refine r_iload (pc := 52) hR (dc dt_X9_besideBranch 35 rfl) rfl ?_
    refine r_aload_n (pc := 54) hR (dc dt_X9_besideBranch 36 rfl) rfl ?_
    refine r_getr (pc := 55) (k2 := o + 8) hR (dc dt_X9_besideBranch 37 rfl) fl_X9_33 hT0.1 rfl ?_
    refine r_iload (pc := 58) hR (dc dt_X9_besideBranch 38 rfl) rfl ?_
    refine r_iconst (pc := 60) hR (dc dt_X9_besideBranch 39 rfl) ?_
    refine r_imul (pc := 61) hR (dc dt_X9_besideBranch 40 rfl) ?_
    refine r_iload_n (pc := 62) hR (dc dt_X9_besideBranch 41 rfl) rfl ?_
    refine r_iadd (pc := 63) hR (dc dt_X9_besideBranch 42 rfl) ?_
    obtain ⟨g1, h⟩ := gd_some h
    refine r_iald (pc := 64) hR (dc dt_X9_besideBranch 43 rfl) (tr_8 hT0) g1 (w32_in _) ?_
    refine r_iadd (pc := 65) hR (dc dt_X9_besideBranch 44 rfl) ?_
    refine r_min (pc := 66) hR (dc dt_X9_besideBranch 45 rfl) mw_X9_80 qv4 (w32_in _) (Nat.le_of_ble_eq_true rfl) (by decide) ?_
    refine r_istore (pc := 69) (L' := [some (.ref (ad o)), some (iv v1), some (iv v2), some (iv v3), some (iv (imn v4 (w32 ((w32 ((w32 ((rd m (o + 10) (w32 ((w32 (v2 * 4)) + v5))) + (rd m (o + 9) (w32 ((w32 (v2 * 4)) + v5))))) - (rd m (o + 11) (w32 ((w32 (v1 * 4)) + v5))))) + (rd m (o + 8) (w32 ((w32 (v5 * 4)) + v3))))))), some (iv v5), some (iv (w32 ((w32 ((rd m (o + 10) (w32 ((w32 (v2 * 4)) + v5))) + (rd m (o + 9) (w32 ((w32 (v2 * 4)) + v5))))) - (rd m (o + 11) (w32 ((w32 (v1 * 4)) + v5))))))]) hR (dc dt_X9_besideBranch 46 rfl) (by decide) rfl rfl ?_
    refine r_iinc (pc := 71) (L' := [some (.ref (ad o)), some (iv v1), some (iv v2), some (iv v3), some (iv (imn v4 (w32 ((w32 ((w32 ((rd m (o + 10) (w32 ((w32 (v2 * 4)) + v5))) + (rd m (o + 9) (w32 ((w32 (v2 * 4)) + v5))))) - (rd m (o + 11) (w32 ((w32 (v1 * 4)) + v5))))) + (rd m (o + 8) (w32 ((w32 (v5 * 4)) + v3))))))), some (iv (w32 (v5 + 1))), some (iv (w32 ((w32 ((rd m (o + 10) (w32 ((w32 (v2 * 4)) + v5))) + (rd m (o + 9) (w32 ((w32 (v2 * 4)) + v5))))) - (rd m (o + 11) (w32 ((w32 (v1 * 4)) + v5))))))]) hR (dc dt_X9_besideBranch 47 rfl) rfl (by decide) rfl rfl ?_
    refine r_goto (pc := 74) (tgt := 7) hR (dc dt_X9_besideBranch 48 rfl) (by decide) ?_
    refine r_weak (L' := [some (.ref (ad o)), some (iv v1), some (iv v2), some (iv v3), some (iv (imn v4 (w32 ((w32 ((w32 ((rd m (o + 10) (w32 ((w32 (v2 * 4)) + v5))) + (rd m (o + 9) (w32 ((w32 (v2 * 4)) + v5))))) - (rd m (o + 11) (w32 ((w32 (v1 * 4)) + v5))))) + (rd m (o + 8) (w32 ((w32 (v5 * 4)) + v3))))))), some (iv (w32 (v5 + 1))), none]) hR ⟨Or.inr rfl, Or.inr rfl, Or.inr rfl, Or.inr rfl, Or.inr rfl, Or.inr rfl, Or.inl rfl, trivial⟩ ?_
    exact ih (imn v4 (w32 ((w32 ((w32 ((rd m (o + 10) (w32 ((w32 (v2 * 4)) + v5))) + (rd m (o + 9) (w32 ((w32 (v2 * 4)) + v5))))) - (rd m (o + 11) (w32 ((w32 (v1 * 4)) + v5))))) + (rd m (o + 8) (w32 ((w32 (v5 * 4)) + v3)))))) (w32 (v5 + 1)) (imn_in qv4 (w32_in _)) (w32_in _) h
set_option maxRecDepth 100000 in
set_option maxHeartbeats 4000000 in
theorem ok_F9_besideBranch {m : Mem} {o : Nat} {v1 v2 v3 : Int} (hT0 : isTr o) (q1 : inR v1) (q2 : inR v2) (q3 : inR v3) {out : Int} (h : F9_besideBranch m o v1 v2 v3 = some out) : CT l G cy ad tt yX9_besideBranch cX9_besideBranch 7 (some .int) 1 [.ref (ad o), iv v1, iv v2, iv v3] m (some (iv out)) (inR out) m := by
  refine CT_of (by decide) (Nat.le_of_ble_eq_true rfl) (fun Go hR hT => ?_)
  replace hR : RS l G cy ad tt RX9 cX9_besideBranch 7 1 Go := hR
  show Go 0 [some (.ref (ad o)), some (iv v1), some (iv v2), some (iv v3), none, none, none] [] m
  unfold F9_besideBranch at h
  refine r_ldc (pc := 0) hR (dc dt_X9_besideBranch 0 rfl) kw_X9_83 ?_
  refine r_istore (pc := 2) (L' := [some (.ref (ad o)), some (iv v1), some (iv v2), some (iv v3), some (iv 16777216), none, none]) hR (dc dt_X9_besideBranch 1 rfl) (by decide) rfl rfl ?_
  refine r_iconst (pc := 4) hR (dc dt_X9_besideBranch 2 rfl) ?_
  refine r_istore (pc := 5) (L' := [some (.ref (ad o)), some (iv v1), some (iv v2), some (iv v3), some (iv 16777216), some (iv 0), none]) hR (dc dt_X9_besideBranch 3 rfl) (by decide) rfl rfl ?_
  refine lp_L9_besideBranch_7 hR hT hT0 q1 q2 q3 FU 16777216 0 (rg_c rfl) (rg_c rfl) h
def tb_X9_spread : List (Nat × (Instr × Nat)) := [(0, (.iconst 0, 1)), (1, (.istore_n 1, 1)), (2, (.iload_n 1, 1)), (3, (.aload_n 0, 1)), (4, (.getfield 51, 3)), (7, (.if_icmp .ge 65, 3)), (10, (.aload_n 0, 1)), (11, (.getfield 30, 3)), (14, (.iload_n 1, 1)), (15, (.iaload, 1)), (16, (.istore_n 2, 1)), (17, (.aload_n 0, 1)), (18, (.getfield 9, 3)), (21, (.iload_n 2, 1)), (22, (.iaload, 1)), (23, (.istore_n 3, 1)), (24, (.iconst 0, 1)), (25, (.istore 4, 2)), (27, (.iload 4, 2)), (29, (.iconst 4, 1)), (30, (.if_icmp .ge 36, 3)), (33, (.aload_n 0, 1)), (34, (.getfield 39, 3)), (37, (.iload_n 2, 1)), (38, (.iconst 4, 1)), (39, (.imul, 1)), (40, (.iload 4, 2)), (42, (.iadd, 1)), (43, (.iload_n 3, 1)), (44, (.ifCond .ge 7, 3)), (47, (.iconst 0, 1)), (48, (.goto 11, 3)), (51, (.aload_n 0, 1)), (52, (.iload_n 2, 1)), (53, (.iload_n 3, 1)), (54, (.iload 4, 2)), (56, (.invokevirtual 91, 3)), (59, (.iastore, 1)), (60, (.iinc 4 1, 3)), (63, (.goto (-36), 3)), (66, (.iinc 1 1, 3)), (69, (.goto (-67), 3)), (72, (.return_, 1))]
set_option maxRecDepth 100000 in
theorem dt_X9_spread : (tb_X9_spread.all fun q => decide (decode cX9_spread q.1 = .ok q.2)) = true := by decide +kernel
set_option maxRecDepth 100000 in
set_option maxHeartbeats 4000000 in
theorem lp_L9_spread_27 {Go : Nat → List (Option Value) → List Value → Mem → Prop} (hR : RS l G cy ad tt RX9 cX9_spread 5 2 Go) {out : Mem} (hT : RT cX9_spread none True out none Go) {o : Nat} (hT0 : isTr o) {v1 : Int} {v2 : Int} {v3 : Int} (qv1 : inR v1) (qv2 : inR v2) (qv3 : inR v3) {k66 : Mem → Option Mem} (hk66 : ∀ (m : Mem), k66 m = some out → Go 66 [some (.ref (ad o)), some (iv v1), none, none, none] [] m) : ∀ (n : Nat) (v4 : Int) (m : Mem), inR v4 → L9_spread_27 o v2 v3 k66 n v4 m = some out → Go 27 [some (.ref (ad o)), some (iv v1), some (iv v2), some (iv v3), some (iv v4)] [] m := by
  intro n
  induction n with
  | zero =>
    intro v4 m qv4 h
    cases h
  | succ n ih =>
    intro v4 m qv4 h
    rw [L9_spread_27] at h
    refine r_iload (pc := 27) hR (dc dt_X9_spread 18 rfl) rfl ?_
    refine r_iconst (pc := 29) hR (dc dt_X9_spread 19 rfl) ?_
    refine r_icmp_ge (pc := 30) (tgt := 66) hR (dc dt_X9_spread 20 rfl) (by decide) qv4 (rg_c rfl) (fun hc => ?_) (fun hc => ?_)
    · replace h := ite_t hc h
      refine r_weak (L' := [some (.ref (ad o)), some (iv v1), none, none, none]) hR ⟨Or.inr rfl, Or.inr rfl, Or.inl rfl, Or.inl rfl, Or.inl rfl, trivial⟩ ?_
      exact hk66 m h
    replace h := ite_f hc h
    refine r_aload_n (pc := 33) hR (dc dt_X9_spread 21 rfl) rfl ?_
    refine r_getr (pc := 34) (k2 := o + 10) hR (dc dt_X9_spread 22 rfl) fl_X9_39 hT0.1 rfl ?_
    refine r_iload_n (pc := 37) hR (dc dt_X9_spread 23 rfl) rfl ?_
    refine r_iconst (pc := 38) hR (dc dt_X9_spread 24 rfl) ?_
    refine r_imul (pc := 39) hR (dc dt_X9_spread 25 rfl) ?_
    refine r_iload (pc := 40) hR (dc dt_X9_spread 26 rfl) rfl ?_
    refine r_iadd (pc := 42) hR (dc dt_X9_spread 27 rfl) ?_
    refine r_iload_n (pc := 43) hR (dc dt_X9_spread 28 rfl) rfl ?_
    refine jn_e h (fun (K : Int → Option Mem) => ∀ (x59 : Int), inR x59 → K x59 = some out → Go 59 [some (.ref (ad o)), some (iv v1), some (iv v2), some (iv v3), some (iv v4)] [iv x59, iv (w32 ((w32 (v2 * 4)) + v4)), .ref (ad (o + 10))] m) (fun x59 qx59 h => ?_) (fun K59 J59 h => ?_)
    · obtain ⟨g1, h⟩ := gd_some h
      refine r_iast (pc := 59) hR (dc dt_X9_spread 37 rfl) (tr_10 hT0) g1 (w32_in _) ?_
      replace h := stw_e h
      generalize wr m (o + 10) (w32 ((w32 (v2 * 4)) + v4)) x59 = m59 at h ⊢
      refine r_iinc (pc := 60) (L' := [some (.ref (ad o)), some (iv v1), some (iv v2), some (iv v3), some (iv (w32 (v4 + 1)))]) hR (dc dt_X9_spread 38 rfl) rfl (by decide) rfl rfl ?_
      refine r_goto (pc := 63) (tgt := 27) hR (dc dt_X9_spread 39 rfl) (by decide) ?_
      exact ih (w32 (v4 + 1)) m59 (w32_in _) h
    refine r_if_ge (pc := 44) (tgt := 51) hR (dc dt_X9_spread 29 rfl) (by decide) qv3 (fun hc => ?_) (fun hc => ?_)
    · replace h := ite_t hc h
      refine r_aload_n (pc := 51) hR (dc dt_X9_spread 32 rfl) rfl ?_
      refine r_iload_n (pc := 52) hR (dc dt_X9_spread 33 rfl) rfl ?_
      refine r_iload_n (pc := 53) hR (dc dt_X9_spread 34 rfl) rfl ?_
      refine r_iload (pc := 54) hR (dc dt_X9_spread 35 rfl) rfl ?_
      obtain ⟨r56, e56, h⟩ := b1_some h
      refine r_callV (pc := 56) (rest := [iv (w32 ((w32 (v2 * 4)) + v4)), .ref (ad (o + 10))]) hR (dc dt_X9_spread 36 rfl) cl_X9_91 hT0.1 rfl (ok_F9_besideBranch hT0 qv2 qv3 qv4 e56) (by decide) rfl (Nat.le_of_ble_eq_true rfl) rfl (fun q56r => ?_)
      show Go 59 [some (.ref (ad o)), some (iv v1), some (iv v2), some (iv v3), some (iv v4)] [iv r56, iv (w32 ((w32 (v2 * 4)) + v4)), .ref (ad (o + 10))] m
      exact J59 r56 q56r h
    replace h := ite_f hc h
    refine r_iconst (pc := 47) hR (dc dt_X9_spread 30 rfl) ?_
    refine r_goto (pc := 48) (tgt := 59) hR (dc dt_X9_spread 31 rfl) (by decide) ?_
    exact J59 0 (rg_c rfl) h
set_option maxRecDepth 100000 in
set_option maxHeartbeats 4000000 in
theorem lp_L9_spread_2 {Go : Nat → List (Option Value) → List Value → Mem → Prop} (hR : RS l G cy ad tt RX9 cX9_spread 5 2 Go) {out : Mem} (hT : RT cX9_spread none True out none Go) {o : Nat} (hT0 : isTr o) : ∀ (n : Nat) (v1 : Int) (m : Mem), inR v1 → L9_spread_2 o n v1 m = some out → Go 2 [some (.ref (ad o)), some (iv v1), none, none, none] [] m := by
  intro n
  induction n with
  | zero =>
    intro v1 m qv1 h
    cases h
  | succ n ih =>
    intro v1 m qv1 h
    rw [L9_spread_2] at h
    refine r_iload_n (pc := 2) hR (dc dt_X9_spread 2 rfl) rfl ?_
    refine r_aload_n (pc := 3) hR (dc dt_X9_spread 3 rfl) rfl ?_
    refine r_geti (pc := 4) hR (dc dt_X9_spread 4 rfl) fl_X9_51 hT0.1 rfl ?_
    refine r_icmp_ge (pc := 7) (tgt := 72) hR (dc dt_X9_spread 5 rfl) (by decide) qv1 (rd_in _ _ _) (fun hc => ?_) (fun hc => ?_)
    · replace h := ite_t hc h
      exact r_vret hT (dc dt_X9_spread 42 rfl) (Option.some.inj h)
    replace h := ite_f hc h
    refine r_aload_n (pc := 10) hR (dc dt_X9_spread 6 rfl) rfl ?_
    refine r_getr (pc := 11) (k2 := o + 7) hR (dc dt_X9_spread 7 rfl) fl_X9_30 hT0.1 rfl ?_
    refine r_iload_n (pc := 14) hR (dc dt_X9_spread 8 rfl) rfl ?_
    obtain ⟨g1, h⟩ := gd_some h
    refine r_iald (pc := 15) hR (dc dt_X9_spread 9 rfl) (tr_7 hT0) g1 qv1 ?_
    refine r_istore_n (pc := 16) (L' := [some (.ref (ad o)), some (iv v1), some (iv (rd m (o + 7) v1)), none, none]) hR (dc dt_X9_spread 10 rfl) (by decide) rfl rfl ?_
    refine r_aload_n (pc := 17) hR (dc dt_X9_spread 11 rfl) rfl ?_
    refine r_getr (pc := 18) (k2 := o + 1) hR (dc dt_X9_spread 12 rfl) fl_X9_9 hT0.1 rfl ?_
    refine r_iload_n (pc := 21) hR (dc dt_X9_spread 13 rfl) rfl ?_
    obtain ⟨g1, h⟩ := gd_some h
    refine r_iald (pc := 22) hR (dc dt_X9_spread 14 rfl) (tr_1 hT0) g1 (rd_in _ _ _) ?_
    refine r_istore_n (pc := 23) (L' := [some (.ref (ad o)), some (iv v1), some (iv (rd m (o + 7) v1)), some (iv (rd m (o + 1) (rd m (o + 7) v1))), none]) hR (dc dt_X9_spread 15 rfl) (by decide) rfl rfl ?_
    refine r_iconst (pc := 24) hR (dc dt_X9_spread 16 rfl) ?_
    refine r_istore (pc := 25) (L' := [some (.ref (ad o)), some (iv v1), some (iv (rd m (o + 7) v1)), some (iv (rd m (o + 1) (rd m (o + 7) v1))), some (iv 0)]) hR (dc dt_X9_spread 17 rfl) (by decide) rfl rfl ?_
    refine lp_L9_spread_27 hR hT hT0 qv1 (rd_in _ _ _) (rd_in _ _ _) (fun m_66 h => ?_) FU 0 m (rg_c rfl) h
    show Go 66 [some (.ref (ad o)), some (iv v1), none, none, none] [] m_66
    refine r_iinc (pc := 66) (L' := [some (.ref (ad o)), some (iv (w32 (v1 + 1))), none, none, none]) hR (dc dt_X9_spread 40 rfl) rfl (by decide) rfl rfl ?_
    refine r_goto (pc := 69) (tgt := 2) hR (dc dt_X9_spread 41 rfl) (by decide) ?_
    exact ih (w32 (v1 + 1)) m_66 (w32_in _) h
set_option maxRecDepth 100000 in
set_option maxHeartbeats 4000000 in
theorem ok_F9_spread {m : Mem} {o : Nat} (hT0 : isTr o) {out : Mem} (h : F9_spread m o = some out) : CT l G cy ad tt yX9_spread cX9_spread 5 none 2 [.ref (ad o)] m none True out := by
  refine CT_of (by decide) (Nat.le_of_ble_eq_true rfl) (fun Go hR hT => ?_)
  replace hR : RS l G cy ad tt RX9 cX9_spread 5 2 Go := hR
  show Go 0 [some (.ref (ad o)), none, none, none, none] [] m
  unfold F9_spread at h
  refine r_iconst (pc := 0) hR (dc dt_X9_spread 0 rfl) ?_
  refine r_istore_n (pc := 1) (L' := [some (.ref (ad o)), some (iv 0), none, none, none]) hR (dc dt_X9_spread 1 rfl) (by decide) rfl rfl ?_
  refine lp_L9_spread_2 hR hT hT0 FU 0 m (rg_c rfl) h
def tb_X9_maybe : List (Nat × (Instr × Nat)) := [(0, (.ldc 83, 2)), (2, (.istore_n 2, 1)), (3, (.iconst 0, 1)), (4, (.istore_n 3, 1)), (5, (.iconst 0, 1)), (6, (.istore 4, 2)), (8, (.iload 4, 2)), (10, (.iconst 4, 1)), (11, (.if_icmp .ge 58, 3)), (14, (.aload_n 0, 1)), (15, (.getfield 36, 3)), (18, (.iload_n 1, 1)), (19, (.iconst 4, 1)), (20, (.imul, 1)), (21, (.iload 4, 2)), (23, (.iadd, 1)), (24, (.iaload, 1)), (25, (.aload_n 0, 1)), (26, (.getfield 39, 3)), (29, (.iload_n 1, 1)), (30, (.iconst 4, 1)), (31, (.imul, 1)), (32, (.iload 4, 2)), (34, (.iadd, 1)), (35, (.iaload, 1)), (36, (.iadd, 1)), (37, (.istore 5, 2)), (39, (.iload 5, 2)), (41, (.iload_n 2, 1)), (42, (.if_icmp .ge 8, 3)), (45, (.iload 5, 2)), (47, (.istore_n 2, 1)), (48, (.iconst 0, 1)), (49, (.istore_n 3, 1)), (50, (.iload 5, 2)), (52, (.iload_n 2, 1)), (53, (.if_icmp .ne 10, 3)), (56, (.iload_n 3, 1)), (57, (.iconst 1, 1)), (58, (.iload 4, 2)), (60, (.ishl, 1)), (61, (.ior, 1)), (62, (.istore_n 3, 1)), (63, (.iinc 4 1, 3)), (66, (.goto (-58), 3)), (69, (.iload_n 3, 1)), (70, (.ireturn, 1))]
set_option maxRecDepth 100000 in
theorem dt_X9_maybe : (tb_X9_maybe.all fun q => decide (decode cX9_maybe q.1 = .ok q.2)) = true := by decide +kernel
set_option maxRecDepth 100000 in
set_option maxHeartbeats 4000000 in
theorem lp_L9_maybe_8 {Go : Nat → List (Option Value) → List Value → Mem → Prop} (hR : RS l G cy ad tt RX9 cX9_maybe 6 0 Go) {out : Int} {m : Mem} (hT : RT cX9_maybe (some (iv out)) (inR out) m (some .int) Go) {o : Nat} (hT0 : isTr o) {v1 : Int} (qv1 : inR v1) : ∀ (n : Nat) (v2 : Int) (v3 : Int) (v4 : Int), inR v2 → inR v3 → inR v4 → L9_maybe_8 m o v1 n v2 v3 v4 = some out → Go 8 [some (.ref (ad o)), some (iv v1), some (iv v2), some (iv v3), some (iv v4), none] [] m := by
  intro n
  induction n with
  | zero =>
    intro v2 v3 v4 qv2 qv3 qv4 h
    cases h
  | succ n ih =>
    intro v2 v3 v4 qv2 qv3 qv4 h
    rw [L9_maybe_8] at h
    refine r_iload (pc := 8) hR (dc dt_X9_maybe 6 rfl) rfl ?_
    refine r_iconst (pc := 10) hR (dc dt_X9_maybe 7 rfl) ?_
    refine r_icmp_ge (pc := 11) (tgt := 69) hR (dc dt_X9_maybe 8 rfl) (by decide) qv4 (rg_c rfl) (fun hc => ?_) (fun hc => ?_)
    · replace h := ite_t hc h
      refine r_iload_n (pc := 69) hR (dc dt_X9_maybe 45 rfl) rfl ?_
      exact r_iret hT (dc dt_X9_maybe 46 rfl) (Option.some.inj h) rfl qv3
    replace h := ite_f hc h
    refine r_aload_n (pc := 14) hR (dc dt_X9_maybe 9 rfl) rfl ?_
    refine r_getr (pc := 15) (k2 := o + 9) hR (dc dt_X9_maybe 10 rfl) fl_X9_36 hT0.1 rfl ?_
    refine r_iload_n (pc := 18) hR (dc dt_X9_maybe 11 rfl) rfl ?_
    refine r_iconst (pc := 19) hR (dc dt_X9_maybe 12 rfl) ?_
    refine r_imul (pc := 20) hR (dc dt_X9_maybe 13 rfl) ?_
    refine r_iload (pc := 21) hR (dc dt_X9_maybe 14 rfl) rfl ?_
    refine r_iadd (pc := 23) hR (dc dt_X9_maybe 15 rfl) ?_
    obtain ⟨g1, h⟩ := gd_some h
    refine r_iald (pc := 24) hR (dc dt_X9_maybe 16 rfl) (tr_9 hT0) g1 (w32_in _) ?_
    refine r_aload_n (pc := 25) hR (dc dt_X9_maybe 17 rfl) rfl ?_
    refine r_getr (pc := 26) (k2 := o + 10) hR (dc dt_X9_maybe 18 rfl) fl_X9_39 hT0.1 rfl ?_
    refine r_iload_n (pc := 29) hR (dc dt_X9_maybe 19 rfl) rfl ?_
    refine r_iconst (pc := 30) hR (dc dt_X9_maybe 20 rfl) ?_
    refine r_imul (pc := 31) hR (dc dt_X9_maybe 21 rfl) ?_
    refine r_iload (pc := 32) hR (dc dt_X9_maybe 22 rfl) rfl ?_
    refine r_iadd (pc := 34) hR (dc dt_X9_maybe 23 rfl) ?_
    obtain ⟨g1, h⟩ := gd_some h
    refine r_iald (pc := 35) hR (dc dt_X9_maybe 24 rfl) (tr_10 hT0) g1 (w32_in _) ?_
    refine r_iadd (pc := 36) hR (dc dt_X9_maybe 25 rfl) ?_
    refine r_istore (pc := 37) (L' := [some (.ref (ad o)), some (iv v1), some (iv v2), some (iv v3), some (iv v4), some (iv (w32 ((rd m (o + 9) (w32 ((w32 (v1 * 4)) + v4))) + (rd m (o + 10) (w32 ((w32 (v1 * 4)) + v4))))))]) hR (dc dt_X9_maybe 26 rfl) (by decide) rfl rfl ?_
    refine r_iload (pc := 39) hR (dc dt_X9_maybe 27 rfl) rfl ?_
    refine r_iload_n (pc := 41) hR (dc dt_X9_maybe 28 rfl) rfl ?_
    refine jn_e h (fun (K : Int → Int → Option Int) => ∀ (v2_50 : Int) (v3_50 : Int), inR v2_50 → inR v3_50 → K v2_50 v3_50 = some out → Go 50 [some (.ref (ad o)), some (iv v1), some (iv v2_50), some (iv v3_50), some (iv v4), some (iv (w32 ((rd m (o + 9) (w32 ((w32 (v1 * 4)) + v4))) + (rd m (o + 10) (w32 ((w32 (v1 * 4)) + v4))))))] [] m) (fun v2_50 v3_50 qv2_50 qv3_50 h => ?_) (fun K50 J50 h => ?_)
    · refine r_iload (pc := 50) hR (dc dt_X9_maybe 34 rfl) rfl ?_
      refine r_iload_n (pc := 52) hR (dc dt_X9_maybe 35 rfl) rfl ?_
      refine jn_e h (fun (K : Int → Option Int) => ∀ (v3_63 : Int), inR v3_63 → K v3_63 = some out → Go 63 [some (.ref (ad o)), some (iv v1), some (iv v2_50), some (iv v3_63), some (iv v4), none] [] m) (fun v3_63 qv3_63 h => ?_) (fun K63 J63 h => ?_)
      · refine r_iinc (pc := 63) (L' := [some (.ref (ad o)), some (iv v1), some (iv v2_50), some (iv v3_63), some (iv (w32 (v4 + 1))), none]) hR (dc dt_X9_maybe 43 rfl) rfl (by decide) rfl rfl ?_
        refine r_goto (pc := 66) (tgt := 8) hR (dc dt_X9_maybe 44 rfl) (by decide) ?_
        exact ih v2_50 v3_63 (w32 (v4 + 1)) qv2_50 qv3_63 (w32_in _) h
      refine r_icmp_ne (pc := 53) (tgt := 63) hR (dc dt_X9_maybe 36 rfl) (by decide) (w32_in _) qv2_50 (fun hc => ?_) (fun hc => ?_)
      · replace h := ite_t hc h
        refine r_weak (L' := [some (.ref (ad o)), some (iv v1), some (iv v2_50), some (iv v3_50), some (iv v4), none]) hR ⟨Or.inr rfl, Or.inr rfl, Or.inr rfl, Or.inr rfl, Or.inr rfl, Or.inl rfl, trivial⟩ ?_
        exact J63 v3_50 qv3_50 h
      replace h := ite_f hc h
      refine r_iload_n (pc := 56) hR (dc dt_X9_maybe 37 rfl) rfl ?_
      refine r_iconst (pc := 57) hR (dc dt_X9_maybe 38 rfl) ?_
      refine r_iload (pc := 58) hR (dc dt_X9_maybe 39 rfl) rfl ?_
      refine r_ishl (pc := 60) hR (dc dt_X9_maybe 40 rfl) ?_
      refine r_ior (pc := 61) hR (dc dt_X9_maybe 41 rfl) ?_
      refine r_istore_n (pc := 62) (L' := [some (.ref (ad o)), some (iv v1), some (iv v2_50), some (iv (bor v3_50 (shl 1 v4))), some (iv v4), some (iv (w32 ((rd m (o + 9) (w32 ((w32 (v1 * 4)) + v4))) + (rd m (o + 10) (w32 ((w32 (v1 * 4)) + v4))))))]) hR (dc dt_X9_maybe 42 rfl) (by decide) rfl rfl ?_
      refine r_weak (L' := [some (.ref (ad o)), some (iv v1), some (iv v2_50), some (iv (bor v3_50 (shl 1 v4))), some (iv v4), none]) hR ⟨Or.inr rfl, Or.inr rfl, Or.inr rfl, Or.inr rfl, Or.inr rfl, Or.inl rfl, trivial⟩ ?_
      exact J63 (bor v3_50 (shl 1 v4)) (ti_in _) h
    refine r_icmp_ge (pc := 42) (tgt := 50) hR (dc dt_X9_maybe 29 rfl) (by decide) (w32_in _) qv2 (fun hc => ?_) (fun hc => ?_)
    · replace h := ite_t hc h
      exact J50 v2 v3 qv2 qv3 h
    replace h := ite_f hc h
    refine r_iload (pc := 45) hR (dc dt_X9_maybe 30 rfl) rfl ?_
    refine r_istore_n (pc := 47) (L' := [some (.ref (ad o)), some (iv v1), some (iv (w32 ((rd m (o + 9) (w32 ((w32 (v1 * 4)) + v4))) + (rd m (o + 10) (w32 ((w32 (v1 * 4)) + v4)))))), some (iv v3), some (iv v4), some (iv (w32 ((rd m (o + 9) (w32 ((w32 (v1 * 4)) + v4))) + (rd m (o + 10) (w32 ((w32 (v1 * 4)) + v4))))))]) hR (dc dt_X9_maybe 31 rfl) (by decide) rfl rfl ?_
    refine r_iconst (pc := 48) hR (dc dt_X9_maybe 32 rfl) ?_
    refine r_istore_n (pc := 49) (L' := [some (.ref (ad o)), some (iv v1), some (iv (w32 ((rd m (o + 9) (w32 ((w32 (v1 * 4)) + v4))) + (rd m (o + 10) (w32 ((w32 (v1 * 4)) + v4)))))), some (iv 0), some (iv v4), some (iv (w32 ((rd m (o + 9) (w32 ((w32 (v1 * 4)) + v4))) + (rd m (o + 10) (w32 ((w32 (v1 * 4)) + v4))))))]) hR (dc dt_X9_maybe 33 rfl) (by decide) rfl rfl ?_
    exact J50 (w32 ((rd m (o + 9) (w32 ((w32 (v1 * 4)) + v4))) + (rd m (o + 10) (w32 ((w32 (v1 * 4)) + v4))))) 0 (w32_in _) (rg_c rfl) h
set_option maxRecDepth 100000 in
set_option maxHeartbeats 4000000 in
theorem ok_F9_maybe {m : Mem} {o : Nat} {v1 : Int} (hT0 : isTr o) (q1 : inR v1) {out : Int} (h : F9_maybe m o v1 = some out) : CT l G cy ad tt yX9_maybe cX9_maybe 6 (some .int) 0 [.ref (ad o), iv v1] m (some (iv out)) (inR out) m := by
  refine CT_of (by decide) (Nat.le_of_ble_eq_true rfl) (fun Go hR hT => ?_)
  replace hR : RS l G cy ad tt RX9 cX9_maybe 6 0 Go := hR
  show Go 0 [some (.ref (ad o)), some (iv v1), none, none, none, none] [] m
  unfold F9_maybe at h
  refine r_ldc (pc := 0) hR (dc dt_X9_maybe 0 rfl) kw_X9_83 ?_
  refine r_istore_n (pc := 2) (L' := [some (.ref (ad o)), some (iv v1), some (iv 16777216), none, none, none]) hR (dc dt_X9_maybe 1 rfl) (by decide) rfl rfl ?_
  refine r_iconst (pc := 3) hR (dc dt_X9_maybe 2 rfl) ?_
  refine r_istore_n (pc := 4) (L' := [some (.ref (ad o)), some (iv v1), some (iv 16777216), some (iv 0), none, none]) hR (dc dt_X9_maybe 3 rfl) (by decide) rfl rfl ?_
  refine r_iconst (pc := 5) hR (dc dt_X9_maybe 4 rfl) ?_
  refine r_istore (pc := 6) (L' := [some (.ref (ad o)), some (iv v1), some (iv 16777216), some (iv 0), some (iv 0), none]) hR (dc dt_X9_maybe 5 rfl) (by decide) rfl rfl ?_
  refine lp_L9_maybe_8 hR hT hT0 q1 FU 16777216 0 0 (rg_c rfl) (rg_c rfl) (rg_c rfl) h
end SIM
