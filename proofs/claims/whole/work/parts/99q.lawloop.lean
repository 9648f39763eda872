/-! the law's loop -/
section LAWQ
variable {p : Program} {l : Launch} {e : Env} {R : Room} {s : State} {mt : MethodId} {args : Array Value} {below : List Frame} {meth : Method} {c : Code} {Q : State → Prop} {G : va_G} {cy ad tt : Nat → Nat} {nL cN sN : Nat} {Go : Nat → List (Option Value) → List Value → Mem → Prop} {b : Nat} {Lz : Int} {X : Int → Int}
def XS (xs : Nat → Int32) (j : Int) : Int := (xs j.toNat).toInt
theorem XS_in (xs : Nat → Int32) (j : Int) : inR (XS xs j) := ti_in _
theorem sld_ok {L : Nat} {xs : Nat → Int32} (hx : p.tables.exec = Jvm.exec) (hb : c.code = cL_law) (hX : va_X b L xs s s.heap) (hbl : b < s.heap.size) (hbA : ¬ AD ad b) (hL : L ≤ 384) : SLD (GO G cy ad p l e R s mt args below meth c nL cN sN Q) b (L : Int) (XS xs) := by
  intro pc L' st m j hd h0 hl k H locs ls hLH hP hS
  have hr : inR j := ⟨by omega, by omega⟩
  refine va_sld hx hb hX hbl hbA hS (i := Int32.ofInt j) (oi_in ⟨h0, hl⟩ hr) hd ?_
  have e1 : (Int32.ofInt j).toNatClampNeg = j.toNat := by have := oi_cl h0 hr; omega
  have e2 : Value.int (xs (Int32.ofInt j).toNatClampNeg) = iv (XS xs j) := by
    unfold iv XS
    rw [e1, Int32.ofInt_toInt]
  rw [e2]
  exact k H locs ls hLH hP hS
def SLN (Go : Nat → List (Option Value) → List Value → Mem → Prop) (b : Nat) (Lz : Int) : Prop := ∀ {pc : Nat} {L : List (Option Value)} {st : List Value} {m : Mem}, decode cL_law pc = .ok (.arraylength, 1) → Go (pc + 1) L (iv Lz :: st) m → Go pc L (.ref b :: st) m
theorem sln_ok {L : Nat} {xs : Nat → Int32} (hx : p.tables.exec = Jvm.exec) (hb : c.code = cL_law) (hX : va_X b L xs s s.heap) (hbl : b < s.heap.size) (hbA : ¬ AD ad b) : SLN (GO G cy ad p l e R s mt args below meth c nL cN sN Q) b (L : Int) := by
  intro pc L' st m hd k H locs ls hLH hP hS
  refine va_slen hx hb hX hbl hbA hS hd ?_
  have e2 : Value.int (Int32.ofNat L) = iv (L : Int) := by
    unfold iv
    rw [Int32.ofInt_eq_ofNat]
  rw [e2]
  exact k H locs ls hLH hP hS
set_option maxRecDepth 20000 in
theorem law_tab (hR : RS l G cy ad tt RL cL_law 4 1000 Go) (hS : SLD Go b Lz X) {i : Int} (hi : 0 ≤ i) (hl : i + 6 ≤ Lz) (hz : Lz ≤ 384) (hX : ∀ j, inR (X j)) {n : Nat} {m : Mem} (hI : Inv n m) (hn : n < 100000000) (kk : ∀ m2, Inv (n + 1) m2 → Go 1419 (LK b ad i) [] m2) {v : Int} (hv : inR v) : Go 33 (LK b ad i) [iv v] m := by
  by_cases h0 : v < 0
  · exact r_tabOut (pc := 33) (tgt := 1419) hR (dc dt_Lz 21 rfl) hv (Or.inl h0) (by decide) (kk m (Inv_mono (by omega) hI))
  by_cases h1 : 39 < v
  · exact r_tabOut (pc := 33) (tgt := 1419) hR (dc dt_Lz 21 rfl) hv (Or.inr h1) (by decide) (kk m (Inv_mono (by omega) hI))
  obtain ⟨t, ht⟩ : ∃ t : Nat, v = (t : Int) := ⟨v.toNat, by omega⟩
  subst ht
  have ht : t < 40 := by omega
  match t, hv, h0, h1, ht with
  | 0, hv, _, _, _ => exact r_tabIn (pc := 33) (tgt := 208) (off := 175) hR (dc dt_Lz 21 rfl) hv (by decide) (by decide) rfl (by decide) (lc_0 hR hS hi hl hz hX hI hn kk)
  | 1, hv, _, _, _ => exact r_tabIn (pc := 33) (tgt := 241) (off := 208) hR (dc dt_Lz 21 rfl) hv (by decide) (by decide) rfl (by decide) (lc_1 hR hS hi hl hz hX hI hn kk)
  | 2, hv, _, _, _ => exact r_tabIn (pc := 33) (tgt := 254) (off := 221) hR (dc dt_Lz 21 rfl) hv (by decide) (by decide) rfl (by decide) (lc_2 hR hS hi hl hz hX hI hn kk)
  | 3, hv, _, _, _ => exact r_tabIn (pc := 33) (tgt := 267) (off := 234) hR (dc dt_Lz 21 rfl) hv (by decide) (by decide) rfl (by decide) (lc_3 hR hS hi hl hz hX hI hn kk)
  | 4, hv, _, _, _ => exact r_tabIn (pc := 33) (tgt := 300) (off := 267) hR (dc dt_Lz 21 rfl) hv (by decide) (by decide) rfl (by decide) (lc_4 hR hS hi hl hz hX hI hn kk)
  | 5, hv, _, _, _ => exact r_tabIn (pc := 33) (tgt := 343) (off := 310) hR (dc dt_Lz 21 rfl) hv (by decide) (by decide) rfl (by decide) (lc_5 hR hS hi hl hz hX hI hn kk)
  | 6, hv, _, _, _ => exact r_tabIn (pc := 33) (tgt := 396) (off := 363) hR (dc dt_Lz 21 rfl) hv (by decide) (by decide) rfl (by decide) (lc_6 hR hS hi hl hz hX hI hn kk)
  | 7, hv, _, _, _ => exact r_tabIn (pc := 33) (tgt := 429) (off := 396) hR (dc dt_Lz 21 rfl) hv (by decide) (by decide) rfl (by decide) (lc_7 hR hS hi hl hz hX hI hn kk)
  | 8, hv, _, _, _ => exact r_tabIn (pc := 33) (tgt := 472) (off := 439) hR (dc dt_Lz 21 rfl) hv (by decide) (by decide) rfl (by decide) (lc_8 hR hS hi hl hz hX hI hn kk)
  | 9, hv, _, _, _ => exact r_tabIn (pc := 33) (tgt := 505) (off := 472) hR (dc dt_Lz 21 rfl) hv (by decide) (by decide) rfl (by decide) (lc_9 hR hS hi hl hz hX hI hn kk)
  | 10, hv, _, _, _ => exact r_tabIn (pc := 33) (tgt := 528) (off := 495) hR (dc dt_Lz 21 rfl) hv (by decide) (by decide) rfl (by decide) (lc_10 hR hS hi hl hz hX hI hn kk)
  | 11, hv, _, _, _ => exact r_tabIn (pc := 33) (tgt := 561) (off := 528) hR (dc dt_Lz 21 rfl) hv (by decide) (by decide) rfl (by decide) (lc_11 hR hS hi hl hz hX hI hn kk)
  | 12, hv, _, _, _ => exact r_tabIn (pc := 33) (tgt := 594) (off := 561) hR (dc dt_Lz 21 rfl) hv (by decide) (by decide) rfl (by decide) (lc_12 hR hS hi hl hz hX hI hn kk)
  | 13, hv, _, _, _ => exact r_tabIn (pc := 33) (tgt := 617) (off := 584) hR (dc dt_Lz 21 rfl) hv (by decide) (by decide) rfl (by decide) (lc_13 hR hS hi hl hz hX hI hn kk)
  | 14, hv, _, _, _ => exact r_tabIn (pc := 33) (tgt := 630) (off := 597) hR (dc dt_Lz 21 rfl) hv (by decide) (by decide) rfl (by decide) (lc_14 hR hS hi hl hz hX hI hn kk)
  | 15, hv, _, _, _ => exact r_tabIn (pc := 33) (tgt := 653) (off := 620) hR (dc dt_Lz 21 rfl) hv (by decide) (by decide) rfl (by decide) (lc_15 hR hS hi hl hz hX hI hn kk)
  | 16, hv, _, _, _ => exact r_tabIn (pc := 33) (tgt := 686) (off := 653) hR (dc dt_Lz 21 rfl) hv (by decide) (by decide) rfl (by decide) (lc_16 hR hS hi hl hz hX hI hn kk)
  | 17, hv, _, _, _ => exact r_tabIn (pc := 33) (tgt := 709) (off := 676) hR (dc dt_Lz 21 rfl) hv (by decide) (by decide) rfl (by decide) (lc_17 hR hS hi hl hz hX hI hn kk)
  | 18, hv, _, _, _ => exact r_tabIn (pc := 33) (tgt := 732) (off := 699) hR (dc dt_Lz 21 rfl) hv (by decide) (by decide) rfl (by decide) (lc_18 hR hS hi hl hz hX hI hn kk)
  | 19, hv, _, _, _ => exact r_tabIn (pc := 33) (tgt := 755) (off := 722) hR (dc dt_Lz 21 rfl) hv (by decide) (by decide) rfl (by decide) (lc_19 hR hS hi hl hz hX hI hn kk)
  | 20, hv, _, _, _ => exact r_tabIn (pc := 33) (tgt := 788) (off := 755) hR (dc dt_Lz 21 rfl) hv (by decide) (by decide) rfl (by decide) (lc_20 hR hS hi hl hz hX hI hn kk)
  | 21, hv, _, _, _ => exact r_tabIn (pc := 33) (tgt := 811) (off := 778) hR (dc dt_Lz 21 rfl) hv (by decide) (by decide) rfl (by decide) (lc_21 hR hS hi hl hz hX hI hn kk)
  | 22, hv, _, _, _ => exact r_tabIn (pc := 33) (tgt := 824) (off := 791) hR (dc dt_Lz 21 rfl) hv (by decide) (by decide) rfl (by decide) (lc_22 hR hS hi hl hz hX hI hn kk)
  | 23, hv, _, _, _ => exact r_tabIn (pc := 33) (tgt := 847) (off := 814) hR (dc dt_Lz 21 rfl) hv (by decide) (by decide) rfl (by decide) (lc_23 hR hS hi hl hz hX hI hn kk)
  | 24, hv, _, _, _ => exact r_tabIn (pc := 33) (tgt := 880) (off := 847) hR (dc dt_Lz 21 rfl) hv (by decide) (by decide) rfl (by decide) (lc_24 hR hS hi hl hz hX hI hn kk)
  | 25, hv, _, _, _ => exact r_tabIn (pc := 33) (tgt := 913) (off := 880) hR (dc dt_Lz 21 rfl) hv (by decide) (by decide) rfl (by decide) (lc_25 hR hS hi hl hz hX hI hn kk)
  | 26, hv, _, _, _ => exact r_tabIn (pc := 33) (tgt := 946) (off := 913) hR (dc dt_Lz 21 rfl) hv (by decide) (by decide) rfl (by decide) (lc_26 hR hS hi hl hz hX hI hn kk)
  | 27, hv, _, _, _ => exact r_tabIn (pc := 33) (tgt := 979) (off := 946) hR (dc dt_Lz 21 rfl) hv (by decide) (by decide) rfl (by decide) (lc_27 hR hS hi hl hz hX hI hn kk)
  | 28, hv, _, _, _ => exact r_tabIn (pc := 33) (tgt := 992) (off := 959) hR (dc dt_Lz 21 rfl) hv (by decide) (by decide) rfl (by decide) (lc_28 hR hS hi hl hz hX hI hn kk)
  | 29, hv, _, _, _ => exact r_tabIn (pc := 33) (tgt := 1005) (off := 972) hR (dc dt_Lz 21 rfl) hv (by decide) (by decide) rfl (by decide) (lc_29 hR hS hi hl hz hX hI hn kk)
  | 30, hv, _, _, _ => exact r_tabIn (pc := 33) (tgt := 1018) (off := 985) hR (dc dt_Lz 21 rfl) hv (by decide) (by decide) rfl (by decide) (lc_30 hR hS hi hl hz hX hI hn kk)
  | 31, hv, _, _, _ => exact r_tabIn (pc := 33) (tgt := 1051) (off := 1018) hR (dc dt_Lz 21 rfl) hv (by decide) (by decide) rfl (by decide) (lc_31 hR hS hi hl hz hX hI hn kk)
  | 32, hv, _, _, _ => exact r_tabIn (pc := 33) (tgt := 1094) (off := 1061) hR (dc dt_Lz 21 rfl) hv (by decide) (by decide) rfl (by decide) (lc_32 hR hS hi hl hz hX hI hn kk)
  | 33, hv, _, _, _ => exact r_tabIn (pc := 33) (tgt := 1117) (off := 1084) hR (dc dt_Lz 21 rfl) hv (by decide) (by decide) rfl (by decide) (lc_33 hR hS hi hl hz hX hI hn kk)
  | 34, hv, _, _, _ => exact r_tabIn (pc := 33) (tgt := 1150) (off := 1117) hR (dc dt_Lz 21 rfl) hv (by decide) (by decide) rfl (by decide) (lc_34 hR hS hi hl hz hX hI hn kk)
  | 35, hv, _, _, _ => exact r_tabIn (pc := 33) (tgt := 1193) (off := 1160) hR (dc dt_Lz 21 rfl) hv (by decide) (by decide) rfl (by decide) (lc_35 hR hS hi hl hz hX hI hn kk)
  | 36, hv, _, _, _ => exact r_tabIn (pc := 33) (tgt := 1266) (off := 1233) hR (dc dt_Lz 21 rfl) hv (by decide) (by decide) rfl (by decide) (lc_36 hR hS hi hl hz hX hI hn kk)
  | 37, hv, _, _, _ => exact r_tabIn (pc := 33) (tgt := 1300) (off := 1267) hR (dc dt_Lz 21 rfl) hv (by decide) (by decide) rfl (by decide) (lc_37 hR hS hi hl hz hX hI hn kk)
  | 38, hv, _, _, _ => exact r_tabIn (pc := 33) (tgt := 1363) (off := 1330) hR (dc dt_Lz 21 rfl) hv (by decide) (by decide) rfl (by decide) (lc_38 hR hS hi hl hz hX hI hn kk)
  | 39, hv, _, _, _ => exact r_tabIn (pc := 33) (tgt := 1396) (off := 1363) hR (dc dt_Lz 21 rfl) hv (by decide) (by decide) rfl (by decide) (lc_39 hR hS hi hl hz hX hI hn kk)
  | t + 40, _, _, _, ht => exact absurd ht (by omega)
theorem law_loop (hR : RS l G cy ad tt RL cL_law 4 1000 Go) (hS : SLD Go b Lz X) (hN : SLN Go b Lz) (hz0 : 0 ≤ Lz) (hz : Lz ≤ 384) (hX : ∀ j, inR (X j)) (he : ∀ i m, Go 1425 (LK b ad i) [] m) : ∀ (d n : Nat) (m : Mem), Inv n m → n ≤ 64 → Lz ≤ 6 * ((n : Int) + (d : Int)) → Go 18 (LK b ad (6 * (n : Int))) [] m := by
  intro d
  induction d with
  | zero =>
    intro n m hI hn hd
    refine r_iload_n (pc := 18) (x := 6 * (n : Int)) hR (dc dt_Lz 10 rfl) rfl ?_
    refine r_aload_n (pc := 19) (x := b) hR (dc dt_Lz 11 rfl) rfl ?_
    refine hN (pc := 20) (dc dt_Lz 12 rfl) ?_
    refine r_bipush (pc := 21) (n := 6) hR (dc dt_Lz 13 rfl) (by decide) ?_
    refine r_isub (pc := 23) hR (dc dt_Lz 14 rfl) ?_
    rw [w32_id (x := Lz - 6) (by omega) (by omega)]
    exact r_icmp_gt (pc := 24) (tgt := 1425) hR (dc dt_Lz 15 rfl) (by decide) ⟨by omega, by omega⟩ ⟨by omega, by omega⟩ (fun _ => he _ _) (fun h => absurd h (by omega))
  | succ d ih =>
    intro n m hI hn hd
    refine r_iload_n (pc := 18) (x := 6 * (n : Int)) hR (dc dt_Lz 10 rfl) rfl ?_
    refine r_aload_n (pc := 19) (x := b) hR (dc dt_Lz 11 rfl) rfl ?_
    refine hN (pc := 20) (dc dt_Lz 12 rfl) ?_
    refine r_bipush (pc := 21) (n := 6) hR (dc dt_Lz 13 rfl) (by decide) ?_
    refine r_isub (pc := 23) hR (dc dt_Lz 14 rfl) ?_
    rw [w32_id (x := Lz - 6) (by omega) (by omega)]
    refine r_icmp_gt (pc := 24) (tgt := 1425) hR (dc dt_Lz 15 rfl) (by decide) ⟨by omega, by omega⟩ ⟨by omega, by omega⟩ (fun _ => he _ _) (fun h => ?_)
    refine r_aload_n (pc := 27) (x := b) hR (dc dt_Lz 16 rfl) rfl ?_
    refine r_iload_n (pc := 28) (x := 6 * (n : Int)) hR (dc dt_Lz 17 rfl) rfl ?_
    refine hS (pc := 29) (dc dt_Lz 18 rfl) (by omega) (by omega) ?_
    refine r_bipush (pc := 30) (n := 63) hR (dc dt_Lz 19 rfl) (by decide) ?_
    refine r_iand (pc := 32) hR (dc dt_Lz 20 rfl) ?_
    refine law_tab hR hS (i := 6 * (n : Int)) (by omega) (by omega) hz hX hI (by omega) (fun m2 hI2 => ?_) (ti_in _)
    refine r_iinc (pc := 1419) (i := 3) (n := 6) (x := 6 * (n : Int)) (L' := LK b ad (6 * ((n + 1 : Nat) : Int))) hR (dc dt_Lz 22 rfl) rfl (by decide) rfl ?_ ?_
    · rw [w32_id (x := 6 * (n : Int) + 6) (by omega) (by omega), show 6 * (n : Int) + 6 = 6 * ((n + 1 : Nat) : Int) by omega]; rfl
    · exact r_goto (pc := 1422) (tgt := 18) hR (dc dt_Lz 23 rfl) (by decide) (ih (n + 1) m2 hI2 (by omega) (by omega))
end LAWQ
