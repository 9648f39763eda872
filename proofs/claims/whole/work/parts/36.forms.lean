/-! forms: many changes. The class's cells come below 83, the reference's from 83 on -/
def mix (d r : Mem) : Mem := fun k i => if k < 83 then d k i else r k i
theorem mix_l {d r : Mem} {k : Nat} {i : Int} (h : k < 83) : mix d r k i = d k i := if_pos h
theorem mix_r {d r : Mem} {k : Nat} {i : Int} (h : 83 ≤ k) : mix d r k i = r k i := if_neg (by omega)
theorem chg2 {n a : Nat} {d r m : Mem} {kd j v : Int} (hm : m = mix d r) (hI : Inv n m) (ha : rd m 4 12 + 1 ≤ 16 * (a : Int)) (hb : rd m 4 12 < 2000000000) (ok : okV m kd j v) (hv : inR v) (ac : kd = 2 → rd m 88 j ≠ v → acyc (rd m 83 1) (fun c => if c = j then v else rd m 88 c)) (hne : rd m (ck kd) j ≠ v) :
    ∃ d' r', F1_change d (cel kd j) v = some (rd m (ck kd) j, d') ∧ F11_changes r kd j v = some (rd m (ck kd) j, r') ∧ Inv a (mix d' r') ∧ (∀ k i, 83 ≤ k → d' k i = d k i) ∧ (∀ k i, k < 83 → r' k i = r k i) ∧ rd (mix d' r') 4 12 = rd m 4 12 + 1 := by
  have hI' := hI
  obtain ⟨⟨a1, a2, a3, a4, a5⟩, h2, h3, h4, h5, h6, h7, h8, h9, ⟨x1, x2, x3, x4, x5, x6, x7⟩⟩ := hI
  obtain ⟨v1, v2, v3, v4⟩ := valueAt_e h2 a2 ok
  have l1 := h4.1; have l2 := h4.2.1; have l3 := h4.2.2.1; have l4 := h4.2.2.2.1; have l5 := h4.2.2.2.2.1
  have ckk : ck kd = 88 ∨ ck kd = 89 ∨ ck kd = 90 := by
    unfold ck; split
    · omega
    · split <;> omega
  have pd : ∀ k i, k < 83 → rd d k i = rd m k i := fun k i x => by rw [hm]; exact (rd_eq (mix_l x)).symm
  have pr : ∀ k i, 83 ≤ k → rd r k i = rd m k i := fun k i x => by rw [hm]; exact (rd_eq (mix_r x)).symm
  have p9 := pd 9 (cel kd j) (by omega)
  have p410 := pd 4 10 (by omega)
  have p412 := pd 4 12 (by omega)
  obtain ⟨d', u, S, d0, d1, d2, d3, d4, d5, d6, d7, d8, d9, d10, d11, d12, d13, d14, d15⟩ := dchange (m := d) (x := cel kd j) (v := v) hv v3 v4 (by omega) (by omega) (by omega) (by omega) (by rw [p9, v2]; exact hne)
  have q13 : rd r 83 13 = rd m 83 13 := pr _ _ (by omega)
  have qk : rd r (ck kd) j = rd m (ck kd) j := pr _ _ (by omega)
  have hkd : kd = 0 ∧ 0 ≤ j ∧ j < 192 ∨ kd = 1 ∧ 0 ≤ j ∧ j < 5 ∨ kd = 2 ∧ 0 ≤ j ∧ j < 12 := by
    unfold okV at ok; omega
  obtain ⟨r', u', S', r0, r1, r2, r3, r4, r5, r6, r7, r8, r9, r10, r11, r12, r13, r14, r15, r16⟩ := rchange (m := r) (kd := kd) (j := j) (v := v) (C := 0) hv hkd (by omega) (by omega) (by rw [qk]; exact hne)
  have hu : u' = u ∧ S' = S := by omega
  obtain ⟨rfl, rfl⟩ := hu
  obtain ⟨m2, hm2⟩ : ∃ m2, m2 = mix d' r' := ⟨_, rfl⟩
  have t : ∀ k i, k < 83 → rd m2 k i = rd d' k i := fun k i x => by rw [hm2]; exact rd_eq (mix_l x)
  have t' : ∀ k i, 83 ≤ k → rd m2 k i = rd r' k i := fun k i x => by rw [hm2]; exact rd_eq (mix_r x)
  have g : ∀ k i, ¬ QM k i → m2 k i = m k i := by
    intro k i x
    unfold QM at x
    by_cases w : k < 83
    · rw [hm2, hm, mix_l w, mix_l w, d7 k i (by omega) (by omega) (by omega)]
    · rw [hm2, hm, mix_r (by omega), mix_r (by omega), r7 k i (by omega) (by omega) (by omega)]
  have e1 : rd m2 83 1 = rd m 83 1 := rd_eq (g _ _ (by unfold QM; omega))
  have e9 : ∀ i, rd m2 9 i = if i = cel kd j then v else rd m 9 i := by
    intro i
    rw [t 9 i (by omega)]
    by_cases z : i = cel kd j
    · rw [if_pos z, z, d8]
    · rw [if_neg z, ← pd 9 i (by omega)]; exact rd_eq (d7 9 i (by omega) (by omega) (by omega))
  have eR : ∀ k i, k = 88 ∨ k = 89 ∨ k = 90 → rd m2 k i = if k = ck kd ∧ i = j then v else rd m k i := by
    intro k i x
    rw [t' k i (by omega)]
    by_cases z : k = ck kd ∧ i = j
    · rw [if_pos z, z.1, z.2, r8]
    · rw [if_neg z, ← pr k i (by omega)]; exact rd_eq (r7 k i z (by omega) (by omega))
  have e12 : rd m2 4 12 = rd m 4 12 + 1 := by rw [t 4 12 (by omega), d11, p412]
  have lg := log_new (m := m) (m2 := m2) (S := S') (u := u') (kd := kd) (j := j) (v := v) h4 h5 ok (ok_now h2 ok) d1 (by omega) d3 d4 e1 (by rw [t' _ _ (by omega)]; exact r9) (by rw [t' _ _ (by omega)]; exact r10) (by rw [t _ _ (by omega)]; exact d9) (by rw [t _ _ (by omega)]; exact d10)
    (by
      intro k i x y z
      by_cases w : k < 83
      · rw [t k i w, d12 k i (by omega) y z]; exact pd _ _ w
      · rw [t' k i (by omega), r12 k i (by omega) y z]; exact pr _ _ (by omega))
    (by rw [t _ _ (by omega)]; exact d13) (by rw [t _ _ (by omega), d14, p9, v2]) (by rw [t _ _ (by omega)]; exact d15) (by rw [t' _ _ (by omega)]; exact r13) (by rw [t' _ _ (by omega)]; exact r14) (by rw [t' _ _ (by omega), r15, qk]) (by rw [t' _ _ (by omega)]; exact r16) (fun c => eR 88 c (by omega))
    (by
      by_cases z : kd = 2
      · have := ac z (by unfold ck at hne; rw [z] at hne; exact hne)
        refine acyc_c (fun c x y => ?_) this
        by_cases w : c = j
        · rw [if_pos w, if_pos ⟨z, w⟩]
        · rw [if_neg w, if_neg (by omega)]
      · exact acyc_c (fun c x y => by rw [if_neg (by omega)]) (ac_now h4 h5))
  refine ⟨d', r', by rw [d0, p9, v2], by rw [r0, qk], ?_, fun k i x => d7 k i (by omega) (by omega) (by omega), fun k i x => r7 k i (by omega) (by omega) (by omega), ?_⟩
  · rw [← hm2]
    exact Inv_set hI' ok (by omega) g e9 eR e12 (by rw [t' _ _ (by omega)]; exact r11) lg.1 lg.2
  · rw [← hm2]; exact e12
