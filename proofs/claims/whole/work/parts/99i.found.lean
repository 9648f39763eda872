/-! both findings, one after the other -/
def FO (n : Nat) (m : Mem) : Prop := ∃ m1 m2, F0_find m = some m1 ∧ F11_findBest m1 = some m2 ∧ Inv (n + 1) m2 ∧ bestR m2
theorem FO_1 {m m1 : Mem} (h : F0_find m = some m1) {k : Nat} {i : Int} (hk : 83 ≤ k ∨ k < 31 ∨ k = 44 ∨ (51 ≤ k) ∨ (k = 31 ∧ i = 2)) : rd m1 k i = rd m k i := rd_eq (fr_F0_find (by omega) (by omega) (by omega) (by omega) (by omega) (by omega) (by omega) (by omega) (by omega) (by omega) (by omega) (by omega) (by omega) (by omega) (by omega) (by omega) (by omega) (by omega) (by omega) (by omega) (by omega) h)
theorem FO_2 {m m1 : Mem} (h : F11_findBest m = some m1) {k : Nat} {i : Int} (hk : k < 83 ∨ (84 ≤ k ∧ k ≤ 95) ∨ k = 103 ∨ (k = 83 ∧ (i = 1 ∨ i = 28))) : rd m1 k i = rd m k i := rd_eq (fr_F11_findBest (by omega) (by omega) (by omega) (by omega) (by omega) (by omega) (by omega) (by omega) (by omega) (by omega) (by omega) (by omega) (by omega) (by omega) h)
theorem BM_1024 {v : Int} (h : BM v) (hb : ∀ d : Nat, 10 ≤ d → d < 16 → mb v d = false) : v < 1024 := by
  obtain ⟨n, n1, n2⟩ := BM_n h
  have : n < 2 ^ 10 := Nat.lt_pow_two_of_testBit n (fun i hi => by
    by_cases z : i < 16
    · rw [← btN (by omega), ← n2]; exact hb i hi z
    · have q : 2 ^ 16 ≤ 2 ^ i := Nat.pow_le_pow_right (by omega) (by omega)
      exact Nat.testBit_lt_two_pow (by omega))
  omega
theorem bestR_of {m : Mem} {N : Nat} {s : List Nat × Int} (h2 : 2 ≤ N) (h6 : N ≤ 6) (hc : CP m N) (hl : LST m N s) (hr : RST m N s) (hs : s.1.length ≤ 7776) (hx : ∀ x, x ∈ s.1 → x < 2147483648) : bestR m := by
  obtain ⟨c1, c2, c3, c4⟩ := hc
  obtain ⟨l1, l2, l3, l4⟩ := hl
  obtain ⟨r1, r2, r3⟩ := hr
  refine ⟨by omega, by omega, by omega, by omega, fun h0 => ?_, fun i p i0 i1 p0 p1 => ?_, fun p h0 p0 p1 => ?_⟩
  · rw [l2, if_neg (by omega), (r2 (by omega)).1]
  · obtain ⟨I, rfl⟩ : ∃ I : Nat, i = (I : Int) := ⟨i.toNat, by omega⟩
    obtain ⟨P, rfl⟩ : ∃ P : Nat, p = (P : Int) := ⟨p.toNat, by omega⟩
    have iI : I < s.1.length := by omega
    have mem : s.1.getD I 0 ∈ s.1 := by
      rw [List.getD_eq_getElem?_getD, List.getElem?_eq_getElem iI]; exact List.getElem_mem iI
    rw [r3 I iI, l3 I iI, chosen_e ⟨c1, c2, c3, c4⟩ (show P < N by omega) (hx _ mem)]
    refine ⟨by omega, ?_⟩
    congr 1
    rw [c1, show ((N : Int) - 1 - (P : Int)).toNat = N - 1 - P by omega]
    have e := c10_at (g := mo N (s.1.getD I 0)) (mo_10 h2 h6 _) (N := N) (p := P) (by omega)
    rw [← e, Int.natCast_emod, Int.natCast_ediv, Int.natCast_pow]; rfl
  · obtain ⟨P, rfl⟩ : ∃ P : Nat, p = (P : Int) := ⟨p.toNat, by omega⟩
    have ln : s.1.length ≠ 0 := by omega
    obtain ⟨B, b⟩ := l4 ln P (by omega)
    have t := (r2 ln).2
    have m10 : ∀ x, mo N x P < 10 := fun x => mo_10 h2 h6 x P
    refine ⟨B.1, BM_1024 B (fun d d0 d1 => ?_), fun d d0 d1 => ?_, ?_⟩
    · cases z : mb (rd m 46 (P : Int)) d with
      | false => rfl
      | true =>
        obtain ⟨x, _, x2⟩ := (b d d1).mp z
        have := m10 x; omega
    · obtain ⟨D, rfl⟩ : ∃ D : Nat, d = (D : Int) := ⟨d.toNat, by omega⟩
      rw [t P D (by omega) (by omega)]
      refine ⟨by omega, ?_⟩
      obtain ⟨v, v1, v2⟩ := BM_n B
      have tb' : (rd m 46 (P : Int)).toNat.testBit ((D : Int)).toNat = mb (rd m 46 (P : Int)) D := by
        rw [v2, btN (by omega)]; rfl
      rw [tb', b D (by omega)]
      have np := nl_pos (f := fun x => mo N x P) (d := D) s.1
      constructor
      · intro q
        have := np.mpr q; omega
      · intro q
        exact np.mp (by omega)
    · have e : ∀ D : Nat, D < 10 → rd m 106 (10 * (P : Int) + (D : Int)) = ((nl (fun x => mo N x P) D s.1 : Nat) : Int) := fun D hD => t P D (by omega) hD
      have e0 := e 0 (by omega); have e1 := e 1 (by omega); have e2 := e 2 (by omega); have e3 := e 3 (by omega); have e4 := e 4 (by omega)
      have e5 := e 5 (by omega); have e6 := e 6 (by omega); have e7 := e 7 (by omega); have e8 := e 8 (by omega); have e9 := e 9 (by omega)
      have su := nl_sum (f := fun x => mo N x P) m10 s.1
      rw [show 10 * (P : Int) + ((0 : Nat) : Int) = 10 * (P : Int) by omega] at e0
      change rd m 106 (10 * (P : Int) + 1) = _ at e1
      change rd m 106 (10 * (P : Int) + 2) = _ at e2
      change rd m 106 (10 * (P : Int) + 3) = _ at e3
      change rd m 106 (10 * (P : Int) + 4) = _ at e4
      change rd m 106 (10 * (P : Int) + 5) = _ at e5
      change rd m 106 (10 * (P : Int) + 6) = _ at e6
      change rd m 106 (10 * (P : Int) + 7) = _ at e7
      change rd m 106 (10 * (P : Int) + 8) = _ at e8
      change rd m 106 (10 * (P : Int) + 9) = _ at e9
      omega
theorem FO_e {n : Nat} {m : Mem} (hI : Inv n m) (h : 2 ≤ rd m 31 2) (_ : n < 100000000) : FO n m := by
  obtain ⟨h1, h2, h3, h4, h5, h6, h7, h8, h9, h10⟩ := hI
  have hI : Inv n m := ⟨h1, h2, h3, h4, h5, h6, h7, h8, h9, h10⟩
  obtain ⟨x1, x2, x3, x4, x5, x6, x7⟩ := h10
  by_cases z : rd m 31 14 = rd m 4 12
  · refine ⟨m, m, ?_, ?_, Inv_mono (by omega) hI, x7 z⟩
    · unfold F0_find
      rw [if_pos z]
    · unfold F11_findBest
      rw [if_neg (by have := x6.mpr z; omega)]
  · obtain ⟨N, hN⟩ : ∃ N : Nat, rd m 31 2 = (N : Int) := ⟨(rd m 31 2).toNat, by omega⟩
    have l6 := h9.2.1
    obtain ⟨m1, t, f1, p1, l1, v1⟩ := find_c hI hN (by omega) (by omega) z
    have z31 : rd m 83 31 = 0 := by
      rcases x5 with q | q
      · exact q
      · exact absurd (x6.mp q) z
    obtain ⟨m2, f2, r2, w2⟩ := findBest_c hI hN (m := m1) (by omega) (by omega) (fun k i a => FO_1 f1 (by omega)) (by rw [FO_1 f1 (by omega)]; exact z31)
    have b2' : ∀ k i, k < 83 → rd m2 k i = rd m1 k i := fun k i a => FO_2 f2 (by omega)
    have bR : bestR m2 := bestR_of (N := N) (s := bst m N (N ^ N)) (by omega) (by omega) (CP_s p1.1 (b2' _ _ (by omega)) (fun i => b2' _ _ (by omega))) (LST_s l1 (b2' _ _ (by omega)) (b2' _ _ (by omega)) (fun i => b2' _ _ (by omega)) (fun i => b2' _ _ (by omega))) r2 (bst_l (by omega) (by omega) (Nat.le_refl _)) (fun x hx => by
      have a := (bl_in _ x hx).1
      have b := pw_b (N := N) (j := N) (by omega) (by omega)
      omega)
    have fr1 : ∀ k i, (83 ≤ k ∨ k < 31 ∨ k = 44 ∨ (51 ≤ k) ∨ (k = 31 ∧ i = 2)) → m1 k i = m k i := fun k i hk => fr_F0_find (by omega) (by omega) (by omega) (by omega) (by omega) (by omega) (by omega) (by omega) (by omega) (by omega) (by omega) (by omega) (by omega) (by omega) (by omega) (by omega) (by omega) (by omega) (by omega) (by omega) (by omega) f1
    have fr2 : ∀ k i, ¬ (k = 83 ∧ (i = 31 ∨ i = 25 ∨ i = 33 ∨ i = 24 ∨ i = 32)) → ¬ (96 ≤ k ∧ k ≤ 102) → ¬ (104 ≤ k ∧ k ≤ 106) → m2 k i = m1 k i := fun k i a b c => fr_F11_findBest (by omega) (by omega) (by omega) (by omega) (by omega) (by omega) (by omega) (by omega) (by omega) (by omega) (by omega) (by omega) (by omega) (by omega) f2
    refine ⟨m1, m2, f1, f2, ⟨iCh_s ?_ h1, iCe_s ?_ h2, iTo_s ?_ h3, iLo_s ?_ h4, iHi_s ?_ h5, iTp_s ?_ h6, iPa_s ?_ h7, iSh_s ?_ h8, iLi_s ?_ h9, ?_⟩, bR⟩
    · intro k i q; unfold PCh at q; rw [fr2 k i (by omega) (by omega) (by omega), fr1 k i (by omega)]
    · intro k i q; unfold PCe at q; rw [fr2 k i (by omega) (by omega) (by omega), fr1 k i (by omega)]
    · intro k i q; unfold PTo at q; rw [fr2 k i (by omega) (by omega) (by omega), fr1 k i (by omega)]
    · intro k i q; unfold PLo at q; rw [fr2 k i (by omega) (by omega) (by omega), fr1 k i (by omega)]
    · intro k i q; unfold PHi at q; rw [fr2 k i (by omega) (by omega) (by omega), fr1 k i (by omega)]
    · intro k i q; unfold PTp at q; rw [fr2 k i (by omega) (by omega) (by omega), fr1 k i (by omega)]
    · intro k i q; unfold PPa at q; rw [fr2 k i (by omega) (by omega) (by omega), fr1 k i (by omega)]
    · intro k i q; unfold PSh at q; rw [fr2 k i (by omega) (by omega) (by omega), fr1 k i (by omega)]
    · intro k i q; unfold PLi at q; rw [fr2 k i (by omega) (by omega) (by omega), fr1 k i (by omega)]
    · have e14 : rd m2 31 14 = rd m 4 12 := by rw [b2' _ _ (by omega)]; exact v1
      have e12 : rd m2 4 12 = rd m 4 12 := by rw [b2' _ _ (by omega), rd_eq (fr1 4 12 (by omega))]
      unfold iBt
      rw [e14, e12, w2]
      exact ⟨by omega, by omega, x3, by omega, Or.inr rfl, ⟨fun _ => rfl, fun _ => rfl⟩, fun _ => bR⟩
