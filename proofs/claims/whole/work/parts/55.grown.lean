/-! places filled by a rule -/
def fw (m : Mem) (k : Nat) (a b : Int) (F : Int → Int) : Mem := fun k' i => if k' = k ∧ a ≤ i ∧ i < b then F i else m k' i
theorem fw_0 {m : Mem} {k : Nat} {a b : Int} {F : Int → Int} (h : b ≤ a) : fw m k a b F = m := by
  funext k' i; unfold fw; rw [if_neg (by omega)]
theorem fw_s {m : Mem} {k : Nat} {a b : Int} {F : Int → Int} (h : a < b) : fw (wr m k a (F a)) k (a + 1) b F = fw m k a b F := by
  funext k' i; unfold fw wr
  by_cases e : k' = k ∧ a ≤ i ∧ i < b
  · rw [if_pos e]
    by_cases e' : i = a
    · subst e'; rw [if_neg (by omega), if_pos ⟨e.1, rfl⟩]
    · rw [if_pos (by omega)]
  · rw [if_neg e, if_neg (by omega), if_neg (by omega)]
theorem fw_o {m : Mem} {k k' : Nat} {a b i : Int} {F : Int → Int} (h : ¬ (k' = k ∧ a ≤ i ∧ i < b)) : fw m k a b F k' i = m k' i := if_neg h
theorem rd_fw_k {m : Mem} {k k' : Nat} {a b i : Int} {F : Int → Int} (h : k' ≠ k) : rd (fw m k a b F) k' i = rd m k' i := rd_eq (fw_o (by omega))
theorem rd_fw_o {m : Mem} {k : Nat} {a b i : Int} {F : Int → Int} (h : ¬ (a ≤ i ∧ i < b)) : rd (fw m k a b F) k i = rd m k i := rd_eq (fw_o (by omega))
theorem rd_fw_i {m : Mem} {k : Nat} {a b i : Int} {F : Int → Int} (h : a ≤ i) (h' : i < b) : rd (fw m k a b F) k i = w32 (F i) := by
  unfold rd fw; rw [if_pos ⟨rfl, h, h'⟩]
theorem fw_f {m : Mem} {k : Nat} {a b : Int} {F G : Int → Int} (h : ∀ i, a ≤ i → i < b → F i = G i) : fw m k a b F = fw m k a b G := by
  funext k' i; unfold fw
  by_cases e : k' = k ∧ a ≤ i ∧ i < b
  · rw [if_pos e, if_pos e]; exact h i e.2.1 e.2.2
  · rw [if_neg e, if_neg e]
/-! the class's tree as told: prices, mothers, days, order -/
def stp (a b c f g : Int) : Int := if f = g then 0 else if f = 0 then a else if g = 0 then b else c
theorem L9_pr1 {o : Nat} (ho : 14 ≤ o) {f : Int} (hf : 0 ≤ f ∧ f < 4) {kk : Mem → Option Mem} : ∀ (d n : Nat) (g : Int) (m : Mem), g + d = 4 → 0 ≤ g → d < n → L9_takeCosts_9 o f kk n g m = kk (fw m (o + 8) (4 * f + g) (4 * f + 4) (fun i => stp (rd m 9 192) (rd m 9 193) (rd m 9 194) f (i - 4 * f))) := by
  intro d
  induction d with
  | zero =>
    intro n g m h0 h1 h2
    obtain ⟨n, rfl⟩ : ∃ j, n = j + 1 := ⟨n - 1, by omega⟩
    rw [L9_takeCosts_9, if_pos (by omega), fw_0 (by omega)]
  | succ d ih =>
    intro n g m h0 h1 h2
    obtain ⟨n, rfl⟩ : ∃ j, n = j + 1 := ⟨n - 1, by omega⟩
    rw [L9_takeCosts_9, if_neg (by omega)]
    have key : ∀ x : Int, x = stp (rd m 9 192) (rd m 9 193) (rd m 9 194) f g → (gd (0 ≤ w32 ((w32 (f * 4)) + g) ∧ w32 ((w32 (f * 4)) + g) < 16) <| stw m (o + 8) (w32 ((w32 (f * 4)) + g)) x fun m57 => L9_takeCosts_9 o f kk n (w32 (g + 1)) m57) = kk (fw m (o + 8) (4 * f + g) (4 * f + 4) (fun i => stp (rd m 9 192) (rd m 9 193) (rd m 9 194) f (i - 4 * f))) := by
      intro x hx
      rw [w32_id (x := f * 4) (by omega) (by omega), w32_id (x := f * 4 + g) (by omega) (by omega), w32_id (x := g + 1) (by omega) (by omega), gd_t (by omega), stw_v, ih n (g + 1) _ (by omega) (by omega) (by omega), rd_wr_k (by omega), rd_wr_k (by omega), rd_wr_k (by omega), show f * 4 + g = 4 * f + g by omega, show 4 * f + (g + 1) = 4 * f + g + 1 by omega]
      have := fw_s (m := m) (k := o + 8) (a := 4 * f + g) (b := 4 * f + 4) (F := fun i => stp (rd m 9 192) (rd m 9 193) (rd m 9 194) f (i - 4 * f)) (by omega)
      rw [← this, show 4 * f + g - 4 * f = g by omega, hx]
    simp only [jn_v]
    by_cases e : f = g
    · rw [if_neg (show ¬ (f ≠ g) by omega), if_neg (show ¬ (f ≠ g) by omega), if_neg (show ¬ (f ≠ g) by omega)]
      have := key 0 (by unfold stp; rw [if_pos e])
      split
      · split <;> exact this
      · exact this
    · rw [if_pos e, if_pos e, if_pos e, costOf_e (by omega) (by omega), costOf_e (by omega) (by omega), costOf_e (by omega) (by omega), b1_v, b1_v, b1_v]
      by_cases z : f = 0
      · rw [if_neg (by omega)]
        exact key _ (by unfold stp; rw [if_neg e, if_pos z]; rfl)
      · rw [if_pos z]
        by_cases y : g = 0
        · rw [if_neg (by omega)]
          exact key _ (by unfold stp; rw [if_neg e, if_neg z, if_pos y]; rfl)
        · rw [if_pos y]
          exact key _ (by unfold stp; rw [if_neg e, if_neg z, if_neg y]; rfl)
theorem stp_in {a b c : Int} (ha : inR a) (hb : inR b) (hc : inR c) (f g : Int) : inR (stp a b c f g) := by unfold stp; split; exact rg_c rfl; split; exact ha; split; exact hb; exact hc
theorem L9_pr2 {o : Nat} (ho : 14 ≤ o) : ∀ (d n : Nat) (f : Int) (m : Mem), f + d = 4 → 0 ≤ f → d < n → ∃ m', L9_takeCosts_2 o n f m = some m' ∧ (∀ k i, k ≠ o + 8 → m' k i = m k i) ∧ (∀ i, i < 4 * f → m' (o + 8) i = m (o + 8) i) ∧ ∀ f' g, f ≤ f' → f' < 4 → 0 ≤ g → g < 4 → rd m' (o + 8) (4 * f' + g) = stp (rd m 9 192) (rd m 9 193) (rd m 9 194) f' g := by
  intro d
  induction d with
  | zero =>
    intro n f m h0 h1 h2
    obtain ⟨n, rfl⟩ : ∃ j, n = j + 1 := ⟨n - 1, by omega⟩
    rw [L9_takeCosts_2, if_pos (by omega)]
    exact ⟨m, rfl, fun _ _ _ => rfl, fun _ _ => rfl, fun f' g a b => by omega⟩
  | succ d ih =>
    intro n f m h0 h1 h2
    obtain ⟨n, rfl⟩ : ∃ j, n = j + 1 := ⟨n - 1, by omega⟩
    rw [L9_takeCosts_2, if_neg (by omega), L9_pr1 ho ⟨h1, by omega⟩ 4 FU 0 m (by omega) (by omega) (by rw [FU_eq]; omega), w32_id (x := f + 1) (by omega) (by omega)]
    obtain ⟨m', x, y, z, w⟩ := ih n (f + 1) (fw m (o + 8) (4 * f + 0) (4 * f + 4) (fun i => stp (rd m 9 192) (rd m 9 193) (rd m 9 194) f (i - 4 * f))) (by omega) (by omega) (by omega)
    refine ⟨m', x, fun k i e => by rw [y k i e, fw_o (by omega)], fun i e => by rw [z i (by omega), fw_o (by omega)], fun f' g a b c e => ?_⟩
    by_cases q : f' = f
    · subst q
      rw [rd_eq (z (4 * f' + g) (by omega)), rd_fw_i (by omega) (by omega), show 4 * f' + g - 4 * f' = g by omega]
      have := stp_in (rd_in m 9 192) (rd_in m 9 193) (rd_in m 9 194) f' g
      exact w32_id this.1 this.2
    · rw [w f' g (by omega) b c e, rd_fw_k (by omega), rd_fw_k (by omega), rd_fw_k (by omega)]
theorem price_e {m : Mem} {o : Nat} (ho : 14 ≤ o) : ∃ m', F9_takeCosts m o = some m' ∧ (∀ k i, k ≠ o + 8 → m' k i = m k i) ∧ ∀ f g, 0 ≤ f → f < 4 → 0 ≤ g → g < 4 → rd m' (o + 8) (4 * f + g) = stp (rd m 9 192) (rd m 9 193) (rd m 9 194) f g := by
  obtain ⟨m', x, y, z, w⟩ := L9_pr2 ho 4 FU 0 m (by omega) (by omega) (by rw [FU_eq]; omega)
  exact ⟨m', x, y, fun f g a b c d => w f g a b c d⟩
theorem L9_grow {o : Nat} (ho : 14 ≤ o) {N : Int} (hN : 0 ≤ N ∧ N ≤ 12) {kk : Mem → Option Mem} : ∀ (d n : Nat) (v : Int) (m : Mem), v + d = N → 0 ≤ v → d < n → rd m o 0 = N → ∃ m', L9_growAsTold_10 o kk n v m = kk m' ∧ (∀ k i, k ≠ o + 1 → k ≠ o + 2 → k ≠ o + 3 → m' k i = m k i) ∧ (∀ k i, i < v → m' k i = m k i) ∧ ∀ w, v ≤ w → w < N → rd m' (o + 1) w = rd m 9 (197 + w) ∧ rd m' (o + 2) w = rd m 5 w ∧ rd m' (o + 3) w = rd m 6 w := by
  intro d
  induction d with
  | zero =>
    intro n v m h0 h1 h2 e
    obtain ⟨n, rfl⟩ : ∃ j, n = j + 1 := ⟨n - 1, by omega⟩
    rw [L9_growAsTold_10, if_pos (by omega)]
    exact ⟨m, rfl, fun _ _ _ _ _ => rfl, fun _ _ _ => rfl, fun w a b => by omega⟩
  | succ d ih =>
    intro n v m h0 h1 h2 e
    obtain ⟨n, rfl⟩ : ∃ j, n = j + 1 := ⟨n - 1, by omega⟩
    rw [L9_growAsTold_10, if_neg (by omega), motherOf_e h1 (by omega), b1_v, gd_t (by omega), stw_v, gd_t (by omega), gd_t (by omega), stw_v, gd_t (by omega), gd_t (by omega), stw_v, w32_id (x := v + 1) (by omega) (by omega), rd_wr_k (by omega), rd_wr_k (by omega), rd_wr_k (by omega)]
    obtain ⟨q, hq⟩ : ∃ q, q = wr (wr (wr m (o + 1) v (rd m 9 (197 + v))) (o + 2) v (rd m 5 v)) (o + 3) v (rd m 6 v) := ⟨_, rfl⟩
    rw [← hq]
    have qo : ∀ k i, k ≠ o + 1 → k ≠ o + 2 → k ≠ o + 3 → q k i = m k i := fun k i a b c => by rw [hq, wr_ki (by omega), wr_ki (by omega), wr_ki (by omega)]
    have qi : ∀ k i, i ≠ v → q k i = m k i := fun k i a => by rw [hq, wr_ki (by omega), wr_ki (by omega), wr_ki (by omega)]
    obtain ⟨m', x, y, z, w⟩ := ih n (v + 1) q (by omega) (by omega) (by omega) (by rw [rd_eq (qo o 0 (by omega) (by omega) (by omega))]; exact e)
    refine ⟨m', x, fun k i a b c => by rw [y k i a b c]; exact qo k i a b c, fun k i a => by rw [z k i (by omega)]; exact qi k i (by omega), fun u a b => ?_⟩
    by_cases r : u = v
    · subst r
      have e1 := rd_in m 9 (197 + u); have e2 := rd_in m 5 u; have e3 := rd_in m 6 u
      rw [rd_eq (z _ u (by omega)), rd_eq (z _ u (by omega)), rd_eq (z _ u (by omega)), hq]
      refine ⟨?_, ?_, ?_⟩
      · rw [rd_wr_k (by omega), rd_wr_k (by omega), rd_wr_s]; exact w32_id e1.1 e1.2
      · rw [rd_wr_k (by omega), rd_wr_s]; exact w32_id e2.1 e2.2
      · rw [rd_wr_s]; exact w32_id e3.1 e3.2
    · have := w u (by omega) b
      rw [rd_eq (qo 9 _ (by omega) (by omega) (by omega)), rd_eq (qo 5 _ (by omega) (by omega) (by omega)), rd_eq (qo 6 _ (by omega) (by omega) (by omega))] at this
      exact this
/-- the class's tree stands as told by hand -/
def Gr (M m : Mem) (o : Nat) (N : Int) : Prop := rd m o 0 = N ∧ (∀ v, 0 ≤ v → v < N → rd m (o + 1) v = rd M 9 (197 + v) ∧ rd m (o + 2) v = rd M 5 v ∧ rd m (o + 3) v = rd M 6 v) ∧ (∀ f g, 0 ≤ f → f < 4 → 0 ≤ g → g < 4 → rd m (o + 8) (4 * f + g) = stp (rd M 9 192) (rd M 9 193) (rd M 9 194) f g) ∧ Od (inN N) (fun v => rd M 9 (197 + v)) N (fun i => rd m (o + 7) i)
theorem acy_N {N : Int} {p : Int → Int} (hN : 0 ≤ N ∧ N ≤ 12) (h : acyc N p) : Acy (inN N) p := by
  obtain ⟨rk, r1, r2⟩ := acyc_b hN.2 h
  refine ⟨fun c hc => ?_, fun c hc h0 => ?_, rk, fun c hc h0 => ?_, fun c hc => ?_⟩
  · have := inN_e.mp hc; omega
  · have := inN_e.mp hc
    exact inN_e.mpr ⟨h0, (h.1 c this.1 this.2).2⟩
  · have := inN_e.mp hc
    exact r1 c this.1 this.2 h0
  · have := inN_e.mp hc
    exact r2 c this.1 this.2
theorem grow_e {M : Mem} {o : Nat} (ho : 14 ≤ o) {N : Int} (hN : 0 ≤ N ∧ N ≤ 12) (h4 : rd M 4 0 = N) (ha : Acy (inN N) (fun v => rd M 9 (197 + v))) : ∃ m', F9_growAsTold M o = some m' ∧ Gr M m' o N ∧ ∀ k i, ¬ (k = o ∧ i = 0) → k ≠ o + 1 → k ≠ o + 2 → k ≠ o + 3 → k ≠ o + 7 → k ≠ o + 8 → m' k i = M k i := by
  obtain ⟨q, hq⟩ : ∃ q, q = wr M o 0 N := ⟨_, rfl⟩
  have q0 : rd q o 0 = N := by rw [hq, rd_wr_s]; exact w32_id (by omega) (by omega)
  obtain ⟨m1, x1, y1, z1, w1⟩ := L9_grow ho hN (kk := fun (m_59 : Mem) => b1 (F9_takeCosts m_59 o) fun m61 => b2 (F9_arrange m61 o) fun r65 m65 => some m65) N.toNat FU 0 q (by omega) (by omega) (by rw [FU_eq]; omega) q0
  obtain ⟨m2, x2, y2, z2⟩ := price_e (m := m1) ho
  have w1' : ∀ v, 0 ≤ v → v < N → rd m1 (o + 1) v = rd M 9 (197 + v) ∧ rd m1 (o + 2) v = rd M 5 v ∧ rd m1 (o + 3) v = rd M 6 v := fun v a b => by
    have := w1 v a b
    rw [hq, rd_wr_k (by omega), rd_wr_k (by omega), rd_wr_k (by omega)] at this
    exact this
  obtain ⟨m3, x3, y3, z3⟩ := arr_e (m := m2) (o := o) hN ha (by rw [rd_eq (y2 o 0 (by omega)), rd_eq (y1 o 0 (by omega) (by omega) (by omega))]; exact q0) (fun v a b => by rw [rd_eq (y2 (o + 1) v (by omega))]; exact (w1' v a b).1)
  have m19 : ∀ i, rd m1 9 i = rd M 9 i := fun i => by rw [rd_eq (y1 9 i (by omega) (by omega) (by omega)), hq, rd_wr_k (by omega)]
  refine ⟨m3, ?_, ⟨?_, fun v a b => ?_, fun f g a b c d => ?_, y3⟩, fun k i a b c d e f => ?_⟩
  · unfold F9_growAsTold
    rw [stw_v, h4, ← hq, x1, x2, b1_v, x3, b2_v]
  · rw [rd_eq (z3 o 0 (by omega)), rd_eq (y2 o 0 (by omega)), rd_eq (y1 o 0 (by omega) (by omega) (by omega))]; exact q0
  · rw [rd_eq (z3 (o + 1) v (by omega)), rd_eq (y2 (o + 1) v (by omega)), rd_eq (z3 (o + 2) v (by omega)), rd_eq (y2 (o + 2) v (by omega)), rd_eq (z3 (o + 3) v (by omega)), rd_eq (y2 (o + 3) v (by omega))]
    exact w1' v a b
  · rw [rd_eq (z3 (o + 8) _ (by omega)), z2 f g a b c d, m19, m19, m19]
  · rw [z3 k i (by omega), y2 k i f, y1 k i b c d, hq, wr_ki a]
theorem L9_wri {o : Nat} (ho : 14 ≤ o) {N c : Int} (hN : 0 ≤ N ∧ N ≤ 12) (hc : 0 ≤ c ∧ c < 16) : ∀ (d n : Nat) (v : Int) (m : Mem), v + d = N → 0 ≤ v → d < n → rd m o 0 = N → L9_write_2 o c n v m = some (fw m (o + 5) v N (fun i => rd m 9 (16 * i + c))) := by
  intro d
  induction d with
  | zero =>
    intro n v m h0 h1 h2 e
    obtain ⟨n, rfl⟩ : ∃ j, n = j + 1 := ⟨n - 1, by omega⟩
    rw [L9_write_2, if_pos (by omega), fw_0 (by omega)]
  | succ d ih =>
    intro n v m h0 h1 h2 e
    obtain ⟨n, rfl⟩ : ∃ j, n = j + 1 := ⟨n - 1, by omega⟩
    rw [L9_write_2, if_neg (by omega), told_e h1 (by omega) hc.1 hc.2, b1_v, gd_t (by omega), stw_v, w32_id (x := v + 1) (by omega) (by omega), ih n (v + 1) _ (by omega) (by omega) (by omega) (by rw [rd_wr_k (by omega)]; exact e)]
    have := fw_s (m := m) (k := o + 5) (a := v) (b := N) (F := fun i => rd m 9 (16 * i + c)) (by omega)
    rw [← this]
    congr 1
    exact fw_f (fun i a b => by rw [rd_wr_k (by omega)])
theorem write_e {m : Mem} {o : Nat} (ho : 14 ≤ o) {N c : Int} (hN : 0 ≤ N ∧ N ≤ 12) (hc : 0 ≤ c ∧ c < 16) (e : rd m o 0 = N) : F9_write m o c = some (fw m (o + 5) 0 N (fun i => rd m 9 (16 * i + c))) := by
  unfold F9_write
  exact L9_wri ho hN hc N.toNat FU 0 m (by omega) (by omega) (by rw [FU_eq]; omega) e
