/-! a code taken choice by choice: a tree, or how far its beginning is no better -/
theorem PRD_s {M m m' : Mem} {N t : Nat} (h : PRD M m N t) (g : ∀ k i, ¬ (k = 31 ∧ i ≠ 2 ∧ i ≠ 12) → k ≠ 33 → k ≠ 36 → k ≠ 37 → k ≠ 38 → k ≠ 39 → k ≠ 41 → k ≠ 42 → k ≠ 43 → k ≠ 45 → k ≠ 46 → m' k i = m k i) : PRD M m' N t := by
  obtain ⟨h1, h3, h4, h5, h6, h7, a1, a2⟩ := h
  have g' : ∀ k i, (k = 31 ∧ (i = 2 ∨ i = 12)) ∨ k = 32 ∨ k = 34 ∨ k = 35 ∨ k = 40 ∨ k = 44 ∨ k = 47 ∨ k = 48 ∨ k = 49 ∨ k = 50 ∨ k = 9 → rd m' k i = rd m k i := fun k i z => rd_eq (g k i (by omega) (by omega) (by omega) (by omega) (by omega) (by omega) (by omega) (by omega) (by omega) (by omega) (by omega))
  refine ⟨CP_s h1 (g' _ _ (by omega)) (fun i => g' _ _ (by omega)), by rw [g' _ _ (by omega)]; exact h3, HM_s h4 (g' _ _ (by omega)) (fun i => g' _ _ (by omega)) (fun i => g' _ _ (by omega)) (fun i => g' _ _ (by omega)), fun i hi => ?_, fun i j hi hj => ?_, TI_s h7 (g' _ _ (by omega)) (fun i => g' _ _ (by omega)), ?_, fun j hj => ?_⟩
  · rw [g' _ _ (by omega), g' _ _ (by omega)]; exact h5 i hi
  · rw [g' _ _ (by omega)]; exact h6 i j hi hj
  · rw [g' _ _ (by omega)]; exact a1
  · rw [g' _ _ (by omega), g' _ _ (by omega), g' _ _ (by omega)]; exact a2 j hj
/-- the best codes as the class keeps them -/
def LST (m : Mem) (N : Nat) (s : List Nat × Int) : Prop := rd m 31 3 = (s.1.length : Int) ∧ rd m 31 4 = (if s.1.length = 0 then 16777216 else s.2) ∧ (∀ i : Nat, i < s.1.length → rd m 45 (i : Int) = ((s.1.getD i 0 : Nat) : Int)) ∧ (s.1.length ≠ 0 → ∀ p : Nat, p < N → BM (rd m 46 (p : Int)) ∧ ∀ d : Nat, d < 16 → (mb (rd m 46 (p : Int)) d = true ↔ ∃ x, x ∈ s.1 ∧ mo N x p = d))
theorem LST_s {m m' : Mem} {N : Nat} {s : List Nat × Int} (h : LST m N s) (g3 : rd m' 31 3 = rd m 31 3) (g4 : rd m' 31 4 = rd m 31 4) (g45 : ∀ i, rd m' 45 i = rd m 45 i) (g46 : ∀ i, rd m' 46 i = rd m 46 i) : LST m' N s :=
  ⟨by rw [g3]; exact h.1, by rw [g4]; exact h.2.1, fun i hi => by rw [g45]; exact h.2.2.1 i hi, fun a p hp => by rw [g46]; exact h.2.2.2 a p hp⟩
def enc (x : Nat) : Int := if x = 9 then -1 else (x : Int)
theorem enc_pmc (N c i : Nat) : pmc N c (i : Int) = enc (mo N c i) := rfl
theorem wk_9 {f : Nat → Nat} {q : Nat} (hq : q < 9) : ∀ n, wk f q n 9 = 9
  | 0 => rfl
  | n + 1 => by unfold wk; rw [if_neg (by omega)]
theorem L0_cr {m : Mem} {N c q : Nat} (h2 : 2 ≤ N) (h6 : N ≤ 6) (hq : q < N) (a2 : rd m 31 2 = (N : Int)) (h33 : ∀ j : Nat, j ≤ q → rd m 33 (j : Int) = pmc N c (j : Int)) {kk : Int → Option Int} : ∀ (d t i x : Nat), i + d = N → d < t → (x = 9 ∨ x < N) → L0_closesRing_12 m (q : Int) kk t (enc x) (i : Int) = kk (enc (wk (mo N c) q d x)) := by
  intro d
  induction d with
  | zero =>
    intro t i x h0 h1 hx
    obtain ⟨t, rfl⟩ : ∃ i, t = i + 1 := ⟨t - 1, by omega⟩
    rw [L0_closesRing_12, a2, if_pos (by omega)]; rfl
  | succ d ih =>
    intro t i x h0 h1 hx
    obtain ⟨t, rfl⟩ : ∃ i, t = i + 1 := ⟨t - 1, by omega⟩
    rw [L0_closesRing_12, a2, if_neg (by omega)]
    by_cases z : x = 9
    · rw [z, wk_9 (by omega)]
      rw [if_pos (show enc 9 < 0 by unfold enc; rw [if_pos rfl]; omega)]
    · have xn : x < N := by omega
      have ex : enc x = (x : Int) := if_neg z
      rw [ex, if_neg (by omega)]
      have ew : wk (mo N c) q (d + 1) x = if x < q then wk (mo N c) q d (mo N c x) else x := rfl
      rw [ew]
      by_cases y : x < q
      · rw [if_neg (by omega), if_pos y, gd_t (by omega), h33 x (by omega), enc_pmc, w32_id (x := (i : Int) + 1) (by omega) (by omega), show (i : Int) + 1 = ((i + 1 : Nat) : Int) by omega]
        have o := mo_r (N := N) (c := c) (p := x) h2
        exact ih t (i + 1) (mo N c x) (by omega) (by omega) (by omega)
      · rw [if_pos (by omega), if_neg y, ex]
theorem wk_r {N c q : Nat} (h2 : 2 ≤ N) : ∀ n x, (x = 9 ∨ x < N) → (wk (mo N c) q n x = 9 ∨ wk (mo N c) q n x < N)
  | 0, x, h => h
  | n + 1, x, h => by
    unfold wk
    split
    · have o := mo_r (N := N) (c := c) (p := x) h2
      exact wk_r h2 n _ (by omega)
    · exact h
theorem cr_e {m : Mem} {N c q : Nat} (h2 : 2 ≤ N) (h6 : N ≤ 6) (hq : q < N) (a2 : rd m 31 2 = (N : Int)) (h33 : ∀ j : Nat, j ≤ q → rd m 33 (j : Int) = pmc N c (j : Int)) : F0_closesRing m (q : Int) = some (if wk (mo N c) q N (mo N c q) = q then 1 else 0) := by
  have o := mo_r (N := N) (c := c) (p := q) h2
  unfold F0_closesRing
  rw [gd_t (by omega), h33 q (Nat.le_refl _), enc_pmc, show ((0 : Int)) = ((0 : Nat) : Int) from rfl, L0_cr h2 h6 hq a2 h33 N FU 0 (mo N c q) (by omega) (by rw [FU_eq]; omega) (by omega)]
  have w := wk_r (N := N) (c := c) (q := q) h2 N (mo N c q) (by omega)
  try dsimp only
  by_cases z : wk (mo N c) q N (mo N c q) = q
  · rw [z, if_pos rfl]
    have : enc q = (q : Int) := if_neg (by omega)
    rw [this, if_neg (by omega)]
  · rw [if_neg z]
    have : enc (wk (mo N c) q N (mo N c q)) ≠ (q : Int) := by unfold enc; split <;> omega
    rw [if_pos this]
/-- nothing better among the codes that begin as c does up to the place q -/
def Sk (M : Mem) (N c q : Nat) (s : List Nat × Int) : Prop := ∀ x, x / N ^ (N - 1 - q) = c / N ^ (N - 1 - q) → VB M N x = false ∨ (s.1.length ≠ 0 ∧ s.2 < KS M N x)
theorem sk_pre {N c x q j : Nat} (hq : q < N) (h : x / N ^ (N - 1 - q) = c / N ^ (N - 1 - q)) (hj : j ≤ q) : mo N x j = mo N c j :=
  mo_pre (p := q + 1) (by omega) (by omega) (by rw [show N - (q + 1) = N - 1 - q by omega]; exact h)
theorem sk_root {M : Mem} {N c q j : Nat} {s : List Nat × Int} (hq : q < N) (hj : j < q) (h1 : mo N c q = 9) (h2 : mo N c j = 9) : Sk M N c q s := fun x hx => by
  refine Or.inl (VB_f (fun h => ?_))
  obtain ⟨⟨r, r0, r1⟩, _⟩ := h.1
  have a := (r1 q hq).mp (by rw [sk_pre hq hx (Nat.le_refl _)]; exact h1)
  have b := (r1 j (by omega)).mp (by rw [sk_pre hq hx (by omega)]; exact h2)
  omega
theorem sk_none {M : Mem} {N c : Nat} {s : List Nat × Int} (h2 : 2 ≤ N) (h : ∀ j, j < N → mo N c j ≠ 9) : Sk M N c (N - 1) s := fun x hx => by
  refine Or.inl (VB_f (fun h' => ?_))
  obtain ⟨⟨r, r0, r1⟩, _⟩ := h'.1
  have a := (r1 r r0).mpr rfl
  rw [sk_pre (q := N - 1) (by omega) hx (by omega)] at a
  exact h r r0 a
theorem sk_ring {M : Mem} {N c q : Nat} {s : List Nat × Int} (h2 : 2 ≤ N) (h6 : N ≤ 6) (hq : q < N) (h9 : mo N c q ≠ 9) (hw : wk (mo N c) q N (mo N c q) = q) : Sk M N c q s := fun x hx => by
  refine Or.inl (VB_f (fun h => ?_))
  have e := sk_pre hq hx (Nat.le_refl q)
  refine ring_no (q := q) h6 (okm_mo (c := x) h2) h.1.2 hq N (by rw [e]; exact h9) ?_
  rw [e, wk_c (g := mo N c) (fun v hv => sk_pre hq hx (by omega))]
  exact hw
theorem ES_ge {I : Int → Bool} {p a : Int → Int} (h : Acy I p) {v : Int} (hv : I v = true) : a v ≤ ES p a v := by
  rw [ES_e h hv]; split <;> omega
theorem sk_days {M : Mem} {N c q : Nat} {s : List Nat × Int} (h2 : 2 ≤ N) (h6 : N ≤ 6) (hq : q < N) (h9 : mo N c q ≠ 9) (hd : rd M 85 (rd M 103 (q : Int)) ≤ rd M 84 (rd M 103 ((mo N c q : Nat) : Int))) : Sk M N c q s := fun x hx => by
  refine Or.inl (VB_f (fun h => ?_))
  have e := sk_pre hq hx (Nat.le_refl q)
  have ac := acy_c h2 h6 h.1.2
  have qi : inN (N : Int) (q : Int) = true := inN_e.mpr ⟨by omega, by omega⟩
  have pe : pmc N x (q : Int) = ((mo N c q : Nat) : Int) := by rw [pmc_n, e, if_neg h9]
  have o := (mo_r (N := N) (c := c) (p := q) h2).resolve_left h9
  refine h.2 (q : Int) qi ⟨by rw [pe]; omega, ?_⟩
  rw [ES_e ac qi, pe, if_neg (by omega)]
  have g := ES_ge (a := fun v => rd M 84 (rd M 103 v)) ac (v := ((mo N c q : Nat) : Int)) (inN_e.mpr ⟨by omega, by omega⟩)
  try dsimp only at g ⊢
  omega
theorem sk_dear {n : Nat} {M m : Mem} (hI : Inv n M) {N c q t : Nat} {s : List Nat × Int} (hN : rd M 31 2 = (N : Int)) (h2 : 2 ≤ N) (h6 : N ≤ 6) (hq : q < N) (hp : PRD M m N t) (hl : LST m N s) (hd : rd m 31 4 < PC M N c (q + 1) + rd m 50 0) : Sk M N c q s := fun x hx => by
  obtain ⟨_, _, _, _, _, ht, ha⟩ := hp
  have tl := TI_le ht
  by_cases hT : TrC N x
  · right
    have ke := KS_e hI hN h2 h6 hT.2 ht
    have lb := AL_lb hI hN h2 h6 hT ht ha t 0 (by omega)
    have pe : PC M N x (q + 1) = PC M N c (q + 1) := PC_pre _ (fun j hj => sk_pre hq hx (by omega))
    have pl := PC_le hI N x (q + 1) (N - (q + 1))
    rw [show q + 1 + (N - (q + 1)) = N by omega] at pl
    have pb := PC_b hI N c (q + 1)
    have ab := AL_b hI ha t 0 (by omega)
    have s0 : sm (fun i => CS (BT M N x (rd m 49 i))) 0 = 0 := rfl
    rw [s0, show ((0 : Nat) : Int) = 0 from rfl] at lb
    rw [show ((0 : Nat) : Int) = 0 from rfl] at ab
    have l4 := hl.2.1
    by_cases z : s.1.length = 0
    · rw [if_pos z] at l4; omega
    · rw [if_neg z] at l4
      exact ⟨z, by omega⟩
  · exact Or.inl (VB_f (fun h => hT h.1))
def gA : Int → Mem → Option (Int × Mem) := fun v m => if v = 0 then some (1, m) else some (0, m)
def gB : Int → Mem → Option (Int × Mem) := fun v m => gd (0 ≤ v ∧ v < 7) <| some (rd m 47 v, m)
def GR (M : Mem) (N c : Nat) (s : List Nat × Int) (r : Int) (m' : Mem) : Prop := (r = 0 ∧ TrC N c ∧ (∀ j : Nat, j < N → rd m' 33 (j : Int) = pmc N c (j : Int)) ∧ rd m' 31 13 = PC M N c N) ∨ ∃ q, q < N ∧ r = ((N ^ (N - 1 - q) : Nat) : Int) ∧ Sk M N c q s
theorem L0_gr {n : Nat} {M : Mem} (hI : Inv n M) {N c t : Nat} {s : List Nat × Int} (hN : rd M 31 2 = (N : Int)) (h2 : 2 ≤ N) (h6 : N ≤ 6) (hc : c < N ^ N) : ∀ (d f p : Nat) (r : Int) (m : Mem), p + d = N → d < f → PRD M m N t → LST m N s → (∀ j : Nat, j < p → rd m 33 (j : Int) = pmc N c (j : Int)) → rd m 31 13 = PC M N c p → (∀ q, q < p → mo N c q ≠ 9 → wk (mo N c) q N (mo N c q) ≠ q) → ((r = 0 ∧ ∀ j, j < p → mo N c j ≠ 9) ∨ (r = 1 ∧ ∃ q, q < p ∧ ∀ j, j < p → (mo N c j = 9 ↔ j = q))) →
    ∃ r' m', L0_grow_9 (c : Int) gA gB gB f r (p : Int) m = some (r', m') ∧ (∀ k i, ¬ (k = 31 ∧ i = 13) → k ≠ 33 → m' k i = m k i) ∧ GR M N c s r' m' := by
  have cb : c < 2147483648 := by have := pw_b (N := N) (j := N) h6 h6; omega
  intro d
  induction d with
  | zero =>
    intro f p r m h0 h1 hp hl h33 h13 hw hr
    obtain ⟨f, rfl⟩ : ∃ i, f = i + 1 := ⟨f - 1, by omega⟩
    rw [L0_grow_9, hp.1.1, if_pos (by omega)]
    have pe : p = N := by omega
    subst pe
    unfold gA
    rcases hr with ⟨r0, hr⟩ | ⟨r1, q, q0, q1⟩
    · rw [if_pos r0]
      refine ⟨1, m, rfl, fun _ _ _ _ => rfl, Or.inr ⟨p - 1, by omega, ?_, sk_none h2 hr⟩⟩
      rw [show p - 1 - (p - 1) = 0 by omega]; rfl
    · rw [if_neg (by omega)]
      exact ⟨0, m, rfl, fun _ _ _ _ => rfl, Or.inl ⟨rfl, ⟨⟨q, q0, q1⟩, rkm_of h6 (okm_mo h2) hw⟩, h33, h13⟩⟩
  | succ d ih =>
    intro f p r m h0 h1 hp hl h33 h13 hw hr
    obtain ⟨f, rfl⟩ : ∃ i, f = i + 1 := ⟨f - 1, by omega⟩
    have hp' := hp
    obtain ⟨p1, p3, p4, p5, p6, p7, p8⟩ := hp
    have o := mo_r (N := N) (c := c) (p := p) h2
    have pb := PC_b hI N c p
    have pwb := pw_b (N := N) (j := N - 1 - p) h6 (by omega)
    rw [L0_grow_9, p1.1, if_neg (by omega), chosen_e p1 (by omega) cb, b1_v]
    simp only [jn_v]
    by_cases z : mo N c p = 9
    · rw [z, if_neg (by omega), gd_t (by omega), stw_v]
      obtain ⟨q, hq⟩ : ∃ q, q = wr m 33 (p : Int) (-1) := ⟨_, rfl⟩
      rw [← hq]
      have qo : ∀ k i, k ≠ 33 → q k i = m k i := fun k i a => by rw [hq, wr_ki (by omega)]
      rcases hr with ⟨r0, hr⟩ | ⟨r1, a, a0, a1⟩
      · rw [if_pos r0, w32_id (x := (p : Int) + 1) (by omega) (by omega), show (p : Int) + 1 = ((p + 1 : Nat) : Int) by omega]
        obtain ⟨r', m', x, y, w⟩ := ih f (p + 1) 1 q (by omega) (by omega) (PRD_s hp' (fun k i _ a _ _ _ _ _ _ _ _ _ => qo k i a)) (LST_s hl (rd_eq (qo _ _ (by omega))) (rd_eq (qo _ _ (by omega))) (fun i => rd_eq (qo _ _ (by omega))) (fun i => rd_eq (qo _ _ (by omega)))) (fun j hj => by
          by_cases e : j = p
          · rw [e, hq, rd_wr_s, pmc_n, if_pos z]; exact w32_id (by omega) (by omega)
          · rw [hq, rd_wr_i (by omega)]; exact h33 j (by omega)) (by
          rw [rd_eq (qo _ _ (by omega)), h13, PC_1, if_pos z]; omega) (fun j hj h9 => by
          by_cases e : j = p
          · rw [e] at h9; exact absurd z h9
          · exact hw j (by omega) h9) (Or.inr ⟨rfl, p, by omega, fun j hj => by
          by_cases e : j = p
          · rw [e]; exact ⟨fun _ => rfl, fun _ => z⟩
          · exact ⟨fun h => absurd h (hr j (by omega)), fun h => absurd h e⟩⟩)
        exact ⟨r', m', x, fun k i a b => by rw [y k i a b]; exact qo k i b, w⟩
      · rw [if_neg (by omega)]
        unfold gB
        rw [gd_t (by omega), rd_eq (qo 47 (p : Int) (by omega)), p1.2.2.2 p (by omega)]
        exact ⟨_, q, rfl, fun k i _ b => qo k i b, Or.inr ⟨p, by omega, rfl, sk_root (by omega) a0 z ((a1 a a0).mpr rfl)⟩⟩
    · have o' := o.resolve_left z
      have wt := Wt_b hI N 16 (mo N c p) p
      have e6 : w32 (w32 (((mo N c p : Nat) : Int) * 6) + (p : Int)) = 6 * ((mo N c p : Nat) : Int) + (p : Int) := by rw [w32_id (x := ((mo N c p : Nat) : Int) * 6) (by omega) (by omega), w32_id (by omega) (by omega)]; omega
      rw [if_pos (show ((mo N c p : Nat) : Int) ≠ 9 by omega), gd_t (by omega), stw_v, e6, gd_t (by omega), stw_v, gd_t (by omega)]
      obtain ⟨q, hq⟩ : ∃ q, q = wr (wr m 33 (p : Int) ((mo N c p : Nat) : Int)) 31 13 (w32 (rd (wr m 33 (p : Int) ((mo N c p : Nat) : Int)) 31 13 + rd (wr m 33 (p : Int) ((mo N c p : Nat) : Int)) 48 (6 * ((mo N c p : Nat) : Int) + (p : Int)))) := ⟨_, rfl⟩
      rw [← hq]
      have qo : ∀ k i, ¬ (k = 31 ∧ i = 13) → k ≠ 33 → q k i = m k i := fun k i a b => by rw [hq, wr_ki a, wr_ki (by omega)]
      have q33 : ∀ j : Nat, j ≤ p → rd q 33 (j : Int) = pmc N c (j : Int) := fun j hj => by
        rw [hq, rd_wr_k (by omega)]
        by_cases e : j = p
        · rw [e, rd_wr_s, pmc_n, if_neg z]; exact w32_id (by omega) (by omega)
        · rw [rd_wr_i (by omega)]; exact h33 j (by omega)
      have q13 : rd q 31 13 = PC M N c (p + 1) := by
        rw [hq, rd_wr_s, rd_wr_k (by omega), rd_wr_k (by omega), h13, p6 (mo N c p) p o'.1 (by omega), PC_1, if_neg z, w32_id (x := PC M N c p + Wt M N 16 (mo N c p) p) (by omega) (by omega)]
        exact w32_id (by omega) (by omega)
      have hpq := PRD_s hp' (m' := q) (fun k i a b _ _ _ _ _ _ _ _ _ => qo k i (by omega) b)
      have hlq := LST_s hl (m' := q) (rd_eq (qo _ _ (by omega) (by omega))) (rd_eq (qo _ _ (by omega) (by omega))) (fun i => rd_eq (qo _ _ (by omega) (by omega))) (fun i => rd_eq (qo _ _ (by omega) (by omega)))
      have ab := AL_b hI hpq.2.2.2.2.2.2 t 0 (by omega)
      rw [show ((0 : Nat) : Int) = 0 from rfl] at ab
      have tl := TI_le hpq.2.2.2.2.2.1
      have pb' := PC_b hI N c (p + 1)
      have stop : Sk M N c p s → ∃ r' m', gB (p : Int) q = some (r', m') ∧ (∀ k i, ¬ (k = 31 ∧ i = 13) → k ≠ 33 → m' k i = m k i) ∧ GR M N c s r' m' := fun h => by
        unfold gB
        rw [gd_t (by omega), rd_eq (qo 47 (p : Int) (by omega) (by omega)), p1.2.2.2 p (by omega)]
        exact ⟨_, q, rfl, qo, Or.inr ⟨p, by omega, rfl, h⟩⟩
      have fin : ∃ r' m', (if rd q 35 (p : Int) ≤ rd q 34 ((mo N c p : Nat) : Int) then gB (p : Int) q else b1 (F0_closesRing q (p : Int)) fun r144 => if r144 = 0 then L0_grow_9 (c : Int) gA gB gB f r (w32 ((p : Int) + 1)) q else gB (p : Int) q) = some (r', m') ∧ (∀ k i, ¬ (k = 31 ∧ i = 13) → k ≠ 33 → m' k i = m k i) ∧ GR M N c s r' m' := by
        have d35 := (hpq.2.2.2.1 p (by omega)).2
        have d34 := (hpq.2.2.2.1 (mo N c p) o'.1).1
        by_cases dd : rd q 35 (p : Int) ≤ rd q 34 ((mo N c p : Nat) : Int)
        · rw [if_pos dd]
          exact stop (sk_days h2 h6 (by omega) z (by rw [← d35, ← d34]; exact dd))
        · rw [if_neg dd, cr_e h2 h6 (by omega) hpq.1.1 q33, b1_v]
          by_cases rg : wk (mo N c) p N (mo N c p) = p
          · rw [if_pos rg, if_neg (show ¬ ((1 : Int) = 0) by omega)]
            exact stop (sk_ring h2 h6 (by omega) z rg)
          · rw [if_neg rg, if_pos rfl, w32_id (x := (p : Int) + 1) (by omega) (by omega), show (p : Int) + 1 = ((p + 1 : Nat) : Int) by omega]
            obtain ⟨r', m', x, y, w⟩ := ih f (p + 1) r q (by omega) (by omega) hpq hlq (fun j hj => q33 j (by omega)) q13 (fun j hj h9 => by
              by_cases e : j = p
              · rw [e]; exact rg
              · exact hw j (by omega) h9) (by
              rcases hr with ⟨r0, hr⟩ | ⟨r1, a, a0, a1⟩
              · refine Or.inl ⟨r0, fun j hj => ?_⟩
                by_cases e : j = p
                · rw [e]; exact z
                · exact hr j (by omega)
              · refine Or.inr ⟨r1, a, by omega, fun j hj => ?_⟩
                by_cases e : j = p
                · rw [e]; exact ⟨fun h => absurd h z, fun h => by omega⟩
                · exact a1 j (by omega))
            exact ⟨r', m', x, fun k i a b => by rw [y k i a b]; exact qo k i a b, w⟩
      rw [q13, w32_id (x := PC M N c (p + 1) + rd q 50 0) (by omega) (by omega)]
      by_cases dear : PC M N c (p + 1) + rd q 50 0 ≤ rd q 31 4
      · rw [if_pos dear, if_neg (show ¬ ((0 : Int) ≠ 0) from fun h => h rfl), gd_t (by omega), gd_t (by omega)]
        exact fin
      · rw [if_neg dear, if_pos (show (1 : Int) ≠ 0 by omega)]
        exact stop (sk_dear hI hN h2 h6 (by omega) hpq hlq (by omega))
theorem grow_c {n : Nat} {M m : Mem} (hI : Inv n M) {N c t : Nat} {s : List Nat × Int} (hN : rd M 31 2 = (N : Int)) (h2 : 2 ≤ N) (h6 : N ≤ 6) (hc : c < N ^ N) (hp : PRD M m N t) (hl : LST m N s) : ∃ r' m', F0_grow m (c : Int) = some (r', m') ∧ (∀ k i, ¬ (k = 31 ∧ i = 13) → k ≠ 33 → m' k i = m k i) ∧ GR M N c s r' m' := by
  unfold F0_grow
  rw [stw_v]
  obtain ⟨q, hq⟩ : ∃ q, q = wr m 31 13 0 := ⟨_, rfl⟩
  rw [← hq]
  have qo : ∀ k i, ¬ (k = 31 ∧ i = 13) → q k i = m k i := fun k i a => by rw [hq, wr_ki a]
  obtain ⟨r', m', x, y, w⟩ := L0_gr hI hN h2 h6 hc N FU 0 0 q (by omega) (by rw [FU_eq]; omega) (PRD_s hp (fun k i a _ _ _ _ _ _ _ _ _ _ => qo k i (by omega))) (LST_s hl (rd_eq (qo _ _ (by omega))) (rd_eq (qo _ _ (by omega))) (fun i => rd_eq (qo _ _ (by omega))) (fun i => rd_eq (qo _ _ (by omega)))) (fun j hj => by omega) (by
    rw [hq, rd_wr_s]; exact w32_id (by omega) (by omega)) (fun q hq => by omega) (Or.inl ⟨rfl, fun j hj => by omega⟩)
  exact ⟨r', m', x, fun k i a b => by rw [y k i a b]; exact qo k i a, w⟩
