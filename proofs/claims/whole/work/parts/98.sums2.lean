/-! sums over those of a set, told by their places -/
theorem sm_rel {L : Int → Int} {N : Nat} {I : Int → Bool} (hL : ∀ i : Nat, i < N → 0 ≤ L i ∧ L i < 12) (inj : ∀ i j : Nat, i < N → j < N → L i = L j → i = j) (hI : ∀ d : Int, I d = true ↔ ∃ i : Nat, i < N ∧ L i = d) (h : Int → Int) : sm (fun d => if I d = true then h d else 0) 12 = sm (fun i => h (L i)) N := by
  have e1 : sm (fun i => h (L i)) N = sm (fun i => sm (fun d => if L i = d then h (L i) else 0) 12) N := sm_c N (fun i x => (sm_at 12 (hL i x).1 (hL i x).2).symm)
  rw [e1, sm_swap]
  refine sm_c 12 (fun d x => ?_)
  by_cases z : I d = true
  · rw [if_pos z]
    obtain ⟨j, j0, j1⟩ := (hI d).mp z
    have e2 : sm (fun i => if ((j : Nat) : Int) = i then h d else 0) N = h d := sm_at N (by omega) (by omega)
    rw [← e2]
    refine sm_c N (fun i y => ?_)
    by_cases w : L i = d
    · have := inj i j y j0 (by rw [w, j1])
      rw [if_pos w, if_pos (by omega), w]
    · rw [if_neg w, if_neg (fun q => w (by rw [← q]; exact j1))]
  · rw [if_neg z]
    exact (sm_0 N (fun i y => if_neg (fun w => z ((hI d).mpr ⟨i, y, w⟩)))).symm
theorem sm_inN {N : Nat} (h : N ≤ 12) (g : Int → Int) : sm (fun d => if inN (N : Int) d = true then g d else 0) 12 = sm g N :=
  sm_rel (L := fun i => i) (fun i x => by omega) (fun i j _ _ e => by omega) (fun d => by
    rw [inN_e]
    constructor
    · intro a; exact ⟨d.toNat, by omega, by omega⟩
    · rintro ⟨i, a, b⟩; omega) g
theorem ite_and {a b : Prop} [Decidable a] [Decidable b] {x : Int} : (if a ∧ b then x else 0) = if a then (if b then x else 0) else 0 := by
  by_cases p : a
  · by_cases q : b
    · rw [if_pos ⟨p, q⟩, if_pos p, if_pos q]
    · rw [if_neg (fun r => q r.2), if_pos p, if_neg q]
  · rw [if_neg (fun r => p r.1), if_neg p]
/-- T' is T under other names -/
def Rel (T T' : TT) (L : Int → Int) (N : Nat) : Prop := N ≤ 12 ∧ (∀ i : Nat, i < N → 0 ≤ L i ∧ L i < 12) ∧ (∀ i j : Nat, i < N → j < N → L i = L j → i = j) ∧ T.1 = inN (N : Int) ∧ (∀ d : Int, T'.1 d = true ↔ ∃ i : Nat, i < N ∧ L i = d) ∧
  (∀ i : Nat, i < N → -1 ≤ T.2.1 i ∧ T.2.1 i < N ∧ T'.2.1 (L i) = if T.2.1 i < 0 then -1 else L (T.2.1 i)) ∧ (∀ (i : Nat) (f : Int), i < N → 0 ≤ f → f < 4 → T'.2.2.1 (L i) f = T.2.2.1 i f) ∧ T'.2.2.2 = T.2.2.2
theorem Rel_p {T T' : TT} {L : Int → Int} {N : Nat} (h : Rel T T' L N) {i v : Nat} (hi : i < N) (hv : v < N) : (T'.2.1 (L i) = L v) ↔ T.2.1 i = (v : Int) := by
  obtain ⟨h12, hL, inj, h1, h2, hp, ha, hs⟩ := h
  obtain ⟨p0, p1, p2⟩ := hp i hi
  have lv := hL v hv
  rw [p2]
  by_cases z : T.2.1 i < 0
  · rw [if_pos z]; constructor <;> intro _ <;> omega
  · rw [if_neg z]
    constructor
    · intro e
      have := inj (T.2.1 i).toNat v (by omega) hv (by rw [show (((T.2.1 i).toNat : Nat) : Int) = T.2.1 i by omega]; exact e)
      omega
    · intro e; rw [e]
theorem Uf_rel {T T' : TT} {L : Int → Int} {N : Nat} (h : Rel T T' L N) : ∀ (n v : Nat) (f : Int), v < N → 0 ≤ f → f < 4 → Uf T' n (L v) f = Uf T n (v : Int) f
  | 0, _, _, _, _, _ => rfl
  | n + 1, v, f, hv, f0, f1 => by
    have h' := h
    obtain ⟨h12, hL, inj, h1, h2, hp, ha, hs⟩ := h
    unfold Uf
    have e1 : sm (fun d => if T'.1 d = true ∧ T'.2.1 d = L v then mn4 (T'.2.2.1 d) (fun g => T'.2.2.2 f g + Uf T' n d g) else 0) 12 = sm (fun d => if T'.1 d = true then (if T'.2.1 d = L v then mn4 (T'.2.2.1 d) (fun g => T'.2.2.2 f g + Uf T' n d g) else 0) else 0) 12 := sm_c 12 (fun i _ => ite_and)
    have e2 : sm (fun d => if T.1 d = true ∧ T.2.1 d = v then mn4 (T.2.2.1 d) (fun g => T.2.2.2 f g + Uf T n d g) else 0) 12 = sm (fun d => if T.1 d = true then (if T.2.1 d = v then mn4 (T.2.2.1 d) (fun g => T.2.2.2 f g + Uf T n d g) else 0) else 0) 12 := sm_c 12 (fun i _ => ite_and)
    rw [e1, e2, sm_rel hL inj h2, h1, sm_inN h12]
    refine sm_c N (fun i x => ?_)
    have r := Rel_p h' x hv
    by_cases z : T.2.1 i = (v : Int)
    · rw [if_pos z, if_pos (r.mpr z)]
      refine mn4_c (fun g g0 g1 => ha i g x g0 g1) (fun g g0 g1 _ => ?_)
      rw [hs, Uf_rel h' n i g x g0 g1]
    · rw [if_neg z, if_neg (fun q => z (r.mp q))]
theorem CS_rel {T T' : TT} {L : Int → Int} {N : Nat} (h : Rel T T' L N) : CS T' = CS T := by
  have h' := h
  obtain ⟨h12, hL, inj, h1, h2, hp, ha, hs⟩ := h
  unfold CS
  have e1 : sm (fun r => if T'.1 r = true ∧ T'.2.1 r < 0 then mn4 (T'.2.2.1 r) (fun f => US T' r f) else 0) 12 = sm (fun r => if T'.1 r = true then (if T'.2.1 r < 0 then mn4 (T'.2.2.1 r) (fun f => US T' r f) else 0) else 0) 12 := sm_c 12 (fun i _ => ite_and)
  have e2 : sm (fun r => if T.1 r = true ∧ T.2.1 r < 0 then mn4 (T.2.2.1 r) (fun f => US T r f) else 0) 12 = sm (fun r => if T.1 r = true then (if T.2.1 r < 0 then mn4 (T.2.2.1 r) (fun f => US T r f) else 0) else 0) 12 := sm_c 12 (fun i _ => ite_and)
  rw [e1, e2, sm_rel hL inj h2, h1, sm_inN h12]
  refine sm_c N (fun i x => ?_)
  obtain ⟨p0, p1, p2⟩ := hp i x
  rw [p2]
  by_cases z : T.2.1 i < 0
  · rw [if_pos z, if_pos z, if_pos (by omega)]
    exact mn4_c (fun g g0 g1 => ha i g x g0 g1) (fun g g0 g1 _ => Uf_rel h' 12 i g x g0 g1)
  · have := hL (T.2.1 i).toNat (by omega)
    rw [show (((T.2.1 i).toNat : Nat) : Int) = T.2.1 i by omega] at this
    rw [if_neg z, if_neg z, if_neg (by omega)]
theorem Ef_rel {p p' a' : Int → Int} {L : Int → Int} {N : Nat} (hL : ∀ i : Nat, i < N → 0 ≤ L i ∧ L i < 12) (hp : ∀ i : Nat, i < N → -1 ≤ p i ∧ p i < N ∧ p' (L i) = if p i < 0 then -1 else L (p i)) : ∀ (n v : Nat), v < N → Ef p' a' n (L v) = Ef p (fun i => a' (L i)) n (v : Int)
  | 0, _, _ => rfl
  | n + 1, v, hv => by
    obtain ⟨p0, p1, p2⟩ := hp v hv
    unfold Ef
    rw [p2]
    by_cases z : p v < 0
    · rw [if_pos z, if_pos z, if_pos (by omega)]
    · have l := hL (p v).toNat (by omega)
      have ih := Ef_rel (a' := a') hL hp n (p v).toNat (by omega)
      rw [show (((p v).toNat : Nat) : Int) = p v by omega] at l ih
      rw [if_neg z, if_neg z, if_neg (by omega), ih]
/-! a clause that all tell: its cost is that of the ways from the mothers -/
theorem mn4_1 {a : Int → Bool} {h : Int → Int} {x : Int} (x0 : 0 ≤ x) (x1 : x < 4) (ha : ∀ g, 0 ≤ g → g < 4 → (a g = true ↔ g = x)) (hb : h x < 1000000) : mn4 a h = h x := by
  have l := mn4_le (h := h) x0 x1 ((ha x x0 x1).mpr rfl)
  rcases mn4_or a h with e | ⟨g, g0, g1, g2, e⟩
  · omega
  · have := (ha g g0 g1).mp g2
    rw [e, this]
theorem CS_plain {T : TT} {F : Int → Int} (hk : Tok T) (hF : ∀ v, T.1 v = true → 0 ≤ F v ∧ F v < 4 ∧ ∀ g, 0 ≤ g → g < 4 → (T.2.2.1 v g = true ↔ g = F v)) : CS T = sm (fun d => if T.1 d = true ∧ 0 ≤ T.2.1 d then T.2.2.2 (F (T.2.1 d)) (F d) else 0) 12 := by
  obtain ⟨A, hA⟩ : ∃ A : Int → Int, A = fun v => US T v (F v) := ⟨_, rfl⟩
  obtain ⟨W, hW⟩ : ∃ W : Int → Int, W = fun d => T.2.2.2 (F (T.2.1 d)) (F d) := ⟨_, rfl⟩
  have ub : ∀ v f, T.1 v = true → 0 ≤ f → f < 4 → 0 ≤ US T v f ∧ US T v f ≤ 1089 := fun v f hv f0 f1 => US_b hk (hk.1.1 v hv).1 (hk.1.1 v hv).2 f0 f1
  have a1 : ∀ v, T.1 v = true → A v = sm (fun d => if T.1 d = true ∧ T.2.1 d = v then W d + A d else 0) 12 := by
    intro v hv
    rw [hA]; dsimp only
    rw [US_e hk.1 hv]
    refine sm_c 12 (fun d x => ?_)
    by_cases z : T.1 d = true ∧ T.2.1 d = v
    · rw [if_pos z, if_pos z]
      obtain ⟨f0, f1, f2⟩ := hF d z.1
      obtain ⟨k0, k1, k2⟩ := hF v hv
      unfold BS
      have s := hk.2.2 (F v) (F d) k0 k1 f0 f1
      have u := ub d (F d) z.1 f0 f1
      rw [mn4_1 f0 f1 f2 (by omega), hW]; dsimp only
      rw [z.2]
    · rw [if_neg z, if_neg z]
  have a2 : sm (fun v => if T.1 v = true then A v else 0) 12 = sm (fun d => if T.1 d = true ∧ 0 ≤ T.2.1 d then W d + A d else 0) 12 := by
    have e : sm (fun v => if T.1 v = true then A v else 0) 12 = sm (fun v => sm (fun d => if T.1 v = true ∧ (T.1 d = true ∧ T.2.1 d = v) then W d + A d else 0) 12) 12 := by
      refine sm_c 12 (fun v x => ?_)
      by_cases z : T.1 v = true
      · rw [if_pos z, a1 v z]
        refine sm_c 12 (fun d y => ?_)
        by_cases w : T.1 d = true ∧ T.2.1 d = v
        · rw [if_pos w, if_pos ⟨z, w⟩]
        · rw [if_neg w, if_neg (fun q => w q.2)]
      · rw [if_neg z]
        exact (sm_0 12 (fun d y => if_neg (fun q => z q.1))).symm
    rw [e, sm_swap]
    refine sm_c 12 (fun d x => ?_)
    by_cases z : T.1 d = true ∧ 0 ≤ T.2.1 d
    · rw [if_pos z]
      have pi := hk.1.2.1 d z.1 z.2
      have pr := hk.1.1 _ pi
      have := sm_at (x := T.2.1 d) (y := W d + A d) 12 pr.1 pr.2
      refine Eq.trans (sm_c 12 (fun v y => ?_)) this
      by_cases w : T.2.1 d = v
      · rw [if_pos w, if_pos ⟨by rw [← w]; exact pi, z.1, w⟩]
      · rw [if_neg w, if_neg (fun q => w q.2.2)]
    · rw [if_neg z]
      exact sm_0 12 (fun v y => if_neg (fun q => z ⟨q.2.1, by rw [q.2.2]; exact (hk.1.1 _ q.1).1⟩))
  have a3 : sm (fun d => if T.1 d = true ∧ 0 ≤ T.2.1 d then W d + A d else 0) 12 = sm (fun d => if T.1 d = true ∧ 0 ≤ T.2.1 d then W d else 0) 12 + sm (fun d => if T.1 d = true ∧ 0 ≤ T.2.1 d then A d else 0) 12 := by
    rw [← sm_plus]
    refine sm_c 12 (fun d x => ?_)
    split <;> rfl
  have a4 : sm (fun v => if T.1 v = true then A v else 0) 12 = sm (fun d => if T.1 d = true ∧ 0 ≤ T.2.1 d then A d else 0) 12 + sm (fun d => if T.1 d = true ∧ T.2.1 d < 0 then A d else 0) 12 := by
    rw [← sm_plus]
    refine sm_c 12 (fun d x => ?_)
    by_cases z : T.1 d = true
    · by_cases w : 0 ≤ T.2.1 d
      · rw [if_pos z, if_pos ⟨z, w⟩, if_neg (by omega)]; omega
      · rw [if_pos z, if_neg (fun q => w q.2), if_pos ⟨z, by omega⟩]; omega
    · rw [if_neg z, if_neg (fun q => z q.1), if_neg (fun q => z q.1)]; rfl
  have a5 : CS T = sm (fun d => if T.1 d = true ∧ T.2.1 d < 0 then A d else 0) 12 := by
    unfold CS
    refine sm_c 12 (fun d x => ?_)
    by_cases z : T.1 d = true ∧ T.2.1 d < 0
    · rw [if_pos z, if_pos z]
      obtain ⟨f0, f1, f2⟩ := hF d z.1
      have u := ub d (F d) z.1 f0 f1
      rw [mn4_1 f0 f1 f2 (by omega), hA]
    · rw [if_neg z, if_neg z]
  rw [a5]
  have : sm (fun d => if T.1 d = true ∧ 0 ≤ T.2.1 d then W d else 0) 12 = sm (fun d => if T.1 d = true ∧ 0 ≤ T.2.1 d then T.2.2.2 (F (T.2.1 d)) (F d) else 0) 12 := by rw [hW]
  omega
/-! a clause that all can share costs nothing -/
theorem Uf_zero {T : TT} {f : Int} (f0 : 0 ≤ f) (f1 : f < 4) (ha : ∀ v, T.1 v = true → T.2.2.1 v f = true) (hs : T.2.2.2 f f = 0) : ∀ (n : Nat) (v : Int), Uf T n v f ≤ 0
  | 0, _ => Int.le_refl _
  | n + 1, v => by
    unfold Uf
    have := sm_le (g := fun d => if T.1 d = true ∧ T.2.1 d = v then mn4 (T.2.2.1 d) (fun g => T.2.2.2 f g + Uf T n d g) else 0) (h := fun _ => 0) 12 (fun d x => by
      by_cases z : T.1 d = true ∧ T.2.1 d = v
      · rw [if_pos z]
        have l := mn4_le (h := fun g => T.2.2.2 f g + Uf T n d g) f0 f1 (ha d z.1)
        have i := Uf_zero f0 f1 ha hs n d
        try dsimp only at l
        omega
      · rw [if_neg z]; exact Int.le_refl _)
    rw [sm_0 (g := fun _ => 0) 12 (fun _ _ => rfl)] at this
    exact this
theorem CS_zero {T : TT} {f : Int} (hk : Tok T) (f0 : 0 ≤ f) (f1 : f < 4) (ha : ∀ v, T.1 v = true → T.2.2.1 v f = true) (hs : T.2.2.2 f f = 0) : CS T = 0 := by
  have b := (CS_b hk).1
  have : CS T ≤ 0 := by
    unfold CS
    have := sm_le (g := fun r => if T.1 r = true ∧ T.2.1 r < 0 then mn4 (T.2.2.1 r) (fun f => US T r f) else 0) (h := fun _ => 0) 12 (fun d x => by
      by_cases z : T.1 d = true ∧ T.2.1 d < 0
      · rw [if_pos z]
        have l := mn4_le (h := fun f => US T d f) f0 f1 (ha d z.1)
        have i := Uf_zero f0 f1 ha hs 12 (d : Int)
        exact Int.le_trans l i
      · rw [if_neg z]; exact Int.le_refl _)
    rw [sm_0 (g := fun _ => 0) 12 (fun _ _ => rfl)] at this
    exact this
  omega
/-! a torn clause: each form that is told but the root's comes in along some way -/
def tl (T : TT) (d g : Int) : Prop := ∀ h, 0 ≤ h → h < 4 → T.2.2.1 d h = true → h = g
def Sf (T : TT) : Nat → Int → Int → Prop
  | 0, _, _ => False
  | n + 1, v, g => ∃ d, T.1 d = true ∧ T.2.1 d = v ∧ (tl T d g ∨ Sf T n d g)
noncomputable def s4 (e : Int → Int) (P : Int → Prop) : Int := sm (fun g => @ite _ (P g) (Classical.propDecidable _) (e g) 0) 4
theorem s4_le {e : Int → Int} {P : Int → Prop} (he : ∀ g, 0 ≤ g → g < 4 → 0 ≤ e g ∧ e g ≤ 99) : s4 e P ≤ 396 := by
  have := sm_le (g := fun g => @ite _ (P g) (Classical.propDecidable _) (e g) 0) (h := fun _ => 99) 4 (fun i x => by
    have := he i (by omega) (by omega)
    split <;> omega)
  have e : sm (fun _ => (99 : Int)) 4 = 396 := rfl
  unfold s4; omega
theorem s4_split {e : Int → Int} {P Q : Int → Prop} {h x : Int} (he : ∀ g, 0 ≤ g → g < 4 → 0 ≤ e g ∧ e g ≤ 99) (h0 : 0 ≤ h) (h1 : h < 4) (hx : 0 ≤ x) (hp : P h → e h ≤ x) (hq : ∀ g, 0 ≤ g → g < 4 → g ≠ h → P g → Q g) : s4 e P ≤ x + s4 e Q := by
  have e1 : sm (fun g => if h = g then x else 0) 4 = x := sm_at 4 h0 (by omega)
  unfold s4
  rw [← e1, ← sm_plus]
  refine sm_le 4 (fun g y => ?_)
  have b := he g (by omega) (by omega)
  by_cases p : P g
  · rw [if_pos p]
    by_cases z : h = g
    · rw [if_pos z]
      have := hp (by rw [z]; exact p)
      rw [z] at this
      split <;> omega
    · rw [if_neg z, if_pos (hq g (by omega) (by omega) (fun q => z q.symm) p)]; omega
  · rw [if_neg p]
    split <;> split <;> omega
theorem LB_e {T : TT} {e : Int → Int} (hk : Tok T) (he : ∀ g, 0 ≤ g → g < 4 → 0 ≤ e g ∧ e g ≤ 99) (hs : ∀ f g, 0 ≤ f → f < 4 → 0 ≤ g → g < 4 → f ≠ g → e g ≤ T.2.2.2 f g) : ∀ (n : Nat) (v f : Int), 0 ≤ f → f < 4 → s4 e (fun g => g ≠ f ∧ Sf T n v g) ≤ Uf T n v f
  | 0, v, f, _, _ => by
    have : s4 e (fun g => g ≠ f ∧ Sf T 0 v g) = 0 := sm_0 4 (fun g x => if_neg (fun q => q.2))
    rw [this]; exact Int.le_refl _
  | n + 1, v, f, f0, f1 => by
    have key : ∀ d, T.1 d = true → s4 e (fun g => g ≠ f ∧ (tl T d g ∨ Sf T n d g)) ≤ mn4 (T.2.2.1 d) (fun g => T.2.2.2 f g + Uf T n d g) := by
      intro d hd
      rcases mn4_or (T.2.2.1 d) (fun g => T.2.2.2 f g + Uf T n d g) with q | ⟨h, h0, h1, h2, q⟩
      · have := s4_le (P := fun g => g ≠ f ∧ (tl T d g ∨ Sf T n d g)) he; omega
      · have ih := LB_e hk he hs n d h h0 h1
        have sp := s4_split (P := fun g => g ≠ f ∧ (tl T d g ∨ Sf T n d g)) (Q := fun g => g ≠ h ∧ Sf T n d g) he h0 h1 (hk.2.2 f h f0 f1 h0 h1).1 (fun p => hs f h f0 f1 h0 h1 (fun z => p.1 z.symm)) (fun g g0 g1 z p => ⟨z, p.2.resolve_left (fun t => z (t h h0 h1 h2).symm)⟩)
        try dsimp only at q
        omega
    have e1 : sm (fun d => if T.1 d = true ∧ T.2.1 d = v then s4 e (fun g => g ≠ f ∧ (tl T d g ∨ Sf T n d g)) else 0) 12 ≤ Uf T (n + 1) v f := by
      unfold Uf
      refine sm_le 12 (fun d x => ?_)
      by_cases z : T.1 d = true ∧ T.2.1 d = v
      · rw [if_pos z, if_pos z]; exact key d z.1
      · rw [if_neg z, if_neg z]; exact Int.le_refl _
    refine Int.le_trans ?_ e1
    have e2 : sm (fun d => if T.1 d = true ∧ T.2.1 d = v then s4 e (fun g => g ≠ f ∧ (tl T d g ∨ Sf T n d g)) else 0) 12 = sm (fun d => sm (fun g => if T.1 d = true ∧ T.2.1 d = v then (@ite _ (g ≠ f ∧ (tl T d g ∨ Sf T n d g)) (Classical.propDecidable _) (e g) 0) else 0) 4) 12 := by
      refine sm_c 12 (fun d x => ?_)
      by_cases z : T.1 d = true ∧ T.2.1 d = v
      · simp only [if_pos z]; rfl
      · simp only [if_neg z]; exact (sm_0 4 (fun _ _ => rfl)).symm
    rw [e2, sm_swap]
    unfold s4
    refine sm_le 4 (fun g x => ?_)
    have b := he g (by omega) (by omega)
    have nn : ∀ i : Nat, i < 12 → 0 ≤ (if T.1 i = true ∧ T.2.1 i = v then (@ite _ ((g : Int) ≠ f ∧ (tl T i g ∨ Sf T n i g)) (Classical.propDecidable _) (e g) 0) else 0) := fun i _ => by
      split
      · split <;> omega
      · exact Int.le_refl _
    by_cases p : (g : Int) ≠ f ∧ Sf T (n + 1) v g
    · rw [if_pos p]
      obtain ⟨p1, d, d1, d2, d3⟩ := p
      have r := hk.1.1 d d1
      have t := sm_term (g := fun i => if T.1 i = true ∧ T.2.1 i = v then (@ite _ ((g : Int) ≠ f ∧ (tl T i g ∨ Sf T n i g)) (Classical.propDecidable _) (e g) 0) else 0) 12 d.toNat (by omega) nn
      rw [show ((d.toNat : Nat) : Int) = d by omega, if_pos ⟨d1, d2⟩, if_pos ⟨p1, d3⟩] at t
      exact t
    · rw [if_neg p]; exact sm_nn 12 nn
theorem Sf_mono {T : TT} {g : Int} : ∀ (n n' : Nat) (v : Int), n ≤ n' → Sf T n v g → Sf T n' v g
  | 0, _, _, _, h => absurd h (fun z => z)
  | n + 1, 0, _, h, _ => by omega
  | n + 1, n' + 1, v, h, ⟨d, a, b, c⟩ => ⟨d, a, b, c.imp id (Sf_mono n n' d (by omega))⟩
theorem Sf_up {T : TT} {g r : Int} {rk : Int → Nat} (hi : ∀ c, T.1 c = true → 0 ≤ T.2.1 c → T.1 (T.2.1 c) = true) (hr : ∀ c, T.1 c = true → 0 ≤ T.2.1 c → rk (T.2.1 c) < rk c) (hroot : ∀ c, T.1 c = true → T.2.1 c < 0 → c = r) : ∀ (K : Nat) (u : Int) (j : Nat), rk u ≤ K → T.1 u = true → j + rk u ≤ 12 → Sf T j u g → Sf T 12 r g
  | 0, u, j, hK, hu, hj, h => by
    have : ¬ 0 ≤ T.2.1 u := fun z => by have := hr u hu z; omega
    rw [← hroot u hu (by omega)]
    exact Sf_mono j 12 u (by omega) h
  | K + 1, u, j, hK, hu, hj, h => by
    by_cases z : 0 ≤ T.2.1 u
    · have := hr u hu z
      exact Sf_up hi hr hroot K (T.2.1 u) (j + 1) (by omega) (hi u hu z) (by omega) ⟨u, hu, rfl, Or.inr h⟩
    · rw [← hroot u hu (by omega)]
      exact Sf_mono j 12 u (by omega) h
theorem CS_root {T : TT} {r : Int} (r0 : 0 ≤ r) (r1 : r < 12) (hr : ∀ c, (T.1 c = true ∧ T.2.1 c < 0) ↔ c = r) : CS T = mn4 (T.2.2.1 r) (fun f => US T r f) := by
  unfold CS
  have := sm_at (x := r) (y := mn4 (T.2.2.1 r) (fun f => US T r f)) 12 r0 r1
  rw [← this]
  refine sm_c 12 (fun d x => ?_)
  by_cases z : r = d
  · rw [if_pos z, if_pos ((hr d).mpr z.symm), z]
  · rw [if_neg z, if_neg (fun q => z ((hr d).mp q).symm)]
theorem CS_lb {T : TT} {e : Int → Int} {P : Int → Prop} {r mx : Int} (hk : Tok T) (he : ∀ g, 0 ≤ g → g < 4 → 0 ≤ e g ∧ e g ≤ 99) (hs : ∀ f g, 0 ≤ f → f < 4 → 0 ≤ g → g < 4 → f ≠ g → e g ≤ T.2.2.2 f g) (hr : ∀ c, (T.1 c = true ∧ T.2.1 c < 0) ↔ c = r) (hP : ∀ g, 0 ≤ g → g < 4 → P g → ∃ v, T.1 v = true ∧ tl T v g) (m0 : 0 ≤ mx) (hm : ∀ g, 0 ≤ g → g < 4 → P g → e g ≤ mx) : s4 e P - mx ≤ CS T := by
  have hrI := ((hr r).mpr rfl).1
  have rr := hk.1.1 r hrI
  rw [CS_root rr.1 rr.2 hr]
  rcases mn4_or (T.2.2.1 r) (fun f => US T r f) with q | ⟨h, h0, h1, h2, q⟩
  · have := s4_le (P := P) he; omega
  · have lb := LB_e hk he hs 12 r h h0 h1
    obtain ⟨rk, k1, k2⟩ := hk.1.2.2
    have sp := s4_split (P := P) (Q := fun g => g ≠ h ∧ Sf T 12 r g) he h0 h1 m0 (hm h h0 h1) (fun g g0 g1 z p => ⟨z, by
      obtain ⟨v, v1, v2⟩ := hP g g0 g1 p
      by_cases w : v = r
      · rw [w] at v2
        exact absurd (v2 h h0 h1 h2).symm z
      · have pv : 0 ≤ T.2.1 v := by
          apply Classical.byContradiction
          intro x
          exact w ((hr v).mp ⟨v1, by omega⟩)
        have a := k1 v v1 pv
        have b := k2 v v1
        exact Sf_up hk.1.2.1 k1 (fun c x y => (hr c).mp ⟨x, y⟩) (rk (T.2.1 v)) (T.2.1 v) 1 (Nat.le_refl _) (hk.1.2.1 v v1 pv) (by omega) ⟨v, v1, rfl, Or.inl v2⟩⟩)
    try dsimp only at q
    rw [q]
    unfold US
    omega
