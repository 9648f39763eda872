/-! a tree of at most 12: who is in it, the mothers, the forms that each may have, the steps' costs -/
abbrev TT : Type := (Int → Bool) × (Int → Int) × (Int → Int → Bool) × (Int → Int → Int)
def Acy (I : Int → Bool) (p : Int → Int) : Prop := (∀ c, I c = true → 0 ≤ c ∧ c < 12) ∧ (∀ c, I c = true → 0 ≤ p c → I (p c) = true) ∧ ∃ rk : Int → Nat, (∀ c, I c = true → 0 ≤ p c → rk (p c) < rk c) ∧ ∀ c, I c = true → rk c < 12
/-- all is as it should be -/
def Tok (T : TT) : Prop := Acy T.1 T.2.1 ∧ (∀ d, T.1 d = true → ∃ g, 0 ≤ g ∧ g < 4 ∧ T.2.2.1 d g = true) ∧ ∀ f g, 0 ≤ f → f < 4 → 0 ≤ g → g < 4 → 0 ≤ T.2.2.2 f g ∧ T.2.2.2 f g ≤ 99
/-- the least of all under v, v of form f -/
def Uf (T : TT) : Nat → Int → Int → Int
  | 0, _, _ => 0
  | n + 1, v, f => sm (fun d => if T.1 d = true ∧ T.2.1 d = v then mn4 (T.2.2.1 d) (fun g => T.2.2.2 f g + Uf T n d g) else 0) 12
def US (T : TT) : Int → Int → Int := Uf T 12
def BS (T : TT) (d f : Int) : Int := mn4 (T.2.2.1 d) (fun g => T.2.2.2 f g + US T d g)
theorem Uf_s {T : TT} {rk : Int → Nat} (hr : ∀ c, T.1 c = true → 0 ≤ T.2.1 c → rk (T.2.1 c) < rk c) (hb : ∀ c, T.1 c = true → rk c < 12) : ∀ (n n' : Nat) (v f : Int), 0 ≤ v → T.1 v = true → 12 ≤ n + rk v → 12 ≤ n' + rk v → Uf T n v f = Uf T n' v f
  | 0, n', v, f, h0, hv, h, h' => by have := hb v hv; omega
  | n + 1, 0, v, f, h0, hv, h, h' => by have := hb v hv; omega
  | n + 1, n' + 1, v, f, h0, hv, h, h' => by
    unfold Uf
    refine sm_c 12 (fun i x => ?_)
    by_cases z : T.1 i = true ∧ T.2.1 i = v
    · rw [if_pos z, if_pos z]
      have := hr i z.1 (by rw [z.2]; exact h0)
      rw [z.2] at this
      refine mn4_c (fun _ _ _ => rfl) (fun g _ _ _ => ?_)
      rw [Uf_s hr hb n n' i g (by omega) z.1 (by omega) (by omega)]
    · rw [if_neg z, if_neg z]
theorem US_e {T : TT} (h : Acy T.1 T.2.1) {v f : Int} (hv : T.1 v = true) : US T v f = sm (fun d => if T.1 d = true ∧ T.2.1 d = v then BS T d f else 0) 12 := by
  obtain ⟨a, b, rk, c, e⟩ := h
  show Uf T (11 + 1) v f = _
  unfold Uf
  refine sm_c 12 (fun i x => ?_)
  by_cases z : T.1 i = true ∧ T.2.1 i = v
  · rw [if_pos z, if_pos z]
    have := c i z.1 (by rw [z.2]; exact (a v hv).1)
    unfold BS
    refine mn4_c (fun _ _ _ => rfl) (fun g _ _ _ => ?_)
    show _ + Uf T 11 i g = _ + Uf T 12 i g
    rw [Uf_s c e 11 12 i g (by omega) z.1 (by omega) (by omega)]
  · rw [if_neg z, if_neg z]
/-! how many are under v -/
def anc (T : TT) (w : Int) : Nat → Int
  | 0 => w
  | i + 1 => if T.1 (anc T w i) = true then T.2.1 (anc T w i) else -1
def Kf (T : TT) : Nat → Int → Int
  | 0, _ => 0
  | n + 1, v => sm (fun d => if T.1 d = true ∧ T.2.1 d = v then 1 + Kf T n d else 0) 12
def hit (T : TT) (n : Nat) (w v : Int) : Int := sm (fun i => if anc T w (i.toNat + 1) = v then 1 else 0) n
theorem Kf_hit {T : TT} (ha : ∀ c, T.1 c = true → 0 ≤ c ∧ c < 12) : ∀ (n : Nat) (v : Int), 0 ≤ v → Kf T n v = sm (fun w => hit T n w v) 12
  | 0, v, h => (sm_0 12 (fun _ _ => rfl)).symm
  | n + 1, v, h => by
    unfold Kf
    have step : ∀ d : Int, 0 ≤ d → d < 12 → 1 + Kf T n d = sm (fun w => sm (fun i => if anc T w i.toNat = d then 1 else 0) (n + 1)) 12 := by
      intro d d0 d1
      rw [Kf_hit ha n d d0]
      have e1 : sm (fun w => if d = w then 1 else 0) 12 = 1 := sm_at 12 d0 d1
      refine Eq.trans (b := sm (fun w => if d = w then 1 else 0) 12 + sm (fun w => hit T n w d) 12) (by rw [e1]) ?_
      rw [← sm_plus]
      refine sm_c 12 (fun w x => ?_)
      rw [sm_sh]
      show (if d = (w : Int) then 1 else 0) + hit T n w d = (if anc T w (0 : Int).toNat = d then 1 else 0) + _
      congr 1
      · show _ = if (w : Int) = d then (1 : Int) else 0
        by_cases z : d = w
        · rw [if_pos z, if_pos z.symm]
        · rw [if_neg z, if_neg (fun q => z q.symm)]
      · unfold hit
        refine sm_c n (fun i y => ?_)
        rw [show ((i : Int) + 1).toNat = (i : Int).toNat + 1 by omega]
    have e2 : sm (fun d => if T.1 d = true ∧ T.2.1 d = v then 1 + Kf T n d else 0) 12 = sm (fun d => sm (fun w => sm (fun i => if (T.1 d = true ∧ T.2.1 d = v) then (if anc T w i.toNat = d then 1 else 0) else 0) (n + 1)) 12) 12 := by
      refine sm_c 12 (fun d x => ?_)
      by_cases z : T.1 d = true ∧ T.2.1 d = v
      · simp only [if_pos z]
        exact step d (by omega) (by omega)
      · simp only [if_neg z]
        exact (sm_0 12 (fun w y => sm_0 (n + 1) (fun i y => rfl))).symm
    rw [e2, sm_swap]
    refine sm_c 12 (fun w x => ?_)
    rw [sm_swap]
    unfold hit
    refine sm_c (n + 1) (fun i y => ?_)
    rw [show (i : Int).toNat = i by omega]
    show _ = if (if T.1 (anc T w i) = true then T.2.1 (anc T w i) else -1) = v then (1 : Int) else 0
    by_cases z : T.1 (anc T w i) = true
    · rw [if_pos z]
      have b := ha _ z
      have := sm_at (x := anc T w i) (y := if T.2.1 (anc T w i) = v then 1 else 0) 12 b.1 b.2
      rw [← this]
      refine sm_c 12 (fun d u => ?_)
      by_cases q : anc T w i = d
      · rw [if_pos q, if_pos q, ← q]
        by_cases r : T.2.1 (anc T w i) = v
        · rw [if_pos r, if_pos ⟨z, r⟩]
        · rw [if_neg r, if_neg (fun s => r s.2)]
      · rw [if_neg q, if_neg q]; split <;> rfl
    · rw [if_neg z, if_neg (by omega)]
      refine sm_0 12 (fun d u => ?_)
      by_cases q : anc T w i = d
      · rw [if_neg]; intro s; rw [q] at z; exact z s.1
      · rw [if_neg q]; split <;> rfl
theorem anc_in {T : TT} {w : Int} : ∀ (j i : Nat), i ≤ j → 0 ≤ anc T w j → (∀ c, T.1 c = true → 0 ≤ c ∧ c < 12) → i < j → T.1 (anc T w i) = true
  | 0, i, h, _, _, h' => by omega
  | j + 1, i, h, hj, ha, h' => by
    have e : anc T w (j + 1) = if T.1 (anc T w j) = true then T.2.1 (anc T w j) else -1 := rfl
    by_cases z : T.1 (anc T w j) = true
    · by_cases q : i = j
      · rw [q]; exact z
      · exact anc_in j i (by omega) (ha _ z).1 ha (by omega)
    · rw [if_neg z] at e; omega
theorem anc_rk {T : TT} {w : Int} {rk : Int → Nat} (ha : ∀ c, T.1 c = true → 0 ≤ c ∧ c < 12) (hr : ∀ c, T.1 c = true → 0 ≤ T.2.1 c → rk (T.2.1 c) < rk c) (i : Nat) : ∀ j : Nat, i < j → 0 ≤ anc T w j → rk (anc T w j) < rk (anc T w i)
  | 0, h, _ => by omega
  | j + 1, h, hj => by
    have e : anc T w (j + 1) = if T.1 (anc T w j) = true then T.2.1 (anc T w j) else -1 := rfl
    by_cases z : T.1 (anc T w j) = true
    · rw [if_pos z] at e
      have := hr _ z (by omega)
      rw [← e] at this
      by_cases q : i = j
      · rw [q]; exact this
      · have := anc_rk ha hr i j (by omega) (ha _ z).1; omega
    · rw [if_neg z] at e; omega
theorem hit_1 {T : TT} (h : Acy T.1 T.2.1) {n : Nat} {w v : Int} (hv : 0 ≤ v) : hit T n w v ≤ if w = v then 0 else 1 := by
  obtain ⟨a, b, rk, c, e⟩ := h
  unfold hit
  by_cases z : w = v
  · rw [if_pos z, sm_0 n (fun i x => ?_)]
    · exact Int.le_refl _
    · rw [if_neg]
      intro q
      have := anc_rk (w := w) a c 0 (i + 1) (by omega) (by rw [show (i : Int).toNat = i by omega] at q; omega)
      rw [show (i : Int).toNat = i by omega] at q
      rw [q] at this
      have : rk v < rk w := this
      rw [z] at this; omega
  · rw [if_neg z]
    refine sm_one n (fun i x => ?_) (fun i j x y p q => ?_)
    · split
      · exact Or.inr rfl
      · exact Or.inl rfl
    · rw [show (i : Int).toNat = i by omega] at p
      rw [show (j : Int).toNat = j by omega] at q
      have p' : anc T w (i + 1) = v := by split at p; assumption; omega
      have q' : anc T w (j + 1) = v := by split at q; assumption; omega
      rcases Nat.lt_trichotomy i j with u | u | u
      · have := anc_rk (w := w) a c (i + 1) (j + 1) (by omega) (by omega); rw [p', q'] at this; omega
      · exact u
      · have := anc_rk (w := w) a c (j + 1) (i + 1) (by omega) (by omega); rw [p', q'] at this; omega
theorem Kf_11 {T : TT} (h : Acy T.1 T.2.1) {n : Nat} {v : Int} (hv : 0 ≤ v) (hv' : v < 12) : Kf T n v ≤ 11 := by
  rw [Kf_hit h.1 n v hv]
  have e := sm_le (g := fun w => hit T n w v) (h := fun w => if w = v then 0 else 1) 12 (fun i x => hit_1 h hv)
  have e1 := sm_add (g := fun w => if w = v then 0 else 1) (h := fun _ => 1) (x := 1) 12 v.toNat (by omega) (fun i x y => by rw [if_neg (by omega)]) (by rw [if_pos (by omega)]; rfl)
  have e2 : sm (fun _ => (1 : Int)) 12 = 12 := rfl
  omega
theorem Kf_nn {T : TT} : ∀ (n : Nat) (v : Int), 0 ≤ Kf T n v
  | 0, v => Int.le_refl _
  | n + 1, v => by
    unfold Kf
    refine sm_nn 12 (fun i x => ?_)
    split
    · have := Kf_nn (T := T) n i; omega
    · exact Int.le_refl _
theorem Uf_b {T : TT} (h : Tok T) : ∀ (n : Nat) (v f : Int), 0 ≤ v → v < 12 → 0 ≤ f → f < 4 → 0 ≤ Uf T n v f ∧ Uf T n v f ≤ 99 * Kf T n v
  | 0, v, f, _, _, _, _ => ⟨Int.le_refl _, by show (0 : Int) ≤ 99 * 0; omega⟩
  | n + 1, v, f, v0, v1, f0, f1 => by
    have key : ∀ d : Nat, d < 12 → T.1 d = true → 0 ≤ mn4 (T.2.2.1 d) (fun g => T.2.2.2 f g + Uf T n d g) ∧ mn4 (T.2.2.1 d) (fun g => T.2.2.2 f g + Uf T n d g) ≤ 99 * (1 + Kf T n d) := by
      intro d d0 d1
      obtain ⟨g, g0, g1, g2⟩ := h.2.1 d d1
      have k := Kf_11 h.1 (n := n) (v := d) (by omega) (by omega)
      have b := Uf_b h n d g (by omega) (by omega) g0 g1
      have s := h.2.2 f g f0 f1 g0 g1
      refine ⟨mn4_nn (fun g' x y _ => ?_), (mn4_lt (B := 99 * (1 + Kf T n d)) g0 g1 g2 (by omega) (by omega)).1⟩
      have := (Uf_b h n d g' (by omega) (by omega) x y).1
      have := (h.2.2 f g' f0 f1 x y).1
      omega
    unfold Uf Kf
    constructor
    · refine sm_nn 12 (fun i x => ?_)
      split
      · rename_i z; exact (key i x z.1).1
      · exact Int.le_refl _
    · have e : 99 * sm (fun d => if T.1 d = true ∧ T.2.1 d = v then 1 + Kf T n d else 0) 12 = sm (fun d => 99 * (if T.1 d = true ∧ T.2.1 d = v then 1 + Kf T n d else 0)) 12 := by
        have : ∀ (g : Int → Int) (k : Nat), 99 * sm g k = sm (fun d => 99 * g d) k := by
          intro g k
          induction k with
          | zero => rfl
          | succ k ih => show 99 * (sm g k + g k) = sm (fun d => 99 * g d) k + 99 * g k; rw [← ih]; omega
        exact this _ 12
      rw [e]
      refine sm_le 12 (fun i x => ?_)
      by_cases z : T.1 i = true ∧ T.2.1 i = v
      · rw [if_pos z, if_pos z]; exact (key i x z.1).2
      · rw [if_neg z, if_neg z]; omega
theorem US_b {T : TT} (h : Tok T) {v f : Int} (v0 : 0 ≤ v) (v1 : v < 12) (f0 : 0 ≤ f) (f1 : f < 4) : 0 ≤ US T v f ∧ US T v f ≤ 1089 := by
  have := Uf_b h 12 v f v0 v1 f0 f1
  have := Kf_11 h.1 (n := 12) v0 v1
  unfold US; omega
theorem BS_b {T : TT} (h : Tok T) {d f : Int} (hd : T.1 d = true) (f0 : 0 ≤ f) (f1 : f < 4) : 0 ≤ BS T d f ∧ BS T d f ≤ 1188 := by
  have r := h.1.1 d hd
  obtain ⟨g, g0, g1, g2⟩ := h.2.1 d hd
  have b := US_b h r.1 r.2 g0 g1
  have s := h.2.2 f g f0 f1 g0 g1
  unfold BS
  refine ⟨mn4_nn (fun g' x y _ => ?_), (mn4_lt (B := 1188) g0 g1 g2 (by omega) (by omega)).1⟩
  have := (US_b h r.1 r.2 x y).1
  have := (h.2.2 f g' f0 f1 x y).1
  omega
theorem BS_US {T : TT} (h : Tok T) {d f : Int} (hd : T.1 d = true) (hp : 0 ≤ T.2.1 d) (f0 : 0 ≤ f) (f1 : f < 4) : BS T d f ≤ US T (T.2.1 d) f := by
  rw [US_e h.1 (h.1.2.1 d hd hp)]
  have r := h.1.1 d hd
  have := sm_term (g := fun x => if T.1 x = true ∧ T.2.1 x = T.2.1 d then BS T x f else 0) 12 d.toNat (by omega) (fun i x => by
    split
    · rename_i z; exact (BS_b h z.1 f0 f1).1
    · exact Int.le_refl _)
  rw [show ((d.toNat : Nat) : Int) = d by omega, if_pos ⟨hd, rfl⟩] at this
  exact this
/-! the least of all besides -/
def Vf (T : TT) : Nat → Int → Int → Int
  | 0, _, _ => 0
  | n + 1, v, f => if T.2.1 v < 0 then 0 else mn4 (T.2.2.1 (T.2.1 v)) (fun g => Vf T n (T.2.1 v) g + US T (T.2.1 v) g - BS T v g + T.2.2.2 g f)
def VS (T : TT) : Int → Int → Int := Vf T 12
theorem Vf_s {T : TT} {rk : Int → Nat} (hi : ∀ c, T.1 c = true → 0 ≤ T.2.1 c → T.1 (T.2.1 c) = true) (hr : ∀ c, T.1 c = true → 0 ≤ T.2.1 c → rk (T.2.1 c) < rk c) : ∀ (n n' : Nat) (v f : Int), T.1 v = true → rk v < n → rk v < n' → Vf T n v f = Vf T n' v f
  | 0, n', v, f, hv, h, h' => by omega
  | n + 1, 0, v, f, hv, h, h' => by omega
  | n + 1, n' + 1, v, f, hv, h, h' => by
    unfold Vf
    by_cases z : T.2.1 v < 0
    · rw [if_pos z, if_pos z]
    · rw [if_neg z, if_neg z]
      have := hr v hv (by omega)
      refine mn4_c (fun _ _ _ => rfl) (fun g _ _ _ => ?_)
      rw [Vf_s hi hr n n' _ g (hi v hv (by omega)) (by omega) (by omega)]
theorem VS_e {T : TT} (h : Acy T.1 T.2.1) {v f : Int} (hv : T.1 v = true) : VS T v f = if T.2.1 v < 0 then 0 else mn4 (T.2.2.1 (T.2.1 v)) (fun g => VS T (T.2.1 v) g + US T (T.2.1 v) g - BS T v g + T.2.2.2 g f) := by
  obtain ⟨a, b, rk, c, e⟩ := h
  show Vf T (11 + 1) v f = _
  unfold Vf
  by_cases z : T.2.1 v < 0
  · rw [if_pos z, if_pos z]
  · rw [if_neg z, if_neg z]
    have := c v hv (by omega)
    have := e v hv
    refine mn4_c (fun _ _ _ => rfl) (fun g _ _ _ => ?_)
    show Vf T 11 _ g + _ - _ + _ = Vf T 12 _ g + _ - _ + _
    rw [Vf_s b c 11 12 _ g (b v hv (by omega)) (by omega) (by omega)]
theorem Vf_b {T : TT} (h : Tok T) : ∀ (n : Nat) (v f : Int), n ≤ 12 → T.1 v = true → 0 ≤ f → f < 4 → 0 ≤ Vf T n v f ∧ Vf T n v f ≤ 1188 * n
  | 0, v, f, _, _, _, _ => ⟨Int.le_refl _, by show (0 : Int) ≤ 1188 * ((0 : Nat) : Int); omega⟩
  | n + 1, v, f, hn, hv, f0, f1 => by
    unfold Vf
    by_cases z : T.2.1 v < 0
    · rw [if_pos z]; omega
    · rw [if_neg z]
      have hp := h.1.2.1 v hv (by omega)
      have r := h.1.1 _ hp
      obtain ⟨g, g0, g1, g2⟩ := h.2.1 _ hp
      have b := Vf_b h n _ g (by omega) hp g0 g1
      have u := US_b h r.1 r.2 g0 g1
      have w := BS_b h hv g0 g1
      have s := h.2.2 g f g0 g1 f0 f1
      refine ⟨mn4_nn (fun g' x y _ => ?_), (mn4_lt (B := 1188 * ((n + 1 : Nat) : Int)) g0 g1 g2 (by omega) (by omega)).1⟩
      have := (Vf_b h n _ g' (by omega) hp x y).1
      have := BS_US h hv (by omega) x y
      have := (h.2.2 g' f x y f0 f1).1
      omega
theorem VS_b {T : TT} (h : Tok T) {v f : Int} (hv : T.1 v = true) (f0 : 0 ≤ f) (f1 : f < 4) : 0 ≤ VS T v f ∧ VS T v f ≤ 14256 := by
  have := Vf_b h 12 v f (by omega) hv f0 f1
  unfold VS; omega
/-- the cost of all trees of it: the least of each root -/
def CS (T : TT) : Int := sm (fun r => if T.1 r = true ∧ T.2.1 r < 0 then mn4 (T.2.2.1 r) (fun f => US T r f) else 0) 12
/-- what v may be in some way of least cost -/
def least4 (T : TT) (v : Int) : Int := mn4 (T.2.2.1 v) (fun f => US T v f + VS T v f)
