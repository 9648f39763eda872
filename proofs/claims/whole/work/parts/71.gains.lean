/-! the class's gains of a chapter -/
theorem pc4 : ∀ S : Fin 16, FJ6_bitCount_0f7a4 ((S : Nat) : Int) = (cnt (mb ((S : Nat) : Int)) 4 : Nat) := by decide +kernel
theorem band4 : ∀ S : Fin 16, ∀ a b c d : Bool, (band ((S : Nat) : Int) (bs (pat a b c d) 4) = 0 ↔ ∀ i : Fin 4, mb ((S : Nat) : Int) i = true → pat a b c d ((i : Nat) : Int) = false) := by decide +kernel
theorem bspat : ∀ a b c d : Bool, (0 ≤ bs (pat a b c d) 4 ∧ bs (pat a b c d) 4 < 16) ∧ ∀ i : Fin 4, mb (bs (pat a b c d) 4) i = pat a b c d ((i : Nat) : Int) := by decide +kernel
theorem pat_e (P : Int → Bool) {g : Int} (g0 : 0 ≤ g) (g1 : g < 4) : P g = pat (P 0) (P 1) (P 2) (P 3) g := by
  rcases four g0 g1 with rfl | rfl | rfl | rfl <;> rfl
theorem bs_pat (P : Int → Bool) : bs P 4 = bs (pat (P 0) (P 1) (P 2) (P 3)) 4 := bs_c 4 (fun i x => pat_e P (by omega) (by omega))
theorem bs_mb (P : Int → Bool) : (0 ≤ bs P 4 ∧ bs P 4 < 16) ∧ ∀ i : Nat, i < 4 → mb (bs P 4) i = P (i : Int) := by
  have := bspat (P 0) (P 1) (P 2) (P 3)
  rw [bs_pat]
  refine ⟨this.1, fun i x => ?_⟩
  rw [pat_e P (show (0 : Int) ≤ (i : Int) by omega) (by omega)]
  exact this.2 ⟨i, x⟩
theorem band_bs {S : Int} (P : Int → Bool) (h0 : 0 ≤ S) (h1 : S < 16) : band S (bs P 4) = 0 ↔ ∀ i : Nat, i < 4 → mb S i = true → P (i : Int) = false := by
  have := band4 ⟨S.toNat, by omega⟩ (P 0) (P 1) (P 2) (P 3)
  dsimp only at this
  rw [show ((S.toNat : Nat) : Int) = S by omega] at this
  rw [bs_pat, this]
  constructor
  · intro h i x y
    rw [pat_e P (show (0 : Int) ≤ (i : Int) by omega) (by omega)]; exact h ⟨i, x⟩ y
  · intro h i y
    rw [← pat_e P (show (0 : Int) ≤ ((i : Nat) : Int) by omega) (by have := i.2; omega)]; exact h i i.2 y
theorem pc_e {S : Int} (h0 : 0 ≤ S) (h1 : S < 16) : FJ6_bitCount_0f7a4 S = (cnt (mb S) 4 : Nat) := by
  have := pc4 ⟨S.toNat, by omega⟩
  dsimp only at this
  rw [show ((S.toNat : Nat) : Int) = S by omega] at this
  exact this
theorem ss_b {a : Nat → Int} {s : Nat → Bool} {B : Int} (ha : ∀ i, 0 ≤ a i ∧ a i ≤ B) : ∀ k, 0 ≤ ss a s k ∧ ss a s k ≤ B * k
  | 0 => ⟨Int.le_refl _, by show (0 : Int) ≤ B * ((0 : Nat) : Int); omega⟩
  | k + 1 => by
    have h := ss_b (s := s) ha k
    have := ha k
    have e : ss a s (k + 1) = ss a s k + if s k = true then a k else 0 := rfl
    have e2 : B * ((k + 1 : Nat) : Int) = B * (k : Int) + B := by rw [show ((k + 1 : Nat) : Int) = (k : Int) + 1 by omega, Int.mul_add, Int.mul_one]
    rw [e, e2]
    split <;> omega
def al30 (m : Mem) : Nat → Int := fun i => if i < 4 then rd m 30 (i : Int) else 0
theorem al30_b {m : Mem} (h : ∀ i : Nat, i < 4 → 0 ≤ rd m 30 (i : Int) ∧ rd m 30 (i : Int) ≤ 99) (i : Nat) : 0 ≤ al30 m i ∧ al30 m i ≤ 99 := by
  unfold al30; split
  · rename_i z; exact h i z
  · omega
theorem L4_gb26 {m : Mem} {S g : Int} {kk : Int → Option Mem} (hg : -1000 ≤ g ∧ g ≤ 1000) (ha : ∀ i : Nat, i < 4 → 0 ≤ rd m 30 (i : Int) ∧ rd m 30 (i : Int) ≤ 99) : ∀ (d n j : Nat), j + d = 4 → d < n → L4_gainBeside_26 m S kk n (g + ss (al30 m) (mb S) j) (j : Int) = kk (g + ss (al30 m) (mb S) 4) := by
  intro d
  induction d with
  | zero =>
    intro n j h0 h1
    obtain ⟨n, rfl⟩ : ∃ i, n = i + 1 := ⟨n - 1, by omega⟩
    have : j = 4 := by omega
    subst this
    rw [L4_gainBeside_26, if_pos (by omega)]
  | succ d ih =>
    intro n j h0 h1
    obtain ⟨n, rfl⟩ : ∃ i, n = i + 1 := ⟨n - 1, by omega⟩
    have sb := ss_b (a := al30 m) (s := mb S) (al30_b ha) j
    have aj := ha j (by omega)
    have e : ss (al30 m) (mb S) (j + 1) = ss (al30 m) (mb S) j + if mb S j = true then al30 m j else 0 := rfl
    have ej : al30 m j = rd m 30 (j : Int) := if_pos (by omega)
    have nx := ih n (j + 1) (by omega) (by omega)
    have bt' : band (shr S (j : Int)) 1 = if mb S j = true then 1 else 0 := bit_e (by omega) (by omega)
    rw [L4_gainBeside_26, if_neg (by omega), bt', w32_id (x := (j : Int) + 1) (by omega) (by omega), show (j : Int) + 1 = ((j + 1 : Nat) : Int) by omega, jn_v]
    by_cases z : mb S j = true
    · rw [if_pos z] at e
      rw [if_pos z, if_neg (by omega), gd_t (by omega)]
      dsimp only
      rw [w32_id (by omega) (by omega), ← nx, e, ej]
      congr 1; omega
    · rw [if_neg z] at e
      rw [if_neg z, if_pos rfl]
      dsimp only
      rw [w32_id (by omega) (by omega), ← nx, e]
      congr 1; omega
/-- from S on -/
theorem L4_gb3 {P : Int → Bool} {u g : Int} {al : Nat → Int} (hu : 0 ≤ u ∧ u ≤ 1) (hg : -1000 ≤ g ∧ g ≤ 1000) (hal : ∀ i, 0 ≤ al i ∧ al i ≤ 99) : ∀ (d n : Nat) (S : Int) (m : Mem), S + d = 16 → 0 ≤ S → d < n → (∀ i : Nat, i < 4 → rd m 30 (i : Int) = al i) → (∀ i, 4 ≤ i → al i = 0) → 
    ∃ m', L4_gainBeside_3 (bs P 4) u g n S m = some m' ∧ (∀ k i, k ≠ 28 → m' k i = m k i) ∧ ∀ b : Nat, b < 6 → rd m 28 (b : Int) ≤ rd m' 28 (b : Int) ∧ (∀ S' : Int, S ≤ S' → S' < 16 → (∀ i : Nat, i < 4 → mb S' i = true → P (i : Int) = false) → u + (cnt (mb S') 4 : Nat) = (b : Int) → g + ss al (mb S') 4 ≤ rd m' 28 (b : Int)) ∧ (rd m' 28 (b : Int) = rd m 28 (b : Int) ∨ ∃ S' : Int, S ≤ S' ∧ S' < 16 ∧ (∀ i : Nat, i < 4 → mb S' i = true → P (i : Int) = false) ∧ u + (cnt (mb S') 4 : Nat) = (b : Int) ∧ rd m' 28 (b : Int) = g + ss al (mb S') 4) := by
  intro d
  induction d with
  | zero =>
    intro n S m h0 h1 h2 h3 h4
    obtain ⟨n, rfl⟩ : ∃ i, n = i + 1 := ⟨n - 1, by omega⟩
    rw [L4_gainBeside_3, if_pos (by omega)]
    exact ⟨m, rfl, fun _ _ _ => rfl, fun b hb => ⟨Int.le_refl _, fun S' a b => by omega, Or.inl rfl⟩⟩
  | succ d ih =>
    intro n S m h0 h1 h2 h3 h4
    obtain ⟨n, rfl⟩ : ∃ i, n = i + 1 := ⟨n - 1, by omega⟩
    have c4 := cnt_le (mb S) 4
    have alm : al30 m = al := by
      funext i
      unfold al30
      by_cases z : i < 4
      · rw [if_pos z]; exact h3 i z
      · rw [if_neg z]; exact (h4 i (by omega)).symm
    have sb := ss_b (a := al) (s := mb S) hal 4
    have g26 := fun kk => L4_gb26 (m := m) (S := S) (g := g) (kk := kk) hg (fun i x => by rw [h3 i x]; exact hal i) 4 FU 0 (by omega) (by rw [FU_eq]; omega)
    have g26' : ∀ kk, L4_gainBeside_26 m S kk FU g 0 = kk (g + ss al (mb S) 4) := fun kk => by
      have := g26 kk
      rw [alm, show ss al (mb S) 0 = 0 from rfl, show g + 0 = g by omega] at this
      exact this
    rw [L4_gainBeside_3, if_neg (by omega), pc_e h1 (by omega), w32_id (x := S + 1) (by omega) (by omega), w32_id (x := u + (cnt (mb S) 4 : Nat)) (by omega) (by omega), jn_v]
    -- passing S by
    have skip : ¬ ((∀ i : Nat, i < 4 → mb S i = true → P (i : Int) = false) ∧ u + (cnt (mb S) 4 : Nat) < 6) → ∃ m', L4_gainBeside_3 (bs P 4) u g n (S + 1) m = some m' ∧ (∀ k i, k ≠ 28 → m' k i = m k i) ∧ ∀ b : Nat, b < 6 → rd m 28 (b : Int) ≤ rd m' 28 (b : Int) ∧ (∀ S' : Int, S ≤ S' → S' < 16 → (∀ i : Nat, i < 4 → mb S' i = true → P (i : Int) = false) → u + (cnt (mb S') 4 : Nat) = (b : Int) → g + ss al (mb S') 4 ≤ rd m' 28 (b : Int)) ∧ (rd m' 28 (b : Int) = rd m 28 (b : Int) ∨ ∃ S' : Int, S ≤ S' ∧ S' < 16 ∧ (∀ i : Nat, i < 4 → mb S' i = true → P (i : Int) = false) ∧ u + (cnt (mb S') 4 : Nat) = (b : Int) ∧ rd m' 28 (b : Int) = g + ss al (mb S') 4) := by
      intro hn
      obtain ⟨m', p1, p2, p3⟩ := ih n (S + 1) m (by omega) (by omega) (by omega) h3 h4
      refine ⟨m', p1, p2, fun b hb => ?_⟩
      obtain ⟨q1, q2, q3⟩ := p3 b hb
      refine ⟨q1, fun S' a b' c e => ?_, ?_⟩
      · by_cases z : S' = S
        · rw [z] at c e; exact absurd ⟨c, by omega⟩ hn
        · exact q2 S' (by omega) b' c e
      · rcases q3 with q3 | ⟨S', a, b', c, e, f⟩
        · exact Or.inl q3
        · exact Or.inr ⟨S', by omega, b', c, e, f⟩
    by_cases a : band S (bs P 4) = 0
    · have a' := (band_bs P h1 (by omega)).mp a
      rw [if_pos a, g26']
      by_cases b6 : 6 ≤ u + (cnt (mb S) 4 : Nat)
      · rw [if_pos b6]; exact skip (fun z => by have := z.2; omega)
      · rw [if_neg b6, gd_t (by omega), gd_t (by omega), stw_v, imx_e]
        obtain ⟨B, hB⟩ : ∃ B : Nat, (B : Int) = u + (cnt (mb S) 4 : Nat) := ⟨(u + (cnt (mb S) 4 : Nat)).toNat, by omega⟩
        rw [← hB]
        obtain ⟨q, hq⟩ : ∃ q, q = wr m 28 (B : Int) (max (rd m 28 (B : Int)) (g + ss al (mb S) 4)) := ⟨_, rfl⟩
        rw [← hq]
        have r28 := rd_in m 28 (B : Int)
        have qB : rd q 28 (B : Int) = max (rd m 28 (B : Int)) (g + ss al (mb S) 4) := by
          rw [hq, rd_wr_s]; exact w32_id (by have := r28.1; omega) (by have := r28.2; omega)
        have qo : ∀ b : Nat, b ≠ B → rd q 28 (b : Int) = rd m 28 (b : Int) := fun b z => by rw [hq, rd_wr_i (by omega)]
        obtain ⟨m', p1, p2, p3⟩ := ih n (S + 1) q (by omega) (by omega) (by omega) (fun i x => by rw [hq, rd_wr_k (by omega)]; exact h3 i x) h4
        refine ⟨m', p1, fun k i z => by rw [p2 k i z, hq, wr_ka z], fun b hb => ?_⟩
        obtain ⟨q1, q2, q3⟩ := p3 b hb
        by_cases z : b = B
        · subst z
          rw [qB] at q1 q3
          refine ⟨by omega, fun S' a1 b1 c e => ?_, ?_⟩
          · by_cases y : S' = S
            · rw [y]; omega
            · exact q2 S' (by omega) b1 c e
          · rcases q3 with q3 | ⟨S', a1, b1, c, e, f⟩
            · by_cases y : rd m 28 (b : Int) ≤ g + ss al (mb S) 4
              · exact Or.inr ⟨S, Int.le_refl _, by omega, a', hB.symm, by omega⟩
              · exact Or.inl (by omega)
            · exact Or.inr ⟨S', by omega, b1, c, e, f⟩
        · rw [qo b z] at q1 q3
          refine ⟨q1, fun S' a1 b1 c e => ?_, ?_⟩
          · by_cases y : S' = S
            · rw [y] at e; omega
            · exact q2 S' (by omega) b1 c e
          · rcases q3 with q3 | ⟨S', a1, b1, c, e, f⟩
            · exact Or.inl q3
            · exact Or.inr ⟨S', by omega, b1, c, e, f⟩
    · rw [if_neg a]
      exact skip (fun z => a ((band_bs P h1 (by omega)).mpr z.1))
/-- by sets -/
theorem gB_e {P : Int → Bool} {u g : Int} {al : Nat → Int} {m : Mem} (hu : 0 ≤ u ∧ u ≤ 1) (hg : -1000 ≤ g ∧ g ≤ 1000) (hal : ∀ i, 0 ≤ al i ∧ al i ≤ 99) (h3 : ∀ i : Nat, i < 4 → rd m 30 (i : Int) = al i) (h4 : ∀ i, 4 ≤ i → al i = 0) :
    ∃ m', F4_gainBeside m (bs P 4) u g = some m' ∧ (∀ k i, k ≠ 28 → m' k i = m k i) ∧ ∀ b : Nat, b < 6 → rd m 28 (b : Int) ≤ rd m' 28 (b : Int) ∧ (∀ s : Nat → Bool, (∀ i : Nat, i < 4 → s i = true → P (i : Int) = false) → u + (cnt s 4 : Nat) = (b : Int) → g + ss al s 4 ≤ rd m' 28 (b : Int)) ∧ (rd m' 28 (b : Int) = rd m 28 (b : Int) ∨ ∃ s : Nat → Bool, (∀ i : Nat, i < 4 → s i = true → P (i : Int) = false) ∧ u + (cnt s 4 : Nat) = (b : Int) ∧ rd m' 28 (b : Int) = g + ss al s 4) := by
  unfold F4_gainBeside
  obtain ⟨m', p1, p2, p3⟩ := L4_gb3 (P := P) hu hg hal 16 FU 0 m (by omega) (by omega) (by rw [FU_eq]; omega) h3 h4
  refine ⟨m', p1, p2, fun b hb => ?_⟩
  obtain ⟨q1, q2, q3⟩ := p3 b hb
  refine ⟨q1, fun s a e => ?_, ?_⟩
  · obtain ⟨⟨x0, x1⟩, y⟩ := bs_mb (fun i => s i.toNat)
    have ym : ∀ i, i < 4 → mb (bs (fun i => s i.toNat) 4) i = s i := fun i z => by
      rw [y i z]; show s ((i : Int)).toNat = s i
      rw [show ((i : Int)).toNat = i by omega]
    have := q2 (bs (fun i => s i.toNat) 4) x0 x1 (fun i z w => by rw [ym i z] at w; exact a i z w) (by rw [cnt_c (p := s) (q := mb (bs (fun i => s i.toNat) 4)) 4 ym]; exact e)
    rw [ss_c (t := s) 4 ym] at this
    exact this
  · rcases q3 with q3 | ⟨S', a1, b1, c, e, f⟩
    · exact Or.inl q3
    · exact Or.inr ⟨mb S', c, e, f⟩
