/-! how many codes of six make a tree: 7776, counted by the kernel -/
def kx (c p : Nat) : Nat := Nat.mod (Nat.div c (Nat.pow 6 (Nat.sub 5 p))) 6
def km (c p : Nat) : Nat := bif Nat.beq (kx c p) 5 then 9 else bif Nat.blt (kx c p) p then kx c p else Nat.succ (kx c p)
def kw (c q : Nat) : Nat → Nat → Nat
  | 0, x => x
  | n + 1, x => bif Nat.blt x q then kw c q n (km c x) else x
def kroot (c : Nat) : Nat → Bool
  | 0 => false
  | j + 1 => bif Nat.beq (km c j) 9 then true else kroot c j
def kbad (c q : Nat) : Bool := bif Nat.beq (km c q) 9 then kroot c q else Nat.beq (kw c q 6 (km c q)) q
def kc : Nat → Nat → Nat
  | 0, _ => 1
  | k + 1, c => Nat.add (bif kbad c (Nat.sub 5 k) then 0 else kc k c) (Nat.add (bif kbad (Nat.add c (Nat.pow 6 k)) (Nat.sub 5 k) then 0 else kc k (Nat.add c (Nat.pow 6 k))) (Nat.add (bif kbad (Nat.add c (Nat.mul 2 (Nat.pow 6 k))) (Nat.sub 5 k) then 0 else kc k (Nat.add c (Nat.mul 2 (Nat.pow 6 k)))) (Nat.add (bif kbad (Nat.add c (Nat.mul 3 (Nat.pow 6 k))) (Nat.sub 5 k) then 0 else kc k (Nat.add c (Nat.mul 3 (Nat.pow 6 k)))) (Nat.add (bif kbad (Nat.add c (Nat.mul 4 (Nat.pow 6 k))) (Nat.sub 5 k) then 0 else kc k (Nat.add c (Nat.mul 4 (Nat.pow 6 k)))) (bif kbad (Nat.add c (Nat.mul 5 (Nat.pow 6 k))) (Nat.sub 5 k) then 0 else kc k (Nat.add c (Nat.mul 5 (Nat.pow 6 k))))))))
theorem kc_0 : kc 5 0 = 1296 := by decide +kernel
theorem kc_1 : kc 5 7776 = 1296 := by decide +kernel
theorem kc_2 : kc 5 15552 = 1296 := by decide +kernel
theorem kc_3 : kc 5 23328 = 1296 := by decide +kernel
theorem kc_4 : kc 5 31104 = 1296 := by decide +kernel
theorem kc_5 : kc 5 38880 = 1296 := by decide +kernel
theorem km_pre {c c' j p : Nat} (hj : j < p) (hp : p ≤ 6) (h : c / 6 ^ (6 - p) = c' / 6 ^ (6 - p)) : km c j = km c' j := by
  have e : kx c j = kx c' j := xq_pre (N := 6) hj hp h
  unfold km; rw [e]
theorem km_e (c p : Nat) : km c p = mo 6 c p := by
  have e : kx c p = xq 6 c p := rfl
  unfold km mo
  rw [e]
  by_cases a : xq 6 c p = 5
  · rw [if_pos a, a]; rfl
  · have b : Nat.beq (xq 6 c p) 5 = false := by
      cases z : Nat.beq (xq 6 c p) 5 with
      | false => rfl
      | true => exact absurd (Nat.eq_of_beq_eq_true z) a
    rw [if_neg a, b]
    show (bif Nat.blt (xq 6 c p) p then xq 6 c p else Nat.succ (xq 6 c p)) = _
    by_cases d : xq 6 c p < p
    · rw [if_pos d, show Nat.blt (xq 6 c p) p = true from Nat.ble_eq_true_of_le d]; rfl
    · have g : Nat.blt (xq 6 c p) p = false := by
        cases z : Nat.blt (xq 6 c p) p with
        | false => rfl
        | true => exact absurd (Nat.le_of_ble_eq_true z) d
      rw [if_neg d, g]; rfl
theorem blt_e (x q : Nat) : Nat.blt x q = decide (x < q) := by
  cases z : Nat.blt x q with
  | true => exact (decide_eq_true (Nat.le_of_ble_eq_true z)).symm
  | false => exact (decide_eq_false (fun h => by rw [show Nat.blt x q = true from Nat.ble_eq_true_of_le h] at z; cases z)).symm
theorem kw_e (c q : Nat) : ∀ n x, kw c q n x = wk (mo 6 c) q n x
  | 0, x => rfl
  | n + 1, x => by
    unfold kw wk
    rw [blt_e, km_e]
    by_cases a : x < q
    · rw [if_pos a, decide_eq_true a]; exact kw_e c q n _
    · rw [if_neg a, decide_eq_false a]; rfl
theorem kw_pre {c c' q : Nat} (h : ∀ x, x < q → km c x = km c' x) : ∀ n x, kw c q n x = kw c' q n x
  | 0, x => rfl
  | n + 1, x => by
    unfold kw
    rw [blt_e]
    by_cases a : x < q
    · rw [decide_eq_true a, h x a]; exact kw_pre h n _
    · rw [decide_eq_false a]; rfl
theorem kroot_pre {c c' : Nat} : ∀ q, (∀ x, x < q → km c x = km c' x) → kroot c q = kroot c' q
  | 0, _ => rfl
  | q + 1, h => by
    unfold kroot
    rw [h q (by omega), kroot_pre q (fun x y => h x (by omega))]
theorem kbad_pre {c c' k : Nat} (hk : k ≤ 5) (h : c / 6 ^ k = c' / 6 ^ k) : kbad c (5 - k) = kbad c' (5 - k) := by
  have e : ∀ x, x < 6 - k → km c x = km c' x := fun x hx => km_pre hx (by omega) (by rw [show 6 - (6 - k) = k by omega]; exact h)
  unfold kbad
  rw [kw_pre (c := c) (c' := c') (fun x hx => e x (by omega)), kroot_pre (c := c) (c' := c') (5 - k) (fun x hx => e x (by omega)), e (5 - k) (by omega)]
theorem kroot_e {c : Nat} : ∀ q, kroot c q = true → ∃ j, j < q ∧ km c j = 9
  | 0, h => by cases h
  | q + 1, h => by
    unfold kroot at h
    cases z : Nat.beq (km c q) 9 with
    | true => exact ⟨q, by omega, Nat.eq_of_beq_eq_true z⟩
    | false =>
      rw [z] at h
      obtain ⟨j, a, b⟩ := kroot_e q h
      exact ⟨j, by omega, b⟩
theorem cnt_plus (p : Nat → Bool) (a : Nat) : ∀ b, cnt p (a + b) = cnt p a + cnt (fun i => p (a + i)) b
  | 0 => rfl
  | b + 1 => by
    show cnt p (a + b) + (if p (a + b) then 1 else 0) = cnt p a + (cnt (fun i => p (a + i)) b + (if p (a + b) then 1 else 0))
    rw [cnt_plus p a b]; omega
theorem cnt_none {p : Nat → Bool} : ∀ n, (∀ i, i < n → p i = false) → cnt p n = 0
  | 0, _ => rfl
  | n + 1, h => by
    show cnt p n + (if p n then 1 else 0) = 0
    rw [cnt_none n (fun i x => h i (by omega)), h n (by omega)]; rfl
theorem kc_le {V : Nat → Bool} (hV : ∀ c, V c = true → ∀ q, q < 6 → kbad c q = false) : ∀ k, k ≤ 6 → ∀ a, cnt (fun i => V (a * 6 ^ k + i)) (6 ^ k) ≤ kc k (a * 6 ^ k)
  | 0, _, a => cnt_le _ 1
  | k + 1, hk, a => by
    have one : ∀ c, c % 6 ^ k = 0 → cnt (fun i => V (c + i)) (6 ^ k) ≤ bif kbad c (5 - k) then 0 else kc k c := by
      intro c hc
      have pos : 0 < 6 ^ k := Nat.pow_pos (by omega)
      have ce : c = c / 6 ^ k * 6 ^ k := by have := Nat.div_add_mod c (6 ^ k); rw [Nat.mul_comm]; omega
      cases z : kbad c (5 - k) with
      | false =>
        show _ ≤ kc k c
        have := kc_le hV k (by omega) (c / 6 ^ k)
        rw [← ce] at this; exact this
      | true =>
        show _ ≤ 0
        rw [cnt_none]
        · exact Nat.le_refl _
        intro i hi
        cases y : V (c + i) with
        | false => rfl
        | true =>
          have h1 := hV _ y (5 - k) (by omega)
          rw [kbad_pre (c' := c) (by omega) (by
            have l : c + i = i + 6 ^ k * (c / 6 ^ k) := by have := Nat.div_add_mod c (6 ^ k); omega
            rw [l, Nat.add_mul_div_left _ _ pos, Nat.div_eq_of_lt hi, Nat.zero_add])] at h1
          rw [z] at h1; cases h1
    obtain ⟨s, hs⟩ : ∃ s, s = 6 ^ k := ⟨_, rfl⟩
    obtain ⟨c, hc⟩ : ∃ c, c = a * 6 ^ (k + 1) := ⟨_, rfl⟩
    have c0 : c = 6 * a * s := by rw [hc, hs, Nat.pow_succ, Nat.mul_comm (6 ^ k) 6, ← Nat.mul_assoc, Nat.mul_comm a 6]
    have md : ∀ x, (c + x * s) % s = 0 := fun x => by rw [c0, ← Nat.add_mul]; exact Nat.mul_mod_left _ _
    rw [← hc, Nat.pow_succ, ← hs, show s * 6 = s + (s + (s + (s + (s + s)))) by omega, cnt_plus, cnt_plus, cnt_plus, cnt_plus, cnt_plus]
    rw [← hs] at one
    have o0 := one c (by have := md 0; rw [Nat.zero_mul, Nat.add_zero] at this; exact this)
    have o1 := one (c + s) (by have := md 1; rw [Nat.one_mul] at this; exact this)
    have o2 := one (c + 2 * s) (md 2)
    have o3 := one (c + 3 * s) (md 3)
    have o4 := one (c + 4 * s) (md 4)
    have o5 := one (c + 5 * s) (md 5)
    have e2 : (fun i => V (c + 2 * s + i)) = fun i => V (c + (s + (s + i))) := by funext i; congr 1; omega
    have e3 : (fun i => V (c + 3 * s + i)) = fun i => V (c + (s + (s + (s + i)))) := by funext i; congr 1; omega
    have e4 : (fun i => V (c + 4 * s + i)) = fun i => V (c + (s + (s + (s + (s + i))))) := by funext i; congr 1; omega
    have e5 : (fun i => V (c + 5 * s + i)) = fun i => V (c + (s + (s + (s + (s + (s + i)))))) := by funext i; congr 1; omega
    have e1 : (fun i => V (c + s + i)) = fun i => V (c + (s + i)) := by funext i; congr 1; omega
    rw [e1] at o1; rw [e2] at o2; rw [e3] at o3; rw [e4] at o4; rw [e5] at o5
    have u : kc (k + 1) c = (bif kbad c (5 - k) then 0 else kc k c) + ((bif kbad (c + s) (5 - k) then 0 else kc k (c + s)) + ((bif kbad (c + 2 * s) (5 - k) then 0 else kc k (c + 2 * s)) + ((bif kbad (c + 3 * s) (5 - k) then 0 else kc k (c + 3 * s)) + ((bif kbad (c + 4 * s) (5 - k) then 0 else kc k (c + 4 * s)) + (bif kbad (c + 5 * s) (5 - k) then 0 else kc k (c + 5 * s)))))) := by rw [hs]; rfl
    rw [u]
    omega
theorem trees_6 {V : Nat → Bool} (hV : ∀ c, V c = true → ∀ q, q < 6 → kbad c q = false) : cnt V 46656 ≤ 7776 := by
  have e : ∀ a, cnt (fun i => V (a * 6 ^ 5 + i)) 7776 ≤ kc 5 (a * 6 ^ 5) := fun a => kc_le hV 5 (by omega) a
  have h0 := e 0; have h1 := e 1; have h2 := e 2; have h3 := e 3; have h4 := e 4; have h5 := e 5
  rw [show (0 : Nat) * 6 ^ 5 = 0 from rfl, kc_0] at h0
  rw [show (1 : Nat) * 6 ^ 5 = 7776 from rfl, kc_1] at h1
  rw [show (2 : Nat) * 6 ^ 5 = 15552 from rfl, kc_2] at h2
  rw [show (3 : Nat) * 6 ^ 5 = 23328 from rfl, kc_3] at h3
  rw [show (4 : Nat) * 6 ^ 5 = 31104 from rfl, kc_4] at h4
  rw [show (5 : Nat) * 6 ^ 5 = 38880 from rfl, kc_5] at h5
  have p5 : cnt V 46656 = cnt V 38880 + cnt (fun i => V (38880 + i)) 7776 := cnt_plus V 38880 7776
  have p4 : cnt V 38880 = cnt V 31104 + cnt (fun i => V (31104 + i)) 7776 := cnt_plus V 31104 7776
  have p3 : cnt V 31104 = cnt V 23328 + cnt (fun i => V (23328 + i)) 7776 := cnt_plus V 23328 7776
  have p2 : cnt V 23328 = cnt V 15552 + cnt (fun i => V (15552 + i)) 7776 := cnt_plus V 15552 7776
  have p1 : cnt V 15552 = cnt V 7776 + cnt (fun i => V (7776 + i)) 7776 := cnt_plus V 7776 7776
  have z : (fun i => V (0 + i)) = V := by funext i; rw [Nat.zero_add]
  rw [z] at h0
  omega
/-! a code that makes a tree, but for its days: one root, no ring -/
def TrC (N c : Nat) : Prop := (∃ r, r < N ∧ ∀ v, v < N → (mo N c v = 9 ↔ v = r)) ∧ Rk (mo N c) N
theorem okm_mo {N c : Nat} (h2 : 2 ≤ N) : okm (mo N c) N := fun _ _ => mo_r h2
theorem trees_N {N : Nat} {V : Nat → Bool} (h2 : 2 ≤ N) (h6 : N ≤ 6) (hV : ∀ c, V c = true → TrC N c) : cnt V (N ^ N) ≤ 7776 := by
  by_cases a : N = 6
  · subst a
    refine trees_6 (fun c hc q hq => ?_)
    obtain ⟨⟨r, r0, r1⟩, hr⟩ := hV c hc
    cases z : kbad c q with
    | false => rfl
    | true =>
      unfold kbad at z
      cases y : Nat.beq (km c q) 9 with
      | true =>
        rw [y] at z
        obtain ⟨j, j0, j1⟩ := kroot_e q z
        have e1 := (r1 q hq).mp (by rw [← km_e]; exact Nat.eq_of_beq_eq_true y)
        have e2 := (r1 j (by omega)).mp (by rw [← km_e]; exact j1)
        omega
      | false =>
        rw [y] at z
        have z' := Nat.eq_of_beq_eq_true z
        rw [kw_e, km_e] at z'
        exact absurd z' (ring_no h6 (okm_mo h2) hr hq 6 (fun e => by rw [← km_e] at e; rw [e] at y; cases y))
  · have h := cnt_le V (N ^ N)
    have : N ^ N ≤ 3125 := by
      have i : N = 2 ∨ N = 3 ∨ N = 4 ∨ N = 5 := by omega
      rcases i with rfl | rfl | rfl | rfl <;> decide
    omega
/-! the best codes so far: which, and what they cost -/
def bl (V : Nat → Bool) (K : Nat → Int) : Nat → List Nat × Int
  | 0 => ([], 0)
  | c + 1 => if V c = true then (if (bl V K c).1.length = 0 ∨ K c < (bl V K c).2 then ([c], K c) else if K c = (bl V K c).2 then ((bl V K c).1 ++ [c], (bl V K c).2) else bl V K c) else bl V K c
theorem bl_no {V : Nat → Bool} {K : Nat → Int} {c : Nat} (h : V c = false ∨ ((bl V K c).1.length ≠ 0 ∧ (bl V K c).2 < K c)) : bl V K (c + 1) = bl V K c := by
  rw [bl]
  by_cases a : V c = true
  · rw [if_pos a]
    rcases h with h | h
    · rw [h] at a; cases a
    · rw [if_neg (by omega), if_neg (by omega)]
  · rw [if_neg a]
theorem bl_new {V : Nat → Bool} {K : Nat → Int} {c : Nat} (a : V c = true) (h : (bl V K c).1.length = 0 ∨ K c < (bl V K c).2) : bl V K (c + 1) = ([c], K c) := by
  rw [bl, if_pos a, if_pos h]
theorem bl_eq {V : Nat → Bool} {K : Nat → Int} {c : Nat} (a : V c = true) (h : (bl V K c).1.length ≠ 0) (e : K c = (bl V K c).2) : bl V K (c + 1) = ((bl V K c).1 ++ [c], (bl V K c).2) := by
  rw [bl, if_pos a, if_neg (by omega), if_pos e]
theorem bl_skip {V : Nat → Bool} {K : Nat → Int} {c : Nat} : ∀ d, (∀ x, c ≤ x → x < c + d → V x = false ∨ ((bl V K c).1.length ≠ 0 ∧ (bl V K c).2 < K x)) → bl V K (c + d) = bl V K c
  | 0, _ => rfl
  | d + 1, h => by
    have ih := bl_skip d (fun x a b => h x a (by omega))
    rw [← Nat.add_assoc, bl_no (by rw [ih]; exact h (c + d) (by omega) (by omega)), ih]
theorem bl_in {V : Nat → Bool} {K : Nat → Int} : ∀ c x, x ∈ (bl V K c).1 → x < c ∧ V x = true
  | 0, x, h => by cases h
  | c + 1, x, h => by
    rw [bl] at h
    by_cases a : V c = true
    · rw [if_pos a] at h
      split at h
      · have : x = c := by simpa using h
        subst this; exact ⟨by omega, a⟩
      · split at h
        · rcases List.mem_append.mp h with h | h
          · have := bl_in c x h; exact ⟨by omega, this.2⟩
          · have : x = c := by simpa using h
            subst this; exact ⟨by omega, a⟩
        · have := bl_in c x h; exact ⟨by omega, this.2⟩
    · rw [if_neg a] at h
      have := bl_in c x h; exact ⟨by omega, this.2⟩
theorem bl_len {V : Nat → Bool} {K : Nat → Int} : ∀ c, (bl V K c).1.length ≤ cnt V c
  | 0 => Nat.le_refl _
  | c + 1 => by
    have ih := bl_len (V := V) (K := K) c
    show _ ≤ cnt V c + (if V c then 1 else 0)
    rw [bl]
    by_cases a : V c = true
    · rw [if_pos a, if_pos a]
      split
      · show 1 ≤ _; omega
      · split
        · rw [List.length_append]; show _ + 1 ≤ _; omega
        · omega
    · rw [if_neg a, if_neg a]; omega
/-! how often a choice stands in a list of codes; a code's choices as decimal digits -/
def nl (f : Nat → Nat) (d : Nat) : List Nat → Nat
  | [] => 0
  | x :: l => (if f x = d then 1 else 0) + nl f d l
theorem nl_app (f : Nat → Nat) (d c : Nat) : ∀ l, nl f d (l ++ [c]) = nl f d l + if f c = d then 1 else 0
  | [] => by show (if f c = d then 1 else 0) + 0 = 0 + _; omega
  | x :: l => by
    show (if f x = d then 1 else 0) + nl f d (l ++ [c]) = _
    rw [nl_app f d c l]
    show _ = (if f x = d then 1 else 0) + nl f d l + _
    omega
theorem nl_pos {f : Nat → Nat} {d : Nat} : ∀ l, 0 < nl f d l ↔ ∃ x, x ∈ l ∧ f x = d
  | [] => ⟨fun h => (by cases h), fun ⟨x, h, _⟩ => (by cases h)⟩
  | x :: l => by
    have ih := nl_pos (f := f) (d := d) l
    show 0 < (if f x = d then 1 else 0) + nl f d l ↔ _
    constructor
    · intro h
      by_cases a : f x = d
      · exact ⟨x, List.mem_cons_self, a⟩
      · rw [if_neg a] at h
        obtain ⟨y, y1, y2⟩ := ih.mp (by omega)
        exact ⟨y, List.mem_cons_of_mem _ y1, y2⟩
    · rintro ⟨y, y1, y2⟩
      rcases List.mem_cons.mp y1 with rfl | y1
      · rw [if_pos y2]; omega
      · have := ih.mpr ⟨y, y1, y2⟩; omega
theorem nl_le (f : Nat → Nat) (d : Nat) : ∀ l, nl f d l ≤ l.length
  | [] => Nat.le_refl _
  | x :: l => by
    have := nl_le f d l
    show (if f x = d then 1 else 0) + nl f d l ≤ l.length + 1
    split <;> omega
theorem nl_sum {f : Nat → Nat} (h : ∀ x, f x < 10) : ∀ l, nl f 0 l + nl f 1 l + nl f 2 l + nl f 3 l + nl f 4 l + nl f 5 l + nl f 6 l + nl f 7 l + nl f 8 l + nl f 9 l = l.length
  | [] => rfl
  | x :: l => by
    have ih := nl_sum h l
    have hx := h x
    show (if f x = 0 then 1 else 0) + nl f 0 l + ((if f x = 1 then 1 else 0) + nl f 1 l) + ((if f x = 2 then 1 else 0) + nl f 2 l) + ((if f x = 3 then 1 else 0) + nl f 3 l) + ((if f x = 4 then 1 else 0) + nl f 4 l) + ((if f x = 5 then 1 else 0) + nl f 5 l) + ((if f x = 6 then 1 else 0) + nl f 6 l) + ((if f x = 7 then 1 else 0) + nl f 7 l) + ((if f x = 8 then 1 else 0) + nl f 8 l) + ((if f x = 9 then 1 else 0) + nl f 9 l) = l.length + 1
    have i : f x = 0 ∨ f x = 1 ∨ f x = 2 ∨ f x = 3 ∨ f x = 4 ∨ f x = 5 ∨ f x = 6 ∨ f x = 7 ∨ f x = 8 ∨ f x = 9 := by omega
    rcases i with e | e | e | e | e | e | e | e | e | e <;> rw [e] <;> simp <;> omega
def c10 (g : Nat → Nat) : Nat → Nat
  | 0 => 0
  | p + 1 => 10 * c10 g p + g p
theorem c10_d {g : Nat → Nat} (h : ∀ v, g v < 10) (p : Nat) : ∀ d, c10 g (p + 1 + d) / 10 ^ d = c10 g (p + 1)
  | 0 => by rw [Nat.pow_zero, Nat.div_one]
  | d + 1 => by
    have e : c10 g (p + 1 + (d + 1)) = 10 * c10 g (p + 1 + d) + g (p + 1 + d) := rfl
    have l := h (p + 1 + d)
    rw [e, Nat.pow_succ, Nat.mul_comm (10 ^ d) 10, ← Nat.div_div_eq_div_mul, show (10 * c10 g (p + 1 + d) + g (p + 1 + d)) / 10 = c10 g (p + 1 + d) by omega]
    exact c10_d h p d
theorem c10_at {g : Nat → Nat} (h : ∀ v, g v < 10) {N p : Nat} (hp : p < N) : c10 g N / 10 ^ (N - 1 - p) % 10 = g p := by
  have e := c10_d h p (N - 1 - p)
  rw [show p + 1 + (N - 1 - p) = N by omega] at e
  rw [e]
  have l := h p
  show (10 * c10 g p + g p) % 10 = g p
  omega
theorem c10_b {g : Nat → Nat} (h : ∀ v, g v < 10) : ∀ p, c10 g p < 10 ^ p
  | 0 => by show 0 < 1; omega
  | p + 1 => by
    have := c10_b h p
    have := h p
    rw [Nat.pow_succ]
    show 10 * c10 g p + g p < _
    omega
