/-! the start: the cells that the two constructors leave, as a memory -/
section WORLD
variable {G : va_G} {cy : Nat → Nat}
def m0 : Mem := fun k i => if k = 9 then (if i = 192 then 10 else if i = 193 then 4 else if i = 194 then 6 else if i = 195 then 5 else if i = 196 then 8 else 0) else if k = 13 then 9 else if k = 31 then (if i = 14 then -1 else 0) else if k = 90 then (if i = 0 then 10 else if i = 1 then 4 else if i = 2 then 6 else if i = 3 then 5 else if i = 4 then 8 else 0) else if k = 119 then -1 else 0
def adU (h0 : Nat) (u : Nat → Nat) (h1 : Nat) (v : Nat → Nat) : Nat → Nat := fun k => if k < 83 then (if k = 0 then h0 else u k) else (if k = 83 then h1 else v (k - 83))
/-- the one says all that the other says -/
def EQ (G : va_G) (x y : va_E) : Prop := ∀ (a : Nat) (H : Heap), va_at G vwCl (a, x) H → va_at G vwCl (a, y) H
theorem EQ_r {x y : va_E} (h : x = y) : EQ G x y := by subst h; exact fun a H q => q
theorem arrV_congr {c n : Nat} {f g : Nat → Value} (h : ∀ j, j < n → f j = g j) : arrV c n f = arrV c n g := by
  unfold arrV
  congr 1
  apply Array.ext
  · simp
  · intro i h1 h2
    simp at h1 h2 ⊢
    exact h i h1
theorem EQ_i {c n : Nat} {f g : Nat → Int32} (h : ∀ j, j < n → f j = g j) : EQ G (.inl (c, n, .inl f)) (.inl (c, n, .inl g)) := by
  intro a H q
  show H[a]? = some (arrV c n (fun j => .int (g j)))
  rw [← arrV_congr (f := fun j => Value.int (f j)) (fun j hj => by rw [h j hj])]
  exact q
theorem EQ_l {c n : Nat} {f g : Nat → Int64} (h : ∀ j, j < n → f j = g j) : EQ G (.inl (c, n, .inr (.inl f))) (.inl (c, n, .inr (.inl g))) := by
  intro a H q
  show H[a]? = some (arrV c n (fun j => .long (g j)))
  rw [← arrV_congr (f := fun j => Value.long (f j)) (fun j hj => by rw [h j hj])]
  exact q
theorem EQ_q {c n : Nat} {f g : Nat → Option Nat} (h : ∀ j, j < n → f j = g j) : EQ G (.inl (c, n, .inr (.inr (.inr (.inr f))))) (.inl (c, n, .inr (.inr (.inr (.inr g))))) := by
  intro a H q
  show H[a]? = some (arrV c n (fun j => va_rf (g j)))
  rw [← arrV_congr (f := fun j => va_rf (f j)) (fun j hj => by rw [h j hj])]
  exact q
def eqW (G : va_G) : va_W → va_W → Prop
  | [], [] => True
  | p :: ps, q :: qs => p.1 = q.1 ∧ EQ G p.2 q.2 ∧ eqW G ps qs
  | _, _ => False
theorem eqW_c {a a' : Nat} {x y : va_E} {ps qs : va_W} (h : EQ G x y) (hs : eqW G ps qs) (e : a = a') : eqW G ((a, x) :: ps) ((a', y) :: qs) := ⟨e, h, hs⟩
theorem eqW_P : ∀ {ws ws' : va_W} {H : Heap}, eqW G ws ws' → va_P G vwCl ws H → va_P G vwCl ws' H
  | [], [], H, _, hP => hP
  | (a, x) :: ps, (a', y) :: qs, H, h, hP => by
    obtain ⟨e, h1, h2⟩ := h
    have e : a = a' := e
    subst e
    intro k q hq
    cases k with
    | zero =>
      have : (a, y) = q := by simpa using hq
      subst this
      exact h1 a H (hP 0 _ rfl)
    | succ k =>
      exact eqW_P h2 (fun k q hk => hP (k + 1) q (by simpa using hk)) k q (by simpa using hq)
  | [], _ :: _, _, h, _ => h.elim
  | _ :: _, [], _, h, _ => h.elim
theorem eqW_at : ∀ {ws ws' : va_W}, eqW G ws ws' → ∀ (k : Nat) (q : Nat × va_E), ws'[k]? = some q → ∃ p, ws[k]? = some p ∧ p.1 = q.1
  | [], [], _, k, q, hq => by simp at hq
  | p :: ps, q :: qs, h, 0, q', hq => by
    have : q = q' := by simpa using hq
    subst this
    exact ⟨p, rfl, h.1⟩
  | p :: ps, q :: qs, h, k + 1, q', hq => by
    obtain ⟨p', h1, h2⟩ := eqW_at h.2.2 k q' (by simpa using hq)
    exact ⟨p', by simpa using h1, h2⟩
  | [], _ :: _, h, _, _, _ => h.elim
  | _ :: _, [], h, _, _, _ => h.elim
theorem eqW_D {A : Nat → Prop} {ws ws' : va_W} (h : eqW G ws ws') (hD : va_D A ws) : va_D A ws' := by
  refine ⟨fun i j p q hi hj e => ?_, fun k q hk => ?_⟩
  · obtain ⟨p', h1, h2⟩ := eqW_at h i p hi
    obtain ⟨q', h3, h4⟩ := eqW_at h j q hj
    exact hD.1 i j p' q' h1 h3 (by rw [h2, h4]; exact e)
  · obtain ⟨p', h1, h2⟩ := eqW_at h k q hk
    rw [← h2]; exact hD.2 k p' h1
theorem m0_z {k : Nat} {j : Int} (h9 : k ≠ 9) (h13 : k ≠ 13) (h31 : k ≠ 31) (h90 : k ≠ 90) (h119 : k ≠ 119) : m0 k j = 0 := by
  unfold m0
  rw [if_neg h9, if_neg h13, if_neg h31, if_neg h90, if_neg h119]
set_option maxRecDepth 100000 in
theorem lt_X10 (h0 : Nat) (u : Nat → Nat) : w_X10 cy h0 u = [(h0, .inr (9, [.ref (u 1), .ref (u 4), .ref (u 14), .ref (u 26), .ref (u 31), .ref (u 51), .ref (u 53), .ref (u 66), .ref (u 70)])), (u 1, .inr (7, [.ref (u 2), .int 0, .int 0, .int 0, .int 0, .ref (u 3), .int 0])), (u 2, .inl (cy 0, 120, .inl (fun _ => 0))), (u 3, .inl (cy 0, 16, .inl (fun _ => 0))), (u 4, .inr (1, [.int 0, .ref (u 5), .ref (u 6), .ref (u 7), .ref (u 8), .ref (u 9), .ref (u 10), .ref (u 11), .ref (u 12), .ref (u 13), .int 0, .int 0, .int 0])), (u 5, .inl (cy 0, 12, .inl (fun _ => 0))), (u 6, .inl (cy 0, 12, .inl (fun _ => 0))), (u 7, .inl (cy 0, 12, .inl (fun _ => 0))), (u 8, .inl (cy 0, 12, .inl (fun _ => 0))), (u 9, .inl (cy 0, 209, .inl (upd (upd (upd (upd (upd (fun _ => 0) (Int32.ofInt 192).toNatClampNeg (Int32.ofInt (10))) (Int32.ofInt 193).toNatClampNeg (Int32.ofInt (4))) (Int32.ofInt 194).toNatClampNeg (Int32.ofInt (6))) (Int32.ofInt 195).toNatClampNeg (Int32.ofInt (5))) (Int32.ofInt 196).toNatClampNeg (Int32.ofInt (8))))), (u 10, .inl (cy 0, 40, .inl (fun _ => 0))), (u 11, .inl (cy 0, 40, .inl (fun _ => 0))), (u 12, .inl (cy 0, 40, .inl (fun _ => 0))), (u 13, .inl (cy 0, 16, .inl (flN (fun _ => 0) (Int32.ofInt 9) 16))), (u 14, .inr (8, [.int 0, .ref (u 15), .ref (u 16), .ref (u 17), .ref (u 18), .ref (u 19), .ref (u 20), .ref (u 21), .ref (u 22), .ref (u 23), .ref (u 24), .ref (u 25)])), (u 15, .inl (cy 0, 12, .inl (fun _ => 0))), (u 16, .inl (cy 0, 12, .inl (fun _ => 0))), (u 17, .inl (cy 0, 12, .inl (fun _ => 0))), (u 18, .inl (cy 0, 12, .inl (fun _ => 0))), (u 19, .inl (cy 0, 12, .inl (fun _ => 0))), (u 20, .inl (cy 0, 12, .inl (fun _ => 0))), (u 21, .inl (cy 0, 12, .inl (fun _ => 0))), (u 22, .inl (cy 0, 16, .inl (fun _ => 0))), (u 23, .inl (cy 0, 48, .inl (fun _ => 0))), (u 24, .inl (cy 0, 48, .inl (fun _ => 0))), (u 25, .inl (cy 0, 48, .inl (fun _ => 0))), (u 26, .inr (4, [.ref (u 4), .ref (u 14), .ref (u 27), .ref (u 28), .ref (u 29), .ref (u 30)])), (u 27, .inl (cy 0, 192, .inl (fun _ => 0))), (u 28, .inl (cy 0, 6, .inl (fun _ => 0))), (u 29, .inl (cy 0, 21, .inl (fun _ => 0))), (u 30, .inl (cy 0, 4, .inl (fun _ => 0))), (u 31, .inr (0, [.ref (u 4), .ref (u 32), .int 0, .int 0, .int 0, .ref (u 44), .ref (u 45), .ref (u 46), .ref (u 47), .ref (u 48), .ref (u 49), .ref (u 50), .int 0, .int 0, iv (-1)])), (u 32, .inr (8, [.int 0, .ref (u 33), .ref (u 34), .ref (u 35), .ref (u 36), .ref (u 37), .ref (u 38), .ref (u 39), .ref (u 40), .ref (u 41), .ref (u 42), .ref (u 43)])), (u 33, .inl (cy 0, 12, .inl (fun _ => 0))), (u 34, .inl (cy 0, 12, .inl (fun _ => 0))), (u 35, .inl (cy 0, 12, .inl (fun _ => 0))), (u 36, .inl (cy 0, 12, .inl (fun _ => 0))), (u 37, .inl (cy 0, 12, .inl (fun _ => 0))), (u 38, .inl (cy 0, 12, .inl (fun _ => 0))), (u 39, .inl (cy 0, 12, .inl (fun _ => 0))), (u 40, .inl (cy 0, 16, .inl (fun _ => 0))), (u 41, .inl (cy 0, 48, .inl (fun _ => 0))), (u 42, .inl (cy 0, 48, .inl (fun _ => 0))), (u 43, .inl (cy 0, 48, .inl (fun _ => 0))), (u 44, .inl (cy 0, 6, .inl (fun _ => 0))), (u 45, .inl (cy 0, 7776, .inl (fun _ => 0))), (u 46, .inl (cy 0, 6, .inl (fun _ => 0))), (u 47, .inl (cy 0, 7, .inl (fun _ => 0))), (u 48, .inl (cy 0, 36, .inl (fun _ => 0))), (u 49, .inl (cy 0, 16, .inl (fun _ => 0))), (u 50, .inl (cy 0, 17, .inl (fun _ => 0))), (u 51, .inr (3, [.ref (u 4), .ref (u 52)])), (u 52, .inl (cy 0, 16, .inl (fun _ => 0))), (u 53, .inr (2, [.ref (u 4), .ref (u 54)])), (u 54, .inr (8, [.int 0, .ref (u 55), .ref (u 56), .ref (u 57), .ref (u 58), .ref (u 59), .ref (u 60), .ref (u 61), .ref (u 62), .ref (u 63), .ref (u 64), .ref (u 65)])), (u 55, .inl (cy 0, 12, .inl (fun _ => 0))), (u 56, .inl (cy 0, 12, .inl (fun _ => 0))), (u 57, .inl (cy 0, 12, .inl (fun _ => 0))), (u 58, .inl (cy 0, 12, .inl (fun _ => 0))), (u 59, .inl (cy 0, 12, .inl (fun _ => 0))), (u 60, .inl (cy 0, 12, .inl (fun _ => 0))), (u 61, .inl (cy 0, 12, .inl (fun _ => 0))), (u 62, .inl (cy 0, 16, .inl (fun _ => 0))), (u 63, .inl (cy 0, 48, .inl (fun _ => 0))), (u 64, .inl (cy 0, 48, .inl (fun _ => 0))), (u 65, .inl (cy 0, 48, .inl (fun _ => 0))), (u 66, .inr (5, [.int 0, .int 0, .ref (u 67), .ref (u 68), .ref (u 69), .int 0, .int 0, .int 0])), (u 67, .inl (cy 0, 100, .inl (fun _ => 0))), (u 68, .inl (cy 0, 24, .inl (fun _ => 0))), (u 69, .inl (cy 0, 100, .inl (fun _ => 0))), (u 70, .inl (cy 4, 6, .inr (.inr (.inr (.inr (va_up (va_up (va_up (va_up (va_up (va_up (fun _ => none) (Int32.ofInt 0).toNatClampNeg (some (u 71))) (Int32.ofInt 1).toNatClampNeg (some (u 73))) (Int32.ofInt 2).toNatClampNeg (some (u 75))) (Int32.ofInt 3).toNatClampNeg (some (u 77))) (Int32.ofInt 4).toNatClampNeg (some (u 79))) (Int32.ofInt 5).toNatClampNeg (some (u 81)))))))), (u 71, .inr (6, [iv (0), .int 0, .int 0, .int 0, .ref (u 72)])), (u 72, .inl (cy 1, 60, .inr (.inl (fun _ => 0)))), (u 73, .inr (6, [iv (0), .int 0, .int 0, .int 0, .ref (u 74)])), (u 74, .inl (cy 1, 60, .inr (.inl (fun _ => 0)))), (u 75, .inr (6, [iv (0), .int 0, .int 0, .int 0, .ref (u 76)])), (u 76, .inl (cy 1, 60, .inr (.inl (fun _ => 0)))), (u 77, .inr (6, [iv (0), .int 0, .int 0, .int 0, .ref (u 78)])), (u 78, .inl (cy 1, 60, .inr (.inl (fun _ => 0)))), (u 79, .inr (6, [iv (0), .int 0, .int 0, .int 0, .ref (u 80)])), (u 80, .inl (cy 1, 60, .inr (.inl (fun _ => 0)))), (u 81, .inr (6, [iv (0), .int 0, .int 0, .int 0, .ref (u 82)])), (u 82, .inl (cy 1, 60, .inr (.inl (fun _ => 0))))] := by
  simp only [w_X10, w_X8, w_X1, w_X9, w_X4, w_X0, w_X3, w_X2, w_X5, w_X6, List.append_assoc, List.cons_append, List.nil_append]
set_option maxRecDepth 100000 in
theorem lt_X11 (h1 : Nat) (v : Nat → Nat) : w_X11 cy h1 v = [(h1, .inr (10, [.int 0, .int 0, .ref (v 1), .ref (v 2), .ref (v 3), .ref (v 4), .ref (v 5), .ref (v 6), .ref (v 7), .ref (v 8), .int 0, .int 0, .int 0, .int 0, .int 0, .ref (v 9), .ref (v 10), .ref (v 11), .ref (v 12), .ref (v 13), .ref (v 14), .ref (v 15), .ref (v 16), .ref (v 17), .int 0, .int 0, .ref (v 18), .ref (v 19), .int 0, .ref (v 20), .ref (v 21), .int 0, .int 0, .int 0, .ref (v 22), .ref (v 23), .ref (v 24), .ref (v 25), .ref (v 26), .ref (v 27), .int 0, .ref (v 28), .ref (v 29), .ref (v 30), .ref (v 31), .ref (v 32), .int 0, .ref (v 33), .ref (v 34), .int 0, .ref (v 35), .ref (v 36), .ref (v 37), .ref (v 38), .ref (v 39)])), (v 1, .inl (cy 0, 12, .inl (fun _ => 0))), (v 2, .inl (cy 0, 12, .inl (fun _ => 0))), (v 3, .inl (cy 0, 12, .inl (fun _ => 0))), (v 4, .inl (cy 3, 12, .inl (fun _ => 0))), (v 5, .inl (cy 0, 12, .inl (fun _ => 0))), (v 6, .inl (cy 0, 192, .inl (fun _ => 0))), (v 7, .inl (cy 0, 5, .inl (upd (upd (upd (upd (upd (fun _ => 0) (Int32.ofInt 0).toNatClampNeg (Int32.ofInt (10))) (Int32.ofInt 1).toNatClampNeg (Int32.ofInt (4))) (Int32.ofInt 2).toNatClampNeg (Int32.ofInt (6))) (Int32.ofInt 3).toNatClampNeg (Int32.ofInt (5))) (Int32.ofInt 4).toNatClampNeg (Int32.ofInt (8))))), (v 8, .inl (cy 2, 120, .inl (fun _ => 0))), (v 9, .inl (cy 0, 40, .inl (fun _ => 0))), (v 10, .inl (cy 0, 40, .inl (fun _ => 0))), (v 11, .inl (cy 0, 40, .inl (fun _ => 0))), (v 12, .inl (cy 0, 40, .inl (fun _ => 0))), (v 13, .inl (cy 0, 12, .inl (fun _ => 0))), (v 14, .inl (cy 3, 12, .inl (fun _ => 0))), (v 15, .inl (cy 0, 48, .inl (fun _ => 0))), (v 16, .inl (cy 0, 48, .inl (fun _ => 0))), (v 17, .inl (cy 0, 12, .inl (fun _ => 0))), (v 18, .inl (cy 0, 12, .inl (fun _ => 0))), (v 19, .inl (cy 0, 12, .inl (fun _ => 0))), (v 20, .inl (cy 0, 6, .inl (fun _ => 0))), (v 21, .inl (cy 0, 6, .inl (fun _ => 0))), (v 22, .inl (cy 0, 7776, .inl (fun _ => 0))), (v 23, .inl (cy 0, 60, .inl (fun _ => 0))), (v 24, .inl (cy 0, 192, .inl (fun _ => 0))), (v 25, .inl (cy 0, 4, .inl (fun _ => 0))), (v 26, .inl (cy 0, 6, .inl (fun _ => 0))), (v 27, .inl (cy 0, 21, .inl (fun _ => 0))), (v 28, .inl (cy 0, 120, .inl (fun _ => 0))), (v 29, .inl (cy 0, 6, .inl (fun _ => 0))), (v 30, .inl (cy 0, 6, .inl (fun _ => 0))), (v 31, .inl (cy 0, 24, .inl (fun _ => 0))), (v 32, .inl (cy 0, 4, .inl (fun _ => 0))), (v 33, .inl (cy 0, 100, .inl (fun _ => 0))), (v 34, .inl (cy 0, 100, .inl (fun _ => 0))), (v 35, .inl (cy 0, 24, .inl (fun _ => 0))), (v 36, .inl (cy 0, 6, .inl (upd (upd (upd (upd (upd (upd (fun _ => 0) (Int32.ofInt 0).toNatClampNeg (Int32.ofInt (-1))) (Int32.ofInt 1).toNatClampNeg (Int32.ofInt (-1))) (Int32.ofInt 2).toNatClampNeg (Int32.ofInt (-1))) (Int32.ofInt 3).toNatClampNeg (Int32.ofInt (-1))) (Int32.ofInt 4).toNatClampNeg (Int32.ofInt (-1))) (Int32.ofInt 5).toNatClampNeg (Int32.ofInt (-1))))), (v 37, .inl (cy 0, 6, .inl (fun _ => 0))), (v 38, .inl (cy 1, 360, .inr (.inl (fun _ => 0)))), (v 39, .inl (cy 1, 60, .inr (.inl (fun _ => 0))))] := by
  simp only [w_X11, List.append_assoc, List.cons_append, List.nil_append]
theorem tab_lit : tab = [.inr (9, [some 1, some 4, some 14, some 26, some 31, some 51, some 53, some 66, some 70]), .inr (7, [some 2, none, none, none, none, some 3, none]), .inl (0, 120), .inl (0, 16), .inr (1, [none, some 5, some 6, some 7, some 8, some 9, some 10, some 11, some 12, some 13, none, none, none]), .inl (0, 12), .inl (0, 12), .inl (0, 12), .inl (0, 12), .inl (0, 209), .inl (0, 40), .inl (0, 40), .inl (0, 40), .inl (0, 16), .inr (8, [none, some 15, some 16, some 17, some 18, some 19, some 20, some 21, some 22, some 23, some 24, some 25]), .inl (0, 12), .inl (0, 12), .inl (0, 12), .inl (0, 12), .inl (0, 12), .inl (0, 12), .inl (0, 12), .inl (0, 16), .inl (0, 48), .inl (0, 48), .inl (0, 48), .inr (4, [some 4, some 14, some 27, some 28, some 29, some 30]), .inl (0, 192), .inl (0, 6), .inl (0, 21), .inl (0, 4), .inr (0, [some 4, some 32, none, none, none, some 44, some 45, some 46, some 47, some 48, some 49, some 50, none, none, none]), .inr (8, [none, some 33, some 34, some 35, some 36, some 37, some 38, some 39, some 40, some 41, some 42, some 43]), .inl (0, 12), .inl (0, 12), .inl (0, 12), .inl (0, 12), .inl (0, 12), .inl (0, 12), .inl (0, 12), .inl (0, 16), .inl (0, 48), .inl (0, 48), .inl (0, 48), .inl (0, 6), .inl (0, 7776), .inl (0, 6), .inl (0, 7), .inl (0, 36), .inl (0, 16), .inl (0, 17), .inr (3, [some 4, some 52]), .inl (0, 16), .inr (2, [some 4, some 54]), .inr (8, [none, some 55, some 56, some 57, some 58, some 59, some 60, some 61, some 62, some 63, some 64, some 65]), .inl (0, 12), .inl (0, 12), .inl (0, 12), .inl (0, 12), .inl (0, 12), .inl (0, 12), .inl (0, 12), .inl (0, 16), .inl (0, 48), .inl (0, 48), .inl (0, 48), .inr (5, [none, none, some 67, some 68, some 69, none, none, none]), .inl (0, 100), .inl (0, 24), .inl (0, 100), .inl (4, 6), .inr (6, [none, none, none, none, some 72]), .inl (1, 60), .inr (6, [none, none, none, none, some 74]), .inl (1, 60), .inr (6, [none, none, none, none, some 76]), .inl (1, 60), .inr (6, [none, none, none, none, some 78]), .inl (1, 60), .inr (6, [none, none, none, none, some 80]), .inl (1, 60), .inr (6, [none, none, none, none, some 82]), .inl (1, 60), .inr (10, [none, none, some 84, some 85, some 86, some 87, some 88, some 89, some 90, some 91, none, none, none, none, none, some 92, some 93, some 94, some 95, some 96, some 97, some 98, some 99, some 100, none, none, some 101, some 102, none, some 103, some 104, none, none, none, some 105, some 106, some 107, some 108, some 109, some 110, none, some 111, some 112, some 113, some 114, some 115, none, some 116, some 117, none, some 118, some 119, some 120, some 121, some 122]), .inl (0, 12), .inl (0, 12), .inl (0, 12), .inl (3, 12), .inl (0, 12), .inl (0, 192), .inl (0, 5), .inl (2, 120), .inl (0, 40), .inl (0, 40), .inl (0, 40), .inl (0, 40), .inl (0, 12), .inl (3, 12), .inl (0, 48), .inl (0, 48), .inl (0, 12), .inl (0, 12), .inl (0, 12), .inl (0, 6), .inl (0, 6), .inl (0, 7776), .inl (0, 60), .inl (0, 192), .inl (0, 4), .inl (0, 6), .inl (0, 21), .inl (0, 120), .inl (0, 6), .inl (0, 6), .inl (0, 24), .inl (0, 4), .inl (0, 100), .inl (0, 100), .inl (0, 24), .inl (0, 6), .inl (0, 6), .inl (1, 360), .inl (1, 60)] := rfl
theorem wsM_lit (cy ad : Nat → Nat) (m : Mem) : wsM cy ad m = [(ad 0, ent cy ad m 0 (.inr (9, [some 1, some 4, some 14, some 26, some 31, some 51, some 53, some 66, some 70]))), (ad 1, ent cy ad m 1 (.inr (7, [some 2, none, none, none, none, some 3, none]))), (ad 2, ent cy ad m 2 (.inl (0, 120))), (ad 3, ent cy ad m 3 (.inl (0, 16))), (ad 4, ent cy ad m 4 (.inr (1, [none, some 5, some 6, some 7, some 8, some 9, some 10, some 11, some 12, some 13, none, none, none]))), (ad 5, ent cy ad m 5 (.inl (0, 12))), (ad 6, ent cy ad m 6 (.inl (0, 12))), (ad 7, ent cy ad m 7 (.inl (0, 12))), (ad 8, ent cy ad m 8 (.inl (0, 12))), (ad 9, ent cy ad m 9 (.inl (0, 209))), (ad 10, ent cy ad m 10 (.inl (0, 40))), (ad 11, ent cy ad m 11 (.inl (0, 40))), (ad 12, ent cy ad m 12 (.inl (0, 40))), (ad 13, ent cy ad m 13 (.inl (0, 16))), (ad 14, ent cy ad m 14 (.inr (8, [none, some 15, some 16, some 17, some 18, some 19, some 20, some 21, some 22, some 23, some 24, some 25]))), (ad 15, ent cy ad m 15 (.inl (0, 12))), (ad 16, ent cy ad m 16 (.inl (0, 12))), (ad 17, ent cy ad m 17 (.inl (0, 12))), (ad 18, ent cy ad m 18 (.inl (0, 12))), (ad 19, ent cy ad m 19 (.inl (0, 12))), (ad 20, ent cy ad m 20 (.inl (0, 12))), (ad 21, ent cy ad m 21 (.inl (0, 12))), (ad 22, ent cy ad m 22 (.inl (0, 16))), (ad 23, ent cy ad m 23 (.inl (0, 48))), (ad 24, ent cy ad m 24 (.inl (0, 48))), (ad 25, ent cy ad m 25 (.inl (0, 48))), (ad 26, ent cy ad m 26 (.inr (4, [some 4, some 14, some 27, some 28, some 29, some 30]))), (ad 27, ent cy ad m 27 (.inl (0, 192))), (ad 28, ent cy ad m 28 (.inl (0, 6))), (ad 29, ent cy ad m 29 (.inl (0, 21))), (ad 30, ent cy ad m 30 (.inl (0, 4))), (ad 31, ent cy ad m 31 (.inr (0, [some 4, some 32, none, none, none, some 44, some 45, some 46, some 47, some 48, some 49, some 50, none, none, none]))), (ad 32, ent cy ad m 32 (.inr (8, [none, some 33, some 34, some 35, some 36, some 37, some 38, some 39, some 40, some 41, some 42, some 43]))), (ad 33, ent cy ad m 33 (.inl (0, 12))), (ad 34, ent cy ad m 34 (.inl (0, 12))), (ad 35, ent cy ad m 35 (.inl (0, 12))), (ad 36, ent cy ad m 36 (.inl (0, 12))), (ad 37, ent cy ad m 37 (.inl (0, 12))), (ad 38, ent cy ad m 38 (.inl (0, 12))), (ad 39, ent cy ad m 39 (.inl (0, 12))), (ad 40, ent cy ad m 40 (.inl (0, 16))), (ad 41, ent cy ad m 41 (.inl (0, 48))), (ad 42, ent cy ad m 42 (.inl (0, 48))), (ad 43, ent cy ad m 43 (.inl (0, 48))), (ad 44, ent cy ad m 44 (.inl (0, 6))), (ad 45, ent cy ad m 45 (.inl (0, 7776))), (ad 46, ent cy ad m 46 (.inl (0, 6))), (ad 47, ent cy ad m 47 (.inl (0, 7))), (ad 48, ent cy ad m 48 (.inl (0, 36))), (ad 49, ent cy ad m 49 (.inl (0, 16))), (ad 50, ent cy ad m 50 (.inl (0, 17))), (ad 51, ent cy ad m 51 (.inr (3, [some 4, some 52]))), (ad 52, ent cy ad m 52 (.inl (0, 16))), (ad 53, ent cy ad m 53 (.inr (2, [some 4, some 54]))), (ad 54, ent cy ad m 54 (.inr (8, [none, some 55, some 56, some 57, some 58, some 59, some 60, some 61, some 62, some 63, some 64, some 65]))), (ad 55, ent cy ad m 55 (.inl (0, 12))), (ad 56, ent cy ad m 56 (.inl (0, 12))), (ad 57, ent cy ad m 57 (.inl (0, 12))), (ad 58, ent cy ad m 58 (.inl (0, 12))), (ad 59, ent cy ad m 59 (.inl (0, 12))), (ad 60, ent cy ad m 60 (.inl (0, 12))), (ad 61, ent cy ad m 61 (.inl (0, 12))), (ad 62, ent cy ad m 62 (.inl (0, 16))), (ad 63, ent cy ad m 63 (.inl (0, 48))), (ad 64, ent cy ad m 64 (.inl (0, 48))), (ad 65, ent cy ad m 65 (.inl (0, 48))), (ad 66, ent cy ad m 66 (.inr (5, [none, none, some 67, some 68, some 69, none, none, none]))), (ad 67, ent cy ad m 67 (.inl (0, 100))), (ad 68, ent cy ad m 68 (.inl (0, 24))), (ad 69, ent cy ad m 69 (.inl (0, 100))), (ad 70, ent cy ad m 70 (.inl (4, 6))), (ad 71, ent cy ad m 71 (.inr (6, [none, none, none, none, some 72]))), (ad 72, ent cy ad m 72 (.inl (1, 60))), (ad 73, ent cy ad m 73 (.inr (6, [none, none, none, none, some 74]))), (ad 74, ent cy ad m 74 (.inl (1, 60))), (ad 75, ent cy ad m 75 (.inr (6, [none, none, none, none, some 76]))), (ad 76, ent cy ad m 76 (.inl (1, 60))), (ad 77, ent cy ad m 77 (.inr (6, [none, none, none, none, some 78]))), (ad 78, ent cy ad m 78 (.inl (1, 60))), (ad 79, ent cy ad m 79 (.inr (6, [none, none, none, none, some 80]))), (ad 80, ent cy ad m 80 (.inl (1, 60))), (ad 81, ent cy ad m 81 (.inr (6, [none, none, none, none, some 82]))), (ad 82, ent cy ad m 82 (.inl (1, 60))), (ad 83, ent cy ad m 83 (.inr (10, [none, none, some 84, some 85, some 86, some 87, some 88, some 89, some 90, some 91, none, none, none, none, none, some 92, some 93, some 94, some 95, some 96, some 97, some 98, some 99, some 100, none, none, some 101, some 102, none, some 103, some 104, none, none, none, some 105, some 106, some 107, some 108, some 109, some 110, none, some 111, some 112, some 113, some 114, some 115, none, some 116, some 117, none, some 118, some 119, some 120, some 121, some 122]))), (ad 84, ent cy ad m 84 (.inl (0, 12))), (ad 85, ent cy ad m 85 (.inl (0, 12))), (ad 86, ent cy ad m 86 (.inl (0, 12))), (ad 87, ent cy ad m 87 (.inl (3, 12))), (ad 88, ent cy ad m 88 (.inl (0, 12))), (ad 89, ent cy ad m 89 (.inl (0, 192))), (ad 90, ent cy ad m 90 (.inl (0, 5))), (ad 91, ent cy ad m 91 (.inl (2, 120))), (ad 92, ent cy ad m 92 (.inl (0, 40))), (ad 93, ent cy ad m 93 (.inl (0, 40))), (ad 94, ent cy ad m 94 (.inl (0, 40))), (ad 95, ent cy ad m 95 (.inl (0, 40))), (ad 96, ent cy ad m 96 (.inl (0, 12))), (ad 97, ent cy ad m 97 (.inl (3, 12))), (ad 98, ent cy ad m 98 (.inl (0, 48))), (ad 99, ent cy ad m 99 (.inl (0, 48))), (ad 100, ent cy ad m 100 (.inl (0, 12))), (ad 101, ent cy ad m 101 (.inl (0, 12))), (ad 102, ent cy ad m 102 (.inl (0, 12))), (ad 103, ent cy ad m 103 (.inl (0, 6))), (ad 104, ent cy ad m 104 (.inl (0, 6))), (ad 105, ent cy ad m 105 (.inl (0, 7776))), (ad 106, ent cy ad m 106 (.inl (0, 60))), (ad 107, ent cy ad m 107 (.inl (0, 192))), (ad 108, ent cy ad m 108 (.inl (0, 4))), (ad 109, ent cy ad m 109 (.inl (0, 6))), (ad 110, ent cy ad m 110 (.inl (0, 21))), (ad 111, ent cy ad m 111 (.inl (0, 120))), (ad 112, ent cy ad m 112 (.inl (0, 6))), (ad 113, ent cy ad m 113 (.inl (0, 6))), (ad 114, ent cy ad m 114 (.inl (0, 24))), (ad 115, ent cy ad m 115 (.inl (0, 4))), (ad 116, ent cy ad m 116 (.inl (0, 100))), (ad 117, ent cy ad m 117 (.inl (0, 100))), (ad 118, ent cy ad m 118 (.inl (0, 24))), (ad 119, ent cy ad m 119 (.inl (0, 6))), (ad 120, ent cy ad m 120 (.inl (0, 6))), (ad 121, ent cy ad m 121 (.inl (1, 360))), (ad 122, ent cy ad m 122 (.inl (1, 60)))] := by
  unfold wsM
  rw [tab_lit]
  rfl
theorem up_9 : ∀ j, j < 209 → (upd (upd (upd (upd (upd (fun _ => 0) (Int32.ofInt 192).toNatClampNeg (Int32.ofInt (10))) (Int32.ofInt 193).toNatClampNeg (Int32.ofInt (4))) (Int32.ofInt 194).toNatClampNeg (Int32.ofInt (6))) (Int32.ofInt 195).toNatClampNeg (Int32.ofInt (5))) (Int32.ofInt 196).toNatClampNeg (Int32.ofInt (8))) j = Int32.ofInt (m0 9 (j : Int)) := by decide +kernel
theorem up_13 : ∀ j, j < 16 → (flN (fun _ => 0) (Int32.ofInt 9) 16) j = Int32.ofInt (m0 13 (j : Int)) := by decide +kernel
theorem up_90 : ∀ j, j < 5 → (upd (upd (upd (upd (upd (fun _ => 0) (Int32.ofInt 0).toNatClampNeg (Int32.ofInt (10))) (Int32.ofInt 1).toNatClampNeg (Int32.ofInt (4))) (Int32.ofInt 2).toNatClampNeg (Int32.ofInt (6))) (Int32.ofInt 3).toNatClampNeg (Int32.ofInt (5))) (Int32.ofInt 4).toNatClampNeg (Int32.ofInt (8))) j = Int32.ofInt (m0 90 (j : Int)) := by decide +kernel
theorem up_119 : ∀ j, j < 6 → (upd (upd (upd (upd (upd (upd (fun _ => 0) (Int32.ofInt 0).toNatClampNeg (Int32.ofInt (-1))) (Int32.ofInt 1).toNatClampNeg (Int32.ofInt (-1))) (Int32.ofInt 2).toNatClampNeg (Int32.ofInt (-1))) (Int32.ofInt 3).toNatClampNeg (Int32.ofInt (-1))) (Int32.ofInt 4).toNatClampNeg (Int32.ofInt (-1))) (Int32.ofInt 5).toNatClampNeg (Int32.ofInt (-1))) j = Int32.ofInt (m0 119 (j : Int)) := by decide +kernel
theorem e_zi {k n : Nat} {c : Nat} (h : (k ≠ 9 ∧ k ≠ 13 ∧ k ≠ 31 ∧ k ≠ 90 ∧ k ≠ 119)) : EQ G (.inl (c, n, .inl (fun _ => 0))) (.inl (c, n, .inl (fun j : Nat => Int32.ofInt (m0 k (j : Int))))) := EQ_i (fun j _ => by rw [m0_z h.1 h.2.1 h.2.2.1 h.2.2.2.1 h.2.2.2.2]; rfl)
theorem e_zl {k n : Nat} {c : Nat} (h : (k ≠ 9 ∧ k ≠ 13 ∧ k ≠ 31 ∧ k ≠ 90 ∧ k ≠ 119)) : EQ G (.inl (c, n, .inr (.inl (fun _ => 0)))) (.inl (c, n, .inr (.inl (fun j : Nat => Int64.ofInt (m0 k (j : Int)))))) := EQ_l (fun j _ => by rw [m0_z h.1 h.2.1 h.2.2.1 h.2.2.2.1 h.2.2.2.2]; rfl)
theorem e_sh {h0 h1 : Nat} {u v : Nat → Nat} : ∀ j, j < 6 → (va_up (va_up (va_up (va_up (va_up (va_up (fun _ => none) (Int32.ofInt 0).toNatClampNeg (some (u 71))) (Int32.ofInt 1).toNatClampNeg (some (u 73))) (Int32.ofInt 2).toNatClampNeg (some (u 75))) (Int32.ofInt 3).toNatClampNeg (some (u 77))) (Int32.ofInt 4).toNatClampNeg (some (u 79))) (Int32.ofInt 5).toNatClampNeg (some (u 81))) j = some (adU h0 u h1 v (71 + 2 * j)) := by
  intro j hj
  rcases (by omega : j = 0 ∨ j = 1 ∨ j = 2 ∨ j = 3 ∨ j = 4 ∨ j = 5) with h | h | h | h | h | h <;> subst h <;> rfl
set_option maxRecDepth 100000 in
theorem eq_start (h0 h1 : Nat) (u v : Nat → Nat) : eqW G (([(h0, .inr (9, [.ref (u 1), .ref (u 4), .ref (u 14), .ref (u 26), .ref (u 31), .ref (u 51), .ref (u 53), .ref (u 66), .ref (u 70)])), (u 1, .inr (7, [.ref (u 2), .int 0, .int 0, .int 0, .int 0, .ref (u 3), .int 0])), (u 2, .inl (cy 0, 120, .inl (fun _ => 0))), (u 3, .inl (cy 0, 16, .inl (fun _ => 0))), (u 4, .inr (1, [.int 0, .ref (u 5), .ref (u 6), .ref (u 7), .ref (u 8), .ref (u 9), .ref (u 10), .ref (u 11), .ref (u 12), .ref (u 13), .int 0, .int 0, .int 0])), (u 5, .inl (cy 0, 12, .inl (fun _ => 0))), (u 6, .inl (cy 0, 12, .inl (fun _ => 0))), (u 7, .inl (cy 0, 12, .inl (fun _ => 0))), (u 8, .inl (cy 0, 12, .inl (fun _ => 0))), (u 9, .inl (cy 0, 209, .inl (upd (upd (upd (upd (upd (fun _ => 0) (Int32.ofInt 192).toNatClampNeg (Int32.ofInt (10))) (Int32.ofInt 193).toNatClampNeg (Int32.ofInt (4))) (Int32.ofInt 194).toNatClampNeg (Int32.ofInt (6))) (Int32.ofInt 195).toNatClampNeg (Int32.ofInt (5))) (Int32.ofInt 196).toNatClampNeg (Int32.ofInt (8))))), (u 10, .inl (cy 0, 40, .inl (fun _ => 0))), (u 11, .inl (cy 0, 40, .inl (fun _ => 0))), (u 12, .inl (cy 0, 40, .inl (fun _ => 0))), (u 13, .inl (cy 0, 16, .inl (flN (fun _ => 0) (Int32.ofInt 9) 16))), (u 14, .inr (8, [.int 0, .ref (u 15), .ref (u 16), .ref (u 17), .ref (u 18), .ref (u 19), .ref (u 20), .ref (u 21), .ref (u 22), .ref (u 23), .ref (u 24), .ref (u 25)])), (u 15, .inl (cy 0, 12, .inl (fun _ => 0))), (u 16, .inl (cy 0, 12, .inl (fun _ => 0))), (u 17, .inl (cy 0, 12, .inl (fun _ => 0))), (u 18, .inl (cy 0, 12, .inl (fun _ => 0))), (u 19, .inl (cy 0, 12, .inl (fun _ => 0))), (u 20, .inl (cy 0, 12, .inl (fun _ => 0))), (u 21, .inl (cy 0, 12, .inl (fun _ => 0))), (u 22, .inl (cy 0, 16, .inl (fun _ => 0))), (u 23, .inl (cy 0, 48, .inl (fun _ => 0))), (u 24, .inl (cy 0, 48, .inl (fun _ => 0))), (u 25, .inl (cy 0, 48, .inl (fun _ => 0))), (u 26, .inr (4, [.ref (u 4), .ref (u 14), .ref (u 27), .ref (u 28), .ref (u 29), .ref (u 30)])), (u 27, .inl (cy 0, 192, .inl (fun _ => 0))), (u 28, .inl (cy 0, 6, .inl (fun _ => 0))), (u 29, .inl (cy 0, 21, .inl (fun _ => 0))), (u 30, .inl (cy 0, 4, .inl (fun _ => 0))), (u 31, .inr (0, [.ref (u 4), .ref (u 32), .int 0, .int 0, .int 0, .ref (u 44), .ref (u 45), .ref (u 46), .ref (u 47), .ref (u 48), .ref (u 49), .ref (u 50), .int 0, .int 0, iv (-1)])), (u 32, .inr (8, [.int 0, .ref (u 33), .ref (u 34), .ref (u 35), .ref (u 36), .ref (u 37), .ref (u 38), .ref (u 39), .ref (u 40), .ref (u 41), .ref (u 42), .ref (u 43)])), (u 33, .inl (cy 0, 12, .inl (fun _ => 0))), (u 34, .inl (cy 0, 12, .inl (fun _ => 0))), (u 35, .inl (cy 0, 12, .inl (fun _ => 0))), (u 36, .inl (cy 0, 12, .inl (fun _ => 0))), (u 37, .inl (cy 0, 12, .inl (fun _ => 0))), (u 38, .inl (cy 0, 12, .inl (fun _ => 0))), (u 39, .inl (cy 0, 12, .inl (fun _ => 0))), (u 40, .inl (cy 0, 16, .inl (fun _ => 0))), (u 41, .inl (cy 0, 48, .inl (fun _ => 0))), (u 42, .inl (cy 0, 48, .inl (fun _ => 0))), (u 43, .inl (cy 0, 48, .inl (fun _ => 0))), (u 44, .inl (cy 0, 6, .inl (fun _ => 0))), (u 45, .inl (cy 0, 7776, .inl (fun _ => 0))), (u 46, .inl (cy 0, 6, .inl (fun _ => 0))), (u 47, .inl (cy 0, 7, .inl (fun _ => 0))), (u 48, .inl (cy 0, 36, .inl (fun _ => 0))), (u 49, .inl (cy 0, 16, .inl (fun _ => 0))), (u 50, .inl (cy 0, 17, .inl (fun _ => 0))), (u 51, .inr (3, [.ref (u 4), .ref (u 52)])), (u 52, .inl (cy 0, 16, .inl (fun _ => 0))), (u 53, .inr (2, [.ref (u 4), .ref (u 54)])), (u 54, .inr (8, [.int 0, .ref (u 55), .ref (u 56), .ref (u 57), .ref (u 58), .ref (u 59), .ref (u 60), .ref (u 61), .ref (u 62), .ref (u 63), .ref (u 64), .ref (u 65)])), (u 55, .inl (cy 0, 12, .inl (fun _ => 0))), (u 56, .inl (cy 0, 12, .inl (fun _ => 0))), (u 57, .inl (cy 0, 12, .inl (fun _ => 0))), (u 58, .inl (cy 0, 12, .inl (fun _ => 0))), (u 59, .inl (cy 0, 12, .inl (fun _ => 0))), (u 60, .inl (cy 0, 12, .inl (fun _ => 0))), (u 61, .inl (cy 0, 12, .inl (fun _ => 0))), (u 62, .inl (cy 0, 16, .inl (fun _ => 0))), (u 63, .inl (cy 0, 48, .inl (fun _ => 0))), (u 64, .inl (cy 0, 48, .inl (fun _ => 0))), (u 65, .inl (cy 0, 48, .inl (fun _ => 0))), (u 66, .inr (5, [.int 0, .int 0, .ref (u 67), .ref (u 68), .ref (u 69), .int 0, .int 0, .int 0])), (u 67, .inl (cy 0, 100, .inl (fun _ => 0))), (u 68, .inl (cy 0, 24, .inl (fun _ => 0))), (u 69, .inl (cy 0, 100, .inl (fun _ => 0))), (u 70, .inl (cy 4, 6, .inr (.inr (.inr (.inr (va_up (va_up (va_up (va_up (va_up (va_up (fun _ => none) (Int32.ofInt 0).toNatClampNeg (some (u 71))) (Int32.ofInt 1).toNatClampNeg (some (u 73))) (Int32.ofInt 2).toNatClampNeg (some (u 75))) (Int32.ofInt 3).toNatClampNeg (some (u 77))) (Int32.ofInt 4).toNatClampNeg (some (u 79))) (Int32.ofInt 5).toNatClampNeg (some (u 81)))))))), (u 71, .inr (6, [iv (0), .int 0, .int 0, .int 0, .ref (u 72)])), (u 72, .inl (cy 1, 60, .inr (.inl (fun _ => 0)))), (u 73, .inr (6, [iv (0), .int 0, .int 0, .int 0, .ref (u 74)])), (u 74, .inl (cy 1, 60, .inr (.inl (fun _ => 0)))), (u 75, .inr (6, [iv (0), .int 0, .int 0, .int 0, .ref (u 76)])), (u 76, .inl (cy 1, 60, .inr (.inl (fun _ => 0)))), (u 77, .inr (6, [iv (0), .int 0, .int 0, .int 0, .ref (u 78)])), (u 78, .inl (cy 1, 60, .inr (.inl (fun _ => 0)))), (u 79, .inr (6, [iv (0), .int 0, .int 0, .int 0, .ref (u 80)])), (u 80, .inl (cy 1, 60, .inr (.inl (fun _ => 0)))), (u 81, .inr (6, [iv (0), .int 0, .int 0, .int 0, .ref (u 82)])), (u 82, .inl (cy 1, 60, .inr (.inl (fun _ => 0))))] : va_W) ++ [(h1, .inr (10, [.int 0, .int 0, .ref (v 1), .ref (v 2), .ref (v 3), .ref (v 4), .ref (v 5), .ref (v 6), .ref (v 7), .ref (v 8), .int 0, .int 0, .int 0, .int 0, .int 0, .ref (v 9), .ref (v 10), .ref (v 11), .ref (v 12), .ref (v 13), .ref (v 14), .ref (v 15), .ref (v 16), .ref (v 17), .int 0, .int 0, .ref (v 18), .ref (v 19), .int 0, .ref (v 20), .ref (v 21), .int 0, .int 0, .int 0, .ref (v 22), .ref (v 23), .ref (v 24), .ref (v 25), .ref (v 26), .ref (v 27), .int 0, .ref (v 28), .ref (v 29), .ref (v 30), .ref (v 31), .ref (v 32), .int 0, .ref (v 33), .ref (v 34), .int 0, .ref (v 35), .ref (v 36), .ref (v 37), .ref (v 38), .ref (v 39)])), (v 1, .inl (cy 0, 12, .inl (fun _ => 0))), (v 2, .inl (cy 0, 12, .inl (fun _ => 0))), (v 3, .inl (cy 0, 12, .inl (fun _ => 0))), (v 4, .inl (cy 3, 12, .inl (fun _ => 0))), (v 5, .inl (cy 0, 12, .inl (fun _ => 0))), (v 6, .inl (cy 0, 192, .inl (fun _ => 0))), (v 7, .inl (cy 0, 5, .inl (upd (upd (upd (upd (upd (fun _ => 0) (Int32.ofInt 0).toNatClampNeg (Int32.ofInt (10))) (Int32.ofInt 1).toNatClampNeg (Int32.ofInt (4))) (Int32.ofInt 2).toNatClampNeg (Int32.ofInt (6))) (Int32.ofInt 3).toNatClampNeg (Int32.ofInt (5))) (Int32.ofInt 4).toNatClampNeg (Int32.ofInt (8))))), (v 8, .inl (cy 2, 120, .inl (fun _ => 0))), (v 9, .inl (cy 0, 40, .inl (fun _ => 0))), (v 10, .inl (cy 0, 40, .inl (fun _ => 0))), (v 11, .inl (cy 0, 40, .inl (fun _ => 0))), (v 12, .inl (cy 0, 40, .inl (fun _ => 0))), (v 13, .inl (cy 0, 12, .inl (fun _ => 0))), (v 14, .inl (cy 3, 12, .inl (fun _ => 0))), (v 15, .inl (cy 0, 48, .inl (fun _ => 0))), (v 16, .inl (cy 0, 48, .inl (fun _ => 0))), (v 17, .inl (cy 0, 12, .inl (fun _ => 0))), (v 18, .inl (cy 0, 12, .inl (fun _ => 0))), (v 19, .inl (cy 0, 12, .inl (fun _ => 0))), (v 20, .inl (cy 0, 6, .inl (fun _ => 0))), (v 21, .inl (cy 0, 6, .inl (fun _ => 0))), (v 22, .inl (cy 0, 7776, .inl (fun _ => 0))), (v 23, .inl (cy 0, 60, .inl (fun _ => 0))), (v 24, .inl (cy 0, 192, .inl (fun _ => 0))), (v 25, .inl (cy 0, 4, .inl (fun _ => 0))), (v 26, .inl (cy 0, 6, .inl (fun _ => 0))), (v 27, .inl (cy 0, 21, .inl (fun _ => 0))), (v 28, .inl (cy 0, 120, .inl (fun _ => 0))), (v 29, .inl (cy 0, 6, .inl (fun _ => 0))), (v 30, .inl (cy 0, 6, .inl (fun _ => 0))), (v 31, .inl (cy 0, 24, .inl (fun _ => 0))), (v 32, .inl (cy 0, 4, .inl (fun _ => 0))), (v 33, .inl (cy 0, 100, .inl (fun _ => 0))), (v 34, .inl (cy 0, 100, .inl (fun _ => 0))), (v 35, .inl (cy 0, 24, .inl (fun _ => 0))), (v 36, .inl (cy 0, 6, .inl (upd (upd (upd (upd (upd (upd (fun _ => 0) (Int32.ofInt 0).toNatClampNeg (Int32.ofInt (-1))) (Int32.ofInt 1).toNatClampNeg (Int32.ofInt (-1))) (Int32.ofInt 2).toNatClampNeg (Int32.ofInt (-1))) (Int32.ofInt 3).toNatClampNeg (Int32.ofInt (-1))) (Int32.ofInt 4).toNatClampNeg (Int32.ofInt (-1))) (Int32.ofInt 5).toNatClampNeg (Int32.ofInt (-1))))), (v 37, .inl (cy 0, 6, .inl (fun _ => 0))), (v 38, .inl (cy 1, 360, .inr (.inl (fun _ => 0)))), (v 39, .inl (cy 1, 60, .inr (.inl (fun _ => 0))))]) (wsM cy (adU h0 u h1 v) m0) := by
  rw [wsM_lit]
  simp only [List.cons_append, List.nil_append]
  refine eqW_c (EQ_r rfl) ?_ rfl
  refine eqW_c (EQ_r rfl) ?_ rfl
  refine eqW_c (e_zi (k := 2) (by decide)) ?_ rfl
  refine eqW_c (e_zi (k := 3) (by decide)) ?_ rfl
  refine eqW_c (EQ_r rfl) ?_ rfl
  refine eqW_c (e_zi (k := 5) (by decide)) ?_ rfl
  refine eqW_c (e_zi (k := 6) (by decide)) ?_ rfl
  refine eqW_c (e_zi (k := 7) (by decide)) ?_ rfl
  refine eqW_c (e_zi (k := 8) (by decide)) ?_ rfl
  refine eqW_c (EQ_i up_9) ?_ rfl
  refine eqW_c (e_zi (k := 10) (by decide)) ?_ rfl
  refine eqW_c (e_zi (k := 11) (by decide)) ?_ rfl
  refine eqW_c (e_zi (k := 12) (by decide)) ?_ rfl
  refine eqW_c (EQ_i up_13) ?_ rfl
  refine eqW_c (EQ_r rfl) ?_ rfl
  refine eqW_c (e_zi (k := 15) (by decide)) ?_ rfl
  refine eqW_c (e_zi (k := 16) (by decide)) ?_ rfl
  refine eqW_c (e_zi (k := 17) (by decide)) ?_ rfl
  refine eqW_c (e_zi (k := 18) (by decide)) ?_ rfl
  refine eqW_c (e_zi (k := 19) (by decide)) ?_ rfl
  refine eqW_c (e_zi (k := 20) (by decide)) ?_ rfl
  refine eqW_c (e_zi (k := 21) (by decide)) ?_ rfl
  refine eqW_c (e_zi (k := 22) (by decide)) ?_ rfl
  refine eqW_c (e_zi (k := 23) (by decide)) ?_ rfl
  refine eqW_c (e_zi (k := 24) (by decide)) ?_ rfl
  refine eqW_c (e_zi (k := 25) (by decide)) ?_ rfl
  refine eqW_c (EQ_r rfl) ?_ rfl
  refine eqW_c (e_zi (k := 27) (by decide)) ?_ rfl
  refine eqW_c (e_zi (k := 28) (by decide)) ?_ rfl
  refine eqW_c (e_zi (k := 29) (by decide)) ?_ rfl
  refine eqW_c (e_zi (k := 30) (by decide)) ?_ rfl
  refine eqW_c (EQ_r rfl) ?_ rfl
  refine eqW_c (EQ_r rfl) ?_ rfl
  refine eqW_c (e_zi (k := 33) (by decide)) ?_ rfl
  refine eqW_c (e_zi (k := 34) (by decide)) ?_ rfl
  refine eqW_c (e_zi (k := 35) (by decide)) ?_ rfl
  refine eqW_c (e_zi (k := 36) (by decide)) ?_ rfl
  refine eqW_c (e_zi (k := 37) (by decide)) ?_ rfl
  refine eqW_c (e_zi (k := 38) (by decide)) ?_ rfl
  refine eqW_c (e_zi (k := 39) (by decide)) ?_ rfl
  refine eqW_c (e_zi (k := 40) (by decide)) ?_ rfl
  refine eqW_c (e_zi (k := 41) (by decide)) ?_ rfl
  refine eqW_c (e_zi (k := 42) (by decide)) ?_ rfl
  refine eqW_c (e_zi (k := 43) (by decide)) ?_ rfl
  refine eqW_c (e_zi (k := 44) (by decide)) ?_ rfl
  refine eqW_c (e_zi (k := 45) (by decide)) ?_ rfl
  refine eqW_c (e_zi (k := 46) (by decide)) ?_ rfl
  refine eqW_c (e_zi (k := 47) (by decide)) ?_ rfl
  refine eqW_c (e_zi (k := 48) (by decide)) ?_ rfl
  refine eqW_c (e_zi (k := 49) (by decide)) ?_ rfl
  refine eqW_c (e_zi (k := 50) (by decide)) ?_ rfl
  refine eqW_c (EQ_r rfl) ?_ rfl
  refine eqW_c (e_zi (k := 52) (by decide)) ?_ rfl
  refine eqW_c (EQ_r rfl) ?_ rfl
  refine eqW_c (EQ_r rfl) ?_ rfl
  refine eqW_c (e_zi (k := 55) (by decide)) ?_ rfl
  refine eqW_c (e_zi (k := 56) (by decide)) ?_ rfl
  refine eqW_c (e_zi (k := 57) (by decide)) ?_ rfl
  refine eqW_c (e_zi (k := 58) (by decide)) ?_ rfl
  refine eqW_c (e_zi (k := 59) (by decide)) ?_ rfl
  refine eqW_c (e_zi (k := 60) (by decide)) ?_ rfl
  refine eqW_c (e_zi (k := 61) (by decide)) ?_ rfl
  refine eqW_c (e_zi (k := 62) (by decide)) ?_ rfl
  refine eqW_c (e_zi (k := 63) (by decide)) ?_ rfl
  refine eqW_c (e_zi (k := 64) (by decide)) ?_ rfl
  refine eqW_c (e_zi (k := 65) (by decide)) ?_ rfl
  refine eqW_c (EQ_r rfl) ?_ rfl
  refine eqW_c (e_zi (k := 67) (by decide)) ?_ rfl
  refine eqW_c (e_zi (k := 68) (by decide)) ?_ rfl
  refine eqW_c (e_zi (k := 69) (by decide)) ?_ rfl
  refine eqW_c (EQ_q (fun j hj => e_sh j hj)) ?_ rfl
  refine eqW_c (EQ_r rfl) ?_ rfl
  refine eqW_c (e_zl (k := 72) (by decide)) ?_ rfl
  refine eqW_c (EQ_r rfl) ?_ rfl
  refine eqW_c (e_zl (k := 74) (by decide)) ?_ rfl
  refine eqW_c (EQ_r rfl) ?_ rfl
  refine eqW_c (e_zl (k := 76) (by decide)) ?_ rfl
  refine eqW_c (EQ_r rfl) ?_ rfl
  refine eqW_c (e_zl (k := 78) (by decide)) ?_ rfl
  refine eqW_c (EQ_r rfl) ?_ rfl
  refine eqW_c (e_zl (k := 80) (by decide)) ?_ rfl
  refine eqW_c (EQ_r rfl) ?_ rfl
  refine eqW_c (e_zl (k := 82) (by decide)) ?_ rfl
  refine eqW_c (EQ_r rfl) ?_ rfl
  refine eqW_c (e_zi (k := 84) (by decide)) ?_ rfl
  refine eqW_c (e_zi (k := 85) (by decide)) ?_ rfl
  refine eqW_c (e_zi (k := 86) (by decide)) ?_ rfl
  refine eqW_c (e_zi (k := 87) (by decide)) ?_ rfl
  refine eqW_c (e_zi (k := 88) (by decide)) ?_ rfl
  refine eqW_c (e_zi (k := 89) (by decide)) ?_ rfl
  refine eqW_c (EQ_i up_90) ?_ rfl
  refine eqW_c (e_zi (k := 91) (by decide)) ?_ rfl
  refine eqW_c (e_zi (k := 92) (by decide)) ?_ rfl
  refine eqW_c (e_zi (k := 93) (by decide)) ?_ rfl
  refine eqW_c (e_zi (k := 94) (by decide)) ?_ rfl
  refine eqW_c (e_zi (k := 95) (by decide)) ?_ rfl
  refine eqW_c (e_zi (k := 96) (by decide)) ?_ rfl
  refine eqW_c (e_zi (k := 97) (by decide)) ?_ rfl
  refine eqW_c (e_zi (k := 98) (by decide)) ?_ rfl
  refine eqW_c (e_zi (k := 99) (by decide)) ?_ rfl
  refine eqW_c (e_zi (k := 100) (by decide)) ?_ rfl
  refine eqW_c (e_zi (k := 101) (by decide)) ?_ rfl
  refine eqW_c (e_zi (k := 102) (by decide)) ?_ rfl
  refine eqW_c (e_zi (k := 103) (by decide)) ?_ rfl
  refine eqW_c (e_zi (k := 104) (by decide)) ?_ rfl
  refine eqW_c (e_zi (k := 105) (by decide)) ?_ rfl
  refine eqW_c (e_zi (k := 106) (by decide)) ?_ rfl
  refine eqW_c (e_zi (k := 107) (by decide)) ?_ rfl
  refine eqW_c (e_zi (k := 108) (by decide)) ?_ rfl
  refine eqW_c (e_zi (k := 109) (by decide)) ?_ rfl
  refine eqW_c (e_zi (k := 110) (by decide)) ?_ rfl
  refine eqW_c (e_zi (k := 111) (by decide)) ?_ rfl
  refine eqW_c (e_zi (k := 112) (by decide)) ?_ rfl
  refine eqW_c (e_zi (k := 113) (by decide)) ?_ rfl
  refine eqW_c (e_zi (k := 114) (by decide)) ?_ rfl
  refine eqW_c (e_zi (k := 115) (by decide)) ?_ rfl
  refine eqW_c (e_zi (k := 116) (by decide)) ?_ rfl
  refine eqW_c (e_zi (k := 117) (by decide)) ?_ rfl
  refine eqW_c (e_zi (k := 118) (by decide)) ?_ rfl
  refine eqW_c (EQ_i up_119) ?_ rfl
  refine eqW_c (e_zi (k := 120) (by decide)) ?_ rfl
  refine eqW_c (e_zl (k := 121) (by decide)) ?_ rfl
  refine eqW_c (e_zl (k := 122) (by decide)) ?_ rfl
  exact trivial
theorem eq_world (h0 h1 : Nat) (u v : Nat → Nat) : eqW G (w_X10 cy h0 u ++ w_X11 cy h1 v) (wsM cy (adU h0 u h1 v) m0) := by
  rw [lt_X10, lt_X11]
  exact eq_start h0 h1 u v
theorem wsM_fst {ad : Nat → Nat} {m m' : Mem} {k : Nat} {q : Nat × va_E} (h : (wsM cy ad m)[k]? = some q) : q.1 = ad k ∧ k < tab.length ∧ ∃ q', (wsM cy ad m')[k]? = some q' ∧ q'.1 = q.1 := by
  cases hd : tab[k]? with
  | none =>
    unfold wsM at h
    rw [List.getElem?_map, List.getElem?_zipIdx, hd] at h
    simp at h
  | some d =>
    rw [wsM_at hd] at h
    have h := Option.some.inj h
    subst h
    exact ⟨rfl, (List.getElem?_eq_some_iff.mp hd).1, _, wsM_at hd, rfl⟩
theorem wsM_D {A : Nat → Prop} {ad : Nat → Nat} {m m' : Mem} (h : va_D A (wsM cy ad m)) : va_D (AD ad) (wsM cy ad m') := by
  refine ⟨fun i j p q hi hj e => ?_, fun k q hk => ?_⟩
  · obtain ⟨-, -, p', h1, h2⟩ := wsM_fst (m' := m) hi
    obtain ⟨-, -, q', h3, h4⟩ := wsM_fst (m' := m) hj
    exact h.1 i j p' q' h1 h3 (by rw [h2, h4]; exact e)
  · obtain ⟨h1, h2, -⟩ := wsM_fst (m' := m) hk
    exact ⟨k, h2, h1⟩
theorem AD_A {A : Nat → Prop} {ad : Nat → Nat} {m : Mem} (h : va_D A (wsM cy ad m)) {a : Nat} (ha : AD ad a) : A a := by
  obtain ⟨k, hk, rfl⟩ := ha
  exact h.2 k _ (wsM_at (List.getElem?_eq_getElem hk))
end WORLD
