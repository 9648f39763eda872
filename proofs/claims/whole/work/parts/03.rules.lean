def inZ (x : Int) : Prop := x = 0 ∨ x = 1
theorem inZ_R {x : Int} (h : inZ x) : inR x := by rcases h with rfl | rfl <;> exact rg_c rfl
theorem neg_of {i : Int} (h0 : 0 ≤ i) (hr : inR i) : ¬ Int32.ofInt i < 0 := by
  rw [Int32.lt_iff_toInt_lt, oi_ti hr, Int32.toInt_zero]; omega
theorem LH_store2 {ls : Array Slot} {nL i : Nat} {L : List (Option Value)} {v : Value} (h : LH ls nL L) (hi : i + 1 < nL) (hc : v.category = 2) (ho : okS L i = true) :
    ∃ ls', storeLocals ls i v = some ls' ∧ LH ls' nL ((L.set i (some v)).set (i + 1) none) := by
  obtain ⟨l', e', h'⟩ := lv_store2 (l := (List.range L.length).filterMap (fun j => match L[j]? with | some (some w) => some (j, w) | _ => none)) (i := i) (v := v) ⟨h.1, h.2.1, fun q hq => by
    obtain ⟨j, -, hj⟩ := List.mem_filterMap.mp hq
    split at hj
    · rename_i w hw
      cases hj
      exact h.2.2 _ _ hw
    · cases hj⟩ hi hc
  refine ⟨l', e', h'.1, h'.2.1, fun j w hw => ?_⟩
  have hj2 : j ≠ i + 1 := by
    intro q
    subst q
    rw [List.getElem?_set] at hw
    simp at hw
  rw [List.getElem?_set_ne (Ne.symm hj2)] at hw
  by_cases hji : j = i
  · subst hji
    rw [List.getElem?_set] at hw
    simp only [if_true] at hw
    split at hw
    · have e : v = w := by simpa using hw
      subst e
      exact h'.2.2 (j, v) List.mem_cons_self
    · cases hw
  · rw [List.getElem?_set_ne (fun q => hji q.symm)] at hw
    refine h'.2.2 (j, w) (List.mem_cons_of_mem _ (List.mem_filter.mpr ⟨List.mem_filterMap.mpr ⟨j, List.mem_range.mpr (List.getElem?_eq_some_iff.mp hw).1, by rw [hw]⟩, ?_⟩))
    simp only [Bool.and_eq_true, Bool.not_eq_true', beq_eq_false_iff_ne, ne_eq, Bool.and_eq_false_iff]
    refine ⟨hji, hj2, ?_⟩
    by_cases hj1 : j + 1 = i
    · right
      subst hj1
      unfold okS at ho
      simp only [hw] at ho
      have : w.category = 1 := by simpa using ho
      omega
    · exact Or.inl hj1
def subL : List (Option Value) → List (Option Value) → Prop
  | [], _ => True
  | a :: as, b :: bs => (a = none ∨ a = b) ∧ subL as bs
  | _ :: _, [] => False
theorem subL_ok : ∀ {L' L : List (Option Value)}, subL L' L → ∀ (i : Nat) (v : Value), L'[i]? = some (some v) → L[i]? = some (some v)
  | [], _, _, i, v, h => by simp at h
  | a :: as, [], h, _, _, _ => h.elim
  | a :: as, b :: bs, h, 0, v, hv => by
    have e : a = some v := by simpa using hv
    rcases h.1 with h1 | h1
    · rw [h1] at e; cases e
    · rw [← h1, e]; rfl
  | a :: as, b :: bs, h, i + 1, v, hv => by
    have := subL_ok h.2 i v (by simpa using hv)
    simpa using this
/-! the cells: by numbers; what they are never changes -/
def arD (o n : Nat) : List (Option Nat) := (List.range n).map (fun j => some (o + 1 + j))
def trD (o : Nat) : List ((Nat × Nat) ⊕ (Nat × List (Option Nat))) := [.inr (8, none :: arD o 11), .inl (0, 12), .inl (0, 12), .inl (0, 12), .inl (0, 12), .inl (0, 12), .inl (0, 12), .inl (0, 12), .inl (0, 16), .inl (0, 48), .inl (0, 48), .inl (0, 48)]
def shD (o : Nat) : List ((Nat × Nat) ⊕ (Nat × List (Option Nat))) := [.inr (6, [none, none, none, none, some (o + 1)]), .inl (1, 60)]
def tab : List ((Nat × Nat) ⊕ (Nat × List (Option Nat))) :=
  [.inr (9, [some 1, some 4, some 14, some 26, some 31, some 51, some 53, some 66, some 70])] ++
  [.inr (7, [some 2, none, none, none, none, some 3, none]), .inl (0, 120), .inl (0, 16)] ++
  [.inr (1, [none, some 5, some 6, some 7, some 8, some 9, some 10, some 11, some 12, some 13, none, none, none]), .inl (0, 12), .inl (0, 12), .inl (0, 12), .inl (0, 12), .inl (0, 209), .inl (0, 40), .inl (0, 40), .inl (0, 40), .inl (0, 16)] ++
  trD 14 ++
  [.inr (4, [some 4, some 14, some 27, some 28, some 29, some 30]), .inl (0, 192), .inl (0, 6), .inl (0, 21), .inl (0, 4)] ++
  [.inr (0, [some 4, some 32, none, none, none, some 44, some 45, some 46, some 47, some 48, some 49, some 50, none, none, none])] ++ trD 32 ++
  [.inl (0, 6), .inl (0, 7776), .inl (0, 6), .inl (0, 7), .inl (0, 36), .inl (0, 16), .inl (0, 17)] ++
  [.inr (3, [some 4, some 52]), .inl (0, 16)] ++
  [.inr (2, [some 4, some 54])] ++ trD 54 ++
  [.inr (5, [none, none, some 67, some 68, some 69, none, none, none]), .inl (0, 100), .inl (0, 24), .inl (0, 100)] ++
  [.inl (4, 6)] ++ shD 71 ++ shD 73 ++ shD 75 ++ shD 77 ++ shD 79 ++ shD 81 ++
  [.inr (10, [none, none, some 84, some 85, some 86, some 87, some 88, some 89, some 90, some 91, none, none, none, none, none, some 92, some 93, some 94, some 95, some 96, some 97, some 98, some 99, some 100, none, none, some 101, some 102, none, some 103, some 104, none, none, none, some 105, some 106, some 107, some 108, some 109, some 110, none, some 111, some 112, some 113, some 114, some 115, none, some 116, some 117, none, some 118, some 119, some 120, some 121, some 122])] ++
  [.inl (0, 12), .inl (0, 12), .inl (0, 12), .inl (3, 12), .inl (0, 12), .inl (0, 192), .inl (0, 5), .inl (2, 120), .inl (0, 40), .inl (0, 40), .inl (0, 40), .inl (0, 40), .inl (0, 12), .inl (3, 12), .inl (0, 48), .inl (0, 48), .inl (0, 12), .inl (0, 12), .inl (0, 12), .inl (0, 6), .inl (0, 6), .inl (0, 7776), .inl (0, 60), .inl (0, 192), .inl (0, 4), .inl (0, 6), .inl (0, 21), .inl (0, 120), .inl (0, 6), .inl (0, 6), .inl (0, 24), .inl (0, 4), .inl (0, 100), .inl (0, 100), .inl (0, 24), .inl (0, 6), .inl (0, 6), .inl (1, 360), .inl (1, 60)]
def entV (ad : Nat → Nat) (m : Mem) (k j : Nat) (f : Option Nat) : Value := match f with
  | none => .int (Int32.ofInt (m k (j : Int)))
  | some k' => .ref (ad k')
def entF (ad : Nat → Nat) (m : Mem) (k : Nat) : Nat → List (Option Nat) → List Value
  | _, [] => []
  | j, f :: fs => entV ad m k j f :: entF ad m k (j + 1) fs
theorem entF_at {ad : Nat → Nat} {m : Mem} {k : Nat} : ∀ {fs : List (Option Nat)} {j i : Nat} {f : Option Nat}, fs[i]? = some f → (entF ad m k j fs)[i]? = some (entV ad m k (j + i) f)
  | [], j, i, f, h => by simp at h
  | g :: fs, j, 0, f, h => by
    have e : g = f := by simpa using h
    subst e; rfl
  | g :: fs, j, i + 1, f, h => by
    have := entF_at (ad := ad) (m := m) (k := k) (fs := fs) (j := j + 1) (i := i) (f := f) (by simpa using h)
    unfold entF
    rw [show j + (i + 1) = j + 1 + i by omega]
    simpa using this
theorem entF_len {ad : Nat → Nat} {m : Mem} {k : Nat} : ∀ {fs : List (Option Nat)} {j : Nat}, (entF ad m k j fs).length = fs.length
  | [], j => rfl
  | g :: fs, j => by
    show (entF ad m k (j + 1) fs).length + 1 = fs.length + 1
    rw [entF_len]
theorem entF_i {ad : Nat → Nat} {m : Mem} {k j : Nat} {fs : List (Option Nat)} (h : fs[j]? = some none) : (entF ad m k 0 fs)[j]? = some (.int (Int32.ofInt (m k (j : Int)))) := by
  have := entF_at (ad := ad) (m := m) (k := k) (j := 0) h
  rw [Nat.zero_add] at this
  exact this
theorem entF_r {ad : Nat → Nat} {m : Mem} {k j k2 : Nat} {fs : List (Option Nat)} (h : fs[j]? = some (some k2)) : (entF ad m k 0 fs)[j]? = some (.ref (ad k2)) := by
  have := entF_at (ad := ad) (m := m) (k := k) (j := 0) h
  rw [Nat.zero_add] at this
  exact this
def ent (cy ad : Nat → Nat) (m : Mem) (k : Nat) (d : (Nat × Nat) ⊕ (Nat × List (Option Nat))) : va_E := match d with
  | .inl (0, n) => .inl (cy 0, n, .inl (fun j => Int32.ofInt (m k (j : Int))))
  | .inl (1, n) => .inl (cy 1, n, .inr (.inl (fun j => Int64.ofInt (m k (j : Int)))))
  | .inl (2, n) => .inl (cy 2, n, .inl (fun j => Int32.ofInt (m k (j : Int))))
  | .inl (3, n) => .inl (cy 3, n, .inl (fun j => Int32.ofInt (m k (j : Int))))
  | .inl (_, n) => .inl (cy 4, n, .inr (.inr (.inr (.inr (fun j => some (ad (71 + 2 * j)))))))
  | .inr (ci, fs) => .inr (ci, entF ad m k 0 fs)
def wsM (cy ad : Nat → Nat) (m : Mem) : va_W := tab.zipIdx.map (fun p => (ad p.2, ent cy ad m p.2 p.1))
def tysM (cy : Nat → Nat) : List (ClassId × FieldType) := [(cy 0, .int), (cy 1, .long), (cy 2, .byte), (cy 3, .boolean), (cy 4, .object "MotherTowns$Shelf")]
def AD (ad : Nat → Nat) : Nat → Prop := fun q => ∃ k, k < tab.length ∧ q = ad k
theorem wsM_at {cy ad : Nat → Nat} {m : Mem} {k : Nat} {d : (Nat × Nat) ⊕ (Nat × List (Option Nat))} (h : tab[k]? = some d) : (wsM cy ad m)[k]? = some (ad k, ent cy ad m k d) := by
  unfold wsM
  rw [List.getElem?_map, List.getElem?_zipIdx, h]
  simp
theorem entF_congr {ad : Nat → Nat} {m m' : Mem} {k : Nat} (h : m k = m' k) : ∀ (fs : List (Option Nat)) (j : Nat), entF ad m k j fs = entF ad m' k j fs
  | [], j => rfl
  | f :: fs, j => by
    unfold entF
    rw [entF_congr h fs (j + 1)]
    congr 1
    cases f with
    | none => unfold entV; rw [h]
    | some _ => rfl
theorem ent_congr {cy ad : Nat → Nat} {m m' : Mem} {k : Nat} (h : m k = m' k) (d : (Nat × Nat) ⊕ (Nat × List (Option Nat))) : ent cy ad m k d = ent cy ad m' k d := by
  unfold ent
  split <;> first | rfl | rw [h] | rw [entF_congr h]
theorem wsM_set {cy ad : Nat → Nat} {m m' : Mem} {k : Nat} {d : (Nat × Nat) ⊕ (Nat × List (Option Nat))} {x : va_E} (h : tab[k]? = some d) (hx : x = ent cy ad m' k d) (ho : ∀ j, j ≠ k → m j = m' j) : (wsM cy ad m).set k (ad k, x) = wsM cy ad m' := by
  subst hx
  apply List.ext_getElem?
  intro j
  by_cases hj : j = k
  · subst hj
    rw [List.getElem?_set_self (List.getElem?_eq_some_iff.mp (wsM_at (cy := cy) (ad := ad) (m := m) h)).1, wsM_at h]
  · rw [List.getElem?_set_ne (Ne.symm hj)]
    unfold wsM
    rw [List.getElem?_map, List.getElem?_map, List.getElem?_zipIdx]
    cases tab[j]? with
    | none => rfl
    | some d' =>
      show some (ad (0 + j), ent cy ad m (0 + j) d') = some (ad (0 + j), ent cy ad m' (0 + j) d')
      rw [Nat.zero_add, ent_congr (ho j hj)]
theorem wr_o {m : Mem} {k : Nat} {i v : Int} : ∀ j, j ≠ k → m j = wr m k i v j := fun j h => (wr_k h).symm
theorem upd_wr {m : Mem} {k : Nat} {i v : Int} (h0 : 0 ≤ i) (hr : inR i) : upd (fun j => Int32.ofInt (m k (j : Int))) (Int32.ofInt i).toNatClampNeg (Int32.ofInt v) = fun j : Nat => Int32.ofInt (wr m k i v k (j : Int)) := by
  funext j
  unfold upd wr
  have := oi_cl h0 hr
  by_cases hj : j = (Int32.ofInt i).toNatClampNeg
  · rw [if_pos hj, if_pos ⟨rfl, by omega⟩]
  · rw [if_neg hj, if_neg (by intro q; omega)]
theorem wsM_put0 {cy ad : Nat → Nat} {m : Mem} {k n : Nat} {i v : Int} (h : tab[k]? = some (.inl (0, n))) (h0 : 0 ≤ i) (hr : inR i) : (wsM cy ad m).set k (ad k, .inl (cy 0, n, .inl (upd (fun j => Int32.ofInt (m k (j : Int))) (Int32.ofInt i).toNatClampNeg (Int32.ofInt v)))) = wsM cy ad (wr m k i v) :=
  wsM_set h (by rw [upd_wr h0 hr]; rfl) wr_o
theorem wsM_put2 {cy ad : Nat → Nat} {m : Mem} {k n : Nat} {i v : Int} (h : tab[k]? = some (.inl (2, n))) (h0 : 0 ≤ i) (hr : inR i) : (wsM cy ad m).set k (ad k, .inl (cy 2, n, .inl (upd (fun j => Int32.ofInt (m k (j : Int))) (Int32.ofInt i).toNatClampNeg (vp_nar .byte (Int32.ofInt v))))) = wsM cy ad (wr m k i (i8 v)) :=
  wsM_set h (by rw [show vp_nar .byte (Int32.ofInt v) = Int32.ofInt (i8 v) by unfold i8; rw [Int32.ofInt_toInt]; rfl, upd_wr h0 hr]; rfl) wr_o
theorem wsM_put3 {cy ad : Nat → Nat} {m : Mem} {k n : Nat} {i v : Int} (h : tab[k]? = some (.inl (3, n))) (h0 : 0 ≤ i) (hr : inR i) (hz : inZ v) : (wsM cy ad m).set k (ad k, .inl (cy 3, n, .inl (upd (fun j => Int32.ofInt (m k (j : Int))) (Int32.ofInt i).toNatClampNeg (vp_nar .boolean (Int32.ofInt v))))) = wsM cy ad (wr m k i v) :=
  wsM_set h (by rw [show vp_nar .boolean (Int32.ofInt v) = Int32.ofInt v by rcases hz with rfl | rfl <;> rfl, upd_wr h0 hr]; rfl) wr_o
theorem wsM_put1 {cy ad : Nat → Nat} {m : Mem} {k n : Nat} {i v : Int} (h : tab[k]? = some (.inl (1, n))) (h0 : 0 ≤ i) (hr : inR i) : (wsM cy ad m).set k (ad k, .inl (cy 1, n, .inr (.inl (vp_updL (fun j => Int64.ofInt (m k (j : Int))) (Int32.ofInt i).toNatClampNeg (Int64.ofInt v))))) = wsM cy ad (wr m k i v) := by
  refine wsM_set h ?_ wr_o
  rw [show vp_updL (fun j => Int64.ofInt (m k (j : Int))) (Int32.ofInt i).toNatClampNeg (Int64.ofInt v) = fun j : Nat => Int64.ofInt (wr m k i v k (j : Int)) by
    funext j
    unfold vp_updL wr
    have := oi_cl h0 hr
    by_cases hj : j = (Int32.ofInt i).toNatClampNeg
    · rw [if_pos hj, if_pos ⟨rfl, by omega⟩]
    · rw [if_neg hj, if_neg (by intro q; omega)]]
  rfl
theorem entF_set {ad : Nat → Nat} {m : Mem} {k : Nat} {v : Int} : ∀ {fs : List (Option Nat)} {b j : Nat}, fs[j]? = some none → (entF ad m k b fs).set j (.int (Int32.ofInt v)) = entF ad (wr m k ((b + j : Nat) : Int) v) k b fs
  | [], b, j, h => by simp at h
  | f :: fs, b, 0, h => by
    have e : f = none := by simpa using h
    subst e
    show Value.int (Int32.ofInt v) :: entF ad m k (b + 1) fs = entV ad _ k b none :: entF ad _ k (b + 1) fs
    have h1 : entV ad (wr m k ((b + 0 : Nat) : Int) v) k b none = .int (Int32.ofInt v) := by
      unfold entV wr; simp
    rw [h1]
    congr 1
    have key : ∀ (gs : List (Option Nat)) (c : Nat), b < c → entF ad m k c gs = entF ad (wr m k ((b + 0 : Nat) : Int) v) k c gs := by
      intro gs
      induction gs with
      | nil => intro c _; rfl
      | cons g gs ih =>
        intro c hc
        unfold entF
        rw [ih (c + 1) (by omega)]
        congr 1
        cases g with
        | none =>
          unfold entV wr
          simp only [true_and]
          rw [if_neg (by omega)]
        | some _ => rfl
    exact key fs (b + 1) (by omega)
  | f :: fs, b, j + 1, h => by
    have ih := entF_set (ad := ad) (m := m) (k := k) (v := v) (fs := fs) (b := b + 1) (j := j) (by simpa using h)
    show entV ad m k b f :: (entF ad m k (b + 1) fs).set j _ = entV ad (wr m k ((b + (j + 1) : Nat) : Int) v) k b f :: entF ad (wr m k ((b + (j + 1) : Nat) : Int) v) k (b + 1) fs
    rw [ih, show ((b + (j + 1) : Nat) : Int) = ((b + 1 + j : Nat) : Int) by omega]
    congr 1
    cases f with
    | none =>
      unfold entV wr
      simp only [true_and]
      rw [if_neg (by omega)]
    | some _ => rfl
theorem wsM_putf {cy ad : Nat → Nat} {m : Mem} {k j ci : Nat} {v : Int} {fds : List (Option Nat)} (h : tab[k]? = some (.inr (ci, fds))) (hf : fds[j]? = some none) : (wsM cy ad m).set k (ad k, .inr (ci, (entF ad m k 0 fds).set j (iv v))) = wsM cy ad (wr m k (j : Int) v) := by
  refine wsM_set h ?_ wr_o
  unfold iv
  rw [entF_set hf, Nat.zero_add]
  rfl
theorem ent_alen {cy ad : Nat → Nat} {m : Mem} {k n q : Nat} (hq : q < 5) : ∃ (c0 : ClassId) (x0 : vp_A) (ty0 : FieldType), ent cy ad m k (.inl (q, n)) = .inl (c0, x0) ∧ (tysM cy)[q]? = some (c0, ty0) ∧ x0.1 = n := by
  rcases (show q = 0 ∨ q = 1 ∨ q = 2 ∨ q = 3 ∨ q = 4 by omega) with rfl | rfl | rfl | rfl | rfl <;> exact ⟨_, _, _, rfl, rfl, rfl⟩
def cpy (m : Mem) (k1 : Nat) (i : Int) (k2 : Nat) (j n : Int) : Mem := fun k' x => if k' = k2 ∧ j ≤ x ∧ x < j + n then m k1 (i + (x - j)) else m k' x
theorem cpy_o {m : Mem} {k1 k2 : Nat} {i j n : Int} : ∀ q, q ≠ k2 → m q = cpy m k1 i k2 j n q := fun q h => by
  funext x; unfold cpy; rw [if_neg (fun z => h z.1)]
theorem cpy_fn {α : Type} {g : Int → α} {m : Mem} {k1 k2 : Nat} {i j n : Int} (h0 : 0 ≤ i) (h1 : 0 ≤ j) (h2 : 0 ≤ n) (ri : inR i) (rj : inR j) (rn : inR n) : va_cpy (fun x : Nat => g (m k1 (x : Int))) (fun x : Nat => g (m k2 (x : Int))) (Int32.ofInt i).toNatClampNeg (Int32.ofInt j).toNatClampNeg (Int32.ofInt n).toNatClampNeg = fun x : Nat => g (cpy m k1 i k2 j n k2 (x : Int)) := by
  have a0 := oi_cl h0 ri
  have a1 := oi_cl h1 rj
  have a2 := oi_cl h2 rn
  funext x
  unfold va_cpy cpy
  by_cases hx : (Int32.ofInt j).toNatClampNeg ≤ x ∧ x < (Int32.ofInt j).toNatClampNeg + (Int32.ofInt n).toNatClampNeg
  · rw [if_pos hx, if_pos ⟨rfl, by omega, by omega⟩]
    show g (m k1 (((Int32.ofInt i).toNatClampNeg + (x - (Int32.ofInt j).toNatClampNeg) : Nat) : Int)) = g (m k1 (i + ((x : Int) - j)))
    rw [show (((Int32.ofInt i).toNatClampNeg + (x - (Int32.ofInt j).toNatClampNeg) : Nat) : Int) = i + ((x : Int) - j) by omega]
  · rw [if_neg hx, if_neg (by intro q; omega)]
theorem wsM_cpy0 {cy ad : Nat → Nat} {m : Mem} {k1 k2 n1 n2 : Nat} {i j n : Int} (_ : tab[k1]? = some (.inl (0, n1))) (h : tab[k2]? = some (.inl (0, n2))) (h0 : 0 ≤ i) (h1 : 0 ≤ j) (h2 : 0 ≤ n) (ri : inR i) (rj : inR j) (rn : inR n) : (wsM cy ad m).set k2 (ad k2, .inl (cy 0, n2, .inl (va_cpy (fun x => Int32.ofInt (m k1 (x : Int))) (fun x => Int32.ofInt (m k2 (x : Int))) (Int32.ofInt i).toNatClampNeg (Int32.ofInt j).toNatClampNeg (Int32.ofInt n).toNatClampNeg))) = wsM cy ad (cpy m k1 i k2 j n) :=
  wsM_set h (by rw [cpy_fn h0 h1 h2 ri rj rn]; rfl) cpy_o
theorem wsM_cpy1 {cy ad : Nat → Nat} {m : Mem} {k1 k2 n1 n2 : Nat} {i j n : Int} (_ : tab[k1]? = some (.inl (1, n1))) (h : tab[k2]? = some (.inl (1, n2))) (h0 : 0 ≤ i) (h1 : 0 ≤ j) (h2 : 0 ≤ n) (ri : inR i) (rj : inR j) (rn : inR n) : (wsM cy ad m).set k2 (ad k2, .inl (cy 1, n2, .inr (.inl (va_cpy (fun x => Int64.ofInt (m k1 (x : Int))) (fun x => Int64.ofInt (m k2 (x : Int))) (Int32.ofInt i).toNatClampNeg (Int32.ofInt j).toNatClampNeg (Int32.ofInt n).toNatClampNeg)))) = wsM cy ad (cpy m k1 i k2 j n) :=
  wsM_set h (by rw [cpy_fn h0 h1 h2 ri rj rn]; rfl) cpy_o
/-! the words that hold everywhere; links -/
def WS : List Cond := lw_tbl.filter goodWord
theorem WS_m {w : Cond} (i : Nat) (h : (lw_tbl[i]? = some w) ∧ goodWord w = true) : w ∈ WS := List.mem_filter.mpr ⟨List.mem_of_getElem? h.1, h.2⟩
theorem WS_t {w : Cond} (h : w ∈ tables_1) (hg : goodWord w = true) : w ∈ WS := List.mem_filter.mpr ⟨List.mem_append_right _ h, hg⟩
theorem wm_0 {w : Cond} (i : Nat) (h : (k2_sels lw_privs)[i]? = some w) (hg : goodWord w = true) : w ∈ WS := List.mem_filter.mpr ⟨List.mem_append_left _ (List.mem_of_getElem? h), hg⟩
theorem wm_1 {w : Cond} (i : Nat) (h : tables_1_1[i]? = some w) (hg : goodWord w = true) : w ∈ WS := WS_t (List.mem_append_left _ (List.mem_of_getElem? h)) hg
theorem wm_2 {w : Cond} (i : Nat) (h : tables_1_2[i]? = some w) (hg : goodWord w = true) : w ∈ WS := WS_t (List.mem_append_right _ (List.mem_append_left _ (List.mem_of_getElem? h))) hg
theorem wm_3 {w : Cond} (i : Nat) (h : tables_1_3[i]? = some w) (hg : goodWord w = true) : w ∈ WS := WS_t (List.mem_append_right _ (List.mem_append_right _ (List.mem_append_left _ (List.mem_of_getElem? h)))) hg
theorem wm_4 {w : Cond} (i : Nat) (h : tables_1_4[i]? = some w) (hg : goodWord w = true) : w ∈ WS := WS_t (List.mem_append_right _ (List.mem_append_right _ (List.mem_append_right _ (List.mem_append_left _ (List.mem_of_getElem? h))))) hg
theorem wm_5 {w : Cond} (i : Nat) (h : tables_1_5[i]? = some w) (hg : goodWord w = true) : w ∈ WS := WS_t (List.mem_append_right _ (List.mem_append_right _ (List.mem_append_right _ (List.mem_append_right _ (List.mem_append_left _ (List.mem_of_getElem? h)))))) hg
theorem wm_6 {w : Cond} (i : Nat) (h : tables_1_6[i]? = some w) (hg : goodWord w = true) : w ∈ WS := WS_t (List.mem_append_right _ (List.mem_append_right _ (List.mem_append_right _ (List.mem_append_right _ (List.mem_append_right _ (List.mem_append_left _ (List.mem_of_getElem? h))))))) hg
theorem wm_7 {w : Cond} (i : Nat) (h : tables_1_7[i]? = some w) (hg : goodWord w = true) : w ∈ WS := WS_t (List.mem_append_right _ (List.mem_append_right _ (List.mem_append_right _ (List.mem_append_right _ (List.mem_append_right _ (List.mem_append_right _ (List.mem_of_getElem? h))))))) hg
theorem WS_good {w : Cond} (h : w ∈ WS) : (w.onTables && w.keeps) = true ∨ ∃ ty, w = .arrayClass ty := good_of_word (List.mem_filter.mp h).2
def stT : List (String × String × List Int) := [("MotherTowns$Slips", "TEN", [1, 10, 100, 1000, 10000, 100000]), ("MotherTowns$Slips", "ALIKE", [6, 7, -1, 8, -1, 6, 5, 1, 3, -1]), ("MotherTowns$Slips", "ALSO_ALIKE", [-1, -1, -1, -1, -1, -1, 0, -1, -1, -1]), ("MotherTowns$Paths", "KIND_ABOVE", [-1, 0, 0, 1, 0, 4, 1])]
def nwT : List (String × Nat × MethodName × String) := [("MotherTowns$Tape", 57, yX10_isClause, "MotherTowns"), ("MotherTowns$Tape", 61, yX10_isForm, "MotherTowns")]
def STs (ad tt : Nat → Nat) (U : State) (H : Heap) : Prop := ∀ (j : Nat) (q : String × String × List Int), stT[j]? = some q → va_Z q.1 q.2.1 "[I" (.ref (tt j)) (AD ad) U H ∧ va_T .int (tt j) q.2.2.length (fun i => .int (Int32.ofInt (q.2.2.getD i 0))) (AD ad) U H
def NWs (U : State) : Prop := ∀ (j : Nat) (q : String × Nat × MethodName × String), nwT[j]? = some q → va_Nw (.methodLinkNest q.1 q.2.1 q.2.2.1 q.2.2.2) U
def WD (G : va_G) (cy ad tt : Nat → Nat) (m : Mem) (U : State) : Prop := va_P G vwCl (wsM cy ad m) U.heap ∧ va_K G vwCl (tysM cy) U ∧ (∀ m, va_D (AD ad) (wsM cy ad m)) ∧ STs ad tt U U.heap ∧ NWs U
def mtQ (G : va_G) (cy ad : Nat → Nat) (o : Option Value) (P : Prop) (m : Mem) : Array Value → State → Outcome → State → Prop := fun _ st oc t => oc = .returned o ∧ P ∧ va_P G vwCl (wsM cy ad m) t.heap ∧ va_F (AD ad) st t
def rmD (D : Nat) : Room := { frames := D, cells := 0, slots := 0, locals := 64 * D }
def CT (l : Launch) (G : va_G) (cy ad tt : Nat → Nat) (y : MethodName) (b : ByteArray) (mx : Nat) (ret : Option FieldType) (D : Nat) (as : List Value) (m : Mem) (o : Option Value) (P : Prop) (m' : Mem) : Prop :=
  Met l y (Cond.code y b mx ret :: WS) (rmD D) (va_Pc as (WD G cy ad tt m)) (mtQ G cy ad o P m') 0 0 (AD ad)
def CX (p : Program) (l : Launch) (e : Env) (R : Room) (s : State) (mt : MethodId) (args : Array Value) (below : List Frame) (meth : Method) (c : Code) (cN sN : Nat) (G : va_G) (cy ad tt : Nat → Nat) (own : String) (cc : ByteArray) (nL D : Nat) : Prop :=
  p.tables.exec = Jvm.exec ∧ c.code = cc ∧ c.maxLocals = nL ∧ s.vm.findClass own = some mt.cls ∧ (∀ w ∈ WS, w.before args s = true) ∧ va_K G vwCl (tysM cy) s ∧ (∀ m, va_D (AD ad) (wsM cy ad m)) ∧ STs ad tt s s.heap ∧ cN + 0 ≤ R.cells ∧ sN + 0 ≤ R.slots ∧ (D ≤ R.frames ∧ 64 * D ≤ R.locals) ∧ NWs s
def GO (G : va_G) (cy ad : Nat → Nat) (p : Program) (l : Launch) (e : Env) (R : Room) (s : State) (mt : MethodId) (args : Array Value) (below : List Frame) (meth : Method) (c : Code) (nL cN sN : Nat) (Q : State → Prop) (pc : Nat) (L : List (Option Value)) (st : List Value) (m : Mem) : Prop :=
  ∀ (H : Heap) (locs : List Loc) (ls : Array Slot), LH ls nL L → va_P G vwCl (wsM cy ad m) H → va_S (AD ad) s.heap H locs → W p l e R s mt args below meth c H locs cN sN Q (F0 mt pc ls st)
/-- a field by a pool entry: of class number ci, place j -/
def FL (own : String) (idx ci j : Nat) (ty : FieldType) (fin : Bool) : Prop := ∃ (C : String) (T : u_T) (N : Nat), vwCl[ci]? = some (C, T, N) ∧ j < N ∧ Cond.fieldLink own idx C (T j).2.1 (T j).2.2.1 ∈ WS ∧ (T j).1 = C ∧ parseFieldDescriptor (T j).2.2.1 = some ty ∧ (T j).2.2.2 = fin
def SL (own : String) (idx j : Nat) : Prop := ∃ q, stT[j]? = some q ∧ Cond.fieldLink own idx q.1 q.2.1 "[I" ∈ WS
def CLB (y : MethodName) (b : ByteArray) (mx : Nat) (ret : Option FieldType) (n : Nat) : Prop := Cond.code y b mx ret ∈ WS ∧ Cond.initialized y.cls ∈ WS ∧ (y.cls ≠ "java/lang/invoke/MethodHandle" ∧ y.cls ≠ "java/lang/invoke/VarHandle" ∧ (parseMethodDescriptor y.desc).map (fun d => d.parameters.length) = some n) ∧ mx ≤ 40
def CLV (own : String) (idx : Nat) (y : MethodName) (b : ByteArray) (mx : Nat) (ret : Option FieldType) (n : Nat) : Prop := CLB y b mx ret n ∧ Cond.methodLink own idx y ∈ WS ∧ Cond.instanceMethod y ∈ WS ∧ Cond.selects y.cls y y ∈ WS
def CLS (own : String) (idx : Nat) (y : MethodName) (b : ByteArray) (mx : Nat) (ret : Option FieldType) (n : Nat) : Prop := CLB y b mx ret n ∧ Cond.methodLink own idx y ∈ WS ∧ Cond.static y ∈ WS
def CLN (own : String) (idx : Nat) (y : MethodName) (b : ByteArray) (mx : Nat) (ret : Option FieldType) (n j : Nat) : Prop := CLB y b mx ret n ∧ (∃ host, nwT[j]? = some (own, idx, y, host)) ∧ Cond.static y ∈ WS
def RU_iconst (l : Launch) (G : va_G) (cy ad tt : Nat → Nat) (own : String) (cc : ByteArray) (nL D : Nat) (Go : Nat → List (Option Value) → List Value → Mem → Prop) : Prop := ∀ {pc : Nat} {L : List (Option Value)} {st : List Value} {m : Mem} {n : Int}, (decode cc pc = .ok (.iconst n, 1)) → (Go (pc + 1) L (iv n :: st) m) → Go pc L st m
def RU_bipush (l : Launch) (G : va_G) (cy ad tt : Nat → Nat) (own : String) (cc : ByteArray) (nL D : Nat) (Go : Nat → List (Option Value) → List Value → Mem → Prop) : Prop := ∀ {pc : Nat} {L : List (Option Value)} {st : List Value} {m : Mem} {n : Int}, (decode cc pc = .ok (.bipush n, 2)) → (Int8.minValue.toInt ≤ n ∧ n ≤ Int8.maxValue.toInt) → (Go (pc + 2) L (iv n :: st) m) → Go pc L st m
def RU_sipush (l : Launch) (G : va_G) (cy ad tt : Nat → Nat) (own : String) (cc : ByteArray) (nL D : Nat) (Go : Nat → List (Option Value) → List Value → Mem → Prop) : Prop := ∀ {pc : Nat} {L : List (Option Value)} {st : List Value} {m : Mem} {n : Int}, (decode cc pc = .ok (.sipush n, 3)) → (Int16.minValue.toInt ≤ n ∧ n ≤ Int16.maxValue.toInt) → (Go (pc + 3) L (iv n :: st) m) → Go pc L st m
def RU_ldc (l : Launch) (G : va_G) (cy ad tt : Nat → Nat) (own : String) (cc : ByteArray) (nL D : Nat) (Go : Nat → List (Option Value) → List Value → Mem → Prop) : Prop := ∀ {pc : Nat} {L : List (Option Value)} {st : List Value} {m : Mem} {n : Int} {idx : Nat}, (decode cc pc = .ok (.ldc idx, 2)) → (Cond.constant own idx (Int32.ofInt n) ∈ WS) → (Go (pc + 2) L (iv n :: st) m) → Go pc L st m
def RU_ldcw (l : Launch) (G : va_G) (cy ad tt : Nat → Nat) (own : String) (cc : ByteArray) (nL D : Nat) (Go : Nat → List (Option Value) → List Value → Mem → Prop) : Prop := ∀ {pc : Nat} {L : List (Option Value)} {st : List Value} {m : Mem} {n : Int} {idx : Nat}, (decode cc pc = .ok (.ldc_w idx, 3)) → (Cond.constant own idx (Int32.ofInt n) ∈ WS) → (Go (pc + 3) L (iv n :: st) m) → Go pc L st m
def RU_lconst (l : Launch) (G : va_G) (cy ad tt : Nat → Nat) (own : String) (cc : ByteArray) (nL D : Nat) (Go : Nat → List (Option Value) → List Value → Mem → Prop) : Prop := ∀ {pc : Nat} {L : List (Option Value)} {st : List Value} {m : Mem} {n : Fin 2}, (decode cc pc = .ok (.lconst n, 1)) → (Go (pc + 1) L (jv ((n : Nat) : Int) :: st) m) → Go pc L st m
def RU_ldc2 (l : Launch) (G : va_G) (cy ad tt : Nat → Nat) (own : String) (cc : ByteArray) (nL D : Nat) (Go : Nat → List (Option Value) → List Value → Mem → Prop) : Prop := ∀ {pc : Nat} {L : List (Option Value)} {st : List Value} {m : Mem} {n : Int} {idx : Nat}, (decode cc pc = .ok (.ldc2_w idx, 3)) → (Cond.constantLong own idx (Int64.ofInt n) ∈ WS) → (Go (pc + 3) L (jv n :: st) m) → Go pc L st m
def RU_iload (l : Launch) (G : va_G) (cy ad tt : Nat → Nat) (own : String) (cc : ByteArray) (nL D : Nat) (Go : Nat → List (Option Value) → List Value → Mem → Prop) : Prop := ∀ {pc : Nat} {L : List (Option Value)} {st : List Value} {m : Mem} {i : Nat} {x : Int}, (decode cc pc = .ok (.iload i, 2)) → (L[i]? = some (some (iv x))) → (Go (pc + 2) L (iv x :: st) m) → Go pc L st m
def RU_lload (l : Launch) (G : va_G) (cy ad tt : Nat → Nat) (own : String) (cc : ByteArray) (nL D : Nat) (Go : Nat → List (Option Value) → List Value → Mem → Prop) : Prop := ∀ {pc : Nat} {L : List (Option Value)} {st : List Value} {m : Mem} {i : Nat} {x : Int}, (decode cc pc = .ok (.lload i, 2)) → (L[i]? = some (some (jv x))) → (Go (pc + 2) L (jv x :: st) m) → Go pc L st m
def RU_aload (l : Launch) (G : va_G) (cy ad tt : Nat → Nat) (own : String) (cc : ByteArray) (nL D : Nat) (Go : Nat → List (Option Value) → List Value → Mem → Prop) : Prop := ∀ {pc : Nat} {L : List (Option Value)} {st : List Value} {m : Mem} {i : Nat} {x : Nat}, (decode cc pc = .ok (.aload i, 2)) → (L[i]? = some (some (.ref x))) → (Go (pc + 2) L (.ref x :: st) m) → Go pc L st m
def RU_iload_n (l : Launch) (G : va_G) (cy ad tt : Nat → Nat) (own : String) (cc : ByteArray) (nL D : Nat) (Go : Nat → List (Option Value) → List Value → Mem → Prop) : Prop := ∀ {pc : Nat} {L : List (Option Value)} {st : List Value} {m : Mem} {i : Fin 4} {x : Int}, (decode cc pc = .ok (.iload_n i, 1)) → (L[(i : Nat)]? = some (some (iv x))) → (Go (pc + 1) L (iv x :: st) m) → Go pc L st m
def RU_lload_n (l : Launch) (G : va_G) (cy ad tt : Nat → Nat) (own : String) (cc : ByteArray) (nL D : Nat) (Go : Nat → List (Option Value) → List Value → Mem → Prop) : Prop := ∀ {pc : Nat} {L : List (Option Value)} {st : List Value} {m : Mem} {i : Fin 4} {x : Int}, (decode cc pc = .ok (.lload_n i, 1)) → (L[(i : Nat)]? = some (some (jv x))) → (Go (pc + 1) L (jv x :: st) m) → Go pc L st m
def RU_aload_n (l : Launch) (G : va_G) (cy ad tt : Nat → Nat) (own : String) (cc : ByteArray) (nL D : Nat) (Go : Nat → List (Option Value) → List Value → Mem → Prop) : Prop := ∀ {pc : Nat} {L : List (Option Value)} {st : List Value} {m : Mem} {i : Fin 4} {x : Nat}, (decode cc pc = .ok (.aload_n i, 1)) → (L[(i : Nat)]? = some (some (.ref x))) → (Go (pc + 1) L (.ref x :: st) m) → Go pc L st m
def RU_istore (l : Launch) (G : va_G) (cy ad tt : Nat → Nat) (own : String) (cc : ByteArray) (nL D : Nat) (Go : Nat → List (Option Value) → List Value → Mem → Prop) : Prop := ∀ {pc : Nat} {L : List (Option Value)} {st : List Value} {m : Mem} {i : Nat} {x : Int} {L' : List (Option Value)}, (decode cc pc = .ok (.istore i, 2)) → (i < nL) → (okS L i = true) → (L.set i (some (iv x)) = L') → (Go (pc + 2) L' st m) → Go pc L (iv x :: st) m
def RU_astore (l : Launch) (G : va_G) (cy ad tt : Nat → Nat) (own : String) (cc : ByteArray) (nL D : Nat) (Go : Nat → List (Option Value) → List Value → Mem → Prop) : Prop := ∀ {pc : Nat} {L : List (Option Value)} {st : List Value} {m : Mem} {i : Nat} {x : Nat} {L' : List (Option Value)}, (decode cc pc = .ok (.astore i, 2)) → (i < nL) → (okS L i = true) → (L.set i (some (.ref x)) = L') → (Go (pc + 2) L' st m) → Go pc L (.ref x :: st) m
def RU_istore_n (l : Launch) (G : va_G) (cy ad tt : Nat → Nat) (own : String) (cc : ByteArray) (nL D : Nat) (Go : Nat → List (Option Value) → List Value → Mem → Prop) : Prop := ∀ {pc : Nat} {L : List (Option Value)} {st : List Value} {m : Mem} {i : Fin 4} {x : Int} {L' : List (Option Value)}, (decode cc pc = .ok (.istore_n i, 1)) → ((i : Nat) < nL) → (okS L (i : Nat) = true) → (L.set (i : Nat) (some (iv x)) = L') → (Go (pc + 1) L' st m) → Go pc L (iv x :: st) m
def RU_astore_n (l : Launch) (G : va_G) (cy ad tt : Nat → Nat) (own : String) (cc : ByteArray) (nL D : Nat) (Go : Nat → List (Option Value) → List Value → Mem → Prop) : Prop := ∀ {pc : Nat} {L : List (Option Value)} {st : List Value} {m : Mem} {i : Fin 4} {x : Nat} {L' : List (Option Value)}, (decode cc pc = .ok (.astore_n i, 1)) → ((i : Nat) < nL) → (okS L (i : Nat) = true) → (L.set (i : Nat) (some (.ref x)) = L') → (Go (pc + 1) L' st m) → Go pc L (.ref x :: st) m
def RU_lstore (l : Launch) (G : va_G) (cy ad tt : Nat → Nat) (own : String) (cc : ByteArray) (nL D : Nat) (Go : Nat → List (Option Value) → List Value → Mem → Prop) : Prop := ∀ {pc : Nat} {L : List (Option Value)} {st : List Value} {m : Mem} {i : Nat} {x : Int} {L' : List (Option Value)}, (decode cc pc = .ok (.lstore i, 2)) → (i + 1 < nL) → (okS L i = true) → ((L.set i (some (jv x))).set (i + 1) none = L') → (Go (pc + 2) L' st m) → Go pc L (jv x :: st) m
def RU_iinc (l : Launch) (G : va_G) (cy ad tt : Nat → Nat) (own : String) (cc : ByteArray) (nL D : Nat) (Go : Nat → List (Option Value) → List Value → Mem → Prop) : Prop := ∀ {pc : Nat} {L : List (Option Value)} {st : List Value} {m : Mem} {i : Nat} {n x : Int} {L' : List (Option Value)}, (decode cc pc = .ok (.iinc i n, 3)) → (L[i]? = some (some (iv x))) → (i < nL) → (okS L i = true) → (L.set i (some (iv (w32 (x + n)))) = L') → (Go (pc + 3) L' st m) → Go pc L st m
def RU_dup (l : Launch) (G : va_G) (cy ad tt : Nat → Nat) (own : String) (cc : ByteArray) (nL D : Nat) (Go : Nat → List (Option Value) → List Value → Mem → Prop) : Prop := ∀ {pc : Nat} {L : List (Option Value)} {st : List Value} {m : Mem} {v : Value}, (decode cc pc = .ok (.dup, 1)) → (v.category = 1) → (Go (pc + 1) L (v :: v :: st) m) → Go pc L (v :: st) m
def RU_dup2 (l : Launch) (G : va_G) (cy ad tt : Nat → Nat) (own : String) (cc : ByteArray) (nL D : Nat) (Go : Nat → List (Option Value) → List Value → Mem → Prop) : Prop := ∀ {pc : Nat} {L : List (Option Value)} {st : List Value} {m : Mem} {v w : Value}, (decode cc pc = .ok (.dup2, 1)) → (v.category = 1) → (w.category = 1) → (Go (pc + 1) L (v :: w :: v :: w :: st) m) → Go pc L (v :: w :: st) m
def RU_pop (l : Launch) (G : va_G) (cy ad tt : Nat → Nat) (own : String) (cc : ByteArray) (nL D : Nat) (Go : Nat → List (Option Value) → List Value → Mem → Prop) : Prop := ∀ {pc : Nat} {L : List (Option Value)} {st : List Value} {m : Mem} {v : Value}, (decode cc pc = .ok (.pop, 1)) → (v.category = 1) → (Go (pc + 1) L st m) → Go pc L (v :: st) m
def RU_iadd (l : Launch) (G : va_G) (cy ad tt : Nat → Nat) (own : String) (cc : ByteArray) (nL D : Nat) (Go : Nat → List (Option Value) → List Value → Mem → Prop) : Prop := ∀ {pc : Nat} {L : List (Option Value)} {st : List Value} {m : Mem} {a b : Int}, (decode cc pc = .ok (.iadd, 1)) → (Go (pc + 1) L (iv (w32 (a + b)) :: st) m) → Go pc L (iv b :: iv a :: st) m
def RU_isub (l : Launch) (G : va_G) (cy ad tt : Nat → Nat) (own : String) (cc : ByteArray) (nL D : Nat) (Go : Nat → List (Option Value) → List Value → Mem → Prop) : Prop := ∀ {pc : Nat} {L : List (Option Value)} {st : List Value} {m : Mem} {a b : Int}, (decode cc pc = .ok (.isub, 1)) → (Go (pc + 1) L (iv (w32 (a - b)) :: st) m) → Go pc L (iv b :: iv a :: st) m
def RU_imul (l : Launch) (G : va_G) (cy ad tt : Nat → Nat) (own : String) (cc : ByteArray) (nL D : Nat) (Go : Nat → List (Option Value) → List Value → Mem → Prop) : Prop := ∀ {pc : Nat} {L : List (Option Value)} {st : List Value} {m : Mem} {a b : Int}, (decode cc pc = .ok (.imul, 1)) → (Go (pc + 1) L (iv (w32 (a * b)) :: st) m) → Go pc L (iv b :: iv a :: st) m
def RU_ineg (l : Launch) (G : va_G) (cy ad tt : Nat → Nat) (own : String) (cc : ByteArray) (nL D : Nat) (Go : Nat → List (Option Value) → List Value → Mem → Prop) : Prop := ∀ {pc : Nat} {L : List (Option Value)} {st : List Value} {m : Mem} {a : Int}, (decode cc pc = .ok (.ineg, 1)) → (Go (pc + 1) L (iv (w32 (-a)) :: st) m) → Go pc L (iv a :: st) m
def RU_iand (l : Launch) (G : va_G) (cy ad tt : Nat → Nat) (own : String) (cc : ByteArray) (nL D : Nat) (Go : Nat → List (Option Value) → List Value → Mem → Prop) : Prop := ∀ {pc : Nat} {L : List (Option Value)} {st : List Value} {m : Mem} {a b : Int}, (decode cc pc = .ok (.iand, 1)) → (Go (pc + 1) L (iv (band a b) :: st) m) → Go pc L (iv b :: iv a :: st) m
def RU_ior (l : Launch) (G : va_G) (cy ad tt : Nat → Nat) (own : String) (cc : ByteArray) (nL D : Nat) (Go : Nat → List (Option Value) → List Value → Mem → Prop) : Prop := ∀ {pc : Nat} {L : List (Option Value)} {st : List Value} {m : Mem} {a b : Int}, (decode cc pc = .ok (.ior, 1)) → (Go (pc + 1) L (iv (bor a b) :: st) m) → Go pc L (iv b :: iv a :: st) m
def RU_ixor (l : Launch) (G : va_G) (cy ad tt : Nat → Nat) (own : String) (cc : ByteArray) (nL D : Nat) (Go : Nat → List (Option Value) → List Value → Mem → Prop) : Prop := ∀ {pc : Nat} {L : List (Option Value)} {st : List Value} {m : Mem} {a b : Int}, (decode cc pc = .ok (.ixor, 1)) → (Go (pc + 1) L (iv (bxor a b) :: st) m) → Go pc L (iv b :: iv a :: st) m
def RU_ishl (l : Launch) (G : va_G) (cy ad tt : Nat → Nat) (own : String) (cc : ByteArray) (nL D : Nat) (Go : Nat → List (Option Value) → List Value → Mem → Prop) : Prop := ∀ {pc : Nat} {L : List (Option Value)} {st : List Value} {m : Mem} {a b : Int}, (decode cc pc = .ok (.ishl, 1)) → (Go (pc + 1) L (iv (shl a b) :: st) m) → Go pc L (iv b :: iv a :: st) m
def RU_ishr (l : Launch) (G : va_G) (cy ad tt : Nat → Nat) (own : String) (cc : ByteArray) (nL D : Nat) (Go : Nat → List (Option Value) → List Value → Mem → Prop) : Prop := ∀ {pc : Nat} {L : List (Option Value)} {st : List Value} {m : Mem} {a b : Int}, (decode cc pc = .ok (.ishr, 1)) → (Go (pc + 1) L (iv (shr a b) :: st) m) → Go pc L (iv b :: iv a :: st) m
def RU_iushr (l : Launch) (G : va_G) (cy ad tt : Nat → Nat) (own : String) (cc : ByteArray) (nL D : Nat) (Go : Nat → List (Option Value) → List Value → Mem → Prop) : Prop := ∀ {pc : Nat} {L : List (Option Value)} {st : List Value} {m : Mem} {a b : Int}, (decode cc pc = .ok (.iushr, 1)) → (Go (pc + 1) L (iv (ush a b) :: st) m) → Go pc L (iv b :: iv a :: st) m
def RU_idiv (l : Launch) (G : va_G) (cy ad tt : Nat → Nat) (own : String) (cc : ByteArray) (nL D : Nat) (Go : Nat → List (Option Value) → List Value → Mem → Prop) : Prop := ∀ {pc : Nat} {L : List (Option Value)} {st : List Value} {m : Mem} {a b : Int}, (decode cc pc = .ok (.idiv, 1)) → (b ≠ 0) → (inR b) → (Go (pc + 1) L (iv (idv a b) :: st) m) → Go pc L (iv b :: iv a :: st) m
def RU_irem (l : Launch) (G : va_G) (cy ad tt : Nat → Nat) (own : String) (cc : ByteArray) (nL D : Nat) (Go : Nat → List (Option Value) → List Value → Mem → Prop) : Prop := ∀ {pc : Nat} {L : List (Option Value)} {st : List Value} {m : Mem} {a b : Int}, (decode cc pc = .ok (.irem, 1)) → (b ≠ 0) → (inR b) → (Go (pc + 1) L (iv (irm a b) :: st) m) → Go pc L (iv b :: iv a :: st) m
def RU_i2b (l : Launch) (G : va_G) (cy ad tt : Nat → Nat) (own : String) (cc : ByteArray) (nL D : Nat) (Go : Nat → List (Option Value) → List Value → Mem → Prop) : Prop := ∀ {pc : Nat} {L : List (Option Value)} {st : List Value} {m : Mem} {a : Int}, (decode cc pc = .ok (.i2b, 1)) → (Go (pc + 1) L (iv (i8 a) :: st) m) → Go pc L (iv a :: st) m
def RU_i2s (l : Launch) (G : va_G) (cy ad tt : Nat → Nat) (own : String) (cc : ByteArray) (nL D : Nat) (Go : Nat → List (Option Value) → List Value → Mem → Prop) : Prop := ∀ {pc : Nat} {L : List (Option Value)} {st : List Value} {m : Mem} {a : Int}, (decode cc pc = .ok (.i2s, 1)) → (Go (pc + 1) L (iv (i16 a) :: st) m) → Go pc L (iv a :: st) m
def RU_i2l (l : Launch) (G : va_G) (cy ad tt : Nat → Nat) (own : String) (cc : ByteArray) (nL D : Nat) (Go : Nat → List (Option Value) → List Value → Mem → Prop) : Prop := ∀ {pc : Nat} {L : List (Option Value)} {st : List Value} {m : Mem} {a : Int}, (decode cc pc = .ok (.i2l, 1)) → (inR a) → (Go (pc + 1) L (jv a :: st) m) → Go pc L (iv a :: st) m
def RU_l2i (l : Launch) (G : va_G) (cy ad tt : Nat → Nat) (own : String) (cc : ByteArray) (nL D : Nat) (Go : Nat → List (Option Value) → List Value → Mem → Prop) : Prop := ∀ {pc : Nat} {L : List (Option Value)} {st : List Value} {m : Mem} {a : Int}, (decode cc pc = .ok (.l2i, 1)) → (Go (pc + 1) L (iv (w32 a) :: st) m) → Go pc L (jv a :: st) m
def RU_ladd (l : Launch) (G : va_G) (cy ad tt : Nat → Nat) (own : String) (cc : ByteArray) (nL D : Nat) (Go : Nat → List (Option Value) → List Value → Mem → Prop) : Prop := ∀ {pc : Nat} {L : List (Option Value)} {st : List Value} {m : Mem} {a b : Int}, (decode cc pc = .ok (.ladd, 1)) → (Go (pc + 1) L (jv (w64 (a + b)) :: st) m) → Go pc L (jv b :: jv a :: st) m
def RU_land (l : Launch) (G : va_G) (cy ad tt : Nat → Nat) (own : String) (cc : ByteArray) (nL D : Nat) (Go : Nat → List (Option Value) → List Value → Mem → Prop) : Prop := ∀ {pc : Nat} {L : List (Option Value)} {st : List Value} {m : Mem} {a b : Int}, (decode cc pc = .ok (.land, 1)) → (Go (pc + 1) L (jv (lnd a b) :: st) m) → Go pc L (jv b :: jv a :: st) m
def RU_lor (l : Launch) (G : va_G) (cy ad tt : Nat → Nat) (own : String) (cc : ByteArray) (nL D : Nat) (Go : Nat → List (Option Value) → List Value → Mem → Prop) : Prop := ∀ {pc : Nat} {L : List (Option Value)} {st : List Value} {m : Mem} {a b : Int}, (decode cc pc = .ok (.lor, 1)) → (Go (pc + 1) L (jv (lro a b) :: st) m) → Go pc L (jv b :: jv a :: st) m
def RU_lshl (l : Launch) (G : va_G) (cy ad tt : Nat → Nat) (own : String) (cc : ByteArray) (nL D : Nat) (Go : Nat → List (Option Value) → List Value → Mem → Prop) : Prop := ∀ {pc : Nat} {L : List (Option Value)} {st : List Value} {m : Mem} {a b : Int}, (decode cc pc = .ok (.lshl, 1)) → (Go (pc + 1) L (jv (lsl a b) :: st) m) → Go pc L (iv b :: jv a :: st) m
def RU_lcmp (l : Launch) (G : va_G) (cy ad tt : Nat → Nat) (own : String) (cc : ByteArray) (nL D : Nat) (Go : Nat → List (Option Value) → List Value → Mem → Prop) : Prop := ∀ {pc : Nat} {L : List (Option Value)} {st : List Value} {m : Mem} {a b : Int}, (decode cc pc = .ok (.lcmp, 1)) → (inL a) → (inL b) → (Go (pc + 1) L (iv (lcm' a b) :: st) m) → Go pc L (jv b :: jv a :: st) m
def RU_icmp_eq (l : Launch) (G : va_G) (cy ad tt : Nat → Nat) (own : String) (cc : ByteArray) (nL D : Nat) (Go : Nat → List (Option Value) → List Value → Mem → Prop) : Prop := ∀ {pc : Nat} {L : List (Option Value)} {st : List Value} {m : Mem} {a b off : Int} {tgt : Nat}, (decode cc pc = .ok (.if_icmp .eq off, 3)) → ((pc : Int) + off = (tgt : Int)) → (inR a) → (inR b) → (a = b → Go tgt L st m) → (¬ (a = b) → Go (pc + 3) L st m) → Go pc L (iv b :: iv a :: st) m
def RU_if_eq (l : Launch) (G : va_G) (cy ad tt : Nat → Nat) (own : String) (cc : ByteArray) (nL D : Nat) (Go : Nat → List (Option Value) → List Value → Mem → Prop) : Prop := ∀ {pc : Nat} {L : List (Option Value)} {st : List Value} {m : Mem} {a off : Int} {tgt : Nat}, (decode cc pc = .ok (.ifCond .eq off, 3)) → ((pc : Int) + off = (tgt : Int)) → (inR a) → (a = 0 → Go tgt L st m) → (¬ (a = 0) → Go (pc + 3) L st m) → Go pc L (iv a :: st) m
def RU_icmp_ne (l : Launch) (G : va_G) (cy ad tt : Nat → Nat) (own : String) (cc : ByteArray) (nL D : Nat) (Go : Nat → List (Option Value) → List Value → Mem → Prop) : Prop := ∀ {pc : Nat} {L : List (Option Value)} {st : List Value} {m : Mem} {a b off : Int} {tgt : Nat}, (decode cc pc = .ok (.if_icmp .ne off, 3)) → ((pc : Int) + off = (tgt : Int)) → (inR a) → (inR b) → (a ≠ b → Go tgt L st m) → (¬ (a ≠ b) → Go (pc + 3) L st m) → Go pc L (iv b :: iv a :: st) m
def RU_if_ne (l : Launch) (G : va_G) (cy ad tt : Nat → Nat) (own : String) (cc : ByteArray) (nL D : Nat) (Go : Nat → List (Option Value) → List Value → Mem → Prop) : Prop := ∀ {pc : Nat} {L : List (Option Value)} {st : List Value} {m : Mem} {a off : Int} {tgt : Nat}, (decode cc pc = .ok (.ifCond .ne off, 3)) → ((pc : Int) + off = (tgt : Int)) → (inR a) → (a ≠ 0 → Go tgt L st m) → (¬ (a ≠ 0) → Go (pc + 3) L st m) → Go pc L (iv a :: st) m
def RU_icmp_lt (l : Launch) (G : va_G) (cy ad tt : Nat → Nat) (own : String) (cc : ByteArray) (nL D : Nat) (Go : Nat → List (Option Value) → List Value → Mem → Prop) : Prop := ∀ {pc : Nat} {L : List (Option Value)} {st : List Value} {m : Mem} {a b off : Int} {tgt : Nat}, (decode cc pc = .ok (.if_icmp .lt off, 3)) → ((pc : Int) + off = (tgt : Int)) → (inR a) → (inR b) → (a < b → Go tgt L st m) → (¬ (a < b) → Go (pc + 3) L st m) → Go pc L (iv b :: iv a :: st) m
def RU_if_lt (l : Launch) (G : va_G) (cy ad tt : Nat → Nat) (own : String) (cc : ByteArray) (nL D : Nat) (Go : Nat → List (Option Value) → List Value → Mem → Prop) : Prop := ∀ {pc : Nat} {L : List (Option Value)} {st : List Value} {m : Mem} {a off : Int} {tgt : Nat}, (decode cc pc = .ok (.ifCond .lt off, 3)) → ((pc : Int) + off = (tgt : Int)) → (inR a) → (a < 0 → Go tgt L st m) → (¬ (a < 0) → Go (pc + 3) L st m) → Go pc L (iv a :: st) m
def RU_icmp_ge (l : Launch) (G : va_G) (cy ad tt : Nat → Nat) (own : String) (cc : ByteArray) (nL D : Nat) (Go : Nat → List (Option Value) → List Value → Mem → Prop) : Prop := ∀ {pc : Nat} {L : List (Option Value)} {st : List Value} {m : Mem} {a b off : Int} {tgt : Nat}, (decode cc pc = .ok (.if_icmp .ge off, 3)) → ((pc : Int) + off = (tgt : Int)) → (inR a) → (inR b) → (b ≤ a → Go tgt L st m) → (¬ (b ≤ a) → Go (pc + 3) L st m) → Go pc L (iv b :: iv a :: st) m
def RU_if_ge (l : Launch) (G : va_G) (cy ad tt : Nat → Nat) (own : String) (cc : ByteArray) (nL D : Nat) (Go : Nat → List (Option Value) → List Value → Mem → Prop) : Prop := ∀ {pc : Nat} {L : List (Option Value)} {st : List Value} {m : Mem} {a off : Int} {tgt : Nat}, (decode cc pc = .ok (.ifCond .ge off, 3)) → ((pc : Int) + off = (tgt : Int)) → (inR a) → (0 ≤ a → Go tgt L st m) → (¬ (0 ≤ a) → Go (pc + 3) L st m) → Go pc L (iv a :: st) m
def RU_icmp_gt (l : Launch) (G : va_G) (cy ad tt : Nat → Nat) (own : String) (cc : ByteArray) (nL D : Nat) (Go : Nat → List (Option Value) → List Value → Mem → Prop) : Prop := ∀ {pc : Nat} {L : List (Option Value)} {st : List Value} {m : Mem} {a b off : Int} {tgt : Nat}, (decode cc pc = .ok (.if_icmp .gt off, 3)) → ((pc : Int) + off = (tgt : Int)) → (inR a) → (inR b) → (b < a → Go tgt L st m) → (¬ (b < a) → Go (pc + 3) L st m) → Go pc L (iv b :: iv a :: st) m
def RU_if_gt (l : Launch) (G : va_G) (cy ad tt : Nat → Nat) (own : String) (cc : ByteArray) (nL D : Nat) (Go : Nat → List (Option Value) → List Value → Mem → Prop) : Prop := ∀ {pc : Nat} {L : List (Option Value)} {st : List Value} {m : Mem} {a off : Int} {tgt : Nat}, (decode cc pc = .ok (.ifCond .gt off, 3)) → ((pc : Int) + off = (tgt : Int)) → (inR a) → (0 < a → Go tgt L st m) → (¬ (0 < a) → Go (pc + 3) L st m) → Go pc L (iv a :: st) m
def RU_icmp_le (l : Launch) (G : va_G) (cy ad tt : Nat → Nat) (own : String) (cc : ByteArray) (nL D : Nat) (Go : Nat → List (Option Value) → List Value → Mem → Prop) : Prop := ∀ {pc : Nat} {L : List (Option Value)} {st : List Value} {m : Mem} {a b off : Int} {tgt : Nat}, (decode cc pc = .ok (.if_icmp .le off, 3)) → ((pc : Int) + off = (tgt : Int)) → (inR a) → (inR b) → (a ≤ b → Go tgt L st m) → (¬ (a ≤ b) → Go (pc + 3) L st m) → Go pc L (iv b :: iv a :: st) m
def RU_if_le (l : Launch) (G : va_G) (cy ad tt : Nat → Nat) (own : String) (cc : ByteArray) (nL D : Nat) (Go : Nat → List (Option Value) → List Value → Mem → Prop) : Prop := ∀ {pc : Nat} {L : List (Option Value)} {st : List Value} {m : Mem} {a off : Int} {tgt : Nat}, (decode cc pc = .ok (.ifCond .le off, 3)) → ((pc : Int) + off = (tgt : Int)) → (inR a) → (a ≤ 0 → Go tgt L st m) → (¬ (a ≤ 0) → Go (pc + 3) L st m) → Go pc L (iv a :: st) m
def RU_goto (l : Launch) (G : va_G) (cy ad tt : Nat → Nat) (own : String) (cc : ByteArray) (nL D : Nat) (Go : Nat → List (Option Value) → List Value → Mem → Prop) : Prop := ∀ {pc : Nat} {L : List (Option Value)} {st : List Value} {m : Mem} {off : Int} {tgt : Nat}, (decode cc pc = .ok (.goto off, 3)) → ((pc : Int) + off = (tgt : Int)) → (Go tgt L st m) → Go pc L st m
def RU_tabOut (l : Launch) (G : va_G) (cy ad tt : Nat → Nat) (own : String) (cc : ByteArray) (nL D : Nat) (Go : Nat → List (Option Value) → List Value → Mem → Prop) : Prop := ∀ {pc : Nat} {L : List (Option Value)} {st : List Value} {m : Mem} {a dflt lo hi : Int} {offs : Array Int} {len tgt : Nat}, (decode cc pc = .ok (.tableswitch dflt lo hi offs, len)) → (inR a) → (a < lo ∨ hi < a) → ((pc : Int) + dflt = (tgt : Int)) → (Go tgt L st m) → Go pc L (iv a :: st) m
def RU_tabIn (l : Launch) (G : va_G) (cy ad tt : Nat → Nat) (own : String) (cc : ByteArray) (nL D : Nat) (Go : Nat → List (Option Value) → List Value → Mem → Prop) : Prop := ∀ {pc : Nat} {L : List (Option Value)} {st : List Value} {m : Mem} {a dflt lo hi off : Int} {offs : Array Int} {len tgt : Nat}, (decode cc pc = .ok (.tableswitch dflt lo hi offs, len)) → (inR a) → (¬ a < lo) → (¬ hi < a) → (offs[(a - lo).toNat]? = some off) → ((pc : Int) + off = (tgt : Int)) → (Go tgt L st m) → Go pc L (iv a :: st) m
def RU_geti (l : Launch) (G : va_G) (cy ad tt : Nat → Nat) (own : String) (cc : ByteArray) (nL D : Nat) (Go : Nat → List (Option Value) → List Value → Mem → Prop) : Prop := ∀ {pc : Nat} {L : List (Option Value)} {st : List Value} {m : Mem} {k j ci idx : Nat} {fds : List (Option Nat)} {ty : FieldType} {fin : Bool}, (decode cc pc = .ok (.getfield idx, 3)) → (FL own idx ci j ty fin) → (tab[k]? = some (.inr (ci, fds))) → (fds[j]? = some none) → (Go (pc + 3) L (iv (rd m k (j : Int)) :: st) m) → Go pc L (.ref (ad k) :: st) m
def RU_getr (l : Launch) (G : va_G) (cy ad tt : Nat → Nat) (own : String) (cc : ByteArray) (nL D : Nat) (Go : Nat → List (Option Value) → List Value → Mem → Prop) : Prop := ∀ {pc : Nat} {L : List (Option Value)} {st : List Value} {m : Mem} {k j k2 ci idx : Nat} {fds : List (Option Nat)} {ty : FieldType} {fin : Bool}, (decode cc pc = .ok (.getfield idx, 3)) → (FL own idx ci j ty fin) → (tab[k]? = some (.inr (ci, fds))) → (fds[j]? = some (some k2)) → (Go (pc + 3) L (.ref (ad k2) :: st) m) → Go pc L (.ref (ad k) :: st) m
def RU_puti (l : Launch) (G : va_G) (cy ad tt : Nat → Nat) (own : String) (cc : ByteArray) (nL D : Nat) (Go : Nat → List (Option Value) → List Value → Mem → Prop) : Prop := ∀ {pc : Nat} {L : List (Option Value)} {st : List Value} {m : Mem} {k j ci idx : Nat} {fds : List (Option Nat)} {ty : FieldType} {v : Int}, (decode cc pc = .ok (.putfield idx, 3)) → (FL own idx ci j ty false) → (tab[k]? = some (.inr (ci, fds))) → (fds[j]? = some none) → (narrow ty (iv v) = iv v) → (fits ty (iv v) = true) → (Go (pc + 3) L st (wr m k (j : Int) v)) → Go pc L (iv v :: .ref (ad k) :: st) m
def RU_iald (l : Launch) (G : va_G) (cy ad tt : Nat → Nat) (own : String) (cc : ByteArray) (nL D : Nat) (Go : Nat → List (Option Value) → List Value → Mem → Prop) : Prop := ∀ {pc : Nat} {L : List (Option Value)} {st : List Value} {m : Mem} {k n : Nat} {i : Int}, (decode cc pc = .ok (.iaload, 1)) → (tab[k]? = some (.inl (0, n))) → (0 ≤ i ∧ i < (n : Int)) → (inR i) → (Go (pc + 1) L (iv (rd m k i) :: st) m) → Go pc L (iv i :: .ref (ad k) :: st) m
def RU_bald (l : Launch) (G : va_G) (cy ad tt : Nat → Nat) (own : String) (cc : ByteArray) (nL D : Nat) (Go : Nat → List (Option Value) → List Value → Mem → Prop) : Prop := ∀ {pc : Nat} {L : List (Option Value)} {st : List Value} {m : Mem} {k n : Nat} {i : Int}, (decode cc pc = .ok (.baload, 1)) → (tab[k]? = some (.inl (2, n))) → (0 ≤ i ∧ i < (n : Int)) → (inR i) → (Go (pc + 1) L (iv (rd m k i) :: st) m) → Go pc L (iv i :: .ref (ad k) :: st) m
def RU_zald (l : Launch) (G : va_G) (cy ad tt : Nat → Nat) (own : String) (cc : ByteArray) (nL D : Nat) (Go : Nat → List (Option Value) → List Value → Mem → Prop) : Prop := ∀ {pc : Nat} {L : List (Option Value)} {st : List Value} {m : Mem} {k n : Nat} {i : Int}, (decode cc pc = .ok (.baload, 1)) → (tab[k]? = some (.inl (3, n))) → (0 ≤ i ∧ i < (n : Int)) → (inR i) → (Go (pc + 1) L (iv (rd m k i) :: st) m) → Go pc L (iv i :: .ref (ad k) :: st) m
def RU_lald (l : Launch) (G : va_G) (cy ad tt : Nat → Nat) (own : String) (cc : ByteArray) (nL D : Nat) (Go : Nat → List (Option Value) → List Value → Mem → Prop) : Prop := ∀ {pc : Nat} {L : List (Option Value)} {st : List Value} {m : Mem} {k n : Nat} {i : Int}, (decode cc pc = .ok (.laload, 1)) → (tab[k]? = some (.inl (1, n))) → (0 ≤ i ∧ i < (n : Int)) → (inR i) → (Go (pc + 1) L (jv (rl m k i) :: st) m) → Go pc L (iv i :: .ref (ad k) :: st) m
def RU_aald (l : Launch) (G : va_G) (cy ad tt : Nat → Nat) (own : String) (cc : ByteArray) (nL D : Nat) (Go : Nat → List (Option Value) → List Value → Mem → Prop) : Prop := ∀ {pc : Nat} {L : List (Option Value)} {st : List Value} {m : Mem} {k n : Nat} {i : Int}, (decode cc pc = .ok (.aaload, 1)) → (tab[k]? = some (.inl (4, n))) → (0 ≤ i ∧ i < (n : Int)) → (inR i) → (Go (pc + 1) L (.ref (ad (71 + 2 * i.toNat)) :: st) m) → Go pc L (iv i :: .ref (ad k) :: st) m
def RU_iast (l : Launch) (G : va_G) (cy ad tt : Nat → Nat) (own : String) (cc : ByteArray) (nL D : Nat) (Go : Nat → List (Option Value) → List Value → Mem → Prop) : Prop := ∀ {pc : Nat} {L : List (Option Value)} {st : List Value} {m : Mem} {k n : Nat} {i v : Int}, (decode cc pc = .ok (.iastore, 1)) → (tab[k]? = some (.inl (0, n))) → (0 ≤ i ∧ i < (n : Int)) → (inR i) → (Go (pc + 1) L st (wr m k i (v))) → Go pc L (iv v :: iv i :: .ref (ad k) :: st) m
def RU_bast (l : Launch) (G : va_G) (cy ad tt : Nat → Nat) (own : String) (cc : ByteArray) (nL D : Nat) (Go : Nat → List (Option Value) → List Value → Mem → Prop) : Prop := ∀ {pc : Nat} {L : List (Option Value)} {st : List Value} {m : Mem} {k n : Nat} {i v : Int}, (decode cc pc = .ok (.bastore, 1)) → (tab[k]? = some (.inl (2, n))) → (0 ≤ i ∧ i < (n : Int)) → (inR i) → (Go (pc + 1) L st (wr m k i (i8 v))) → Go pc L (iv v :: iv i :: .ref (ad k) :: st) m
def RU_zast (l : Launch) (G : va_G) (cy ad tt : Nat → Nat) (own : String) (cc : ByteArray) (nL D : Nat) (Go : Nat → List (Option Value) → List Value → Mem → Prop) : Prop := ∀ {pc : Nat} {L : List (Option Value)} {st : List Value} {m : Mem} {k n : Nat} {i v : Int}, (decode cc pc = .ok (.bastore, 1)) → (tab[k]? = some (.inl (3, n))) → (0 ≤ i ∧ i < (n : Int)) → (inR i) → (inZ v) → (Go (pc + 1) L st (wr m k i (v))) → Go pc L (iv v :: iv i :: .ref (ad k) :: st) m
def RU_last (l : Launch) (G : va_G) (cy ad tt : Nat → Nat) (own : String) (cc : ByteArray) (nL D : Nat) (Go : Nat → List (Option Value) → List Value → Mem → Prop) : Prop := ∀ {pc : Nat} {L : List (Option Value)} {st : List Value} {m : Mem} {k n : Nat} {i v : Int}, (decode cc pc = .ok (.lastore, 1)) → (tab[k]? = some (.inl (1, n))) → (0 ≤ i ∧ i < (n : Int)) → (inR i) → (Go (pc + 1) L st (wr m k i v)) → Go pc L (jv v :: iv i :: .ref (ad k) :: st) m
def RU_alen (l : Launch) (G : va_G) (cy ad tt : Nat → Nat) (own : String) (cc : ByteArray) (nL D : Nat) (Go : Nat → List (Option Value) → List Value → Mem → Prop) : Prop := ∀ {pc : Nat} {L : List (Option Value)} {st : List Value} {m : Mem} {k n q : Nat}, (decode cc pc = .ok (.arraylength, 1)) → (tab[k]? = some (.inl (q, n))) → (q < 5) → (Go (pc + 1) L (iv (n : Int) :: st) m) → Go pc L (.ref (ad k) :: st) m
def RU_gets (l : Launch) (G : va_G) (cy ad tt : Nat → Nat) (own : String) (cc : ByteArray) (nL D : Nat) (Go : Nat → List (Option Value) → List Value → Mem → Prop) : Prop := ∀ {pc : Nat} {L : List (Option Value)} {st : List Value} {m : Mem} {j idx : Nat}, (decode cc pc = .ok (.getstatic idx, 3)) → (SL own idx j) → (Go (pc + 3) L (.ref (tt j) :: st) m) → Go pc L st m
def RU_tald (l : Launch) (G : va_G) (cy ad tt : Nat → Nat) (own : String) (cc : ByteArray) (nL D : Nat) (Go : Nat → List (Option Value) → List Value → Mem → Prop) : Prop := ∀ {pc : Nat} {L : List (Option Value)} {st : List Value} {m : Mem} {j : Nat} {q : String × String × List Int} {i : Int}, (decode cc pc = .ok (.iaload, 1)) → (stT[j]? = some q) → (0 ≤ i ∧ i < (q.2.2.length : Int)) → (inR i) → (Go (pc + 1) L (iv (q.2.2.getD i.toNat 0) :: st) m) → Go pc L (iv i :: .ref (tt j) :: st) m
def RU_tlen (l : Launch) (G : va_G) (cy ad tt : Nat → Nat) (own : String) (cc : ByteArray) (nL D : Nat) (Go : Nat → List (Option Value) → List Value → Mem → Prop) : Prop := ∀ {pc : Nat} {L : List (Option Value)} {st : List Value} {m : Mem} {j : Nat} {q : String × String × List Int}, (decode cc pc = .ok (.arraylength, 1)) → (stT[j]? = some q) → (Go (pc + 1) L (iv (q.2.2.length : Int) :: st) m) → Go pc L (.ref (tt j) :: st) m
def RU_callV (l : Launch) (G : va_G) (cy ad tt : Nat → Nat) (own : String) (cc : ByteArray) (nL D : Nat) (Go : Nat → List (Option Value) → List Value → Mem → Prop) : Prop := ∀ {pc : Nat} {L : List (Option Value)} {m : Mem} {k ci idx mx D' n : Nat} {fds : List (Option Nat)} {y : MethodName} {b : ByteArray} {ret : Option FieldType} {as rest stk : List Value} {o : Option Value} {P : Prop} {m' : Mem}, (decode cc pc = .ok (.invokevirtual idx, 3)) → (CLV own idx y b mx ret n) → (tab[k]? = some (.inr (ci, fds))) → ((vwCl[ci]?).map (fun q => q.1) = some y.cls) → (CT l G cy ad tt y b mx ret D' (.ref (ad k) :: as) m o P m') → (D' + 1 ≤ D) → (as.length = n) → ((rest.map fun v => v.category).sum ≤ 8) → (as.reverse ++ .ref (ad k) :: rest = stk) → (P → Go (pc + 3) L (o.toList ++ rest) m') → Go pc L stk m
def RU_callS (l : Launch) (G : va_G) (cy ad tt : Nat → Nat) (own : String) (cc : ByteArray) (nL D : Nat) (Go : Nat → List (Option Value) → List Value → Mem → Prop) : Prop := ∀ {pc : Nat} {L : List (Option Value)} {m : Mem} {idx mx D' n : Nat} {y : MethodName} {b : ByteArray} {ret : Option FieldType} {as rest stk : List Value} {o : Option Value} {P : Prop} {m' : Mem}, (decode cc pc = .ok (.invokestatic idx, 3)) → (CLS own idx y b mx ret n) → (CT l G cy ad tt y b mx ret D' as m o P m') → (D' + 1 ≤ D) → (as.length = n) → ((rest.map fun v => v.category).sum ≤ 8) → (as.reverse ++ rest = stk) → (P → Go (pc + 3) L (o.toList ++ rest) m') → Go pc L stk m
def RU_callN (l : Launch) (G : va_G) (cy ad tt : Nat → Nat) (own : String) (cc : ByteArray) (nL D : Nat) (Go : Nat → List (Option Value) → List Value → Mem → Prop) : Prop := ∀ {pc : Nat} {L : List (Option Value)} {m : Mem} {idx mx D' n j : Nat} {y : MethodName} {b : ByteArray} {ret : Option FieldType} {as rest stk : List Value} {o : Option Value} {P : Prop} {m' : Mem}, (decode cc pc = .ok (.invokestatic idx, 3)) → (CLN own idx y b mx ret n j) → (CT l G cy ad tt y b mx ret D' as m o P m') → (D' + 1 ≤ D) → (as.length = n) → ((rest.map fun v => v.category).sum ≤ 8) → (as.reverse ++ rest = stk) → (P → Go (pc + 3) L (o.toList ++ rest) m') → Go pc L stk m
def RU_max (l : Launch) (G : va_G) (cy ad tt : Nat → Nat) (own : String) (cc : ByteArray) (nL D : Nat) (Go : Nat → List (Option Value) → List Value → Mem → Prop) : Prop := ∀ {pc : Nat} {L : List (Option Value)} {st : List Value} {m : Mem} {idx : Nat} {a b : Int}, (decode cc pc = .ok (.invokestatic idx, 3)) → (Cond.methodLink own idx Lib.Math.max.name ∈ WS) → (inR a) → (inR b) → ((st.map fun v => v.category).sum ≤ 8) → (1 ≤ D) → (Go (pc + 3) L (iv (imx a b) :: st) m) → Go pc L (iv b :: iv a :: st) m
def RU_min (l : Launch) (G : va_G) (cy ad tt : Nat → Nat) (own : String) (cc : ByteArray) (nL D : Nat) (Go : Nat → List (Option Value) → List Value → Mem → Prop) : Prop := ∀ {pc : Nat} {L : List (Option Value)} {st : List Value} {m : Mem} {idx : Nat} {a b : Int}, (decode cc pc = .ok (.invokestatic idx, 3)) → (Cond.methodLink own idx Lib.Math.min.name ∈ WS) → (inR a) → (inR b) → ((st.map fun v => v.category).sum ≤ 8) → (1 ≤ D) → (Go (pc + 3) L (iv (imn a b) :: st) m) → Go pc L (iv b :: iv a :: st) m
def RU_copyi (l : Launch) (G : va_G) (cy ad tt : Nat → Nat) (own : String) (cc : ByteArray) (nL D : Nat) (Go : Nat → List (Option Value) → List Value → Mem → Prop) : Prop := ∀ {pc : Nat} {L : List (Option Value)} {st : List Value} {m : Mem} {idx k1 k2 n1 n2 : Nat} {i j n : Int}, (decode cc pc = .ok (.invokestatic idx, 3)) → (Cond.methodLink own idx arraycopyName ∈ WS) → (tab[k1]? = some (.inl (0, n1))) → (tab[k2]? = some (.inl (0, n2))) → (0 ≤ i ∧ 0 ≤ j ∧ 0 ≤ n ∧ i + n ≤ (n1 : Int) ∧ j + n ≤ (n2 : Int)) → (inR i) → (inR j) → (inR n) → ((st.map fun v => v.category).sum ≤ 8) → (1 ≤ D) → (Go (pc + 3) L st (cpy m k1 i k2 j n)) → Go pc L (iv n :: iv j :: .ref (ad k2) :: iv i :: .ref (ad k1) :: st) m
def RU_copyl (l : Launch) (G : va_G) (cy ad tt : Nat → Nat) (own : String) (cc : ByteArray) (nL D : Nat) (Go : Nat → List (Option Value) → List Value → Mem → Prop) : Prop := ∀ {pc : Nat} {L : List (Option Value)} {st : List Value} {m : Mem} {idx k1 k2 n1 n2 : Nat} {i j n : Int}, (decode cc pc = .ok (.invokestatic idx, 3)) → (Cond.methodLink own idx arraycopyName ∈ WS) → (tab[k1]? = some (.inl (1, n1))) → (tab[k2]? = some (.inl (1, n2))) → (0 ≤ i ∧ 0 ≤ j ∧ 0 ≤ n ∧ i + n ≤ (n1 : Int) ∧ j + n ≤ (n2 : Int)) → (inR i) → (inR j) → (inR n) → ((st.map fun v => v.category).sum ≤ 8) → (1 ≤ D) → (Go (pc + 3) L st (cpy m k1 i k2 j n)) → Go pc L (iv n :: iv j :: .ref (ad k2) :: iv i :: .ref (ad k1) :: st) m
def RU_weak (l : Launch) (G : va_G) (cy ad tt : Nat → Nat) (own : String) (cc : ByteArray) (nL D : Nat) (Go : Nat → List (Option Value) → List Value → Mem → Prop) : Prop := ∀ {pc : Nat} {L : List (Option Value)} {st : List Value} {m : Mem} {L' : List (Option Value)}, (subL L' L) → (Go pc L' st m) → Go pc L st m
def RS (l : Launch) (G : va_G) (cy ad tt : Nat → Nat) (own : String) (cc : ByteArray) (nL D : Nat) (Go : Nat → List (Option Value) → List Value → Mem → Prop) : Prop := RU_iconst l G cy ad tt own cc nL D Go ∧ RU_bipush l G cy ad tt own cc nL D Go ∧ RU_sipush l G cy ad tt own cc nL D Go ∧ RU_ldc l G cy ad tt own cc nL D Go ∧ RU_ldcw l G cy ad tt own cc nL D Go ∧ RU_lconst l G cy ad tt own cc nL D Go ∧ RU_ldc2 l G cy ad tt own cc nL D Go ∧ RU_iload l G cy ad tt own cc nL D Go ∧ RU_lload l G cy ad tt own cc nL D Go ∧ RU_aload l G cy ad tt own cc nL D Go ∧ RU_iload_n l G cy ad tt own cc nL D Go ∧ RU_lload_n l G cy ad tt own cc nL D Go ∧ RU_aload_n l G cy ad tt own cc nL D Go ∧ RU_istore l G cy ad tt own cc nL D Go ∧ RU_astore l G cy ad tt own cc nL D Go ∧ RU_istore_n l G cy ad tt own cc nL D Go ∧ RU_astore_n l G cy ad tt own cc nL D Go ∧ RU_lstore l G cy ad tt own cc nL D Go ∧ RU_iinc l G cy ad tt own cc nL D Go ∧ RU_dup l G cy ad tt own cc nL D Go ∧ RU_dup2 l G cy ad tt own cc nL D Go ∧ RU_pop l G cy ad tt own cc nL D Go ∧ RU_iadd l G cy ad tt own cc nL D Go ∧ RU_isub l G cy ad tt own cc nL D Go ∧ RU_imul l G cy ad tt own cc nL D Go ∧ RU_ineg l G cy ad tt own cc nL D Go ∧ RU_iand l G cy ad tt own cc nL D Go ∧ RU_ior l G cy ad tt own cc nL D Go ∧ RU_ixor l G cy ad tt own cc nL D Go ∧ RU_ishl l G cy ad tt own cc nL D Go ∧ RU_ishr l G cy ad tt own cc nL D Go ∧ RU_iushr l G cy ad tt own cc nL D Go ∧ RU_idiv l G cy ad tt own cc nL D Go ∧ RU_irem l G cy ad tt own cc nL D Go ∧ RU_i2b l G cy ad tt own cc nL D Go ∧ RU_i2s l G cy ad tt own cc nL D Go ∧ RU_i2l l G cy ad tt own cc nL D Go ∧ RU_l2i l G cy ad tt own cc nL D Go ∧ RU_ladd l G cy ad tt own cc nL D Go ∧ RU_land l G cy ad tt own cc nL D Go ∧ RU_lor l G cy ad tt own cc nL D Go ∧ RU_lshl l G cy ad tt own cc nL D Go ∧ RU_lcmp l G cy ad tt own cc nL D Go ∧ RU_icmp_eq l G cy ad tt own cc nL D Go ∧ RU_if_eq l G cy ad tt own cc nL D Go ∧ RU_icmp_ne l G cy ad tt own cc nL D Go ∧ RU_if_ne l G cy ad tt own cc nL D Go ∧ RU_icmp_lt l G cy ad tt own cc nL D Go ∧ RU_if_lt l G cy ad tt own cc nL D Go ∧ RU_icmp_ge l G cy ad tt own cc nL D Go ∧ RU_if_ge l G cy ad tt own cc nL D Go ∧ RU_icmp_gt l G cy ad tt own cc nL D Go ∧ RU_if_gt l G cy ad tt own cc nL D Go ∧ RU_icmp_le l G cy ad tt own cc nL D Go ∧ RU_if_le l G cy ad tt own cc nL D Go ∧ RU_goto l G cy ad tt own cc nL D Go ∧ RU_tabOut l G cy ad tt own cc nL D Go ∧ RU_tabIn l G cy ad tt own cc nL D Go ∧ RU_geti l G cy ad tt own cc nL D Go ∧ RU_getr l G cy ad tt own cc nL D Go ∧ RU_puti l G cy ad tt own cc nL D Go ∧ RU_iald l G cy ad tt own cc nL D Go ∧ RU_bald l G cy ad tt own cc nL D Go ∧ RU_zald l G cy ad tt own cc nL D Go ∧ RU_lald l G cy ad tt own cc nL D Go ∧ RU_aald l G cy ad tt own cc nL D Go ∧ RU_iast l G cy ad tt own cc nL D Go ∧ RU_bast l G cy ad tt own cc nL D Go ∧ RU_zast l G cy ad tt own cc nL D Go ∧ RU_last l G cy ad tt own cc nL D Go ∧ RU_alen l G cy ad tt own cc nL D Go ∧ RU_gets l G cy ad tt own cc nL D Go ∧ RU_tald l G cy ad tt own cc nL D Go ∧ RU_tlen l G cy ad tt own cc nL D Go ∧ RU_callV l G cy ad tt own cc nL D Go ∧ RU_callS l G cy ad tt own cc nL D Go ∧ RU_callN l G cy ad tt own cc nL D Go ∧ RU_max l G cy ad tt own cc nL D Go ∧ RU_min l G cy ad tt own cc nL D Go ∧ RU_copyi l G cy ad tt own cc nL D Go ∧ RU_copyl l G cy ad tt own cc nL D Go ∧ RU_weak l G cy ad tt own cc nL D Go
section RSP
variable {l : Launch} {G : va_G} {cy ad tt : Nat → Nat} {own : String} {cc : ByteArray} {nL D : Nat} {Go : Nat → List (Option Value) → List Value → Mem → Prop} {pc : Nat} {L : List (Option Value)} {m : Mem}
theorem r_iconst (h : RS l G cy ad tt own cc nL D Go) {st : List Value} {n : Int} (hd : decode cc pc = .ok (.iconst n, 1)) (k : Go (pc + 1) L (iv n :: st) m) : Go pc L st m := h.1 hd k
theorem r_bipush (h : RS l G cy ad tt own cc nL D Go) {st : List Value} {n : Int} (hd : decode cc pc = .ok (.bipush n, 2)) (hn : Int8.minValue.toInt ≤ n ∧ n ≤ Int8.maxValue.toInt) (k : Go (pc + 2) L (iv n :: st) m) : Go pc L st m := h.2.1 hd hn k
theorem r_sipush (h : RS l G cy ad tt own cc nL D Go) {st : List Value} {n : Int} (hd : decode cc pc = .ok (.sipush n, 3)) (hn : Int16.minValue.toInt ≤ n ∧ n ≤ Int16.maxValue.toInt) (k : Go (pc + 3) L (iv n :: st) m) : Go pc L st m := h.2.2.1 hd hn k
theorem r_ldc (h : RS l G cy ad tt own cc nL D Go) {st : List Value} {n : Int} {idx : Nat} (hd : decode cc pc = .ok (.ldc idx, 2)) (hw : Cond.constant own idx (Int32.ofInt n) ∈ WS) (k : Go (pc + 2) L (iv n :: st) m) : Go pc L st m := h.2.2.2.1 hd hw k
theorem r_ldcw (h : RS l G cy ad tt own cc nL D Go) {st : List Value} {n : Int} {idx : Nat} (hd : decode cc pc = .ok (.ldc_w idx, 3)) (hw : Cond.constant own idx (Int32.ofInt n) ∈ WS) (k : Go (pc + 3) L (iv n :: st) m) : Go pc L st m := h.2.2.2.2.1 hd hw k
theorem r_lconst (h : RS l G cy ad tt own cc nL D Go) {st : List Value} {n : Fin 2} (hd : decode cc pc = .ok (.lconst n, 1)) (k : Go (pc + 1) L (jv ((n : Nat) : Int) :: st) m) : Go pc L st m := h.2.2.2.2.2.1 hd k
theorem r_ldc2 (h : RS l G cy ad tt own cc nL D Go) {st : List Value} {n : Int} {idx : Nat} (hd : decode cc pc = .ok (.ldc2_w idx, 3)) (hw : Cond.constantLong own idx (Int64.ofInt n) ∈ WS) (k : Go (pc + 3) L (jv n :: st) m) : Go pc L st m := h.2.2.2.2.2.2.1 hd hw k
theorem r_iload (h : RS l G cy ad tt own cc nL D Go) {st : List Value} {i : Nat} {x : Int} (hd : decode cc pc = .ok (.iload i, 2)) (hi : L[i]? = some (some (iv x))) (k : Go (pc + 2) L (iv x :: st) m) : Go pc L st m := h.2.2.2.2.2.2.2.1 hd hi k
theorem r_lload (h : RS l G cy ad tt own cc nL D Go) {st : List Value} {i : Nat} {x : Int} (hd : decode cc pc = .ok (.lload i, 2)) (hi : L[i]? = some (some (jv x))) (k : Go (pc + 2) L (jv x :: st) m) : Go pc L st m := h.2.2.2.2.2.2.2.2.1 hd hi k
theorem r_aload (h : RS l G cy ad tt own cc nL D Go) {st : List Value} {i : Nat} {x : Nat} (hd : decode cc pc = .ok (.aload i, 2)) (hi : L[i]? = some (some (.ref x))) (k : Go (pc + 2) L (.ref x :: st) m) : Go pc L st m := h.2.2.2.2.2.2.2.2.2.1 hd hi k
theorem r_iload_n (h : RS l G cy ad tt own cc nL D Go) {st : List Value} {i : Fin 4} {x : Int} (hd : decode cc pc = .ok (.iload_n i, 1)) (hi : L[(i : Nat)]? = some (some (iv x))) (k : Go (pc + 1) L (iv x :: st) m) : Go pc L st m := h.2.2.2.2.2.2.2.2.2.2.1 hd hi k
theorem r_lload_n (h : RS l G cy ad tt own cc nL D Go) {st : List Value} {i : Fin 4} {x : Int} (hd : decode cc pc = .ok (.lload_n i, 1)) (hi : L[(i : Nat)]? = some (some (jv x))) (k : Go (pc + 1) L (jv x :: st) m) : Go pc L st m := h.2.2.2.2.2.2.2.2.2.2.2.1 hd hi k
theorem r_aload_n (h : RS l G cy ad tt own cc nL D Go) {st : List Value} {i : Fin 4} {x : Nat} (hd : decode cc pc = .ok (.aload_n i, 1)) (hi : L[(i : Nat)]? = some (some (.ref x))) (k : Go (pc + 1) L (.ref x :: st) m) : Go pc L st m := h.2.2.2.2.2.2.2.2.2.2.2.2.1 hd hi k
theorem r_istore (h : RS l G cy ad tt own cc nL D Go) {st : List Value} {i : Nat} {x : Int} {L' : List (Option Value)} (hd : decode cc pc = .ok (.istore i, 2)) (hi : i < nL) (ho : okS L i = true) (hs : L.set i (some (iv x)) = L') (k : Go (pc + 2) L' st m) : Go pc L (iv x :: st) m := h.2.2.2.2.2.2.2.2.2.2.2.2.2.1 hd hi ho hs k
theorem r_astore (h : RS l G cy ad tt own cc nL D Go) {st : List Value} {i : Nat} {x : Nat} {L' : List (Option Value)} (hd : decode cc pc = .ok (.astore i, 2)) (hi : i < nL) (ho : okS L i = true) (hs : L.set i (some (.ref x)) = L') (k : Go (pc + 2) L' st m) : Go pc L (.ref x :: st) m := h.2.2.2.2.2.2.2.2.2.2.2.2.2.2.1 hd hi ho hs k
theorem r_istore_n (h : RS l G cy ad tt own cc nL D Go) {st : List Value} {i : Fin 4} {x : Int} {L' : List (Option Value)} (hd : decode cc pc = .ok (.istore_n i, 1)) (hi : (i : Nat) < nL) (ho : okS L (i : Nat) = true) (hs : L.set (i : Nat) (some (iv x)) = L') (k : Go (pc + 1) L' st m) : Go pc L (iv x :: st) m := h.2.2.2.2.2.2.2.2.2.2.2.2.2.2.2.1 hd hi ho hs k
theorem r_astore_n (h : RS l G cy ad tt own cc nL D Go) {st : List Value} {i : Fin 4} {x : Nat} {L' : List (Option Value)} (hd : decode cc pc = .ok (.astore_n i, 1)) (hi : (i : Nat) < nL) (ho : okS L (i : Nat) = true) (hs : L.set (i : Nat) (some (.ref x)) = L') (k : Go (pc + 1) L' st m) : Go pc L (.ref x :: st) m := h.2.2.2.2.2.2.2.2.2.2.2.2.2.2.2.2.1 hd hi ho hs k
theorem r_lstore (h : RS l G cy ad tt own cc nL D Go) {st : List Value} {i : Nat} {x : Int} {L' : List (Option Value)} (hd : decode cc pc = .ok (.lstore i, 2)) (hi : i + 1 < nL) (ho : okS L i = true) (hs : (L.set i (some (jv x))).set (i + 1) none = L') (k : Go (pc + 2) L' st m) : Go pc L (jv x :: st) m := h.2.2.2.2.2.2.2.2.2.2.2.2.2.2.2.2.2.1 hd hi ho hs k
theorem r_iinc (h : RS l G cy ad tt own cc nL D Go) {st : List Value} {i : Nat} {n x : Int} {L' : List (Option Value)} (hd : decode cc pc = .ok (.iinc i n, 3)) (hx : L[i]? = some (some (iv x))) (hi : i < nL) (ho : okS L i = true) (hs : L.set i (some (iv (w32 (x + n)))) = L') (k : Go (pc + 3) L' st m) : Go pc L st m := h.2.2.2.2.2.2.2.2.2.2.2.2.2.2.2.2.2.2.1 hd hx hi ho hs k
theorem r_dup (h : RS l G cy ad tt own cc nL D Go) {st : List Value} {v : Value} (hd : decode cc pc = .ok (.dup, 1)) (hv : v.category = 1) (k : Go (pc + 1) L (v :: v :: st) m) : Go pc L (v :: st) m := h.2.2.2.2.2.2.2.2.2.2.2.2.2.2.2.2.2.2.2.1 hd hv k
theorem r_dup2 (h : RS l G cy ad tt own cc nL D Go) {st : List Value} {v w : Value} (hd : decode cc pc = .ok (.dup2, 1)) (hv : v.category = 1) (hw : w.category = 1) (k : Go (pc + 1) L (v :: w :: v :: w :: st) m) : Go pc L (v :: w :: st) m := h.2.2.2.2.2.2.2.2.2.2.2.2.2.2.2.2.2.2.2.2.1 hd hv hw k
theorem r_pop (h : RS l G cy ad tt own cc nL D Go) {st : List Value} {v : Value} (hd : decode cc pc = .ok (.pop, 1)) (hv : v.category = 1) (k : Go (pc + 1) L st m) : Go pc L (v :: st) m := h.2.2.2.2.2.2.2.2.2.2.2.2.2.2.2.2.2.2.2.2.2.1 hd hv k
theorem r_iadd (h : RS l G cy ad tt own cc nL D Go) {st : List Value} {a b : Int} (hd : decode cc pc = .ok (.iadd, 1)) (k : Go (pc + 1) L (iv (w32 (a + b)) :: st) m) : Go pc L (iv b :: iv a :: st) m := h.2.2.2.2.2.2.2.2.2.2.2.2.2.2.2.2.2.2.2.2.2.2.1 hd k
theorem r_isub (h : RS l G cy ad tt own cc nL D Go) {st : List Value} {a b : Int} (hd : decode cc pc = .ok (.isub, 1)) (k : Go (pc + 1) L (iv (w32 (a - b)) :: st) m) : Go pc L (iv b :: iv a :: st) m := h.2.2.2.2.2.2.2.2.2.2.2.2.2.2.2.2.2.2.2.2.2.2.2.1 hd k
theorem r_imul (h : RS l G cy ad tt own cc nL D Go) {st : List Value} {a b : Int} (hd : decode cc pc = .ok (.imul, 1)) (k : Go (pc + 1) L (iv (w32 (a * b)) :: st) m) : Go pc L (iv b :: iv a :: st) m := h.2.2.2.2.2.2.2.2.2.2.2.2.2.2.2.2.2.2.2.2.2.2.2.2.1 hd k
theorem r_ineg (h : RS l G cy ad tt own cc nL D Go) {st : List Value} {a : Int} (hd : decode cc pc = .ok (.ineg, 1)) (k : Go (pc + 1) L (iv (w32 (-a)) :: st) m) : Go pc L (iv a :: st) m := h.2.2.2.2.2.2.2.2.2.2.2.2.2.2.2.2.2.2.2.2.2.2.2.2.2.1 hd k
theorem r_iand (h : RS l G cy ad tt own cc nL D Go) {st : List Value} {a b : Int} (hd : decode cc pc = .ok (.iand, 1)) (k : Go (pc + 1) L (iv (band a b) :: st) m) : Go pc L (iv b :: iv a :: st) m := h.2.2.2.2.2.2.2.2.2.2.2.2.2.2.2.2.2.2.2.2.2.2.2.2.2.2.1 hd k
theorem r_ior (h : RS l G cy ad tt own cc nL D Go) {st : List Value} {a b : Int} (hd : decode cc pc = .ok (.ior, 1)) (k : Go (pc + 1) L (iv (bor a b) :: st) m) : Go pc L (iv b :: iv a :: st) m := h.2.2.2.2.2.2.2.2.2.2.2.2.2.2.2.2.2.2.2.2.2.2.2.2.2.2.2.1 hd k
theorem r_ixor (h : RS l G cy ad tt own cc nL D Go) {st : List Value} {a b : Int} (hd : decode cc pc = .ok (.ixor, 1)) (k : Go (pc + 1) L (iv (bxor a b) :: st) m) : Go pc L (iv b :: iv a :: st) m := h.2.2.2.2.2.2.2.2.2.2.2.2.2.2.2.2.2.2.2.2.2.2.2.2.2.2.2.2.1 hd k
theorem r_ishl (h : RS l G cy ad tt own cc nL D Go) {st : List Value} {a b : Int} (hd : decode cc pc = .ok (.ishl, 1)) (k : Go (pc + 1) L (iv (shl a b) :: st) m) : Go pc L (iv b :: iv a :: st) m := h.2.2.2.2.2.2.2.2.2.2.2.2.2.2.2.2.2.2.2.2.2.2.2.2.2.2.2.2.2.1 hd k
theorem r_ishr (h : RS l G cy ad tt own cc nL D Go) {st : List Value} {a b : Int} (hd : decode cc pc = .ok (.ishr, 1)) (k : Go (pc + 1) L (iv (shr a b) :: st) m) : Go pc L (iv b :: iv a :: st) m := h.2.2.2.2.2.2.2.2.2.2.2.2.2.2.2.2.2.2.2.2.2.2.2.2.2.2.2.2.2.2.1 hd k
theorem r_iushr (h : RS l G cy ad tt own cc nL D Go) {st : List Value} {a b : Int} (hd : decode cc pc = .ok (.iushr, 1)) (k : Go (pc + 1) L (iv (ush a b) :: st) m) : Go pc L (iv b :: iv a :: st) m := h.2.2.2.2.2.2.2.2.2.2.2.2.2.2.2.2.2.2.2.2.2.2.2.2.2.2.2.2.2.2.2.1 hd k
theorem r_idiv (h : RS l G cy ad tt own cc nL D Go) {st : List Value} {a b : Int} (hd : decode cc pc = .ok (.idiv, 1)) (hb : b ≠ 0) (hr : inR b) (k : Go (pc + 1) L (iv (idv a b) :: st) m) : Go pc L (iv b :: iv a :: st) m := h.2.2.2.2.2.2.2.2.2.2.2.2.2.2.2.2.2.2.2.2.2.2.2.2.2.2.2.2.2.2.2.2.1 hd hb hr k
theorem r_irem (h : RS l G cy ad tt own cc nL D Go) {st : List Value} {a b : Int} (hd : decode cc pc = .ok (.irem, 1)) (hb : b ≠ 0) (hr : inR b) (k : Go (pc + 1) L (iv (irm a b) :: st) m) : Go pc L (iv b :: iv a :: st) m := h.2.2.2.2.2.2.2.2.2.2.2.2.2.2.2.2.2.2.2.2.2.2.2.2.2.2.2.2.2.2.2.2.2.1 hd hb hr k
theorem r_i2b (h : RS l G cy ad tt own cc nL D Go) {st : List Value} {a : Int} (hd : decode cc pc = .ok (.i2b, 1)) (k : Go (pc + 1) L (iv (i8 a) :: st) m) : Go pc L (iv a :: st) m := h.2.2.2.2.2.2.2.2.2.2.2.2.2.2.2.2.2.2.2.2.2.2.2.2.2.2.2.2.2.2.2.2.2.2.1 hd k
theorem r_i2s (h : RS l G cy ad tt own cc nL D Go) {st : List Value} {a : Int} (hd : decode cc pc = .ok (.i2s, 1)) (k : Go (pc + 1) L (iv (i16 a) :: st) m) : Go pc L (iv a :: st) m := h.2.2.2.2.2.2.2.2.2.2.2.2.2.2.2.2.2.2.2.2.2.2.2.2.2.2.2.2.2.2.2.2.2.2.2.1 hd k
theorem r_i2l (h : RS l G cy ad tt own cc nL D Go) {st : List Value} {a : Int} (hd : decode cc pc = .ok (.i2l, 1)) (hr : inR a) (k : Go (pc + 1) L (jv a :: st) m) : Go pc L (iv a :: st) m := h.2.2.2.2.2.2.2.2.2.2.2.2.2.2.2.2.2.2.2.2.2.2.2.2.2.2.2.2.2.2.2.2.2.2.2.2.1 hd hr k
theorem r_l2i (h : RS l G cy ad tt own cc nL D Go) {st : List Value} {a : Int} (hd : decode cc pc = .ok (.l2i, 1)) (k : Go (pc + 1) L (iv (w32 a) :: st) m) : Go pc L (jv a :: st) m := h.2.2.2.2.2.2.2.2.2.2.2.2.2.2.2.2.2.2.2.2.2.2.2.2.2.2.2.2.2.2.2.2.2.2.2.2.2.1 hd k
theorem r_ladd (h : RS l G cy ad tt own cc nL D Go) {st : List Value} {a b : Int} (hd : decode cc pc = .ok (.ladd, 1)) (k : Go (pc + 1) L (jv (w64 (a + b)) :: st) m) : Go pc L (jv b :: jv a :: st) m := h.2.2.2.2.2.2.2.2.2.2.2.2.2.2.2.2.2.2.2.2.2.2.2.2.2.2.2.2.2.2.2.2.2.2.2.2.2.2.1 hd k
theorem r_land (h : RS l G cy ad tt own cc nL D Go) {st : List Value} {a b : Int} (hd : decode cc pc = .ok (.land, 1)) (k : Go (pc + 1) L (jv (lnd a b) :: st) m) : Go pc L (jv b :: jv a :: st) m := h.2.2.2.2.2.2.2.2.2.2.2.2.2.2.2.2.2.2.2.2.2.2.2.2.2.2.2.2.2.2.2.2.2.2.2.2.2.2.2.1 hd k
theorem r_lor (h : RS l G cy ad tt own cc nL D Go) {st : List Value} {a b : Int} (hd : decode cc pc = .ok (.lor, 1)) (k : Go (pc + 1) L (jv (lro a b) :: st) m) : Go pc L (jv b :: jv a :: st) m := h.2.2.2.2.2.2.2.2.2.2.2.2.2.2.2.2.2.2.2.2.2.2.2.2.2.2.2.2.2.2.2.2.2.2.2.2.2.2.2.2.1 hd k
theorem r_lshl (h : RS l G cy ad tt own cc nL D Go) {st : List Value} {a b : Int} (hd : decode cc pc = .ok (.lshl, 1)) (k : Go (pc + 1) L (jv (lsl a b) :: st) m) : Go pc L (iv b :: jv a :: st) m := h.2.2.2.2.2.2.2.2.2.2.2.2.2.2.2.2.2.2.2.2.2.2.2.2.2.2.2.2.2.2.2.2.2.2.2.2.2.2.2.2.2.1 hd k
theorem r_lcmp (h : RS l G cy ad tt own cc nL D Go) {st : List Value} {a b : Int} (hd : decode cc pc = .ok (.lcmp, 1)) (ha : inL a) (hb : inL b) (k : Go (pc + 1) L (iv (lcm' a b) :: st) m) : Go pc L (jv b :: jv a :: st) m := h.2.2.2.2.2.2.2.2.2.2.2.2.2.2.2.2.2.2.2.2.2.2.2.2.2.2.2.2.2.2.2.2.2.2.2.2.2.2.2.2.2.2.1 hd ha hb k
theorem r_icmp_eq (h : RS l G cy ad tt own cc nL D Go) {st : List Value} {a b off : Int} {tgt : Nat} (hd : decode cc pc = .ok (.if_icmp .eq off, 3)) (ht : (pc : Int) + off = (tgt : Int)) (ha : inR a) (hb : inR b) (kt : a = b → Go tgt L st m) (kf : ¬ (a = b) → Go (pc + 3) L st m) : Go pc L (iv b :: iv a :: st) m := h.2.2.2.2.2.2.2.2.2.2.2.2.2.2.2.2.2.2.2.2.2.2.2.2.2.2.2.2.2.2.2.2.2.2.2.2.2.2.2.2.2.2.2.1 hd ht ha hb kt kf
theorem r_if_eq (h : RS l G cy ad tt own cc nL D Go) {st : List Value} {a off : Int} {tgt : Nat} (hd : decode cc pc = .ok (.ifCond .eq off, 3)) (ht : (pc : Int) + off = (tgt : Int)) (ha : inR a) (kt : a = 0 → Go tgt L st m) (kf : ¬ (a = 0) → Go (pc + 3) L st m) : Go pc L (iv a :: st) m := h.2.2.2.2.2.2.2.2.2.2.2.2.2.2.2.2.2.2.2.2.2.2.2.2.2.2.2.2.2.2.2.2.2.2.2.2.2.2.2.2.2.2.2.2.1 hd ht ha kt kf
theorem r_icmp_ne (h : RS l G cy ad tt own cc nL D Go) {st : List Value} {a b off : Int} {tgt : Nat} (hd : decode cc pc = .ok (.if_icmp .ne off, 3)) (ht : (pc : Int) + off = (tgt : Int)) (ha : inR a) (hb : inR b) (kt : a ≠ b → Go tgt L st m) (kf : ¬ (a ≠ b) → Go (pc + 3) L st m) : Go pc L (iv b :: iv a :: st) m := h.2.2.2.2.2.2.2.2.2.2.2.2.2.2.2.2.2.2.2.2.2.2.2.2.2.2.2.2.2.2.2.2.2.2.2.2.2.2.2.2.2.2.2.2.2.1 hd ht ha hb kt kf
theorem r_if_ne (h : RS l G cy ad tt own cc nL D Go) {st : List Value} {a off : Int} {tgt : Nat} (hd : decode cc pc = .ok (.ifCond .ne off, 3)) (ht : (pc : Int) + off = (tgt : Int)) (ha : inR a) (kt : a ≠ 0 → Go tgt L st m) (kf : ¬ (a ≠ 0) → Go (pc + 3) L st m) : Go pc L (iv a :: st) m := h.2.2.2.2.2.2.2.2.2.2.2.2.2.2.2.2.2.2.2.2.2.2.2.2.2.2.2.2.2.2.2.2.2.2.2.2.2.2.2.2.2.2.2.2.2.2.1 hd ht ha kt kf
theorem r_icmp_lt (h : RS l G cy ad tt own cc nL D Go) {st : List Value} {a b off : Int} {tgt : Nat} (hd : decode cc pc = .ok (.if_icmp .lt off, 3)) (ht : (pc : Int) + off = (tgt : Int)) (ha : inR a) (hb : inR b) (kt : a < b → Go tgt L st m) (kf : ¬ (a < b) → Go (pc + 3) L st m) : Go pc L (iv b :: iv a :: st) m := h.2.2.2.2.2.2.2.2.2.2.2.2.2.2.2.2.2.2.2.2.2.2.2.2.2.2.2.2.2.2.2.2.2.2.2.2.2.2.2.2.2.2.2.2.2.2.2.1 hd ht ha hb kt kf
theorem r_if_lt (h : RS l G cy ad tt own cc nL D Go) {st : List Value} {a off : Int} {tgt : Nat} (hd : decode cc pc = .ok (.ifCond .lt off, 3)) (ht : (pc : Int) + off = (tgt : Int)) (ha : inR a) (kt : a < 0 → Go tgt L st m) (kf : ¬ (a < 0) → Go (pc + 3) L st m) : Go pc L (iv a :: st) m := h.2.2.2.2.2.2.2.2.2.2.2.2.2.2.2.2.2.2.2.2.2.2.2.2.2.2.2.2.2.2.2.2.2.2.2.2.2.2.2.2.2.2.2.2.2.2.2.2.1 hd ht ha kt kf
theorem r_icmp_ge (h : RS l G cy ad tt own cc nL D Go) {st : List Value} {a b off : Int} {tgt : Nat} (hd : decode cc pc = .ok (.if_icmp .ge off, 3)) (ht : (pc : Int) + off = (tgt : Int)) (ha : inR a) (hb : inR b) (kt : b ≤ a → Go tgt L st m) (kf : ¬ (b ≤ a) → Go (pc + 3) L st m) : Go pc L (iv b :: iv a :: st) m := h.2.2.2.2.2.2.2.2.2.2.2.2.2.2.2.2.2.2.2.2.2.2.2.2.2.2.2.2.2.2.2.2.2.2.2.2.2.2.2.2.2.2.2.2.2.2.2.2.2.1 hd ht ha hb kt kf
theorem r_if_ge (h : RS l G cy ad tt own cc nL D Go) {st : List Value} {a off : Int} {tgt : Nat} (hd : decode cc pc = .ok (.ifCond .ge off, 3)) (ht : (pc : Int) + off = (tgt : Int)) (ha : inR a) (kt : 0 ≤ a → Go tgt L st m) (kf : ¬ (0 ≤ a) → Go (pc + 3) L st m) : Go pc L (iv a :: st) m := h.2.2.2.2.2.2.2.2.2.2.2.2.2.2.2.2.2.2.2.2.2.2.2.2.2.2.2.2.2.2.2.2.2.2.2.2.2.2.2.2.2.2.2.2.2.2.2.2.2.2.1 hd ht ha kt kf
theorem r_icmp_gt (h : RS l G cy ad tt own cc nL D Go) {st : List Value} {a b off : Int} {tgt : Nat} (hd : decode cc pc = .ok (.if_icmp .gt off, 3)) (ht : (pc : Int) + off = (tgt : Int)) (ha : inR a) (hb : inR b) (kt : b < a → Go tgt L st m) (kf : ¬ (b < a) → Go (pc + 3) L st m) : Go pc L (iv b :: iv a :: st) m := h.2.2.2.2.2.2.2.2.2.2.2.2.2.2.2.2.2.2.2.2.2.2.2.2.2.2.2.2.2.2.2.2.2.2.2.2.2.2.2.2.2.2.2.2.2.2.2.2.2.2.2.1 hd ht ha hb kt kf
theorem r_if_gt (h : RS l G cy ad tt own cc nL D Go) {st : List Value} {a off : Int} {tgt : Nat} (hd : decode cc pc = .ok (.ifCond .gt off, 3)) (ht : (pc : Int) + off = (tgt : Int)) (ha : inR a) (kt : 0 < a → Go tgt L st m) (kf : ¬ (0 < a) → Go (pc + 3) L st m) : Go pc L (iv a :: st) m := h.2.2.2.2.2.2.2.2.2.2.2.2.2.2.2.2.2.2.2.2.2.2.2.2.2.2.2.2.2.2.2.2.2.2.2.2.2.2.2.2.2.2.2.2.2.2.2.2.2.2.2.2.1 hd ht ha kt kf
theorem r_icmp_le (h : RS l G cy ad tt own cc nL D Go) {st : List Value} {a b off : Int} {tgt : Nat} (hd : decode cc pc = .ok (.if_icmp .le off, 3)) (ht : (pc : Int) + off = (tgt : Int)) (ha : inR a) (hb : inR b) (kt : a ≤ b → Go tgt L st m) (kf : ¬ (a ≤ b) → Go (pc + 3) L st m) : Go pc L (iv b :: iv a :: st) m := h.2.2.2.2.2.2.2.2.2.2.2.2.2.2.2.2.2.2.2.2.2.2.2.2.2.2.2.2.2.2.2.2.2.2.2.2.2.2.2.2.2.2.2.2.2.2.2.2.2.2.2.2.2.1 hd ht ha hb kt kf
theorem r_if_le (h : RS l G cy ad tt own cc nL D Go) {st : List Value} {a off : Int} {tgt : Nat} (hd : decode cc pc = .ok (.ifCond .le off, 3)) (ht : (pc : Int) + off = (tgt : Int)) (ha : inR a) (kt : a ≤ 0 → Go tgt L st m) (kf : ¬ (a ≤ 0) → Go (pc + 3) L st m) : Go pc L (iv a :: st) m := h.2.2.2.2.2.2.2.2.2.2.2.2.2.2.2.2.2.2.2.2.2.2.2.2.2.2.2.2.2.2.2.2.2.2.2.2.2.2.2.2.2.2.2.2.2.2.2.2.2.2.2.2.2.2.1 hd ht ha kt kf
theorem r_goto (h : RS l G cy ad tt own cc nL D Go) {st : List Value} {off : Int} {tgt : Nat} (hd : decode cc pc = .ok (.goto off, 3)) (ht : (pc : Int) + off = (tgt : Int)) (k : Go tgt L st m) : Go pc L st m := h.2.2.2.2.2.2.2.2.2.2.2.2.2.2.2.2.2.2.2.2.2.2.2.2.2.2.2.2.2.2.2.2.2.2.2.2.2.2.2.2.2.2.2.2.2.2.2.2.2.2.2.2.2.2.2.1 hd ht k
theorem r_tabOut (h : RS l G cy ad tt own cc nL D Go) {st : List Value} {a dflt lo hi : Int} {offs : Array Int} {len tgt : Nat} (hd : decode cc pc = .ok (.tableswitch dflt lo hi offs, len)) (ha : inR a) (hr : a < lo ∨ hi < a) (ht : (pc : Int) + dflt = (tgt : Int)) (k : Go tgt L st m) : Go pc L (iv a :: st) m := h.2.2.2.2.2.2.2.2.2.2.2.2.2.2.2.2.2.2.2.2.2.2.2.2.2.2.2.2.2.2.2.2.2.2.2.2.2.2.2.2.2.2.2.2.2.2.2.2.2.2.2.2.2.2.2.2.1 hd ha hr ht k
theorem r_tabIn (h : RS l G cy ad tt own cc nL D Go) {st : List Value} {a dflt lo hi off : Int} {offs : Array Int} {len tgt : Nat} (hd : decode cc pc = .ok (.tableswitch dflt lo hi offs, len)) (ha : inR a) (h1 : ¬ a < lo) (h2 : ¬ hi < a) (ho : offs[(a - lo).toNat]? = some off) (ht : (pc : Int) + off = (tgt : Int)) (k : Go tgt L st m) : Go pc L (iv a :: st) m := h.2.2.2.2.2.2.2.2.2.2.2.2.2.2.2.2.2.2.2.2.2.2.2.2.2.2.2.2.2.2.2.2.2.2.2.2.2.2.2.2.2.2.2.2.2.2.2.2.2.2.2.2.2.2.2.2.2.1 hd ha h1 h2 ho ht k
theorem r_geti (h : RS l G cy ad tt own cc nL D Go) {st : List Value} {k j ci idx : Nat} {fds : List (Option Nat)} {ty : FieldType} {fin : Bool} (hd : decode cc pc = .ok (.getfield idx, 3)) (fl : FL own idx ci j ty fin) (hk : tab[k]? = some (.inr (ci, fds))) (hf : fds[j]? = some none) (kk : Go (pc + 3) L (iv (rd m k (j : Int)) :: st) m) : Go pc L (.ref (ad k) :: st) m := h.2.2.2.2.2.2.2.2.2.2.2.2.2.2.2.2.2.2.2.2.2.2.2.2.2.2.2.2.2.2.2.2.2.2.2.2.2.2.2.2.2.2.2.2.2.2.2.2.2.2.2.2.2.2.2.2.2.2.1 hd fl hk hf kk
theorem r_getr (h : RS l G cy ad tt own cc nL D Go) {st : List Value} {k j k2 ci idx : Nat} {fds : List (Option Nat)} {ty : FieldType} {fin : Bool} (hd : decode cc pc = .ok (.getfield idx, 3)) (fl : FL own idx ci j ty fin) (hk : tab[k]? = some (.inr (ci, fds))) (hf : fds[j]? = some (some k2)) (kk : Go (pc + 3) L (.ref (ad k2) :: st) m) : Go pc L (.ref (ad k) :: st) m := h.2.2.2.2.2.2.2.2.2.2.2.2.2.2.2.2.2.2.2.2.2.2.2.2.2.2.2.2.2.2.2.2.2.2.2.2.2.2.2.2.2.2.2.2.2.2.2.2.2.2.2.2.2.2.2.2.2.2.2.1 hd fl hk hf kk
theorem r_puti (h : RS l G cy ad tt own cc nL D Go) {st : List Value} {k j ci idx : Nat} {fds : List (Option Nat)} {ty : FieldType} {v : Int} (hd : decode cc pc = .ok (.putfield idx, 3)) (fl : FL own idx ci j ty false) (hk : tab[k]? = some (.inr (ci, fds))) (hf : fds[j]? = some none) (hn : narrow ty (iv v) = iv v) (hfit : fits ty (iv v) = true) (kk : Go (pc + 3) L st (wr m k (j : Int) v)) : Go pc L (iv v :: .ref (ad k) :: st) m := h.2.2.2.2.2.2.2.2.2.2.2.2.2.2.2.2.2.2.2.2.2.2.2.2.2.2.2.2.2.2.2.2.2.2.2.2.2.2.2.2.2.2.2.2.2.2.2.2.2.2.2.2.2.2.2.2.2.2.2.2.1 hd fl hk hf hn hfit kk
theorem r_iald (h : RS l G cy ad tt own cc nL D Go) {st : List Value} {k n : Nat} {i : Int} (hd : decode cc pc = .ok (.iaload, 1)) (hk : tab[k]? = some (.inl (0, n))) (hi : 0 ≤ i ∧ i < (n : Int)) (hr : inR i) (kk : Go (pc + 1) L (iv (rd m k i) :: st) m) : Go pc L (iv i :: .ref (ad k) :: st) m := h.2.2.2.2.2.2.2.2.2.2.2.2.2.2.2.2.2.2.2.2.2.2.2.2.2.2.2.2.2.2.2.2.2.2.2.2.2.2.2.2.2.2.2.2.2.2.2.2.2.2.2.2.2.2.2.2.2.2.2.2.2.1 hd hk hi hr kk
theorem r_bald (h : RS l G cy ad tt own cc nL D Go) {st : List Value} {k n : Nat} {i : Int} (hd : decode cc pc = .ok (.baload, 1)) (hk : tab[k]? = some (.inl (2, n))) (hi : 0 ≤ i ∧ i < (n : Int)) (hr : inR i) (kk : Go (pc + 1) L (iv (rd m k i) :: st) m) : Go pc L (iv i :: .ref (ad k) :: st) m := h.2.2.2.2.2.2.2.2.2.2.2.2.2.2.2.2.2.2.2.2.2.2.2.2.2.2.2.2.2.2.2.2.2.2.2.2.2.2.2.2.2.2.2.2.2.2.2.2.2.2.2.2.2.2.2.2.2.2.2.2.2.2.1 hd hk hi hr kk
theorem r_zald (h : RS l G cy ad tt own cc nL D Go) {st : List Value} {k n : Nat} {i : Int} (hd : decode cc pc = .ok (.baload, 1)) (hk : tab[k]? = some (.inl (3, n))) (hi : 0 ≤ i ∧ i < (n : Int)) (hr : inR i) (kk : Go (pc + 1) L (iv (rd m k i) :: st) m) : Go pc L (iv i :: .ref (ad k) :: st) m := h.2.2.2.2.2.2.2.2.2.2.2.2.2.2.2.2.2.2.2.2.2.2.2.2.2.2.2.2.2.2.2.2.2.2.2.2.2.2.2.2.2.2.2.2.2.2.2.2.2.2.2.2.2.2.2.2.2.2.2.2.2.2.2.1 hd hk hi hr kk
theorem r_lald (h : RS l G cy ad tt own cc nL D Go) {st : List Value} {k n : Nat} {i : Int} (hd : decode cc pc = .ok (.laload, 1)) (hk : tab[k]? = some (.inl (1, n))) (hi : 0 ≤ i ∧ i < (n : Int)) (hr : inR i) (kk : Go (pc + 1) L (jv (rl m k i) :: st) m) : Go pc L (iv i :: .ref (ad k) :: st) m := h.2.2.2.2.2.2.2.2.2.2.2.2.2.2.2.2.2.2.2.2.2.2.2.2.2.2.2.2.2.2.2.2.2.2.2.2.2.2.2.2.2.2.2.2.2.2.2.2.2.2.2.2.2.2.2.2.2.2.2.2.2.2.2.2.1 hd hk hi hr kk
theorem r_aald (h : RS l G cy ad tt own cc nL D Go) {st : List Value} {k n : Nat} {i : Int} (hd : decode cc pc = .ok (.aaload, 1)) (hk : tab[k]? = some (.inl (4, n))) (hi : 0 ≤ i ∧ i < (n : Int)) (hr : inR i) (kk : Go (pc + 1) L (.ref (ad (71 + 2 * i.toNat)) :: st) m) : Go pc L (iv i :: .ref (ad k) :: st) m := h.2.2.2.2.2.2.2.2.2.2.2.2.2.2.2.2.2.2.2.2.2.2.2.2.2.2.2.2.2.2.2.2.2.2.2.2.2.2.2.2.2.2.2.2.2.2.2.2.2.2.2.2.2.2.2.2.2.2.2.2.2.2.2.2.2.1 hd hk hi hr kk
theorem r_iast (h : RS l G cy ad tt own cc nL D Go) {st : List Value} {k n : Nat} {i v : Int} (hd : decode cc pc = .ok (.iastore, 1)) (hk : tab[k]? = some (.inl (0, n))) (hi : 0 ≤ i ∧ i < (n : Int)) (hr : inR i) (kk : Go (pc + 1) L st (wr m k i (v))) : Go pc L (iv v :: iv i :: .ref (ad k) :: st) m := h.2.2.2.2.2.2.2.2.2.2.2.2.2.2.2.2.2.2.2.2.2.2.2.2.2.2.2.2.2.2.2.2.2.2.2.2.2.2.2.2.2.2.2.2.2.2.2.2.2.2.2.2.2.2.2.2.2.2.2.2.2.2.2.2.2.2.1 hd hk hi hr kk
theorem r_bast (h : RS l G cy ad tt own cc nL D Go) {st : List Value} {k n : Nat} {i v : Int} (hd : decode cc pc = .ok (.bastore, 1)) (hk : tab[k]? = some (.inl (2, n))) (hi : 0 ≤ i ∧ i < (n : Int)) (hr : inR i) (kk : Go (pc + 1) L st (wr m k i (i8 v))) : Go pc L (iv v :: iv i :: .ref (ad k) :: st) m := h.2.2.2.2.2.2.2.2.2.2.2.2.2.2.2.2.2.2.2.2.2.2.2.2.2.2.2.2.2.2.2.2.2.2.2.2.2.2.2.2.2.2.2.2.2.2.2.2.2.2.2.2.2.2.2.2.2.2.2.2.2.2.2.2.2.2.2.1 hd hk hi hr kk
theorem r_zast (h : RS l G cy ad tt own cc nL D Go) {st : List Value} {k n : Nat} {i v : Int} (hd : decode cc pc = .ok (.bastore, 1)) (hk : tab[k]? = some (.inl (3, n))) (hi : 0 ≤ i ∧ i < (n : Int)) (hr : inR i) (hz : inZ v) (kk : Go (pc + 1) L st (wr m k i (v))) : Go pc L (iv v :: iv i :: .ref (ad k) :: st) m := h.2.2.2.2.2.2.2.2.2.2.2.2.2.2.2.2.2.2.2.2.2.2.2.2.2.2.2.2.2.2.2.2.2.2.2.2.2.2.2.2.2.2.2.2.2.2.2.2.2.2.2.2.2.2.2.2.2.2.2.2.2.2.2.2.2.2.2.2.1 hd hk hi hr hz kk
theorem r_last (h : RS l G cy ad tt own cc nL D Go) {st : List Value} {k n : Nat} {i v : Int} (hd : decode cc pc = .ok (.lastore, 1)) (hk : tab[k]? = some (.inl (1, n))) (hi : 0 ≤ i ∧ i < (n : Int)) (hr : inR i) (kk : Go (pc + 1) L st (wr m k i v)) : Go pc L (jv v :: iv i :: .ref (ad k) :: st) m := h.2.2.2.2.2.2.2.2.2.2.2.2.2.2.2.2.2.2.2.2.2.2.2.2.2.2.2.2.2.2.2.2.2.2.2.2.2.2.2.2.2.2.2.2.2.2.2.2.2.2.2.2.2.2.2.2.2.2.2.2.2.2.2.2.2.2.2.2.2.1 hd hk hi hr kk
theorem r_alen (h : RS l G cy ad tt own cc nL D Go) {st : List Value} {k n q : Nat} (hd : decode cc pc = .ok (.arraylength, 1)) (hk : tab[k]? = some (.inl (q, n))) (hq : q < 5) (kk : Go (pc + 1) L (iv (n : Int) :: st) m) : Go pc L (.ref (ad k) :: st) m := h.2.2.2.2.2.2.2.2.2.2.2.2.2.2.2.2.2.2.2.2.2.2.2.2.2.2.2.2.2.2.2.2.2.2.2.2.2.2.2.2.2.2.2.2.2.2.2.2.2.2.2.2.2.2.2.2.2.2.2.2.2.2.2.2.2.2.2.2.2.2.1 hd hk hq kk
theorem r_gets (h : RS l G cy ad tt own cc nL D Go) {st : List Value} {j idx : Nat} (hd : decode cc pc = .ok (.getstatic idx, 3)) (hs : SL own idx j) (kk : Go (pc + 3) L (.ref (tt j) :: st) m) : Go pc L st m := h.2.2.2.2.2.2.2.2.2.2.2.2.2.2.2.2.2.2.2.2.2.2.2.2.2.2.2.2.2.2.2.2.2.2.2.2.2.2.2.2.2.2.2.2.2.2.2.2.2.2.2.2.2.2.2.2.2.2.2.2.2.2.2.2.2.2.2.2.2.2.2.1 hd hs kk
theorem r_tald (h : RS l G cy ad tt own cc nL D Go) {st : List Value} {j : Nat} {q : String × String × List Int} {i : Int} (hd : decode cc pc = .ok (.iaload, 1)) (hq : stT[j]? = some q) (hi : 0 ≤ i ∧ i < (q.2.2.length : Int)) (hr : inR i) (kk : Go (pc + 1) L (iv (q.2.2.getD i.toNat 0) :: st) m) : Go pc L (iv i :: .ref (tt j) :: st) m := h.2.2.2.2.2.2.2.2.2.2.2.2.2.2.2.2.2.2.2.2.2.2.2.2.2.2.2.2.2.2.2.2.2.2.2.2.2.2.2.2.2.2.2.2.2.2.2.2.2.2.2.2.2.2.2.2.2.2.2.2.2.2.2.2.2.2.2.2.2.2.2.2.1 hd hq hi hr kk
theorem r_tlen (h : RS l G cy ad tt own cc nL D Go) {st : List Value} {j : Nat} {q : String × String × List Int} (hd : decode cc pc = .ok (.arraylength, 1)) (hq : stT[j]? = some q) (kk : Go (pc + 1) L (iv (q.2.2.length : Int) :: st) m) : Go pc L (.ref (tt j) :: st) m := h.2.2.2.2.2.2.2.2.2.2.2.2.2.2.2.2.2.2.2.2.2.2.2.2.2.2.2.2.2.2.2.2.2.2.2.2.2.2.2.2.2.2.2.2.2.2.2.2.2.2.2.2.2.2.2.2.2.2.2.2.2.2.2.2.2.2.2.2.2.2.2.2.2.1 hd hq kk
theorem r_callV (h : RS l G cy ad tt own cc nL D Go) {k ci idx mx D' n : Nat} {fds : List (Option Nat)} {y : MethodName} {b : ByteArray} {ret : Option FieldType} {as rest stk : List Value} {o : Option Value} {P : Prop} {m' : Mem} (hd : decode cc pc = .ok (.invokevirtual idx, 3)) (lk : CLV own idx y b mx ret n) (hk : tab[k]? = some (.inr (ci, fds))) (hcn : (vwCl[ci]?).map (fun q => q.1) = some y.cls) (hM : CT l G cy ad tt y b mx ret D' (.ref (ad k) :: as) m o P m') (hD : D' + 1 ≤ D) (hn : as.length = n) (hcat : (rest.map fun v => v.category).sum ≤ 8) (hst : as.reverse ++ .ref (ad k) :: rest = stk) (kk : P → Go (pc + 3) L (o.toList ++ rest) m') : Go pc L stk m := h.2.2.2.2.2.2.2.2.2.2.2.2.2.2.2.2.2.2.2.2.2.2.2.2.2.2.2.2.2.2.2.2.2.2.2.2.2.2.2.2.2.2.2.2.2.2.2.2.2.2.2.2.2.2.2.2.2.2.2.2.2.2.2.2.2.2.2.2.2.2.2.2.2.2.1 hd lk hk hcn hM hD hn hcat hst kk
theorem r_callS (h : RS l G cy ad tt own cc nL D Go) {idx mx D' n : Nat} {y : MethodName} {b : ByteArray} {ret : Option FieldType} {as rest stk : List Value} {o : Option Value} {P : Prop} {m' : Mem} (hd : decode cc pc = .ok (.invokestatic idx, 3)) (lk : CLS own idx y b mx ret n) (hM : CT l G cy ad tt y b mx ret D' as m o P m') (hD : D' + 1 ≤ D) (hn : as.length = n) (hcat : (rest.map fun v => v.category).sum ≤ 8) (hst : as.reverse ++ rest = stk) (kk : P → Go (pc + 3) L (o.toList ++ rest) m') : Go pc L stk m := h.2.2.2.2.2.2.2.2.2.2.2.2.2.2.2.2.2.2.2.2.2.2.2.2.2.2.2.2.2.2.2.2.2.2.2.2.2.2.2.2.2.2.2.2.2.2.2.2.2.2.2.2.2.2.2.2.2.2.2.2.2.2.2.2.2.2.2.2.2.2.2.2.2.2.2.1 hd lk hM hD hn hcat hst kk
theorem r_callN (h : RS l G cy ad tt own cc nL D Go) {idx mx D' n j : Nat} {y : MethodName} {b : ByteArray} {ret : Option FieldType} {as rest stk : List Value} {o : Option Value} {P : Prop} {m' : Mem} (hd : decode cc pc = .ok (.invokestatic idx, 3)) (lk : CLN own idx y b mx ret n j) (hM : CT l G cy ad tt y b mx ret D' as m o P m') (hD : D' + 1 ≤ D) (hn : as.length = n) (hcat : (rest.map fun v => v.category).sum ≤ 8) (hst : as.reverse ++ rest = stk) (kk : P → Go (pc + 3) L (o.toList ++ rest) m') : Go pc L stk m := h.2.2.2.2.2.2.2.2.2.2.2.2.2.2.2.2.2.2.2.2.2.2.2.2.2.2.2.2.2.2.2.2.2.2.2.2.2.2.2.2.2.2.2.2.2.2.2.2.2.2.2.2.2.2.2.2.2.2.2.2.2.2.2.2.2.2.2.2.2.2.2.2.2.2.2.2.1 hd lk hM hD hn hcat hst kk
theorem r_max (h : RS l G cy ad tt own cc nL D Go) {st : List Value} {idx : Nat} {a b : Int} (hd : decode cc pc = .ok (.invokestatic idx, 3)) (hw : Cond.methodLink own idx Lib.Math.max.name ∈ WS) (ha : inR a) (hb : inR b) (hcat : (st.map fun v => v.category).sum ≤ 8) (hD : 1 ≤ D) (kk : Go (pc + 3) L (iv (imx a b) :: st) m) : Go pc L (iv b :: iv a :: st) m := h.2.2.2.2.2.2.2.2.2.2.2.2.2.2.2.2.2.2.2.2.2.2.2.2.2.2.2.2.2.2.2.2.2.2.2.2.2.2.2.2.2.2.2.2.2.2.2.2.2.2.2.2.2.2.2.2.2.2.2.2.2.2.2.2.2.2.2.2.2.2.2.2.2.2.2.2.2.1 hd hw ha hb hcat hD kk
theorem r_min (h : RS l G cy ad tt own cc nL D Go) {st : List Value} {idx : Nat} {a b : Int} (hd : decode cc pc = .ok (.invokestatic idx, 3)) (hw : Cond.methodLink own idx Lib.Math.min.name ∈ WS) (ha : inR a) (hb : inR b) (hcat : (st.map fun v => v.category).sum ≤ 8) (hD : 1 ≤ D) (kk : Go (pc + 3) L (iv (imn a b) :: st) m) : Go pc L (iv b :: iv a :: st) m := h.2.2.2.2.2.2.2.2.2.2.2.2.2.2.2.2.2.2.2.2.2.2.2.2.2.2.2.2.2.2.2.2.2.2.2.2.2.2.2.2.2.2.2.2.2.2.2.2.2.2.2.2.2.2.2.2.2.2.2.2.2.2.2.2.2.2.2.2.2.2.2.2.2.2.2.2.2.2.1 hd hw ha hb hcat hD kk
theorem r_copyi (h : RS l G cy ad tt own cc nL D Go) {st : List Value} {idx k1 k2 n1 n2 : Nat} {i j n : Int} (hd : decode cc pc = .ok (.invokestatic idx, 3)) (hw : Cond.methodLink own idx arraycopyName ∈ WS) (hk1 : tab[k1]? = some (.inl (0, n1))) (hk2 : tab[k2]? = some (.inl (0, n2))) (hi : 0 ≤ i ∧ 0 ≤ j ∧ 0 ≤ n ∧ i + n ≤ (n1 : Int) ∧ j + n ≤ (n2 : Int)) (ri : inR i) (rj : inR j) (rn : inR n) (hcat : (st.map fun v => v.category).sum ≤ 8) (hD : 1 ≤ D) (kk : Go (pc + 3) L st (cpy m k1 i k2 j n)) : Go pc L (iv n :: iv j :: .ref (ad k2) :: iv i :: .ref (ad k1) :: st) m := h.2.2.2.2.2.2.2.2.2.2.2.2.2.2.2.2.2.2.2.2.2.2.2.2.2.2.2.2.2.2.2.2.2.2.2.2.2.2.2.2.2.2.2.2.2.2.2.2.2.2.2.2.2.2.2.2.2.2.2.2.2.2.2.2.2.2.2.2.2.2.2.2.2.2.2.2.2.2.2.1 hd hw hk1 hk2 hi ri rj rn hcat hD kk
theorem r_copyl (h : RS l G cy ad tt own cc nL D Go) {st : List Value} {idx k1 k2 n1 n2 : Nat} {i j n : Int} (hd : decode cc pc = .ok (.invokestatic idx, 3)) (hw : Cond.methodLink own idx arraycopyName ∈ WS) (hk1 : tab[k1]? = some (.inl (1, n1))) (hk2 : tab[k2]? = some (.inl (1, n2))) (hi : 0 ≤ i ∧ 0 ≤ j ∧ 0 ≤ n ∧ i + n ≤ (n1 : Int) ∧ j + n ≤ (n2 : Int)) (ri : inR i) (rj : inR j) (rn : inR n) (hcat : (st.map fun v => v.category).sum ≤ 8) (hD : 1 ≤ D) (kk : Go (pc + 3) L st (cpy m k1 i k2 j n)) : Go pc L (iv n :: iv j :: .ref (ad k2) :: iv i :: .ref (ad k1) :: st) m := h.2.2.2.2.2.2.2.2.2.2.2.2.2.2.2.2.2.2.2.2.2.2.2.2.2.2.2.2.2.2.2.2.2.2.2.2.2.2.2.2.2.2.2.2.2.2.2.2.2.2.2.2.2.2.2.2.2.2.2.2.2.2.2.2.2.2.2.2.2.2.2.2.2.2.2.2.2.2.2.2.1 hd hw hk1 hk2 hi ri rj rn hcat hD kk
theorem r_weak (h : RS l G cy ad tt own cc nL D Go) {st : List Value} {L' : List (Option Value)} (hs : subL L' L) (k : Go pc L' st m) : Go pc L st m := h.2.2.2.2.2.2.2.2.2.2.2.2.2.2.2.2.2.2.2.2.2.2.2.2.2.2.2.2.2.2.2.2.2.2.2.2.2.2.2.2.2.2.2.2.2.2.2.2.2.2.2.2.2.2.2.2.2.2.2.2.2.2.2.2.2.2.2.2.2.2.2.2.2.2.2.2.2.2.2.2.2 hs k
end RSP
theorem cl_ok {ci : Nat} {C : String} {T : u_T} {N : Nat} (hc : vwCl[ci]? = some (C, T, N)) : ∃ ty0 : Nat → FieldType, (∀ k, k < N → parseFieldDescriptor (T k).2.2.1 = some (ty0 k)) ∧ ∀ a, a < N → ∀ b, b < N → a ≠ b → (T a).2.1 ≠ (T b).2.1 := by
  match ci, hc with
  | 0, hc => cases hc; exact ⟨tyX0, tyX0_ok, nmX0⟩
  | 1, hc => cases hc; exact ⟨tyX1, tyX1_ok, nmX1⟩
  | 2, hc => cases hc; exact ⟨tyX2, tyX2_ok, nmX2⟩
  | 3, hc => cases hc; exact ⟨tyX3, tyX3_ok, nmX3⟩
  | 4, hc => cases hc; exact ⟨tyX4, tyX4_ok, nmX4⟩
  | 5, hc => cases hc; exact ⟨tyX5, tyX5_ok, nmX5⟩
  | 6, hc => cases hc; exact ⟨tyX6, tyX6_ok, nmX6⟩
  | 7, hc => cases hc; exact ⟨tyX8, tyX8_ok, nmX8⟩
  | 8, hc => cases hc; exact ⟨tyX9, tyX9_ok, nmX9⟩
  | 9, hc => cases hc; exact ⟨tyX10, tyX10_ok, nmX10⟩
  | 10, hc => cases hc; exact ⟨tyX11, tyX11_ok, nmX11⟩
  | k + 11, hc => simp [vwCl] at hc
set_option maxRecDepth 100000 in
theorem wu_0 : ∀ w ∈ u_ws RX0 TX0 15, w ∈ WS := List.forall_mem_cons.mpr ⟨wm_1 233 rfl rfl, List.forall_mem_cons.mpr ⟨wm_1 235 rfl rfl, List.forall_mem_cons.mpr ⟨wm_1 237 rfl rfl, List.forall_mem_cons.mpr ⟨wm_1 239 rfl rfl, List.forall_mem_cons.mpr ⟨wm_2 1 rfl rfl, List.forall_mem_cons.mpr ⟨wm_2 3 rfl rfl, List.forall_mem_cons.mpr ⟨wm_2 5 rfl rfl, List.forall_mem_cons.mpr ⟨wm_2 7 rfl rfl, List.forall_mem_cons.mpr ⟨wm_2 9 rfl rfl, List.forall_mem_cons.mpr ⟨wm_2 11 rfl rfl, List.forall_mem_cons.mpr ⟨wm_2 13 rfl rfl, List.forall_mem_cons.mpr ⟨wm_2 15 rfl rfl, List.forall_mem_cons.mpr ⟨wm_2 17 rfl rfl, List.forall_mem_cons.mpr ⟨wm_2 19 rfl rfl, List.forall_mem_cons.mpr ⟨wm_2 21 rfl rfl, fun _ h => absurd h List.not_mem_nil⟩⟩⟩⟩⟩⟩⟩⟩⟩⟩⟩⟩⟩⟩⟩
set_option maxRecDepth 100000 in
theorem wu_1 : ∀ w ∈ u_ws RX1 TX1 13, w ∈ WS := List.forall_mem_cons.mpr ⟨wm_1 101 rfl rfl, List.forall_mem_cons.mpr ⟨wm_1 103 rfl rfl, List.forall_mem_cons.mpr ⟨wm_1 105 rfl rfl, List.forall_mem_cons.mpr ⟨wm_1 107 rfl rfl, List.forall_mem_cons.mpr ⟨wm_1 109 rfl rfl, List.forall_mem_cons.mpr ⟨wm_1 111 rfl rfl, List.forall_mem_cons.mpr ⟨wm_1 113 rfl rfl, List.forall_mem_cons.mpr ⟨wm_1 115 rfl rfl, List.forall_mem_cons.mpr ⟨wm_1 117 rfl rfl, List.forall_mem_cons.mpr ⟨wm_1 119 rfl rfl, List.forall_mem_cons.mpr ⟨wm_1 121 rfl rfl, List.forall_mem_cons.mpr ⟨wm_1 123 rfl rfl, List.forall_mem_cons.mpr ⟨wm_1 125 rfl rfl, fun _ h => absurd h List.not_mem_nil⟩⟩⟩⟩⟩⟩⟩⟩⟩⟩⟩⟩⟩
set_option maxRecDepth 100000 in
theorem wu_2 : ∀ w ∈ u_ws RX2 TX2 2, w ∈ WS := List.forall_mem_cons.mpr ⟨wm_2 47 rfl rfl, List.forall_mem_cons.mpr ⟨wm_2 49 rfl rfl, fun _ h => absurd h List.not_mem_nil⟩⟩
set_option maxRecDepth 100000 in
theorem wu_3 : ∀ w ∈ u_ws RX3 TX3 2, w ∈ WS := List.forall_mem_cons.mpr ⟨wm_2 32 rfl rfl, List.forall_mem_cons.mpr ⟨wm_2 34 rfl rfl, fun _ h => absurd h List.not_mem_nil⟩⟩
set_option maxRecDepth 100000 in
theorem wu_4 : ∀ w ∈ u_ws RX4 TX4 6, w ∈ WS := List.forall_mem_cons.mpr ⟨wm_1 194 rfl rfl, List.forall_mem_cons.mpr ⟨wm_1 196 rfl rfl, List.forall_mem_cons.mpr ⟨wm_1 198 rfl rfl, List.forall_mem_cons.mpr ⟨wm_1 200 rfl rfl, List.forall_mem_cons.mpr ⟨wm_1 202 rfl rfl, List.forall_mem_cons.mpr ⟨wm_1 204 rfl rfl, fun _ h => absurd h List.not_mem_nil⟩⟩⟩⟩⟩⟩
set_option maxRecDepth 100000 in
theorem wu_5 : ∀ w ∈ u_ws RX5 TX5 8, w ∈ WS := List.forall_mem_cons.mpr ⟨wm_2 70 rfl rfl, List.forall_mem_cons.mpr ⟨wm_2 72 rfl rfl, List.forall_mem_cons.mpr ⟨wm_2 74 rfl rfl, List.forall_mem_cons.mpr ⟨wm_2 76 rfl rfl, List.forall_mem_cons.mpr ⟨wm_2 78 rfl rfl, List.forall_mem_cons.mpr ⟨wm_2 80 rfl rfl, List.forall_mem_cons.mpr ⟨wm_2 82 rfl rfl, List.forall_mem_cons.mpr ⟨wm_2 84 rfl rfl, fun _ h => absurd h List.not_mem_nil⟩⟩⟩⟩⟩⟩⟩⟩
set_option maxRecDepth 100000 in
theorem wu_6 : ∀ w ∈ u_ws RX6 TX6 5, w ∈ WS := List.forall_mem_cons.mpr ⟨wm_2 103 rfl rfl, List.forall_mem_cons.mpr ⟨wm_2 105 rfl rfl, List.forall_mem_cons.mpr ⟨wm_2 107 rfl rfl, List.forall_mem_cons.mpr ⟨wm_2 109 rfl rfl, List.forall_mem_cons.mpr ⟨wm_2 111 rfl rfl, fun _ h => absurd h List.not_mem_nil⟩⟩⟩⟩⟩
set_option maxRecDepth 100000 in
theorem wu_8 : ∀ w ∈ u_ws RX8 TX8 7, w ∈ WS := List.forall_mem_cons.mpr ⟨wm_1 43 rfl rfl, List.forall_mem_cons.mpr ⟨wm_1 45 rfl rfl, List.forall_mem_cons.mpr ⟨wm_1 47 rfl rfl, List.forall_mem_cons.mpr ⟨wm_1 49 rfl rfl, List.forall_mem_cons.mpr ⟨wm_1 51 rfl rfl, List.forall_mem_cons.mpr ⟨wm_1 53 rfl rfl, List.forall_mem_cons.mpr ⟨wm_1 55 rfl rfl, fun _ h => absurd h List.not_mem_nil⟩⟩⟩⟩⟩⟩⟩
set_option maxRecDepth 100000 in
theorem wu_9 : ∀ w ∈ u_ws RX9 TX9 12, w ∈ WS := List.forall_mem_cons.mpr ⟨wm_1 157 rfl rfl, List.forall_mem_cons.mpr ⟨wm_1 159 rfl rfl, List.forall_mem_cons.mpr ⟨wm_1 161 rfl rfl, List.forall_mem_cons.mpr ⟨wm_1 163 rfl rfl, List.forall_mem_cons.mpr ⟨wm_1 165 rfl rfl, List.forall_mem_cons.mpr ⟨wm_1 167 rfl rfl, List.forall_mem_cons.mpr ⟨wm_1 169 rfl rfl, List.forall_mem_cons.mpr ⟨wm_1 171 rfl rfl, List.forall_mem_cons.mpr ⟨wm_1 173 rfl rfl, List.forall_mem_cons.mpr ⟨wm_1 175 rfl rfl, List.forall_mem_cons.mpr ⟨wm_1 177 rfl rfl, List.forall_mem_cons.mpr ⟨wm_1 179 rfl rfl, fun _ h => absurd h List.not_mem_nil⟩⟩⟩⟩⟩⟩⟩⟩⟩⟩⟩⟩
set_option maxRecDepth 100000 in
theorem wu_10 : ∀ w ∈ u_ws RX10 TX10 9, w ∈ WS := List.forall_mem_cons.mpr ⟨wm_2 124 rfl rfl, List.forall_mem_cons.mpr ⟨wm_2 126 rfl rfl, List.forall_mem_cons.mpr ⟨wm_2 128 rfl rfl, List.forall_mem_cons.mpr ⟨wm_2 130 rfl rfl, List.forall_mem_cons.mpr ⟨wm_2 132 rfl rfl, List.forall_mem_cons.mpr ⟨wm_2 134 rfl rfl, List.forall_mem_cons.mpr ⟨wm_2 136 rfl rfl, List.forall_mem_cons.mpr ⟨wm_2 138 rfl rfl, List.forall_mem_cons.mpr ⟨wm_2 140 rfl rfl, fun _ h => absurd h List.not_mem_nil⟩⟩⟩⟩⟩⟩⟩⟩⟩
set_option maxRecDepth 100000 in
theorem wu_11 : ∀ w ∈ u_ws RX11 TX11 55, w ∈ WS := List.forall_mem_cons.mpr ⟨wm_5 114 rfl rfl, List.forall_mem_cons.mpr ⟨wm_5 116 rfl rfl, List.forall_mem_cons.mpr ⟨wm_5 118 rfl rfl, List.forall_mem_cons.mpr ⟨wm_5 120 rfl rfl, List.forall_mem_cons.mpr ⟨wm_5 122 rfl rfl, List.forall_mem_cons.mpr ⟨wm_5 124 rfl rfl, List.forall_mem_cons.mpr ⟨wm_5 126 rfl rfl, List.forall_mem_cons.mpr ⟨wm_5 128 rfl rfl, List.forall_mem_cons.mpr ⟨wm_5 130 rfl rfl, List.forall_mem_cons.mpr ⟨wm_5 132 rfl rfl, List.forall_mem_cons.mpr ⟨wm_5 134 rfl rfl, List.forall_mem_cons.mpr ⟨wm_5 136 rfl rfl, List.forall_mem_cons.mpr ⟨wm_5 138 rfl rfl, List.forall_mem_cons.mpr ⟨wm_5 140 rfl rfl, List.forall_mem_cons.mpr ⟨wm_5 142 rfl rfl, List.forall_mem_cons.mpr ⟨wm_5 144 rfl rfl, List.forall_mem_cons.mpr ⟨wm_5 146 rfl rfl, List.forall_mem_cons.mpr ⟨wm_5 148 rfl rfl, List.forall_mem_cons.mpr ⟨wm_5 150 rfl rfl, List.forall_mem_cons.mpr ⟨wm_5 152 rfl rfl, List.forall_mem_cons.mpr ⟨wm_5 154 rfl rfl, List.forall_mem_cons.mpr ⟨wm_5 156 rfl rfl, List.forall_mem_cons.mpr ⟨wm_5 158 rfl rfl, List.forall_mem_cons.mpr ⟨wm_5 160 rfl rfl, List.forall_mem_cons.mpr ⟨wm_5 162 rfl rfl, List.forall_mem_cons.mpr ⟨wm_5 164 rfl rfl, List.forall_mem_cons.mpr ⟨wm_5 166 rfl rfl, List.forall_mem_cons.mpr ⟨wm_5 168 rfl rfl, List.forall_mem_cons.mpr ⟨wm_5 170 rfl rfl, List.forall_mem_cons.mpr ⟨wm_5 172 rfl rfl, List.forall_mem_cons.mpr ⟨wm_5 174 rfl rfl, List.forall_mem_cons.mpr ⟨wm_5 176 rfl rfl, List.forall_mem_cons.mpr ⟨wm_5 178 rfl rfl, List.forall_mem_cons.mpr ⟨wm_5 180 rfl rfl, List.forall_mem_cons.mpr ⟨wm_5 182 rfl rfl, List.forall_mem_cons.mpr ⟨wm_5 184 rfl rfl, List.forall_mem_cons.mpr ⟨wm_5 186 rfl rfl, List.forall_mem_cons.mpr ⟨wm_5 188 rfl rfl, List.forall_mem_cons.mpr ⟨wm_5 190 rfl rfl, List.forall_mem_cons.mpr ⟨wm_5 192 rfl rfl, List.forall_mem_cons.mpr ⟨wm_5 194 rfl rfl, List.forall_mem_cons.mpr ⟨wm_5 196 rfl rfl, List.forall_mem_cons.mpr ⟨wm_5 198 rfl rfl, List.forall_mem_cons.mpr ⟨wm_5 200 rfl rfl, List.forall_mem_cons.mpr ⟨wm_5 202 rfl rfl, List.forall_mem_cons.mpr ⟨wm_5 204 rfl rfl, List.forall_mem_cons.mpr ⟨wm_5 206 rfl rfl, List.forall_mem_cons.mpr ⟨wm_5 208 rfl rfl, List.forall_mem_cons.mpr ⟨wm_5 210 rfl rfl, List.forall_mem_cons.mpr ⟨wm_5 212 rfl rfl, List.forall_mem_cons.mpr ⟨wm_5 214 rfl rfl, List.forall_mem_cons.mpr ⟨wm_5 216 rfl rfl, List.forall_mem_cons.mpr ⟨wm_5 218 rfl rfl, List.forall_mem_cons.mpr ⟨wm_5 220 rfl rfl, List.forall_mem_cons.mpr ⟨wm_5 222 rfl rfl, fun _ h => absurd h List.not_mem_nil⟩⟩⟩⟩⟩⟩⟩⟩⟩⟩⟩⟩⟩⟩⟩⟩⟩⟩⟩⟩⟩⟩⟩⟩⟩⟩⟩⟩⟩⟩⟩⟩⟩⟩⟩⟩⟩⟩⟩⟩⟩⟩⟩⟩⟩⟩⟩⟩⟩⟩⟩⟩⟩⟩⟩
theorem WS_u {ci : Nat} {C : String} {T : u_T} {N : Nat} (hc : vwCl[ci]? = some (C, T, N)) : ∀ w ∈ u_ws C T N, w ∈ WS := by
  match ci, hc with
  | 0, hc => cases hc; exact wu_0
  | 1, hc => cases hc; exact wu_1
  | 2, hc => cases hc; exact wu_2
  | 3, hc => cases hc; exact wu_3
  | 4, hc => cases hc; exact wu_4
  | 5, hc => cases hc; exact wu_5
  | 6, hc => cases hc; exact wu_6
  | 7, hc => cases hc; exact wu_8
  | 8, hc => cases hc; exact wu_9
  | 9, hc => cases hc; exact wu_10
  | 10, hc => cases hc; exact wu_11
  | k + 11, hc => simp [vwCl] at hc
set_option maxRecDepth 100000 in
theorem ws_maxs : Cond.static Lib.Math.max.name ∈ WS := wm_2 173 rfl rfl
set_option maxRecDepth 100000 in
theorem ws_maxc : Cond.code Lib.Math.max.name Lib.Math.max.code 2 (some .int) ∈ WS := wm_2 174 rfl rfl
set_option maxRecDepth 100000 in
theorem ws_mins : Cond.static Lib.Math.min.name ∈ WS := wm_3 74 rfl rfl
set_option maxRecDepth 100000 in
theorem ws_minc : Cond.code Lib.Math.min.name Lib.Math.min.code 2 (some .int) ∈ WS := wm_3 75 rfl rfl
set_option maxRecDepth 100000 in
theorem ws_mi : Cond.initialized "java/lang/Math" ∈ WS := wm_1 13 rfl rfl
set_option maxRecDepth 100000 in
theorem ws_acn : Cond.native arraycopyName ∈ WS := wm_2 199 rfl rfl
set_option maxRecDepth 100000 in
theorem ws_acs : Cond.static arraycopyName ∈ WS := wm_2 198 rfl rfl
set_option maxRecDepth 100000 in
theorem ws_aci : Cond.initialized "java/lang/System" ∈ WS := wm_1 14 rfl rfl
section MTC
variable {p : Program} {l : Launch} {e : Env} {R : Room} {s : State} {mt : MethodId} {args : Array Value} {below : List Frame} {meth : Method} {c : Code} {cN sN : Nat} {Q : State → Prop} {G : va_G} {cy ad tt : Nat → Nat} {own : String} {cc : ByteArray} {nL D : Nat} {H : Heap} {locs : List Loc} {m : Mem}
theorem mt_call {pc : Nat} {ls : Array Slot} {rest st0 : List Value} {a : Array Value} {o : Option Value} {P : Prop} {m' : Mem} (hr : va_Run p l e R s mt args below meth c H locs cN sN 0 0 (F0 mt pc ls st0) rest (mtQ G cy ad o P m' a) (AD ad)) (hS : va_S (AD ad) s.heap H locs)
    (kk : P → ∀ (H1 : Heap) (locs1 : List Loc), va_P G vwCl (wsM cy ad m') H1 → va_S (AD ad) s.heap H1 locs1 → W p l e R s mt args below meth c H1 locs1 cN sN Q (F0 mt (pc + 3) ls (o.toList ++ rest))) : W p l e R s mt args below meth c H locs cN sN Q (F0 mt pc ls st0) := by
  intro T hT X
  obtain ⟨v, st₀, t, T', L, h0, X', hL, e1, e2, ⟨hv, hp, hP1, hz, hk⟩, st⟩ := hr T hT X
  have hv : v = o := Outcome.returned.inj hv
  subst hv
  rw [h0] at hz hk
  obtain ⟨t2, a1, b1⟩ := kk hp T'.heap (locs ++ L) (by rw [e1]; exact hP1)
    ⟨Nat.le_trans hS.1 (by rw [e1]; exact hz), fun q h1 h2 => by rw [e1, hk q (Nat.lt_of_lt_of_le h1 hS.1) h2]; exact hS.2.1 q h1 h2, fun q hq => by
      rcases List.mem_append.mp hq with h | h
      · exact hS.2.2 q h
      · exact hL q h⟩ T' rfl X'
  exact ⟨t2, st t2 a1, b1⟩
theorem WD_blind {as : List Value} : FrameBlind (va_Pc as (WD G cy ad tt m)) := fun a U g mk q =>
  ⟨q.1, q.2.1, va_K.moved (u := U) (U := U.calling g mk a) (Vm.Alike.refl U.vm) q.2.2.1, q.2.2.2.1, fun j x hx => ⟨va_Z.moved (u := U) (U := U.calling g mk a) (Vm.Alike.refl U.vm) (q.2.2.2.2.1 j x hx).1, va_T.moved (u := U) (U := U.calling g mk a) (Vm.Alike.refl U.vm) (q.2.2.2.2.1 j x hx).2⟩, fun j x hx => va_Nw.same (u := U) (U := U.calling g mk a) rfl rfl (q.2.2.2.2.2 j x hx)⟩
theorem WD_at (X : CX p l e R s mt args below meth c cN sN G cy ad tt own cc nL D) (hP : va_P G vwCl (wsM cy ad m) H) (hS : va_S (AD ad) s.heap H locs) : ∀ U : State, U.heap = H → s.WarmedH U.vm → WD G cy ad tt m U := by
  intro U hU hW
  have hk : ∀ a : Nat, a < s.heap.size → ¬ AD ad a → U.heap[a]? = s.heap[a]? := fun a h1 h2 => by rw [hU]; exact hS.2.1 a h1 h2
  refine ⟨by rw [hU]; exact hP, va_K.moved hW.alike X.2.2.2.2.2.1, X.2.2.2.2.2.2.1, fun j q hq => ?_, fun j q hq => va_Nw.warmM hW (X.2.2.2.2.2.2.2.2.2.2.2 j q hq)⟩
  obtain ⟨h1, h2⟩ := X.2.2.2.2.2.2.2.1 j q hq
  exact ⟨(h1.kept hk).moved hW.alike, (h2.kept hk).moved hW.alike⟩
theorem pre_S {as : List Value} (X : CX p l e R s mt args below meth c cN sN G cy ad tt own cc nL D) (hP : va_P G vwCl (wsM cy ad m) H) (hS : va_S (AD ad) s.heap H locs) : PreS s H (va_Pc as (WD G cy ad tt m)) as :=
  ⟨WD_blind, fun U hU hW => ⟨rfl, WD_at X hP hS U hU hW⟩⟩
theorem pre_V {as : List Value} {C : String} {k ci : Nat} {fds : List (Option Nat)} (X : CX p l e R s mt args below meth c cN sN G cy ad tt own cc nL D) (hk : tab[k]? = some (.inr (ci, fds))) (hcn : (vwCl[ci]?).map (fun q => q.1) = some C) (hP : va_P G vwCl (wsM cy ad m) H) (hS : va_S (AD ad) s.heap H locs) : PreV s H C (ad k) (va_Pc (.ref (ad k) :: as) (WD G cy ad tt m)) as := by
  refine ⟨WD_blind, ?_, fun U hU hW => ⟨rfl, WD_at X hP hS U hU hW⟩⟩
  cases hq : vwCl[ci]? with
  | none => rw [hq] at hcn; cases hcn
  | some q =>
    rw [hq] at hcn
    have hC : q.1 = C := Option.some.inj hcn
    rw [← hC]
    exact va_recv X.2.2.2.2.2.1 hP hq (wsM_at hk)
theorem cw_B {idx mx D' n : Nat} {y : MethodName} {b : ByteArray} {ret : Option FieldType} (X : CX p l e R s mt args below meth c cN sN G cy ad tt own cc nL D) (lk : CLB y b mx ret n) (hl : Cond.methodLink own idx y ∈ WS) (hD : D' + 1 ≤ D) : CallB R s args own idx y b mx ret (Cond.code y b mx ret :: WS) (rmD D') 0 0 n := by
  have hR := X.2.2.2.2.2.2.2.2.2.2.1
  have h1 : (rmD D').frames + 1 ≤ R.frames := by show D' + 1 ≤ _; omega
  have h2 : 8 + (mx + 11) + (rmD D').locals ≤ R.locals := by show 8 + (mx + 11) + 64 * D' ≤ _; have := lk.2.2.2; omega
  refine callB_of n X.2.2.2.2.1 (fun w hw => ?_) rfl rfl rfl (X.2.2.2.2.1 _ lk.2.1) (X.2.2.2.2.1 _ hl) lk.2.2.1 ⟨h1, h2⟩
  have : w ∈ WS := by
    rcases List.mem_cons.mp hw with h | h
    · rw [h]; exact lk.1
    · exact h
  exact ⟨this, WS_good this⟩
theorem cw_V {idx mx D' n : Nat} {y : MethodName} {b : ByteArray} {ret : Option FieldType} (X : CX p l e R s mt args below meth c cN sN G cy ad tt own cc nL D) (lk : CLV own idx y b mx ret n) (hD : D' + 1 ≤ D) : CallW R s args own y.cls idx y b mx ret (Cond.code y b mx ret :: WS) (rmD D') 0 0 n :=
  ⟨cw_B X lk.1 lk.2.1 hD, X.2.2.2.2.1 _ lk.2.2.1, X.2.2.2.2.1 _ lk.2.2.2⟩
theorem cw_S {idx mx D' n : Nat} {y : MethodName} {b : ByteArray} {ret : Option FieldType} (X : CX p l e R s mt args below meth c cN sN G cy ad tt own cc nL D) (lk : CLS own idx y b mx ret n) (hD : D' + 1 ≤ D) : CallB R s args own idx y b mx ret (Cond.code y b mx ret :: WS) (rmD D') 0 0 n ∧ (Cond.static y).before args s = true :=
  ⟨cw_B X lk.1 lk.2.1 hD, X.2.2.2.2.1 _ lk.2.2⟩
theorem cw_N {idx mx D' n j : Nat} {y : MethodName} {b : ByteArray} {ret : Option FieldType} {host : String} (X : CX p l e R s mt args below meth c cN sN G cy ad tt own cc nL D) (lk : CLB y b mx ret n) (hn : nwT[j]? = some (own, idx, y, host)) (hst : Cond.static y ∈ WS) (hD : D' + 1 ≤ D) : va_CN R s args own idx y host b mx ret (Cond.code y b mx ret :: WS) (rmD D') 0 0 n ∧ (Cond.static y).before args s = true ∧ True := by
  have hR := X.2.2.2.2.2.2.2.2.2.2.1
  have h1 : (rmD D').frames + 1 ≤ R.frames := by show D' + 1 ≤ _; omega
  have h2 : 8 + (mx + 11) + (rmD D').locals ≤ R.locals := by show 8 + (mx + 11) + 64 * D' ≤ _; have := lk.2.2.2; omega
  refine ⟨va_cnB n X.2.2.2.2.1 (fun w hw => ?_) rfl rfl rfl (X.2.2.2.2.2.2.2.2.2.2.2 j _ hn) (X.2.2.2.2.1 _ lk.2.1) lk.2.2.1 ⟨h1, h2⟩, X.2.2.2.2.1 _ hst, trivial⟩
  have : w ∈ WS := by
    rcases List.mem_cons.mp hw with h | h
    · rw [h]; exact lk.1
    · exact h
  exact ⟨this, WS_good this⟩
end MTC
section RSO
variable {p : Program} {l : Launch} {e : Env} {R : Room} {s : State} {mt : MethodId} {args : Array Value} {below : List Frame} {meth : Method} {c : Code} {cN sN : Nat} {Q : State → Prop} {G : va_G} {cy ad tt : Nat → Nat} {own : String} {cc : ByteArray} {nL D : Nat}
theorem g_iconst (X : CX p l e R s mt args below meth c cN sN G cy ad tt own cc nL D) {pc : Nat} {L : List (Option Value)} {st : List Value} {m : Mem} {n : Int} (hd : decode cc pc = .ok (.iconst n, 1)) (k : GO G cy ad p l e R s mt args below meth c nL cN sN Q (pc + 1) L (iv n :: st) m) : GO G cy ad p l e R s mt args below meth c nL cN sN Q pc L st m := by
  intro H locs ls hL hP hS
  refine lv_iconst X.1 X.2.1 hd rfl ?_
  exact k H locs ls hL hP hS
theorem g_bipush (X : CX p l e R s mt args below meth c cN sN G cy ad tt own cc nL D) {pc : Nat} {L : List (Option Value)} {st : List Value} {m : Mem} {n : Int} (hd : decode cc pc = .ok (.bipush n, 2)) (hn : Int8.minValue.toInt ≤ n ∧ n ≤ Int8.maxValue.toInt) (k : GO G cy ad p l e R s mt args below meth c nL cN sN Q (pc + 2) L (iv n :: st) m) : GO G cy ad p l e R s mt args below meth c nL cN sN Q pc L st m := by
  intro H locs ls hL hP hS
  refine lv_bipush X.1 X.2.1 hd (by rw [Int8.toInt32_ofInt] <;> first | exact hn.1 | exact hn.2) ?_
  exact k H locs ls hL hP hS
theorem g_sipush (X : CX p l e R s mt args below meth c cN sN G cy ad tt own cc nL D) {pc : Nat} {L : List (Option Value)} {st : List Value} {m : Mem} {n : Int} (hd : decode cc pc = .ok (.sipush n, 3)) (hn : Int16.minValue.toInt ≤ n ∧ n ≤ Int16.maxValue.toInt) (k : GO G cy ad p l e R s mt args below meth c nL cN sN Q (pc + 3) L (iv n :: st) m) : GO G cy ad p l e R s mt args below meth c nL cN sN Q pc L st m := by
  intro H locs ls hL hP hS
  refine lv_sipush X.1 X.2.1 hd (by rw [Int16.toInt32_ofInt] <;> first | exact hn.1 | exact hn.2) ?_
  exact k H locs ls hL hP hS
theorem g_ldc (X : CX p l e R s mt args below meth c cN sN G cy ad tt own cc nL D) {pc : Nat} {L : List (Option Value)} {st : List Value} {m : Mem} {n : Int} {idx : Nat} (hd : decode cc pc = .ok (.ldc idx, 2)) (hw : Cond.constant own idx (Int32.ofInt n) ∈ WS) (k : GO G cy ad p l e R s mt args below meth c nL cN sN Q (pc + 2) L (iv n :: st) m) : GO G cy ad p l e R s mt args below meth c nL cN sN Q pc L st m := by
  intro H locs ls hL hP hS
  exact lv_ldc X.1 X.2.1 X.2.2.2.1 (X.2.2.2.2.1 _ hw) hd (k H locs ls hL hP hS)
theorem g_ldcw (X : CX p l e R s mt args below meth c cN sN G cy ad tt own cc nL D) {pc : Nat} {L : List (Option Value)} {st : List Value} {m : Mem} {n : Int} {idx : Nat} (hd : decode cc pc = .ok (.ldc_w idx, 3)) (hw : Cond.constant own idx (Int32.ofInt n) ∈ WS) (k : GO G cy ad p l e R s mt args below meth c nL cN sN Q (pc + 3) L (iv n :: st) m) : GO G cy ad p l e R s mt args below meth c nL cN sN Q pc L st m := by
  intro H locs ls hL hP hS
  exact lv_ldcw X.1 X.2.1 X.2.2.2.1 (X.2.2.2.2.1 _ hw) hd (k H locs ls hL hP hS)
theorem g_lconst (X : CX p l e R s mt args below meth c cN sN G cy ad tt own cc nL D) {pc : Nat} {L : List (Option Value)} {st : List Value} {m : Mem} {n : Fin 2} (hd : decode cc pc = .ok (.lconst n, 1)) (k : GO G cy ad p l e R s mt args below meth c nL cN sN Q (pc + 1) L (jv ((n : Nat) : Int) :: st) m) : GO G cy ad p l e R s mt args below meth c nL cN sN Q pc L st m := by
  intro H locs ls hL hP hS
  refine lv_lconst X.1 X.2.1 hd rfl ?_
  exact k H locs ls hL hP hS
theorem g_ldc2 (X : CX p l e R s mt args below meth c cN sN G cy ad tt own cc nL D) {pc : Nat} {L : List (Option Value)} {st : List Value} {m : Mem} {n : Int} {idx : Nat} (hd : decode cc pc = .ok (.ldc2_w idx, 3)) (hw : Cond.constantLong own idx (Int64.ofInt n) ∈ WS) (k : GO G cy ad p l e R s mt args below meth c nL cN sN Q (pc + 3) L (jv n :: st) m) : GO G cy ad p l e R s mt args below meth c nL cN sN Q pc L st m := by
  intro H locs ls hL hP hS
  exact lv_ldc2 X.1 X.2.1 X.2.2.2.1 (X.2.2.2.2.1 _ hw) hd (k H locs ls hL hP hS)
theorem g_iload (X : CX p l e R s mt args below meth c cN sN G cy ad tt own cc nL D) {pc : Nat} {L : List (Option Value)} {st : List Value} {m : Mem} {i : Nat} {x : Int} (hd : decode cc pc = .ok (.iload i, 2)) (hi : L[i]? = some (some (iv x))) (k : GO G cy ad p l e R s mt args below meth c nL cN sN Q (pc + 2) L (iv x :: st) m) : GO G cy ad p l e R s mt args below meth c nL cN sN Q pc L st m := by
  intro H locs ls hL hP hS
  exact lv_iload X.1 X.2.1 hd (LH_at hL hi) (k H locs ls hL hP hS)
theorem g_lload (X : CX p l e R s mt args below meth c cN sN G cy ad tt own cc nL D) {pc : Nat} {L : List (Option Value)} {st : List Value} {m : Mem} {i : Nat} {x : Int} (hd : decode cc pc = .ok (.lload i, 2)) (hi : L[i]? = some (some (jv x))) (k : GO G cy ad p l e R s mt args below meth c nL cN sN Q (pc + 2) L (jv x :: st) m) : GO G cy ad p l e R s mt args below meth c nL cN sN Q pc L st m := by
  intro H locs ls hL hP hS
  exact lv_lload X.1 X.2.1 hd (LH_at hL hi) (k H locs ls hL hP hS)
theorem g_aload (X : CX p l e R s mt args below meth c cN sN G cy ad tt own cc nL D) {pc : Nat} {L : List (Option Value)} {st : List Value} {m : Mem} {i : Nat} {x : Nat} (hd : decode cc pc = .ok (.aload i, 2)) (hi : L[i]? = some (some (.ref x))) (k : GO G cy ad p l e R s mt args below meth c nL cN sN Q (pc + 2) L (.ref x :: st) m) : GO G cy ad p l e R s mt args below meth c nL cN sN Q pc L st m := by
  intro H locs ls hL hP hS
  exact lv_aload X.1 X.2.1 hd (LH_at hL hi) (k H locs ls hL hP hS)
theorem g_iload_n (X : CX p l e R s mt args below meth c cN sN G cy ad tt own cc nL D) {pc : Nat} {L : List (Option Value)} {st : List Value} {m : Mem} {i : Fin 4} {x : Int} (hd : decode cc pc = .ok (.iload_n i, 1)) (hi : L[(i : Nat)]? = some (some (iv x))) (k : GO G cy ad p l e R s mt args below meth c nL cN sN Q (pc + 1) L (iv x :: st) m) : GO G cy ad p l e R s mt args below meth c nL cN sN Q pc L st m := by
  intro H locs ls hL hP hS
  exact lv_iload_n X.1 X.2.1 hd rfl (LH_at hL hi) (k H locs ls hL hP hS)
theorem g_lload_n (X : CX p l e R s mt args below meth c cN sN G cy ad tt own cc nL D) {pc : Nat} {L : List (Option Value)} {st : List Value} {m : Mem} {i : Fin 4} {x : Int} (hd : decode cc pc = .ok (.lload_n i, 1)) (hi : L[(i : Nat)]? = some (some (jv x))) (k : GO G cy ad p l e R s mt args below meth c nL cN sN Q (pc + 1) L (jv x :: st) m) : GO G cy ad p l e R s mt args below meth c nL cN sN Q pc L st m := by
  intro H locs ls hL hP hS
  exact lv_lload_n X.1 X.2.1 hd rfl (LH_at hL hi) (k H locs ls hL hP hS)
theorem g_aload_n (X : CX p l e R s mt args below meth c cN sN G cy ad tt own cc nL D) {pc : Nat} {L : List (Option Value)} {st : List Value} {m : Mem} {i : Fin 4} {x : Nat} (hd : decode cc pc = .ok (.aload_n i, 1)) (hi : L[(i : Nat)]? = some (some (.ref x))) (k : GO G cy ad p l e R s mt args below meth c nL cN sN Q (pc + 1) L (.ref x :: st) m) : GO G cy ad p l e R s mt args below meth c nL cN sN Q pc L st m := by
  intro H locs ls hL hP hS
  exact lv_aload_n X.1 X.2.1 hd rfl (LH_at hL hi) (k H locs ls hL hP hS)
theorem g_istore (X : CX p l e R s mt args below meth c cN sN G cy ad tt own cc nL D) {pc : Nat} {L : List (Option Value)} {st : List Value} {m : Mem} {i : Nat} {x : Int} {L' : List (Option Value)} (hd : decode cc pc = .ok (.istore i, 2)) (hi : i < nL) (ho : okS L i = true) (hs : L.set i (some (iv x)) = L') (k : GO G cy ad p l e R s mt args below meth c nL cN sN Q (pc + 2) L' st m) : GO G cy ad p l e R s mt args below meth c nL cN sN Q pc L (iv x :: st) m := by
  subst hs
  intro H locs ls hL hP hS
  obtain ⟨ls', e', h'⟩ := LH_store (v := iv x) hL hi rfl ho
  unfold iv at e'
  change W p l e R s mt args below meth c H locs cN sN Q (F0 mt pc ls (Value.int (Int32.ofInt x) :: st))
  intro T hT Y
  obtain ⟨t, a, b⟩ := k H locs ls' h' hP hS T hT Y
  refine ⟨t, ?_, b⟩
  jvm_step Y.here [Y.here.top, ↓top_set Y.here.top, X.1, X.2.1, hd, e']
  exact a
theorem g_astore (X : CX p l e R s mt args below meth c cN sN G cy ad tt own cc nL D) {pc : Nat} {L : List (Option Value)} {st : List Value} {m : Mem} {i : Nat} {x : Nat} {L' : List (Option Value)} (hd : decode cc pc = .ok (.astore i, 2)) (hi : i < nL) (ho : okS L i = true) (hs : L.set i (some (.ref x)) = L') (k : GO G cy ad p l e R s mt args below meth c nL cN sN Q (pc + 2) L' st m) : GO G cy ad p l e R s mt args below meth c nL cN sN Q pc L (.ref x :: st) m := by
  subst hs
  intro H locs ls hL hP hS
  obtain ⟨ls', e', h'⟩ := LH_store (v := .ref x) hL hi rfl ho
  intro T hT Y
  obtain ⟨t, a, b⟩ := k H locs ls' h' hP hS T hT Y
  refine ⟨t, ?_, b⟩
  jvm_step Y.here [Y.here.top, ↓top_set Y.here.top, X.1, X.2.1, hd, e']
  exact ⟨rfl, a⟩
theorem g_istore_n (X : CX p l e R s mt args below meth c cN sN G cy ad tt own cc nL D) {pc : Nat} {L : List (Option Value)} {st : List Value} {m : Mem} {i : Fin 4} {x : Int} {L' : List (Option Value)} (hd : decode cc pc = .ok (.istore_n i, 1)) (hi : (i : Nat) < nL) (ho : okS L (i : Nat) = true) (hs : L.set (i : Nat) (some (iv x)) = L') (k : GO G cy ad p l e R s mt args below meth c nL cN sN Q (pc + 1) L' st m) : GO G cy ad p l e R s mt args below meth c nL cN sN Q pc L (iv x :: st) m := by
  subst hs
  intro H locs ls hL hP hS
  obtain ⟨ls', e', h'⟩ := LH_store (v := iv x) hL hi rfl ho
  unfold iv at e'
  change W p l e R s mt args below meth c H locs cN sN Q (F0 mt pc ls (Value.int (Int32.ofInt x) :: st))
  intro T hT Y
  obtain ⟨t, a, b⟩ := k H locs ls' h' hP hS T hT Y
  refine ⟨t, ?_, b⟩
  jvm_step Y.here [Y.here.top, ↓top_set Y.here.top, X.1, X.2.1, hd, e']
  exact a
theorem g_astore_n (X : CX p l e R s mt args below meth c cN sN G cy ad tt own cc nL D) {pc : Nat} {L : List (Option Value)} {st : List Value} {m : Mem} {i : Fin 4} {x : Nat} {L' : List (Option Value)} (hd : decode cc pc = .ok (.astore_n i, 1)) (hi : (i : Nat) < nL) (ho : okS L (i : Nat) = true) (hs : L.set (i : Nat) (some (.ref x)) = L') (k : GO G cy ad p l e R s mt args below meth c nL cN sN Q (pc + 1) L' st m) : GO G cy ad p l e R s mt args below meth c nL cN sN Q pc L (.ref x :: st) m := by
  subst hs
  intro H locs ls hL hP hS
  obtain ⟨ls', e', h'⟩ := LH_store (v := .ref x) hL hi rfl ho
  intro T hT Y
  obtain ⟨t, a, b⟩ := k H locs ls' h' hP hS T hT Y
  refine ⟨t, ?_, b⟩
  jvm_step Y.here [Y.here.top, ↓top_set Y.here.top, X.1, X.2.1, hd, e']
  exact ⟨rfl, a⟩
theorem g_lstore (X : CX p l e R s mt args below meth c cN sN G cy ad tt own cc nL D) {pc : Nat} {L : List (Option Value)} {st : List Value} {m : Mem} {i : Nat} {x : Int} {L' : List (Option Value)} (hd : decode cc pc = .ok (.lstore i, 2)) (hi : i + 1 < nL) (ho : okS L i = true) (hs : (L.set i (some (jv x))).set (i + 1) none = L') (k : GO G cy ad p l e R s mt args below meth c nL cN sN Q (pc + 2) L' st m) : GO G cy ad p l e R s mt args below meth c nL cN sN Q pc L (jv x :: st) m := by
  subst hs
  intro H locs ls hL hP hS
  obtain ⟨ls', e', h'⟩ := LH_store2 (v := jv x) hL hi rfl ho
  unfold jv at e'
  change W p l e R s mt args below meth c H locs cN sN Q (F0 mt pc ls (Value.long (Int64.ofInt x) :: st))
  intro T hT Y
  obtain ⟨t, a, b⟩ := k H locs ls' h' hP hS T hT Y
  refine ⟨t, ?_, b⟩
  jvm_step Y.here [Y.here.top, ↓top_set Y.here.top, X.1, X.2.1, hd, e']
  exact a
theorem g_iinc (X : CX p l e R s mt args below meth c cN sN G cy ad tt own cc nL D) {pc : Nat} {L : List (Option Value)} {st : List Value} {m : Mem} {i : Nat} {n x : Int} {L' : List (Option Value)} (hd : decode cc pc = .ok (.iinc i n, 3)) (hx : L[i]? = some (some (iv x))) (hi : i < nL) (ho : okS L i = true) (hs : L.set i (some (iv (w32 (x + n)))) = L') (k : GO G cy ad p l e R s mt args below meth c nL cN sN Q (pc + 3) L' st m) : GO G cy ad p l e R s mt args below meth c nL cN sN Q pc L st m := by
  subst hs
  intro H locs ls hL hP hS
  obtain ⟨ls', e', h'⟩ := LH_store (v := iv (w32 (x + n))) hL hi rfl ho
  rw [show iv (w32 (x + n)) = Value.int (Int32.ofInt x + Int32.ofInt n) by unfold iv; rw [oi_w, Int32.ofInt_add]] at e'
  have hl := LH_at hL hx
  unfold iv at hl
  intro T hT Y
  obtain ⟨t, a, b⟩ := k H locs ls' h' hP hS T hT Y
  refine ⟨t, ?_, b⟩
  jvm_step Y.here [Y.here.top, ↓top_set Y.here.top, X.1, X.2.1, hd, hl, e']
  exact a
theorem g_dup (X : CX p l e R s mt args below meth c cN sN G cy ad tt own cc nL D) {pc : Nat} {L : List (Option Value)} {st : List Value} {m : Mem} {v : Value} (hd : decode cc pc = .ok (.dup, 1)) (hv : v.category = 1) (k : GO G cy ad p l e R s mt args below meth c nL cN sN Q (pc + 1) L (v :: v :: st) m) : GO G cy ad p l e R s mt args below meth c nL cN sN Q pc L (v :: st) m := by
  intro H locs ls hL hP hS
  refine lv_dup X.1 X.2.1 hd hv ?_
  exact k H locs ls hL hP hS
theorem g_dup2 (X : CX p l e R s mt args below meth c cN sN G cy ad tt own cc nL D) {pc : Nat} {L : List (Option Value)} {st : List Value} {m : Mem} {v w : Value} (hd : decode cc pc = .ok (.dup2, 1)) (hv : v.category = 1) (hw : w.category = 1) (k : GO G cy ad p l e R s mt args below meth c nL cN sN Q (pc + 1) L (v :: w :: v :: w :: st) m) : GO G cy ad p l e R s mt args below meth c nL cN sN Q pc L (v :: w :: st) m := by
  intro H locs ls hL hP hS
  refine lv_dup2_11 X.1 X.2.1 hd hv hw ?_
  exact k H locs ls hL hP hS
theorem g_pop (X : CX p l e R s mt args below meth c cN sN G cy ad tt own cc nL D) {pc : Nat} {L : List (Option Value)} {st : List Value} {m : Mem} {v : Value} (hd : decode cc pc = .ok (.pop, 1)) (hv : v.category = 1) (k : GO G cy ad p l e R s mt args below meth c nL cN sN Q (pc + 1) L st m) : GO G cy ad p l e R s mt args below meth c nL cN sN Q pc L (v :: st) m := by
  intro H locs ls hL hP hS
  refine lv_pop X.1 X.2.1 hd hv ?_
  exact k H locs ls hL hP hS
theorem g_iadd (X : CX p l e R s mt args below meth c cN sN G cy ad tt own cc nL D) {pc : Nat} {L : List (Option Value)} {st : List Value} {m : Mem} {a b : Int} (hd : decode cc pc = .ok (.iadd, 1)) (k : GO G cy ad p l e R s mt args below meth c nL cN sN Q (pc + 1) L (iv (w32 (a + b)) :: st) m) : GO G cy ad p l e R s mt args below meth c nL cN sN Q pc L (iv b :: iv a :: st) m := by
  intro H locs ls hL hP hS
  refine lv_iadd X.1 X.2.1 hd ?_
  have k := k H locs ls hL hP hS
  unfold iv at k
  rw [oi_w, Int32.ofInt_add] at k
  exact k
theorem g_isub (X : CX p l e R s mt args below meth c cN sN G cy ad tt own cc nL D) {pc : Nat} {L : List (Option Value)} {st : List Value} {m : Mem} {a b : Int} (hd : decode cc pc = .ok (.isub, 1)) (k : GO G cy ad p l e R s mt args below meth c nL cN sN Q (pc + 1) L (iv (w32 (a - b)) :: st) m) : GO G cy ad p l e R s mt args below meth c nL cN sN Q pc L (iv b :: iv a :: st) m := by
  intro H locs ls hL hP hS
  refine lv_isub X.1 X.2.1 hd ?_
  have k := k H locs ls hL hP hS
  unfold iv at k
  rw [oi_w, Int32.ofInt_sub] at k
  exact k
theorem g_imul (X : CX p l e R s mt args below meth c cN sN G cy ad tt own cc nL D) {pc : Nat} {L : List (Option Value)} {st : List Value} {m : Mem} {a b : Int} (hd : decode cc pc = .ok (.imul, 1)) (k : GO G cy ad p l e R s mt args below meth c nL cN sN Q (pc + 1) L (iv (w32 (a * b)) :: st) m) : GO G cy ad p l e R s mt args below meth c nL cN sN Q pc L (iv b :: iv a :: st) m := by
  intro H locs ls hL hP hS
  refine lv_imul X.1 X.2.1 hd ?_
  have k := k H locs ls hL hP hS
  unfold iv at k
  rw [oi_w, Int32.ofInt_mul] at k
  exact k
theorem g_ineg (X : CX p l e R s mt args below meth c cN sN G cy ad tt own cc nL D) {pc : Nat} {L : List (Option Value)} {st : List Value} {m : Mem} {a : Int} (hd : decode cc pc = .ok (.ineg, 1)) (k : GO G cy ad p l e R s mt args below meth c nL cN sN Q (pc + 1) L (iv (w32 (-a)) :: st) m) : GO G cy ad p l e R s mt args below meth c nL cN sN Q pc L (iv a :: st) m := by
  intro H locs ls hL hP hS
  refine lv_ineg X.1 X.2.1 hd ?_
  have k := k H locs ls hL hP hS
  unfold iv at k
  rw [oi_w, Int32.ofInt_neg] at k
  exact k
theorem g_iand (X : CX p l e R s mt args below meth c cN sN G cy ad tt own cc nL D) {pc : Nat} {L : List (Option Value)} {st : List Value} {m : Mem} {a b : Int} (hd : decode cc pc = .ok (.iand, 1)) (k : GO G cy ad p l e R s mt args below meth c nL cN sN Q (pc + 1) L (iv (band a b) :: st) m) : GO G cy ad p l e R s mt args below meth c nL cN sN Q pc L (iv b :: iv a :: st) m := by
  intro H locs ls hL hP hS
  refine lv_iand X.1 X.2.1 hd ?_
  have k := k H locs ls hL hP hS
  unfold iv band at k
  rw [Int32.ofInt_toInt] at k
  exact k
theorem g_ior (X : CX p l e R s mt args below meth c cN sN G cy ad tt own cc nL D) {pc : Nat} {L : List (Option Value)} {st : List Value} {m : Mem} {a b : Int} (hd : decode cc pc = .ok (.ior, 1)) (k : GO G cy ad p l e R s mt args below meth c nL cN sN Q (pc + 1) L (iv (bor a b) :: st) m) : GO G cy ad p l e R s mt args below meth c nL cN sN Q pc L (iv b :: iv a :: st) m := by
  intro H locs ls hL hP hS
  refine lv_ior X.1 X.2.1 hd ?_
  have k := k H locs ls hL hP hS
  unfold iv bor at k
  rw [Int32.ofInt_toInt] at k
  exact k
theorem g_ixor (X : CX p l e R s mt args below meth c cN sN G cy ad tt own cc nL D) {pc : Nat} {L : List (Option Value)} {st : List Value} {m : Mem} {a b : Int} (hd : decode cc pc = .ok (.ixor, 1)) (k : GO G cy ad p l e R s mt args below meth c nL cN sN Q (pc + 1) L (iv (bxor a b) :: st) m) : GO G cy ad p l e R s mt args below meth c nL cN sN Q pc L (iv b :: iv a :: st) m := by
  intro H locs ls hL hP hS
  refine lv_ixor X.1 X.2.1 hd ?_
  have k := k H locs ls hL hP hS
  unfold iv bxor at k
  rw [Int32.ofInt_toInt] at k
  exact k
theorem g_ishl (X : CX p l e R s mt args below meth c cN sN G cy ad tt own cc nL D) {pc : Nat} {L : List (Option Value)} {st : List Value} {m : Mem} {a b : Int} (hd : decode cc pc = .ok (.ishl, 1)) (k : GO G cy ad p l e R s mt args below meth c nL cN sN Q (pc + 1) L (iv (shl a b) :: st) m) : GO G cy ad p l e R s mt args below meth c nL cN sN Q pc L (iv b :: iv a :: st) m := by
  intro H locs ls hL hP hS
  refine lv_ishl X.1 X.2.1 hd ?_
  have k := k H locs ls hL hP hS
  unfold iv shl at k
  rw [Int32.ofInt_toInt] at k
  exact k
theorem g_ishr (X : CX p l e R s mt args below meth c cN sN G cy ad tt own cc nL D) {pc : Nat} {L : List (Option Value)} {st : List Value} {m : Mem} {a b : Int} (hd : decode cc pc = .ok (.ishr, 1)) (k : GO G cy ad p l e R s mt args below meth c nL cN sN Q (pc + 1) L (iv (shr a b) :: st) m) : GO G cy ad p l e R s mt args below meth c nL cN sN Q pc L (iv b :: iv a :: st) m := by
  intro H locs ls hL hP hS
  refine lv_ishr X.1 X.2.1 hd ?_
  have k := k H locs ls hL hP hS
  unfold iv shr at k
  rw [Int32.ofInt_toInt] at k
  exact k
theorem g_iushr (X : CX p l e R s mt args below meth c cN sN G cy ad tt own cc nL D) {pc : Nat} {L : List (Option Value)} {st : List Value} {m : Mem} {a b : Int} (hd : decode cc pc = .ok (.iushr, 1)) (k : GO G cy ad p l e R s mt args below meth c nL cN sN Q (pc + 1) L (iv (ush a b) :: st) m) : GO G cy ad p l e R s mt args below meth c nL cN sN Q pc L (iv b :: iv a :: st) m := by
  intro H locs ls hL hP hS
  refine lv_iushr X.1 X.2.1 hd rfl ?_
  have k := k H locs ls hL hP hS
  unfold iv ush at k
  rw [Int32.ofInt_toInt] at k
  exact k
theorem g_idiv (X : CX p l e R s mt args below meth c cN sN G cy ad tt own cc nL D) {pc : Nat} {L : List (Option Value)} {st : List Value} {m : Mem} {a b : Int} (hd : decode cc pc = .ok (.idiv, 1)) (hb : b ≠ 0) (hr : inR b) (k : GO G cy ad p l e R s mt args below meth c nL cN sN Q (pc + 1) L (iv (idv a b) :: st) m) : GO G cy ad p l e R s mt args below meth c nL cN sN Q pc L (iv b :: iv a :: st) m := by
  intro H locs ls hL hP hS
  refine lv_idiv X.1 X.2.1 hd (fun h => hb ((oi_inj hr (rg_c rfl)).mp (h.trans oi_0.symm))) ?_
  have k := k H locs ls hL hP hS
  unfold iv idv at k
  rw [Int32.ofInt_toInt] at k
  exact k
theorem g_irem (X : CX p l e R s mt args below meth c cN sN G cy ad tt own cc nL D) {pc : Nat} {L : List (Option Value)} {st : List Value} {m : Mem} {a b : Int} (hd : decode cc pc = .ok (.irem, 1)) (hb : b ≠ 0) (hr : inR b) (k : GO G cy ad p l e R s mt args below meth c nL cN sN Q (pc + 1) L (iv (irm a b) :: st) m) : GO G cy ad p l e R s mt args below meth c nL cN sN Q pc L (iv b :: iv a :: st) m := by
  intro H locs ls hL hP hS
  refine lv_irem X.1 X.2.1 hd (fun h => hb ((oi_inj hr (rg_c rfl)).mp (h.trans oi_0.symm))) ?_
  have k := k H locs ls hL hP hS
  unfold iv irm at k
  rw [Int32.ofInt_toInt] at k
  exact k
theorem g_i2b (X : CX p l e R s mt args below meth c cN sN G cy ad tt own cc nL D) {pc : Nat} {L : List (Option Value)} {st : List Value} {m : Mem} {a : Int} (hd : decode cc pc = .ok (.i2b, 1)) (k : GO G cy ad p l e R s mt args below meth c nL cN sN Q (pc + 1) L (iv (i8 a) :: st) m) : GO G cy ad p l e R s mt args below meth c nL cN sN Q pc L (iv a :: st) m := by
  intro H locs ls hL hP hS
  refine lv_i2b X.1 X.2.1 hd rfl ?_
  have k := k H locs ls hL hP hS
  unfold iv i8 at k
  rw [Int32.ofInt_toInt] at k
  exact k
theorem g_i2s (X : CX p l e R s mt args below meth c cN sN G cy ad tt own cc nL D) {pc : Nat} {L : List (Option Value)} {st : List Value} {m : Mem} {a : Int} (hd : decode cc pc = .ok (.i2s, 1)) (k : GO G cy ad p l e R s mt args below meth c nL cN sN Q (pc + 1) L (iv (i16 a) :: st) m) : GO G cy ad p l e R s mt args below meth c nL cN sN Q pc L (iv a :: st) m := by
  intro H locs ls hL hP hS
  refine lv_i2s X.1 X.2.1 hd rfl ?_
  have k := k H locs ls hL hP hS
  unfold iv i16 at k
  rw [Int32.ofInt_toInt] at k
  exact k
theorem g_i2l (X : CX p l e R s mt args below meth c cN sN G cy ad tt own cc nL D) {pc : Nat} {L : List (Option Value)} {st : List Value} {m : Mem} {a : Int} (hd : decode cc pc = .ok (.i2l, 1)) (hr : inR a) (k : GO G cy ad p l e R s mt args below meth c nL cN sN Q (pc + 1) L (jv a :: st) m) : GO G cy ad p l e R s mt args below meth c nL cN sN Q pc L (iv a :: st) m := by
  intro H locs ls hL hP hS
  refine lv_i2l X.1 X.2.1 hd (show (Int32.ofInt a).toInt64 = Int64.ofInt a by rw [← Int64.ofInt_int32ToInt, oi_ti hr]) ?_
  have k := k H locs ls hL hP hS
  exact k
theorem g_l2i (X : CX p l e R s mt args below meth c cN sN G cy ad tt own cc nL D) {pc : Nat} {L : List (Option Value)} {st : List Value} {m : Mem} {a : Int} (hd : decode cc pc = .ok (.l2i, 1)) (k : GO G cy ad p l e R s mt args below meth c nL cN sN Q (pc + 1) L (iv (w32 a) :: st) m) : GO G cy ad p l e R s mt args below meth c nL cN sN Q pc L (jv a :: st) m := by
  intro H locs ls hL hP hS
  refine lv_l2i X.1 X.2.1 hd Int64.toInt32_ofInt ?_
  have k := k H locs ls hL hP hS
  unfold iv at k
  rw [oi_w] at k
  exact k
theorem g_ladd (X : CX p l e R s mt args below meth c cN sN G cy ad tt own cc nL D) {pc : Nat} {L : List (Option Value)} {st : List Value} {m : Mem} {a b : Int} (hd : decode cc pc = .ok (.ladd, 1)) (k : GO G cy ad p l e R s mt args below meth c nL cN sN Q (pc + 1) L (jv (w64 (a + b)) :: st) m) : GO G cy ad p l e R s mt args below meth c nL cN sN Q pc L (jv b :: jv a :: st) m := by
  intro H locs ls hL hP hS
  refine lv_ladd X.1 X.2.1 hd ?_
  have k := k H locs ls hL hP hS
  unfold jv at k
  rw [ol_w, Int64.ofInt_add] at k
  exact k
theorem g_land (X : CX p l e R s mt args below meth c cN sN G cy ad tt own cc nL D) {pc : Nat} {L : List (Option Value)} {st : List Value} {m : Mem} {a b : Int} (hd : decode cc pc = .ok (.land, 1)) (k : GO G cy ad p l e R s mt args below meth c nL cN sN Q (pc + 1) L (jv (lnd a b) :: st) m) : GO G cy ad p l e R s mt args below meth c nL cN sN Q pc L (jv b :: jv a :: st) m := by
  intro H locs ls hL hP hS
  refine lv_land X.1 X.2.1 hd ?_
  have k := k H locs ls hL hP hS
  unfold jv lnd at k
  rw [Int64.ofInt_toInt] at k
  exact k
theorem g_lor (X : CX p l e R s mt args below meth c cN sN G cy ad tt own cc nL D) {pc : Nat} {L : List (Option Value)} {st : List Value} {m : Mem} {a b : Int} (hd : decode cc pc = .ok (.lor, 1)) (k : GO G cy ad p l e R s mt args below meth c nL cN sN Q (pc + 1) L (jv (lro a b) :: st) m) : GO G cy ad p l e R s mt args below meth c nL cN sN Q pc L (jv b :: jv a :: st) m := by
  intro H locs ls hL hP hS
  refine lv_lor X.1 X.2.1 hd ?_
  have k := k H locs ls hL hP hS
  unfold jv lro at k
  rw [Int64.ofInt_toInt] at k
  exact k
theorem g_lshl (X : CX p l e R s mt args below meth c cN sN G cy ad tt own cc nL D) {pc : Nat} {L : List (Option Value)} {st : List Value} {m : Mem} {a b : Int} (hd : decode cc pc = .ok (.lshl, 1)) (k : GO G cy ad p l e R s mt args below meth c nL cN sN Q (pc + 1) L (jv (lsl a b) :: st) m) : GO G cy ad p l e R s mt args below meth c nL cN sN Q pc L (iv b :: jv a :: st) m := by
  intro H locs ls hL hP hS
  refine lv_lshl X.1 X.2.1 hd rfl ?_
  have k := k H locs ls hL hP hS
  unfold jv lsl at k
  rw [Int64.ofInt_toInt] at k
  exact k
theorem g_lcmp (X : CX p l e R s mt args below meth c cN sN G cy ad tt own cc nL D) {pc : Nat} {L : List (Option Value)} {st : List Value} {m : Mem} {a b : Int} (hd : decode cc pc = .ok (.lcmp, 1)) (ha : inL a) (hb : inL b) (k : GO G cy ad p l e R s mt args below meth c nL cN sN Q (pc + 1) L (iv (lcm' a b) :: st) m) : GO G cy ad p l e R s mt args below meth c nL cN sN Q pc L (jv b :: jv a :: st) m := by
  intro H locs ls hL hP hS
  refine W.lcmp X.1 X.2.1 hd ?_
  have k := k H locs ls hL hP hS
  rw [show lg_cmp (Int64.ofInt a) (Int64.ofInt b) = Int32.ofInt (lcm' a b) by
    unfold lg_cmp lcm'
    have h1 : (Int64.ofInt a > Int64.ofInt b) ↔ b < a := by rw [gt_iff_lt, Int64.lt_iff_toInt_lt, ol_tl ha, ol_tl hb]
    have h2 : (Int64.ofInt a = Int64.ofInt b) ↔ a = b := by rw [← Int64.toInt_inj, ol_tl ha, ol_tl hb]
    by_cases c1 : b < a
    · rw [if_pos (h1.mpr c1), if_neg (by omega), if_neg (by omega)]; rfl
    · rw [if_neg (fun q => c1 (h1.mp q))]
      by_cases c2 : a = b
      · rw [if_pos (h2.mpr c2), if_neg (by omega), if_pos c2]; rfl
      · rw [if_neg (fun q => c2 (h2.mp q)), if_pos (by omega)]; rfl]
  exact k
theorem g_icmp_eq (X : CX p l e R s mt args below meth c cN sN G cy ad tt own cc nL D) {pc : Nat} {L : List (Option Value)} {st : List Value} {m : Mem} {a b off : Int} {tgt : Nat} (hd : decode cc pc = .ok (.if_icmp .eq off, 3)) (ht : (pc : Int) + off = (tgt : Int)) (ha : inR a) (hb : inR b) (kt : a = b → GO G cy ad p l e R s mt args below meth c nL cN sN Q tgt L st m) (kf : ¬ (a = b) → GO G cy ad p l e R s mt args below meth c nL cN sN Q (pc + 3) L st m) : GO G cy ad p l e R s mt args below meth c nL cN sN Q pc L (iv b :: iv a :: st) m := by
  intro H locs ls hL hP hS
  exact lv_icmp_eq X.1 X.2.1 hd ht (fun h => kt ((oi_inj ha hb).mp h) H locs ls hL hP hS) (fun h => kf (fun q => h ((oi_inj ha hb).mpr q)) H locs ls hL hP hS)
theorem g_if_eq (X : CX p l e R s mt args below meth c cN sN G cy ad tt own cc nL D) {pc : Nat} {L : List (Option Value)} {st : List Value} {m : Mem} {a off : Int} {tgt : Nat} (hd : decode cc pc = .ok (.ifCond .eq off, 3)) (ht : (pc : Int) + off = (tgt : Int)) (ha : inR a) (kt : a = 0 → GO G cy ad p l e R s mt args below meth c nL cN sN Q tgt L st m) (kf : ¬ (a = 0) → GO G cy ad p l e R s mt args below meth c nL cN sN Q (pc + 3) L st m) : GO G cy ad p l e R s mt args below meth c nL cN sN Q pc L (iv a :: st) m := by
  intro H locs ls hL hP hS
  have hb : inR 0 := rg_c rfl
  exact lv_if_eq X.1 X.2.1 hd ht (fun h => kt ((oi_inj ha hb).mp (h.trans oi_0.symm)) H locs ls hL hP hS) (fun h => kf (fun q => h (((oi_inj ha hb).mpr q).trans oi_0)) H locs ls hL hP hS)
theorem g_icmp_ne (X : CX p l e R s mt args below meth c cN sN G cy ad tt own cc nL D) {pc : Nat} {L : List (Option Value)} {st : List Value} {m : Mem} {a b off : Int} {tgt : Nat} (hd : decode cc pc = .ok (.if_icmp .ne off, 3)) (ht : (pc : Int) + off = (tgt : Int)) (ha : inR a) (hb : inR b) (kt : a ≠ b → GO G cy ad p l e R s mt args below meth c nL cN sN Q tgt L st m) (kf : ¬ (a ≠ b) → GO G cy ad p l e R s mt args below meth c nL cN sN Q (pc + 3) L st m) : GO G cy ad p l e R s mt args below meth c nL cN sN Q pc L (iv b :: iv a :: st) m := by
  intro H locs ls hL hP hS
  exact lv_icmp_ne X.1 X.2.1 hd ht (fun h => kt (fun q => h ((oi_inj ha hb).mpr q)) H locs ls hL hP hS) (fun h => kf (fun q => q ((oi_inj ha hb).mp h)) H locs ls hL hP hS)
theorem g_if_ne (X : CX p l e R s mt args below meth c cN sN G cy ad tt own cc nL D) {pc : Nat} {L : List (Option Value)} {st : List Value} {m : Mem} {a off : Int} {tgt : Nat} (hd : decode cc pc = .ok (.ifCond .ne off, 3)) (ht : (pc : Int) + off = (tgt : Int)) (ha : inR a) (kt : a ≠ 0 → GO G cy ad p l e R s mt args below meth c nL cN sN Q tgt L st m) (kf : ¬ (a ≠ 0) → GO G cy ad p l e R s mt args below meth c nL cN sN Q (pc + 3) L st m) : GO G cy ad p l e R s mt args below meth c nL cN sN Q pc L (iv a :: st) m := by
  intro H locs ls hL hP hS
  have hb : inR 0 := rg_c rfl
  exact lv_if_ne X.1 X.2.1 hd ht (fun h => kt (fun q => h (((oi_inj ha hb).mpr q).trans oi_0)) H locs ls hL hP hS) (fun h => kf (fun q => q ((oi_inj ha hb).mp (h.trans oi_0.symm))) H locs ls hL hP hS)
theorem g_icmp_lt (X : CX p l e R s mt args below meth c cN sN G cy ad tt own cc nL D) {pc : Nat} {L : List (Option Value)} {st : List Value} {m : Mem} {a b off : Int} {tgt : Nat} (hd : decode cc pc = .ok (.if_icmp .lt off, 3)) (ht : (pc : Int) + off = (tgt : Int)) (ha : inR a) (hb : inR b) (kt : a < b → GO G cy ad p l e R s mt args below meth c nL cN sN Q tgt L st m) (kf : ¬ (a < b) → GO G cy ad p l e R s mt args below meth c nL cN sN Q (pc + 3) L st m) : GO G cy ad p l e R s mt args below meth c nL cN sN Q pc L (iv b :: iv a :: st) m := by
  intro H locs ls hL hP hS
  exact lv_icmp_lt X.1 X.2.1 hd ht (fun h => kt ((oi_lt ha hb).mp h) H locs ls hL hP hS) (fun h => kf (fun q => h ((oi_lt ha hb).mpr q)) H locs ls hL hP hS)
theorem g_if_lt (X : CX p l e R s mt args below meth c cN sN G cy ad tt own cc nL D) {pc : Nat} {L : List (Option Value)} {st : List Value} {m : Mem} {a off : Int} {tgt : Nat} (hd : decode cc pc = .ok (.ifCond .lt off, 3)) (ht : (pc : Int) + off = (tgt : Int)) (ha : inR a) (kt : a < 0 → GO G cy ad p l e R s mt args below meth c nL cN sN Q tgt L st m) (kf : ¬ (a < 0) → GO G cy ad p l e R s mt args below meth c nL cN sN Q (pc + 3) L st m) : GO G cy ad p l e R s mt args below meth c nL cN sN Q pc L (iv a :: st) m := by
  intro H locs ls hL hP hS
  have hb : inR 0 := rg_c rfl
  exact lv_if_lt X.1 X.2.1 hd ht (fun h => kt ((oi_lt ha hb).mp h) H locs ls hL hP hS) (fun h => kf (fun q => h ((oi_lt ha hb).mpr q)) H locs ls hL hP hS)
theorem g_icmp_ge (X : CX p l e R s mt args below meth c cN sN G cy ad tt own cc nL D) {pc : Nat} {L : List (Option Value)} {st : List Value} {m : Mem} {a b off : Int} {tgt : Nat} (hd : decode cc pc = .ok (.if_icmp .ge off, 3)) (ht : (pc : Int) + off = (tgt : Int)) (ha : inR a) (hb : inR b) (kt : b ≤ a → GO G cy ad p l e R s mt args below meth c nL cN sN Q tgt L st m) (kf : ¬ (b ≤ a) → GO G cy ad p l e R s mt args below meth c nL cN sN Q (pc + 3) L st m) : GO G cy ad p l e R s mt args below meth c nL cN sN Q pc L (iv b :: iv a :: st) m := by
  intro H locs ls hL hP hS
  exact lv_icmp_ge X.1 X.2.1 hd ht (fun h => kt ((oi_le hb ha).mp h) H locs ls hL hP hS) (fun h => kf (fun q => h ((oi_le hb ha).mpr q)) H locs ls hL hP hS)
theorem g_if_ge (X : CX p l e R s mt args below meth c cN sN G cy ad tt own cc nL D) {pc : Nat} {L : List (Option Value)} {st : List Value} {m : Mem} {a off : Int} {tgt : Nat} (hd : decode cc pc = .ok (.ifCond .ge off, 3)) (ht : (pc : Int) + off = (tgt : Int)) (ha : inR a) (kt : 0 ≤ a → GO G cy ad p l e R s mt args below meth c nL cN sN Q tgt L st m) (kf : ¬ (0 ≤ a) → GO G cy ad p l e R s mt args below meth c nL cN sN Q (pc + 3) L st m) : GO G cy ad p l e R s mt args below meth c nL cN sN Q pc L (iv a :: st) m := by
  intro H locs ls hL hP hS
  have hb : inR 0 := rg_c rfl
  exact lv_if_ge X.1 X.2.1 hd ht (fun h => kt ((oi_le hb ha).mp h) H locs ls hL hP hS) (fun h => kf (fun q => h ((oi_le hb ha).mpr q)) H locs ls hL hP hS)
theorem g_icmp_gt (X : CX p l e R s mt args below meth c cN sN G cy ad tt own cc nL D) {pc : Nat} {L : List (Option Value)} {st : List Value} {m : Mem} {a b off : Int} {tgt : Nat} (hd : decode cc pc = .ok (.if_icmp .gt off, 3)) (ht : (pc : Int) + off = (tgt : Int)) (ha : inR a) (hb : inR b) (kt : b < a → GO G cy ad p l e R s mt args below meth c nL cN sN Q tgt L st m) (kf : ¬ (b < a) → GO G cy ad p l e R s mt args below meth c nL cN sN Q (pc + 3) L st m) : GO G cy ad p l e R s mt args below meth c nL cN sN Q pc L (iv b :: iv a :: st) m := by
  intro H locs ls hL hP hS
  exact lv_icmp_gt X.1 X.2.1 hd ht (fun h => kt ((oi_lt hb ha).mp h) H locs ls hL hP hS) (fun h => kf (fun q => h ((oi_lt hb ha).mpr q)) H locs ls hL hP hS)
theorem g_if_gt (X : CX p l e R s mt args below meth c cN sN G cy ad tt own cc nL D) {pc : Nat} {L : List (Option Value)} {st : List Value} {m : Mem} {a off : Int} {tgt : Nat} (hd : decode cc pc = .ok (.ifCond .gt off, 3)) (ht : (pc : Int) + off = (tgt : Int)) (ha : inR a) (kt : 0 < a → GO G cy ad p l e R s mt args below meth c nL cN sN Q tgt L st m) (kf : ¬ (0 < a) → GO G cy ad p l e R s mt args below meth c nL cN sN Q (pc + 3) L st m) : GO G cy ad p l e R s mt args below meth c nL cN sN Q pc L (iv a :: st) m := by
  intro H locs ls hL hP hS
  have hb : inR 0 := rg_c rfl
  exact lv_if_gt X.1 X.2.1 hd ht (fun h => kt ((oi_lt hb ha).mp h) H locs ls hL hP hS) (fun h => kf (fun q => h ((oi_lt hb ha).mpr q)) H locs ls hL hP hS)
theorem g_icmp_le (X : CX p l e R s mt args below meth c cN sN G cy ad tt own cc nL D) {pc : Nat} {L : List (Option Value)} {st : List Value} {m : Mem} {a b off : Int} {tgt : Nat} (hd : decode cc pc = .ok (.if_icmp .le off, 3)) (ht : (pc : Int) + off = (tgt : Int)) (ha : inR a) (hb : inR b) (kt : a ≤ b → GO G cy ad p l e R s mt args below meth c nL cN sN Q tgt L st m) (kf : ¬ (a ≤ b) → GO G cy ad p l e R s mt args below meth c nL cN sN Q (pc + 3) L st m) : GO G cy ad p l e R s mt args below meth c nL cN sN Q pc L (iv b :: iv a :: st) m := by
  intro H locs ls hL hP hS
  exact lv_icmp_le X.1 X.2.1 hd ht (fun h => kt ((oi_le ha hb).mp h) H locs ls hL hP hS) (fun h => kf (fun q => h ((oi_le ha hb).mpr q)) H locs ls hL hP hS)
theorem g_if_le (X : CX p l e R s mt args below meth c cN sN G cy ad tt own cc nL D) {pc : Nat} {L : List (Option Value)} {st : List Value} {m : Mem} {a off : Int} {tgt : Nat} (hd : decode cc pc = .ok (.ifCond .le off, 3)) (ht : (pc : Int) + off = (tgt : Int)) (ha : inR a) (kt : a ≤ 0 → GO G cy ad p l e R s mt args below meth c nL cN sN Q tgt L st m) (kf : ¬ (a ≤ 0) → GO G cy ad p l e R s mt args below meth c nL cN sN Q (pc + 3) L st m) : GO G cy ad p l e R s mt args below meth c nL cN sN Q pc L (iv a :: st) m := by
  intro H locs ls hL hP hS
  have hb : inR 0 := rg_c rfl
  exact lv_if_le X.1 X.2.1 hd ht (fun h => kt ((oi_le ha hb).mp h) H locs ls hL hP hS) (fun h => kf (fun q => h ((oi_le ha hb).mpr q)) H locs ls hL hP hS)
theorem g_goto (X : CX p l e R s mt args below meth c cN sN G cy ad tt own cc nL D) {pc : Nat} {L : List (Option Value)} {st : List Value} {m : Mem} {off : Int} {tgt : Nat} (hd : decode cc pc = .ok (.goto off, 3)) (ht : (pc : Int) + off = (tgt : Int)) (k : GO G cy ad p l e R s mt args below meth c nL cN sN Q tgt L st m) : GO G cy ad p l e R s mt args below meth c nL cN sN Q pc L st m := by
  intro H locs ls hL hP hS
  exact lv_goto X.1 X.2.1 hd ht (k H locs ls hL hP hS)
theorem g_tabOut (X : CX p l e R s mt args below meth c cN sN G cy ad tt own cc nL D) {pc : Nat} {L : List (Option Value)} {st : List Value} {m : Mem} {a dflt lo hi : Int} {offs : Array Int} {len tgt : Nat} (hd : decode cc pc = .ok (.tableswitch dflt lo hi offs, len)) (ha : inR a) (hr : a < lo ∨ hi < a) (ht : (pc : Int) + dflt = (tgt : Int)) (k : GO G cy ad p l e R s mt args below meth c nL cN sN Q tgt L st m) : GO G cy ad p l e R s mt args below meth c nL cN sN Q pc L (iv a :: st) m := by
  intro H locs ls hL hP hS
  exact lv_tableOut X.1 X.2.1 hd (by rw [oi_ti ha]; exact hr) ht (k H locs ls hL hP hS)
theorem g_tabIn (X : CX p l e R s mt args below meth c cN sN G cy ad tt own cc nL D) {pc : Nat} {L : List (Option Value)} {st : List Value} {m : Mem} {a dflt lo hi off : Int} {offs : Array Int} {len tgt : Nat} (hd : decode cc pc = .ok (.tableswitch dflt lo hi offs, len)) (ha : inR a) (h1 : ¬ a < lo) (h2 : ¬ hi < a) (ho : offs[(a - lo).toNat]? = some off) (ht : (pc : Int) + off = (tgt : Int)) (k : GO G cy ad p l e R s mt args below meth c nL cN sN Q tgt L st m) : GO G cy ad p l e R s mt args below meth c nL cN sN Q pc L (iv a :: st) m := by
  intro H locs ls hL hP hS
  exact lv_tableIn X.1 X.2.1 hd (by rw [oi_ti ha]; exact h1) (by rw [oi_ti ha]; exact h2) (by rw [oi_ti ha]; exact ho) ht (k H locs ls hL hP hS)
theorem g_geti (X : CX p l e R s mt args below meth c cN sN G cy ad tt own cc nL D) {pc : Nat} {L : List (Option Value)} {st : List Value} {m : Mem} {k j ci idx : Nat} {fds : List (Option Nat)} {ty : FieldType} {fin : Bool} (hd : decode cc pc = .ok (.getfield idx, 3)) (fl : FL own idx ci j ty fin) (hk : tab[k]? = some (.inr (ci, fds))) (hf : fds[j]? = some none) (kk : GO G cy ad p l e R s mt args below meth c nL cN sN Q (pc + 3) L (iv (rd m k (j : Int)) :: st) m) : GO G cy ad p l e R s mt args below meth c nL cN sN Q pc L (.ref (ad k) :: st) m := by
  obtain ⟨C, T, N, hc, hjN, hw, hsame, -⟩ := fl
  intro H locs ls hL hP hS
  have kk := kk H locs ls hL hP hS
  rw [show iv (rd m k (j : Int)) = Value.int (Int32.ofInt (m k (j : Int))) by unfold iv rd; rw [oi_w]] at kk
  exact va_get X.1 X.2.1 X.2.2.2.2.1 (WS_u hc) X.2.2.2.1 X.2.2.2.2.2.1 hP k (wsM_at hk) hc j hjN (X.2.2.2.2.1 _ hw) (fun x h => by rw [← hsame]; exact h) (entF_i hf) hd kk
theorem g_getr (X : CX p l e R s mt args below meth c cN sN G cy ad tt own cc nL D) {pc : Nat} {L : List (Option Value)} {st : List Value} {m : Mem} {k j k2 ci idx : Nat} {fds : List (Option Nat)} {ty : FieldType} {fin : Bool} (hd : decode cc pc = .ok (.getfield idx, 3)) (fl : FL own idx ci j ty fin) (hk : tab[k]? = some (.inr (ci, fds))) (hf : fds[j]? = some (some k2)) (kk : GO G cy ad p l e R s mt args below meth c nL cN sN Q (pc + 3) L (.ref (ad k2) :: st) m) : GO G cy ad p l e R s mt args below meth c nL cN sN Q pc L (.ref (ad k) :: st) m := by
  obtain ⟨C, T, N, hc, hjN, hw, hsame, -⟩ := fl
  intro H locs ls hL hP hS
  exact va_get X.1 X.2.1 X.2.2.2.2.1 (WS_u hc) X.2.2.2.1 X.2.2.2.2.2.1 hP k (wsM_at hk) hc j hjN (X.2.2.2.2.1 _ hw) (fun x h => by rw [← hsame]; exact h) (entF_r hf) hd (kk H locs ls hL hP hS)
theorem g_puti (X : CX p l e R s mt args below meth c cN sN G cy ad tt own cc nL D) {pc : Nat} {L : List (Option Value)} {st : List Value} {m : Mem} {k j ci idx : Nat} {fds : List (Option Nat)} {ty : FieldType} {v : Int} (hd : decode cc pc = .ok (.putfield idx, 3)) (fl : FL own idx ci j ty false) (hk : tab[k]? = some (.inr (ci, fds))) (hf : fds[j]? = some none) (hn : narrow ty (iv v) = iv v) (hfit : fits ty (iv v) = true) (kk : GO G cy ad p l e R s mt args below meth c nL cN sN Q (pc + 3) L st (wr m k (j : Int) v)) : GO G cy ad p l e R s mt args below meth c nL cN sN Q pc L (iv v :: .ref (ad k) :: st) m := by
  obtain ⟨C, T, N, hc, hjN, hw, hsame, hty, hfin⟩ := fl
  intro H locs ls hL hP hS
  obtain ⟨ty0, h1, h2⟩ := cl_ok hc
  refine va_put X.1 X.2.1 X.2.2.2.2.1 (WS_u hc) ty0 h1 h2 X.2.2.2.1 X.2.2.2.2.2.1 hP (X.2.2.2.2.2.2.1 m) hS k (wsM_at hk) hc j hjN (X.2.2.2.2.1 _ hw) (fun x h => by rw [← hsame]; exact h) hfin hty hn hfit (by rw [entF_len]; exact (List.getElem?_eq_some_iff.mp hf).1) hd (fun H1 locs1 hP1 hD1 hS1 => ?_)
  rw [wsM_putf hk hf] at hP1
  exact kk H1 locs1 ls hL hP1 hS1
theorem g_iald (X : CX p l e R s mt args below meth c cN sN G cy ad tt own cc nL D) {pc : Nat} {L : List (Option Value)} {st : List Value} {m : Mem} {k n : Nat} {i : Int} (hd : decode cc pc = .ok (.iaload, 1)) (hk : tab[k]? = some (.inl (0, n))) (hi : 0 ≤ i ∧ i < (n : Int)) (hr : inR i) (kk : GO G cy ad p l e R s mt args below meth c nL cN sN Q (pc + 1) L (iv (rd m k i) :: st) m) : GO G cy ad p l e R s mt args below meth c nL cN sN Q pc L (iv i :: .ref (ad k) :: st) m := by
  intro H locs ls hL hP hS
  have kk := kk H locs ls hL hP hS
  rw [show iv (rd m k i) = Value.int (Int32.ofInt (m k (((Int32.ofInt i).toNatClampNeg : Nat) : Int))) by unfold iv rd; rw [oi_w, oi_cl hi.1 hr]] at kk
  exact va_iald X.1 X.2.1 X.2.2.2.2.2.1 hP k 0 (wsM_at hk) rfl (oi_in hi hr) hd kk
theorem g_bald (X : CX p l e R s mt args below meth c cN sN G cy ad tt own cc nL D) {pc : Nat} {L : List (Option Value)} {st : List Value} {m : Mem} {k n : Nat} {i : Int} (hd : decode cc pc = .ok (.baload, 1)) (hk : tab[k]? = some (.inl (2, n))) (hi : 0 ≤ i ∧ i < (n : Int)) (hr : inR i) (kk : GO G cy ad p l e R s mt args below meth c nL cN sN Q (pc + 1) L (iv (rd m k i) :: st) m) : GO G cy ad p l e R s mt args below meth c nL cN sN Q pc L (iv i :: .ref (ad k) :: st) m := by
  intro H locs ls hL hP hS
  have kk := kk H locs ls hL hP hS
  rw [show iv (rd m k i) = Value.int (Int32.ofInt (m k (((Int32.ofInt i).toNatClampNeg : Nat) : Int))) by unfold iv rd; rw [oi_w, oi_cl hi.1 hr]] at kk
  exact va_bald X.1 X.2.1 X.2.2.2.2.2.1 hP k 2 (wsM_at hk) rfl (oi_in hi hr) hd kk
theorem g_zald (X : CX p l e R s mt args below meth c cN sN G cy ad tt own cc nL D) {pc : Nat} {L : List (Option Value)} {st : List Value} {m : Mem} {k n : Nat} {i : Int} (hd : decode cc pc = .ok (.baload, 1)) (hk : tab[k]? = some (.inl (3, n))) (hi : 0 ≤ i ∧ i < (n : Int)) (hr : inR i) (kk : GO G cy ad p l e R s mt args below meth c nL cN sN Q (pc + 1) L (iv (rd m k i) :: st) m) : GO G cy ad p l e R s mt args below meth c nL cN sN Q pc L (iv i :: .ref (ad k) :: st) m := by
  intro H locs ls hL hP hS
  have kk := kk H locs ls hL hP hS
  rw [show iv (rd m k i) = Value.int (Int32.ofInt (m k (((Int32.ofInt i).toNatClampNeg : Nat) : Int))) by unfold iv rd; rw [oi_w, oi_cl hi.1 hr]] at kk
  exact va_zald X.1 X.2.1 X.2.2.2.2.2.1 hP k 3 (wsM_at hk) rfl (oi_in hi hr) hd kk
theorem g_lald (X : CX p l e R s mt args below meth c cN sN G cy ad tt own cc nL D) {pc : Nat} {L : List (Option Value)} {st : List Value} {m : Mem} {k n : Nat} {i : Int} (hd : decode cc pc = .ok (.laload, 1)) (hk : tab[k]? = some (.inl (1, n))) (hi : 0 ≤ i ∧ i < (n : Int)) (hr : inR i) (kk : GO G cy ad p l e R s mt args below meth c nL cN sN Q (pc + 1) L (jv (rl m k i) :: st) m) : GO G cy ad p l e R s mt args below meth c nL cN sN Q pc L (iv i :: .ref (ad k) :: st) m := by
  intro H locs ls hL hP hS
  have kk := kk H locs ls hL hP hS
  rw [show jv (rl m k i) = Value.long (Int64.ofInt (m k (((Int32.ofInt i).toNatClampNeg : Nat) : Int))) by unfold jv rl; rw [ol_w, oi_cl hi.1 hr]] at kk
  exact va_lald X.1 X.2.1 X.2.2.2.2.2.1 hP k 1 (wsM_at hk) rfl (oi_in hi hr) hd kk
theorem g_aald (X : CX p l e R s mt args below meth c cN sN G cy ad tt own cc nL D) {pc : Nat} {L : List (Option Value)} {st : List Value} {m : Mem} {k n : Nat} {i : Int} (hd : decode cc pc = .ok (.aaload, 1)) (hk : tab[k]? = some (.inl (4, n))) (hi : 0 ≤ i ∧ i < (n : Int)) (hr : inR i) (kk : GO G cy ad p l e R s mt args below meth c nL cN sN Q (pc + 1) L (.ref (ad (71 + 2 * i.toNat)) :: st) m) : GO G cy ad p l e R s mt args below meth c nL cN sN Q pc L (iv i :: .ref (ad k) :: st) m := by
  intro H locs ls hL hP hS
  have kk := kk H locs ls hL hP hS
  rw [show i.toNat = (Int32.ofInt i).toNatClampNeg by have := oi_cl hi.1 hr; omega] at kk
  exact va_aldq X.1 X.2.1 X.2.2.2.2.2.1 hP k 4 (wsM_at hk) rfl (oi_in hi hr) hd kk
theorem g_iast (X : CX p l e R s mt args below meth c cN sN G cy ad tt own cc nL D) {pc : Nat} {L : List (Option Value)} {st : List Value} {m : Mem} {k n : Nat} {i v : Int} (hd : decode cc pc = .ok (.iastore, 1)) (hk : tab[k]? = some (.inl (0, n))) (hi : 0 ≤ i ∧ i < (n : Int)) (hr : inR i) (kk : GO G cy ad p l e R s mt args below meth c nL cN sN Q (pc + 1) L st (wr m k i (v))) : GO G cy ad p l e R s mt args below meth c nL cN sN Q pc L (iv v :: iv i :: .ref (ad k) :: st) m := by
  intro H locs ls hL hP hS
  refine va_iast X.1 X.2.1 X.2.2.2.2.2.1 hP (X.2.2.2.2.2.2.1 m) hS k 0 (wsM_at hk) rfl (oi_in hi hr) hd (fun H1 locs1 hP1 hD1 hS1 => ?_)
  rw [wsM_put0 hk hi.1 hr] at hP1
  exact kk H1 locs1 ls hL hP1 hS1
theorem g_bast (X : CX p l e R s mt args below meth c cN sN G cy ad tt own cc nL D) {pc : Nat} {L : List (Option Value)} {st : List Value} {m : Mem} {k n : Nat} {i v : Int} (hd : decode cc pc = .ok (.bastore, 1)) (hk : tab[k]? = some (.inl (2, n))) (hi : 0 ≤ i ∧ i < (n : Int)) (hr : inR i) (kk : GO G cy ad p l e R s mt args below meth c nL cN sN Q (pc + 1) L st (wr m k i (i8 v))) : GO G cy ad p l e R s mt args below meth c nL cN sN Q pc L (iv v :: iv i :: .ref (ad k) :: st) m := by
  intro H locs ls hL hP hS
  refine va_bast X.1 X.2.1 X.2.2.2.2.2.1 hP (X.2.2.2.2.2.2.1 m) hS k 2 (wsM_at hk) rfl (oi_in hi hr) hd (fun H1 locs1 hP1 hD1 hS1 => ?_)
  rw [wsM_put2 hk hi.1 hr] at hP1
  exact kk H1 locs1 ls hL hP1 hS1
theorem g_zast (X : CX p l e R s mt args below meth c cN sN G cy ad tt own cc nL D) {pc : Nat} {L : List (Option Value)} {st : List Value} {m : Mem} {k n : Nat} {i v : Int} (hd : decode cc pc = .ok (.bastore, 1)) (hk : tab[k]? = some (.inl (3, n))) (hi : 0 ≤ i ∧ i < (n : Int)) (hr : inR i) (hz : inZ v) (kk : GO G cy ad p l e R s mt args below meth c nL cN sN Q (pc + 1) L st (wr m k i (v))) : GO G cy ad p l e R s mt args below meth c nL cN sN Q pc L (iv v :: iv i :: .ref (ad k) :: st) m := by
  intro H locs ls hL hP hS
  refine va_zast X.1 X.2.1 X.2.2.2.2.2.1 hP (X.2.2.2.2.2.2.1 m) hS k 3 (wsM_at hk) rfl (oi_in hi hr) hd (fun H1 locs1 hP1 hD1 hS1 => ?_)
  rw [wsM_put3 hk hi.1 hr hz] at hP1
  exact kk H1 locs1 ls hL hP1 hS1
theorem g_last (X : CX p l e R s mt args below meth c cN sN G cy ad tt own cc nL D) {pc : Nat} {L : List (Option Value)} {st : List Value} {m : Mem} {k n : Nat} {i v : Int} (hd : decode cc pc = .ok (.lastore, 1)) (hk : tab[k]? = some (.inl (1, n))) (hi : 0 ≤ i ∧ i < (n : Int)) (hr : inR i) (kk : GO G cy ad p l e R s mt args below meth c nL cN sN Q (pc + 1) L st (wr m k i v)) : GO G cy ad p l e R s mt args below meth c nL cN sN Q pc L (jv v :: iv i :: .ref (ad k) :: st) m := by
  intro H locs ls hL hP hS
  refine va_last X.1 X.2.1 X.2.2.2.2.2.1 hP (X.2.2.2.2.2.2.1 m) hS k 1 (wsM_at hk) rfl (oi_in hi hr) hd (fun H1 locs1 hP1 hD1 hS1 => ?_)
  rw [wsM_put1 hk hi.1 hr] at hP1
  exact kk H1 locs1 ls hL hP1 hS1
theorem g_alen (X : CX p l e R s mt args below meth c cN sN G cy ad tt own cc nL D) {pc : Nat} {L : List (Option Value)} {st : List Value} {m : Mem} {k n q : Nat} (hd : decode cc pc = .ok (.arraylength, 1)) (hk : tab[k]? = some (.inl (q, n))) (hq : q < 5) (kk : GO G cy ad p l e R s mt args below meth c nL cN sN Q (pc + 1) L (iv (n : Int) :: st) m) : GO G cy ad p l e R s mt args below meth c nL cN sN Q pc L (.ref (ad k) :: st) m := by
  intro H locs ls hL hP hS
  have kk := kk H locs ls hL hP hS
  rw [show iv (n : Int) = Value.int (Int32.ofNat n) by rfl] at kk
  obtain ⟨c0, x0, ty0, h1, h2, h3⟩ := ent_alen (cy := cy) (ad := ad) (m := m) (k := k) (n := n) hq
  exact va_alen X.1 X.2.1 X.2.2.2.2.2.1 hP k q ((wsM_at hk).trans (by rw [h1])) h2 (by rw [h3]) hd kk
theorem g_gets (X : CX p l e R s mt args below meth c cN sN G cy ad tt own cc nL D) {pc : Nat} {L : List (Option Value)} {st : List Value} {m : Mem} {j idx : Nat} (hd : decode cc pc = .ok (.getstatic idx, 3)) (hs : SL own idx j) (kk : GO G cy ad p l e R s mt args below meth c nL cN sN Q (pc + 3) L (.ref (tt j) :: st) m) : GO G cy ad p l e R s mt args below meth c nL cN sN Q pc L st m := by
  obtain ⟨q, hq, hw⟩ := hs
  intro H locs ls hL hP hS
  exact va_gets X.1 X.2.1 (X.2.2.2.2.2.2.2.1 j q hq).1 hS X.2.2.2.1 (X.2.2.2.2.1 _ hw) (fun x h => h) hd (kk H locs ls hL hP hS)
theorem g_tald (X : CX p l e R s mt args below meth c cN sN G cy ad tt own cc nL D) {pc : Nat} {L : List (Option Value)} {st : List Value} {m : Mem} {j : Nat} {q : String × String × List Int} {i : Int} (hd : decode cc pc = .ok (.iaload, 1)) (hq : stT[j]? = some q) (hi : 0 ≤ i ∧ i < (q.2.2.length : Int)) (hr : inR i) (kk : GO G cy ad p l e R s mt args below meth c nL cN sN Q (pc + 1) L (iv (q.2.2.getD i.toNat 0) :: st) m) : GO G cy ad p l e R s mt args below meth c nL cN sN Q pc L (iv i :: .ref (tt j) :: st) m := by
  intro H locs ls hL hP hS
  exact va_ti X.1 X.2.1 (X.2.2.2.2.2.2.2.1 j q hq).2 hS (oi_in hi hr) (by rw [show i.toNat = (Int32.ofInt i).toNatClampNeg by have := oi_cl hi.1 hr; omega]; rfl) hd (kk H locs ls hL hP hS)
theorem g_tlen (X : CX p l e R s mt args below meth c cN sN G cy ad tt own cc nL D) {pc : Nat} {L : List (Option Value)} {st : List Value} {m : Mem} {j : Nat} {q : String × String × List Int} (hd : decode cc pc = .ok (.arraylength, 1)) (hq : stT[j]? = some q) (kk : GO G cy ad p l e R s mt args below meth c nL cN sN Q (pc + 1) L (iv (q.2.2.length : Int) :: st) m) : GO G cy ad p l e R s mt args below meth c nL cN sN Q pc L (.ref (tt j) :: st) m := by
  intro H locs ls hL hP hS
  exact va_tlen X.1 X.2.1 (X.2.2.2.2.2.2.2.1 j q hq).2 hS rfl hd (kk H locs ls hL hP hS)
theorem g_callV (X : CX p l e R s mt args below meth c cN sN G cy ad tt own cc nL D) {pc : Nat} {L : List (Option Value)} {m : Mem} {k ci idx mx D' n : Nat} {fds : List (Option Nat)} {y : MethodName} {b : ByteArray} {ret : Option FieldType} {as rest stk : List Value} {o : Option Value} {P : Prop} {m' : Mem} (hd : decode cc pc = .ok (.invokevirtual idx, 3)) (lk : CLV own idx y b mx ret n) (hk : tab[k]? = some (.inr (ci, fds))) (hcn : (vwCl[ci]?).map (fun q => q.1) = some y.cls) (hM : CT l G cy ad tt y b mx ret D' (.ref (ad k) :: as) m o P m') (hD : D' + 1 ≤ D) (hn : as.length = n) (hcat : (rest.map fun v => v.category).sum ≤ 8) (hst : as.reverse ++ .ref (ad k) :: rest = stk) (kk : P → GO G cy ad p l e R s mt args below meth c nL cN sN Q (pc + 3) L (o.toList ++ rest) m') : GO G cy ad p l e R s mt args below meth c nL cN sN Q pc L stk m := by
  subst hst
  intro H locs ls hL hP hS
  exact mt_call (va_runV ⟨X.1, X.2.1, X.2.2.1, X.2.2.2.1, X.2.2.2.2.1⟩ hM (cw_V X lk hD) (pre_V X hk hcn hP hS) rfl hn hL.1 rfl (lv_room hcat) hd ⟨X.2.2.2.2.2.2.2.2.1, X.2.2.2.2.2.2.2.2.2.1⟩) hS (fun hp H1 locs1 hP1 hS1 => kk hp H1 locs1 ls hL hP1 hS1)
theorem g_callS (X : CX p l e R s mt args below meth c cN sN G cy ad tt own cc nL D) {pc : Nat} {L : List (Option Value)} {m : Mem} {idx mx D' n : Nat} {y : MethodName} {b : ByteArray} {ret : Option FieldType} {as rest stk : List Value} {o : Option Value} {P : Prop} {m' : Mem} (hd : decode cc pc = .ok (.invokestatic idx, 3)) (lk : CLS own idx y b mx ret n) (hM : CT l G cy ad tt y b mx ret D' as m o P m') (hD : D' + 1 ≤ D) (hn : as.length = n) (hcat : (rest.map fun v => v.category).sum ≤ 8) (hst : as.reverse ++ rest = stk) (kk : P → GO G cy ad p l e R s mt args below meth c nL cN sN Q (pc + 3) L (o.toList ++ rest) m') : GO G cy ad p l e R s mt args below meth c nL cN sN Q pc L stk m := by
  subst hst
  intro H locs ls hL hP hS
  exact mt_call (va_runS ⟨X.1, X.2.1, X.2.2.1, X.2.2.2.1, X.2.2.2.2.1⟩ hM (cw_S X lk hD) (pre_S X hP hS) rfl hn hL.1 rfl (lv_room hcat) hd ⟨X.2.2.2.2.2.2.2.2.1, X.2.2.2.2.2.2.2.2.2.1⟩) hS (fun hp H1 locs1 hP1 hS1 => kk hp H1 locs1 ls hL hP1 hS1)
theorem g_callN (X : CX p l e R s mt args below meth c cN sN G cy ad tt own cc nL D) {pc : Nat} {L : List (Option Value)} {m : Mem} {idx mx D' n j : Nat} {y : MethodName} {b : ByteArray} {ret : Option FieldType} {as rest stk : List Value} {o : Option Value} {P : Prop} {m' : Mem} (hd : decode cc pc = .ok (.invokestatic idx, 3)) (lk : CLN own idx y b mx ret n j) (hM : CT l G cy ad tt y b mx ret D' as m o P m') (hD : D' + 1 ≤ D) (hn : as.length = n) (hcat : (rest.map fun v => v.category).sum ≤ 8) (hst : as.reverse ++ rest = stk) (kk : P → GO G cy ad p l e R s mt args below meth c nL cN sN Q (pc + 3) L (o.toList ++ rest) m') : GO G cy ad p l e R s mt args below meth c nL cN sN Q pc L stk m := by
  subst hst
  obtain ⟨lk, ⟨host, hnw⟩, hst⟩ := lk
  intro H locs ls hL hP hS
  exact mt_call (va_runSN ⟨X.1, X.2.1, X.2.2.1, X.2.2.2.1, X.2.2.2.2.1⟩ hM (cw_N X lk hnw hst hD) (pre_S X hP hS) rfl hn hL.1 rfl (lv_room hcat) hd ⟨X.2.2.2.2.2.2.2.2.1, X.2.2.2.2.2.2.2.2.2.1⟩) hS (fun hp H1 locs1 hP1 hS1 => kk hp H1 locs1 ls hL hP1 hS1)
theorem g_max (X : CX p l e R s mt args below meth c cN sN G cy ad tt own cc nL D) {pc : Nat} {L : List (Option Value)} {st : List Value} {m : Mem} {idx : Nat} {a b : Int} (hd : decode cc pc = .ok (.invokestatic idx, 3)) (hw : Cond.methodLink own idx Lib.Math.max.name ∈ WS) (ha : inR a) (hb : inR b) (hcat : (st.map fun v => v.category).sum ≤ 8) (hD : 1 ≤ D) (kk : GO G cy ad p l e R s mt args below meth c nL cN sN Q (pc + 3) L (iv (imx a b) :: st) m) : GO G cy ad p l e R s mt args below meth c nL cN sN Q pc L (iv b :: iv a :: st) m := by
  intro H locs ls hL hP hS
  have kk := kk H locs ls hL hP hS
  have hR := X.2.2.2.2.2.2.2.2.2.2.1
  rw [show iv (imx a b) = Value.int (if Int32.ofInt a < Int32.ofInt b then Int32.ofInt b else Int32.ofInt a) by
    unfold iv imx
    by_cases h : a < b
    · rw [if_pos h, if_pos ((oi_lt ha hb).mpr h)]
    · rw [if_neg h, if_neg (fun q => h ((oi_lt ha hb).mp q))]] at kk
  exact va_mmax X.1 X.2.1 (X.2.2.1.trans hL.1.symm) X.2.2.2.1 (X.2.2.2.2.1 _ hw) (X.2.2.2.2.1 _ ws_maxs) (X.2.2.2.2.1 _ ws_mi) (X.2.2.2.2.1 _ ws_maxc) (by omega) (by omega) X.2.2.2.2.2.2.2.2.1 X.2.2.2.2.2.2.2.2.2.1 hd kk
theorem g_min (X : CX p l e R s mt args below meth c cN sN G cy ad tt own cc nL D) {pc : Nat} {L : List (Option Value)} {st : List Value} {m : Mem} {idx : Nat} {a b : Int} (hd : decode cc pc = .ok (.invokestatic idx, 3)) (hw : Cond.methodLink own idx Lib.Math.min.name ∈ WS) (ha : inR a) (hb : inR b) (hcat : (st.map fun v => v.category).sum ≤ 8) (hD : 1 ≤ D) (kk : GO G cy ad p l e R s mt args below meth c nL cN sN Q (pc + 3) L (iv (imn a b) :: st) m) : GO G cy ad p l e R s mt args below meth c nL cN sN Q pc L (iv b :: iv a :: st) m := by
  intro H locs ls hL hP hS
  have kk := kk H locs ls hL hP hS
  have hR := X.2.2.2.2.2.2.2.2.2.2.1
  rw [show iv (imn a b) = Value.int (if Int32.ofInt b < Int32.ofInt a then Int32.ofInt b else Int32.ofInt a) by
    unfold iv imn
    by_cases h : b < a
    · rw [if_pos h, if_pos ((oi_lt hb ha).mpr h)]
    · rw [if_neg h, if_neg (fun q => h ((oi_lt hb ha).mp q))]] at kk
  exact va_mmin X.1 X.2.1 (X.2.2.1.trans hL.1.symm) X.2.2.2.1 (X.2.2.2.2.1 _ hw) (X.2.2.2.2.1 _ ws_mins) (X.2.2.2.2.1 _ ws_mi) (X.2.2.2.2.1 _ ws_minc) (by omega) (by omega) X.2.2.2.2.2.2.2.2.1 X.2.2.2.2.2.2.2.2.2.1 hd kk
theorem g_copyi (X : CX p l e R s mt args below meth c cN sN G cy ad tt own cc nL D) {pc : Nat} {L : List (Option Value)} {st : List Value} {m : Mem} {idx k1 k2 n1 n2 : Nat} {i j n : Int} (hd : decode cc pc = .ok (.invokestatic idx, 3)) (hw : Cond.methodLink own idx arraycopyName ∈ WS) (hk1 : tab[k1]? = some (.inl (0, n1))) (hk2 : tab[k2]? = some (.inl (0, n2))) (hi : 0 ≤ i ∧ 0 ≤ j ∧ 0 ≤ n ∧ i + n ≤ (n1 : Int) ∧ j + n ≤ (n2 : Int)) (ri : inR i) (rj : inR j) (rn : inR n) (hcat : (st.map fun v => v.category).sum ≤ 8) (hD : 1 ≤ D) (kk : GO G cy ad p l e R s mt args below meth c nL cN sN Q (pc + 3) L st (cpy m k1 i k2 j n)) : GO G cy ad p l e R s mt args below meth c nL cN sN Q pc L (iv n :: iv j :: .ref (ad k2) :: iv i :: .ref (ad k1) :: st) m := by
  intro H locs ls hL hP hS
  have hR := X.2.2.2.2.2.2.2.2.2.2.1
  have h0 := oi_cl hi.1 ri
  have h1 := oi_cl hi.2.1 rj
  have h2 := oi_cl hi.2.2.1 rn
  have hnf : nativeFrameWords "java/lang/System" "arraycopy" 5 + 11 ≤ 40 := by decide +kernel
  refine va_copyi (ty := .int) X.1 X.2.1 (X.2.2.1.trans hL.1.symm) X.2.2.2.1 (X.2.2.2.2.1 _ hw) (X.2.2.2.2.1 _ ws_acn) (X.2.2.2.2.1 _ ws_acs) (X.2.2.2.2.1 _ ws_aci) X.2.2.2.2.2.1 hP (X.2.2.2.2.2.2.1 m) hS k1 k2 0 0 (wsM_at hk1) (wsM_at hk2) rfl rfl rfl (neg_of hi.1 ri) (neg_of hi.2.1 rj) (neg_of hi.2.2.1 rn) (by omega) (by omega) (fun _ _ => rfl) (by omega) (by omega) hd (fun H1 locs1 hP1 hD1 hS1 => ?_)
  rw [wsM_cpy0 hk1 hk2 hi.1 hi.2.1 hi.2.2.1 ri rj rn] at hP1
  exact kk H1 locs1 ls hL hP1 hS1
theorem g_copyl (X : CX p l e R s mt args below meth c cN sN G cy ad tt own cc nL D) {pc : Nat} {L : List (Option Value)} {st : List Value} {m : Mem} {idx k1 k2 n1 n2 : Nat} {i j n : Int} (hd : decode cc pc = .ok (.invokestatic idx, 3)) (hw : Cond.methodLink own idx arraycopyName ∈ WS) (hk1 : tab[k1]? = some (.inl (1, n1))) (hk2 : tab[k2]? = some (.inl (1, n2))) (hi : 0 ≤ i ∧ 0 ≤ j ∧ 0 ≤ n ∧ i + n ≤ (n1 : Int) ∧ j + n ≤ (n2 : Int)) (ri : inR i) (rj : inR j) (rn : inR n) (hcat : (st.map fun v => v.category).sum ≤ 8) (hD : 1 ≤ D) (kk : GO G cy ad p l e R s mt args below meth c nL cN sN Q (pc + 3) L st (cpy m k1 i k2 j n)) : GO G cy ad p l e R s mt args below meth c nL cN sN Q pc L (iv n :: iv j :: .ref (ad k2) :: iv i :: .ref (ad k1) :: st) m := by
  intro H locs ls hL hP hS
  have hR := X.2.2.2.2.2.2.2.2.2.2.1
  have h0 := oi_cl hi.1 ri
  have h1 := oi_cl hi.2.1 rj
  have h2 := oi_cl hi.2.2.1 rn
  have hnf : nativeFrameWords "java/lang/System" "arraycopy" 5 + 11 ≤ 40 := by decide +kernel
  refine va_copyl (ty := .long) X.1 X.2.1 (X.2.2.1.trans hL.1.symm) X.2.2.2.1 (X.2.2.2.2.1 _ hw) (X.2.2.2.2.1 _ ws_acn) (X.2.2.2.2.1 _ ws_acs) (X.2.2.2.2.1 _ ws_aci) X.2.2.2.2.2.1 hP (X.2.2.2.2.2.2.1 m) hS k1 k2 1 1 (wsM_at hk1) (wsM_at hk2) rfl rfl rfl (neg_of hi.1 ri) (neg_of hi.2.1 rj) (neg_of hi.2.2.1 rn) (by omega) (by omega) (fun _ _ => rfl) (by omega) (by omega) hd (fun H1 locs1 hP1 hD1 hS1 => ?_)
  rw [wsM_cpy1 hk1 hk2 hi.1 hi.2.1 hi.2.2.1 ri rj rn] at hP1
  exact kk H1 locs1 ls hL hP1 hS1
theorem g_weak (X : CX p l e R s mt args below meth c cN sN G cy ad tt own cc nL D) {pc : Nat} {L : List (Option Value)} {st : List Value} {m : Mem} {L' : List (Option Value)} (hs : subL L' L) (k : GO G cy ad p l e R s mt args below meth c nL cN sN Q pc L' st m) : GO G cy ad p l e R s mt args below meth c nL cN sN Q pc L st m := by
  intro H locs ls hL hP hS
  exact k H locs ls (LH_mono hL (subL_ok hs)) hP hS
theorem RS_ok (X : CX p l e R s mt args below meth c cN sN G cy ad tt own cc nL D) : RS l G cy ad tt own cc nL D (GO G cy ad p l e R s mt args below meth c nL cN sN Q) := by
  refine ⟨?_, ?_, ?_, ?_, ?_, ?_, ?_, ?_, ?_, ?_, ?_, ?_, ?_, ?_, ?_, ?_, ?_, ?_, ?_, ?_, ?_, ?_, ?_, ?_, ?_, ?_, ?_, ?_, ?_, ?_, ?_, ?_, ?_, ?_, ?_, ?_, ?_, ?_, ?_, ?_, ?_, ?_, ?_, ?_, ?_, ?_, ?_, ?_, ?_, ?_, ?_, ?_, ?_, ?_, ?_, ?_, ?_, ?_, ?_, ?_, ?_, ?_, ?_, ?_, ?_, ?_, ?_, ?_, ?_, ?_, ?_, ?_, ?_, ?_, ?_, ?_, ?_, ?_, ?_, ?_, ?_, ?_⟩
  · intro _ _ _ _ _ x0 x1
    exact g_iconst X x0 x1
  · intro _ _ _ _ _ x0 x1 x2
    exact g_bipush X x0 x1 x2
  · intro _ _ _ _ _ x0 x1 x2
    exact g_sipush X x0 x1 x2
  · intro _ _ _ _ _ _ x0 x1 x2
    exact g_ldc X x0 x1 x2
  · intro _ _ _ _ _ _ x0 x1 x2
    exact g_ldcw X x0 x1 x2
  · intro _ _ _ _ _ x0 x1
    exact g_lconst X x0 x1
  · intro _ _ _ _ _ _ x0 x1 x2
    exact g_ldc2 X x0 x1 x2
  · intro _ _ _ _ _ _ x0 x1 x2
    exact g_iload X x0 x1 x2
  · intro _ _ _ _ _ _ x0 x1 x2
    exact g_lload X x0 x1 x2
  · intro _ _ _ _ _ _ x0 x1 x2
    exact g_aload X x0 x1 x2
  · intro _ _ _ _ _ _ x0 x1 x2
    exact g_iload_n X x0 x1 x2
  · intro _ _ _ _ _ _ x0 x1 x2
    exact g_lload_n X x0 x1 x2
  · intro _ _ _ _ _ _ x0 x1 x2
    exact g_aload_n X x0 x1 x2
  · intro _ _ _ _ _ _ _ x0 x1 x2 x3 x4
    exact g_istore X x0 x1 x2 x3 x4
  · intro _ _ _ _ _ _ _ x0 x1 x2 x3 x4
    exact g_astore X x0 x1 x2 x3 x4
  · intro _ _ _ _ _ _ _ x0 x1 x2 x3 x4
    exact g_istore_n X x0 x1 x2 x3 x4
  · intro _ _ _ _ _ _ _ x0 x1 x2 x3 x4
    exact g_astore_n X x0 x1 x2 x3 x4
  · intro _ _ _ _ _ _ _ x0 x1 x2 x3 x4
    exact g_lstore X x0 x1 x2 x3 x4
  · intro _ _ _ _ _ _ _ _ x0 x1 x2 x3 x4 x5
    exact g_iinc X x0 x1 x2 x3 x4 x5
  · intro _ _ _ _ _ x0 x1 x2
    exact g_dup X x0 x1 x2
  · intro _ _ _ _ _ _ x0 x1 x2 x3
    exact g_dup2 X x0 x1 x2 x3
  · intro _ _ _ _ _ x0 x1 x2
    exact g_pop X x0 x1 x2
  · intro _ _ _ _ _ _ x0 x1
    exact g_iadd X x0 x1
  · intro _ _ _ _ _ _ x0 x1
    exact g_isub X x0 x1
  · intro _ _ _ _ _ _ x0 x1
    exact g_imul X x0 x1
  · intro _ _ _ _ _ x0 x1
    exact g_ineg X x0 x1
  · intro _ _ _ _ _ _ x0 x1
    exact g_iand X x0 x1
  · intro _ _ _ _ _ _ x0 x1
    exact g_ior X x0 x1
  · intro _ _ _ _ _ _ x0 x1
    exact g_ixor X x0 x1
  · intro _ _ _ _ _ _ x0 x1
    exact g_ishl X x0 x1
  · intro _ _ _ _ _ _ x0 x1
    exact g_ishr X x0 x1
  · intro _ _ _ _ _ _ x0 x1
    exact g_iushr X x0 x1
  · intro _ _ _ _ _ _ x0 x1 x2 x3
    exact g_idiv X x0 x1 x2 x3
  · intro _ _ _ _ _ _ x0 x1 x2 x3
    exact g_irem X x0 x1 x2 x3
  · intro _ _ _ _ _ x0 x1
    exact g_i2b X x0 x1
  · intro _ _ _ _ _ x0 x1
    exact g_i2s X x0 x1
  · intro _ _ _ _ _ x0 x1 x2
    exact g_i2l X x0 x1 x2
  · intro _ _ _ _ _ x0 x1
    exact g_l2i X x0 x1
  · intro _ _ _ _ _ _ x0 x1
    exact g_ladd X x0 x1
  · intro _ _ _ _ _ _ x0 x1
    exact g_land X x0 x1
  · intro _ _ _ _ _ _ x0 x1
    exact g_lor X x0 x1
  · intro _ _ _ _ _ _ x0 x1
    exact g_lshl X x0 x1
  · intro _ _ _ _ _ _ x0 x1 x2 x3
    exact g_lcmp X x0 x1 x2 x3
  · intro _ _ _ _ _ _ _ _ x0 x1 x2 x3 x4 x5
    exact g_icmp_eq X x0 x1 x2 x3 x4 x5
  · intro _ _ _ _ _ _ _ x0 x1 x2 x3 x4
    exact g_if_eq X x0 x1 x2 x3 x4
  · intro _ _ _ _ _ _ _ _ x0 x1 x2 x3 x4 x5
    exact g_icmp_ne X x0 x1 x2 x3 x4 x5
  · intro _ _ _ _ _ _ _ x0 x1 x2 x3 x4
    exact g_if_ne X x0 x1 x2 x3 x4
  · intro _ _ _ _ _ _ _ _ x0 x1 x2 x3 x4 x5
    exact g_icmp_lt X x0 x1 x2 x3 x4 x5
  · intro _ _ _ _ _ _ _ x0 x1 x2 x3 x4
    exact g_if_lt X x0 x1 x2 x3 x4
  · intro _ _ _ _ _ _ _ _ x0 x1 x2 x3 x4 x5
    exact g_icmp_ge X x0 x1 x2 x3 x4 x5
  · intro _ _ _ _ _ _ _ x0 x1 x2 x3 x4
    exact g_if_ge X x0 x1 x2 x3 x4
  · intro _ _ _ _ _ _ _ _ x0 x1 x2 x3 x4 x5
    exact g_icmp_gt X x0 x1 x2 x3 x4 x5
  · intro _ _ _ _ _ _ _ x0 x1 x2 x3 x4
    exact g_if_gt X x0 x1 x2 x3 x4
  · intro _ _ _ _ _ _ _ _ x0 x1 x2 x3 x4 x5
    exact g_icmp_le X x0 x1 x2 x3 x4 x5
  · intro _ _ _ _ _ _ _ x0 x1 x2 x3 x4
    exact g_if_le X x0 x1 x2 x3 x4
  · intro _ _ _ _ _ _ x0 x1 x2
    exact g_goto X x0 x1 x2
  · intro _ _ _ _ _ _ _ _ _ _ _ x0 x1 x2 x3 x4
    exact g_tabOut X x0 x1 x2 x3 x4
  · intro _ _ _ _ _ _ _ _ _ _ _ _ x0 x1 x2 x3 x4 x5 x6
    exact g_tabIn X x0 x1 x2 x3 x4 x5 x6
  · intro _ _ _ _ _ _ _ _ _ _ _ x0 x1 x2 x3 x4
    exact g_geti X x0 x1 x2 x3 x4
  · intro _ _ _ _ _ _ _ _ _ _ _ _ x0 x1 x2 x3 x4
    exact g_getr X x0 x1 x2 x3 x4
  · intro _ _ _ _ _ _ _ _ _ _ _ x0 x1 x2 x3 x4 x5 x6
    exact g_puti X x0 x1 x2 x3 x4 x5 x6
  · intro _ _ _ _ _ _ _ x0 x1 x2 x3 x4
    exact g_iald X x0 x1 x2 x3 x4
  · intro _ _ _ _ _ _ _ x0 x1 x2 x3 x4
    exact g_bald X x0 x1 x2 x3 x4
  · intro _ _ _ _ _ _ _ x0 x1 x2 x3 x4
    exact g_zald X x0 x1 x2 x3 x4
  · intro _ _ _ _ _ _ _ x0 x1 x2 x3 x4
    exact g_lald X x0 x1 x2 x3 x4
  · intro _ _ _ _ _ _ _ x0 x1 x2 x3 x4
    exact g_aald X x0 x1 x2 x3 x4
  · intro _ _ _ _ _ _ _ _ x0 x1 x2 x3 x4
    exact g_iast X x0 x1 x2 x3 x4
  · intro _ _ _ _ _ _ _ _ x0 x1 x2 x3 x4
    exact g_bast X x0 x1 x2 x3 x4
  · intro _ _ _ _ _ _ _ _ x0 x1 x2 x3 x4 x5
    exact g_zast X x0 x1 x2 x3 x4 x5
  · intro _ _ _ _ _ _ _ _ x0 x1 x2 x3 x4
    exact g_last X x0 x1 x2 x3 x4
  · intro _ _ _ _ _ _ _ x0 x1 x2 x3
    exact g_alen X x0 x1 x2 x3
  · intro _ _ _ _ _ _ x0 x1 x2
    exact g_gets X x0 x1 x2
  · intro _ _ _ _ _ _ _ x0 x1 x2 x3 x4
    exact g_tald X x0 x1 x2 x3 x4
  · intro _ _ _ _ _ _ x0 x1 x2
    exact g_tlen X x0 x1 x2
  · intro _ _ _ _ _ _ _ _ _ _ _ _ _ _ _ _ _ _ _ x0 x1 x2 x3 x4 x5 x6 x7 x8 x9
    exact g_callV X x0 x1 x2 x3 x4 x5 x6 x7 x8 x9
  · intro _ _ _ _ _ _ _ _ _ _ _ _ _ _ _ _ x0 x1 x2 x3 x4 x5 x6 x7
    exact g_callS X x0 x1 x2 x3 x4 x5 x6 x7
  · intro _ _ _ _ _ _ _ _ _ _ _ _ _ _ _ _ _ x0 x1 x2 x3 x4 x5 x6 x7
    exact g_callN X x0 x1 x2 x3 x4 x5 x6 x7
  · intro _ _ _ _ _ _ _ x0 x1 x2 x3 x4 x5 x6
    exact g_max X x0 x1 x2 x3 x4 x5 x6
  · intro _ _ _ _ _ _ _ x0 x1 x2 x3 x4 x5 x6
    exact g_min X x0 x1 x2 x3 x4 x5 x6
  · intro _ _ _ _ _ _ _ _ _ _ _ _ x0 x1 x2 x3 x4 x5 x6 x7 x8 x9 x10
    exact g_copyi X x0 x1 x2 x3 x4 x5 x6 x7 x8 x9 x10
  · intro _ _ _ _ _ _ _ _ _ _ _ _ x0 x1 x2 x3 x4 x5 x6 x7 x8 x9 x10
    exact g_copyl X x0 x1 x2 x3 x4 x5 x6 x7 x8 x9 x10
  · intro _ _ _ _ _ x0 x1
    exact g_weak X x0 x1
end RSO
/-! a method's end, and its contract out of the rules -/
def RT (cc : ByteArray) (o : Option Value) (P : Prop) (m' : Mem) (ret : Option FieldType) (Go : Nat → List (Option Value) → List Value → Mem → Prop) : Prop :=
  (∀ {pc : Nat} {L : List (Option Value)} {e : Int}, decode cc pc = .ok (.ireturn, 1) → (ret = some .int ∨ (ret = some .boolean ∧ inZ e)) → o = some (iv e) → P → Go pc L [iv e] m') ∧
  (∀ {pc : Nat} {L : List (Option Value)} {e : Int}, decode cc pc = .ok (.lreturn, 1) → ret = some .long → o = some (jv e) → P → Go pc L [jv e] m') ∧
  (∀ {pc : Nat} {L : List (Option Value)}, decode cc pc = .ok (.return_, 1) → ret = none → o = none → P → Go pc L [] m')
section RTP
variable {cc : ByteArray} {m m' : Mem} {Go : Nat → List (Option Value) → List Value → Mem → Prop} {pc : Nat} {L : List (Option Value)}
theorem r_iret {r e : Int} (hT : RT cc (some (iv r)) (inR r) m' (some .int) Go) (hd : decode cc pc = .ok (.ireturn, 1)) (he : e = r) (hm : m = m') (hr : inR e) : Go pc L [iv e] m := by
  subst he; subst hm
  exact hT.1 hd (Or.inl rfl) rfl hr
theorem r_zret {r e : Int} (hT : RT cc (some (iv r)) (inZ r) m' (some .boolean) Go) (hd : decode cc pc = .ok (.ireturn, 1)) (he : e = r) (hm : m = m') (hr : inZ e) : Go pc L [iv e] m := by
  subst he; subst hm
  exact hT.1 hd (Or.inr ⟨rfl, hr⟩) rfl hr
theorem r_lret {r e : Int} (hT : RT cc (some (jv r)) (inL r) m' (some .long) Go) (hd : decode cc pc = .ok (.lreturn, 1)) (he : e = r) (hm : m = m') (hr : inL e) : Go pc L [jv e] m := by
  subst he; subst hm
  exact hT.2.1 hd rfl rfl hr
theorem r_vret (hT : RT cc none True m' none Go) (hd : decode cc pc = .ok (.return_, 1)) (hm : m = m') : Go pc L [] m := by
  subst hm
  exact hT.2.2 hd rfl rfl trivial
end RTP
theorem CT_of {l : Launch} {G : va_G} {cy ad tt : Nat → Nat} {y : MethodName} {b : ByteArray} {mx : Nat} {ret : Option FieldType} {D : Nat} {as : List Value} {m : Mem} {o : Option Value} {P : Prop} {m' : Mem} (hy : plainName y.cls = true) (hlen : (lg_sl as).length ≤ mx)
    (hb : ∀ Go : Nat → List (Option Value) → List Value → Mem → Prop, RS l G cy ad tt y.cls b mx D Go → RT b o P m' ret Go → Go 0 (mkN as mx) [] m) : CT l G cy ad tt y b mx ret D as m o P m' := by
  refine Met.ofW (cc := b) (maxL := mx) (ret := ret) hy rfl ?_
  intro p e s mt args below meth c s₁ B hml hv
  obtain ⟨rfl, hP, hK, hD, hST, hNW⟩ := hv
  have hx := B.exec
  have hbb := B.bytes
  have hr := B.returns
  have hts := atoms_spec (ws := Cond.code y b mx ret :: WS) B.pre
  have hown : s.vm.findClass y.cls = some mt.cls := findClass_of_methodNamed B.named
  have hlocks := B.notSynchronized
  have X : CX p l e (headSpec (Cond.code y b mx ret :: WS) (rmD D)).room s mt as.toArray below meth c 0 0 G cy ad tt y.cls b mx D :=
    ⟨hx, hbb, hml, hown, fun w hw => hts w (List.mem_cons_of_mem _ hw), hK, hD, hST, Nat.le_refl _, Nat.le_refl _, ⟨Nat.le_refl _, Nat.le_refl _⟩, hNW⟩
  have h := hb (GO G cy ad p l e (headSpec (Cond.code y b mx ret :: WS) (rmD D)).room s mt as.toArray below meth c mx 0 0 (MQ below (mtQ G cy ad o P m') as.toArray s 0 0 (AD ad))) (RS_ok X) ?_
  · rw [lg_entry_eq]
    exact h s.heap [] _ (LH_entry as hlen) hP va_S.rf
  · refine ⟨fun {pc L e'} hd hret ho hp => ?_, fun {pc L e'} hd hret ho hp => ?_, fun {pc L} hd hret ho hp => ?_⟩
    · intro H locs ls hL hPH hS
      rcases hret with h | ⟨h, hz⟩
      · exact W.iret hx hbb (hr.trans h) (fun t ht hW => ⟨by rw [ho]; rfl, hp, by rw [ht]; exact hPH, hS.F ht⟩) hS.2.2 hd
      · exact W.zret hx hbb (hr.trans h) (by rcases hz with rfl | rfl <;> rfl) (fun t ht hW => ⟨by rw [ho]; rfl, hp, by rw [ht]; exact hPH, hS.F ht⟩) hS.2.2 hd
    · intro H locs ls hL hPH hS
      exact W.lret hx hbb (hr.trans hret) (fun t ht hW => ⟨by rw [ho]; rfl, hp, by rw [ht]; exact hPH, hS.F ht⟩) hS.2.2 hd
    · intro H locs ls hL hPH hS
      exact W.vret hx hbb (hr.trans hret) (fun t ht hW => ⟨by rw [ho], hp, by rw [ht]; exact hPH, hS.F ht⟩) hS.2.2 hd
