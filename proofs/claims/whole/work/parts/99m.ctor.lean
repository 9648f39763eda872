/-! constructors: a world that grows; the rules of their instructions -/
def NC : List (String × Nat × MethodName) := [(RX10, 9, yX8_init), (RX10, 25, yX9_init), (RX10, 64, yX5_init), (RX10, 75, yX6_init), (RX0, 11, yX9_init), (RX2, 9, yX9_init)]
def NCs (U : State) : Prop := ∀ q ∈ NC, va_Nw (.methodLinkNest q.1 q.2.1 q.2.2 "MotherTowns") U
def CI (p : Program) (s : State) (mt : MethodId) (args : Array Value) (c : Code) (G : va_G) (cy : Nat → Nat) (own : String) (cc : ByteArray) (nL : Nat) (A : Nat → Prop) : Prop :=
  p.tables.exec = Jvm.exec ∧ c.code = cc ∧ c.maxLocals = nL ∧ s.vm.findClass own = some mt.cls ∧ (∀ w ∈ WS, w.before args s = true) ∧ va_K G vwCl (tysM cy) s ∧ (∀ q, s.heap.size ≤ q → A q) ∧ va_AO "MotherTowns$Shelf" s ∧ NCs s
def GI (G : va_G) (p : Program) (l : Launch) (e : Env) (R : Room) (s : State) (mt : MethodId) (args : Array Value) (below : List Frame) (meth : Method) (c : Code) (nL : Nat) (A : Nat → Prop) (Q : State → Prop) (k w pc : Nat) (L : List (Option Value)) (st : List Value) (ws : va_W) : Prop :=
  ∀ (H : Heap) (locs : List Loc) (ls : Array Slot), LH ls nL L → va_P G vwCl ws H → va_D A ws → va_S A s.heap H locs → W p l e R s mt args below meth c H locs k w Q (F0 mt pc ls st)
def WIx (G : va_G) (cy : Nat → Nat) (x : Nat × va_E) (sz : Nat) (U : State) : Prop := U.heap.size = sz ∧ va_P G vwCl [x] U.heap ∧ va_K G vwCl (tysM cy) U ∧ va_D (fun _ => True) [x] ∧ va_AO "MotherTowns$Shelf" U ∧ NCs U
def rmI (D mc ms : Nat) : Room := { frames := D, cells := mc, slots := ms, locals := 64 * D }
def CTI (l : Launch) (G : va_G) (cy : Nat → Nat) (y : MethodName) (b : ByteArray) (mx D mc ms : Nat) (x : Nat × va_E) (as : List Value) (wf : (Nat → Nat) → va_W) : Prop :=
  ∀ sz, Met l y (Cond.code y b mx none :: WS) (rmI D mc ms) (va_Pc as (WIx G cy x sz)) (va_Qv (fun _ : Nat → Nat => True) (fun u t => va_P G vwCl (wf u) t.heap ∧ va_D (va_A [x] sz) (wf u)) (va_A [x] sz)) mc ms (va_A [x] sz)
/-- a constructor by a pool entry -/
def CLI (own : String) (idx : Nat) (y : MethodName) (b : ByteArray) (mx n : Nat) : Prop := CLB y b mx none n ∧ y.name = "<init>" ∧ Cond.instanceMethod y ∈ WS
theorem va_nd_of : ∀ l : List Nat, l.Nodup → va_nd l = true
  | [], _ => rfl
  | a :: l, h => by
    have := List.nodup_cons.mp h
    show (decide (a ∉ l) && va_nd l) = true
    rw [decide_eq_true this.1, va_nd_of l this.2]; rfl
theorem NCs.moved {u U : State} (h : NCs u) (hv : u.vm = U.vm) : NCs U := fun q hq => va_Nw.same rfl hv (h q hq)
section CTR
variable {p : Program} {l : Launch} {e : Env} {R : Room} {s : State} {mt : MethodId} {args : Array Value} {below : List Frame} {meth : Method} {c : Code} {Q : State → Prop} {G : va_G} {cy : Nat → Nat} {own : String} {cc : ByteArray} {nL : Nat} {A : Nat → Prop} {k w pc : Nat} {L : List (Option Value)} {st : List Value} {ws : va_W}
theorem i_aload_n (X : CI p s mt args c G cy own cc nL A) {i : Fin 4} {x : Nat} (hd : decode cc pc = .ok (.aload_n i, 1)) (hi : L[(i : Nat)]? = some (some (.ref x))) (kk : GI G p l e R s mt args below meth c nL A Q k w (pc + 1) L (.ref x :: st) ws) : GI G p l e R s mt args below meth c nL A Q k w pc L st ws := by
  intro H locs ls hL hP hD hS
  exact lv_aload_n X.1 X.2.1 hd rfl (LH_at hL hi) (kk H locs ls hL hP hD hS)
theorem i_iload_n (X : CI p s mt args c G cy own cc nL A) {i : Fin 4} {x : Int} (hd : decode cc pc = .ok (.iload_n i, 1)) (hi : L[(i : Nat)]? = some (some (iv x))) (kk : GI G p l e R s mt args below meth c nL A Q k w (pc + 1) L (iv x :: st) ws) : GI G p l e R s mt args below meth c nL A Q k w pc L st ws := by
  intro H locs ls hL hP hD hS
  exact lv_iload_n X.1 X.2.1 hd rfl (LH_at hL hi) (kk H locs ls hL hP hD hS)
theorem i_iconst (X : CI p s mt args c G cy own cc nL A) {n : Int} (hd : decode cc pc = .ok (.iconst n, 1)) (kk : GI G p l e R s mt args below meth c nL A Q k w (pc + 1) L (iv n :: st) ws) : GI G p l e R s mt args below meth c nL A Q k w pc L st ws := by
  intro H locs ls hL hP hD hS
  exact lv_iconst X.1 X.2.1 hd rfl (kk H locs ls hL hP hD hS)
theorem i_bipush (X : CI p s mt args c G cy own cc nL A) {n : Int} (hd : decode cc pc = .ok (.bipush n, 2)) (hn : Int8.minValue.toInt ≤ n ∧ n ≤ Int8.maxValue.toInt) (kk : GI G p l e R s mt args below meth c nL A Q k w (pc + 2) L (iv n :: st) ws) : GI G p l e R s mt args below meth c nL A Q k w pc L st ws := by
  intro H locs ls hL hP hD hS
  refine lv_bipush X.1 X.2.1 hd (by rw [Int8.toInt32_ofInt] <;> first | exact hn.1 | exact hn.2) ?_
  exact kk H locs ls hL hP hD hS
theorem i_sipush (X : CI p s mt args c G cy own cc nL A) {n : Int} (hd : decode cc pc = .ok (.sipush n, 3)) (hn : Int16.minValue.toInt ≤ n ∧ n ≤ Int16.maxValue.toInt) (kk : GI G p l e R s mt args below meth c nL A Q k w (pc + 3) L (iv n :: st) ws) : GI G p l e R s mt args below meth c nL A Q k w pc L st ws := by
  intro H locs ls hL hP hD hS
  refine lv_sipush X.1 X.2.1 hd (by rw [Int16.toInt32_ofInt] <;> first | exact hn.1 | exact hn.2) ?_
  exact kk H locs ls hL hP hD hS
theorem i_dup (X : CI p s mt args c G cy own cc nL A) {v : Value} (hd : decode cc pc = .ok (.dup, 1)) (hv : v.category = 1) (kk : GI G p l e R s mt args below meth c nL A Q k w (pc + 1) L (v :: v :: st) ws) : GI G p l e R s mt args below meth c nL A Q k w pc L (v :: st) ws := by
  intro H locs ls hL hP hD hS
  exact lv_dup X.1 X.2.1 hd hv (kk H locs ls hL hP hD hS)
theorem i_istore_n (X : CI p s mt args c G cy own cc nL A) {i : Fin 4} {x : Int} {L' : List (Option Value)} (hd : decode cc pc = .ok (.istore_n i, 1)) (hi : (i : Nat) < nL) (ho : okS L (i : Nat) = true) (hs : L.set (i : Nat) (some (iv x)) = L') (kk : GI G p l e R s mt args below meth c nL A Q k w (pc + 1) L' st ws) : GI G p l e R s mt args below meth c nL A Q k w pc L (iv x :: st) ws := by
  subst hs
  intro H locs ls hL hP hD hS
  obtain ⟨ls', e', h'⟩ := LH_store (v := iv x) hL hi rfl ho
  unfold iv at e'
  change W p l e R s mt args below meth c H locs k w Q (F0 mt pc ls (Value.int (Int32.ofInt x) :: st))
  intro T hT Y
  obtain ⟨t, a, b⟩ := kk H locs ls' h' hP hD hS T hT Y
  refine ⟨t, ?_, b⟩
  jvm_step Y.here [Y.here.top, ↓top_set Y.here.top, X.1, X.2.1, hd, e']
  exact a
theorem i_iinc (X : CI p s mt args c G cy own cc nL A) {i : Nat} {n x : Int} {L' : List (Option Value)} (hd : decode cc pc = .ok (.iinc i n, 3)) (hx : L[i]? = some (some (iv x))) (hi : i < nL) (ho : okS L i = true) (hs : L.set i (some (iv (w32 (x + n)))) = L') (kk : GI G p l e R s mt args below meth c nL A Q k w (pc + 3) L' st ws) : GI G p l e R s mt args below meth c nL A Q k w pc L st ws := by
  subst hs
  intro H locs ls hL hP hD hS
  obtain ⟨ls', e', h'⟩ := LH_store (v := iv (w32 (x + n))) hL hi rfl ho
  rw [show iv (w32 (x + n)) = Value.int (Int32.ofInt x + Int32.ofInt n) by unfold iv; rw [oi_w, Int32.ofInt_add]] at e'
  have hl := LH_at hL hx
  unfold iv at hl
  intro T hT Y
  obtain ⟨t, a, b⟩ := kk H locs ls' h' hP hD hS T hT Y
  refine ⟨t, ?_, b⟩
  jvm_step Y.here [Y.here.top, ↓top_set Y.here.top, X.1, X.2.1, hd, hl, e']
  exact a
theorem i_icmp_ge (X : CI p s mt args c G cy own cc nL A) {a b off : Int} {tgt : Nat} (hd : decode cc pc = .ok (.if_icmp .ge off, 3)) (ht : (pc : Int) + off = (tgt : Int)) (ha : inR a) (hb : inR b) (kt : b ≤ a → GI G p l e R s mt args below meth c nL A Q k w tgt L st ws) (kf : ¬ (b ≤ a) → GI G p l e R s mt args below meth c nL A Q k w (pc + 3) L st ws) : GI G p l e R s mt args below meth c nL A Q k w pc L (iv b :: iv a :: st) ws := by
  intro H locs ls hL hP hD hS
  exact lv_icmp_ge X.1 X.2.1 hd ht (fun h => kt ((oi_le hb ha).mp h) H locs ls hL hP hD hS) (fun h => kf (fun q => h ((oi_le hb ha).mpr q)) H locs ls hL hP hD hS)
theorem i_goto (X : CI p s mt args c G cy own cc nL A) {off : Int} {tgt : Nat} (hd : decode cc pc = .ok (.goto off, 3)) (ht : (pc : Int) + off = (tgt : Int)) (kk : GI G p l e R s mt args below meth c nL A Q k w tgt L st ws) : GI G p l e R s mt args below meth c nL A Q k w pc L st ws := by
  intro H locs ls hL hP hD hS
  exact lv_goto X.1 X.2.1 hd ht (kk H locs ls hL hP hD hS)
theorem i_objInit (X : CI p s mt args c G cy own cc nL A) {idx a : Nat} (hd : decode cc pc = .ok (.invokespecial idx, 3)) (h1 : Cond.methodLink own idx objectInit ∈ WS) (h2 : Cond.instanceMethod objectInit ∈ WS) (h3 : Cond.code objectInit ⟨#[0xb1]⟩ 1 none ∈ WS) (hR : 1 ≤ R.frames ∧ 64 ≤ R.locals) (kk : GI G p l e R s mt args below meth c nL A Q k w (pc + 3) L [] ws) : GI G p l e R s mt args below meth c nL A Q k w pc L [.ref a] ws := by
  intro H locs ls hL hP hD hS
  refine W.objInit X.1 X.2.1 X.2.2.2.1 (X.2.2.2.2.1 _ h1) (X.2.2.2.2.1 _ h2) (X.2.2.2.2.1 _ h3) rfl (by rw [X.2.2.1]; exact hL.1) rfl hd hR.1 (Nat.le_trans (Nat.le_of_ble_eq_true rfl) hR.2) ?_
  exact W.eq (g2 := F0 mt (pc + 3) ls []) rfl (kk H locs ls hL hP hD hS)
theorem ra_name {U : State} {cA cB : ClassId} {ty : FieldType} (hp : ∀ C, ty ≠ .object C) (h : va_RA U cA ty) (h' : va_RA U cB ty) : cA = cB := by
  cases ty with
  | object C => exact absurd rfl (hp C)
  | _ => exact Option.some.inj (h.symm.trans h')
theorem i_newa (X : CI p s mt args c G cy own cc nL A) {at' : ArrayType} {ty : FieldType} {n : Int} {N q : Nat} {a0 : vp_A} (hd : decode cc pc = .ok (.newarray at', 2)) (hty : newarray.typeOf at' = ty) (hp : ∀ C, ty ≠ .object C) (hw : Cond.arrayClass ty ∈ WS) (hq : (tysM cy)[q]? = some (cy q, ty)) (ha : ∀ cA : ClassId, vp_cell cA a0 = arrV cA N (fun _ => defaultValue ty)) (hn : ¬ Int32.ofInt n < 0) (hN : (Int32.ofInt n).toNatClampNeg = N) (hb : N * componentBytes ty ≤ 536870912) (hk : k + 1 ≤ R.cells) (hs : w + N ≤ R.slots)
    (kk : ∀ a, GI G p l e R s mt args below meth c nL A Q (k + 1) (w + N) (pc + 2) L (.ref a :: st) (ws ++ [(a, .inl (cy q, a0))])) : GI G p l e R s mt args below meth c nL A Q k w pc L (iv n :: st) ws := by
  subst hty
  intro H locs ls hL hP hD hS
  refine va_newa X.1 X.2.1 (X.2.2.2.2.1 _ hw) rfl X.2.2.2.2.2.1 hP hD hS X.2.2.2.2.2.2.1 ha hn hN hb hk hs hd (fun a cA H1 hK1 hP1 hD1 hS1 => ?_)
  have e : cA = cy q := by
    have h1 := (X.2.2.2.2.2.1.2 q _ hq).2
    have h2 := (hK1.2 5 (cA, newarray.typeOf at') rfl).2
    exact ra_name hp h2 h1
  subst e
  exact kk a H1 locs ls hL hP1 hD1 hS1
theorem i_new (X : CI p s mt args c G cy own cc nL A) {idx ci N : Nat} {C : String} {T : u_T} {ty : Nat → FieldType} {fs : List Value} (hd : decode cc pc = .ok (.new idx, 3)) (hc : vwCl[ci]? = some (C, T, N)) (hty : ∀ k, k < N → parseFieldDescriptor (T k).2.2.1 = some (ty k)) (hfs : ∀ j, j < N → defaultValue (ty j) = vp_V fs j) (h1 : Cond.classLink own idx C ∈ WS) (h2 : Cond.instantiable C N ∈ WS) (h3 : Cond.initialized C ∈ WS) (hk : k + 1 ≤ R.cells) (hs : w + N ≤ R.slots)
    (kk : ∀ a, GI G p l e R s mt args below meth c nL A Q (k + 1) (w + N) (pc + 3) L (.ref a :: st) (ws ++ [(a, .inr (ci, fs))])) : GI G p l e R s mt args below meth c nL A Q k w pc L st ws := by
  intro H locs ls hL hP hD hS
  exact va_new X.1 X.2.1 X.2.2.2.2.1 (WS_u hc) ty hty X.2.2.2.1 (X.2.2.2.2.1 _ h1) (X.2.2.2.2.1 _ h2) (X.2.2.2.2.1 _ h3) X.2.2.2.2.2.1 hP hD hS X.2.2.2.2.2.2.1 hc hfs hk hs hd (fun a H1 hP1 hD1 hS1 => kk a H1 locs ls hL hP1 hD1 hS1)
theorem i_newq (X : CI p s mt args c G cy own cc nL A) {idx : Nat} {n : Int} {N : Nat} (hd : decode cc pc = .ok (.anewarray idx, 3)) (h1 : Cond.classLink own idx "MotherTowns$Shelf" ∈ WS) (hn : ¬ Int32.ofInt n < 0) (hN : (Int32.ofInt n).toNatClampNeg = N) (hb : N * 4 ≤ 536870912) (hk : k + 1 ≤ R.cells) (hs : w + N ≤ R.slots)
    (kk : ∀ a, GI G p l e R s mt args below meth c nL A Q (k + 1) (w + N) (pc + 3) L (.ref a :: st) (ws ++ [(a, .inl (cy 4, N, .inr (.inr (.inr (.inr (fun _ => none))))))])) : GI G p l e R s mt args below meth c nL A Q k w pc L (iv n :: st) ws := by
  intro H locs ls hL hP hD hS
  refine va_newq X.1 X.2.1 X.2.2.2.1 (X.2.2.2.2.1 _ h1) X.2.2.2.2.2.2.2.1 X.2.2.2.2.2.1 hP hD hS X.2.2.2.2.2.2.1 hn hN hb hk hs hd (fun a cA H1 hK1 hP1 hD1 hS1 => ?_)
  have e : cA = cy 4 := by
    obtain ⟨kA, comp, a1, a2, a3, a4⟩ := (X.2.2.2.2.2.1.2 4 (cy 4, .object "MotherTowns$Shelf") rfl).2
    obtain ⟨kA', comp', b1', b2', b3', b4'⟩ := (hK1.2 5 (cA, .object "MotherTowns$Shelf") rfl).2
    exact Option.some.inj (b4'.symm.trans a4)
  subst e
  exact kk a H1 locs ls hL hP1 hD1 hS1
theorem i_putF (X : CI p s mt args c G cy own cc nL A) {h0 j ci idx : Nat} {fs : List Value} {ty : FieldType} {v : Value} (hin : meth.name = "<init>") (hd : decode cc pc = .ok (.putfield idx, 3)) (fl : FL own idx ci j ty true) (hcn : (vwCl[ci]?).map (fun q => q.1) = some own) (hn : narrow ty v = v) (hfit : fits ty v = true) (hl : j < fs.length)
    (he : ws[0]? = some (h0, .inr (ci, fs))) (kk : GI G p l e R s mt args below meth c nL A Q k w (pc + 3) L st (ws.set 0 (h0, .inr (ci, fs.set j v)))) : GI G p l e R s mt args below meth c nL A Q k w pc L (v :: .ref h0 :: st) ws := by
  obtain ⟨C, T, N, hc, hjN, hw, hsame, hty, hfin⟩ := fl
  intro H locs ls hL hP hD hS
  obtain ⟨ty0, h1, h2⟩ := cl_ok hc
  have hC : (T j).1 = own := by rw [hc] at hcn; rw [hsame]; exact Option.some.inj hcn
  exact va_putF X.1 X.2.1 X.2.2.2.2.1 (WS_u hc) ty0 h1 h2 X.2.2.2.1 X.2.2.2.2.2.1 hP hD hS 0 he hc j hjN (X.2.2.2.2.1 _ hw) (fun x h => by rw [← hsame]; exact h) hfin hin hC hty hn hfit hl hd (fun H1 locs1 hP1 hD1 hS1 => kk H1 locs1 ls hL hP1 hD1 hS1)
theorem i_puti (X : CI p s mt args c G cy own cc nL A) {h0 j ci idx : Nat} {fs : List Value} {ty : FieldType} {v : Value} (hd : decode cc pc = .ok (.putfield idx, 3)) (fl : FL own idx ci j ty false) (hn : narrow ty v = v) (hfit : fits ty v = true) (hl : j < fs.length)
    (he : ws[0]? = some (h0, .inr (ci, fs))) (kk : GI G p l e R s mt args below meth c nL A Q k w (pc + 3) L st (ws.set 0 (h0, .inr (ci, fs.set j v)))) : GI G p l e R s mt args below meth c nL A Q k w pc L (v :: .ref h0 :: st) ws := by
  obtain ⟨C, T, N, hc, hjN, hw, hsame, hty, hfin⟩ := fl
  intro H locs ls hL hP hD hS
  obtain ⟨ty0, h1, h2⟩ := cl_ok hc
  exact va_put X.1 X.2.1 X.2.2.2.2.1 (WS_u hc) ty0 h1 h2 X.2.2.2.1 X.2.2.2.2.2.1 hP hD hS 0 he hc j hjN (X.2.2.2.2.1 _ hw) (fun x h => by rw [← hsame]; exact h) hfin hty hn hfit hl hd (fun H1 locs1 hP1 hD1 hS1 => kk H1 locs1 ls hL hP1 hD1 hS1)
theorem i_get (X : CI p s mt args c G cy own cc nL A) {h0 j ci idx : Nat} {fs : List Value} {ty : FieldType} {fin : Bool} {v : Value} (hd : decode cc pc = .ok (.getfield idx, 3)) (fl : FL own idx ci j ty fin) (hf : fs[j]? = some v)
    (he : ws[0]? = some (h0, .inr (ci, fs))) (kk : GI G p l e R s mt args below meth c nL A Q k w (pc + 3) L (v :: st) ws) : GI G p l e R s mt args below meth c nL A Q k w pc L (.ref h0 :: st) ws := by
  obtain ⟨C, T, N, hc, hjN, hw, hsame, -⟩ := fl
  intro H locs ls hL hP hD hS
  exact va_get X.1 X.2.1 X.2.2.2.2.1 (WS_u hc) X.2.2.2.1 X.2.2.2.2.2.1 hP 0 he hc j hjN (X.2.2.2.2.1 _ hw) (fun x h => by rw [← hsame]; exact h) hf hd (kk H locs ls hL hP hD hS)
theorem i_iast (X : CI p s mt args c G cy own cc nL A) {q0 a n : Nat} {f : Nat → Int32} {i v : Int} (hd : decode cc pc = .ok (.iastore, 1)) (ha : ws[q0]? = some (a, .inl (cy 0, n, .inl f))) (hi : 0 ≤ i ∧ i < (n : Int)) (hr : inR i)
    (kk : GI G p l e R s mt args below meth c nL A Q k w (pc + 1) L st (ws.set q0 (a, .inl (cy 0, n, .inl (upd f (Int32.ofInt i).toNatClampNeg (Int32.ofInt v)))))) : GI G p l e R s mt args below meth c nL A Q k w pc L (iv v :: iv i :: .ref a :: st) ws := by
  intro H locs ls hL hP hD hS
  exact va_iast X.1 X.2.1 X.2.2.2.2.2.1 hP hD hS q0 0 ha rfl (oi_in hi hr) hd (fun H1 locs1 hP1 hD1 hS1 => kk H1 locs1 ls hL hP1 hD1 hS1)
theorem i_alen (X : CI p s mt args c G cy own cc nL A) {q0 a n : Nat} {f : Nat → Int32} (hd : decode cc pc = .ok (.arraylength, 1)) (ha : ws[q0]? = some (a, .inl (cy 0, n, .inl f)))
    (kk : GI G p l e R s mt args below meth c nL A Q k w (pc + 1) L (iv (n : Int) :: st) ws) : GI G p l e R s mt args below meth c nL A Q k w pc L (.ref a :: st) ws := by
  intro H locs ls hL hP hD hS
  have kk := kk H locs ls hL hP hD hS
  rw [show iv (n : Int) = Value.int (Int32.ofNat n) by rfl] at kk
  exact va_alen X.1 X.2.1 X.2.2.2.2.2.1 hP q0 0 ha (ty := .int) rfl rfl hd kk
theorem i_aast (X : CI p s mt args c G cy own cc nL A) {q0 qk a n v : Nat} {vs : List Value} {f : Nat → Option Nat} {i : Int} (hd : decode cc pc = .ok (.aastore, 1)) (ha : ws[q0]? = some (a, .inl (cy 4, n, .inr (.inr (.inr (.inr f)))))) (hv : ws[qk]? = some (v, .inr (6, vs))) (hi : 0 ≤ i ∧ i < (n : Int)) (hr : inR i)
    (kk : GI G p l e R s mt args below meth c nL A Q k w (pc + 1) L st (ws.set q0 (a, .inl (cy 4, n, .inr (.inr (.inr (.inr (va_up f (Int32.ofInt i).toNatClampNeg (some v))))))))) : GI G p l e R s mt args below meth c nL A Q k w pc L (.ref v :: iv i :: .ref a :: st) ws := by
  intro H locs ls hL hP hD hS
  exact va_astq X.1 X.2.1 X.2.2.2.2.2.1 hP hD hS q0 4 qk 6 (r := (RX6, TX6, 5)) ha rfl hv rfl (oi_in hi hr) hd (fun H1 locs1 hP1 hD1 hS1 => kk H1 locs1 ls hL hP1 hD1 hS1)
/-! the own object at the head, the cells that come behind it -/
theorem i_newaH (X : CI p s mt args c G cy own cc nL A) {x0 : Nat × va_E} {at' : ArrayType} {ty : FieldType} {n : Int} {N q : Nat} {a0 : vp_A} (hd : decode cc pc = .ok (.newarray at', 2)) (hty : newarray.typeOf at' = ty) (hp : ∀ C, ty ≠ .object C) (hw : Cond.arrayClass ty ∈ WS) (hq : (tysM cy)[q]? = some (cy q, ty)) (ha : ∀ cA : ClassId, vp_cell cA a0 = arrV cA N (fun _ => defaultValue ty)) (hn : ¬ Int32.ofInt n < 0) (hN : (Int32.ofInt n).toNatClampNeg = N) (hb : N * componentBytes ty ≤ 536870912) (hk : k + 1 ≤ R.cells) (hs : w + N ≤ R.slots)
    (kk : ∀ a, GI G p l e R s mt args below meth c nL A Q (k + 1) (w + N) (pc + 2) L (.ref a :: st) (x0 :: (ws ++ [(a, .inl (cy q, a0))]))) : GI G p l e R s mt args below meth c nL A Q k w pc L (iv n :: st) (x0 :: ws) :=
  i_newa X hd hty hp hw hq ha hn hN hb hk hs (fun a => kk a)
theorem i_newqH (X : CI p s mt args c G cy own cc nL A) {x0 : Nat × va_E} {idx : Nat} {n : Int} {N : Nat} (hd : decode cc pc = .ok (.anewarray idx, 3)) (h1 : Cond.classLink own idx "MotherTowns$Shelf" ∈ WS) (hn : ¬ Int32.ofInt n < 0) (hN : (Int32.ofInt n).toNatClampNeg = N) (hb : N * 4 ≤ 536870912) (hk : k + 1 ≤ R.cells) (hs : w + N ≤ R.slots)
    (kk : ∀ a, GI G p l e R s mt args below meth c nL A Q (k + 1) (w + N) (pc + 3) L (.ref a :: st) (x0 :: (ws ++ [(a, .inl (cy 4, N, .inr (.inr (.inr (.inr (fun _ => none))))))]))) : GI G p l e R s mt args below meth c nL A Q k w pc L (iv n :: st) (x0 :: ws) :=
  i_newq X hd h1 hn hN hb hk hs (fun a => kk a)
theorem i_newH (X : CI p s mt args c G cy own cc nL A) {x0 : Nat × va_E} {idx ci N : Nat} {C : String} {T : u_T} {ty : Nat → FieldType} {fs : List Value} (hd : decode cc pc = .ok (.new idx, 3)) (hc : vwCl[ci]? = some (C, T, N)) (hty : ∀ k, k < N → parseFieldDescriptor (T k).2.2.1 = some (ty k)) (hfs : ∀ j, j < N → defaultValue (ty j) = vp_V fs j) (h1 : Cond.classLink own idx C ∈ WS) (h2 : Cond.instantiable C N ∈ WS) (h3 : Cond.initialized C ∈ WS) (hk : k + 1 ≤ R.cells) (hs : w + N ≤ R.slots)
    (kk : ∀ a, GI G p l e R s mt args below meth c nL A Q (k + 1) (w + N) (pc + 3) L (.ref a :: st) (x0 :: (ws ++ [(a, .inr (ci, fs))]))) : GI G p l e R s mt args below meth c nL A Q k w pc L st (x0 :: ws) :=
  i_new X hd hc hty hfs h1 h2 h3 hk hs (fun a => kk a)
theorem i_putFH (X : CI p s mt args c G cy own cc nL A) {h0 j ci idx : Nat} {fs fs' : List Value} {ty : FieldType} {v : Value} (hin : meth.name = "<init>") (hd : decode cc pc = .ok (.putfield idx, 3)) (fl : FL own idx ci j ty true) (hcn : (vwCl[ci]?).map (fun q => q.1) = some own) (hn : narrow ty v = v) (hfit : fits ty v = true) (hl : j < fs.length) (hf : fs.set j v = fs')
    (kk : GI G p l e R s mt args below meth c nL A Q k w (pc + 3) L st ((h0, .inr (ci, fs')) :: ws)) : GI G p l e R s mt args below meth c nL A Q k w pc L (v :: .ref h0 :: st) ((h0, .inr (ci, fs)) :: ws) := by
  subst hf; exact i_putF X hin hd fl hcn hn hfit hl rfl kk
theorem i_putiH (X : CI p s mt args c G cy own cc nL A) {h0 j ci idx : Nat} {fs fs' : List Value} {ty : FieldType} {v : Value} (hd : decode cc pc = .ok (.putfield idx, 3)) (fl : FL own idx ci j ty false) (hn : narrow ty v = v) (hfit : fits ty v = true) (hl : j < fs.length) (hf : fs.set j v = fs')
    (kk : GI G p l e R s mt args below meth c nL A Q k w (pc + 3) L st ((h0, .inr (ci, fs')) :: ws)) : GI G p l e R s mt args below meth c nL A Q k w pc L (v :: .ref h0 :: st) ((h0, .inr (ci, fs)) :: ws) := by
  subst hf; exact i_puti X hd fl hn hfit hl rfl kk
theorem i_getH (X : CI p s mt args c G cy own cc nL A) {h0 j ci idx : Nat} {fs : List Value} {ty : FieldType} {fin : Bool} {v : Value} (hd : decode cc pc = .ok (.getfield idx, 3)) (fl : FL own idx ci j ty fin) (hf : fs[j]? = some v)
    (kk : GI G p l e R s mt args below meth c nL A Q k w (pc + 3) L (v :: st) ((h0, .inr (ci, fs)) :: ws)) : GI G p l e R s mt args below meth c nL A Q k w pc L (.ref h0 :: st) ((h0, .inr (ci, fs)) :: ws) := i_get X hd fl hf rfl kk
/-- a store into the array that came last -/
theorem i_iastH (X : CI p s mt args c G cy own cc nL A) {x0 : Nat × va_E} {a n : Nat} {f : Nat → Int32} {i v : Int} (hd : decode cc pc = .ok (.iastore, 1)) (hi : 0 ≤ i ∧ i < (n : Int)) (hr : inR i)
    (kk : GI G p l e R s mt args below meth c nL A Q k w (pc + 1) L st (x0 :: (ws ++ [(a, .inl (cy 0, n, .inl (upd f (Int32.ofInt i).toNatClampNeg (Int32.ofInt v))))]))) : GI G p l e R s mt args below meth c nL A Q k w pc L (iv v :: iv i :: .ref a :: st) (x0 :: (ws ++ [(a, .inl (cy 0, n, .inl f))])) := by
  refine i_iast (f := f) (n := n) (q0 := ws.length + 1) X hd (by simp) hi hr ?_
  have e : (x0 :: (ws ++ [(a, .inl (cy 0, n, .inl f))])).set (ws.length + 1) (a, .inl (cy 0, n, .inl (upd f (Int32.ofInt i).toNatClampNeg (Int32.ofInt v)))) = x0 :: (ws ++ [(a, .inl (cy 0, n, .inl (upd f (Int32.ofInt i).toNatClampNeg (Int32.ofInt v))))]) := by
    rw [List.set_cons_succ, List.set_append_right _ _ (Nat.le_refl _), Nat.sub_self]; rfl
  rw [e]; exact kk
/-- a store into an array that stands behind some -/
theorem i_iastM (X : CI p s mt args c G cy own cc nL A) {x0 : Nat × va_E} {wa wb : va_W} {a n : Nat} {f : Nat → Int32} {i v : Int} (hd : decode cc pc = .ok (.iastore, 1)) (hi : 0 ≤ i ∧ i < (n : Int)) (hr : inR i)
    (kk : GI G p l e R s mt args below meth c nL A Q k w (pc + 1) L st (x0 :: (wa ++ (a, .inl (cy 0, n, .inl (upd f (Int32.ofInt i).toNatClampNeg (Int32.ofInt v)))) :: wb))) : GI G p l e R s mt args below meth c nL A Q k w pc L (iv v :: iv i :: .ref a :: st) (x0 :: (wa ++ (a, .inl (cy 0, n, .inl f)) :: wb)) := by
  refine i_iast (f := f) (n := n) (q0 := wa.length + 1) X hd (by simp) hi hr ?_
  have e : (x0 :: (wa ++ (a, .inl (cy 0, n, .inl f)) :: wb)).set (wa.length + 1) (a, .inl (cy 0, n, .inl (upd f (Int32.ofInt i).toNatClampNeg (Int32.ofInt v)))) = x0 :: (wa ++ (a, .inl (cy 0, n, .inl (upd f (Int32.ofInt i).toNatClampNeg (Int32.ofInt v)))) :: wb) := by
    rw [List.set_cons_succ, List.set_append_right _ _ (Nat.le_refl _), Nat.sub_self]; rfl
  rw [e]; exact kk
theorem i_aastM (X : CI p s mt args c G cy own cc nL A) {x0 : Nat × va_E} {wa wb : va_W} {a n v u : Nat} {vs : List Value} {f : Nat → Option Nat} {i : Int} (hd : decode cc pc = .ok (.aastore, 1)) (hv : wb[u]? = some (v, .inr (6, vs))) (hi : 0 ≤ i ∧ i < (n : Int)) (hr : inR i)
    (kk : GI G p l e R s mt args below meth c nL A Q k w (pc + 1) L st (x0 :: (wa ++ (a, .inl (cy 4, n, .inr (.inr (.inr (.inr (va_up f (Int32.ofInt i).toNatClampNeg (some v))))))) :: wb))) : GI G p l e R s mt args below meth c nL A Q k w pc L (.ref v :: iv i :: .ref a :: st) (x0 :: (wa ++ (a, .inl (cy 4, n, .inr (.inr (.inr (.inr f))))) :: wb)) := by
  have hv' : (x0 :: (wa ++ (a, .inl (cy 4, n, .inr (.inr (.inr (.inr f))))) :: wb))[wa.length + 2 + u]? = some (v, .inr (6, vs)) := by
    rw [show wa.length + 2 + u = (wa.length + (u + 1)) + 1 by omega, List.getElem?_cons_succ, List.getElem?_append_right (by omega), show wa.length + (u + 1) - wa.length = u + 1 by omega, List.getElem?_cons_succ]; exact hv
  refine i_aast (f := f) (n := n) (q0 := wa.length + 1) (qk := wa.length + 2 + u) X hd (by simp) hv' hi hr ?_
  have e : (x0 :: (wa ++ (a, .inl (cy 4, n, .inr (.inr (.inr (.inr f))))) :: wb)).set (wa.length + 1) (a, .inl (cy 4, n, .inr (.inr (.inr (.inr (va_up f (Int32.ofInt i).toNatClampNeg (some v))))))) = x0 :: (wa ++ (a, .inl (cy 4, n, .inr (.inr (.inr (.inr (va_up f (Int32.ofInt i).toNatClampNeg (some v))))))) :: wb) := by
    rw [List.set_cons_succ, List.set_append_right _ _ (Nat.le_refl _), Nat.sub_self]; rfl
  rw [e]; exact kk
/-- behind a constructor's call: its world beside the rest -/
theorem i_call {idx mx D' mc ms : Nat} {y : MethodName} {b : ByteArray} {x : Nat × va_E} {as stk rest : List Value} {wf : (Nat → Nat) → va_W} {ls : Array Slot} {H : Heap} {locs : List Loc} {a : Array Value} (X : CI p s mt args c G cy own cc nL A)
    (hr : va_Run p l e R s mt args below meth c H locs k w mc ms (F0 mt pc ls stk) rest (va_Qv (fun _ : Nat → Nat => True) (fun u t => va_P G vwCl (wf u) t.heap ∧ va_D (va_A [x] H.size) (wf u)) (va_A [x] H.size) a) (va_A [x] H.size)) (hL : LH ls nL L) (hP : va_P G vwCl (ws ++ [x]) H) (hD : va_D A (ws ++ [x])) (hS : va_S A s.heap H locs)
    (kk : ∀ u, GI G p l e R s mt args below meth c nL A Q (k + mc) (w + ms) (pc + 3) L rest (ws ++ wf u)) : W p l e R s mt args below meth c H locs k w Q (F0 mt pc ls stk) := by
  have hC : [ws.length].map (fun i => (ws ++ [x])[i]?) = [x].map some := by simp
  have hFc := va_free (wc := [x]) hD hS X.2.2.2.2.2.2.1 [ws.length] hC
  refine va_callv hr hS (fun q _ h => hFc q h) hFc (fun u t H1 locs1 ht hvm hw hB hz1 hk1 hS1 => ?_)
  obtain ⟨hP1, hD1⟩ := hB
  rw [ht] at hP1
  have hR : (List.range ws.length).map (fun i => (ws ++ [x])[i]?) = ws.map some := by
    apply List.ext_getElem?
    intro i
    rw [List.getElem?_map, List.getElem?_map]
    by_cases h : i < ws.length
    · rw [List.getElem?_range h, List.getElem?_eq_getElem h]
      show some ((ws ++ [x])[i]?) = some (some ws[i])
      rw [List.getElem?_append_left h, List.getElem?_eq_getElem h]
    · rw [List.getElem?_eq_none (by rw [List.length_range]; omega), List.getElem?_eq_none (by omega)]; rfl
  obtain ⟨hP2, hD2⟩ := va_join (wr := ws) (w1 := wf u) hP hD [ws.length] (List.range ws.length) hC hR (va_nd_of _ List.nodup_range) (fun i hi => by
    rw [List.mem_range] at hi
    rw [List.mem_singleton]; omega) hk1 hFc hP1 hD1
  exact kk u H1 locs1 ls hL hP2 hD2 hS1
theorem pre_I {x : Nat × va_E} {as : List Value} {H : Heap} {locs : List Loc} (X : CI p s mt args c G cy own cc nL A) (hP : va_P G vwCl (ws ++ [x]) H) (hD : va_D A (ws ++ [x])) : PreS s H (va_Pc as (WIx G cy x H.size)) as := by
  have hPc := hP.sub (ws' := [x]) [ws.length] (by simp)
  have hDc := hD.sub (ws' := [x]) [ws.length] rfl (by simp)
  refine ⟨fun a U g mk q => ?_, fun U hU hW => ⟨rfl, by rw [hU], by rw [hU]; exact hPc, va_K.moved hW.alike X.2.2.2.2.2.1, hDc.weaken (fun _ _ _ _ => trivial), ?_, fun q hq => va_Nw.warmM hW (X.2.2.2.2.2.2.2.2 q hq)⟩⟩
  · obtain ⟨q0, q1, qP, qK, qD, qO, qN⟩ := q
    exact ⟨q0, q1, qP, va_K.moved (u := U) (U := U.calling g mk a) (Vm.Alike.refl U.vm) qK, qD, qO, fun z hz => va_Nw.same (u := U) (U := U.calling g mk a) rfl rfl (qN z hz)⟩
  · exact va_AO.moved hW.alike X.2.2.2.2.2.2.2.1
theorem WS_in {y : MethodName} {b : ByteArray} {mx : Nat} {ret : Option FieldType} (h : Cond.code y b mx ret ∈ WS) : ∀ w ∈ (Cond.code y b mx ret :: WS), w ∈ WS ∧ ((w.onTables && w.keeps) = true ∨ ∃ ty, w = .arrayClass ty) := fun w hw => by
  have : w ∈ WS := by
    rcases List.mem_cons.mp hw with h' | h'
    · rw [h']; exact h
    · exact h'
  exact ⟨this, WS_good this⟩
theorem i_callI {idx mx D' mc ms n : Nat} {y : MethodName} {b : ByteArray} {x : Nat × va_E} {as rest stk : List Value} {wf : (Nat → Nat) → va_W} (X : CI p s mt args c G cy own cc nL A) (hd : decode cc pc = .ok (.invokespecial idx, 3)) (lk : CLI own idx y b mx n) (hl : Cond.methodLink own idx y ∈ WS) (hM : CTI l G cy y b mx D' mc ms x (.ref x.1 :: as) wf) (hn : as.length = n) (hcat : (rest.map fun v => v.category).sum ≤ 8) (hst : as.reverse ++ .ref x.1 :: rest = stk) (hRf : D' + 1 ≤ R.frames ∧ 64 * (D' + 1) ≤ R.locals) (hk : k + mc ≤ R.cells) (hs : w + ms ≤ R.slots)
    (kk : ∀ u, GI G p l e R s mt args below meth c nL A Q (k + mc) (w + ms) (pc + 3) L rest (ws ++ wf u)) : GI G p l e R s mt args below meth c nL A Q k w pc L stk (ws ++ [x]) := by
  subst hst
  intro H locs ls hL hP hD hS
  have h2 : 8 + (mx + 11) + (rmI D' mc ms).locals ≤ R.locals := by show 8 + (mx + 11) + 64 * D' ≤ _; have := lk.1.2.2.2; omega
  have cw := callB_of (rm := rmI D' mc ms) n X.2.2.2.2.1 (WS_in lk.1.1) rfl rfl rfl (X.2.2.2.2.1 _ lk.1.2.1) (X.2.2.2.2.1 _ hl) lk.1.2.2.1 ⟨hRf.1, h2⟩
  exact i_call (D' := D') (idx := idx) (mx := mx) (y := y) (b := b) (as := as) X (va_runI ⟨X.1, X.2.1, X.2.2.1, X.2.2.2.1, X.2.2.2.2.1⟩ (hM H.size) ⟨cw, lk.2.1, X.2.2.2.2.1 _ lk.2.2⟩ (pre_I (locs := locs) X hP hD) rfl hn hL.1 rfl (lv_room hcat) hd ⟨hk, hs⟩) hL hP hD hS kk
theorem i_callN {idx mx D' mc ms n : Nat} {y : MethodName} {b : ByteArray} {x : Nat × va_E} {as rest stk : List Value} {wf : (Nat → Nat) → va_W} (X : CI p s mt args c G cy own cc nL A) (hd : decode cc pc = .ok (.invokespecial idx, 3)) (lk : CLI own idx y b mx n) (hl : (own, idx, y) ∈ NC) (hM : CTI l G cy y b mx D' mc ms x (.ref x.1 :: as) wf) (hn : as.length = n) (hcat : (rest.map fun v => v.category).sum ≤ 8) (hst : as.reverse ++ .ref x.1 :: rest = stk) (hRf : D' + 1 ≤ R.frames ∧ 64 * (D' + 1) ≤ R.locals) (hk : k + mc ≤ R.cells) (hs : w + ms ≤ R.slots)
    (kk : ∀ u, GI G p l e R s mt args below meth c nL A Q (k + mc) (w + ms) (pc + 3) L rest (ws ++ wf u)) : GI G p l e R s mt args below meth c nL A Q k w pc L stk (ws ++ [x]) := by
  subst hst
  intro H locs ls hL hP hD hS
  have h2 : 8 + (mx + 11) + (rmI D' mc ms).locals ≤ R.locals := by show 8 + (mx + 11) + 64 * D' ≤ _; have := lk.1.2.2.2; omega
  have cw := va_cnB (rm := rmI D' mc ms) n X.2.2.2.2.1 (WS_in lk.1.1) rfl rfl rfl (X.2.2.2.2.2.2.2.2 _ hl) (X.2.2.2.2.1 _ lk.1.2.1) lk.1.2.2.1 ⟨hRf.1, h2⟩
  exact i_call (D' := D') (idx := idx) (mx := mx) (y := y) (b := b) (as := as) X (va_runIN ⟨X.1, X.2.1, X.2.2.1, X.2.2.2.1, X.2.2.2.2.1⟩ (hM H.size) ⟨cw, lk.2.1, X.2.2.2.2.1 _ lk.2.2⟩ (pre_I (locs := locs) X hP hD) rfl hn hL.1 rfl (lv_room hcat) hd ⟨hk, hs⟩) hL hP hD hS kk
/-- a static method that fills: called with an array -/
theorem i_callS {idx mx D' mc ms n : Nat} {y : MethodName} {b : ByteArray} {x : Nat × va_E} {as rest stk : List Value} {wf : (Nat → Nat) → va_W} (X : CI p s mt args c G cy own cc nL A) (hd : decode cc pc = .ok (.invokestatic idx, 3)) (lk : CLS own idx y b mx none n) (hM : CTI l G cy y b mx D' mc ms x as wf) (hn : as.length = n) (hcat : (rest.map fun v => v.category).sum ≤ 8) (hst : as.reverse ++ rest = stk) (hRf : D' + 1 ≤ R.frames ∧ 64 * (D' + 1) ≤ R.locals) (hk : k + mc ≤ R.cells) (hs : w + ms ≤ R.slots)
    (kk : ∀ u, GI G p l e R s mt args below meth c nL A Q (k + mc) (w + ms) (pc + 3) L rest (ws ++ wf u)) : GI G p l e R s mt args below meth c nL A Q k w pc L stk (ws ++ [x]) := by
  subst hst
  intro H locs ls hL hP hD hS
  have h2 : 8 + (mx + 11) + (rmI D' mc ms).locals ≤ R.locals := by show 8 + (mx + 11) + 64 * D' ≤ _; have := lk.1.2.2.2; omega
  have cw := callB_of (rm := rmI D' mc ms) n X.2.2.2.2.1 (WS_in lk.1.1) rfl rfl rfl (X.2.2.2.2.1 _ lk.1.2.1) (X.2.2.2.2.1 _ lk.2.1) lk.1.2.2.1 ⟨hRf.1, h2⟩
  exact i_call (D' := D') (idx := idx) (mx := mx) (y := y) (b := b) (as := as) X (va_runS ⟨X.1, X.2.1, X.2.2.1, X.2.2.2.1, X.2.2.2.2.1⟩ (hM H.size) ⟨cw, X.2.2.2.2.1 _ lk.2.2⟩ (pre_I (locs := locs) X hP hD) rfl hn hL.1 rfl (lv_room hcat) hd ⟨hk, hs⟩) hL hP hD hS kk
theorem i_callIH {idx mx D' mc ms n : Nat} {y : MethodName} {b : ByteArray} {x0 x : Nat × va_E} {as stk rest : List Value} {wf : (Nat → Nat) → va_W} (X : CI p s mt args c G cy own cc nL A) (hd : decode cc pc = .ok (.invokespecial idx, 3)) (lk : CLI own idx y b mx n) (hl : Cond.methodLink own idx y ∈ WS) (hM : CTI l G cy y b mx D' mc ms x (.ref x.1 :: as) wf) (hn : as.length = n) (hcat : (rest.map fun v => v.category).sum ≤ 8) (hst : as.reverse ++ .ref x.1 :: rest = stk) (hRf : D' + 1 ≤ R.frames ∧ 64 * (D' + 1) ≤ R.locals) (hk : k + mc ≤ R.cells) (hs : w + ms ≤ R.slots)
    (kk : ∀ u, GI G p l e R s mt args below meth c nL A Q (k + mc) (w + ms) (pc + 3) L rest (x0 :: (ws ++ wf u))) : GI G p l e R s mt args below meth c nL A Q k w pc L stk (x0 :: (ws ++ [x])) :=
  i_callI (ws := x0 :: ws) X hd lk hl hM hn hcat hst hRf hk hs (fun u => kk u)
theorem i_callNH {idx mx D' mc ms n : Nat} {y : MethodName} {b : ByteArray} {x0 x : Nat × va_E} {as stk rest : List Value} {wf : (Nat → Nat) → va_W} (X : CI p s mt args c G cy own cc nL A) (hd : decode cc pc = .ok (.invokespecial idx, 3)) (lk : CLI own idx y b mx n) (hl : (own, idx, y) ∈ NC) (hM : CTI l G cy y b mx D' mc ms x (.ref x.1 :: as) wf) (hn : as.length = n) (hcat : (rest.map fun v => v.category).sum ≤ 8) (hst : as.reverse ++ .ref x.1 :: rest = stk) (hRf : D' + 1 ≤ R.frames ∧ 64 * (D' + 1) ≤ R.locals) (hk : k + mc ≤ R.cells) (hs : w + ms ≤ R.slots)
    (kk : ∀ u, GI G p l e R s mt args below meth c nL A Q (k + mc) (w + ms) (pc + 3) L rest (x0 :: (ws ++ wf u))) : GI G p l e R s mt args below meth c nL A Q k w pc L stk (x0 :: (ws ++ [x])) :=
  i_callN (ws := x0 :: ws) X hd lk hl hM hn hcat hst hRf hk hs (fun u => kk u)
theorem i_callSH {idx mx D' mc ms n : Nat} {y : MethodName} {b : ByteArray} {x0 x : Nat × va_E} {as stk rest : List Value} {wf : (Nat → Nat) → va_W} (X : CI p s mt args c G cy own cc nL A) (hd : decode cc pc = .ok (.invokestatic idx, 3)) (lk : CLS own idx y b mx none n) (hM : CTI l G cy y b mx D' mc ms x as wf) (hn : as.length = n) (hcat : (rest.map fun v => v.category).sum ≤ 8) (hst : as.reverse ++ rest = stk) (hRf : D' + 1 ≤ R.frames ∧ 64 * (D' + 1) ≤ R.locals) (hk : k + mc ≤ R.cells) (hs : w + ms ≤ R.slots)
    (kk : ∀ u, GI G p l e R s mt args below meth c nL A Q (k + mc) (w + ms) (pc + 3) L rest (x0 :: (ws ++ wf u))) : GI G p l e R s mt args below meth c nL A Q k w pc L stk (x0 :: (ws ++ [x])) :=
  i_callS (ws := x0 :: ws) X hd lk hM hn hcat hst hRf hk hs (fun u => kk u)
end CTR
/-- the end of a constructor -/
def RTI (b : ByteArray) (mc ms : Nat) (wf : (Nat → Nat) → va_W) (Go : Nat → Nat → Nat → List (Option Value) → List Value → va_W → Prop) : Prop := ∀ {pc k w : Nat} {L : List (Option Value)} (u : Nat → Nat), decode b pc = .ok (.return_, 1) → k = mc → w = ms → Go k w pc L [] (wf u)
theorem CTI_of {l : Launch} {G : va_G} {cy : Nat → Nat} {y : MethodName} {b : ByteArray} {mx D mc ms : Nat} {x : Nat × va_E} {as : List Value} {wf : (Nat → Nat) → va_W} (hy : plainName y.cls = true) (hlen : (lg_sl as).length ≤ mx)
    (hb : ∀ {p : Program} {e : Env} {s : State} {mt : MethodId} {args : Array Value} {below : List Frame} {meth : Method} {c : Code} {A : Nat → Prop} {Q : State → Prop}, CI p s mt args c G cy y.cls b mx A → (y.name = "<init>" → meth.name = "<init>") → RTI b mc ms wf (GI G p l e (rmI D mc ms) s mt args below meth c mx A Q) → GI G p l e (rmI D mc ms) s mt args below meth c mx A Q 0 0 0 (mkN as mx) [] [x]) : CTI l G cy y b mx D mc ms x as wf := by
  intro sz
  refine Met.ofW (cc := b) (maxL := mx) (ret := none) hy rfl ?_
  intro p e s mt args below meth c s₁ B hml hv
  obtain ⟨rfl, hsz, hP, hK, hD0, hO, hN⟩ := hv
  subst hsz
  have hx := B.exec
  have hbb := B.bytes
  have hr := B.returns
  have hts := atoms_spec (ws := Cond.code y b mx none :: WS) B.pre
  have hown : s.vm.findClass y.cls = some mt.cls := findClass_of_methodNamed B.named
  have hlocks := B.notSynchronized
  have hin : meth.name = y.name := (name_of_methodNamed B.named B.method).1
  have hA : ∀ q : Nat, s.heap.size ≤ q → va_A [x] s.heap.size q := fun q h => Or.inr h
  have X : CI p s mt as.toArray c G cy y.cls b mx (va_A [x] s.heap.size) := ⟨hx, hbb, hml, hown, fun w hw => hts w (List.mem_cons_of_mem _ hw), hK, hA, hO, hN⟩
  have h := hb (e := e) (below := below) (meth := meth) (Q := MQ below (va_Qv (fun _ : Nat → Nat => True) (fun u t => va_P G vwCl (wf u) t.heap ∧ va_D (va_A [x] s.heap.size) (wf u)) (va_A [x] s.heap.size)) as.toArray s mc ms (va_A [x] s.heap.size)) X (fun q => hin.trans q) ?_
  · rw [lg_entry_eq]
    exact h s.heap [] _ (LH_entry as hlen) hP hD0.self va_S.rf
  · intro pc k w L u hd hk hw H locs ls hL hPH hDH hS
    subst hk; subst hw
    exact W.vret hx hbb hr (fun t ht hW => ⟨⟨u, rfl, trivial, by rw [ht]; exact hPH, hDH⟩, hS.F ht⟩) hS.2.2 hd
