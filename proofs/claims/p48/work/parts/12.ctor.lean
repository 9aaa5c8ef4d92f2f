/-! 07: constructors: cells come; the judgement G over explicit lists of cells -/
abbrev C3 : Type := ClassId × ClassId × ClassId
abbrev tysC (cc : C3) : List (ClassId × FieldType) := [(cc.1, .byte), (cc.2.1, .int)]
def V0 (D : va_G) (cc : C3) : EV := (fun k => k, D, cc, (fun k => k, .null))
def CxG (D : va_G) (cc : C3) (own : String) (b : ByteArray) (nL d MC MS : Nat) (ini : Bool) (p : Program) (R : Room) (s : State) (m : MethodId) (args : Array Value) (meth : Method) (c : Code) (A : Nat → Prop) : Prop :=
  p.tables.exec = Jvm.exec ∧ c.code = b ∧ c.maxLocals = nL ∧ s.vm.findClass own = some m.cls ∧ (∀ w ∈ TBG, w.before args s = true) ∧ va_K D vwCl (tysC cc) s ∧ (∀ w ∈ NWL, va_Nw w s) ∧ d ≤ R.frames ∧ 40 * d ≤ R.locals ∧ MC ≤ R.cells ∧ MS ≤ R.slots ∧ (∀ q, s.heap.size ≤ q → A q) ∧ (ini = true → meth.name = "<init>")
def G (D : va_G) (cc : C3) (own : String) (b : ByteArray) (nL d MC MS : Nat) (ini : Bool) (pc : Nat) (ls : List (Option Value)) (st : List Value) (ws : va_W) (cells slots : Nat) (Q : Nat → List (Option Value) → List Value → va_W → Nat → Nat → Prop) : Prop :=
  ∀ (p : Program) (l : Launch) (e : Env) (R : Room) (s : State) (m : MethodId) (args : Array Value) (below : List Frame) (meth : Method) (c : Code) (A : Nat → Prop) (H : Heap) (locs : List Loc) (la : Array Slot) (Z : State → Prop),
    CxG D cc own b nL d MC MS ini p R s m args meth c A → va_P D vwCl ws H → va_D A ws → va_S A s.heap H locs → hasL (V0 D cc) la nL ls →
    (∀ (pc' : Nat) (ls' : List (Option Value)) (st' : List Value) (ws' : va_W) (cells' slots' : Nat) (H' : Heap) (locs' : List Loc) (la' : Array Slot), Q pc' ls' st' ws' cells' slots' → va_P D vwCl ws' H' → va_D A ws' → va_S A s.heap H' locs' → hasL (V0 D cc) la' nL ls' →
      W p l e R s m args below meth c H' locs' cells' slots' Z (F0 m pc' la' st')) →
    W p l e R s m args below meth c H locs cells slots Z (F0 m pc la st)
section GR
variable {D : va_G} {cc : C3} {own : String} {b : ByteArray} {nL d MC MS : Nat} {ini : Bool} {pc : Nat} {ls : List (Option Value)} {st : List Value} {ws : va_W} {cells slots : Nat} {Q : Nat → List (Option Value) → List Value → va_W → Nat → Nat → Prop}
theorem G.done (h : Q pc ls st ws cells slots) : G D cc own b nL d MC MS ini pc ls st ws cells slots Q := by
  intro p l e R s m args below meth c A H locs la Z C hP hD hS hl K
  exact K pc ls st ws cells slots H locs la h hP hD hS hl
theorem G_aload_n {i : Fin 4} {v : Nat} (hd : decode b pc = .ok (.aload_n i, 1)) (hi : ls[(i : Nat)]? = some (some (.ref v))) (k : G D cc own b nL d MC MS ini (pc + 1) ls (.ref v :: st) ws cells slots Q) : G D cc own b nL d MC MS ini pc ls st ws cells slots Q := by
  intro p l e R s m args below meth c A H locs la Z C hP hD hS hl K
  exact lv_aload_n C.1 C.2.1 hd rfl (hasL_at hl hi) (k p l e R s m args below meth c A H locs la Z C hP hD hS hl K)
theorem G_iconst {n : Int} (v : Int32) (hd : decode b pc = .ok (.iconst n, 1)) (hv : Int32.ofInt n = v) (k : G D cc own b nL d MC MS ini (pc + 1) ls (.int v :: st) ws cells slots Q) : G D cc own b nL d MC MS ini pc ls st ws cells slots Q := by
  intro p l e R s m args below meth c A H locs la Z C hP hD hS hl K
  exact lv_iconst C.1 C.2.1 hd hv (k p l e R s m args below meth c A H locs la Z C hP hD hS hl K)
theorem G_bipush {n : Int} (v : Int32) (hd : decode b pc = .ok (.bipush n, 2)) (hv : (Int8.ofInt n).toInt32 = v) (k : G D cc own b nL d MC MS ini (pc + 2) ls (.int v :: st) ws cells slots Q) : G D cc own b nL d MC MS ini pc ls st ws cells slots Q := by
  intro p l e R s m args below meth c A H locs la Z C hP hD hS hl K
  exact lv_bipush C.1 C.2.1 hd hv (k p l e R s m args below meth c A H locs la Z C hP hD hS hl K)
theorem G_sipush {n : Int} (v : Int32) (hd : decode b pc = .ok (.sipush n, 3)) (hv : (Int16.ofInt n).toInt32 = v) (k : G D cc own b nL d MC MS ini (pc + 3) ls (.int v :: st) ws cells slots Q) : G D cc own b nL d MC MS ini pc ls st ws cells slots Q := by
  intro p l e R s m args below meth c A H locs la Z C hP hD hS hl K
  exact lv_sipush C.1 C.2.1 hd hv (k p l e R s m args below meth c A H locs la Z C hP hD hS hl K)
theorem G_ldc {ix : Nat} (v : Int32) (hd : decode b pc = .ok (.ldc ix, 2)) (hw : Cond.constant own ix v ∈ TBG) (k : G D cc own b nL d MC MS ini (pc + 2) ls (.int v :: st) ws cells slots Q) : G D cc own b nL d MC MS ini pc ls st ws cells slots Q := by
  intro p l e R s m args below meth c A H locs la Z C hP hD hS hl K
  exact lv_ldc C.1 C.2.1 C.2.2.2.1 (C.2.2.2.2.1 _ hw) hd (k p l e R s m args below meth c A H locs la Z C hP hD hS hl K)
theorem G_null (hd : decode b pc = .ok (.aconst_null, 1)) (k : G D cc own b nL d MC MS ini (pc + 1) ls (.null :: st) ws cells slots Q) : G D cc own b nL d MC MS ini pc ls st ws cells slots Q := by
  intro p l e R s m args below meth c A H locs la Z C hP hD hS hl K
  exact lv_null C.1 C.2.1 hd (k p l e R s m args below meth c A H locs la Z C hP hD hS hl K)
theorem G_dup {a : Nat} (hd : decode b pc = .ok (.dup, 1)) (k : G D cc own b nL d MC MS ini (pc + 1) ls (.ref a :: .ref a :: st) ws cells slots Q) : G D cc own b nL d MC MS ini pc ls (.ref a :: st) ws cells slots Q := by
  intro p l e R s m args below meth c A H locs la Z C hP hD hS hl K
  exact lv_dup C.1 C.2.1 hd rfl (k p l e R s m args below meth c A H locs la Z C hP hD hS hl K)
theorem G_astore_n {i : Fin 4} {x : Nat} {ls' : List (Option Value)} (hd : decode b pc = .ok (.astore_n i, 1)) (hn : Nat.ble ((i : Nat) + 1) nL = true) (hk : okst ls (i : Nat) = true) (hl' : ls.set (i : Nat) (some (.ref x)) = ls') (k : G D cc own b nL d MC MS ini (pc + 1) ls' st ws cells slots Q) : G D cc own b nL d MC MS ini pc ls (.ref x :: st) ws cells slots Q := by
  intro p l e R s m args below meth c A H locs la Z C hP hD hS hl K
  subst hl'
  exact lv_astore_n C.1 C.2.1 hd rfl (asc_of hl) (Nat.le_of_ble_eq_true hn) rfl (fun la' h' => k p l e R s m args below meth c A H locs la' Z C hP hD hS (asc_st (v := .ref x) h' hk) K)
theorem G_astore {i : Nat} {x : Nat} {ls' : List (Option Value)} (hd : decode b pc = .ok (.astore i, 2)) (hn : Nat.ble (i + 1) nL = true) (hk : okst ls i = true) (hl' : ls.set i (some (.ref x)) = ls') (k : G D cc own b nL d MC MS ini (pc + 2) ls' st ws cells slots Q) : G D cc own b nL d MC MS ini pc ls (.ref x :: st) ws cells slots Q := by
  intro p l e R s m args below meth c A H locs la Z C hP hD hS hl K
  subst hl'
  exact lv_astore C.1 C.2.1 hd (asc_of hl) (Nat.le_of_ble_eq_true hn) rfl (fun la' h' => k p l e R s m args below meth c A H locs la' Z C hP hD hS (asc_st (v := .ref x) h' hk) K)
theorem G_istore_n {i : Fin 4} {x : Int32} {ls' : List (Option Value)} (hd : decode b pc = .ok (.istore_n i, 1)) (hn : Nat.ble ((i : Nat) + 1) nL = true) (hk : okst ls (i : Nat) = true) (hl' : ls.set (i : Nat) (some (.int x)) = ls') (k : G D cc own b nL d MC MS ini (pc + 1) ls' st ws cells slots Q) : G D cc own b nL d MC MS ini pc ls (.int x :: st) ws cells slots Q := by
  intro p l e R s m args below meth c A H locs la Z C hP hD hS hl K
  subst hl'
  exact lv_istore_n C.1 C.2.1 hd rfl (asc_of hl) (Nat.le_of_ble_eq_true hn) rfl (fun la' h' => k p l e R s m args below meth c A H locs la' Z C hP hD hS (asc_st (v := .int x) h' hk) K)
theorem G_objInit {ix a : Nat} (hd : decode b pc = .ok (.invokespecial ix, 3)) (hw : Cond.methodLink own ix objectInit ∈ TBG) (hi : Cond.instanceMethod objectInit ∈ TBG) (hc : Cond.code objectInit ⟨#[0xb1]⟩ 1 none ∈ TBG) (hst : st = []) (hd0 : 1 ≤ d) (k : G D cc own b nL d MC MS ini (pc + 3) ls st ws cells slots Q) : G D cc own b nL d MC MS ini pc ls (.ref a :: st) ws cells slots Q := by
  intro p l e R s m args below meth c A H locs la Z C hP hD hS hl K
  subst hst
  obtain ⟨c1, c2, c3, c4, c5, c6, c7, c8, c9, -⟩ := id C
  refine W.objInit c1 c2 c4 (c5 _ hw) (c5 _ hi) (c5 _ hc) rfl (by rw [c3]; exact hl.1) rfl hd (by omega) (by simp [JFrame.monitorRoom]; omega) ?_
  exact k p l e R s m args below meth c A H locs la Z C hP hD hS hl K
theorem G_new {ix ci N : Nat} {Cn : String} {T : u_T} {ty0 : Nat → FieldType} {fs : List Value} (hcf : CF ci Cn T N ty0) (hd : decode b pc = .ok (.new ix, 3)) (hw : Cond.classLink own ix Cn ∈ TBG) (hi : Cond.instantiable Cn N ∈ TBG) (hin : Cond.initialized Cn ∈ TBG) (hfs : ∀ j, j < N → defaultValue (ty0 j) = vp_V fs j) (hc : cells + 1 ≤ MC) (hs : slots + N ≤ MS) (k : ∀ q : Nat, G D cc own b nL d MC MS ini (pc + 3) ls (.ref q :: st) (ws ++ [(q, .inr (ci, fs))]) (cells + 1) (slots + N) Q) : G D cc own b nL d MC MS ini pc ls st ws cells slots Q := by
  intro p l e R s m args below meth c A H locs la Z C hP hD hS hl K
  obtain ⟨c1, c2, c3, c4, c5, c6, c7, c8, c9, c10, c11, c12, c13⟩ := id C
  obtain ⟨h1, h2, h3, h4, h5⟩ := hcf
  exact va_new (ci := ci) (fs := fs) c1 c2 c5 h2 ty0 h3 c4 (c5 _ hw) (c5 _ hi) (c5 _ hin) c6 hP hD hS c12 h1 hfs (Nat.le_trans hc c10) (Nat.le_trans hs c11) hd (fun q H hP hD hS => k q p l e R s m args below meth c A H locs la Z C hP hD hS hl K)
/-- a new row: its sort, how many, what it holds -/
theorem G_newarr {at0 : ArrayType} {ty : FieldType} {n : Int32} {N : Nat} {a0 : vp_A} {cx : ClassId} (t0 : Nat) (hd : decode b pc = .ok (.newarray at0, 2)) (hty : newarray.typeOf at0 = ty) (hw : Cond.arrayClass (newarray.typeOf at0) ∈ TBG) (htk : (tysC cc)[t0]? = some (cx, ty)) (hobj : ∀ C, ty ≠ .object C) (ha : ∀ cA : ClassId, vp_cell cA a0 = arrV cA N (fun _ => defaultValue ty)) (hn : ¬ n < 0) (hN : n.toNatClampNeg = N) (hb : N * componentBytes ty ≤ 536870912) (hc : cells + 1 ≤ MC) (hs : slots + N ≤ MS)
    (k : ∀ q : Nat, G D cc own b nL d MC MS ini (pc + 2) ls (.ref q :: st) (ws ++ [(q, .inl (cx, a0))]) (cells + 1) (slots + N) Q) : G D cc own b nL d MC MS ini pc ls (.int n :: st) ws cells slots Q := by
  intro p l e R s m args below meth c A H locs la Z C hP hD hS hl K
  obtain ⟨c1, c2, c3, c4, c5, c6, c7, c8, c9, c10, c11, c12, c13⟩ := id C
  refine va_newa c1 c2 (c5 _ hw) hty c6 hP hD hS c12 ha hn hN hb (Nat.le_trans hc c10) (Nat.le_trans hs c11) hd (fun q cA H1 hK1 hP1 hD1 hS1 => ?_)
  have e1 := (c6.2 t0 _ htk).2
  have e2 := (hK1.2 2 (cA, ty) rfl).2
  have e3 : cA = cx := by
    cases ty with
    | object C => exact absurd rfl (hobj C)
    | _ => exact Option.some.inj ((e2 : s.vm.findClass _ = some cA).symm.trans (e1 : s.vm.findClass _ = some cx))
  subst e3
  exact k q p l e R s m args below meth c A H1 locs la Z C hP1 hD1 hS1 hl K
theorem G_iast {a q0 n : Nat} {i x : Int32} {f : Nat → Int32} {ws' : va_W} (hd : decode b pc = .ok (.iastore, 1)) (ha : ws[q0]? = some (a, .inl (cc.2.1, n, .inl f))) (hin : vp_in i n) (hws : ws.set q0 (a, .inl (cc.2.1, n, .inl (upd f i.toNatClampNeg x))) = ws') (k : G D cc own b nL d MC MS ini (pc + 1) ls st ws' cells slots Q) : G D cc own b nL d MC MS ini pc ls (.int x :: .int i :: .ref a :: st) ws cells slots Q := by
  intro p l e R s m args below meth c A H locs la Z C hP hD hS hl K
  subst hws
  exact va_iast C.1 C.2.1 C.2.2.2.2.2.1 hP hD hS q0 1 ha rfl hin hd (fun H1 locs1 hP1 hD1 hS1 => k p l e R s m args below meth c A H1 locs1 la Z C hP1 hD1 hS1 hl K)
theorem G_get {ix a q0 ci kx : Nat} {fs : List Value} {v : Value} (hf : FG own ix ci kx) (hd : decode b pc = .ok (.getfield ix, 3)) (he : ws[q0]? = some (a, .inr (ci, fs))) (hv : fs[kx]? = some v) (k : G D cc own b nL d MC MS ini (pc + 3) ls (v :: st) ws cells slots Q) : G D cc own b nL d MC MS ini pc ls (.ref a :: st) ws cells slots Q := by
  intro p l e R s m args below meth c A H locs la Z C hP hD hS hl K
  obtain ⟨Cn, T, N, ty0, ⟨h1, h2, -, -, h5⟩, hk, hw⟩ := hf
  exact va_get (D := D) (ci := ci) (C := Cn) (T := T) (N := N) C.1 C.2.1 C.2.2.2.2.1 h2 C.2.2.2.1 C.2.2.2.2.2.1 hP q0 he h1 kx hk (C.2.2.2.2.1 _ hw) (fun _ h => h) hv hd (k p l e R s m args below meth c A H locs la Z C hP hD hS hl K)
/-- a field is set for the first time or again, a final one in its constructor -/
def FPc (own : String) (ix ci k : Nat) (ty : FieldType) : Prop := ∃ (C : String) (T : u_T) (N : Nat) (ty0 : Nat → FieldType), CF ci C T N ty0 ∧ k < N ∧ Cond.fieldLink own ix (T k).1 (T k).2.1 (T k).2.2.1 ∈ TBG ∧ ((T k).2.2.2 = false ∨ ((T k).2.2.2 = true ∧ (T k).1 = own)) ∧ parseFieldDescriptor (T k).2.2.1 = some ty
theorem G_put {ix a q0 ci kx : Nat} {ty : FieldType} {fs : List Value} {v : Value} {ws' : va_W} (hf : FPc own ix ci kx ty) (hini : ini = true) (hd : decode b pc = .ok (.putfield ix, 3)) (he : ws[q0]? = some (a, .inr (ci, fs))) (hn : narrow ty v = v) (hfi : fits ty v = true) (hl9 : kx < fs.length) (hws : ws.set q0 (a, .inr (ci, fs.set kx v)) = ws') (k : G D cc own b nL d MC MS ini (pc + 3) ls st ws' cells slots Q) : G D cc own b nL d MC MS ini pc ls (v :: .ref a :: st) ws cells slots Q := by
  intro p l e R s m args below meth c A H locs la Z C hP hD hS hl K
  subst hws
  obtain ⟨Cn, T, N, ty0, ⟨h1, h2, h3, h4, h5⟩, hk, hw, hfin, hpd⟩ := hf
  rcases hfin with hfin | ⟨hfin, hdecl⟩
  · exact va_put (D := D) (ci := ci) (v := v) (ty := ty) (C := Cn) (T := T) (N := N) C.1 C.2.1 C.2.2.2.2.1 h2 ty0 h3 h4 C.2.2.2.1 C.2.2.2.2.2.1 hP hD hS q0 he h1 kx hk (C.2.2.2.2.1 _ hw) (fun _ h => h) hfin hpd hn hfi hl9 hd (fun H1 locs1 hP1 hD1 hS1 => k p l e R s m args below meth c A H1 locs1 la Z C hP1 hD1 hS1 hl K)
  · exact va_putF (D := D) (ci := ci) (v := v) (ty := ty) (C := Cn) (T := T) (N := N) C.1 C.2.1 C.2.2.2.2.1 h2 ty0 h3 h4 C.2.2.2.1 C.2.2.2.2.2.1 hP hD hS q0 he h1 kx hk (C.2.2.2.2.1 _ hw) (fun _ h => h) hfin (C.2.2.2.2.2.2.2.2.2.2.2.2 hini) hdecl hpd hn hfi hl9 hd (fun H1 locs1 hP1 hD1 hS1 => k p l e R s m args below meth c A H1 locs1 la Z C hP1 hD1 hS1 hl K)
end GR
/-- a constructor: from its own cell to what it makes (u: the addresses that come) -/
def rmc (d mc ms : Nat) : Room := { frames := d, cells := mc, slots := ms, locals := 40 * d }
def CtPc (D : va_G) (cc : C3) (ci : Nat) (fs0 : List Value) (as : List Nat) (h0 sz : Nat) : Array Value → State → Prop :=
  va_Pc ((h0 :: as).map Value.ref) (fun U => U.heap.size = sz ∧ va_P D vwCl [(h0, .inr (ci, fs0))] U.heap ∧ va_K D vwCl (tysC cc) U ∧ ∀ w ∈ NWL, va_Nw w U)
def CtQc (D : va_G) (ci : Nat) (fs0 : List Value) (h0 sz : Nat) (wsf : List Nat → va_W) : Array Value → State → Outcome → State → Prop := fun _ st o t =>
  o = .returned none ∧ (∃ u : List Nat, va_P D vwCl (wsf u) t.heap ∧ va_D (va_A [(h0, .inr (ci, fs0))] sz) (wsf u)) ∧ va_F (va_A [(h0, .inr (ci, fs0))] sz) st t
def CtOK (y : MethodName) (b : ByteArray) (mL d mc ms ci : Nat) (fs0 : List Value) (as : List Nat) (wsf : va_G → C3 → Nat → List Nat → va_W) : Prop :=
  ∀ (l : Launch) (D : va_G) (cc : C3) (h0 sz : Nat), Met l y (wz y b mL none) (rmc d mc ms) (CtPc D cc ci fs0 as h0 sz) (CtQc D ci fs0 h0 sz (wsf D cc h0)) mc ms (va_A [(h0, .inr (ci, fs0))] sz)
theorem CtPc.blind {D : va_G} {cc : C3} {ci : Nat} {fs0 : List Value} {as : List Nat} {h0 sz : Nat} : FrameBlind (CtPc D cc ci fs0 as h0 sz) := by
  intro a U g mk q
  obtain ⟨q1, q2, q3, q4, q5⟩ := q
  refine ⟨q1, q2, q3, va_K.moved (u := U) (U := U.calling g mk a) (Vm.Alike.refl U.vm) q4, fun w hw => va_tabs (by
    have hw2 := (List.mem_filter.mp hw).2
    cases w <;> first | rfl | exact absurd hw2 (by simp [nestW])) (rfl : U.vm = (U.calling g mk a).vm) (q5 w hw)⟩
theorem CtOK.of {y : MethodName} {b : ByteArray} {mL d mc ms ci : Nat} {fs0 : List Value} {as : List Nat} {wsf : va_G → C3 → Nat → List Nat → va_W} {ls : Nat → List (Option Value)}
    (hy : plainName y.cls = true) (hnm : y.name = "<init>") (hls : ∀ h0, entL ((h0 :: as).map Value.ref) ++ List.replicate (mL - (entL ((h0 :: as).map Value.ref)).length) none = ls h0) (hmL : ∀ h0, Nat.ble (entL ((h0 :: as).map Value.ref)).length mL = true)
    (hG : ∀ (D : va_G) (cc : C3) (h0 : Nat), G D cc y.cls b mL d mc ms true 0 (ls h0) [] [(h0, .inr (ci, fs0))] 0 0 (fun pc _ st ws cells slots => decode b pc = .ok (.return_, 1) ∧ st = [] ∧ cells = mc ∧ slots = ms ∧ ∃ u, ws = wsf D cc h0 u)) : CtOK y b mL d mc ms ci fs0 as wsf := by
  intro l D cc h0 sz
  refine Met.ofW (cc := b) (maxL := mL) (ret := none) hy rfl ?_
  intro p e s m args below meth c s₁ B hml hv
  obtain ⟨rfl, hsz, hP, hK, hN⟩ := hv
  subst hsz
  have hts := atoms_spec (ws := wz y b mL none) B.pre
  have hD : va_D (va_A [(h0, .inr (ci, fs0))] s.heap.size) [(h0, .inr (ci, fs0))] := by
    refine ⟨fun i j p q h1 h2 _ => ?_, fun k q h => va_A.in h⟩
    have a1 := (List.getElem?_eq_some_iff.mp h1).1
    have a2 := (List.getElem?_eq_some_iff.mp h2).1
    simp at a1 a2
    omega
  have nodbl : ∀ v ∈ (h0 :: as).map Value.ref, ∀ x, v ≠ .double x := by
    intro v hv x h
    obtain ⟨a, -, rfl⟩ := List.mem_map.mp hv
    cases h
  have e0 : ((h0 :: as).map Value.ref).map (cv (V0 D cc)) = (h0 :: as).map Value.ref := by
    rw [List.map_map]; rfl
  have hlen : (lg_sl ((h0 :: as).map Value.ref)).length ≤ mL := by
    have := lg_sl_len (V := V0 D cc) rfl ((h0 :: as).map Value.ref) nodbl
    rw [e0] at this
    rw [this]
    exact Nat.le_of_ble_eq_true (hmL h0)
  have hl := lv_entry ((h0 :: as).map Value.ref) (n := mL) hlen
  have hin : meth.name = "<init>" := (name_of_methodNamed B.named B.method).1.trans hnm
  rw [lg_entry_eq]
  refine hG D cc h0 p l e _ s m _ below meth c (va_A [(h0, .inr (ci, fs0))] s.heap.size) s.heap [] _ _ ⟨B.exec, B.bytes, hml, findClass_of_methodNamed B.named, fun w h => hts w (List.mem_cons_of_mem _ h), hK, hN, Nat.le_refl _, Nat.le_refl _, Nat.le_refl _, Nat.le_refl _, fun q h => Or.inr h, fun _ => hin⟩ hP hD va_S.rf ⟨hl.1, hl.2.1, fun i v hi => ?_⟩ (fun pc' ls' st' ws' cells' slots' H' locs' la' hq hP' hD' hS' hl' => ?_)
  · rw [← hls h0] at hi
    have hi' : (entL ((h0 :: as).map Value.ref))[i]? = some (some v) := by
      by_cases h : i < (entL ((h0 :: as).map Value.ref)).length
      · rwa [List.getElem?_append_left h] at hi
      · rw [List.getElem?_append_right (by omega), List.getElem?_replicate] at hi
        split at hi
        · cases hi
        · cases hi
    have h2 := lg_sl_at (V := V0 D cc) rfl ((h0 :: as).map Value.ref) nodbl i v hi'
    rw [e0] at h2
    rw [List.getElem?_toArray, List.getElem?_append_left (by
      have := (List.getElem?_eq_some_iff.mp h2).1
      exact this)]
    exact h2
  · obtain ⟨hdc, rfl, rfl, rfl, u, rfl⟩ := hq
    exact W.vret B.exec B.bytes B.returns (fun t ht hW => ⟨rfl, ⟨u, by rw [ht]; exact hP', hD'⟩, hS'.F ht⟩) hS'.2.2 hdc (hlocks := B.notSynchronized)
theorem va_P.right {D : va_G} {cl : List vw_C} {a c : va_W} {H : Heap} (h : va_P D cl (a ++ c) H) : va_P D cl c H := fun k q hk => h (a.length + k) q (by rw [List.getElem?_append_right (by omega)]; simpa using hk)
theorem va_P.left {D : va_G} {cl : List vw_C} {a c : va_W} {H : Heap} (h : va_P D cl (a ++ c) H) : va_P D cl a H := fun k q hk => h k q (by rw [List.getElem?_append_left (List.getElem?_eq_some_iff.mp hk).1]; exact hk)
theorem va_D.apart {A : Nat → Prop} {a c : va_W} (h : va_D A (a ++ c)) {i j : Nat} {x y : Nat × va_E} (hi : a[i]? = some x) (hj : c[j]? = some y) : x.1 ≠ y.1 := by
  intro e
  have h1 := (List.getElem?_eq_some_iff.mp hi).1
  have := h.1 i (a.length + j) x y (by rw [List.getElem?_append_left h1]; exact hi) (by rw [List.getElem?_append_right (by omega)]; simpa using hj) e
  omega
theorem va_D.left {A : Nat → Prop} {a c : va_W} (h : va_D A (a ++ c)) : va_D A a := ⟨fun i j p q h1 h2 e => h.1 i j p q (by rw [List.getElem?_append_left (List.getElem?_eq_some_iff.mp h1).1]; exact h1) (by rw [List.getElem?_append_left (List.getElem?_eq_some_iff.mp h2).1]; exact h2) e, fun k q hk => h.2 k q (by rw [List.getElem?_append_left (List.getElem?_eq_some_iff.mp hk).1]; exact hk)⟩
theorem va_D.both {A : Nat → Prop} {a c : va_W} (ha : va_D A a) (hc : va_D A c) (hx : ∀ (i j : Nat) (x y : Nat × va_E), a[i]? = some x → c[j]? = some y → x.1 ≠ y.1) : va_D A (a ++ c) := va_D.app ha hc hx
/-- the cells that stay, and those that a constructor made of its own -/
theorem ct_join {A : Nat → Prop} {D : va_G} {cl : List vw_C} {wr w1 : va_W} {q : Nat} {e0 : va_E} {H H1 : Heap} (hP : va_P D cl (wr ++ [(q, e0)]) H) (hD : va_D A (wr ++ [(q, e0)])) (hk : ∀ x : Nat, x < H.size → ¬ va_A [(q, e0)] H.size x → H1[x]? = H[x]?) (hF : ∀ x, va_A [(q, e0)] H.size x → A x) (hP1 : va_P D cl w1 H1) (hD1 : va_D (va_A [(q, e0)] H.size) w1) : va_P D cl (wr ++ w1) H1 ∧ va_D A (wr ++ w1) := by
  have hout : ∀ (i : Nat) (x : Nat × va_E), wr[i]? = some x → x.1 < H.size ∧ ¬ va_A [(q, e0)] H.size x.1 := by
    intro i x hi
    have hlt := (hP.left i x hi).lt
    refine ⟨hlt, ?_⟩
    rintro (⟨k, e, hk⟩ | h)
    · have hk0 : k = 0 := by
        have := (List.getElem?_eq_some_iff.mp hk).1
        simp at this; exact this
      subst hk0
      have hq : q = x.1 := by
        have : (q, e0) = (x.1, e) := by simpa using hk
        exact congrArg Prod.fst this
      exact hD.apart hi (j := 0) (y := (q, e0)) rfl hq.symm
    · omega
  refine ⟨(hP.left.kept (fun k x hx => hk x.1 (hout k x hx).1 (hout k x hx).2)).app hP1, hD.left.both (hD1.weaken (fun _ x _ hx => hF x.1 hx)) (fun i j x y hi hj e => ?_)⟩
  exact (hout i x hi).2 (e ▸ hD1.2 j y hj)
section GC
variable {D : va_G} {cc : C3} {own : String} {b : ByteArray} {nL d MC MS : Nat} {ini : Bool} {pc : Nat} {ls : List (Option Value)} {st : List Value} {ws : va_W} {cells slots : Nat} {Q : Nat → List (Option Value) → List Value → va_W → Nat → Nat → Prop}
theorem G_ran {ci mc ms q : Nat} {fs0 : List Value} {wr : va_W} {rest : List Value} {wsf : List Nat → va_W} {a : Array Value} (hw : ws = wr ++ [(q, .inr (ci, fs0))])
    (hr : ∀ (p : Program) (l : Launch) (e : Env) (R : Room) (s : State) (m : MethodId) (args : Array Value) (below : List Frame) (meth : Method) (c : Code) (A : Nat → Prop) (H : Heap) (locs : List Loc) (la : Array Slot), CxG D cc own b nL d MC MS ini p R s m args meth c A → va_P D vwCl [(q, .inr (ci, fs0))] H → hasL (V0 D cc) la nL ls → va_Run p l e R s m args below meth c H locs cells slots mc ms (F0 m pc la st) rest (CtQc D ci fs0 q H.size wsf a) (va_A [(q, .inr (ci, fs0))] H.size))
    (k : ∀ u : List Nat, G D cc own b nL d MC MS ini (pc + 3) ls rest (wr ++ wsf u) (cells + mc) (slots + ms) Q) : G D cc own b nL d MC MS ini pc ls st ws cells slots Q := by
  subst hw
  intro p l e R s m args below meth c A H locs la Z C hP hD hS hl K
  intro T hT X
  obtain ⟨v, s0, t, T', L, h0, X', hL, e1, e2, ⟨hq1, ⟨u, hq2, hq4⟩, hq3⟩, go⟩ := hr p l e R s m args below meth c A H locs la C hP.right hl T hT X
  have hv : v = none := by injection hq1
  subst hv
  have hA := C.2.2.2.2.2.2.2.2.2.2.2.1
  have hF : ∀ x, va_A [(q, .inr (ci, fs0))] H.size x → A x := by
    rintro x (⟨k9, e9, hk9⟩ | h)
    · exact hD.2 (wr.length + k9) (x, e9) (by rw [List.getElem?_append_right (by omega)]; simpa using hk9)
    · exact hA x (Nat.le_trans hS.1 h)
  have hk1 : ∀ x : Nat, x < H.size → ¬ va_A [(q, .inr (ci, fs0))] H.size x → T'.heap[x]? = H[x]? := by
    intro x h1 h2
    rw [e1, hq3.2 x (by rw [h0]; exact h1) h2, h0]
  obtain ⟨hP', hD'⟩ := ct_join hP hD hk1 hF (by rw [e1]; exact hq2) hq4
  have hS' : va_S A s.heap T'.heap (locs ++ L) := by
    refine ⟨Nat.le_trans hS.1 (by rw [e1, ← h0]; exact hq3.1), fun x h1 h2 => ?_, fun x hx => ?_⟩
    · rw [hk1 x (Nat.lt_of_lt_of_le h1 hS.1) (fun h => h2 (hF x h))]
      exact hS.2.1 x h1 h2
    · rcases List.mem_append.mp hx with h | h
      · exact hS.2.2 x h
      · exact hF _ (hL x h)
  obtain ⟨t2, a1, b1⟩ := k u p l e R s m args below meth c A T'.heap (locs ++ L) la Z C hP' hD' hS' hl K T' rfl X'
  exact ⟨t2, go t2 (by simpa using a1), b1⟩
theorem G_ctor {ix q ci mL' d' mc ms n : Nat} {y : MethodName} {bb : ByteArray} {fs0 : List Value} {as : List Nat} {wr : va_W} {rest : List Value} {wsf : va_G → C3 → Nat → List Nat → va_W} (hM : CtOK y bb mL' d' mc ms ci fs0 as wsf) (hd : decode b pc = .ok (.invokespecial ix, 3)) (hl1 : Cond.methodLink own ix y ∈ TBG) (hi : Cond.instanceMethod y ∈ TBG) (hin : Cond.initialized y.cls ∈ TBG) (hcd : Cond.code y bb mL' none ∈ TBG) (hy : y.name = "<init>") (hdd : y.cls ≠ "java/lang/invoke/MethodHandle" ∧ y.cls ≠ "java/lang/invoke/VarHandle" ∧ (parseMethodDescriptor y.desc).map (fun d => d.parameters.length) = some n) (hdp : d' + 1 ≤ d) (hmL : mL' ≤ 20) (hw : ws = wr ++ [(q, .inr (ci, fs0))]) (hst : st = (as.map Value.ref).reverse ++ .ref q :: rest) (hn : as.length = n) (hcat : (rest.map fun v => v.category).sum ≤ 8) (hc : cells + mc ≤ MC) (hs : slots + ms ≤ MS)
    (k : ∀ u : List Nat, G D cc own b nL d MC MS ini (pc + 3) ls rest (wr ++ wsf D cc q u) (cells + mc) (slots + ms) Q) : G D cc own b nL d MC MS ini pc ls st ws cells slots Q := by
  refine G_ran (wsf := wsf D cc q) (a := (Value.ref q :: as.map Value.ref).toArray) hw ?_ k
  intro p l e R s m args below meth c A H locs la C hP hl
  obtain ⟨c1, c2, c3, c4, c5, c6, c7, c8, c9, c10, c11, c12, c13⟩ := id C
  refine va_runI (As := as.map Value.ref) ⟨c1, c2, c3, c4, c5⟩ (hM l D cc q H.size) (cwI (ws' := TBG) n c5 (wz_in hcd) rfl rfl rfl (c5 _ hin) (c5 _ hl1) (c5 _ hi) hy hdd ⟨by show d' + 1 ≤ R.frames; omega, by show 8 + (mL' + 11) + 40 * d' ≤ R.locals; omega⟩) ⟨CtPc.blind, fun U hU hW => ⟨rfl, by rw [hU], by rw [hU]; exact hP, va_K.moved hW.alike c6, fun w hw => nestW_warm (List.mem_filter.mp hw).2 hW (c7 w hw)⟩⟩ rfl (by rw [List.length_map]; exact hn) hl.1 hst (lv_room hcat) hd ⟨Nat.le_trans hc c10, Nat.le_trans hs c11⟩
theorem G_ctorN {ix q ci mL' d' mc ms n : Nat} {ho : String} {y : MethodName} {bb : ByteArray} {fs0 : List Value} {as : List Nat} {wr : va_W} {rest : List Value} {wsf : va_G → C3 → Nat → List Nat → va_W} (hM : CtOK y bb mL' d' mc ms ci fs0 as wsf) (hd : decode b pc = .ok (.invokespecial ix, 3)) (hl1 : Cond.methodLinkNest own ix y ho ∈ NWL) (hi : Cond.instanceMethod y ∈ TBG) (hin : Cond.initialized y.cls ∈ TBG) (hcd : Cond.code y bb mL' none ∈ TBG) (hy : y.name = "<init>") (hdd : y.cls ≠ "java/lang/invoke/MethodHandle" ∧ y.cls ≠ "java/lang/invoke/VarHandle" ∧ (parseMethodDescriptor y.desc).map (fun d => d.parameters.length) = some n) (hdp : d' + 1 ≤ d) (hmL : mL' ≤ 20) (hw : ws = wr ++ [(q, .inr (ci, fs0))]) (hst : st = (as.map Value.ref).reverse ++ .ref q :: rest) (hn : as.length = n) (hcat : (rest.map fun v => v.category).sum ≤ 8) (hc : cells + mc ≤ MC) (hs : slots + ms ≤ MS)
    (k : ∀ u : List Nat, G D cc own b nL d MC MS ini (pc + 3) ls rest (wr ++ wsf D cc q u) (cells + mc) (slots + ms) Q) : G D cc own b nL d MC MS ini pc ls st ws cells slots Q := by
  refine G_ran (wsf := wsf D cc q) (a := (Value.ref q :: as.map Value.ref).toArray) hw ?_ k
  intro p l e R s m args below meth c A H locs la C hP hl
  obtain ⟨c1, c2, c3, c4, c5, c6, c7, c8, c9, c10, c11, c12, c13⟩ := id C
  refine va_runIN (host := ho) (As := as.map Value.ref) ⟨c1, c2, c3, c4, c5⟩ (hM l D cc q H.size) ⟨va_cnB (ws' := TBG) n c5 (wz_in hcd) rfl rfl rfl (c7 _ hl1) (c5 _ hin) hdd ⟨by show d' + 1 ≤ R.frames; omega, by show 8 + (mL' + 11) + 40 * d' ≤ R.locals; omega⟩, hy, c5 _ hi⟩ ⟨CtPc.blind, fun U hU hW => ⟨rfl, by rw [hU], by rw [hU]; exact hP, va_K.moved hW.alike c6, fun w hw => nestW_warm (List.mem_filter.mp hw).2 hW (c7 w hw)⟩⟩ rfl (by rw [List.length_map]; exact hn) hl.1 hst (lv_room hcat) hd ⟨Nat.le_trans hc c10, Nat.le_trans hs c11⟩
end GC
