/-! memory and calls -/
/-- a class of the pools, with all that the tables say of its fields -/
def CF (ci : Nat) (C : String) (T : u_T) (N : Nat) (ty0 : Nat → FieldType) : Prop := vwCl[ci]? = some (C, T, N) ∧ (∀ w ∈ u_ws C T N, w ∈ TBG) ∧ (∀ k, k < N → parseFieldDescriptor (T k).2.2.1 = some (ty0 k)) ∧ (∀ a, a < N → ∀ b, b < N → a ≠ b → (T a).2.1 ≠ (T b).2.1) ∧ ci < 100
def FG (own : String) (ix ci k : Nat) : Prop := ∃ (C : String) (T : u_T) (N : Nat) (ty0 : Nat → FieldType), CF ci C T N ty0 ∧ k < N ∧ Cond.fieldLink own ix (T k).1 (T k).2.1 (T k).2.2.1 ∈ TBG
def FPt (own : String) (ix ci k : Nat) (ty : FieldType) : Prop := ∃ (C : String) (T : u_T) (N : Nat) (ty0 : Nat → FieldType), CF ci C T N ty0 ∧ k < N ∧ Cond.fieldLink own ix (T k).1 (T k).2.1 (T k).2.2.1 ∈ TBG ∧ (T k).2.2.2 = false ∧ parseFieldDescriptor (T k).2.2.1 = some ty
theorem goodR {ws : List Cond} (ps : List Nat) (hp : ws = ps.filterMap (fun i => lw_tbl[i]?)) (h : ws.all goodWord = true) : ∀ w ∈ ws, w ∈ TBG := by
  intro w hw
  have h1 := List.all_eq_true.mp h w hw
  rw [hp] at hw
  obtain ⟨i, -, hi⟩ := List.mem_filterMap.mp hw
  exact tbg_in (List.mem_of_getElem? hi) h1
section EM
variable {P : PI} {own : String} {cc : ByteArray} {nL d pc : Nat} {ls : List (Option Value)} {st : List Value} {w : AW} {Q : Nat → List (Option Value) → List Value → AW → Prop}
theorem E_get {ix o ci kx t : Nat} {v : Value} (hf : FG own ix ci kx) (hd : decode cc pc = .ok (.getfield ix, 3)) (ho : P.1[o]? = some ci) (ht : (kd ci)[kx]? = some t) (hv : ∀ V : EV, fv V.1 P.2.1 w o kx t = cv V v) (k : E P own cc nL d (pc + 3) ls (v :: st) w Q) : E P own cc nL d pc ls (.ref o :: st) w Q := by
  intro p l e R s m args below meth c V H locs cells slots la Z C hP hS hl K
  obtain ⟨Cn, T, N, ty0, ⟨h1, h2, -, -, h5⟩, hk, hw⟩ := hf
  refine va_get (D := V.2.1) (ci := ci) (v := cv V v) (C := Cn) (T := T) (N := N) C.1 C.2.1 C.2.2.2.2.1 h2 C.2.2.2.1 C.2.2.2.2.2.1.1 hP o ((wl_at ho).trans (by rw [ent_obj h5])) h1 kx hk (C.2.2.2.2.1 _ hw) (fun _ h => h) ((flds_at ht).trans (by rw [hv V])) hd ?_
  exact k p l e R s m args below meth c V H locs cells slots la Z C hP hS hl K
theorem E_getI {ix o ci kx : Nat} (hf : FG own ix ci kx) (hd : decode cc pc = .ok (.getfield ix, 3)) (ho : P.1[o]? = some ci) (ht : (kd ci)[kx]? = some 0) (k : E P own cc nL d (pc + 3) ls (.int (w.1 o kx) :: st) w Q) : E P own cc nL d pc ls (.ref o :: st) w Q :=
  E_get (v := .int (w.1 o kx)) hf hd ho ht (fun _ => rfl) k
theorem E_getL {ix o ci kx : Nat} (hf : FG own ix ci kx) (hd : decode cc pc = .ok (.getfield ix, 3)) (ho : P.1[o]? = some ci) (ht : (kd ci)[kx]? = some 1) (k : E P own cc nL d (pc + 3) ls (.long (w.2 o kx) :: st) w Q) : E P own cc nL d pc ls (.ref o :: st) w Q :=
  E_get (v := .long (w.2 o kx)) hf hd ho ht (fun _ => rfl) k
theorem E_getR {ix o ci kx r : Nat} (hf : FG own ix ci kx) (hd : decode cc pc = .ok (.getfield ix, 3)) (ho : P.1[o]? = some ci) (ht : (kd ci)[kx]? = some 2) (hr : P.2.1 o kx = r) (h0 : ¬ r = 0) (k : E P own cc nL d (pc + 3) ls (.ref r :: st) w Q) : E P own cc nL d pc ls (.ref o :: st) w Q :=
  E_get (v := .ref r) hf hd ho ht (fun V => by subst hr; show rfv V.1 (P.2.1 o kx) = _; rw [rfv, if_neg h0]; rfl) k
theorem E_getD {ix o ci kx r : Nat} (hf : FG own ix ci kx) (hd : decode cc pc = .ok (.getfield ix, 3)) (ho : P.1[o]? = some ci) (ht : (kd ci)[kx]? = some 3) (hr : (w.1 o kx).toNatClampNeg = r) (h0 : ¬ r = 0) (k : E P own cc nL d (pc + 3) ls (.ref r :: st) w Q) : E P own cc nL d pc ls (.ref o :: st) w Q :=
  E_get (v := .ref r) hf hd ho ht (fun V => by subst hr; show rfv V.1 (w.1 o kx).toNatClampNeg = _; rw [rfv, if_neg h0]; rfl) k
theorem E_put {ix o ci kx : Nat} {ty : FieldType} {v : Value} {w' : AW} (hf : FPt own ix ci kx ty) (hd : decode cc pc = .ok (.putfield ix, 3)) (ho : P.1[o]? = some ci) (hlen : kx < (kd ci).length) (hn : ∀ V : EV, narrow ty (cv V v) = cv V v) (hfi : ∀ V : EV, fits ty (cv V v) = true) (hfl : ∀ V : EV, (flds V.1 P.2.1 w o ci).set kx (cv V v) = flds V.1 P.2.1 w' o ci) (hoff : ∀ o', o' ≠ o → w'.1 o' = w.1 o' ∧ w'.2 o' = w.2 o') (k : E P own cc nL d (pc + 3) ls st w' Q) : E P own cc nL d pc ls (v :: .ref o :: st) w Q := by
  intro p l e R s m args below meth c V H locs cells slots la Z C hP hS hl K
  obtain ⟨Cn, T, N, ty0, ⟨h1, h2, h3, h4, h5⟩, hk, hw, hfin, hpd⟩ := hf
  refine va_put (D := V.2.1) (ci := ci) (v := cv V v) (ty := ty) (C := Cn) (T := T) (N := N) C.1 C.2.1 C.2.2.2.2.1 h2 ty0 h3 h4 C.2.2.2.1 C.2.2.2.2.2.1.1 hP (wl_D C.2.2.2.2.2.1.2.1 w) hS o ((wl_at ho).trans (by rw [ent_obj h5])) h1 kx hk (C.2.2.2.2.1 _ hw) (fun _ h => h) hfin hpd (hn V) (hfi V) (by simpa [flds] using hlen) hd (fun H1 locs1 hP1 hD1 hS1 => ?_)
  rw [wl_set (w' := w') ho (by rw [ent_obj h5, hfl V]) hoff] at hP1
  exact k p l e R s m args below meth c V H1 locs1 cells slots la Z C hP1 hS1 hl K
theorem E_putI {ix o ci kx : Nat} {ty : FieldType} {v : Int32} (hf : FPt own ix ci kx ty) (hd : decode cc pc = .ok (.putfield ix, 3)) (ho : P.1[o]? = some ci) (ht : (kd ci)[kx]? = some 0) (hn : narrow ty (.int v) = .int v) (hfi : fits ty (.int v) = true) (k : E P own cc nL d (pc + 3) ls st (setI w o kx v) Q) : E P own cc nL d pc ls (.int v :: .ref o :: st) w Q :=
  E_put (v := .int v) (w' := setI w o kx v) hf hd ho (List.getElem?_eq_some_iff.mp ht).1 (fun _ => hn) (fun _ => hfi) (fun V => flds_setI ht (by simp [fv, setI, cv])) (fun o' h => setI_off h) k
theorem E_putL {ix o ci kx : Nat} {v : Int64} (hf : FPt own ix ci kx .long) (hd : decode cc pc = .ok (.putfield ix, 3)) (ho : P.1[o]? = some ci) (ht : (kd ci)[kx]? = some 1) (k : E P own cc nL d (pc + 3) ls st (setL w o kx v) Q) : E P own cc nL d pc ls (.long v :: .ref o :: st) w Q :=
  E_put (v := .long v) (w' := setL w o kx v) hf hd ho (List.getElem?_eq_some_iff.mp ht).1 (fun _ => rfl) (fun _ => rfl) (fun V => flds_setL ht) (fun o' h => setL_off h) k
theorem E_putD {ix o ci kx r : Nat} {cn : String} (hf : FPt own ix ci kx (.object cn)) (hd : decode cc pc = .ok (.putfield ix, 3)) (ho : P.1[o]? = some ci) (ht : (kd ci)[kx]? = some 3) (h0 : ¬ r = 0) (hr : r < 2 ^ 31) (k : E P own cc nL d (pc + 3) ls st (setI w o kx (nI r)) Q) : E P own cc nL d pc ls (.ref r :: .ref o :: st) w Q :=
  E_put (v := .ref r) (w' := setI w o kx (nI r)) hf hd ho (List.getElem?_eq_some_iff.mp ht).1 (fun _ => rfl) (fun _ => rfl) (fun V => flds_setI ht (by simp [fv, setI, cv, nI_clamp hr, rfv, h0])) (fun o' h => setI_off h) k
theorem E_iald {a n : Nat} {i : Int32} (hd : decode cc pc = .ok (.iaload, 1)) (ha : P.1[a]? = some (100 + n)) (hn : n < 900) (hin : vp_in i n) (k : E P own cc nL d (pc + 1) ls (.int (w.1 a i.toNatClampNeg) :: st) w Q) : E P own cc nL d pc ls (.int i :: .ref a :: st) w Q := by
  intro p l e R s m args below meth c V H locs cells slots la Z C hP hS hl K
  exact va_iald C.1 C.2.1 C.2.2.2.2.2.1.1 hP a 1 ((wl_at ha).trans (by rw [ent_I hn])) rfl hin hd (k p l e R s m args below meth c V H locs cells slots la Z C hP hS hl K)
theorem E_bald {a n : Nat} {i : Int32} (hd : decode cc pc = .ok (.baload, 1)) (ha : P.1[a]? = some (1000 + n)) (hn : n < 1000) (hin : vp_in i n) (k : E P own cc nL d (pc + 1) ls (.int (w.1 a i.toNatClampNeg) :: st) w Q) : E P own cc nL d pc ls (.int i :: .ref a :: st) w Q := by
  intro p l e R s m args below meth c V H locs cells slots la Z C hP hS hl K
  exact va_bald C.1 C.2.1 C.2.2.2.2.2.1.1 hP a 0 ((wl_at ha).trans (by rw [ent_B hn])) rfl hin hd (k p l e R s m args below meth c V H locs cells slots la Z C hP hS hl K)
theorem E_iast {a n : Nat} {i x : Int32} (hd : decode cc pc = .ok (.iastore, 1)) (ha : P.1[a]? = some (100 + n)) (hn : n < 900) (hin : vp_in i n) (k : E P own cc nL d (pc + 1) ls st (setI w a i.toNatClampNeg x) Q) : E P own cc nL d pc ls (.int x :: .int i :: .ref a :: st) w Q := by
  intro p l e R s m args below meth c V H locs cells slots la Z C hP hS hl K
  refine va_iast C.1 C.2.1 C.2.2.2.2.2.1.1 hP (wl_D C.2.2.2.2.2.1.2.1 w) hS a 1 ((wl_at ha).trans (by rw [ent_I hn])) rfl hin hd (fun H1 locs1 hP1 hD1 hS1 => ?_)
  rw [wl_set (w' := setI w a i.toNatClampNeg x) ha (by rw [ent_I hn, setI_row]) (fun o' h => setI_off h)] at hP1
  exact k p l e R s m args below meth c V H1 locs1 cells slots la Z C hP1 hS1 hl K
theorem E_bast {a n : Nat} {i x : Int32} (hd : decode cc pc = .ok (.bastore, 1)) (ha : P.1[a]? = some (1000 + n)) (hn : n < 1000) (hin : vp_in i n) (k : E P own cc nL d (pc + 1) ls st (setI w a i.toNatClampNeg (vp_nar .byte x)) Q) : E P own cc nL d pc ls (.int x :: .int i :: .ref a :: st) w Q := by
  intro p l e R s m args below meth c V H locs cells slots la Z C hP hS hl K
  refine va_bast C.1 C.2.1 C.2.2.2.2.2.1.1 hP (wl_D C.2.2.2.2.2.1.2.1 w) hS a 0 ((wl_at ha).trans (by rw [ent_B hn])) rfl hin hd (fun H1 locs1 hP1 hD1 hS1 => ?_)
  rw [wl_set (w' := setI w a i.toNatClampNeg (vp_nar .byte x)) ha (by rw [ent_B hn, setI_row]) (fun o' h => setI_off h)] at hP1
  exact k p l e R s m args below meth c V H1 locs1 cells slots la Z C hP1 hS1 hl K
theorem E_alenI {a n : Nat} (v : Int32) (hd : decode cc pc = .ok (.arraylength, 1)) (ha : P.1[a]? = some (100 + n)) (hn : n < 900) (hv : Int32.ofNat n = v) (k : E P own cc nL d (pc + 1) ls (.int v :: st) w Q) : E P own cc nL d pc ls (.ref a :: st) w Q := by
  intro p l e R s m args below meth c V H locs cells slots la Z C hP hS hl K
  exact va_alen C.1 C.2.1 C.2.2.2.2.2.1.1 hP a 1 ((wl_at ha).trans (by rw [ent_I hn])) rfl hv hd (k p l e R s m args below meth c V H locs cells slots la Z C hP hS hl K)
/-- what lies outside -/
theorem E_getsZ {ix : Nat} {cn n ds : String} {v : Value} (hZ : ∀ (V : EV) (U : State) (H : Heap) (A : Nat → Prop), StatOK P.2.2 A V U H → va_Z cn n ds (cv V v) A U H) (hw : Cond.fieldLink own ix cn n ds ∈ TBG) (hd : decode cc pc = .ok (.getstatic ix, 3)) (k : E P own cc nL d (pc + 3) ls (v :: st) w Q) : E P own cc nL d pc ls st w Q := by
  intro p l e R s m args below meth c V H locs cells slots la Z C hP hS hl K
  exact va_gets C.1 C.2.1 (hZ V s s.heap _ C.2.2.2.2.2.1.2.2.2) hS C.2.2.2.1 (C.2.2.2.2.1 _ hw) (fun _ h => h) hd (k p l e R s m args below meth c V H locs cells slots la Z C hP hS hl K)
theorem E_getsN {ix : Nat} {cn n ds ho : String} {v : Value} (hZ : ∀ (V : EV) (U : State) (H : Heap) (A : Nat → Prop), StatOK P.2.2 A V U H → va_Z cn n ds (cv V v) A U H) (hw : Cond.fieldLinkNest own ix cn n ds ho ∈ NWL) (hd : decode cc pc = .ok (.getstatic ix, 3)) (k : E P own cc nL d (pc + 3) ls (v :: st) w Q) : E P own cc nL d pc ls st w Q := by
  intro p l e R s m args below meth c V H locs cells slots la Z C hP hS hl K
  exact va_getsN C.1 C.2.1 (hZ V s s.heap _ C.2.2.2.2.2.1.2.2.2) hS C.2.2.2.1 (va_Nw.use rfl (C.2.2.2.2.2.1.2.2.1 _ hw)) (fun _ h => h) hd (k p l e R s m args below meth c V H locs cells slots la Z C hP hS hl K)
theorem st_least {X : SC} {V : EV} {U : State} {H : Heap} {A : Nat → Prop} (h : StatOK X A V U H) : va_Z "PressDays" "LAW_LEAST" "[I" (cv V (.retAddr 1)) A U H := h.1.1
theorem st_most {X : SC} {V : EV} {U : State} {H : Heap} {A : Nat → Prop} (h : StatOK X A V U H) : va_Z "PressDays" "LAW_MOST" "[I" (cv V (.retAddr 2)) A U H := h.2.1.1
theorem E_least {i : Int32} (hd : decode cc pc = .ok (.iaload, 1)) (hin : vp_in i 4) (k : E P own cc nL d (pc + 1) ls (.int (leastS i.toNatClampNeg) :: st) w Q) : E P own cc nL d pc ls (.int i :: .retAddr 1 :: st) w Q := by
  intro p l e R s m args below meth c V H locs cells slots la Z C hP hS hl K
  exact va_ti C.1 C.2.1 C.2.2.2.2.2.1.2.2.2.1.2 hS hin rfl hd (k p l e R s m args below meth c V H locs cells slots la Z C hP hS hl K)
theorem E_most {i : Int32} (hd : decode cc pc = .ok (.iaload, 1)) (hin : vp_in i 4) (k : E P own cc nL d (pc + 1) ls (.int (mostS i.toNatClampNeg) :: st) w Q) : E P own cc nL d pc ls (.int i :: .retAddr 2 :: st) w Q := by
  intro p l e R s m args below meth c V H locs cells slots la Z C hP hS hl K
  exact va_ti C.1 C.2.1 C.2.2.2.2.2.1.2.2.2.2.1.2 hS hin rfl hd (k p l e R s m args below meth c V H locs cells slots la Z C hP hS hl K)
theorem E_script {i : Int32} (hd : decode cc pc = .ok (.iaload, 1)) (hin : vp_in i P.2.2.1) (k : E P own cc nL d (pc + 1) ls (.int (P.2.2.2 i.toNatClampNeg) :: st) w Q) : E P own cc nL d pc ls (.int i :: .retAddr 3 :: st) w Q := by
  intro p l e R s m args below meth c V H locs cells slots la Z C hP hS hl K
  exact va_ti C.1 C.2.1 C.2.2.2.2.2.1.2.2.2.2.2.1 hS hin rfl hd (k p l e R s m args below meth c V H locs cells slots la Z C hP hS hl K)
theorem E_slen (hd : decode cc pc = .ok (.arraylength, 1)) (k : E P own cc nL d (pc + 1) ls (.int (Int32.ofNat P.2.2.1) :: st) w Q) : E P own cc nL d pc ls (.retAddr 3 :: st) w Q := by
  intro p l e R s m args below meth c V H locs cells slots la Z C hP hS hl K
  exact va_tlen C.1 C.2.1 C.2.2.2.2.2.1.2.2.2.2.2.1 hS rfl hd (k p l e R s m args below meth c V H locs cells slots la Z C hP hS hl K)
/-- Math.max, Math.min, System.arraycopy -/
theorem E_mmax {ix : Nat} {x y : Int32} (hw : Cond.methodLink own ix Lib.Math.max.name ∈ TBG) (hs : Cond.static Lib.Math.max.name ∈ TBG) (hi : Cond.initialized "java/lang/Math" ∈ TBG) (hc : Cond.code Lib.Math.max.name Lib.Math.max.code 2 (some .int) ∈ TBG) (hd : decode cc pc = .ok (.invokestatic ix, 3)) (hd0 : 1 ≤ d) (hcat : ∀ V : EV, ((st.map (cv V)).map fun v => v.category).sum ≤ 8) (k : E P own cc nL d (pc + 3) ls (.int (if x < y then y else x) :: st) w Q) : E P own cc nL d pc ls (.int y :: .int x :: st) w Q := by
  intro p l e R s m args below meth c V H locs cells slots la Z C hP hS hl K
  obtain ⟨c1, c2, c3, c4, c5, c6, c7, c8, c9, c10⟩ := id C
  have h8 := hcat V
  exact va_mmax c1 c2 (c3.trans hl.1.symm) c4 (c5 _ hw) (c5 _ hs) (c5 _ hi) (c5 _ hc) (by omega) (by omega) c9 c10 hd (k p l e R s m args below meth c V H locs cells slots la Z C hP hS hl K)
theorem E_mmin {ix : Nat} {x y : Int32} (hw : Cond.methodLink own ix Lib.Math.min.name ∈ TBG) (hs : Cond.static Lib.Math.min.name ∈ TBG) (hi : Cond.initialized "java/lang/Math" ∈ TBG) (hc : Cond.code Lib.Math.min.name Lib.Math.min.code 2 (some .int) ∈ TBG) (hd : decode cc pc = .ok (.invokestatic ix, 3)) (hd0 : 1 ≤ d) (hcat : ∀ V : EV, ((st.map (cv V)).map fun v => v.category).sum ≤ 8) (k : E P own cc nL d (pc + 3) ls (.int (if y < x then y else x) :: st) w Q) : E P own cc nL d pc ls (.int y :: .int x :: st) w Q := by
  intro p l e R s m args below meth c V H locs cells slots la Z C hP hS hl K
  obtain ⟨c1, c2, c3, c4, c5, c6, c7, c8, c9, c10⟩ := id C
  have h8 := hcat V
  exact va_mmin c1 c2 (c3.trans hl.1.symm) c4 (c5 _ hw) (c5 _ hs) (c5 _ hi) (c5 _ hc) (by omega) (by omega) c9 c10 hd (k p l e R s m args below meth c V H locs cells slots la Z C hP hS hl K)
theorem E_copyI {ix a b n0 n1 : Nat} {sp dp n : Int32} (hw : Cond.methodLink own ix arraycopyName ∈ TBG) (hna : Cond.native arraycopyName ∈ TBG) (hs : Cond.static arraycopyName ∈ TBG) (hi : Cond.initialized "java/lang/System" ∈ TBG) (hd : decode cc pc = .ok (.invokestatic ix, 3)) (hd0 : 2 ≤ d) (hst : st = []) (ha : P.1[a]? = some (100 + n0)) (hn0 : n0 < 900) (hb : P.1[b]? = some (100 + n1)) (hn1 : n1 < 900) (h1 : ¬ sp < 0) (h2 : ¬ dp < 0) (h3 : ¬ n < 0) (h4 : sp.toNatClampNeg + n.toNatClampNeg ≤ n0) (h5 : dp.toNatClampNeg + n.toNatClampNeg ≤ n1) (k : E P own cc nL d (pc + 3) ls [] (cpyI w a sp.toNatClampNeg b dp.toNatClampNeg n.toNatClampNeg) Q) : E P own cc nL d pc ls (.int n :: .int dp :: .ref b :: .int sp :: .ref a :: st) w Q := by
  intro p l e R s m args below meth c V H locs cells slots la Z C hP hS hl K
  subst hst
  obtain ⟨c1, c2, c3, c4, c5, c6, c7, c8, c9, c10⟩ := id C
  have hnw : nativeFrameWords "java/lang/System" "arraycopy" 5 ≤ 40 := by decide +kernel
  refine va_copyi (rest := []) c1 c2 (c3.trans hl.1.symm) c4 (c5 _ hw) (c5 _ hna) (c5 _ hs) (c5 _ hi) c6.1 hP (wl_D c6.2.1 w) hS a b 1 1 ((wl_at ha).trans (by rw [ent_I hn0])) ((wl_at hb).trans (by rw [ent_I hn1])) rfl rfl rfl h1 h2 h3 h4 h5 (fun _ _ => rfl) (by omega) (by simp; omega) hd (fun H1 locs1 hP1 hD1 hS1 => ?_)
  rw [wl_set (w' := cpyI w a sp.toNatClampNeg b dp.toNatClampNeg n.toNatClampNeg) hb (by rw [ent_I hn1, cpyI_row]) (fun o' h => cpyI_off h)] at hP1
  exact k p l e R s m args below meth c V H1 locs1 cells slots la Z C hP1 hS1 hl K
end EM
/-! a method: from its entry in world w it returns r in world w' -/
def QcOK (P : PI) (V : EV) (r : Option Value) (w' : AW) : Array Value → State → Outcome → State → Prop := fun _ st o t =>
  o = .returned (r.map (cv V)) ∧ va_P V.2.1 vwCl (wl P V w') t.heap ∧ va_F (Pl P V) st t
def PcOK (P : PI) (V : EV) (as : List Value) (w : AW) : Array Value → State → Prop := va_Pc (as.map (cv V)) (fun U => va_P V.2.1 vwCl (wl P V w) U.heap ∧ EnvOK P V U U.heap)
def CallOK (P : PI) (y : MethodName) (b : ByteArray) (mL : Nat) (ret : Option FieldType) (d : Nat) (as : List Value) (w : AW) (r : Option Value) (w' : AW) : Prop :=
  ∀ (l : Launch) (V : EV), Met l y (wz y b mL ret) (rmd d) (PcOK P V as w) (QcOK P V r w') 0 0 (Pl P V)
def entL : List Value → List (Option Value)
  | [] => []
  | .long x :: l => some (.long x) :: none :: entL l
  | v :: l => some v :: entL l
/-- the end of a method -/
def Qret (b : ByteArray) (ret : Option FieldType) (r : Option Value) (w' : AW) : Nat → List (Option Value) → List Value → AW → Prop := fun pc _ st w =>
  w = w' ∧ ((∃ v ty, r = some (.int v) ∧ st = [.int v] ∧ decode b pc = .ok (.ireturn, 1) ∧ ret = some ty ∧ narrow ty (.int v) = .int v) ∨ (r = none ∧ st = [] ∧ decode b pc = .ok (.return_, 1) ∧ ret = none))
theorem lg_sl_at {V : EV} (hN : (exN V).category = 1) : ∀ (as : List Value), (∀ v ∈ as, ∀ x, v ≠ .double x) → ∀ (i : Nat) (v : Value), (entL as)[i]? = some (some v) → (lg_sl (as.map (cv V)))[i]? = some (.val (cv V v)) := by
  intro as
  induction as with
  | nil => intro _ i v h; simp [entL] at h
  | cons a as ih =>
    intro hd i v h
    have ih := ih (fun v hv => hd v (List.mem_cons_of_mem _ hv))
    have one : ∀ (a : Value), (cv V a).category = 1 → entL (a :: as) = some a :: entL as → (entL (a :: as))[i]? = some (some v) → (lg_sl ((a :: as).map (cv V)))[i]? = some (.val (cv V v)) := by
      intro a hc he h
      have e : lg_sl ((a :: as).map (cv V)) = .val (cv V a) :: lg_sl (as.map (cv V)) := by simp [lg_sl, hc]
      rw [he] at h
      rw [e]
      cases i with
      | zero => simp at h; simp [h]
      | succ i => simpa using ih i v (by simpa using h)
    cases a with
    | long x =>
      have e : lg_sl ((Value.long x :: as).map (cv V)) = .val (.long x) :: .second :: lg_sl (as.map (cv V)) := by simp [lg_sl, cv, Value.category]
      rw [e]
      cases i with
      | zero => simp [entL] at h; rw [← h]; rfl
      | succ i =>
        cases i with
        | zero => simp [entL] at h
        | succ i => simpa using ih i v (by simpa [entL] using h)
    | double x => exact absurd rfl (hd _ List.mem_cons_self x)
    | int x => exact one _ rfl rfl h
    | float x => exact one _ rfl rfl h
    | null => exact one _ rfl rfl h
    | ref x => exact one _ rfl rfl h
    | retAddr k =>
      cases k with
      | zero => exact one _ hN rfl h
      | succ k => exact one _ rfl rfl h
theorem lg_sl_len {V : EV} (hN : (exN V).category = 1) : ∀ (as : List Value), (∀ v ∈ as, ∀ x, v ≠ .double x) → (lg_sl (as.map (cv V))).length = (entL as).length := by
  intro as
  induction as with
  | nil => intro _; rfl
  | cons a as ih =>
    intro hd
    have ih := ih (fun v hv => hd v (List.mem_cons_of_mem _ hv))
    have one : ∀ (a : Value), (cv V a).category = 1 → entL (a :: as) = some a :: entL as → (lg_sl ((a :: as).map (cv V))).length = (entL (a :: as)).length := by
      intro a hc he
      have e : lg_sl ((a :: as).map (cv V)) = .val (cv V a) :: lg_sl (as.map (cv V)) := by simp [lg_sl, hc]
      rw [e, he, List.length_cons, List.length_cons, ih]
    cases a with
    | long x =>
      have e : lg_sl ((Value.long x :: as).map (cv V)) = .val (.long x) :: .second :: lg_sl (as.map (cv V)) := by simp [lg_sl, cv, Value.category]
      rw [e]
      simp [entL, ih]
    | double x => exact absurd rfl (hd _ List.mem_cons_self x)
    | int x => exact one _ rfl rfl
    | float x => exact one _ rfl rfl
    | null => exact one _ rfl rfl
    | ref x => exact one _ rfl rfl
    | retAddr k =>
      cases k with
      | zero => exact one _ hN rfl
      | succ k => exact one _ rfl rfl
theorem CallOK.of {P : PI} {y : MethodName} {b : ByteArray} {mL : Nat} {ret : Option FieldType} {d : Nat} {as : List Value} {w : AW} {r : Option Value} {w' : AW} {ls : List (Option Value)}
    (hy : plainName y.cls = true) (hd : ∀ v ∈ as, ∀ x, v ≠ .double x) (hls : entL as ++ List.replicate (mL - (entL as).length) none = ls) (hmL : Nat.ble (entL as).length mL = true)
    (hE : E P y.cls b mL d 0 ls [] w (Qret b ret r w')) : CallOK P y b mL ret d as w r w' := by
  intro l V
  refine Met.ofW (cc := b) (maxL := mL) (ret := ret) hy rfl ?_
  intro p e s m args below meth c s₁ B hml hv
  obtain ⟨rfl, hP, hEnv⟩ := hv
  have hts := atoms_spec (ws := wz y b mL ret) B.pre
  have hN : (exN V).category = 1 := by
    rw [hEnv.2.2.2.2.2.2]; rfl
  have hlen : (lg_sl (as.map (cv V))).length ≤ mL := by rw [lg_sl_len hN as hd]; exact Nat.le_of_ble_eq_true hmL
  have hl := lv_entry (as.map (cv V)) (n := mL) hlen
  rw [lg_entry_eq]
  refine hE p l e _ s m _ below meth c V s.heap [] 0 0 _ _ ⟨B.exec, B.bytes, hml, findClass_of_methodNamed B.named, fun w h => hts w (List.mem_cons_of_mem _ h), hEnv, Nat.le_refl _, Nat.le_refl _, Nat.zero_le _, Nat.zero_le _⟩ hP va_S.rf ⟨hl.1, hl.2.1, fun i v hi => ?_⟩ (fun pc' ls' st' w2 H' locs' la' hq hP' hS' hl' => ?_)
  · subst hls
    have hi' : (entL as)[i]? = some (some v) := by
      by_cases h : i < (entL as).length
      · rwa [List.getElem?_append_left h] at hi
      · rw [List.getElem?_append_right (by omega), List.getElem?_replicate] at hi
        split at hi
        · cases hi
        · cases hi
    have h2 := lg_sl_at hN as hd i v hi'
    rw [List.getElem?_toArray, List.getElem?_append_left (by
      have := (List.getElem?_eq_some_iff.mp h2).1
      exact this)]
    exact h2
  · obtain ⟨rfl, ⟨v, ty, rfl, rfl, hdc, hret, hn⟩ | ⟨rfl, rfl, hdc, hret⟩⟩ := hq
    · exact W.zret (ty := ty) B.exec B.bytes (B.returns.trans hret) hn (fun t ht hW => ⟨rfl, by rw [ht]; exact hP', hS'.F ht⟩) hS'.2.2 hdc (hlocks := B.notSynchronized)
    · exact W.vret B.exec B.bytes (B.returns.trans hret) (fun t ht hW => ⟨rfl, by rw [ht]; exact hP', hS'.F ht⟩) hS'.2.2 hdc (hlocks := B.notSynchronized)
theorem PcOK.blind {P : PI} {V : EV} {as : List Value} {w : AW} : FrameBlind (PcOK P V as w) := fun a U g mk q => ⟨q.1, q.2.1, EnvOK.calling q.2.2⟩
theorem PcOK.at {P : PI} {V : EV} {as : List Value} {w : AW} {s : State} {H : Heap} {locs : List Loc} (hE : EnvOK P V s s.heap) (hP : va_P V.2.1 vwCl (wl P V w) H) (hS : va_S (Pl P V) s.heap H locs) : ∀ U : State, U.heap = H → s.WarmedH U.vm → PcOK P V as w (as.map (cv V)).toArray U := fun U hU hW =>
  ⟨rfl, by rw [hU]; exact hP, by rw [hU]; exact hE.to hW hS.2.1⟩
section EC
variable {P : PI} {own : String} {cc : ByteArray} {nL d pc : Nat} {ls : List (Option Value)} {w : AW} {Q : Nat → List (Option Value) → List Value → AW → Prop}
theorem E_ran {st0 st rest : List Value} {r : Option Value} {w1 : AW} {a : EV → Array Value} (hst : st0 = st)
    (hr : ∀ (p : Program) (l : Launch) (e : Env) (R : Room) (s : State) (m : MethodId) (args : Array Value) (below : List Frame) (meth : Method) (c : Code) (V : EV) (H : Heap) (locs : List Loc) (cells slots : Nat) (la : Array Slot), Cx P V own cc nL d p R s m args c cells slots → va_P V.2.1 vwCl (wl P V w) H → va_S (Pl P V) s.heap H locs → hasL V la nL ls → va_Run p l e R s m args below meth c H locs cells slots 0 0 (F0 m pc la (st.map (cv V))) (rest.map (cv V)) (QcOK P V r w1 (a V)) (Pl P V))
    (k : E P own cc nL d (pc + 3) ls (r.toList ++ rest) w1 Q) : E P own cc nL d pc ls st0 w Q := by
  subst hst
  intro p l e R s m args below meth c V H locs cells slots la Z C hP hS hl K
  intro T hT X
  obtain ⟨v, s0, t, T', L, h0, X', hL, e1, e2, ⟨hq1, hq2, hq3⟩, go⟩ := hr p l e R s m args below meth c V H locs cells slots la C hP hS hl T hT X
  have hv : v = r.map (cv V) := by injection hq1
  subst hv
  have hS' : va_S (Pl P V) s.heap T'.heap (locs ++ L) := by
    rw [e1]
    refine ⟨Nat.le_trans hS.1 (by rw [← h0]; exact hq3.1), fun q h1 h2 => ?_, fun x hx => ?_⟩
    · rw [hq3.2 q (by rw [h0]; exact Nat.lt_of_lt_of_le h1 hS.1) h2, h0]
      exact hS.2.1 q h1 h2
    · rcases List.mem_append.mp hx with h | h
      · exact hS.2.2 x h
      · exact hL x h
  obtain ⟨t2, a1, b1⟩ := k p l e R s m args below meth c V T'.heap (locs ++ L) cells slots la Z C (by rw [e1]; exact hq2) hS' hl K T' rfl X'
  refine ⟨t2, go t2 ?_, b1⟩
  have hst : (r.toList ++ rest).map (cv V) = (r.map (cv V)).toList ++ rest.map (cv V) := by cases r <;> simp
  rw [hst] at a1
  exact a1
/-- what a call of an object's method needs of the tables -/
def CVt (own : String) (ix : Nat) (C : String) (y : MethodName) (b : ByteArray) (mL : Nat) (ret : Option FieldType) (n : Nat) : Prop :=
  GoodIn TBG (wsV own ix C y (wz y b mL ret)) ∧ (y.cls = C ∧ y.cls ≠ "java/lang/invoke/MethodHandle" ∧ y.cls ≠ "java/lang/invoke/VarHandle" ∧ (parseMethodDescriptor y.desc).map (fun d => d.parameters.length) = some n) ∧ mL ≤ 20
theorem CVt.of {own : String} {ix : Nat} {C : String} {y : MethodName} {b : ByteArray} {mL : Nat} {ret : Option FieldType} {n : Nat} (h1 : Cond.methodLink own ix y ∈ TBG) (h2 : Cond.instanceMethod y ∈ TBG) (h3 : Cond.selects C y y ∈ TBG) (h4 : Cond.initialized C ∈ TBG) (h5 : Cond.code y b mL ret ∈ TBG) (h6 : y.cls = C ∧ y.cls ≠ "java/lang/invoke/MethodHandle" ∧ y.cls ≠ "java/lang/invoke/VarHandle" ∧ (parseMethodDescriptor y.desc).map (fun d => d.parameters.length) = some n) (h7 : Nat.ble mL 20 = true) : CVt own ix C y b mL ret n := by
  refine ⟨fun w hw => ?_, h6, Nat.le_of_ble_eq_true h7⟩
  rcases List.mem_append.mp (by unfold wsV at hw; exact hw) with hw | hw
  · have : w ∈ TBG := by
      rcases List.mem_cons.mp hw with rfl | hw
      · exact h1
      rcases List.mem_cons.mp hw with rfl | hw
      · exact h2
      rcases List.mem_cons.mp hw with rfl | hw
      · exact h3
      rcases List.mem_cons.mp hw with rfl | hw
      · exact h4
      cases hw
    exact ⟨this, tbg_ok this⟩
  · exact wz_in h5 w hw
theorem E_callV {ix o ci n mL d' : Nat} {cn : String} {T : u_T} {N : Nat} {y : MethodName} {b : ByteArray} {ret : Option FieldType} {As rest st : List Value} {r : Option Value} {w1 : AW} (hc : CVt own ix cn y b mL ret n) (hd : decode cc pc = .ok (.invokevirtual ix, 3)) (hm : CallOK P y b mL ret d' (.ref o :: As) w r w1) (hdd : Nat.ble (d' + 1) d = true) (ho : P.1[o]? = some ci) (hci : vwCl[ci]? = some (cn, T, N)) (hci2 : ci < 100) (hst : st = As.reverse ++ .ref o :: rest) (hn : As.length = n) (hcat : ∀ V : EV, ((rest.map (cv V)).map fun v => v.category).sum ≤ 8)
    (k : E P own cc nL d (pc + 3) ls (r.toList ++ rest) w1 Q) : E P own cc nL d pc ls st w Q := by
  refine E_ran (r := r) (w1 := w1) (rest := rest) (a := fun V => ((Value.ref o :: As).map (cv V)).toArray) hst ?_ k
  intro p l e R s m args below meth c V H locs cells slots la C hP hS hl
  obtain ⟨c1, c2, c3, c4, c5, c6, c7, c8, c9, c10⟩ := id C
  obtain ⟨hg, hy, hmL⟩ := hc
  have hdd := Nat.le_of_ble_eq_true hdd
  refine va_runV (C := cn) (b := V.1 o) (As := As.map (cv V)) ⟨c1, c2, c3, c4, c5⟩ (hm l V) (cwV (ws' := TBG) n c5 hg rfl rfl rfl hy ⟨by show d' + 1 ≤ R.frames; omega, by show 8 + (mL + 11) + 40 * d' ≤ R.locals; omega⟩) ⟨PcOK.blind, ?_, PcOK.at c6 hP hS⟩ rfl (by rw [List.length_map]; exact hn) hl.1 ?_ (lv_room (hcat V)) hd ⟨c9, c10⟩
  · exact va_recv c6.1 hP hci ((wl_at ho).trans (by rw [ent_obj hci2]))
  · show (As.reverse ++ Value.ref o :: rest).map (cv V) = _
    rw [List.map_append, List.map_reverse, List.map_cons]; rfl
/-- of a static one of the own class, of a static one of a nest mate -/
def CSt (own : String) (ix : Nat) (y : MethodName) (b : ByteArray) (mL : Nat) (ret : Option FieldType) (n : Nat) : Prop :=
  GoodIn TBG (va_wsS own ix y (wz y b mL ret)) ∧ (y.cls ≠ "java/lang/invoke/MethodHandle" ∧ y.cls ≠ "java/lang/invoke/VarHandle" ∧ (parseMethodDescriptor y.desc).map (fun d => d.parameters.length) = some n) ∧ mL ≤ 20
theorem CSt.of {own : String} {ix : Nat} {y : MethodName} {b : ByteArray} {mL : Nat} {ret : Option FieldType} {n : Nat} (h1 : Cond.methodLink own ix y ∈ TBG) (h2 : Cond.static y ∈ TBG) (h4 : Cond.initialized y.cls ∈ TBG) (h5 : Cond.code y b mL ret ∈ TBG) (h6 : y.cls ≠ "java/lang/invoke/MethodHandle" ∧ y.cls ≠ "java/lang/invoke/VarHandle" ∧ (parseMethodDescriptor y.desc).map (fun d => d.parameters.length) = some n) (h7 : Nat.ble mL 20 = true) : CSt own ix y b mL ret n := by
  refine ⟨fun w hw => ?_, h6, Nat.le_of_ble_eq_true h7⟩
  rcases List.mem_append.mp (by unfold va_wsS at hw; exact hw) with hw | hw
  · have : w ∈ TBG := by
      rcases List.mem_cons.mp hw with rfl | hw
      · exact h1
      rcases List.mem_cons.mp hw with rfl | hw
      · exact h2
      rcases List.mem_cons.mp hw with rfl | hw
      · exact h4
      cases hw
    exact ⟨this, tbg_ok this⟩
  · exact wz_in h5 w hw
theorem E_callS {ix n mL d' : Nat} {y : MethodName} {b : ByteArray} {ret : Option FieldType} {As rest st : List Value} {r : Option Value} {w1 : AW} (hc : CSt own ix y b mL ret n) (hd : decode cc pc = .ok (.invokestatic ix, 3)) (hm : CallOK P y b mL ret d' As w r w1) (hdd : Nat.ble (d' + 1) d = true) (hst : st = As.reverse ++ rest) (hn : As.length = n) (hcat : ∀ V : EV, ((rest.map (cv V)).map fun v => v.category).sum ≤ 8)
    (k : E P own cc nL d (pc + 3) ls (r.toList ++ rest) w1 Q) : E P own cc nL d pc ls st w Q := by
  refine E_ran (r := r) (w1 := w1) (rest := rest) (a := fun V => (As.map (cv V)).toArray) hst ?_ k
  intro p l e R s m args below meth c V H locs cells slots la C hP hS hl
  obtain ⟨c1, c2, c3, c4, c5, c6, c7, c8, c9, c10⟩ := id C
  obtain ⟨hg, hy, hmL⟩ := hc
  have hdd := Nat.le_of_ble_eq_true hdd
  refine va_runS (As := As.map (cv V)) ⟨c1, c2, c3, c4, c5⟩ (hm l V) (va_cwS (ws' := TBG) n c5 hg rfl rfl rfl hy ⟨by show d' + 1 ≤ R.frames; omega, by show 8 + (mL + 11) + 40 * d' ≤ R.locals; omega⟩) ⟨PcOK.blind, PcOK.at c6 hP hS⟩ rfl (by rw [List.length_map]; exact hn) hl.1 ?_ (lv_room (hcat V)) hd ⟨c9, c10⟩
  show (As.reverse ++ rest).map (cv V) = _
  rw [List.map_append, List.map_reverse]
def CNt (own : String) (ix : Nat) (y : MethodName) (ho : String) (b : ByteArray) (mL : Nat) (ret : Option FieldType) (n : Nat) : Prop :=
  Cond.methodLinkNest own ix y ho ∈ NWL ∧ Cond.static y ∈ TBG ∧ Cond.initialized y.cls ∈ TBG ∧ Cond.code y b mL ret ∈ TBG ∧ (y.cls ≠ "java/lang/invoke/MethodHandle" ∧ y.cls ≠ "java/lang/invoke/VarHandle" ∧ (parseMethodDescriptor y.desc).map (fun d => d.parameters.length) = some n) ∧ mL ≤ 20
theorem E_callN {ix n mL d' : Nat} {ho : String} {y : MethodName} {b : ByteArray} {ret : Option FieldType} {As rest st : List Value} {r : Option Value} {w1 : AW} (hc : CNt own ix y ho b mL ret n) (hd : decode cc pc = .ok (.invokestatic ix, 3)) (hm : CallOK P y b mL ret d' As w r w1) (hdd : Nat.ble (d' + 1) d = true) (hst : st = As.reverse ++ rest) (hn : As.length = n) (hcat : ∀ V : EV, ((rest.map (cv V)).map fun v => v.category).sum ≤ 8)
    (k : E P own cc nL d (pc + 3) ls (r.toList ++ rest) w1 Q) : E P own cc nL d pc ls st w Q := by
  refine E_ran (r := r) (w1 := w1) (rest := rest) (a := fun V => (As.map (cv V)).toArray) hst ?_ k
  intro p l e R s m args below meth c V H locs cells slots la C hP hS hl
  obtain ⟨c1, c2, c3, c4, c5, c6, c7, c8, c9, c10⟩ := id C
  obtain ⟨h1, h2, h3, h4, hy, hmL⟩ := hc
  have hdd := Nat.le_of_ble_eq_true hdd
  refine va_runSN (host := ho) (As := As.map (cv V)) ⟨c1, c2, c3, c4, c5⟩ (hm l V) ⟨va_cnB (ws' := TBG) n c5 (wz_in h4) rfl rfl rfl (c6.2.2.1 _ h1) (c5 _ h3) hy ⟨by show d' + 1 ≤ R.frames; omega, by show 8 + (mL + 11) + 40 * d' ≤ R.locals; omega⟩, c5 _ h2, trivial⟩ ⟨PcOK.blind, PcOK.at c6 hP hS⟩ rfl (by rw [List.length_map]; exact hn) hl.1 ?_ (lv_room (hcat V)) hd ⟨c9, c10⟩
  show (As.reverse ++ rest).map (cv V) = _
  rw [List.map_append, List.map_reverse]
end EC
