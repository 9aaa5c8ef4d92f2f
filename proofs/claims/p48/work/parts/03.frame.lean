/-- the sorts of a class's fields: 0 an int, 1 a long, 2 a reference that stays, 3 one that is set (its cell's number as an int) -/
def kd : Nat → List Nat
  | 0 => [2]
  | 1 => [2, 2, 2, 2, 2, 0, 0, 0, 0]
  | 2 => [2, 2, 2, 2, 2, 2, 0, 0, 0]
  | 3 => [2, 2, 0, 0, 0, 0, 0]
  | 4 => [0, 2, 2, 2, 2, 2]
  | 5 => [2, 2, 2, 0, 0, 0]
  | 6 => [2, 2, 0]
  | 7 => [2, 2, 2, 2, 2, 2]
  | 8 => [2, 0, 2, 2, 0, 0, 0, 0]
  | 9 => [0, 0, 0, 0, 2, 0]
  | 10 => [0, 0, 2, 2, 2, 2, 2, 2]
  | 11 => [2, 2, 2, 2, 0, 2, 2, 2, 2, 2, 2, 2, 2, 2]
  | _ => []
/-! THE FRAME: a pool of numbered cells (objects and rows), worlds as functions of ints and longs, the judgement E over configurations -/
def TBG : List Cond := lw_tbl.filter goodWord
theorem tbg_in {w : Cond} (h : w ∈ lw_tbl) (hg : goodWord w = true) : w ∈ TBG := List.mem_filter.mpr ⟨h, hg⟩
theorem tbg_ok {w : Cond} (h : w ∈ TBG) : (w.onTables && w.keeps) = true ∨ ∃ ty, w = .arrayClass ty := good_of_word (List.mem_filter.mp h).2
def wz (y : MethodName) (b : ByteArray) (k : Nat) (r : Option FieldType) : List Cond := .code y b k r :: TBG
theorem wz_in {y : MethodName} {b : ByteArray} {k : Nat} {r : Option FieldType} (h : Cond.code y b k r ∈ TBG) : GoodIn TBG (wz y b k r) := fun w hw => by
  rcases List.mem_cons.mp hw with rfl | hw
  · exact ⟨h, tbg_ok h⟩
  · exact ⟨hw, tbg_ok hw⟩
/-- a world: what ints and longs the cells hold, by cell and place -/
abbrev AW : Type := (Nat → Nat → Int32) × (Nat → Nat → Int64)
/-- the addresses of the cells, of the classes, of what lies outside -/
abbrev EV : Type := (Nat → Nat) × va_G × (ClassId × ClassId × ClassId) × ((Nat → Nat) × Value)
/-- the shapes of the cells, and the references that never change -/
abbrev SC : Type := Nat × (Nat → Int32)
abbrev PI : Type := List Nat × (Nat → Nat → Nat) × SC
def rfv (ad : Nat → Nat) (r : Nat) : Value := if r = 0 then .null else .ref (ad r)
def fv (ad : Nat → Nat) (Rf : Nat → Nat → Nat) (w : AW) (o k t : Nat) : Value := if t = 0 then .int (w.1 o k) else if t = 1 then .long (w.2 o k) else if t = 2 then rfv ad (Rf o k) else rfv ad (w.1 o k).toNatClampNeg
def flds (ad : Nat → Nat) (Rf : Nat → Nat → Nat) (w : AW) (o c : Nat) : List Value := (kd c).mapIdx (fun k t => fv ad Rf w o k t)
def ent (V : EV) (Rf : Nat → Nat → Nat) (w : AW) (o c : Nat) : va_E :=
  if c < 100 then .inr (c, flds V.1 Rf w o c) else if c < 1000 then .inl (V.2.2.1.2.1, c - 100, .inl (w.1 o)) else if c < 2000 then .inl (V.2.2.1.1, c - 1000, .inl (w.1 o)) else .inl (V.2.2.1.2.2, c - 2000, .inr (.inl (w.2 o)))
def wl (P : PI) (V : EV) (w : AW) : va_W := P.1.mapIdx (fun o c => (V.1 o, ent V P.2.1 w o c))
theorem wl_at {P : PI} {V : EV} {w : AW} {o c : Nat} (h : P.1[o]? = some c) : (wl P V w)[o]? = some (V.1 o, ent V P.2.1 w o c) := by simp [wl, h]
def setI (w : AW) (o k : Nat) (v : Int32) : AW := (fun a j => if a = o ∧ j = k then v else w.1 a j, w.2)
def setL (w : AW) (o k : Nat) (v : Int64) : AW := (w.1, fun a j => if a = o ∧ j = k then v else w.2 a j)
/-- n places of cell a from sp on come to cell b from dp on -/
def cpyI (w : AW) (a sp b dp n : Nat) : AW := (fun o j => if o = b then va_cpy (w.1 a) (w.1 b) sp dp n j else w.1 o j, w.2)
theorem ent_obj {V : EV} {Rf : Nat → Nat → Nat} {w : AW} {o c : Nat} (h : c < 100) : ent V Rf w o c = .inr (c, flds V.1 Rf w o c) := by simp [ent, h]
theorem ent_I {V : EV} {Rf : Nat → Nat → Nat} {w : AW} {o n : Nat} (h : n < 900) : ent V Rf w o (100 + n) = .inl (V.2.2.1.2.1, n, .inl (w.1 o)) := by
  have h1 : ¬ 100 + n < 100 := by omega
  have h2 : 100 + n < 1000 := by omega
  simp [ent, h2]
theorem ent_B {V : EV} {Rf : Nat → Nat → Nat} {w : AW} {o n : Nat} (h : n < 1000) : ent V Rf w o (1000 + n) = .inl (V.2.2.1.1, n, .inl (w.1 o)) := by
  have h1 : ¬ 1000 + n < 100 := by omega
  have h2 : ¬ 1000 + n < 1000 := by omega
  have h3 : 1000 + n < 2000 := by omega
  simp only [ent, if_neg h1, if_neg h2, if_pos h3, Nat.add_sub_cancel_left]
theorem ent_J {V : EV} {Rf : Nat → Nat → Nat} {w : AW} {o n : Nat} : ent V Rf w o (2000 + n) = .inl (V.2.2.1.2.2, n, .inr (.inl (w.2 o))) := by
  have h1 : ¬ 2000 + n < 100 := by omega
  have h2 : ¬ 2000 + n < 1000 := by omega
  have h3 : ¬ 2000 + n < 2000 := by omega
  simp [ent, h1, h2]
theorem flds_at {ad : Nat → Nat} {Rf : Nat → Nat → Nat} {w : AW} {o c k t : Nat} (h : (kd c)[k]? = some t) : (flds ad Rf w o c)[k]? = some (fv ad Rf w o k t) := by simp [flds, h]
theorem ent_off {V : EV} {Rf : Nat → Nat → Nat} {w w' : AW} {o c : Nat} (h1 : w'.1 o = w.1 o) (h2 : w'.2 o = w.2 o) : ent V Rf w' o c = ent V Rf w o c := by
  have hf : flds V.1 Rf w' o c = flds V.1 Rf w o c := by simp only [flds, fv, h1, h2]
  simp only [ent, hf, h1, h2]
theorem wl_set {P : PI} {V : EV} {w w' : AW} {o c : Nat} {e : va_E} (h : P.1[o]? = some c) (he : e = ent V P.2.1 w' o c) (hoff : ∀ o', o' ≠ o → w'.1 o' = w.1 o' ∧ w'.2 o' = w.2 o') : (wl P V w).set o (V.1 o, e) = wl P V w' := by
  apply List.ext_getElem?
  intro i
  rw [List.getElem?_set]
  by_cases hi : o = i
  · subst hi
    rw [if_pos rfl, wl_at h, he]
    have hl : o < (wl P V w).length := by
      have := (List.getElem?_eq_some_iff.mp h).1
      simp [wl]; exact this
    rw [if_pos hl]
  · rw [if_neg hi]
    simp only [wl, List.getElem?_mapIdx]
    cases hc : P.1[i]? with
    | none => rfl
    | some c' =>
      have := hoff i (fun q => hi q.symm)
      simp only [Option.map_some, ent_off this.1 this.2]
theorem setI_off {w : AW} {o k : Nat} {v : Int32} {o' : Nat} (h : o' ≠ o) : (setI w o k v).1 o' = w.1 o' ∧ (setI w o k v).2 o' = w.2 o' := ⟨funext fun j => if_neg (fun q => h q.1), rfl⟩
theorem setL_off {w : AW} {o k : Nat} {v : Int64} {o' : Nat} (h : o' ≠ o) : (setL w o k v).1 o' = w.1 o' ∧ (setL w o k v).2 o' = w.2 o' := ⟨rfl, funext fun j => if_neg (fun q => h q.1)⟩
theorem cpyI_off {w : AW} {a sp b dp n o' : Nat} (h : o' ≠ b) : (cpyI w a sp b dp n).1 o' = w.1 o' ∧ (cpyI w a sp b dp n).2 o' = w.2 o' := ⟨funext fun j => if_neg h, rfl⟩
theorem setI_row {w : AW} {o k : Nat} {v : Int32} : (setI w o k v).1 o = upd (w.1 o) k v := by
  funext j
  by_cases h : j = k <;> simp [setI, upd, h]
theorem setL_row {w : AW} {o k : Nat} {v : Int64} : (setL w o k v).2 o = vp_updL (w.2 o) k v := by
  funext j
  by_cases h : j = k <;> simp [setL, vp_updL, h]
theorem cpyI_row {w : AW} {a sp b dp n : Nat} : (cpyI w a sp b dp n).1 b = va_cpy (w.1 a) (w.1 b) sp dp n := funext fun j => if_pos rfl
theorem fv_setI {ad : Nat → Nat} {Rf : Nat → Nat → Nat} {w : AW} {o k i t : Nat} {v : Int32} (h : ¬ k = i) : fv ad Rf (setI w o k v) o i t = fv ad Rf w o i t := by
  have e1 : (setI w o k v).1 o i = w.1 o i := if_neg (fun q => h q.2.symm)
  unfold fv
  rw [e1]
  rfl
theorem flds_len {ad : Nat → Nat} {Rf : Nat → Nat → Nat} {w : AW} {o c k t : Nat} (h : (kd c)[k]? = some t) : k < (flds ad Rf w o c).length := by
  have := (List.getElem?_eq_some_iff.mp h).1
  simpa [flds] using this
theorem flds_get {ad : Nat → Nat} {Rf : Nat → Nat → Nat} {w : AW} {o c i : Nat} : (flds ad Rf w o c)[i]? = ((kd c)[i]?).map (fun t => fv ad Rf w o i t) := by
  simp [flds]
theorem flds_off {ad : Nat → Nat} {Rf : Nat → Nat → Nat} {w : AW} {o c k i : Nat} {v : Int32} (h : ¬ k = i) : (flds ad Rf w o c)[i]? = (flds ad Rf (setI w o k v) o c)[i]? := by
  rw [flds_get, flds_get]
  have hf : (fun t => fv ad Rf w o i t) = (fun t => fv ad Rf (setI w o k v) o i t) := funext fun t => (fv_setI h).symm
  rw [hf]
theorem flds_setI {ad : Nat → Nat} {Rf : Nat → Nat → Nat} {w : AW} {o c k t : Nat} {v : Int32} {y : Value} (h : (kd c)[k]? = some t) (hy : y = fv ad Rf (setI w o k v) o k t) : (flds ad Rf w o c).set k y = flds ad Rf (setI w o k v) o c := by
  apply List.ext_getElem?
  intro i
  rw [List.getElem?_set]
  by_cases hi : k = i
  · subst hi
    rw [if_pos rfl, if_pos (flds_len h), hy]
    exact (flds_at h).symm
  · rw [if_neg hi]
    exact flds_off hi
theorem flds_setL {ad : Nat → Nat} {Rf : Nat → Nat → Nat} {w : AW} {o c k : Nat} {v : Int64} (h : (kd c)[k]? = some 1) : (flds ad Rf w o c).set k (.long v) = flds ad Rf (setL w o k v) o c := by
  apply List.ext_getElem?
  intro i
  rw [List.getElem?_set]
  have hlen : k < (flds ad Rf w o c).length := by
    have := (List.getElem?_eq_some_iff.mp h).1
    simpa [flds] using this
  by_cases hi : k = i
  · subst hi
    rw [if_pos rfl, if_pos hlen, flds_at h]
    simp [fv, setL]
  · rw [if_neg hi]
    simp only [flds, List.getElem?_mapIdx]
    cases hc : (kd c)[i]? with
    | none => rfl
    | some t' =>
      have e1 : (setL w o k v).2 o i = w.2 o i := if_neg (fun q => hi q.2.symm)
      have e2 : (setL w o k v).1 = w.1 := rfl
      simp only [Option.map_some, fv, e1, e2]
/-- the pool's addresses -/
def Pl (P : PI) (V : EV) (q : Nat) : Prop := ∃ k, k < P.1.length ∧ q = V.1 k
theorem wl_D {P : PI} {V : EV} (hi : ∀ i j, i < P.1.length → j < P.1.length → V.1 i = V.1 j → i = j) (w : AW) : va_D (Pl P V) (wl P V w) := by
  have hat : ∀ (k : Nat) (q : Nat × va_E), (wl P V w)[k]? = some q → k < P.1.length ∧ q.1 = V.1 k := by
    intro k q h
    have hk : k < P.1.length := by
      have := (List.getElem?_eq_some_iff.mp h).1
      simpa [wl] using this
    refine ⟨hk, ?_⟩
    rw [wl_at (List.getElem?_eq_getElem hk)] at h
    rw [← Option.some.inj h]
  refine ⟨fun i j p q h1 h2 h => ?_, fun k q h => ⟨k, hat k q h⟩⟩
  obtain ⟨a1, a2⟩ := hat i p h1
  obtain ⟨b1, b2⟩ := hat j q h2
  exact hi i j a1 b1 (by rw [← a2, ← b2, h])
/-- a value of a configuration as the machine has it -/
def cv (V : EV) : Value → Value
  | .ref k => .ref (V.1 k)
  | .retAddr 0 => V.2.2.2.2
  | .retAddr (k + 1) => .ref (V.2.2.2.1 (k + 1))
  | v => v
theorem cv_cat {V : EV} {v : Value} (h : ∀ k, v ≠ .retAddr k) : (cv V v).category = v.category := by
  cases v <;> first | rfl | exact absurd rfl (h _)
abbrev tysV (V : EV) : List (ClassId × FieldType) := [(V.2.2.1.1, .byte), (V.2.2.1.2.1, .int)]


def nestW : Cond → Bool
  | .methodLinkNest .. => true
  | .fieldLinkNest .. => true
  | _ => false
def NWL : List Cond := lw_tbl.filter nestW
theorem nwl_in {w : Cond} (h : w ∈ lw_tbl) (hg : nestW w = true) : w ∈ NWL := List.mem_filter.mpr ⟨h, hg⟩
theorem nestW_warm {w : Cond} {s U : State} (hw : nestW w = true) (hW : s.WarmedH U.vm) (h : va_Nw w s) : va_Nw w U := by
  cases w <;> first | exact va_Nw.warmM hW h | exact va_Nw.warmF hW h | (exact absurd hw (by simp [nestW]))
def exA (V : EV) (k : Nat) : Nat := V.2.2.2.1 k
def exN (V : EV) : Value := V.2.2.2.2
def leastS : Nat → Int32 := fun j => if j = 0 then 1 else 0
def mostS : Nat → Int32 := fun j => if j = 0 then 4 else if j = 1 then 3 else if j = 2 then 99 else 4
/-- what lies outside the pool: the two tables, the script -/
def StatOK (X : SC) (A : Nat → Prop) (V : EV) (U : State) (H : Heap) : Prop :=
  (va_Z "PressDays" "LAW_LEAST" "[I" (.ref (exA V 1)) A U H ∧ va_T .int (exA V 1) 4 (fun j => .int (leastS j)) A U H) ∧ (va_Z "PressDays" "LAW_MOST" "[I" (.ref (exA V 2)) A U H ∧ va_T .int (exA V 2) 4 (fun j => .int (mostS j)) A U H) ∧
  va_T .int (exA V 3) X.1 (fun j => .int (X.2 j)) A U H ∧ exN V = .null
theorem StatOK.to {X : SC} {A : Nat → Prop} {V : EV} {s U : State} {H0 H : Heap} (h : StatOK X A V s H0) (hW : s.WarmedH U.vm) (hq : ∀ a : Nat, a < H0.size → ¬ A a → H[a]? = H0[a]?) : StatOK X A V U H := by
  obtain ⟨⟨a1, a2⟩, ⟨b1, b2⟩, c, d⟩ := h
  exact ⟨⟨(a1.moved hW.alike).kept hq, (a2.moved hW.alike).kept hq⟩, ⟨(b1.moved hW.alike).kept hq, (b2.moved hW.alike).kept hq⟩, (c.moved hW.alike).kept hq, d⟩
theorem StatOK.narrow {X : SC} {A B : Nat → Prop} {V : EV} {U : State} {H : Heap} (h : StatOK X A V U H) (hAB : ∀ q, B q → A q) : StatOK X B V U H := by
  obtain ⟨⟨a1, a2⟩, ⟨b1, b2⟩, c, d⟩ := h
  exact ⟨⟨a1.narrow hAB, a2.narrow hAB⟩, ⟨b1.narrow hAB, b2.narrow hAB⟩, c.narrow hAB, d⟩
def EnvOK (P : PI) (V : EV) (U : State) (H : Heap) : Prop :=
  va_K V.2.1 vwCl (tysV V) U ∧ (∀ i j, i < P.1.length → j < P.1.length → V.1 i = V.1 j → i = j) ∧ (∀ w ∈ NWL, va_Nw w U) ∧ StatOK P.2.2 (Pl P V) V U H
theorem EnvOK.to {P : PI} {V : EV} {s U : State} {H0 H : Heap} (h : EnvOK P V s H0) (hW : s.WarmedH U.vm) (hq : ∀ a : Nat, a < H0.size → ¬ Pl P V a → H[a]? = H0[a]?) : EnvOK P V U H :=
  ⟨va_K.moved hW.alike h.1, h.2.1, fun w hw => nestW_warm (List.mem_filter.mp hw).2 hW (h.2.2.1 w hw), h.2.2.2.to hW hq⟩
theorem EnvOK.calling {P : PI} {V : EV} {U : State} {g : JFrame} {mk : MethodId} {a : Array Value} {H : Heap} (h : EnvOK P V U H) : EnvOK P V (U.calling g mk a) H := by
  have hv : (U.calling g mk a).vm = U.vm := rfl
  obtain ⟨h1, h2, h3, ⟨a1, a2⟩, ⟨b1, b2⟩, c, d⟩ := h
  have hal : U.vm.Alike (U.calling g mk a).vm := by rw [hv]; exact Vm.Alike.refl U.vm
  exact ⟨va_K.moved hal h1, h2, fun w hw => va_tabs (by
    have hw2 := (List.mem_filter.mp hw).2
    cases w <;> first | rfl | exact absurd hw2 (by simp [nestW])) hv.symm (h3 w hw), ⟨a1.moved hal, a2.moved hal⟩, ⟨b1.moved hal, b2.moved hal⟩, c.moved hal, d⟩


/-- a frame's room at depth d -/
def rmd (d : Nat) : Room := { frames := d, cells := 0, slots := 0, locals := 40 * d }
/-- the locals: what is known of them, by place -/
def hasL (V : EV) (a : Array Slot) (nL : Nat) (ls : List (Option Value)) : Prop := a.size = nL ∧ lv_wf a ∧ ∀ (i : Nat) (v : Value), ls[i]? = some (some v) → a[i]? = some (.val (cv V v))
def asc (V : EV) (ls : List (Option Value)) : List (Nat × Value) := (List.range ls.length).filterMap (fun i => match ls[i]? with | some (some v) => some (i, cv V v) | _ => none)
theorem asc_mem {V : EV} {ls : List (Option Value)} {q : Nat × Value} : q ∈ asc V ls ↔ ∃ v, ls[q.1]? = some (some v) ∧ q.2 = cv V v := by
  constructor
  · intro h
    obtain ⟨i, -, hi⟩ := List.mem_filterMap.mp h
    cases hc : ls[i]? with
    | none => rw [hc] at hi; cases hi
    | some x =>
      cases x with
      | none => rw [hc] at hi; cases hi
      | some v =>
        rw [hc] at hi
        obtain rfl := (Option.some.inj hi).symm
        exact ⟨v, hc, rfl⟩
  · rintro ⟨v, h1, h2⟩
    refine List.mem_filterMap.mpr ⟨q.1, List.mem_range.mpr (List.getElem?_eq_some_iff.mp h1).1, ?_⟩
    rw [h1]
    exact congrArg some (Prod.ext rfl h2.symm)
theorem asc_of {V : EV} {a : Array Slot} {nL : Nat} {ls : List (Option Value)} (h : hasL V a nL ls) : lv_has a nL (asc V ls) := ⟨h.1, h.2.1, fun q hq => by
  obtain ⟨v, h1, h2⟩ := asc_mem.mp hq
  rw [h2]
  exact h.2.2 _ _ h1⟩
theorem asc_to {V : EV} {a : Array Slot} {nL : Nat} {ls : List (Option Value)} (h : lv_has a nL (asc V ls)) : hasL V a nL ls := ⟨h.1, h.2.1, fun i v hi => h.2.2 (i, cv V v) (asc_mem.mpr ⟨v, hi, rfl⟩)⟩
/-- no long stands ahead of place i -/
def okst (ls : List (Option Value)) : Nat → Bool
  | 0 => true
  | j + 1 => match ls[j]? with
    | some (some (.long _)) => false
    | some (some (.double _)) => false
    | some (some (.retAddr 0)) => false
    | _ => true
theorem asc_st {V : EV} {a : Array Slot} {nL i : Nat} {ls : List (Option Value)} {v : Value} (h : lv_has a nL ((i, cv V v) :: (asc V ls).filter (fun q => !(q.1 == i) && !(q.1 + 1 == i && q.2.category == 2)))) (hk : okst ls i = true) : hasL V a nL (ls.set i (some v)) := by
  refine ⟨h.1, h.2.1, fun j u hj => ?_⟩
  rw [List.getElem?_set] at hj
  by_cases hij : i = j
  · subst hij
    rw [if_pos rfl] at hj
    split at hj
    · obtain rfl := Option.some.inj (Option.some.inj hj)
      exact h.2.2 (i, _) List.mem_cons_self
    · cases hj
  · rw [if_neg hij] at hj
    refine h.2.2 (j, cv V u) (List.mem_cons_of_mem _ (List.mem_filter.mpr ⟨asc_mem.mpr ⟨u, hj, rfl⟩, ?_⟩))
    have h1 : (j == i) = false := by simpa using fun q => hij (Eq.symm q)
    by_cases h2 : j + 1 = i
    · subst h2
      have : (cv V u).category = 1 := by
        simp only [okst, hj] at hk
        cases u with
        | long x => simp at hk
        | double x => simp at hk
        | retAddr k =>
          cases k with
          | zero => simp at hk
          | succ k => rfl
        | _ => rfl
      simp [this]
    · have h3 : (j + 1 == i) = false := by simpa using h2
      simp [h1, h3]
theorem hasL_at {V : EV} {a : Array Slot} {nL i : Nat} {ls : List (Option Value)} {v : Value} (h : hasL V a nL ls) (hi : ls[i]? = some (some v)) : a[i]? = some (.val (cv V v)) := h.2.2 i v hi
/-- fewer known locals -/
def lsle : List (Option Value) → List (Option Value) → Prop
  | _, [] => True
  | a :: l, b :: l' => (b = none ∨ a = b) ∧ lsle l l'
  | [], b :: l' => b = none ∧ lsle [] l'
theorem lsle_at : ∀ {l l' : List (Option Value)} {i : Nat} {v : Value}, lsle l l' → l'[i]? = some (some v) → l[i]? = some (some v)
  | l, [], i, v, _, h => by simp at h
  | a :: l, b :: l', 0, v, h, h2 => by
    have h3 : b = some v := by simpa using h2
    rcases h.1 with q | q
    · rw [q] at h3; cases h3
    · rw [q, h3]; rfl
  | a :: l, b :: l', i + 1, v, h, h2 => by
    have := lsle_at (l := l) (l' := l') (i := i) (v := v) h.2 (by simpa using h2)
    simpa using this
  | [], b :: l', 0, v, h, h2 => by
    have h3 : b = some v := by simpa using h2
    rw [h.1] at h3; cases h3
  | [], b :: l', i + 1, v, h, h2 => by
    have := lsle_at (l := []) (l' := l') (i := i) (v := v) h.2 (by simpa using h2)
    simp at this
/-- what stays through a frame -/
def Cx (P : PI) (V : EV) (own : String) (cc : ByteArray) (nL d : Nat) (p : Program) (R : Room) (s : State) (m : MethodId) (args : Array Value) (c : Code) (cells slots : Nat) : Prop :=
  p.tables.exec = Jvm.exec ∧ c.code = cc ∧ c.maxLocals = nL ∧ s.vm.findClass own = some m.cls ∧ (∀ w ∈ TBG, w.before args s = true) ∧ EnvOK P V s s.heap ∧ d ≤ R.frames ∧ 40 * d ≤ R.locals ∧ cells ≤ R.cells ∧ slots ≤ R.slots
/-- from a configuration the frame comes to one with Q -/
def E (P : PI) (own : String) (cc : ByteArray) (nL d : Nat) (pc : Nat) (ls : List (Option Value)) (st : List Value) (w : AW) (Q : Nat → List (Option Value) → List Value → AW → Prop) : Prop :=
  ∀ (p : Program) (l : Launch) (e : Env) (R : Room) (s : State) (m : MethodId) (args : Array Value) (below : List Frame) (meth : Method) (c : Code) (V : EV) (H : Heap) (locs : List Loc) (cells slots : Nat) (la : Array Slot) (Z : State → Prop),
    Cx P V own cc nL d p R s m args c cells slots → va_P V.2.1 vwCl (wl P V w) H → va_S (Pl P V) s.heap H locs → hasL V la nL ls →
    (∀ (pc' : Nat) (ls' : List (Option Value)) (st' : List Value) (w' : AW) (H' : Heap) (locs' : List Loc) (la' : Array Slot), Q pc' ls' st' w' → va_P V.2.1 vwCl (wl P V w') H' → va_S (Pl P V) s.heap H' locs' → hasL V la' nL ls' →
      W p l e R s m args below meth c H' locs' cells slots Z (F0 m pc' la' (st'.map (cv V)))) →
    W p l e R s m args below meth c H locs cells slots Z (F0 m pc la (st.map (cv V)))
section ER
variable {P : PI} {own : String} {cc : ByteArray} {nL d pc : Nat} {ls : List (Option Value)} {st : List Value} {w : AW} {Q : Nat → List (Option Value) → List Value → AW → Prop}
theorem E.done (h : Q pc ls st w) : E P own cc nL d pc ls st w Q := by
  intro p l e R s m args below meth c V H locs cells slots la Z C hP hS hl K
  exact K pc ls st w H locs la h hP hS hl
theorem E.then {Q' : Nat → List (Option Value) → List Value → AW → Prop} (h : E P own cc nL d pc ls st w Q') (k : ∀ pc' ls' st' w', Q' pc' ls' st' w' → E P own cc nL d pc' ls' st' w' Q) : E P own cc nL d pc ls st w Q := by
  intro p l e R s m args below meth c V H locs cells slots la Z C hP hS hl K
  exact h p l e R s m args below meth c V H locs cells slots la Z C hP hS hl (fun pc' ls' st' w' H' locs' la' hq hP' hS' hl' => k pc' ls' st' w' hq p l e R s m args below meth c V H' locs' cells slots la' Z C hP' hS' hl' K)
theorem E.fewer {ls' : List (Option Value)} (h : lsle ls ls') (k : E P own cc nL d pc ls' st w Q) : E P own cc nL d pc ls st w Q := by
  intro p l e R s m args below meth c V H locs cells slots la Z C hP hS hl K
  exact k p l e R s m args below meth c V H locs cells slots la Z C hP hS ⟨hl.1, hl.2.1, fun i v hi => hl.2.2 i v (lsle_at h hi)⟩ K

theorem E_iadd {x y : Int32} (hd : decode cc pc = .ok (.iadd, 1)) (k : E P own cc nL d (pc + 1) ls (.int (x + y) :: st) w Q) : E P own cc nL d pc ls (.int y :: .int x :: st) w Q := by
  intro p l e R s m args below meth c V H locs cells slots la Z C hP hS hl K
  exact lv_iadd C.1 C.2.1 hd (k p l e R s m args below meth c V H locs cells slots la Z C hP hS hl K)

theorem E_isub {x y : Int32} (hd : decode cc pc = .ok (.isub, 1)) (k : E P own cc nL d (pc + 1) ls (.int (x - y) :: st) w Q) : E P own cc nL d pc ls (.int y :: .int x :: st) w Q := by
  intro p l e R s m args below meth c V H locs cells slots la Z C hP hS hl K
  exact lv_isub C.1 C.2.1 hd (k p l e R s m args below meth c V H locs cells slots la Z C hP hS hl K)

theorem E_imul {x y : Int32} (hd : decode cc pc = .ok (.imul, 1)) (k : E P own cc nL d (pc + 1) ls (.int (x * y) :: st) w Q) : E P own cc nL d pc ls (.int y :: .int x :: st) w Q := by
  intro p l e R s m args below meth c V H locs cells slots la Z C hP hS hl K
  exact lv_imul C.1 C.2.1 hd (k p l e R s m args below meth c V H locs cells slots la Z C hP hS hl K)

theorem E_iand {x y : Int32} (hd : decode cc pc = .ok (.iand, 1)) (k : E P own cc nL d (pc + 1) ls (.int (x &&& y) :: st) w Q) : E P own cc nL d pc ls (.int y :: .int x :: st) w Q := by
  intro p l e R s m args below meth c V H locs cells slots la Z C hP hS hl K
  exact lv_iand C.1 C.2.1 hd (k p l e R s m args below meth c V H locs cells slots la Z C hP hS hl K)

theorem E_ior {x y : Int32} (hd : decode cc pc = .ok (.ior, 1)) (k : E P own cc nL d (pc + 1) ls (.int (x ||| y) :: st) w Q) : E P own cc nL d pc ls (.int y :: .int x :: st) w Q := by
  intro p l e R s m args below meth c V H locs cells slots la Z C hP hS hl K
  exact lv_ior C.1 C.2.1 hd (k p l e R s m args below meth c V H locs cells slots la Z C hP hS hl K)

theorem E_ixor {x y : Int32} (hd : decode cc pc = .ok (.ixor, 1)) (k : E P own cc nL d (pc + 1) ls (.int (x ^^^ y) :: st) w Q) : E P own cc nL d pc ls (.int y :: .int x :: st) w Q := by
  intro p l e R s m args below meth c V H locs cells slots la Z C hP hS hl K
  exact lv_ixor C.1 C.2.1 hd (k p l e R s m args below meth c V H locs cells slots la Z C hP hS hl K)

theorem E_ishl {x y : Int32} (hd : decode cc pc = .ok (.ishl, 1)) (k : E P own cc nL d (pc + 1) ls (.int (x <<< (y &&& 31)) :: st) w Q) : E P own cc nL d pc ls (.int y :: .int x :: st) w Q := by
  intro p l e R s m args below meth c V H locs cells slots la Z C hP hS hl K
  exact lv_ishl C.1 C.2.1 hd (k p l e R s m args below meth c V H locs cells slots la Z C hP hS hl K)

theorem E_ishr {x y : Int32} (hd : decode cc pc = .ok (.ishr, 1)) (k : E P own cc nL d (pc + 1) ls (.int (x >>> (y &&& 31)) :: st) w Q) : E P own cc nL d pc ls (.int y :: .int x :: st) w Q := by
  intro p l e R s m args below meth c V H locs cells slots la Z C hP hS hl K
  exact lv_ishr C.1 C.2.1 hd (k p l e R s m args below meth c V H locs cells slots la Z C hP hS hl K)

theorem E_idiv {x y : Int32} (hd : decode cc pc = .ok (.idiv, 1)) (h0 : ¬ y = 0) (k : E P own cc nL d (pc + 1) ls (.int (x / y) :: st) w Q) : E P own cc nL d pc ls (.int y :: .int x :: st) w Q := by
  intro p l e R s m args below meth c V H locs cells slots la Z C hP hS hl K
  exact lv_idiv C.1 C.2.1 hd h0 (k p l e R s m args below meth c V H locs cells slots la Z C hP hS hl K)

theorem E_irem {x y : Int32} (hd : decode cc pc = .ok (.irem, 1)) (h0 : ¬ y = 0) (k : E P own cc nL d (pc + 1) ls (.int (x - x / y * y) :: st) w Q) : E P own cc nL d pc ls (.int y :: .int x :: st) w Q := by
  intro p l e R s m args below meth c V H locs cells slots la Z C hP hS hl K
  exact lv_irem C.1 C.2.1 hd h0 (k p l e R s m args below meth c V H locs cells slots la Z C hP hS hl K)

theorem E_iushr {x y : Int32} (hd : decode cc pc = .ok (.iushr, 1)) (k : E P own cc nL d (pc + 1) ls (.int (x.toUInt32 >>> (y.toUInt32 &&& Int32.toUInt32 31)).toInt32 :: st) w Q) : E P own cc nL d pc ls (.int y :: .int x :: st) w Q := by
  intro p l e R s m args below meth c V H locs cells slots la Z C hP hS hl K
  exact lv_iushr C.1 C.2.1 hd rfl (k p l e R s m args below meth c V H locs cells slots la Z C hP hS hl K)

theorem E_ineg {x : Int32} (hd : decode cc pc = .ok (.ineg, 1)) (k : E P own cc nL d (pc + 1) ls (.int (-x) :: st) w Q) : E P own cc nL d pc ls (.int x :: st) w Q := by
  intro p l e R s m args below meth c V H locs cells slots la Z C hP hS hl K
  exact lv_ineg C.1 C.2.1 hd (k p l e R s m args below meth c V H locs cells slots la Z C hP hS hl K)

theorem E_i2b {x : Int32} (hd : decode cc pc = .ok (.i2b, 1)) (k : E P own cc nL d (pc + 1) ls (.int x.toInt8.toInt32 :: st) w Q) : E P own cc nL d pc ls (.int x :: st) w Q := by
  intro p l e R s m args below meth c V H locs cells slots la Z C hP hS hl K
  exact lv_i2b C.1 C.2.1 hd rfl (k p l e R s m args below meth c V H locs cells slots la Z C hP hS hl K)

theorem E_i2s {x : Int32} (hd : decode cc pc = .ok (.i2s, 1)) (k : E P own cc nL d (pc + 1) ls (.int x.toInt16.toInt32 :: st) w Q) : E P own cc nL d pc ls (.int x :: st) w Q := by
  intro p l e R s m args below meth c V H locs cells slots la Z C hP hS hl K
  exact lv_i2s C.1 C.2.1 hd rfl (k p l e R s m args below meth c V H locs cells slots la Z C hP hS hl K)

theorem E_i2c {x : Int32} (hd : decode cc pc = .ok (.i2c, 1)) (k : E P own cc nL d (pc + 1) ls (.int (x.toUInt32 % 65536).toInt32 :: st) w Q) : E P own cc nL d pc ls (.int x :: st) w Q := by
  intro p l e R s m args below meth c V H locs cells slots la Z C hP hS hl K
  exact lv_i2c C.1 C.2.1 hd rfl (k p l e R s m args below meth c V H locs cells slots la Z C hP hS hl K)

theorem E_i2l {x : Int32} (hd : decode cc pc = .ok (.i2l, 1)) (k : E P own cc nL d (pc + 1) ls (.long x.toInt64 :: st) w Q) : E P own cc nL d pc ls (.int x :: st) w Q := by
  intro p l e R s m args below meth c V H locs cells slots la Z C hP hS hl K
  exact lv_i2l C.1 C.2.1 hd rfl (k p l e R s m args below meth c V H locs cells slots la Z C hP hS hl K)

theorem E_l2i {x : Int64} (hd : decode cc pc = .ok (.l2i, 1)) (k : E P own cc nL d (pc + 1) ls (.int x.toInt32 :: st) w Q) : E P own cc nL d pc ls (.long x :: st) w Q := by
  intro p l e R s m args below meth c V H locs cells slots la Z C hP hS hl K
  exact lv_l2i C.1 C.2.1 hd rfl (k p l e R s m args below meth c V H locs cells slots la Z C hP hS hl K)

theorem E_ladd {x y : Int64} (hd : decode cc pc = .ok (.ladd, 1)) (k : E P own cc nL d (pc + 1) ls (.long (x + y) :: st) w Q) : E P own cc nL d pc ls (.long y :: .long x :: st) w Q := by
  intro p l e R s m args below meth c V H locs cells slots la Z C hP hS hl K
  exact lv_ladd C.1 C.2.1 hd (k p l e R s m args below meth c V H locs cells slots la Z C hP hS hl K)

theorem E_lsub {x y : Int64} (hd : decode cc pc = .ok (.lsub, 1)) (k : E P own cc nL d (pc + 1) ls (.long (x - y) :: st) w Q) : E P own cc nL d pc ls (.long y :: .long x :: st) w Q := by
  intro p l e R s m args below meth c V H locs cells slots la Z C hP hS hl K
  exact lv_lsub C.1 C.2.1 hd (k p l e R s m args below meth c V H locs cells slots la Z C hP hS hl K)

theorem E_lmul {x y : Int64} (hd : decode cc pc = .ok (.lmul, 1)) (k : E P own cc nL d (pc + 1) ls (.long (x * y) :: st) w Q) : E P own cc nL d pc ls (.long y :: .long x :: st) w Q := by
  intro p l e R s m args below meth c V H locs cells slots la Z C hP hS hl K
  exact lv_lmul C.1 C.2.1 hd (k p l e R s m args below meth c V H locs cells slots la Z C hP hS hl K)

theorem E_land {x y : Int64} (hd : decode cc pc = .ok (.land, 1)) (k : E P own cc nL d (pc + 1) ls (.long (x &&& y) :: st) w Q) : E P own cc nL d pc ls (.long y :: .long x :: st) w Q := by
  intro p l e R s m args below meth c V H locs cells slots la Z C hP hS hl K
  exact lv_land C.1 C.2.1 hd (k p l e R s m args below meth c V H locs cells slots la Z C hP hS hl K)

theorem E_lor {x y : Int64} (hd : decode cc pc = .ok (.lor, 1)) (k : E P own cc nL d (pc + 1) ls (.long (x ||| y) :: st) w Q) : E P own cc nL d pc ls (.long y :: .long x :: st) w Q := by
  intro p l e R s m args below meth c V H locs cells slots la Z C hP hS hl K
  exact lv_lor C.1 C.2.1 hd (k p l e R s m args below meth c V H locs cells slots la Z C hP hS hl K)

theorem E_lshl {x : Int64} {y : Int32} (hd : decode cc pc = .ok (.lshl, 1)) (k : E P own cc nL d (pc + 1) ls (.long (x <<< (y.toInt64 &&& 63)) :: st) w Q) : E P own cc nL d pc ls (.int y :: .long x :: st) w Q := by
  intro p l e R s m args below meth c V H locs cells slots la Z C hP hS hl K
  exact lv_lshl C.1 C.2.1 hd rfl (k p l e R s m args below meth c V H locs cells slots la Z C hP hS hl K)

theorem E_lshr {x : Int64} {y : Int32} (hd : decode cc pc = .ok (.lshr, 1)) (k : E P own cc nL d (pc + 1) ls (.long (x >>> (y.toInt64 &&& 63)) :: st) w Q) : E P own cc nL d pc ls (.int y :: .long x :: st) w Q := by
  intro p l e R s m args below meth c V H locs cells slots la Z C hP hS hl K
  exact lv_lshr C.1 C.2.1 hd rfl (k p l e R s m args below meth c V H locs cells slots la Z C hP hS hl K)

theorem E_lushr {x : Int64} {y : Int32} (hd : decode cc pc = .ok (.lushr, 1)) (k : E P own cc nL d (pc + 1) ls (.long (x.toUInt64 >>> (y.toInt64.toUInt64 &&& Int64.toUInt64 63)).toInt64 :: st) w Q) : E P own cc nL d pc ls (.int y :: .long x :: st) w Q := by
  intro p l e R s m args below meth c V H locs cells slots la Z C hP hS hl K
  exact lv_lushr C.1 C.2.1 hd rfl (k p l e R s m args below meth c V H locs cells slots la Z C hP hS hl K)

theorem E_lcmp {x y : Int64} (hd : decode cc pc = .ok (.lcmp, 1)) (k : E P own cc nL d (pc + 1) ls (.int (lg_cmp x y) :: st) w Q) : E P own cc nL d pc ls (.long y :: .long x :: st) w Q := by
  intro p l e R s m args below meth c V H locs cells slots la Z C hP hS hl K
  exact W.lcmp C.1 C.2.1 hd (k p l e R s m args below meth c V H locs cells slots la Z C hP hS hl K)

theorem E_iconst {n : Int} (v : Int32) (hd : decode cc pc = .ok (.iconst n, 1)) (hv : Int32.ofInt n = v) (k : E P own cc nL d (pc + 1) ls (.int v :: st) w Q) : E P own cc nL d pc ls (st) w Q := by
  intro p l e R s m args below meth c V H locs cells slots la Z C hP hS hl K
  exact lv_iconst C.1 C.2.1 hd hv (k p l e R s m args below meth c V H locs cells slots la Z C hP hS hl K)

theorem E_bipush {n : Int} (v : Int32) (hd : decode cc pc = .ok (.bipush n, 2)) (hv : (Int8.ofInt n).toInt32 = v) (k : E P own cc nL d (pc + 2) ls (.int v :: st) w Q) : E P own cc nL d pc ls (st) w Q := by
  intro p l e R s m args below meth c V H locs cells slots la Z C hP hS hl K
  exact lv_bipush C.1 C.2.1 hd hv (k p l e R s m args below meth c V H locs cells slots la Z C hP hS hl K)

theorem E_sipush {n : Int} (v : Int32) (hd : decode cc pc = .ok (.sipush n, 3)) (hv : (Int16.ofInt n).toInt32 = v) (k : E P own cc nL d (pc + 3) ls (.int v :: st) w Q) : E P own cc nL d pc ls (st) w Q := by
  intro p l e R s m args below meth c V H locs cells slots la Z C hP hS hl K
  exact lv_sipush C.1 C.2.1 hd hv (k p l e R s m args below meth c V H locs cells slots la Z C hP hS hl K)

theorem E_lconst {n : Fin 2} (v : Int64) (hd : decode cc pc = .ok (.lconst n, 1)) (hv : Int64.ofNat (n : Nat) = v) (k : E P own cc nL d (pc + 1) ls (.long v :: st) w Q) : E P own cc nL d pc ls (st) w Q := by
  intro p l e R s m args below meth c V H locs cells slots la Z C hP hS hl K
  exact lv_lconst C.1 C.2.1 hd hv (k p l e R s m args below meth c V H locs cells slots la Z C hP hS hl K)

theorem E_ldc {ix : Nat} (v : Int32) (hd : decode cc pc = .ok (.ldc ix, 2)) (hw : Cond.constant own ix v ∈ TBG) (k : E P own cc nL d (pc + 2) ls (.int v :: st) w Q) : E P own cc nL d pc ls (st) w Q := by
  intro p l e R s m args below meth c V H locs cells slots la Z C hP hS hl K
  exact lv_ldc C.1 C.2.1 C.2.2.2.1 (C.2.2.2.2.1 _ hw) hd (k p l e R s m args below meth c V H locs cells slots la Z C hP hS hl K)

theorem E_ldcw {ix : Nat} (v : Int32) (hd : decode cc pc = .ok (.ldc_w ix, 3)) (hw : Cond.constant own ix v ∈ TBG) (k : E P own cc nL d (pc + 3) ls (.int v :: st) w Q) : E P own cc nL d pc ls (st) w Q := by
  intro p l e R s m args below meth c V H locs cells slots la Z C hP hS hl K
  exact lv_ldcw C.1 C.2.1 C.2.2.2.1 (C.2.2.2.2.1 _ hw) hd (k p l e R s m args below meth c V H locs cells slots la Z C hP hS hl K)

theorem E_ldc2 {ix : Nat} (v : Int64) (hd : decode cc pc = .ok (.ldc2_w ix, 3)) (hw : Cond.constantLong own ix v ∈ TBG) (k : E P own cc nL d (pc + 3) ls (.long v :: st) w Q) : E P own cc nL d pc ls (st) w Q := by
  intro p l e R s m args below meth c V H locs cells slots la Z C hP hS hl K
  exact lv_ldc2 C.1 C.2.1 C.2.2.2.1 (C.2.2.2.2.1 _ hw) hd (k p l e R s m args below meth c V H locs cells slots la Z C hP hS hl K)

theorem E_iload_n {i : Fin 4} {v : Int32} (hd : decode cc pc = .ok (.iload_n i, 1)) (hi : ls[(i : Nat)]? = some (some (.int v))) (k : E P own cc nL d (pc + 1) ls (.int v :: st) w Q) : E P own cc nL d pc ls (st) w Q := by
  intro p l e R s m args below meth c V H locs cells slots la Z C hP hS hl K
  exact lv_iload_n C.1 C.2.1 hd rfl (hasL_at hl hi) (k p l e R s m args below meth c V H locs cells slots la Z C hP hS hl K)

theorem E_iload {i : Nat} {v : Int32} (hd : decode cc pc = .ok (.iload i, 2)) (hi : ls[i]? = some (some (.int v))) (k : E P own cc nL d (pc + 2) ls (.int v :: st) w Q) : E P own cc nL d pc ls (st) w Q := by
  intro p l e R s m args below meth c V H locs cells slots la Z C hP hS hl K
  exact lv_iload C.1 C.2.1 hd (hasL_at hl hi) (k p l e R s m args below meth c V H locs cells slots la Z C hP hS hl K)

theorem E_lload_n {i : Fin 4} {v : Int64} (hd : decode cc pc = .ok (.lload_n i, 1)) (hi : ls[(i : Nat)]? = some (some (.long v))) (k : E P own cc nL d (pc + 1) ls (.long v :: st) w Q) : E P own cc nL d pc ls (st) w Q := by
  intro p l e R s m args below meth c V H locs cells slots la Z C hP hS hl K
  exact lv_lload_n C.1 C.2.1 hd rfl (hasL_at hl hi) (k p l e R s m args below meth c V H locs cells slots la Z C hP hS hl K)

theorem E_aload_n {i : Fin 4} {v : Nat} (hd : decode cc pc = .ok (.aload_n i, 1)) (hi : ls[(i : Nat)]? = some (some (.ref v))) (k : E P own cc nL d (pc + 1) ls (.ref v :: st) w Q) : E P own cc nL d pc ls (st) w Q := by
  intro p l e R s m args below meth c V H locs cells slots la Z C hP hS hl K
  exact lv_aload_n C.1 C.2.1 hd rfl (hasL_at hl hi) (k p l e R s m args below meth c V H locs cells slots la Z C hP hS hl K)

theorem E_aload {i : Nat} {v : Nat} (hd : decode cc pc = .ok (.aload i, 2)) (hi : ls[i]? = some (some (.ref v))) (k : E P own cc nL d (pc + 2) ls (.ref v :: st) w Q) : E P own cc nL d pc ls (st) w Q := by
  intro p l e R s m args below meth c V H locs cells slots la Z C hP hS hl K
  exact lv_aload C.1 C.2.1 hd (hasL_at hl hi) (k p l e R s m args below meth c V H locs cells slots la Z C hP hS hl K)

theorem E_aloadx_n {i : Fin 4} {v : Nat} (hd : decode cc pc = .ok (.aload_n i, 1)) (hi : ls[(i : Nat)]? = some (some (.retAddr (v + 1)))) (k : E P own cc nL d (pc + 1) ls (.retAddr (v + 1) :: st) w Q) : E P own cc nL d pc ls (st) w Q := by
  intro p l e R s m args below meth c V H locs cells slots la Z C hP hS hl K
  exact lv_aload_n C.1 C.2.1 hd rfl (hasL_at hl hi) (k p l e R s m args below meth c V H locs cells slots la Z C hP hS hl K)

theorem E_aloadx {i : Nat} {v : Nat} (hd : decode cc pc = .ok (.aload i, 2)) (hi : ls[i]? = some (some (.retAddr (v + 1)))) (k : E P own cc nL d (pc + 2) ls (.retAddr (v + 1) :: st) w Q) : E P own cc nL d pc ls (st) w Q := by
  intro p l e R s m args below meth c V H locs cells slots la Z C hP hS hl K
  exact lv_aload C.1 C.2.1 hd (hasL_at hl hi) (k p l e R s m args below meth c V H locs cells slots la Z C hP hS hl K)

theorem E_null (hd : decode cc pc = .ok (.aconst_null, 1)) (k : E P own cc nL d (pc + 1) ls (.null :: st) w Q) : E P own cc nL d pc ls (st) w Q := by
  intro p l e R s m args below meth c V H locs cells slots la Z C hP hS hl K
  exact lv_null C.1 C.2.1 hd (k p l e R s m args below meth c V H locs cells slots la Z C hP hS hl K)

theorem E_dup_i {x : Int32} (hd : decode cc pc = .ok (.dup, 1)) (k : E P own cc nL d (pc + 1) ls (.int x :: .int x :: st) w Q) : E P own cc nL d pc ls (.int x :: st) w Q := by
  intro p l e R s m args below meth c V H locs cells slots la Z C hP hS hl K
  exact lv_dup C.1 C.2.1 hd rfl (k p l e R s m args below meth c V H locs cells slots la Z C hP hS hl K)

theorem E_dup_r {x : Nat} (hd : decode cc pc = .ok (.dup, 1)) (k : E P own cc nL d (pc + 1) ls (.ref x :: .ref x :: st) w Q) : E P own cc nL d pc ls (.ref x :: st) w Q := by
  intro p l e R s m args below meth c V H locs cells slots la Z C hP hS hl K
  exact lv_dup C.1 C.2.1 hd rfl (k p l e R s m args below meth c V H locs cells slots la Z C hP hS hl K)

theorem E_dup2_ir {x : Int32} {a : Nat} (hd : decode cc pc = .ok (.dup2, 1)) (k : E P own cc nL d (pc + 1) ls (.int x :: .ref a :: .int x :: .ref a :: st) w Q) : E P own cc nL d pc ls (.int x :: .ref a :: st) w Q := by
  intro p l e R s m args below meth c V H locs cells slots la Z C hP hS hl K
  exact lv_dup2_11 C.1 C.2.1 hd rfl rfl (k p l e R s m args below meth c V H locs cells slots la Z C hP hS hl K)

theorem E_pop_i {x : Int32} (hd : decode cc pc = .ok (.pop, 1)) (k : E P own cc nL d (pc + 1) ls (st) w Q) : E P own cc nL d pc ls (.int x :: st) w Q := by
  intro p l e R s m args below meth c V H locs cells slots la Z C hP hS hl K
  exact lv_pop C.1 C.2.1 hd rfl (k p l e R s m args below meth c V H locs cells slots la Z C hP hS hl K)

theorem E_goto {off : Int} (tgt : Nat) (hd : decode cc pc = .ok (.goto off, 3)) (ht : (pc : Int) + off = (tgt : Int)) (k : E P own cc nL d tgt ls st w Q) : E P own cc nL d pc ls st w Q := by
  intro p l e R s m args below meth c V H locs cells slots la Z C hP hS hl K
  exact lv_goto C.1 C.2.1 hd ht (k p l e R s m args below meth c V H locs cells slots la Z C hP hS hl K)

theorem E_if_eq {x : Int32} {off : Int} (tgt : Nat) (hd : decode cc pc = .ok (.ifCond .eq off, 3)) (ht : (pc : Int) + off = (tgt : Int)) (kt : x = 0 → E P own cc nL d tgt ls st w Q) (kf : ¬ x = 0 → E P own cc nL d (pc + 3) ls st w Q) : E P own cc nL d pc ls (.int x :: st) w Q := by
  intro p l e R s m args below meth c V H locs cells slots la Z C hP hS hl K
  exact lv_if_eq C.1 C.2.1 hd ht (fun h => kt h p l e R s m args below meth c V H locs cells slots la Z C hP hS hl K) (fun h => kf h p l e R s m args below meth c V H locs cells slots la Z C hP hS hl K)

theorem E_if_lt {x : Int32} {off : Int} (tgt : Nat) (hd : decode cc pc = .ok (.ifCond .lt off, 3)) (ht : (pc : Int) + off = (tgt : Int)) (kt : x < 0 → E P own cc nL d tgt ls st w Q) (kf : ¬ x < 0 → E P own cc nL d (pc + 3) ls st w Q) : E P own cc nL d pc ls (.int x :: st) w Q := by
  intro p l e R s m args below meth c V H locs cells slots la Z C hP hS hl K
  exact lv_if_lt C.1 C.2.1 hd ht (fun h => kt h p l e R s m args below meth c V H locs cells slots la Z C hP hS hl K) (fun h => kf h p l e R s m args below meth c V H locs cells slots la Z C hP hS hl K)

theorem E_if_ge {x : Int32} {off : Int} (tgt : Nat) (hd : decode cc pc = .ok (.ifCond .ge off, 3)) (ht : (pc : Int) + off = (tgt : Int)) (kt : 0 ≤ x → E P own cc nL d tgt ls st w Q) (kf : ¬ 0 ≤ x → E P own cc nL d (pc + 3) ls st w Q) : E P own cc nL d pc ls (.int x :: st) w Q := by
  intro p l e R s m args below meth c V H locs cells slots la Z C hP hS hl K
  exact lv_if_ge C.1 C.2.1 hd ht (fun h => kt h p l e R s m args below meth c V H locs cells slots la Z C hP hS hl K) (fun h => kf h p l e R s m args below meth c V H locs cells slots la Z C hP hS hl K)

theorem E_if_gt {x : Int32} {off : Int} (tgt : Nat) (hd : decode cc pc = .ok (.ifCond .gt off, 3)) (ht : (pc : Int) + off = (tgt : Int)) (kt : 0 < x → E P own cc nL d tgt ls st w Q) (kf : ¬ 0 < x → E P own cc nL d (pc + 3) ls st w Q) : E P own cc nL d pc ls (.int x :: st) w Q := by
  intro p l e R s m args below meth c V H locs cells slots la Z C hP hS hl K
  exact lv_if_gt C.1 C.2.1 hd ht (fun h => kt h p l e R s m args below meth c V H locs cells slots la Z C hP hS hl K) (fun h => kf h p l e R s m args below meth c V H locs cells slots la Z C hP hS hl K)

theorem E_if_le {x : Int32} {off : Int} (tgt : Nat) (hd : decode cc pc = .ok (.ifCond .le off, 3)) (ht : (pc : Int) + off = (tgt : Int)) (kt : x ≤ 0 → E P own cc nL d tgt ls st w Q) (kf : ¬ x ≤ 0 → E P own cc nL d (pc + 3) ls st w Q) : E P own cc nL d pc ls (.int x :: st) w Q := by
  intro p l e R s m args below meth c V H locs cells slots la Z C hP hS hl K
  exact lv_if_le C.1 C.2.1 hd ht (fun h => kt h p l e R s m args below meth c V H locs cells slots la Z C hP hS hl K) (fun h => kf h p l e R s m args below meth c V H locs cells slots la Z C hP hS hl K)

theorem E_icmp_eq {x y : Int32} {off : Int} (tgt : Nat) (hd : decode cc pc = .ok (.if_icmp .eq off, 3)) (ht : (pc : Int) + off = (tgt : Int)) (kt : x = y → E P own cc nL d tgt ls st w Q) (kf : ¬ x = y → E P own cc nL d (pc + 3) ls st w Q) : E P own cc nL d pc ls (.int y :: .int x :: st) w Q := by
  intro p l e R s m args below meth c V H locs cells slots la Z C hP hS hl K
  exact lv_icmp_eq C.1 C.2.1 hd ht (fun h => kt h p l e R s m args below meth c V H locs cells slots la Z C hP hS hl K) (fun h => kf h p l e R s m args below meth c V H locs cells slots la Z C hP hS hl K)

theorem E_icmp_lt {x y : Int32} {off : Int} (tgt : Nat) (hd : decode cc pc = .ok (.if_icmp .lt off, 3)) (ht : (pc : Int) + off = (tgt : Int)) (kt : x < y → E P own cc nL d tgt ls st w Q) (kf : ¬ x < y → E P own cc nL d (pc + 3) ls st w Q) : E P own cc nL d pc ls (.int y :: .int x :: st) w Q := by
  intro p l e R s m args below meth c V H locs cells slots la Z C hP hS hl K
  exact lv_icmp_lt C.1 C.2.1 hd ht (fun h => kt h p l e R s m args below meth c V H locs cells slots la Z C hP hS hl K) (fun h => kf h p l e R s m args below meth c V H locs cells slots la Z C hP hS hl K)

theorem E_icmp_ge {x y : Int32} {off : Int} (tgt : Nat) (hd : decode cc pc = .ok (.if_icmp .ge off, 3)) (ht : (pc : Int) + off = (tgt : Int)) (kt : y ≤ x → E P own cc nL d tgt ls st w Q) (kf : ¬ y ≤ x → E P own cc nL d (pc + 3) ls st w Q) : E P own cc nL d pc ls (.int y :: .int x :: st) w Q := by
  intro p l e R s m args below meth c V H locs cells slots la Z C hP hS hl K
  exact lv_icmp_ge C.1 C.2.1 hd ht (fun h => kt h p l e R s m args below meth c V H locs cells slots la Z C hP hS hl K) (fun h => kf h p l e R s m args below meth c V H locs cells slots la Z C hP hS hl K)

theorem E_icmp_gt {x y : Int32} {off : Int} (tgt : Nat) (hd : decode cc pc = .ok (.if_icmp .gt off, 3)) (ht : (pc : Int) + off = (tgt : Int)) (kt : y < x → E P own cc nL d tgt ls st w Q) (kf : ¬ y < x → E P own cc nL d (pc + 3) ls st w Q) : E P own cc nL d pc ls (.int y :: .int x :: st) w Q := by
  intro p l e R s m args below meth c V H locs cells slots la Z C hP hS hl K
  exact lv_icmp_gt C.1 C.2.1 hd ht (fun h => kt h p l e R s m args below meth c V H locs cells slots la Z C hP hS hl K) (fun h => kf h p l e R s m args below meth c V H locs cells slots la Z C hP hS hl K)

theorem E_icmp_le {x y : Int32} {off : Int} (tgt : Nat) (hd : decode cc pc = .ok (.if_icmp .le off, 3)) (ht : (pc : Int) + off = (tgt : Int)) (kt : x ≤ y → E P own cc nL d tgt ls st w Q) (kf : ¬ x ≤ y → E P own cc nL d (pc + 3) ls st w Q) : E P own cc nL d pc ls (.int y :: .int x :: st) w Q := by
  intro p l e R s m args below meth c V H locs cells slots la Z C hP hS hl K
  exact lv_icmp_le C.1 C.2.1 hd ht (fun h => kt h p l e R s m args below meth c V H locs cells slots la Z C hP hS hl K) (fun h => kf h p l e R s m args below meth c V H locs cells slots la Z C hP hS hl K)

theorem E_if_ne {x : Int32} {off : Int} (tgt : Nat) (hd : decode cc pc = .ok (.ifCond .ne off, 3)) (ht : (pc : Int) + off = (tgt : Int)) (kf : x = 0 → E P own cc nL d (pc + 3) ls st w Q) (kt : ¬ x = 0 → E P own cc nL d tgt ls st w Q) : E P own cc nL d pc ls (.int x :: st) w Q := by
  intro p l e R s m args below meth c V H locs cells slots la Z C hP hS hl K
  exact lv_if_ne C.1 C.2.1 hd ht (fun h => kt h p l e R s m args below meth c V H locs cells slots la Z C hP hS hl K) (fun h => kf h p l e R s m args below meth c V H locs cells slots la Z C hP hS hl K)

theorem E_icmp_ne {x y : Int32} {off : Int} (tgt : Nat) (hd : decode cc pc = .ok (.if_icmp .ne off, 3)) (ht : (pc : Int) + off = (tgt : Int)) (kf : x = y → E P own cc nL d (pc + 3) ls st w Q) (kt : ¬ x = y → E P own cc nL d tgt ls st w Q) : E P own cc nL d pc ls (.int y :: .int x :: st) w Q := by
  intro p l e R s m args below meth c V H locs cells slots la Z C hP hS hl K
  exact lv_icmp_ne C.1 C.2.1 hd ht (fun h => kt h p l e R s m args below meth c V H locs cells slots la Z C hP hS hl K) (fun h => kf h p l e R s m args below meth c V H locs cells slots la Z C hP hS hl K)

theorem E_istore_n {i : Fin 4} {x : Int32} {ls' : List (Option Value)} (hd : decode cc pc = .ok (.istore_n i, 1)) (hn : Nat.ble ((i : Nat) + 1) nL = true) (hk : okst ls (i : Nat) = true) (hl' : ls.set (i : Nat) (some (.int x)) = ls') (k : E P own cc nL d (pc + 1) ls' st w Q) : E P own cc nL d pc ls (.int x :: st) w Q := by
  intro p l e R s m args below meth c V H locs cells slots la Z C hP hS hl K
  subst hl'
  exact lv_istore_n C.1 C.2.1 hd rfl (asc_of hl) (Nat.le_of_ble_eq_true hn) rfl (fun la' h' => k p l e R s m args below meth c V H locs cells slots la' Z C hP hS (asc_st (v := .int x) h' hk) K)

theorem E_istore {i : Nat} {x : Int32} {ls' : List (Option Value)} (hd : decode cc pc = .ok (.istore i, 2)) (hn : Nat.ble (i + 1) nL = true) (hk : okst ls i = true) (hl' : ls.set i (some (.int x)) = ls') (k : E P own cc nL d (pc + 2) ls' st w Q) : E P own cc nL d pc ls (.int x :: st) w Q := by
  intro p l e R s m args below meth c V H locs cells slots la Z C hP hS hl K
  subst hl'
  exact lv_istore C.1 C.2.1 hd (asc_of hl) (Nat.le_of_ble_eq_true hn) rfl (fun la' h' => k p l e R s m args below meth c V H locs cells slots la' Z C hP hS (asc_st (v := .int x) h' hk) K)

theorem E_iinc {i : Nat} {n : Int} {x : Int32} {ls' : List (Option Value)} (v : Int32) (hd : decode cc pc = .ok (.iinc i n, 3)) (hi : ls[i]? = some (some (.int x))) (hv : Int32.ofInt n = v) (hn : Nat.ble (i + 1) nL = true) (hk : okst ls i = true) (hl' : ls.set i (some (.int (x + v))) = ls') (k : E P own cc nL d (pc + 3) ls' st w Q) : E P own cc nL d pc ls st w Q := by
  intro p l e R s m args below meth c V H locs cells slots la Z C hP hS hl K
  subst hl'; subst hv
  obtain ⟨k9, hk9⟩ := List.getElem?_of_mem (asc_mem (V := V).mpr ⟨_, hi, rfl⟩ : (i, cv V (.int x)) ∈ asc V ls)
  exact lv_iinc C.1 C.2.1 hd (asc_of hl) hk9 rfl (Nat.le_of_ble_eq_true hn) rfl (fun la' h' => k p l e R s m args below meth c V H locs cells slots la' Z C hP hS (asc_st (v := .int (x + Int32.ofInt n)) h' hk) K)

theorem E_tableIn {dflt lo hi off : Int} {offs : Array Int} {len : Nat} {x : Int32} (tgt : Nat) (hd : decode cc pc = .ok (.tableswitch dflt lo hi offs, len)) (h1 : ¬ x.toInt < lo) (h2 : ¬ hi < x.toInt) (ho : offs[(x.toInt - lo).toNat]? = some off) (ht : (pc : Int) + off = (tgt : Int)) (k : E P own cc nL d tgt ls st w Q) : E P own cc nL d pc ls (.int x :: st) w Q := by
  intro p l e R s m args below meth c V H locs cells slots la Z C hP hS hl K
  exact lv_tableIn C.1 C.2.1 hd h1 h2 ho ht (k p l e R s m args below meth c V H locs cells slots la Z C hP hS hl K)
theorem E_tableOut {dflt lo hi : Int} {offs : Array Int} {len : Nat} {x : Int32} (tgt : Nat) (hd : decode cc pc = .ok (.tableswitch dflt lo hi offs, len)) (h : x.toInt < lo ∨ hi < x.toInt) (ht : (pc : Int) + dflt = (tgt : Int)) (k : E P own cc nL d tgt ls st w Q) : E P own cc nL d pc ls (.int x :: st) w Q := by
  intro p l e R s m args below meth c V H locs cells slots la Z C hP hS hl K
  exact lv_tableOut C.1 C.2.1 hd h ht (k p l e R s m args below meth c V H locs cells slots la Z C hP hS hl K)
theorem E_lookup {dflt off : Int} {ps : Array (Int × Int)} {len : Nat} {x : Int32} (tgt : Nat) (hd : decode cc pc = .ok (.lookupswitch dflt ps, len)) (hp : (ps.toList.zip (ps.toList.drop 1)).all (fun (a, next) => a.1 < next.1) = true) (ho : Op.lookupswitch.offset ps.toList dflt x.toInt = off) (ht : (pc : Int) + off = (tgt : Int)) (k : E P own cc nL d tgt ls st w Q) : E P own cc nL d pc ls (.int x :: st) w Q := by
  intro p l e R s m args below meth c V H locs cells slots la Z C hP hS hl K
  exact lv_lookup C.1 C.2.1 hd hp ho ht (k p l e R s m args below meth c V H locs cells slots la Z C hP hS hl K)
end ER
