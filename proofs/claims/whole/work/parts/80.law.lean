def R_law : String := "PressDaysLaw"
/-! THE CLAIM OUT OF ONE WALK OF THE LAW'S BODY. Your part is whole_start (and what it stands on); all else here is the same for every law, but numbers. -/
def lw_P (b : Addr) (xs : List Int32) (args : Array Value) (s : State) : Prop := args = #[.ref b] ∧ s.IntsAt b xs ∧ xs.length ≤ 3584 ∧ (Jvm.Cond.and given_1 narrow_1).before args s = true
def lw_Q (_ : Array Value) (s : State) (o : Outcome) (t : State) : Prop := o = .returned (some (.int 1)) ∧ Framed s o t [] 600000 7302250
def lw_Z (below : List Frame) (a : Array Value) (s : State) : State → Prop := fun t => ∃ o, t.status = .running ∧ Ended t below o ∧ lw_Q a s o t
/-- the law's own end, with 1 on the stack, nothing written that was there before, its room as the claim has it -/
theorem lw_ret {p : Program} {l : Launch} {e : Env} {s : State} {m : MethodId} {below : List Frame} {meth : Method} {c : Code} {b : Nat} (hx : p.tables.exec = Jvm.exec) (hb : c.code = code) (hr : meth.sig.returnType = ret) (hlocks : meth.locks = false) {pc : Nat} {H : Heap} {ls : Array Slot} (hdg : decode code pc = .ok (.ireturn, 1)) : W p l e room_1 s m #[Value.ref b] below meth c H [] 600000 7302250 (lw_Z below #[Value.ref b] s) (F0 m pc ls [.int 1]) := by
  intro T hT X
  obtain ⟨fs, hret, hrun, hended, hW, hframe⟩ := X.leave (v := some (.int 1)) (hlocks := hlocks) (fun h => by rw [hr] at h; cases h)
  have hmeth' : T.vm.method? m = some meth := X.method'
  refine ⟨T.setFrames fs, ?_, .returned (some (.int 1)), hrun, hended, rfl, ⟨_, rfl⟩, hW, hframe⟩
  jvm_step X.here [X.here.top, hx, hb, hdg, hmeth', hr, ret, narrow_b1]
  (try refine ⟨rfl, ?_⟩); (try refine ⟨rfl, ?_⟩)
  first | (intro acts; rw [hret _ acts rfl rfl rfl]) | rw [hret _ _ rfl rfl rfl]
  exact Steps.refl _
/-- what holds at the law's entry: the machine, the code, the tables' words (any of lw_tbl by 'hts w (by decide +kernel)'), the script of L ints xs at the cell b, what the Statement gives of the start (any of its parts by flat_of_before) -/
def lw_At (p : Program) (s : State) (m : MethodId) (meth : Method) (c : Code) (b L : Nat) (xs : Nat → Int32) : Prop :=
  p.tables.exec = Jvm.exec ∧ c.code = code ∧ meth.sig.returnType = ret ∧ c.maxLocals = 4 ∧ s.vm.findClass R_law = some m.cls ∧ (∀ w ∈ lw_tbl, w.before #[Value.ref b] s = true) ∧ va_X b L xs s s.heap ∧ b < s.heap.size ∧ meth.locks = false ∧ (Jvm.Cond.and given_1 narrow_1).before #[Value.ref b] s = true
/-! 80: the law: two pools, the script; the judgement LJ -/
def LwC (V1 V2 : EV) (b L : Nat) (xs : Nat → Int32) (p : Program) (s : State) (m : MethodId) (meth : Method) (c : Code) : Prop :=
  (p.tables.exec = Jvm.exec ∧ c.code = code ∧ c.maxLocals = 4 ∧ s.vm.findClass RL = some m.cls ∧ (∀ w ∈ TBG, w.before #[Value.ref b] s = true)) ∧ (EnvOK PC V1 s s.heap ∧ EnvOK PM V2 s s.heap) ∧ ((∀ q, Pl PC V1 q → ¬ Pl PM V2 q) ∧ (∀ q, Pl PC V1 q → s.heap.size ≤ q) ∧ (∀ q, Pl PM V2 q → s.heap.size ≤ q)) ∧ va_X b L xs s s.heap ∧ b < s.heap.size ∧ meth.sig.returnType = ret ∧ meth.locks = false
def LwS (V1 V2 : EV) (s : State) (wC wM : AW) (H : Heap) (locs : List Loc) : Prop :=
  va_P V1.2.1 vwCl (wl PC V1 wC) H ∧ va_P V2.2.1 vwCl (wl PM V2 wM) H ∧ va_S (fun q => s.heap.size ≤ q) s.heap H locs
def LJ (V1 V2 : EV) (b L : Nat) (xs : Nat → Int32) (pc : Nat) (ls : List (Option Value)) (st : List Value) (wC wM : AW) : Prop :=
  ∀ (p : Program) (l : Launch) (e : Env) (s : State) (m : MethodId) (below : List Frame) (meth : Method) (c : Code) (H : Heap) (locs : List Loc) (la : Array Slot),
    LwC V1 V2 b L xs p s m meth c → LwS V1 V2 s wC wM H locs → hasL (V0 V1.2.1 V1.2.2.1) la 4 ls → W p l e room_1 s m #[Value.ref b] below meth c H locs 104 2543 (lw_Z below #[Value.ref b] s) (F0 m pc la st)
section LJR
variable {V1 V2 : EV} {b L : Nat} {xs : Nat → Int32} {pc : Nat} {ls : List (Option Value)} {st : List Value} {wC wM : AW}
theorem LJ_aload_n {i : Fin 4} {v : Nat} (hd : decode cL_law pc = .ok (.aload_n i, 1)) (hi : ls[(i : Nat)]? = some (some (.ref v))) (k : LJ V1 V2 b L xs (pc + 1) ls (.ref v :: st) wC wM) : LJ V1 V2 b L xs pc ls st wC wM := by
  intro p l e s m below meth c H locs la C S hl
  exact lv_aload_n C.1.1 C.1.2.1 hd rfl (hasL_at hl hi) (k p l e s m below meth c H locs la C S hl)
theorem LJ_iload_n {i : Fin 4} {v : Int32} (hd : decode cL_law pc = .ok (.iload_n i, 1)) (hi : ls[(i : Nat)]? = some (some (.int v))) (k : LJ V1 V2 b L xs (pc + 1) ls (.int v :: st) wC wM) : LJ V1 V2 b L xs pc ls st wC wM := by
  intro p l e s m below meth c H locs la C S hl
  exact lv_iload_n C.1.1 C.1.2.1 hd rfl (hasL_at hl hi) (k p l e s m below meth c H locs la C S hl)
theorem LJ_iconst {n : Int} (v : Int32) (hd : decode cL_law pc = .ok (.iconst n, 1)) (hv : Int32.ofInt n = v) (k : LJ V1 V2 b L xs (pc + 1) ls (.int v :: st) wC wM) : LJ V1 V2 b L xs pc ls st wC wM := by
  intro p l e s m below meth c H locs la C S hl
  exact lv_iconst C.1.1 C.1.2.1 hd hv (k p l e s m below meth c H locs la C S hl)
theorem LJ_bipush {n : Int} (v : Int32) (hd : decode cL_law pc = .ok (.bipush n, 2)) (hv : (Int8.ofInt n).toInt32 = v) (k : LJ V1 V2 b L xs (pc + 2) ls (.int v :: st) wC wM) : LJ V1 V2 b L xs pc ls st wC wM := by
  intro p l e s m below meth c H locs la C S hl
  exact lv_bipush C.1.1 C.1.2.1 hd hv (k p l e s m below meth c H locs la C S hl)
theorem LJ_ldc2 {ix : Nat} (v : Int64) (hd : decode cL_law pc = .ok (.ldc2_w ix, 3)) (hw : Cond.constantLong RL ix v ∈ TBG) (k : LJ V1 V2 b L xs (pc + 3) ls (.long v :: st) wC wM) : LJ V1 V2 b L xs pc ls st wC wM := by
  intro p l e s m below meth c H locs la C S hl
  exact lv_ldc2 C.1.1 C.1.2.1 C.1.2.2.2.1 (C.1.2.2.2.2 _ hw) hd (k p l e s m below meth c H locs la C S hl)
theorem LJ_iadd {x y : Int32} (hd : decode cL_law pc = .ok (.iadd, 1)) (k : LJ V1 V2 b L xs (pc + 1) ls (.int (x + y) :: st) wC wM) : LJ V1 V2 b L xs pc ls (.int y :: .int x :: st) wC wM := by
  intro p l e s m below meth c H locs la C S hl
  exact lv_iadd C.1.1 C.1.2.1 hd (k p l e s m below meth c H locs la C S hl)
theorem LJ_isub {x y : Int32} (hd : decode cL_law pc = .ok (.isub, 1)) (k : LJ V1 V2 b L xs (pc + 1) ls (.int (x - y) :: st) wC wM) : LJ V1 V2 b L xs pc ls (.int y :: .int x :: st) wC wM := by
  intro p l e s m below meth c H locs la C S hl
  exact lv_isub C.1.1 C.1.2.1 hd (k p l e s m below meth c H locs la C S hl)
theorem LJ_iand {x y : Int32} (hd : decode cL_law pc = .ok (.iand, 1)) (k : LJ V1 V2 b L xs (pc + 1) ls (.int (x &&& y) :: st) wC wM) : LJ V1 V2 b L xs pc ls (.int y :: .int x :: st) wC wM := by
  intro p l e s m below meth c H locs la C S hl
  exact lv_iand C.1.1 C.1.2.1 hd (k p l e s m below meth c H locs la C S hl)
theorem LJ_i2l {x : Int32} (hd : decode cL_law pc = .ok (.i2l, 1)) (k : LJ V1 V2 b L xs (pc + 1) ls (.long x.toInt64 :: st) wC wM) : LJ V1 V2 b L xs pc ls (.int x :: st) wC wM := by
  intro p l e s m below meth c H locs la C S hl
  exact lv_i2l C.1.1 C.1.2.1 hd rfl (k p l e s m below meth c H locs la C S hl)
theorem LJ_lshl {x : Int64} {y : Int32} (hd : decode cL_law pc = .ok (.lshl, 1)) (k : LJ V1 V2 b L xs (pc + 1) ls (.long (x <<< (y.toInt64 &&& 63)) :: st) wC wM) : LJ V1 V2 b L xs pc ls (.int y :: .long x :: st) wC wM := by
  intro p l e s m below meth c H locs la C S hl
  exact lv_lshl C.1.1 C.1.2.1 hd rfl (k p l e s m below meth c H locs la C S hl)
theorem LJ_land {x y : Int64} (hd : decode cL_law pc = .ok (.land, 1)) (k : LJ V1 V2 b L xs (pc + 1) ls (.long (x &&& y) :: st) wC wM) : LJ V1 V2 b L xs pc ls (.long y :: .long x :: st) wC wM := by
  intro p l e s m below meth c H locs la C S hl
  exact lv_land C.1.1 C.1.2.1 hd (k p l e s m below meth c H locs la C S hl)
theorem LJ_lor {x y : Int64} (hd : decode cL_law pc = .ok (.lor, 1)) (k : LJ V1 V2 b L xs (pc + 1) ls (.long (x ||| y) :: st) wC wM) : LJ V1 V2 b L xs pc ls (.long y :: .long x :: st) wC wM := by
  intro p l e s m below meth c H locs la C S hl
  exact lv_lor C.1.1 C.1.2.1 hd (k p l e s m below meth c H locs la C S hl)
theorem LJ_sld {i : Int32} (hd : decode cL_law pc = .ok (.iaload, 1)) (hin : vp_in i L) (k : LJ V1 V2 b L xs (pc + 1) ls (.int (xs i.toNatClampNeg) :: st) wC wM) : LJ V1 V2 b L xs pc ls (.int i :: .ref b :: st) wC wM := by
  intro p l e s m below meth c H locs la C S hl
  exact va_sld C.1.1 C.1.2.1 C.2.2.2.1 C.2.2.2.2.1 (Nat.not_le.mpr C.2.2.2.2.1) S.2.2 hin hd (k p l e s m below meth c H locs la C S hl)
theorem LJ_slen (hd : decode cL_law pc = .ok (.arraylength, 1)) (k : LJ V1 V2 b L xs (pc + 1) ls (.int (Int32.ofNat L) :: st) wC wM) : LJ V1 V2 b L xs pc ls (.ref b :: st) wC wM := by
  intro p l e s m below meth c H locs la C S hl
  exact va_slen C.1.1 C.1.2.1 C.2.2.2.1 C.2.2.2.2.1 (Nat.not_le.mpr C.2.2.2.2.1) S.2.2 hd (k p l e s m below meth c H locs la C S hl)
theorem LJ_eq {x : Int32} {off : Int} (tgt : Nat) (hd : decode cL_law pc = .ok (.if_icmp .eq off, 3)) (ht : (pc : Int) + off = (tgt : Int)) (k : LJ V1 V2 b L xs tgt ls st wC wM) : LJ V1 V2 b L xs pc ls (.int x :: .int x :: st) wC wM := by
  intro p l e s m below meth c H locs la C S hl
  exact lv_icmp_eq C.1.1 C.1.2.1 hd ht (fun _ => k p l e s m below meth c H locs la C S hl) (fun h => absurd rfl h)
theorem LJ_gt {x y : Int32} {off : Int} (tgt : Nat) (hd : decode cL_law pc = .ok (.if_icmp .gt off, 3)) (ht : (pc : Int) + off = (tgt : Int)) (kt : y < x → LJ V1 V2 b L xs tgt ls st wC wM) (kf : ¬ y < x → LJ V1 V2 b L xs (pc + 3) ls st wC wM) : LJ V1 V2 b L xs pc ls (.int y :: .int x :: st) wC wM := by
  intro p l e s m below meth c H locs la C S hl
  exact lv_icmp_gt C.1.1 C.1.2.1 hd ht (fun h => kt h p l e s m below meth c H locs la C S hl) (fun h => kf h p l e s m below meth c H locs la C S hl)
theorem LJ_goto {off : Int} (tgt : Nat) (hd : decode cL_law pc = .ok (.goto off, 3)) (ht : (pc : Int) + off = (tgt : Int)) (k : LJ V1 V2 b L xs tgt ls st wC wM) : LJ V1 V2 b L xs pc ls st wC wM := by
  intro p l e s m below meth c H locs la C S hl
  exact lv_goto C.1.1 C.1.2.1 hd ht (k p l e s m below meth c H locs la C S hl)
theorem LJ_iinc {i : Nat} {n : Int} {x : Int32} {ls' : List (Option Value)} (v : Int32) (hd : decode cL_law pc = .ok (.iinc i n, 3)) (hi : ls[i]? = some (some (.int x))) (hv : Int32.ofInt n = v) (hn : Nat.ble (i + 1) 4 = true) (hk : okst ls i = true) (hl' : ls.set i (some (.int (x + v))) = ls') (k : LJ V1 V2 b L xs (pc + 3) ls' st wC wM) : LJ V1 V2 b L xs pc ls st wC wM := by
  intro p l e s m below meth c H locs la C S hl
  subst hl'; subst hv
  obtain ⟨k9, hk9⟩ := List.getElem?_of_mem (asc_mem (V := V0 V1.2.1 V1.2.2.1).mpr ⟨_, hi, rfl⟩ : (i, cv (V0 V1.2.1 V1.2.2.1) (.int x)) ∈ asc (V0 V1.2.1 V1.2.2.1) ls)
  exact lv_iinc C.1.1 C.1.2.1 hd (asc_of hl) hk9 rfl (Nat.le_of_ble_eq_true hn) rfl (fun la' h' => k p l e s m below meth c H locs la' C S (asc_st (v := .int (x + Int32.ofInt n)) h' hk))
theorem LJ_tableIn {dflt lo hi off : Int} {offs : Array Int} {len : Nat} {x : Int32} (tgt : Nat) (hd : decode cL_law pc = .ok (.tableswitch dflt lo hi offs, len)) (h1 : ¬ x.toInt < lo) (h2 : ¬ hi < x.toInt) (ho : offs[(x.toInt - lo).toNat]? = some off) (ht : (pc : Int) + off = (tgt : Int)) (k : LJ V1 V2 b L xs tgt ls st wC wM) : LJ V1 V2 b L xs pc ls (.int x :: st) wC wM := by
  intro p l e s m below meth c H locs la C S hl
  exact lv_tableIn C.1.1 C.1.2.1 hd h1 h2 ho ht (k p l e s m below meth c H locs la C S hl)
theorem LJ_tableOut {dflt lo hi : Int} {offs : Array Int} {len : Nat} {x : Int32} (tgt : Nat) (hd : decode cL_law pc = .ok (.tableswitch dflt lo hi offs, len)) (h : x.toInt < lo ∨ hi < x.toInt) (ht : (pc : Int) + dflt = (tgt : Int)) (k : LJ V1 V2 b L xs tgt ls st wC wM) : LJ V1 V2 b L xs pc ls (.int x :: st) wC wM := by
  intro p l e s m below meth c H locs la C S hl
  exact lv_tableOut C.1.1 C.1.2.1 hd h ht (k p l e s m below meth c H locs la C S hl)
theorem LJ_ret (hd : decode cL_law pc = .ok (.ireturn, 1)) : LJ V1 V2 b L xs pc ls [.int 1] wC wM := by
  intro p l e s m below meth c H locs la C S hl
  refine va_forget (fun q hq => S.2.2.2.2 q hq) ?_
  refine W.widen (k := 600000) (n := 7302250) (Nat.le_of_ble_eq_true rfl) (Nat.le_of_ble_eq_true rfl) ?_
  exact lw_ret C.1.1 C.1.2.1 C.2.2.2.2.2.1 C.2.2.2.2.2.2 hd
theorem LJ_callC {ix n mL d' : Nat} {y : MethodName} {bb : ByteArray} {rt : Option FieldType} {As rest : List Value} {st0 : List Value} {r : Int32} {w1 : AW} (hc : CVt RL ix RX11 y bb mL rt n) (hd : decode cL_law pc = .ok (.invokevirtual ix, 3)) (hm : CallOK PC y bb mL rt d' (.ref 0 :: As) wC (some (.int r)) w1) (hdd : Nat.ble (d' + 1) 2000 = true) (hAs : ∀ V : EV, As.map (cv V) = As) (hst : st0 = As.reverse ++ .ref (V1.1 0) :: rest) (hn : As.length = n) (hcat : (rest.map fun v => v.category).sum ≤ 8)
    (k : LJ V1 V2 b L xs (pc + 3) ls (.int r :: rest) w1 wM) : LJ V1 V2 b L xs pc ls st0 wC wM := by
  subst hst
  intro p l e s m below meth c H locs la C S hl
  obtain ⟨⟨c1, c2, c3, c4, c5⟩, ⟨e1, e2⟩, ⟨d1, d2, d3⟩, -⟩ := id C
  obtain ⟨hg, hy, hmL⟩ := hc
  have hdd := Nat.le_of_ble_eq_true hdd
  have hSP : va_S (Pl PC V1) s.heap H [] → True := fun _ => trivial
  have hq0 : ∀ a : Nat, a < s.heap.size → ¬ Pl PC V1 a → H[a]? = s.heap[a]? := fun a h1 _ => S.2.2.2.1 a h1 (Nat.not_le.mpr h1)
  have hr : va_Run p l e room_1 s m #[Value.ref b] below meth c H locs 104 2543 0 0 (F0 m pc la (As.reverse ++ .ref (V1.1 0) :: rest)) rest (QcOK PC V1 (some (.int r)) w1 ((Value.ref (V1.1 0) :: As).toArray)) (Pl PC V1) := by
    refine va_runV (C := RX11) (b := V1.1 0) (As := As) ⟨c1, c2, c3, c4, c5⟩ (hm l V1) (cwV (ws' := TBG) n c5 hg rfl rfl rfl hy ⟨by show d' + 1 ≤ 2048; omega, by show 8 + (mL + 11) + 40 * d' ≤ 84000; omega⟩) ⟨PcOK.blind, ?_, ?_⟩ rfl hn hl.1 rfl (lv_room hcat) hd ⟨Nat.le_of_ble_eq_true rfl, Nat.le_of_ble_eq_true rfl⟩
    · exact va_recv e1.1 S.1 (ci := 11) (q0 := 0) rfl ((wl_at sC_0).trans (by rw [ent_obj (by decide)]))
    · intro U hU hW
      refine ⟨?_, by rw [hU]; exact S.1, by rw [hU]; exact e1.to hW hq0⟩
      rw [List.map_cons, hAs V1]; rfl
  intro T hT X
  obtain ⟨v, s0, t, T', L9, h0, X', hL, f1, f2, ⟨hq1, hq2, hq3⟩, go⟩ := hr T hT X
  have hv : v = some (.int r) := by injection hq1
  subst hv
  have hP2 : va_P V2.2.1 vwCl (wl PM V2 wM) T'.heap := by
    rw [f1]
    refine S.2.1.kept (fun k9 q hk9 => ?_)
    have hlt := (S.2.1 k9 q hk9).lt
    have hpl : Pl PM V2 q.1 := (wl_D e2.2.1 wM).2 k9 q hk9
    rw [hq3.2 q.1 (by rw [h0]; exact hlt) (fun h => d1 _ h hpl), h0]
  have hS' : va_S (fun q => s.heap.size ≤ q) s.heap T'.heap (locs ++ L9) := by
    rw [f1]
    refine ⟨Nat.le_trans S.2.2.1 (by rw [← h0]; exact hq3.1), fun q h1 h2 => ?_, fun x hx => ?_⟩
    · rw [hq3.2 q (by rw [h0]; exact Nat.lt_of_lt_of_le h1 S.2.2.1) (fun h => absurd (d2 q h) (Nat.not_le.mpr h1)), h0]
      exact S.2.2.2.1 q h1 h2
    · rcases List.mem_append.mp hx with h | h
      · exact S.2.2.2.2 x h
      · exact d2 _ (hL x h)
  obtain ⟨t2, a1, b1⟩ := k p l e s m below meth c T'.heap (locs ++ L9) la C ⟨by rw [f1]; exact hq2, hP2, hS'⟩ hl T' rfl X'
  exact ⟨t2, go t2 a1, b1⟩
theorem LJ_callM {ix n mL d' : Nat} {y : MethodName} {bb : ByteArray} {rt : Option FieldType} {As rest : List Value} {st0 : List Value} {r : Int32} {w1 : AW} (hc : CVt RL ix RX12 y bb mL rt n) (hd : decode cL_law pc = .ok (.invokevirtual ix, 3)) (hm : CallOK PM y bb mL rt d' (.ref 0 :: As) wM (some (.int r)) w1) (hdd : Nat.ble (d' + 1) 2000 = true) (hAs : ∀ V : EV, As.map (cv V) = As) (hst : st0 = As.reverse ++ .ref (V2.1 0) :: rest) (hn : As.length = n) (hcat : (rest.map fun v => v.category).sum ≤ 8)
    (k : LJ V1 V2 b L xs (pc + 3) ls (.int r :: rest) wC w1) : LJ V1 V2 b L xs pc ls st0 wC wM := by
  subst hst
  intro p l e s m below meth c H locs la C S hl
  obtain ⟨⟨c1, c2, c3, c4, c5⟩, ⟨e1, e2⟩, ⟨d1, d2, d3⟩, -⟩ := id C
  obtain ⟨hg, hy, hmL⟩ := hc
  have hdd := Nat.le_of_ble_eq_true hdd
  have hq0 : ∀ a : Nat, a < s.heap.size → ¬ Pl PM V2 a → H[a]? = s.heap[a]? := fun a h1 _ => S.2.2.2.1 a h1 (Nat.not_le.mpr h1)
  have hr : va_Run p l e room_1 s m #[Value.ref b] below meth c H locs 104 2543 0 0 (F0 m pc la (As.reverse ++ .ref (V2.1 0) :: rest)) rest (QcOK PM V2 (some (.int r)) w1 ((Value.ref (V2.1 0) :: As).toArray)) (Pl PM V2) := by
    refine va_runV (C := RX12) (b := V2.1 0) (As := As) ⟨c1, c2, c3, c4, c5⟩ (hm l V2) (cwV (ws' := TBG) n c5 hg rfl rfl rfl hy ⟨by show d' + 1 ≤ 2048; omega, by show 8 + (mL + 11) + 40 * d' ≤ 84000; omega⟩) ⟨PcOK.blind, ?_, ?_⟩ rfl hn hl.1 rfl (lv_room hcat) hd ⟨Nat.le_of_ble_eq_true rfl, Nat.le_of_ble_eq_true rfl⟩
    · exact va_recv e2.1 S.2.1 (ci := 12) (q0 := 0) rfl ((wl_at sM_0).trans (by rw [ent_obj (by decide)]))
    · intro U hU hW
      refine ⟨?_, by rw [hU]; exact S.2.1, by rw [hU]; exact e2.to hW hq0⟩
      rw [List.map_cons, hAs V2]; rfl
  intro T hT X
  obtain ⟨v, s0, t, T', L9, h0, X', hL, f1, f2, ⟨hq1, hq2, hq3⟩, go⟩ := hr T hT X
  have hv : v = some (.int r) := by injection hq1
  subst hv
  have hP1 : va_P V1.2.1 vwCl (wl PC V1 wC) T'.heap := by
    rw [f1]
    refine S.1.kept (fun k9 q hk9 => ?_)
    have hlt := (S.1 k9 q hk9).lt
    have hpl : Pl PC V1 q.1 := (wl_D e1.2.1 wC).2 k9 q hk9
    rw [hq3.2 q.1 (by rw [h0]; exact hlt) (fun h => d1 _ hpl h), h0]
  have hS' : va_S (fun q => s.heap.size ≤ q) s.heap T'.heap (locs ++ L9) := by
    rw [f1]
    refine ⟨Nat.le_trans S.2.2.1 (by rw [← h0]; exact hq3.1), fun q h1 h2 => ?_, fun x hx => ?_⟩
    · rw [hq3.2 q (by rw [h0]; exact Nat.lt_of_lt_of_le h1 S.2.2.1) (fun h => absurd (d3 q h) (Nat.not_le.mpr h1)), h0]
      exact S.2.2.2.1 q h1 h2
    · rcases List.mem_append.mp hx with h | h
      · exact S.2.2.2.2 x h
      · exact d3 _ (hL x h)
  obtain ⟨t2, a1, b1⟩ := k p l e s m below meth c T'.heap (locs ++ L9) la C ⟨hP1, by rw [f1]; exact hq2, hS'⟩ hl T' rfl X'
  exact ⟨t2, go t2 a1, b1⟩
end LJR

theorem lwc_yX11_across : Cond.code yX11_across cX11_across 6 (some .int) ∈ TBG := tbg_in (List.mem_of_getElem? (i := 827) (by decide +kernel)) rfl
theorem lwc_yX11_act : Cond.code yX11_act cX11_act 5 (some .int) ∈ TBG := tbg_in (List.mem_of_getElem? (i := 1029) (by decide +kernel)) rfl
theorem lwc_yX11_again : Cond.code yX11_again cX11_again 1 (some .int) ∈ TBG := tbg_in (List.mem_of_getElem? (i := 1091) (by decide +kernel)) rfl
theorem lwc_yX11_ahead : Cond.code yX11_ahead cX11_ahead 3 (some .int) ∈ TBG := tbg_in (List.mem_of_getElem? (i := 894) (by decide +kernel)) rfl
theorem lwc_yX11_alterRow : Cond.code yX11_alterRow cX11_alterRow 6 (some .int) ∈ TBG := tbg_in (List.mem_of_getElem? (i := 960) (by decide +kernel)) rfl
theorem lwc_yX11_best : Cond.code yX11_best cX11_best 3 (some .int) ∈ TBG := tbg_in (List.mem_of_getElem? (i := 774) (by decide +kernel)) rfl
theorem lwc_yX11_board : Cond.code yX11_board cX11_board 2 (some .int) ∈ TBG := tbg_in (List.mem_of_getElem? (i := 530) (by decide +kernel)) rfl
theorem lwc_yX11_comes : Cond.code yX11_comes cX11_comes 1 (some .int) ∈ TBG := tbg_in (List.mem_of_getElem? (i := 908) (by decide +kernel)) rfl
theorem lwc_yX11_drop : Cond.code yX11_drop cX11_drop 2 (some .int) ∈ TBG := tbg_in (List.mem_of_getElem? (i := 679) (by decide +kernel)) rfl
theorem lwc_yX11_ends : Cond.code yX11_ends cX11_ends 2 (some .int) ∈ TBG := tbg_in (List.mem_of_getElem? (i := 733) (by decide +kernel)) rfl
theorem lwc_yX11_feed : Cond.code yX11_feed cX11_feed 4 (some .int) ∈ TBG := tbg_in (List.mem_of_getElem? (i := 519) (by decide +kernel)) rfl
theorem lwc_yX11_fewest : Cond.code yX11_fewest cX11_fewest 1 (some .int) ∈ TBG := tbg_in (List.mem_of_getElem? (i := 805) (by decide +kernel)) rfl
theorem lwc_yX11_gain : Cond.code yX11_gain cX11_gain 7 (some .int) ∈ TBG := tbg_in (List.mem_of_getElem? (i := 823) (by decide +kernel)) rfl
theorem lwc_yX11_goes : Cond.code yX11_goes cX11_goes 1 (some .int) ∈ TBG := tbg_in (List.mem_of_getElem? (i := 921) (by decide +kernel)) rfl
theorem lwc_yX11_item : Cond.code yX11_item cX11_item 4 (some .int) ∈ TBG := tbg_in (List.mem_of_getElem? (i := 994) (by decide +kernel)) rfl
theorem lwc_yX11_job : Cond.code yX11_job cX11_job 6 (some .int) ∈ TBG := tbg_in (List.mem_of_getElem? (i := 659) (by decide +kernel)) rfl
theorem lwc_yX11_jobOf : Cond.code yX11_jobOf cX11_jobOf 3 (some .int) ∈ TBG := tbg_in (List.mem_of_getElem? (i := 671) (by decide +kernel)) rfl
theorem lwc_yX11_judge : Cond.code yX11_judge cX11_judge 1 (some .int) ∈ TBG := tbg_in (List.mem_of_getElem? (i := 964) (by decide +kernel)) rfl
theorem lwc_yX11_keep : Cond.code yX11_keep cX11_keep 1 (some .int) ∈ TBG := tbg_in (List.mem_of_getElem? (i := 1078) (by decide +kernel)) rfl
theorem lwc_yX11_late : Cond.code yX11_late cX11_late 3 (some .int) ∈ TBG := tbg_in (List.mem_of_getElem? (i := 762) (by decide +kernel)) rfl
theorem lwc_yX11_lose : Cond.code yX11_lose cX11_lose 4 (some .int) ∈ TBG := tbg_in (List.mem_of_getElem? (i := 698) (by decide +kernel)) rfl
theorem lwc_yX11_many : Cond.code yX11_many cX11_many 2 (some .int) ∈ TBG := tbg_in (List.mem_of_getElem? (i := 1074) (by decide +kernel)) rfl
theorem lwc_yX11_mean : Cond.code yX11_mean cX11_mean 2 (some .int) ∈ TBG := tbg_in (List.mem_of_getElem? (i := 870) (by decide +kernel)) rfl
theorem lwc_yX11_night : Cond.code yX11_night cX11_night 4 (some .int) ∈ TBG := tbg_in (List.mem_of_getElem? (i := 702) (by decide +kernel)) rfl
theorem lwc_yX11_nights : Cond.code yX11_nights cX11_nights 2 (some .int) ∈ TBG := tbg_in (List.mem_of_getElem? (i := 831) (by decide +kernel)) rfl
theorem lwc_yX11_plan : Cond.code yX11_plan cX11_plan 2 (some .int) ∈ TBG := tbg_in (List.mem_of_getElem? (i := 717) (by decide +kernel)) rfl
theorem lwc_yX11_planOf : Cond.code yX11_planOf cX11_planOf 2 (some .int) ∈ TBG := tbg_in (List.mem_of_getElem? (i := 725) (by decide +kernel)) rfl
theorem lwc_yX11_press : Cond.code yX11_press cX11_press 2 (some .int) ∈ TBG := tbg_in (List.mem_of_getElem? (i := 729) (by decide +kernel)) rfl
theorem lwc_yX11_prove : Cond.code yX11_prove cX11_prove 1 (some .int) ∈ TBG := tbg_in (List.mem_of_getElem? (i := 941) (by decide +kernel)) rfl
theorem lwc_yX11_put : Cond.code yX11_put cX11_put 4 (some .int) ∈ TBG := tbg_in (List.mem_of_getElem? (i := 987) (by decide +kernel)) rfl
theorem lwc_yX11_row : Cond.code yX11_row cX11_row 3 (some .int) ∈ TBG := tbg_in (List.mem_of_getElem? (i := 951) (by decide +kernel)) rfl
theorem lwc_yX11_safest : Cond.code yX11_safest cX11_safest 3 (some .int) ∈ TBG := tbg_in (List.mem_of_getElem? (i := 857) (by decide +kernel)) rfl
theorem lwc_yX11_seed : Cond.code yX11_seed cX11_seed 3 (some .int) ∈ TBG := tbg_in (List.mem_of_getElem? (i := 917) (by decide +kernel)) rfl
theorem lwc_yX11_set : Cond.code yX11_set cX11_set 4 (some .int) ∈ TBG := tbg_in (List.mem_of_getElem? (i := 692) (by decide +kernel)) rfl
theorem lwc_yX11_sheet : Cond.code yX11_sheet cX11_sheet 4 (some .int) ∈ TBG := tbg_in (List.mem_of_getElem? (i := 975) (by decide +kernel)) rfl
theorem lwc_yX11_shelf : Cond.code yX11_shelf cX11_shelf 4 (some .int) ∈ TBG := tbg_in (List.mem_of_getElem? (i := 998) (by decide +kernel)) rfl
theorem lwc_yX11_slots : Cond.code yX11_slots cX11_slots 2 (some .int) ∈ TBG := tbg_in (List.mem_of_getElem? (i := 706) (by decide +kernel)) rfl
theorem lwc_yX11_soonest : Cond.code yX11_soonest cX11_soonest 5 (some .int) ∈ TBG := tbg_in (List.mem_of_getElem? (i := 813) (by decide +kernel)) rfl
theorem lwc_yX11_sure : Cond.code yX11_sure cX11_sure 2 (some .int) ∈ TBG := tbg_in (List.mem_of_getElem? (i := 835) (by decide +kernel)) rfl
theorem lwc_yX11_taken : Cond.code yX11_taken cX11_taken 5 (some .int) ∈ TBG := tbg_in (List.mem_of_getElem? (i := 1014) (by decide +kernel)) rfl
theorem lwc_yX11_till : Cond.code yX11_till cX11_till 1 (some .int) ∈ TBG := tbg_in (List.mem_of_getElem? (i := 937) (by decide +kernel)) rfl
theorem lwc_yX11_trace : Cond.code yX11_trace cX11_trace 2 (some .int) ∈ TBG := tbg_in (List.mem_of_getElem? (i := 1070) (by decide +kernel)) rfl
theorem lwc_yX11_type : Cond.code yX11_type cX11_type 7 (some .int) ∈ TBG := tbg_in (List.mem_of_getElem? (i := 878) (by decide +kernel)) rfl
theorem lwc_yX11_typeOf : Cond.code yX11_typeOf cX11_typeOf 3 (some .int) ∈ TBG := tbg_in (List.mem_of_getElem? (i := 890) (by decide +kernel)) rfl
theorem lwc_yX11_worth : Cond.code yX11_worth cX11_worth 3 (some .int) ∈ TBG := tbg_in (List.mem_of_getElem? (i := 766) (by decide +kernel)) rfl
theorem lwc_yX12_across : Cond.code yX12_across cX12_across 6 (some .int) ∈ TBG := tbg_in (List.mem_of_getElem? (i := 1503) (by decide +kernel)) rfl
theorem lwc_yX12_act : Cond.code yX12_act cX12_act 6 (some .int) ∈ TBG := tbg_in (List.mem_of_getElem? (i := 1646) (by decide +kernel)) rfl
theorem lwc_yX12_again : Cond.code yX12_again cX12_again 1 (some .int) ∈ TBG := tbg_in (List.mem_of_getElem? (i := 1714) (by decide +kernel)) rfl
theorem lwc_yX12_ahead : Cond.code yX12_ahead cX12_ahead 9 (some .int) ∈ TBG := tbg_in (List.mem_of_getElem? (i := 1555) (by decide +kernel)) rfl
theorem lwc_yX12_alterRow : Cond.code yX12_alterRow cX12_alterRow 5 (some .int) ∈ TBG := tbg_in (List.mem_of_getElem? (i := 1600) (by decide +kernel)) rfl
theorem lwc_yX12_best : Cond.code yX12_best cX12_best 3 (some .int) ∈ TBG := tbg_in (List.mem_of_getElem? (i := 1458) (by decide +kernel)) rfl
theorem lwc_yX12_board : Cond.code yX12_board cX12_board 3 (some .int) ∈ TBG := tbg_in (List.mem_of_getElem? (i := 1273) (by decide +kernel)) rfl
theorem lwc_yX12_comes : Cond.code yX12_comes cX12_comes 4 (some .int) ∈ TBG := tbg_in (List.mem_of_getElem? (i := 1571) (by decide +kernel)) rfl
theorem lwc_yX12_drop : Cond.code yX12_drop cX12_drop 2 (some .int) ∈ TBG := tbg_in (List.mem_of_getElem? (i := 1374) (by decide +kernel)) rfl
theorem lwc_yX12_ends : Cond.code yX12_ends cX12_ends 2 (some .int) ∈ TBG := tbg_in (List.mem_of_getElem? (i := 1414) (by decide +kernel)) rfl
theorem lwc_yX12_feed : Cond.code yX12_feed cX12_feed 5 (some .int) ∈ TBG := tbg_in (List.mem_of_getElem? (i := 1265) (by decide +kernel)) rfl
theorem lwc_yX12_fewest : Cond.code yX12_fewest cX12_fewest 5 (some .int) ∈ TBG := tbg_in (List.mem_of_getElem? (i := 1487) (by decide +kernel)) rfl
theorem lwc_yX12_gain : Cond.code yX12_gain cX12_gain 7 (some .int) ∈ TBG := tbg_in (List.mem_of_getElem? (i := 1499) (by decide +kernel)) rfl
theorem lwc_yX12_goes : Cond.code yX12_goes cX12_goes 5 (some .int) ∈ TBG := tbg_in (List.mem_of_getElem? (i := 1580) (by decide +kernel)) rfl
theorem lwc_yX12_item : Cond.code yX12_item cX12_item 5 (some .int) ∈ TBG := tbg_in (List.mem_of_getElem? (i := 1619) (by decide +kernel)) rfl
theorem lwc_yX12_job : Cond.code yX12_job cX12_job 6 (some .int) ∈ TBG := tbg_in (List.mem_of_getElem? (i := 1349) (by decide +kernel)) rfl
theorem lwc_yX12_jobOf : Cond.code yX12_jobOf cX12_jobOf 3 (some .int) ∈ TBG := tbg_in (List.mem_of_getElem? (i := 1362) (by decide +kernel)) rfl
theorem lwc_yX12_judge : Cond.code yX12_judge cX12_judge 4 (some .int) ∈ TBG := tbg_in (List.mem_of_getElem? (i := 1604) (by decide +kernel)) rfl
theorem lwc_yX12_keep : Cond.code yX12_keep cX12_keep 1 (some .int) ∈ TBG := tbg_in (List.mem_of_getElem? (i := 1702) (by decide +kernel)) rfl
theorem lwc_yX12_late : Cond.code yX12_late cX12_late 3 (some .int) ∈ TBG := tbg_in (List.mem_of_getElem? (i := 1438) (by decide +kernel)) rfl
theorem lwc_yX12_lose : Cond.code yX12_lose cX12_lose 4 (some .int) ∈ TBG := tbg_in (List.mem_of_getElem? (i := 1386) (by decide +kernel)) rfl
theorem lwc_yX12_many : Cond.code yX12_many cX12_many 2 (some .int) ∈ TBG := tbg_in (List.mem_of_getElem? (i := 1698) (by decide +kernel)) rfl
theorem lwc_yX12_mean : Cond.code yX12_mean cX12_mean 5 (some .int) ∈ TBG := tbg_in (List.mem_of_getElem? (i := 1535) (by decide +kernel)) rfl
theorem lwc_yX12_night : Cond.code yX12_night cX12_night 4 (some .int) ∈ TBG := tbg_in (List.mem_of_getElem? (i := 1390) (by decide +kernel)) rfl
theorem lwc_yX12_nights : Cond.code yX12_nights cX12_nights 4 (some .int) ∈ TBG := tbg_in (List.mem_of_getElem? (i := 1507) (by decide +kernel)) rfl
theorem lwc_yX12_plan : Cond.code yX12_plan cX12_plan 4 (some .int) ∈ TBG := tbg_in (List.mem_of_getElem? (i := 1402) (by decide +kernel)) rfl
theorem lwc_yX12_planOf : Cond.code yX12_planOf cX12_planOf 2 (some .int) ∈ TBG := tbg_in (List.mem_of_getElem? (i := 1406) (by decide +kernel)) rfl
theorem lwc_yX12_press : Cond.code yX12_press cX12_press 2 (some .int) ∈ TBG := tbg_in (List.mem_of_getElem? (i := 1410) (by decide +kernel)) rfl
theorem lwc_yX12_prove : Cond.code yX12_prove cX12_prove 2 (some .int) ∈ TBG := tbg_in (List.mem_of_getElem? (i := 1588) (by decide +kernel)) rfl
theorem lwc_yX12_put : Cond.code yX12_put cX12_put 4 (some .int) ∈ TBG := tbg_in (List.mem_of_getElem? (i := 1615) (by decide +kernel)) rfl
theorem lwc_yX12_row : Cond.code yX12_row cX12_row 3 (some .int) ∈ TBG := tbg_in (List.mem_of_getElem? (i := 1592) (by decide +kernel)) rfl
theorem lwc_yX12_safest : Cond.code yX12_safest cX12_safest 6 (some .int) ∈ TBG := tbg_in (List.mem_of_getElem? (i := 1531) (by decide +kernel)) rfl
theorem lwc_yX12_seed : Cond.code yX12_seed cX12_seed 3 (some .int) ∈ TBG := tbg_in (List.mem_of_getElem? (i := 1576) (by decide +kernel)) rfl
theorem lwc_yX12_set : Cond.code yX12_set cX12_set 5 (some .int) ∈ TBG := tbg_in (List.mem_of_getElem? (i := 1382) (by decide +kernel)) rfl
theorem lwc_yX12_sheet : Cond.code yX12_sheet cX12_sheet 5 (some .int) ∈ TBG := tbg_in (List.mem_of_getElem? (i := 1608) (by decide +kernel)) rfl
theorem lwc_yX12_shelf : Cond.code yX12_shelf cX12_shelf 4 (some .int) ∈ TBG := tbg_in (List.mem_of_getElem? (i := 1627) (by decide +kernel)) rfl
theorem lwc_yX12_slots : Cond.code yX12_slots cX12_slots 2 (some .int) ∈ TBG := tbg_in (List.mem_of_getElem? (i := 1394) (by decide +kernel)) rfl
theorem lwc_yX12_soonest : Cond.code yX12_soonest cX12_soonest 8 (some .int) ∈ TBG := tbg_in (List.mem_of_getElem? (i := 1495) (by decide +kernel)) rfl
theorem lwc_yX12_sure : Cond.code yX12_sure cX12_sure 2 (some .int) ∈ TBG := tbg_in (List.mem_of_getElem? (i := 1511) (by decide +kernel)) rfl
theorem lwc_yX12_taken : Cond.code yX12_taken cX12_taken 4 (some .int) ∈ TBG := tbg_in (List.mem_of_getElem? (i := 1635) (by decide +kernel)) rfl
theorem lwc_yX12_till : Cond.code yX12_till cX12_till 1 (some .int) ∈ TBG := tbg_in (List.mem_of_getElem? (i := 1584) (by decide +kernel)) rfl
theorem lwc_yX12_trace : Cond.code yX12_trace cX12_trace 2 (some .int) ∈ TBG := tbg_in (List.mem_of_getElem? (i := 1694) (by decide +kernel)) rfl
theorem lwc_yX12_type : Cond.code yX12_type cX12_type 8 (some .int) ∈ TBG := tbg_in (List.mem_of_getElem? (i := 1539) (by decide +kernel)) rfl
theorem lwc_yX12_typeOf : Cond.code yX12_typeOf cX12_typeOf 3 (some .int) ∈ TBG := tbg_in (List.mem_of_getElem? (i := 1551) (by decide +kernel)) rfl
theorem lwc_yX12_worth : Cond.code yX12_worth cX12_worth 1 (some .int) ∈ TBG := tbg_in (List.mem_of_getElem? (i := 1446) (by decide +kernel)) rfl
theorem lwe_yX11_across : Cond.selects RX11 yX11_across yX11_across ∈ TBG := tbg_in (List.mem_of_getElem? (i := 826) (by decide +kernel)) rfl
theorem lwe_yX11_act : Cond.selects RX11 yX11_act yX11_act ∈ TBG := tbg_in (List.mem_of_getElem? (i := 1028) (by decide +kernel)) rfl
theorem lwe_yX11_again : Cond.selects RX11 yX11_again yX11_again ∈ TBG := tbg_in (List.mem_of_getElem? (i := 1090) (by decide +kernel)) rfl
theorem lwe_yX11_ahead : Cond.selects RX11 yX11_ahead yX11_ahead ∈ TBG := tbg_in (List.mem_of_getElem? (i := 893) (by decide +kernel)) rfl
theorem lwe_yX11_alterRow : Cond.selects RX11 yX11_alterRow yX11_alterRow ∈ TBG := tbg_in (List.mem_of_getElem? (i := 959) (by decide +kernel)) rfl
theorem lwe_yX11_best : Cond.selects RX11 yX11_best yX11_best ∈ TBG := tbg_in (List.mem_of_getElem? (i := 773) (by decide +kernel)) rfl
theorem lwe_yX11_board : Cond.selects RX11 yX11_board yX11_board ∈ TBG := tbg_in (List.mem_of_getElem? (i := 529) (by decide +kernel)) rfl
theorem lwe_yX11_comes : Cond.selects RX11 yX11_comes yX11_comes ∈ TBG := tbg_in (List.mem_of_getElem? (i := 907) (by decide +kernel)) rfl
theorem lwe_yX11_drop : Cond.selects RX11 yX11_drop yX11_drop ∈ TBG := tbg_in (List.mem_of_getElem? (i := 678) (by decide +kernel)) rfl
theorem lwe_yX11_ends : Cond.selects RX11 yX11_ends yX11_ends ∈ TBG := tbg_in (List.mem_of_getElem? (i := 732) (by decide +kernel)) rfl
theorem lwe_yX11_feed : Cond.selects RX11 yX11_feed yX11_feed ∈ TBG := tbg_in (List.mem_of_getElem? (i := 518) (by decide +kernel)) rfl
theorem lwe_yX11_fewest : Cond.selects RX11 yX11_fewest yX11_fewest ∈ TBG := tbg_in (List.mem_of_getElem? (i := 804) (by decide +kernel)) rfl
theorem lwe_yX11_gain : Cond.selects RX11 yX11_gain yX11_gain ∈ TBG := tbg_in (List.mem_of_getElem? (i := 822) (by decide +kernel)) rfl
theorem lwe_yX11_goes : Cond.selects RX11 yX11_goes yX11_goes ∈ TBG := tbg_in (List.mem_of_getElem? (i := 920) (by decide +kernel)) rfl
theorem lwe_yX11_item : Cond.selects RX11 yX11_item yX11_item ∈ TBG := tbg_in (List.mem_of_getElem? (i := 993) (by decide +kernel)) rfl
theorem lwe_yX11_job : Cond.selects RX11 yX11_job yX11_job ∈ TBG := tbg_in (List.mem_of_getElem? (i := 658) (by decide +kernel)) rfl
theorem lwe_yX11_jobOf : Cond.selects RX11 yX11_jobOf yX11_jobOf ∈ TBG := tbg_in (List.mem_of_getElem? (i := 670) (by decide +kernel)) rfl
theorem lwe_yX11_judge : Cond.selects RX11 yX11_judge yX11_judge ∈ TBG := tbg_in (List.mem_of_getElem? (i := 963) (by decide +kernel)) rfl
theorem lwe_yX11_keep : Cond.selects RX11 yX11_keep yX11_keep ∈ TBG := tbg_in (List.mem_of_getElem? (i := 1077) (by decide +kernel)) rfl
theorem lwe_yX11_late : Cond.selects RX11 yX11_late yX11_late ∈ TBG := tbg_in (List.mem_of_getElem? (i := 761) (by decide +kernel)) rfl
theorem lwe_yX11_lose : Cond.selects RX11 yX11_lose yX11_lose ∈ TBG := tbg_in (List.mem_of_getElem? (i := 697) (by decide +kernel)) rfl
theorem lwe_yX11_many : Cond.selects RX11 yX11_many yX11_many ∈ TBG := tbg_in (List.mem_of_getElem? (i := 1073) (by decide +kernel)) rfl
theorem lwe_yX11_mean : Cond.selects RX11 yX11_mean yX11_mean ∈ TBG := tbg_in (List.mem_of_getElem? (i := 869) (by decide +kernel)) rfl
theorem lwe_yX11_night : Cond.selects RX11 yX11_night yX11_night ∈ TBG := tbg_in (List.mem_of_getElem? (i := 701) (by decide +kernel)) rfl
theorem lwe_yX11_nights : Cond.selects RX11 yX11_nights yX11_nights ∈ TBG := tbg_in (List.mem_of_getElem? (i := 830) (by decide +kernel)) rfl
theorem lwe_yX11_plan : Cond.selects RX11 yX11_plan yX11_plan ∈ TBG := tbg_in (List.mem_of_getElem? (i := 716) (by decide +kernel)) rfl
theorem lwe_yX11_planOf : Cond.selects RX11 yX11_planOf yX11_planOf ∈ TBG := tbg_in (List.mem_of_getElem? (i := 724) (by decide +kernel)) rfl
theorem lwe_yX11_press : Cond.selects RX11 yX11_press yX11_press ∈ TBG := tbg_in (List.mem_of_getElem? (i := 728) (by decide +kernel)) rfl
theorem lwe_yX11_prove : Cond.selects RX11 yX11_prove yX11_prove ∈ TBG := tbg_in (List.mem_of_getElem? (i := 940) (by decide +kernel)) rfl
theorem lwe_yX11_put : Cond.selects RX11 yX11_put yX11_put ∈ TBG := tbg_in (List.mem_of_getElem? (i := 986) (by decide +kernel)) rfl
theorem lwe_yX11_row : Cond.selects RX11 yX11_row yX11_row ∈ TBG := tbg_in (List.mem_of_getElem? (i := 950) (by decide +kernel)) rfl
theorem lwe_yX11_safest : Cond.selects RX11 yX11_safest yX11_safest ∈ TBG := tbg_in (List.mem_of_getElem? (i := 856) (by decide +kernel)) rfl
theorem lwe_yX11_seed : Cond.selects RX11 yX11_seed yX11_seed ∈ TBG := tbg_in (List.mem_of_getElem? (i := 916) (by decide +kernel)) rfl
theorem lwe_yX11_set : Cond.selects RX11 yX11_set yX11_set ∈ TBG := tbg_in (List.mem_of_getElem? (i := 691) (by decide +kernel)) rfl
theorem lwe_yX11_sheet : Cond.selects RX11 yX11_sheet yX11_sheet ∈ TBG := tbg_in (List.mem_of_getElem? (i := 974) (by decide +kernel)) rfl
theorem lwe_yX11_shelf : Cond.selects RX11 yX11_shelf yX11_shelf ∈ TBG := tbg_in (List.mem_of_getElem? (i := 997) (by decide +kernel)) rfl
theorem lwe_yX11_slots : Cond.selects RX11 yX11_slots yX11_slots ∈ TBG := tbg_in (List.mem_of_getElem? (i := 705) (by decide +kernel)) rfl
theorem lwe_yX11_soonest : Cond.selects RX11 yX11_soonest yX11_soonest ∈ TBG := tbg_in (List.mem_of_getElem? (i := 812) (by decide +kernel)) rfl
theorem lwe_yX11_sure : Cond.selects RX11 yX11_sure yX11_sure ∈ TBG := tbg_in (List.mem_of_getElem? (i := 834) (by decide +kernel)) rfl
theorem lwe_yX11_taken : Cond.selects RX11 yX11_taken yX11_taken ∈ TBG := tbg_in (List.mem_of_getElem? (i := 1013) (by decide +kernel)) rfl
theorem lwe_yX11_till : Cond.selects RX11 yX11_till yX11_till ∈ TBG := tbg_in (List.mem_of_getElem? (i := 936) (by decide +kernel)) rfl
theorem lwe_yX11_trace : Cond.selects RX11 yX11_trace yX11_trace ∈ TBG := tbg_in (List.mem_of_getElem? (i := 1069) (by decide +kernel)) rfl
theorem lwe_yX11_type : Cond.selects RX11 yX11_type yX11_type ∈ TBG := tbg_in (List.mem_of_getElem? (i := 877) (by decide +kernel)) rfl
theorem lwe_yX11_typeOf : Cond.selects RX11 yX11_typeOf yX11_typeOf ∈ TBG := tbg_in (List.mem_of_getElem? (i := 889) (by decide +kernel)) rfl
theorem lwe_yX11_worth : Cond.selects RX11 yX11_worth yX11_worth ∈ TBG := tbg_in (List.mem_of_getElem? (i := 765) (by decide +kernel)) rfl
theorem lwe_yX12_across : Cond.selects RX12 yX12_across yX12_across ∈ TBG := tbg_in (List.mem_of_getElem? (i := 1502) (by decide +kernel)) rfl
theorem lwe_yX12_act : Cond.selects RX12 yX12_act yX12_act ∈ TBG := tbg_in (List.mem_of_getElem? (i := 1645) (by decide +kernel)) rfl
theorem lwe_yX12_again : Cond.selects RX12 yX12_again yX12_again ∈ TBG := tbg_in (List.mem_of_getElem? (i := 1713) (by decide +kernel)) rfl
theorem lwe_yX12_ahead : Cond.selects RX12 yX12_ahead yX12_ahead ∈ TBG := tbg_in (List.mem_of_getElem? (i := 1554) (by decide +kernel)) rfl
theorem lwe_yX12_alterRow : Cond.selects RX12 yX12_alterRow yX12_alterRow ∈ TBG := tbg_in (List.mem_of_getElem? (i := 1599) (by decide +kernel)) rfl
theorem lwe_yX12_best : Cond.selects RX12 yX12_best yX12_best ∈ TBG := tbg_in (List.mem_of_getElem? (i := 1457) (by decide +kernel)) rfl
theorem lwe_yX12_board : Cond.selects RX12 yX12_board yX12_board ∈ TBG := tbg_in (List.mem_of_getElem? (i := 1272) (by decide +kernel)) rfl
theorem lwe_yX12_comes : Cond.selects RX12 yX12_comes yX12_comes ∈ TBG := tbg_in (List.mem_of_getElem? (i := 1570) (by decide +kernel)) rfl
theorem lwe_yX12_drop : Cond.selects RX12 yX12_drop yX12_drop ∈ TBG := tbg_in (List.mem_of_getElem? (i := 1373) (by decide +kernel)) rfl
theorem lwe_yX12_ends : Cond.selects RX12 yX12_ends yX12_ends ∈ TBG := tbg_in (List.mem_of_getElem? (i := 1413) (by decide +kernel)) rfl
theorem lwe_yX12_feed : Cond.selects RX12 yX12_feed yX12_feed ∈ TBG := tbg_in (List.mem_of_getElem? (i := 1264) (by decide +kernel)) rfl
theorem lwe_yX12_fewest : Cond.selects RX12 yX12_fewest yX12_fewest ∈ TBG := tbg_in (List.mem_of_getElem? (i := 1486) (by decide +kernel)) rfl
theorem lwe_yX12_gain : Cond.selects RX12 yX12_gain yX12_gain ∈ TBG := tbg_in (List.mem_of_getElem? (i := 1498) (by decide +kernel)) rfl
theorem lwe_yX12_goes : Cond.selects RX12 yX12_goes yX12_goes ∈ TBG := tbg_in (List.mem_of_getElem? (i := 1579) (by decide +kernel)) rfl
theorem lwe_yX12_item : Cond.selects RX12 yX12_item yX12_item ∈ TBG := tbg_in (List.mem_of_getElem? (i := 1618) (by decide +kernel)) rfl
theorem lwe_yX12_job : Cond.selects RX12 yX12_job yX12_job ∈ TBG := tbg_in (List.mem_of_getElem? (i := 1348) (by decide +kernel)) rfl
theorem lwe_yX12_jobOf : Cond.selects RX12 yX12_jobOf yX12_jobOf ∈ TBG := tbg_in (List.mem_of_getElem? (i := 1361) (by decide +kernel)) rfl
theorem lwe_yX12_judge : Cond.selects RX12 yX12_judge yX12_judge ∈ TBG := tbg_in (List.mem_of_getElem? (i := 1603) (by decide +kernel)) rfl
theorem lwe_yX12_keep : Cond.selects RX12 yX12_keep yX12_keep ∈ TBG := tbg_in (List.mem_of_getElem? (i := 1701) (by decide +kernel)) rfl
theorem lwe_yX12_late : Cond.selects RX12 yX12_late yX12_late ∈ TBG := tbg_in (List.mem_of_getElem? (i := 1437) (by decide +kernel)) rfl
theorem lwe_yX12_lose : Cond.selects RX12 yX12_lose yX12_lose ∈ TBG := tbg_in (List.mem_of_getElem? (i := 1385) (by decide +kernel)) rfl
theorem lwe_yX12_many : Cond.selects RX12 yX12_many yX12_many ∈ TBG := tbg_in (List.mem_of_getElem? (i := 1697) (by decide +kernel)) rfl
theorem lwe_yX12_mean : Cond.selects RX12 yX12_mean yX12_mean ∈ TBG := tbg_in (List.mem_of_getElem? (i := 1534) (by decide +kernel)) rfl
theorem lwe_yX12_night : Cond.selects RX12 yX12_night yX12_night ∈ TBG := tbg_in (List.mem_of_getElem? (i := 1389) (by decide +kernel)) rfl
theorem lwe_yX12_nights : Cond.selects RX12 yX12_nights yX12_nights ∈ TBG := tbg_in (List.mem_of_getElem? (i := 1506) (by decide +kernel)) rfl
theorem lwe_yX12_plan : Cond.selects RX12 yX12_plan yX12_plan ∈ TBG := tbg_in (List.mem_of_getElem? (i := 1401) (by decide +kernel)) rfl
theorem lwe_yX12_planOf : Cond.selects RX12 yX12_planOf yX12_planOf ∈ TBG := tbg_in (List.mem_of_getElem? (i := 1405) (by decide +kernel)) rfl
theorem lwe_yX12_press : Cond.selects RX12 yX12_press yX12_press ∈ TBG := tbg_in (List.mem_of_getElem? (i := 1409) (by decide +kernel)) rfl
theorem lwe_yX12_prove : Cond.selects RX12 yX12_prove yX12_prove ∈ TBG := tbg_in (List.mem_of_getElem? (i := 1587) (by decide +kernel)) rfl
theorem lwe_yX12_put : Cond.selects RX12 yX12_put yX12_put ∈ TBG := tbg_in (List.mem_of_getElem? (i := 1614) (by decide +kernel)) rfl
theorem lwe_yX12_row : Cond.selects RX12 yX12_row yX12_row ∈ TBG := tbg_in (List.mem_of_getElem? (i := 1591) (by decide +kernel)) rfl
theorem lwe_yX12_safest : Cond.selects RX12 yX12_safest yX12_safest ∈ TBG := tbg_in (List.mem_of_getElem? (i := 1530) (by decide +kernel)) rfl
theorem lwe_yX12_seed : Cond.selects RX12 yX12_seed yX12_seed ∈ TBG := tbg_in (List.mem_of_getElem? (i := 1575) (by decide +kernel)) rfl
theorem lwe_yX12_set : Cond.selects RX12 yX12_set yX12_set ∈ TBG := tbg_in (List.mem_of_getElem? (i := 1381) (by decide +kernel)) rfl
theorem lwe_yX12_sheet : Cond.selects RX12 yX12_sheet yX12_sheet ∈ TBG := tbg_in (List.mem_of_getElem? (i := 1607) (by decide +kernel)) rfl
theorem lwe_yX12_shelf : Cond.selects RX12 yX12_shelf yX12_shelf ∈ TBG := tbg_in (List.mem_of_getElem? (i := 1626) (by decide +kernel)) rfl
theorem lwe_yX12_slots : Cond.selects RX12 yX12_slots yX12_slots ∈ TBG := tbg_in (List.mem_of_getElem? (i := 1393) (by decide +kernel)) rfl
theorem lwe_yX12_soonest : Cond.selects RX12 yX12_soonest yX12_soonest ∈ TBG := tbg_in (List.mem_of_getElem? (i := 1494) (by decide +kernel)) rfl
theorem lwe_yX12_sure : Cond.selects RX12 yX12_sure yX12_sure ∈ TBG := tbg_in (List.mem_of_getElem? (i := 1510) (by decide +kernel)) rfl
theorem lwe_yX12_taken : Cond.selects RX12 yX12_taken yX12_taken ∈ TBG := tbg_in (List.mem_of_getElem? (i := 1634) (by decide +kernel)) rfl
theorem lwe_yX12_till : Cond.selects RX12 yX12_till yX12_till ∈ TBG := tbg_in (List.mem_of_getElem? (i := 1583) (by decide +kernel)) rfl
theorem lwe_yX12_trace : Cond.selects RX12 yX12_trace yX12_trace ∈ TBG := tbg_in (List.mem_of_getElem? (i := 1693) (by decide +kernel)) rfl
theorem lwe_yX12_type : Cond.selects RX12 yX12_type yX12_type ∈ TBG := tbg_in (List.mem_of_getElem? (i := 1538) (by decide +kernel)) rfl
theorem lwe_yX12_typeOf : Cond.selects RX12 yX12_typeOf yX12_typeOf ∈ TBG := tbg_in (List.mem_of_getElem? (i := 1550) (by decide +kernel)) rfl
theorem lwe_yX12_worth : Cond.selects RX12 yX12_worth yX12_worth ∈ TBG := tbg_in (List.mem_of_getElem? (i := 1445) (by decide +kernel)) rfl
theorem lwi_yX11_across : Cond.instanceMethod yX11_across ∈ TBG := tbg_in (List.mem_of_getElem? (i := 825) (by decide +kernel)) rfl
theorem lwi_yX11_act : Cond.instanceMethod yX11_act ∈ TBG := tbg_in (List.mem_of_getElem? (i := 1027) (by decide +kernel)) rfl
theorem lwi_yX11_again : Cond.instanceMethod yX11_again ∈ TBG := tbg_in (List.mem_of_getElem? (i := 1089) (by decide +kernel)) rfl
theorem lwi_yX11_ahead : Cond.instanceMethod yX11_ahead ∈ TBG := tbg_in (List.mem_of_getElem? (i := 892) (by decide +kernel)) rfl
theorem lwi_yX11_alterRow : Cond.instanceMethod yX11_alterRow ∈ TBG := tbg_in (List.mem_of_getElem? (i := 958) (by decide +kernel)) rfl
theorem lwi_yX11_best : Cond.instanceMethod yX11_best ∈ TBG := tbg_in (List.mem_of_getElem? (i := 772) (by decide +kernel)) rfl
theorem lwi_yX11_board : Cond.instanceMethod yX11_board ∈ TBG := tbg_in (List.mem_of_getElem? (i := 528) (by decide +kernel)) rfl
theorem lwi_yX11_comes : Cond.instanceMethod yX11_comes ∈ TBG := tbg_in (List.mem_of_getElem? (i := 906) (by decide +kernel)) rfl
theorem lwi_yX11_drop : Cond.instanceMethod yX11_drop ∈ TBG := tbg_in (List.mem_of_getElem? (i := 677) (by decide +kernel)) rfl
theorem lwi_yX11_ends : Cond.instanceMethod yX11_ends ∈ TBG := tbg_in (List.mem_of_getElem? (i := 731) (by decide +kernel)) rfl
theorem lwi_yX11_feed : Cond.instanceMethod yX11_feed ∈ TBG := tbg_in (List.mem_of_getElem? (i := 517) (by decide +kernel)) rfl
theorem lwi_yX11_fewest : Cond.instanceMethod yX11_fewest ∈ TBG := tbg_in (List.mem_of_getElem? (i := 803) (by decide +kernel)) rfl
theorem lwi_yX11_gain : Cond.instanceMethod yX11_gain ∈ TBG := tbg_in (List.mem_of_getElem? (i := 821) (by decide +kernel)) rfl
theorem lwi_yX11_goes : Cond.instanceMethod yX11_goes ∈ TBG := tbg_in (List.mem_of_getElem? (i := 919) (by decide +kernel)) rfl
theorem lwi_yX11_item : Cond.instanceMethod yX11_item ∈ TBG := tbg_in (List.mem_of_getElem? (i := 992) (by decide +kernel)) rfl
theorem lwi_yX11_job : Cond.instanceMethod yX11_job ∈ TBG := tbg_in (List.mem_of_getElem? (i := 657) (by decide +kernel)) rfl
theorem lwi_yX11_jobOf : Cond.instanceMethod yX11_jobOf ∈ TBG := tbg_in (List.mem_of_getElem? (i := 669) (by decide +kernel)) rfl
theorem lwi_yX11_judge : Cond.instanceMethod yX11_judge ∈ TBG := tbg_in (List.mem_of_getElem? (i := 962) (by decide +kernel)) rfl
theorem lwi_yX11_keep : Cond.instanceMethod yX11_keep ∈ TBG := tbg_in (List.mem_of_getElem? (i := 1076) (by decide +kernel)) rfl
theorem lwi_yX11_late : Cond.instanceMethod yX11_late ∈ TBG := tbg_in (List.mem_of_getElem? (i := 760) (by decide +kernel)) rfl
theorem lwi_yX11_lose : Cond.instanceMethod yX11_lose ∈ TBG := tbg_in (List.mem_of_getElem? (i := 696) (by decide +kernel)) rfl
theorem lwi_yX11_many : Cond.instanceMethod yX11_many ∈ TBG := tbg_in (List.mem_of_getElem? (i := 1072) (by decide +kernel)) rfl
theorem lwi_yX11_mean : Cond.instanceMethod yX11_mean ∈ TBG := tbg_in (List.mem_of_getElem? (i := 868) (by decide +kernel)) rfl
theorem lwi_yX11_night : Cond.instanceMethod yX11_night ∈ TBG := tbg_in (List.mem_of_getElem? (i := 700) (by decide +kernel)) rfl
theorem lwi_yX11_nights : Cond.instanceMethod yX11_nights ∈ TBG := tbg_in (List.mem_of_getElem? (i := 829) (by decide +kernel)) rfl
theorem lwi_yX11_plan : Cond.instanceMethod yX11_plan ∈ TBG := tbg_in (List.mem_of_getElem? (i := 715) (by decide +kernel)) rfl
theorem lwi_yX11_planOf : Cond.instanceMethod yX11_planOf ∈ TBG := tbg_in (List.mem_of_getElem? (i := 723) (by decide +kernel)) rfl
theorem lwi_yX11_press : Cond.instanceMethod yX11_press ∈ TBG := tbg_in (List.mem_of_getElem? (i := 727) (by decide +kernel)) rfl
theorem lwi_yX11_prove : Cond.instanceMethod yX11_prove ∈ TBG := tbg_in (List.mem_of_getElem? (i := 939) (by decide +kernel)) rfl
theorem lwi_yX11_put : Cond.instanceMethod yX11_put ∈ TBG := tbg_in (List.mem_of_getElem? (i := 985) (by decide +kernel)) rfl
theorem lwi_yX11_row : Cond.instanceMethod yX11_row ∈ TBG := tbg_in (List.mem_of_getElem? (i := 949) (by decide +kernel)) rfl
theorem lwi_yX11_safest : Cond.instanceMethod yX11_safest ∈ TBG := tbg_in (List.mem_of_getElem? (i := 855) (by decide +kernel)) rfl
theorem lwi_yX11_seed : Cond.instanceMethod yX11_seed ∈ TBG := tbg_in (List.mem_of_getElem? (i := 915) (by decide +kernel)) rfl
theorem lwi_yX11_set : Cond.instanceMethod yX11_set ∈ TBG := tbg_in (List.mem_of_getElem? (i := 690) (by decide +kernel)) rfl
theorem lwi_yX11_sheet : Cond.instanceMethod yX11_sheet ∈ TBG := tbg_in (List.mem_of_getElem? (i := 973) (by decide +kernel)) rfl
theorem lwi_yX11_shelf : Cond.instanceMethod yX11_shelf ∈ TBG := tbg_in (List.mem_of_getElem? (i := 996) (by decide +kernel)) rfl
theorem lwi_yX11_slots : Cond.instanceMethod yX11_slots ∈ TBG := tbg_in (List.mem_of_getElem? (i := 704) (by decide +kernel)) rfl
theorem lwi_yX11_soonest : Cond.instanceMethod yX11_soonest ∈ TBG := tbg_in (List.mem_of_getElem? (i := 811) (by decide +kernel)) rfl
theorem lwi_yX11_sure : Cond.instanceMethod yX11_sure ∈ TBG := tbg_in (List.mem_of_getElem? (i := 833) (by decide +kernel)) rfl
theorem lwi_yX11_taken : Cond.instanceMethod yX11_taken ∈ TBG := tbg_in (List.mem_of_getElem? (i := 1012) (by decide +kernel)) rfl
theorem lwi_yX11_till : Cond.instanceMethod yX11_till ∈ TBG := tbg_in (List.mem_of_getElem? (i := 935) (by decide +kernel)) rfl
theorem lwi_yX11_trace : Cond.instanceMethod yX11_trace ∈ TBG := tbg_in (List.mem_of_getElem? (i := 1068) (by decide +kernel)) rfl
theorem lwi_yX11_type : Cond.instanceMethod yX11_type ∈ TBG := tbg_in (List.mem_of_getElem? (i := 876) (by decide +kernel)) rfl
theorem lwi_yX11_typeOf : Cond.instanceMethod yX11_typeOf ∈ TBG := tbg_in (List.mem_of_getElem? (i := 888) (by decide +kernel)) rfl
theorem lwi_yX11_worth : Cond.instanceMethod yX11_worth ∈ TBG := tbg_in (List.mem_of_getElem? (i := 764) (by decide +kernel)) rfl
theorem lwi_yX12_across : Cond.instanceMethod yX12_across ∈ TBG := tbg_in (List.mem_of_getElem? (i := 1501) (by decide +kernel)) rfl
theorem lwi_yX12_act : Cond.instanceMethod yX12_act ∈ TBG := tbg_in (List.mem_of_getElem? (i := 1644) (by decide +kernel)) rfl
theorem lwi_yX12_again : Cond.instanceMethod yX12_again ∈ TBG := tbg_in (List.mem_of_getElem? (i := 1712) (by decide +kernel)) rfl
theorem lwi_yX12_ahead : Cond.instanceMethod yX12_ahead ∈ TBG := tbg_in (List.mem_of_getElem? (i := 1553) (by decide +kernel)) rfl
theorem lwi_yX12_alterRow : Cond.instanceMethod yX12_alterRow ∈ TBG := tbg_in (List.mem_of_getElem? (i := 1598) (by decide +kernel)) rfl
theorem lwi_yX12_best : Cond.instanceMethod yX12_best ∈ TBG := tbg_in (List.mem_of_getElem? (i := 1456) (by decide +kernel)) rfl
theorem lwi_yX12_board : Cond.instanceMethod yX12_board ∈ TBG := tbg_in (List.mem_of_getElem? (i := 1271) (by decide +kernel)) rfl
theorem lwi_yX12_comes : Cond.instanceMethod yX12_comes ∈ TBG := tbg_in (List.mem_of_getElem? (i := 1569) (by decide +kernel)) rfl
theorem lwi_yX12_drop : Cond.instanceMethod yX12_drop ∈ TBG := tbg_in (List.mem_of_getElem? (i := 1372) (by decide +kernel)) rfl
theorem lwi_yX12_ends : Cond.instanceMethod yX12_ends ∈ TBG := tbg_in (List.mem_of_getElem? (i := 1412) (by decide +kernel)) rfl
theorem lwi_yX12_feed : Cond.instanceMethod yX12_feed ∈ TBG := tbg_in (List.mem_of_getElem? (i := 1263) (by decide +kernel)) rfl
theorem lwi_yX12_fewest : Cond.instanceMethod yX12_fewest ∈ TBG := tbg_in (List.mem_of_getElem? (i := 1485) (by decide +kernel)) rfl
theorem lwi_yX12_gain : Cond.instanceMethod yX12_gain ∈ TBG := tbg_in (List.mem_of_getElem? (i := 1497) (by decide +kernel)) rfl
theorem lwi_yX12_goes : Cond.instanceMethod yX12_goes ∈ TBG := tbg_in (List.mem_of_getElem? (i := 1578) (by decide +kernel)) rfl
theorem lwi_yX12_item : Cond.instanceMethod yX12_item ∈ TBG := tbg_in (List.mem_of_getElem? (i := 1617) (by decide +kernel)) rfl
theorem lwi_yX12_job : Cond.instanceMethod yX12_job ∈ TBG := tbg_in (List.mem_of_getElem? (i := 1347) (by decide +kernel)) rfl
theorem lwi_yX12_jobOf : Cond.instanceMethod yX12_jobOf ∈ TBG := tbg_in (List.mem_of_getElem? (i := 1360) (by decide +kernel)) rfl
theorem lwi_yX12_judge : Cond.instanceMethod yX12_judge ∈ TBG := tbg_in (List.mem_of_getElem? (i := 1602) (by decide +kernel)) rfl
theorem lwi_yX12_keep : Cond.instanceMethod yX12_keep ∈ TBG := tbg_in (List.mem_of_getElem? (i := 1700) (by decide +kernel)) rfl
theorem lwi_yX12_late : Cond.instanceMethod yX12_late ∈ TBG := tbg_in (List.mem_of_getElem? (i := 1436) (by decide +kernel)) rfl
theorem lwi_yX12_lose : Cond.instanceMethod yX12_lose ∈ TBG := tbg_in (List.mem_of_getElem? (i := 1384) (by decide +kernel)) rfl
theorem lwi_yX12_many : Cond.instanceMethod yX12_many ∈ TBG := tbg_in (List.mem_of_getElem? (i := 1696) (by decide +kernel)) rfl
theorem lwi_yX12_mean : Cond.instanceMethod yX12_mean ∈ TBG := tbg_in (List.mem_of_getElem? (i := 1533) (by decide +kernel)) rfl
theorem lwi_yX12_night : Cond.instanceMethod yX12_night ∈ TBG := tbg_in (List.mem_of_getElem? (i := 1388) (by decide +kernel)) rfl
theorem lwi_yX12_nights : Cond.instanceMethod yX12_nights ∈ TBG := tbg_in (List.mem_of_getElem? (i := 1505) (by decide +kernel)) rfl
theorem lwi_yX12_plan : Cond.instanceMethod yX12_plan ∈ TBG := tbg_in (List.mem_of_getElem? (i := 1400) (by decide +kernel)) rfl
theorem lwi_yX12_planOf : Cond.instanceMethod yX12_planOf ∈ TBG := tbg_in (List.mem_of_getElem? (i := 1404) (by decide +kernel)) rfl
theorem lwi_yX12_press : Cond.instanceMethod yX12_press ∈ TBG := tbg_in (List.mem_of_getElem? (i := 1408) (by decide +kernel)) rfl
theorem lwi_yX12_prove : Cond.instanceMethod yX12_prove ∈ TBG := tbg_in (List.mem_of_getElem? (i := 1586) (by decide +kernel)) rfl
theorem lwi_yX12_put : Cond.instanceMethod yX12_put ∈ TBG := tbg_in (List.mem_of_getElem? (i := 1613) (by decide +kernel)) rfl
theorem lwi_yX12_row : Cond.instanceMethod yX12_row ∈ TBG := tbg_in (List.mem_of_getElem? (i := 1590) (by decide +kernel)) rfl
theorem lwi_yX12_safest : Cond.instanceMethod yX12_safest ∈ TBG := tbg_in (List.mem_of_getElem? (i := 1529) (by decide +kernel)) rfl
theorem lwi_yX12_seed : Cond.instanceMethod yX12_seed ∈ TBG := tbg_in (List.mem_of_getElem? (i := 1574) (by decide +kernel)) rfl
theorem lwi_yX12_set : Cond.instanceMethod yX12_set ∈ TBG := tbg_in (List.mem_of_getElem? (i := 1380) (by decide +kernel)) rfl
theorem lwi_yX12_sheet : Cond.instanceMethod yX12_sheet ∈ TBG := tbg_in (List.mem_of_getElem? (i := 1606) (by decide +kernel)) rfl
theorem lwi_yX12_shelf : Cond.instanceMethod yX12_shelf ∈ TBG := tbg_in (List.mem_of_getElem? (i := 1625) (by decide +kernel)) rfl
theorem lwi_yX12_slots : Cond.instanceMethod yX12_slots ∈ TBG := tbg_in (List.mem_of_getElem? (i := 1392) (by decide +kernel)) rfl
theorem lwi_yX12_soonest : Cond.instanceMethod yX12_soonest ∈ TBG := tbg_in (List.mem_of_getElem? (i := 1493) (by decide +kernel)) rfl
theorem lwi_yX12_sure : Cond.instanceMethod yX12_sure ∈ TBG := tbg_in (List.mem_of_getElem? (i := 1509) (by decide +kernel)) rfl
theorem lwi_yX12_taken : Cond.instanceMethod yX12_taken ∈ TBG := tbg_in (List.mem_of_getElem? (i := 1633) (by decide +kernel)) rfl
theorem lwi_yX12_till : Cond.instanceMethod yX12_till ∈ TBG := tbg_in (List.mem_of_getElem? (i := 1582) (by decide +kernel)) rfl
theorem lwi_yX12_trace : Cond.instanceMethod yX12_trace ∈ TBG := tbg_in (List.mem_of_getElem? (i := 1692) (by decide +kernel)) rfl
theorem lwi_yX12_type : Cond.instanceMethod yX12_type ∈ TBG := tbg_in (List.mem_of_getElem? (i := 1537) (by decide +kernel)) rfl
theorem lwi_yX12_typeOf : Cond.instanceMethod yX12_typeOf ∈ TBG := tbg_in (List.mem_of_getElem? (i := 1549) (by decide +kernel)) rfl
theorem lwi_yX12_worth : Cond.instanceMethod yX12_worth ∈ TBG := tbg_in (List.mem_of_getElem? (i := 1444) (by decide +kernel)) rfl
theorem lwj_RX11 : Cond.initialized RX11 ∈ TBG := tbg_in (List.mem_of_getElem? (i := 82) (by decide +kernel)) rfl
theorem lwj_RX12 : Cond.initialized RX12 ∈ TBG := tbg_in (List.mem_of_getElem? (i := 94) (by decide +kernel)) rfl
theorem lk_13 : Cond.constantLong RL 13 4294967295 ∈ TBG := tbg_in (List.mem_of_getElem? (i := 1715) (by decide +kernel)) rfl
theorem lcv_100 : CVt RL 100 RX12 yX12_across cX12_across 6 (some .int) 1 := CVt.of (tbg_in (List.mem_of_getElem? (i := 1500) (by decide +kernel)) rfl) lwi_yX12_across lwe_yX12_across lwj_RX12 lwc_yX12_across ⟨rfl, by decide, by decide, by decide +kernel⟩ rfl
theorem lcv_101 : CVt RL 101 RX11 yX11_nights cX11_nights 2 (some .int) 0 := CVt.of (tbg_in (List.mem_of_getElem? (i := 828) (by decide +kernel)) rfl) lwi_yX11_nights lwe_yX11_nights lwj_RX11 lwc_yX11_nights ⟨rfl, by decide, by decide, by decide +kernel⟩ rfl
theorem lcv_104 : CVt RL 104 RX12 yX12_nights cX12_nights 4 (some .int) 0 := CVt.of (tbg_in (List.mem_of_getElem? (i := 1504) (by decide +kernel)) rfl) lwi_yX12_nights lwe_yX12_nights lwj_RX12 lwc_yX12_nights ⟨rfl, by decide, by decide, by decide +kernel⟩ rfl
theorem lcv_105 : CVt RL 105 RX11 yX11_sure cX11_sure 2 (some .int) 1 := CVt.of (tbg_in (List.mem_of_getElem? (i := 832) (by decide +kernel)) rfl) lwi_yX11_sure lwe_yX11_sure lwj_RX11 lwc_yX11_sure ⟨rfl, by decide, by decide, by decide +kernel⟩ rfl
theorem lcv_108 : CVt RL 108 RX12 yX12_sure cX12_sure 2 (some .int) 1 := CVt.of (tbg_in (List.mem_of_getElem? (i := 1508) (by decide +kernel)) rfl) lwi_yX12_sure lwe_yX12_sure lwj_RX12 lwc_yX12_sure ⟨rfl, by decide, by decide, by decide +kernel⟩ rfl
theorem lcv_109 : CVt RL 109 RX11 yX11_safest cX11_safest 3 (some .int) 1 := CVt.of (tbg_in (List.mem_of_getElem? (i := 854) (by decide +kernel)) rfl) lwi_yX11_safest lwe_yX11_safest lwj_RX11 lwc_yX11_safest ⟨rfl, by decide, by decide, by decide +kernel⟩ rfl
theorem lcv_112 : CVt RL 112 RX12 yX12_safest cX12_safest 6 (some .int) 1 := CVt.of (tbg_in (List.mem_of_getElem? (i := 1528) (by decide +kernel)) rfl) lwi_yX12_safest lwe_yX12_safest lwj_RX12 lwc_yX12_safest ⟨rfl, by decide, by decide, by decide +kernel⟩ rfl
theorem lcv_113 : CVt RL 113 RX11 yX11_mean cX11_mean 2 (some .int) 1 := CVt.of (tbg_in (List.mem_of_getElem? (i := 867) (by decide +kernel)) rfl) lwi_yX11_mean lwe_yX11_mean lwj_RX11 lwc_yX11_mean ⟨rfl, by decide, by decide, by decide +kernel⟩ rfl
theorem lcv_116 : CVt RL 116 RX12 yX12_mean cX12_mean 5 (some .int) 1 := CVt.of (tbg_in (List.mem_of_getElem? (i := 1532) (by decide +kernel)) rfl) lwi_yX12_mean lwe_yX12_mean lwj_RX12 lwc_yX12_mean ⟨rfl, by decide, by decide, by decide +kernel⟩ rfl
theorem lcv_117 : CVt RL 117 RX11 yX11_type cX11_type 7 (some .int) 6 := CVt.of (tbg_in (List.mem_of_getElem? (i := 875) (by decide +kernel)) rfl) lwi_yX11_type lwe_yX11_type lwj_RX11 lwc_yX11_type ⟨rfl, by decide, by decide, by decide +kernel⟩ rfl
theorem lcv_121 : CVt RL 121 RX12 yX12_type cX12_type 8 (some .int) 6 := CVt.of (tbg_in (List.mem_of_getElem? (i := 1536) (by decide +kernel)) rfl) lwi_yX12_type lwe_yX12_type lwj_RX12 lwc_yX12_type ⟨rfl, by decide, by decide, by decide +kernel⟩ rfl
theorem lcv_122 : CVt RL 122 RX11 yX11_typeOf cX11_typeOf 3 (some .int) 2 := CVt.of (tbg_in (List.mem_of_getElem? (i := 887) (by decide +kernel)) rfl) lwi_yX11_typeOf lwe_yX11_typeOf lwj_RX11 lwc_yX11_typeOf ⟨rfl, by decide, by decide, by decide +kernel⟩ rfl
theorem lcv_125 : CVt RL 125 RX12 yX12_typeOf cX12_typeOf 3 (some .int) 2 := CVt.of (tbg_in (List.mem_of_getElem? (i := 1548) (by decide +kernel)) rfl) lwi_yX12_typeOf lwe_yX12_typeOf lwj_RX12 lwc_yX12_typeOf ⟨rfl, by decide, by decide, by decide +kernel⟩ rfl
theorem lcv_126 : CVt RL 126 RX11 yX11_ahead cX11_ahead 3 (some .int) 2 := CVt.of (tbg_in (List.mem_of_getElem? (i := 891) (by decide +kernel)) rfl) lwi_yX11_ahead lwe_yX11_ahead lwj_RX11 lwc_yX11_ahead ⟨rfl, by decide, by decide, by decide +kernel⟩ rfl
theorem lcv_129 : CVt RL 129 RX12 yX12_ahead cX12_ahead 9 (some .int) 2 := CVt.of (tbg_in (List.mem_of_getElem? (i := 1552) (by decide +kernel)) rfl) lwi_yX12_ahead lwe_yX12_ahead lwj_RX12 lwc_yX12_ahead ⟨rfl, by decide, by decide, by decide +kernel⟩ rfl
theorem lcv_130 : CVt RL 130 RX11 yX11_comes cX11_comes 1 (some .int) 0 := CVt.of (tbg_in (List.mem_of_getElem? (i := 905) (by decide +kernel)) rfl) lwi_yX11_comes lwe_yX11_comes lwj_RX11 lwc_yX11_comes ⟨rfl, by decide, by decide, by decide +kernel⟩ rfl
theorem lcv_133 : CVt RL 133 RX12 yX12_comes cX12_comes 4 (some .int) 0 := CVt.of (tbg_in (List.mem_of_getElem? (i := 1568) (by decide +kernel)) rfl) lwi_yX12_comes lwe_yX12_comes lwj_RX12 lwc_yX12_comes ⟨rfl, by decide, by decide, by decide +kernel⟩ rfl
theorem lcv_134 : CVt RL 134 RX11 yX11_seed cX11_seed 3 (some .int) 1 := CVt.of (tbg_in (List.mem_of_getElem? (i := 914) (by decide +kernel)) rfl) lwi_yX11_seed lwe_yX11_seed lwj_RX11 lwc_yX11_seed ⟨rfl, by decide, by decide, by decide +kernel⟩ rfl
theorem lcv_137 : CVt RL 137 RX12 yX12_seed cX12_seed 3 (some .int) 1 := CVt.of (tbg_in (List.mem_of_getElem? (i := 1573) (by decide +kernel)) rfl) lwi_yX12_seed lwe_yX12_seed lwj_RX12 lwc_yX12_seed ⟨rfl, by decide, by decide, by decide +kernel⟩ rfl
theorem lcv_138 : CVt RL 138 RX11 yX11_goes cX11_goes 1 (some .int) 0 := CVt.of (tbg_in (List.mem_of_getElem? (i := 918) (by decide +kernel)) rfl) lwi_yX11_goes lwe_yX11_goes lwj_RX11 lwc_yX11_goes ⟨rfl, by decide, by decide, by decide +kernel⟩ rfl
theorem lcv_141 : CVt RL 141 RX12 yX12_goes cX12_goes 5 (some .int) 0 := CVt.of (tbg_in (List.mem_of_getElem? (i := 1577) (by decide +kernel)) rfl) lwi_yX12_goes lwe_yX12_goes lwj_RX12 lwc_yX12_goes ⟨rfl, by decide, by decide, by decide +kernel⟩ rfl
theorem lcv_142 : CVt RL 142 RX11 yX11_till cX11_till 1 (some .int) 0 := CVt.of (tbg_in (List.mem_of_getElem? (i := 934) (by decide +kernel)) rfl) lwi_yX11_till lwe_yX11_till lwj_RX11 lwc_yX11_till ⟨rfl, by decide, by decide, by decide +kernel⟩ rfl
theorem lcv_145 : CVt RL 145 RX12 yX12_till cX12_till 1 (some .int) 0 := CVt.of (tbg_in (List.mem_of_getElem? (i := 1581) (by decide +kernel)) rfl) lwi_yX12_till lwe_yX12_till lwj_RX12 lwc_yX12_till ⟨rfl, by decide, by decide, by decide +kernel⟩ rfl
theorem lcv_146 : CVt RL 146 RX11 yX11_prove cX11_prove 1 (some .int) 0 := CVt.of (tbg_in (List.mem_of_getElem? (i := 938) (by decide +kernel)) rfl) lwi_yX11_prove lwe_yX11_prove lwj_RX11 lwc_yX11_prove ⟨rfl, by decide, by decide, by decide +kernel⟩ rfl
theorem lcv_149 : CVt RL 149 RX12 yX12_prove cX12_prove 2 (some .int) 0 := CVt.of (tbg_in (List.mem_of_getElem? (i := 1585) (by decide +kernel)) rfl) lwi_yX12_prove lwe_yX12_prove lwj_RX12 lwc_yX12_prove ⟨rfl, by decide, by decide, by decide +kernel⟩ rfl
theorem lcv_15 : CVt RL 15 RX11 yX11_feed cX11_feed 4 (some .int) 2 := CVt.of (tbg_in (List.mem_of_getElem? (i := 516) (by decide +kernel)) rfl) lwi_yX11_feed lwe_yX11_feed lwj_RX11 lwc_yX11_feed ⟨rfl, by decide, by decide, by decide +kernel⟩ rfl
theorem lcv_150 : CVt RL 150 RX11 yX11_row cX11_row 3 (some .int) 2 := CVt.of (tbg_in (List.mem_of_getElem? (i := 948) (by decide +kernel)) rfl) lwi_yX11_row lwe_yX11_row lwj_RX11 lwc_yX11_row ⟨rfl, by decide, by decide, by decide +kernel⟩ rfl
theorem lcv_153 : CVt RL 153 RX12 yX12_row cX12_row 3 (some .int) 2 := CVt.of (tbg_in (List.mem_of_getElem? (i := 1589) (by decide +kernel)) rfl) lwi_yX12_row lwe_yX12_row lwj_RX12 lwc_yX12_row ⟨rfl, by decide, by decide, by decide +kernel⟩ rfl
theorem lcv_154 : CVt RL 154 RX11 yX11_alterRow cX11_alterRow 6 (some .int) 3 := CVt.of (tbg_in (List.mem_of_getElem? (i := 957) (by decide +kernel)) rfl) lwi_yX11_alterRow lwe_yX11_alterRow lwj_RX11 lwc_yX11_alterRow ⟨rfl, by decide, by decide, by decide +kernel⟩ rfl
theorem lcv_157 : CVt RL 157 RX12 yX12_alterRow cX12_alterRow 5 (some .int) 3 := CVt.of (tbg_in (List.mem_of_getElem? (i := 1597) (by decide +kernel)) rfl) lwi_yX12_alterRow lwe_yX12_alterRow lwj_RX12 lwc_yX12_alterRow ⟨rfl, by decide, by decide, by decide +kernel⟩ rfl
theorem lcv_158 : CVt RL 158 RX11 yX11_judge cX11_judge 1 (some .int) 0 := CVt.of (tbg_in (List.mem_of_getElem? (i := 961) (by decide +kernel)) rfl) lwi_yX11_judge lwe_yX11_judge lwj_RX11 lwc_yX11_judge ⟨rfl, by decide, by decide, by decide +kernel⟩ rfl
theorem lcv_161 : CVt RL 161 RX12 yX12_judge cX12_judge 4 (some .int) 0 := CVt.of (tbg_in (List.mem_of_getElem? (i := 1601) (by decide +kernel)) rfl) lwi_yX12_judge lwe_yX12_judge lwj_RX12 lwc_yX12_judge ⟨rfl, by decide, by decide, by decide +kernel⟩ rfl
theorem lcv_162 : CVt RL 162 RX11 yX11_sheet cX11_sheet 4 (some .int) 3 := CVt.of (tbg_in (List.mem_of_getElem? (i := 972) (by decide +kernel)) rfl) lwi_yX11_sheet lwe_yX11_sheet lwj_RX11 lwc_yX11_sheet ⟨rfl, by decide, by decide, by decide +kernel⟩ rfl
theorem lcv_165 : CVt RL 165 RX12 yX12_sheet cX12_sheet 5 (some .int) 3 := CVt.of (tbg_in (List.mem_of_getElem? (i := 1605) (by decide +kernel)) rfl) lwi_yX12_sheet lwe_yX12_sheet lwj_RX12 lwc_yX12_sheet ⟨rfl, by decide, by decide, by decide +kernel⟩ rfl
theorem lcv_166 : CVt RL 166 RX11 yX11_put cX11_put 4 (some .int) 3 := CVt.of (tbg_in (List.mem_of_getElem? (i := 984) (by decide +kernel)) rfl) lwi_yX11_put lwe_yX11_put lwj_RX11 lwc_yX11_put ⟨rfl, by decide, by decide, by decide +kernel⟩ rfl
theorem lcv_169 : CVt RL 169 RX12 yX12_put cX12_put 4 (some .int) 3 := CVt.of (tbg_in (List.mem_of_getElem? (i := 1612) (by decide +kernel)) rfl) lwi_yX12_put lwe_yX12_put lwj_RX12 lwc_yX12_put ⟨rfl, by decide, by decide, by decide +kernel⟩ rfl
theorem lcv_170 : CVt RL 170 RX11 yX11_item cX11_item 4 (some .int) 3 := CVt.of (tbg_in (List.mem_of_getElem? (i := 991) (by decide +kernel)) rfl) lwi_yX11_item lwe_yX11_item lwj_RX11 lwc_yX11_item ⟨rfl, by decide, by decide, by decide +kernel⟩ rfl
theorem lcv_173 : CVt RL 173 RX12 yX12_item cX12_item 5 (some .int) 3 := CVt.of (tbg_in (List.mem_of_getElem? (i := 1616) (by decide +kernel)) rfl) lwi_yX12_item lwe_yX12_item lwj_RX12 lwc_yX12_item ⟨rfl, by decide, by decide, by decide +kernel⟩ rfl
theorem lcv_174 : CVt RL 174 RX11 yX11_shelf cX11_shelf 4 (some .int) 3 := CVt.of (tbg_in (List.mem_of_getElem? (i := 995) (by decide +kernel)) rfl) lwi_yX11_shelf lwe_yX11_shelf lwj_RX11 lwc_yX11_shelf ⟨rfl, by decide, by decide, by decide +kernel⟩ rfl
theorem lcv_177 : CVt RL 177 RX12 yX12_shelf cX12_shelf 4 (some .int) 3 := CVt.of (tbg_in (List.mem_of_getElem? (i := 1624) (by decide +kernel)) rfl) lwi_yX12_shelf lwe_yX12_shelf lwj_RX12 lwc_yX12_shelf ⟨rfl, by decide, by decide, by decide +kernel⟩ rfl
theorem lcv_178 : CVt RL 178 RX11 yX11_taken cX11_taken 5 (some .int) 2 := CVt.of (tbg_in (List.mem_of_getElem? (i := 1011) (by decide +kernel)) rfl) lwi_yX11_taken lwe_yX11_taken lwj_RX11 lwc_yX11_taken ⟨rfl, by decide, by decide, by decide +kernel⟩ rfl
theorem lcv_181 : CVt RL 181 RX12 yX12_taken cX12_taken 4 (some .int) 2 := CVt.of (tbg_in (List.mem_of_getElem? (i := 1632) (by decide +kernel)) rfl) lwi_yX12_taken lwe_yX12_taken lwj_RX12 lwc_yX12_taken ⟨rfl, by decide, by decide, by decide +kernel⟩ rfl
theorem lcv_182 : CVt RL 182 RX11 yX11_act cX11_act 5 (some .int) 3 := CVt.of (tbg_in (List.mem_of_getElem? (i := 1026) (by decide +kernel)) rfl) lwi_yX11_act lwe_yX11_act lwj_RX11 lwc_yX11_act ⟨rfl, by decide, by decide, by decide +kernel⟩ rfl
theorem lcv_185 : CVt RL 185 RX12 yX12_act cX12_act 6 (some .int) 3 := CVt.of (tbg_in (List.mem_of_getElem? (i := 1643) (by decide +kernel)) rfl) lwi_yX12_act lwe_yX12_act lwj_RX12 lwc_yX12_act ⟨rfl, by decide, by decide, by decide +kernel⟩ rfl
theorem lcv_186 : CVt RL 186 RX11 yX11_trace cX11_trace 2 (some .int) 1 := CVt.of (tbg_in (List.mem_of_getElem? (i := 1067) (by decide +kernel)) rfl) lwi_yX11_trace lwe_yX11_trace lwj_RX11 lwc_yX11_trace ⟨rfl, by decide, by decide, by decide +kernel⟩ rfl
theorem lcv_189 : CVt RL 189 RX12 yX12_trace cX12_trace 2 (some .int) 1 := CVt.of (tbg_in (List.mem_of_getElem? (i := 1691) (by decide +kernel)) rfl) lwi_yX12_trace lwe_yX12_trace lwj_RX12 lwc_yX12_trace ⟨rfl, by decide, by decide, by decide +kernel⟩ rfl
theorem lcv_19 : CVt RL 19 RX12 yX12_feed cX12_feed 5 (some .int) 2 := CVt.of (tbg_in (List.mem_of_getElem? (i := 1262) (by decide +kernel)) rfl) lwi_yX12_feed lwe_yX12_feed lwj_RX12 lwc_yX12_feed ⟨rfl, by decide, by decide, by decide +kernel⟩ rfl
theorem lcv_190 : CVt RL 190 RX11 yX11_many cX11_many 2 (some .int) 1 := CVt.of (tbg_in (List.mem_of_getElem? (i := 1071) (by decide +kernel)) rfl) lwi_yX11_many lwe_yX11_many lwj_RX11 lwc_yX11_many ⟨rfl, by decide, by decide, by decide +kernel⟩ rfl
theorem lcv_193 : CVt RL 193 RX12 yX12_many cX12_many 2 (some .int) 1 := CVt.of (tbg_in (List.mem_of_getElem? (i := 1695) (by decide +kernel)) rfl) lwi_yX12_many lwe_yX12_many lwj_RX12 lwc_yX12_many ⟨rfl, by decide, by decide, by decide +kernel⟩ rfl
theorem lcv_194 : CVt RL 194 RX11 yX11_keep cX11_keep 1 (some .int) 0 := CVt.of (tbg_in (List.mem_of_getElem? (i := 1075) (by decide +kernel)) rfl) lwi_yX11_keep lwe_yX11_keep lwj_RX11 lwc_yX11_keep ⟨rfl, by decide, by decide, by decide +kernel⟩ rfl
theorem lcv_197 : CVt RL 197 RX12 yX12_keep cX12_keep 1 (some .int) 0 := CVt.of (tbg_in (List.mem_of_getElem? (i := 1699) (by decide +kernel)) rfl) lwi_yX12_keep lwe_yX12_keep lwj_RX12 lwc_yX12_keep ⟨rfl, by decide, by decide, by decide +kernel⟩ rfl
theorem lcv_198 : CVt RL 198 RX11 yX11_again cX11_again 1 (some .int) 0 := CVt.of (tbg_in (List.mem_of_getElem? (i := 1088) (by decide +kernel)) rfl) lwi_yX11_again lwe_yX11_again lwj_RX11 lwc_yX11_again ⟨rfl, by decide, by decide, by decide +kernel⟩ rfl
theorem lcv_20 : CVt RL 20 RX11 yX11_board cX11_board 2 (some .int) 0 := CVt.of (tbg_in (List.mem_of_getElem? (i := 527) (by decide +kernel)) rfl) lwi_yX11_board lwe_yX11_board lwj_RX11 lwc_yX11_board ⟨rfl, by decide, by decide, by decide +kernel⟩ rfl
theorem lcv_201 : CVt RL 201 RX12 yX12_again cX12_again 1 (some .int) 0 := CVt.of (tbg_in (List.mem_of_getElem? (i := 1711) (by decide +kernel)) rfl) lwi_yX12_again lwe_yX12_again lwj_RX12 lwc_yX12_again ⟨rfl, by decide, by decide, by decide +kernel⟩ rfl
theorem lcv_24 : CVt RL 24 RX12 yX12_board cX12_board 3 (some .int) 0 := CVt.of (tbg_in (List.mem_of_getElem? (i := 1270) (by decide +kernel)) rfl) lwi_yX12_board lwe_yX12_board lwj_RX12 lwc_yX12_board ⟨rfl, by decide, by decide, by decide +kernel⟩ rfl
theorem lcv_25 : CVt RL 25 RX11 yX11_job cX11_job 6 (some .int) 5 := CVt.of (tbg_in (List.mem_of_getElem? (i := 656) (by decide +kernel)) rfl) lwi_yX11_job lwe_yX11_job lwj_RX11 lwc_yX11_job ⟨rfl, by decide, by decide, by decide +kernel⟩ rfl
theorem lcv_29 : CVt RL 29 RX12 yX12_job cX12_job 6 (some .int) 5 := CVt.of (tbg_in (List.mem_of_getElem? (i := 1346) (by decide +kernel)) rfl) lwi_yX12_job lwe_yX12_job lwj_RX12 lwc_yX12_job ⟨rfl, by decide, by decide, by decide +kernel⟩ rfl
theorem lcv_30 : CVt RL 30 RX11 yX11_jobOf cX11_jobOf 3 (some .int) 2 := CVt.of (tbg_in (List.mem_of_getElem? (i := 668) (by decide +kernel)) rfl) lwi_yX11_jobOf lwe_yX11_jobOf lwj_RX11 lwc_yX11_jobOf ⟨rfl, by decide, by decide, by decide +kernel⟩ rfl
theorem lcv_34 : CVt RL 34 RX12 yX12_jobOf cX12_jobOf 3 (some .int) 2 := CVt.of (tbg_in (List.mem_of_getElem? (i := 1359) (by decide +kernel)) rfl) lwi_yX12_jobOf lwe_yX12_jobOf lwj_RX12 lwc_yX12_jobOf ⟨rfl, by decide, by decide, by decide +kernel⟩ rfl
theorem lcv_35 : CVt RL 35 RX11 yX11_drop cX11_drop 2 (some .int) 1 := CVt.of (tbg_in (List.mem_of_getElem? (i := 676) (by decide +kernel)) rfl) lwi_yX11_drop lwe_yX11_drop lwj_RX11 lwc_yX11_drop ⟨rfl, by decide, by decide, by decide +kernel⟩ rfl
theorem lcv_39 : CVt RL 39 RX12 yX12_drop cX12_drop 2 (some .int) 1 := CVt.of (tbg_in (List.mem_of_getElem? (i := 1371) (by decide +kernel)) rfl) lwi_yX12_drop lwe_yX12_drop lwj_RX12 lwc_yX12_drop ⟨rfl, by decide, by decide, by decide +kernel⟩ rfl
theorem lcv_40 : CVt RL 40 RX11 yX11_set cX11_set 4 (some .int) 2 := CVt.of (tbg_in (List.mem_of_getElem? (i := 689) (by decide +kernel)) rfl) lwi_yX11_set lwe_yX11_set lwj_RX11 lwc_yX11_set ⟨rfl, by decide, by decide, by decide +kernel⟩ rfl
theorem lcv_43 : CVt RL 43 RX12 yX12_set cX12_set 5 (some .int) 2 := CVt.of (tbg_in (List.mem_of_getElem? (i := 1379) (by decide +kernel)) rfl) lwi_yX12_set lwe_yX12_set lwj_RX12 lwc_yX12_set ⟨rfl, by decide, by decide, by decide +kernel⟩ rfl
theorem lcv_44 : CVt RL 44 RX11 yX11_lose cX11_lose 4 (some .int) 2 := CVt.of (tbg_in (List.mem_of_getElem? (i := 695) (by decide +kernel)) rfl) lwi_yX11_lose lwe_yX11_lose lwj_RX11 lwc_yX11_lose ⟨rfl, by decide, by decide, by decide +kernel⟩ rfl
theorem lcv_47 : CVt RL 47 RX12 yX12_lose cX12_lose 4 (some .int) 2 := CVt.of (tbg_in (List.mem_of_getElem? (i := 1383) (by decide +kernel)) rfl) lwi_yX12_lose lwe_yX12_lose lwj_RX12 lwc_yX12_lose ⟨rfl, by decide, by decide, by decide +kernel⟩ rfl
theorem lcv_48 : CVt RL 48 RX11 yX11_night cX11_night 4 (some .int) 2 := CVt.of (tbg_in (List.mem_of_getElem? (i := 699) (by decide +kernel)) rfl) lwi_yX11_night lwe_yX11_night lwj_RX11 lwc_yX11_night ⟨rfl, by decide, by decide, by decide +kernel⟩ rfl
theorem lcv_51 : CVt RL 51 RX12 yX12_night cX12_night 4 (some .int) 2 := CVt.of (tbg_in (List.mem_of_getElem? (i := 1387) (by decide +kernel)) rfl) lwi_yX12_night lwe_yX12_night lwj_RX12 lwc_yX12_night ⟨rfl, by decide, by decide, by decide +kernel⟩ rfl
theorem lcv_52 : CVt RL 52 RX11 yX11_slots cX11_slots 2 (some .int) 1 := CVt.of (tbg_in (List.mem_of_getElem? (i := 703) (by decide +kernel)) rfl) lwi_yX11_slots lwe_yX11_slots lwj_RX11 lwc_yX11_slots ⟨rfl, by decide, by decide, by decide +kernel⟩ rfl
theorem lcv_55 : CVt RL 55 RX12 yX12_slots cX12_slots 2 (some .int) 1 := CVt.of (tbg_in (List.mem_of_getElem? (i := 1391) (by decide +kernel)) rfl) lwi_yX12_slots lwe_yX12_slots lwj_RX12 lwc_yX12_slots ⟨rfl, by decide, by decide, by decide +kernel⟩ rfl
theorem lcv_56 : CVt RL 56 RX11 yX11_plan cX11_plan 2 (some .int) 1 := CVt.of (tbg_in (List.mem_of_getElem? (i := 714) (by decide +kernel)) rfl) lwi_yX11_plan lwe_yX11_plan lwj_RX11 lwc_yX11_plan ⟨rfl, by decide, by decide, by decide +kernel⟩ rfl
theorem lcv_59 : CVt RL 59 RX12 yX12_plan cX12_plan 4 (some .int) 1 := CVt.of (tbg_in (List.mem_of_getElem? (i := 1399) (by decide +kernel)) rfl) lwi_yX12_plan lwe_yX12_plan lwj_RX12 lwc_yX12_plan ⟨rfl, by decide, by decide, by decide +kernel⟩ rfl
theorem lcv_60 : CVt RL 60 RX11 yX11_planOf cX11_planOf 2 (some .int) 1 := CVt.of (tbg_in (List.mem_of_getElem? (i := 722) (by decide +kernel)) rfl) lwi_yX11_planOf lwe_yX11_planOf lwj_RX11 lwc_yX11_planOf ⟨rfl, by decide, by decide, by decide +kernel⟩ rfl
theorem lcv_63 : CVt RL 63 RX12 yX12_planOf cX12_planOf 2 (some .int) 1 := CVt.of (tbg_in (List.mem_of_getElem? (i := 1403) (by decide +kernel)) rfl) lwi_yX12_planOf lwe_yX12_planOf lwj_RX12 lwc_yX12_planOf ⟨rfl, by decide, by decide, by decide +kernel⟩ rfl
theorem lcv_64 : CVt RL 64 RX11 yX11_press cX11_press 2 (some .int) 1 := CVt.of (tbg_in (List.mem_of_getElem? (i := 726) (by decide +kernel)) rfl) lwi_yX11_press lwe_yX11_press lwj_RX11 lwc_yX11_press ⟨rfl, by decide, by decide, by decide +kernel⟩ rfl
theorem lcv_67 : CVt RL 67 RX12 yX12_press cX12_press 2 (some .int) 1 := CVt.of (tbg_in (List.mem_of_getElem? (i := 1407) (by decide +kernel)) rfl) lwi_yX12_press lwe_yX12_press lwj_RX12 lwc_yX12_press ⟨rfl, by decide, by decide, by decide +kernel⟩ rfl
theorem lcv_68 : CVt RL 68 RX11 yX11_ends cX11_ends 2 (some .int) 1 := CVt.of (tbg_in (List.mem_of_getElem? (i := 730) (by decide +kernel)) rfl) lwi_yX11_ends lwe_yX11_ends lwj_RX11 lwc_yX11_ends ⟨rfl, by decide, by decide, by decide +kernel⟩ rfl
theorem lcv_71 : CVt RL 71 RX12 yX12_ends cX12_ends 2 (some .int) 1 := CVt.of (tbg_in (List.mem_of_getElem? (i := 1411) (by decide +kernel)) rfl) lwi_yX12_ends lwe_yX12_ends lwj_RX12 lwc_yX12_ends ⟨rfl, by decide, by decide, by decide +kernel⟩ rfl
theorem lcv_72 : CVt RL 72 RX11 yX11_late cX11_late 3 (some .int) 0 := CVt.of (tbg_in (List.mem_of_getElem? (i := 759) (by decide +kernel)) rfl) lwi_yX11_late lwe_yX11_late lwj_RX11 lwc_yX11_late ⟨rfl, by decide, by decide, by decide +kernel⟩ rfl
theorem lcv_75 : CVt RL 75 RX12 yX12_late cX12_late 3 (some .int) 0 := CVt.of (tbg_in (List.mem_of_getElem? (i := 1435) (by decide +kernel)) rfl) lwi_yX12_late lwe_yX12_late lwj_RX12 lwc_yX12_late ⟨rfl, by decide, by decide, by decide +kernel⟩ rfl
theorem lcv_76 : CVt RL 76 RX11 yX11_worth cX11_worth 3 (some .int) 0 := CVt.of (tbg_in (List.mem_of_getElem? (i := 763) (by decide +kernel)) rfl) lwi_yX11_worth lwe_yX11_worth lwj_RX11 lwc_yX11_worth ⟨rfl, by decide, by decide, by decide +kernel⟩ rfl
theorem lcv_79 : CVt RL 79 RX12 yX12_worth cX12_worth 1 (some .int) 0 := CVt.of (tbg_in (List.mem_of_getElem? (i := 1443) (by decide +kernel)) rfl) lwi_yX12_worth lwe_yX12_worth lwj_RX12 lwc_yX12_worth ⟨rfl, by decide, by decide, by decide +kernel⟩ rfl
theorem lcv_80 : CVt RL 80 RX11 yX11_best cX11_best 3 (some .int) 1 := CVt.of (tbg_in (List.mem_of_getElem? (i := 771) (by decide +kernel)) rfl) lwi_yX11_best lwe_yX11_best lwj_RX11 lwc_yX11_best ⟨rfl, by decide, by decide, by decide +kernel⟩ rfl
theorem lcv_83 : CVt RL 83 RX12 yX12_best cX12_best 3 (some .int) 1 := CVt.of (tbg_in (List.mem_of_getElem? (i := 1455) (by decide +kernel)) rfl) lwi_yX12_best lwe_yX12_best lwj_RX12 lwc_yX12_best ⟨rfl, by decide, by decide, by decide +kernel⟩ rfl
theorem lcv_84 : CVt RL 84 RX11 yX11_fewest cX11_fewest 1 (some .int) 0 := CVt.of (tbg_in (List.mem_of_getElem? (i := 802) (by decide +kernel)) rfl) lwi_yX11_fewest lwe_yX11_fewest lwj_RX11 lwc_yX11_fewest ⟨rfl, by decide, by decide, by decide +kernel⟩ rfl
theorem lcv_87 : CVt RL 87 RX12 yX12_fewest cX12_fewest 5 (some .int) 0 := CVt.of (tbg_in (List.mem_of_getElem? (i := 1484) (by decide +kernel)) rfl) lwi_yX12_fewest lwe_yX12_fewest lwj_RX12 lwc_yX12_fewest ⟨rfl, by decide, by decide, by decide +kernel⟩ rfl
theorem lcv_88 : CVt RL 88 RX11 yX11_soonest cX11_soonest 5 (some .int) 3 := CVt.of (tbg_in (List.mem_of_getElem? (i := 810) (by decide +kernel)) rfl) lwi_yX11_soonest lwe_yX11_soonest lwj_RX11 lwc_yX11_soonest ⟨rfl, by decide, by decide, by decide +kernel⟩ rfl
theorem lcv_92 : CVt RL 92 RX12 yX12_soonest cX12_soonest 8 (some .int) 3 := CVt.of (tbg_in (List.mem_of_getElem? (i := 1492) (by decide +kernel)) rfl) lwi_yX12_soonest lwe_yX12_soonest lwj_RX12 lwc_yX12_soonest ⟨rfl, by decide, by decide, by decide +kernel⟩ rfl
theorem lcv_93 : CVt RL 93 RX11 yX11_gain cX11_gain 7 (some .int) 5 := CVt.of (tbg_in (List.mem_of_getElem? (i := 820) (by decide +kernel)) rfl) lwi_yX11_gain lwe_yX11_gain lwj_RX11 lwc_yX11_gain ⟨rfl, by decide, by decide, by decide +kernel⟩ rfl
theorem lcv_96 : CVt RL 96 RX12 yX12_gain cX12_gain 7 (some .int) 5 := CVt.of (tbg_in (List.mem_of_getElem? (i := 1496) (by decide +kernel)) rfl) lwi_yX12_gain lwe_yX12_gain lwj_RX12 lwc_yX12_gain ⟨rfl, by decide, by decide, by decide +kernel⟩ rfl
theorem lcv_97 : CVt RL 97 RX11 yX11_across cX11_across 6 (some .int) 1 := CVt.of (tbg_in (List.mem_of_getElem? (i := 824) (by decide +kernel)) rfl) lwi_yX11_across lwe_yX11_across lwj_RX11 lwc_yX11_across ⟨rfl, by decide, by decide, by decide +kernel⟩ rfl
