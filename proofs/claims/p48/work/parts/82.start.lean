/-! THE CLAIM OUT OF ONE WALK OF THE LAW'S BODY. Your part is whole_start (and what it stands on); all else here is the same for every law, but numbers. -/
def R_law : String := "PressDaysLaw"
def lw_P (b : Addr) (xs : List Int32) (args : Array Value) (s : State) : Prop := args = #[.ref b] ∧ s.IntsAt b xs ∧ xs.length ≤ 260 ∧ (Jvm.Cond.and given_1 narrow_1).before args s = true
def lw_Q (_ : Array Value) (s : State) (o : Outcome) (t : State) : Prop := o = .returned (some (.int 1)) ∧ Framed s o t [] 600000 7302250
def lw_Z (below : List Frame) (a : Array Value) (s : State) : State → Prop := fun t => ∃ o, t.status = .running ∧ Ended t below o ∧ lw_Q a s o t
/-- the law's own end, with 1 on the stack, nothing written that was there before, its room as the claim has it -/
theorem lw_ret {p : Program} {l : Launch} {e : Env} {s : State} {m : MethodId} {below : List Frame} {meth : Method} {c : Code} {b : Nat} (hx : p.tables.exec = Jvm.exec) (hb : c.code = code) (hr : meth.sig.returnType = ret) (hlocks : meth.locks = false) {pc : Nat} {H : Heap} {ls : Array Slot} (hdg : decode code pc = .ok (.ireturn, 1)) : W p l e room_1 s m #[Value.ref b] below meth c H [] 600000 7302250 (lw_Z below #[Value.ref b] s) (F0 m pc ls [.int 1]) := by
  intro T hT X
  obtain ⟨fs, hret, hrun, hended, hW, hframe⟩ := X.leave (v := some (.int 1)) (hlocks := hlocks) (fun h => by rw [hr] at h; cases h)
  have hmeth' : T.vm.method? m = some meth := X.method'
  refine ⟨T.setFrames fs, ?_, .returned (some (.int 1)), hrun, hended, rfl, ⟨_, rfl⟩, hW, hframe⟩
  jvm_step X.here [X.here.top, hx, hb, hdg, hmeth', hr, ret, narrow_b1]
  (try refine ⟨rfl, ?_⟩); (try refine ⟨rfl, ?_⟩)
  first | (intro acts; rw [hret _ acts rfl rfl rfl]) | rw [hret _ _ rfl rfl rfl]
  exact Steps.refl _
/-- what holds at the law's entry: the machine, the code, the tables' words (any of lw_tbl by 'hts w (by decide +kernel)'), the script of L ints xs at the cell b, what the Statement gives of the start (any of its parts by flat_of_before) -/
def lw_At (p : Program) (s : State) (m : MethodId) (meth : Method) (c : Code) (b L : Nat) (xs : Nat → Int32) : Prop :=
  p.tables.exec = Jvm.exec ∧ c.code = code ∧ meth.sig.returnType = ret ∧ c.maxLocals = 33 ∧ s.vm.findClass R_law = some m.cls ∧ (∀ w ∈ lw_tbl, w.before #[Value.ref b] s = true) ∧ va_X b L xs s s.heap ∧ b < s.heap.size ∧ meth.locks = false ∧ (Jvm.Cond.and given_1 narrow_1).before #[Value.ref b] s = true
theorem wkn_RX0 : Cond.instantiable RX0 1 ∈ TBG := tbg_in (List.mem_of_getElem? (i := 288) (by decide +kernel)) rfl
theorem wkn_RX1 : Cond.instantiable RX1 9 ∈ TBG := tbg_in (List.mem_of_getElem? (i := 32) (by decide +kernel)) rfl
theorem wkn_RX2 : Cond.instantiable RX2 9 ∈ TBG := tbg_in (List.mem_of_getElem? (i := 253) (by decide +kernel)) rfl
theorem wkn_RX3 : Cond.instantiable RX3 7 ∈ TBG := tbg_in (List.mem_of_getElem? (i := 191) (by decide +kernel)) rfl
theorem wkn_RX4 : Cond.instantiable RX4 6 ∈ TBG := tbg_in (List.mem_of_getElem? (i := 38) (by decide +kernel)) rfl
theorem wkn_RX5 : Cond.instantiable RX5 6 ∈ TBG := tbg_in (List.mem_of_getElem? (i := 226) (by decide +kernel)) rfl
theorem wkn_RX6 : Cond.instantiable RX6 3 ∈ TBG := tbg_in (List.mem_of_getElem? (i := 298) (by decide +kernel)) rfl
theorem wkn_RX7 : Cond.instantiable RX7 6 ∈ TBG := tbg_in (List.mem_of_getElem? (i := 318) (by decide +kernel)) rfl
theorem wkn_RX8 : Cond.instantiable RX8 8 ∈ TBG := tbg_in (List.mem_of_getElem? (i := 156) (by decide +kernel)) rfl
theorem wkn_RX9 : Cond.instantiable RX9 6 ∈ TBG := tbg_in (List.mem_of_getElem? (i := 343) (by decide +kernel)) rfl
theorem wkn_RX10 : Cond.instantiable RX10 8 ∈ TBG := tbg_in (List.mem_of_getElem? (i := 124) (by decide +kernel)) rfl
theorem wkn_RX11 : Cond.instantiable RX11 14 ∈ TBG := tbg_in (List.mem_of_getElem? (i := 24) (by decide +kernel)) rfl
theorem wlc_new : Cond.classLink RL 26 RX11 ∈ TBG := tbg_in (List.mem_of_getElem? (i := 23) (by decide +kernel)) rfl
theorem wlm_init : Cond.methodLink RL 40 yX11_init ∈ TBG := tbg_in (List.mem_of_getElem? (i := 25) (by decide +kernel)) rfl
theorem wli_RX11 : Cond.instanceMethod yX11_init ∈ TBG := tbg_in (List.mem_of_getElem? (i := 26) (by decide +kernel)) rfl
theorem wlk_RX11 : Cond.code yX11_init cX11_init 1 none ∈ TBG := tbg_in (List.mem_of_getElem? (i := 27) (by decide +kernel)) rfl
theorem wln_RX11 : Cond.initialized RX11 ∈ TBG := tbg_in (List.mem_of_getElem? (i := 9) (by decide +kernel)) rfl
theorem wla_byte : Cond.arrayClass .byte ∈ TBG := tbg_in (List.mem_of_getElem? (i := 189) (by decide +kernel)) rfl
theorem wla_int : Cond.arrayClass .int ∈ TBG := tbg_in (List.mem_of_getElem? (i := 81) (by decide +kernel)) rfl
theorem arr_known {ty : FieldType} {args : Array Value} {s : State} (h : (Cond.arrayClass ty).before args s = true) : ∃ cA, ArrOfT s cA ty ∧ s.vm.findClass ("[" ++ ty.toString) = some cA := by
  obtain ⟨c, k, comp, h1, h2, h3⟩ := Cond.arrayClass_spec (first := s) (o := none) (idx := []) h
  exact ⟨c, fun n z => ⟨fun k h => (by cases h), k, h2, comp, h3⟩, h1⟩
theorem cls_known {args : Array Value} {s : State} (hts : ∀ w ∈ TBG, w.before args s = true) : ∃ D : va_G, ∀ (c : Nat) (q : vw_C), vwCl[c]? = some q → u_Kn s q.1 q.2.1 q.2.2 (D.1 c) (D.2 c) := by
  have h : ∀ c : Nat, ∃ z : ClassId × (Nat → Nat), ∀ q : vw_C, vwCl[c]? = some q → u_Kn s q.1 q.2.1 q.2.2 z.1 z.2 := by
    have h0 : ∀ c : Nat, ∃ (a : ClassId) (f : Nat → Nat), ∀ q : vw_C, vwCl[c]? = some q → u_Kn s q.1 q.2.1 q.2.2 a f := by
      intro c
      match c with
      | 0 => obtain ⟨a, f, h⟩ := u_known (C := RX0) (T := TX0) (N := 1) (n := 1) hts (cf_X0).2.1 (hts _ wkn_RX0); exact ⟨a, f, fun q hq => by cases hq; exact h⟩
      | 1 => obtain ⟨a, f, h⟩ := u_known (C := RX1) (T := TX1) (N := 9) (n := 9) hts (cf_X1).2.1 (hts _ wkn_RX1); exact ⟨a, f, fun q hq => by cases hq; exact h⟩
      | 2 => obtain ⟨a, f, h⟩ := u_known (C := RX2) (T := TX2) (N := 9) (n := 9) hts (cf_X2).2.1 (hts _ wkn_RX2); exact ⟨a, f, fun q hq => by cases hq; exact h⟩
      | 3 => obtain ⟨a, f, h⟩ := u_known (C := RX3) (T := TX3) (N := 7) (n := 7) hts (cf_X3).2.1 (hts _ wkn_RX3); exact ⟨a, f, fun q hq => by cases hq; exact h⟩
      | 4 => obtain ⟨a, f, h⟩ := u_known (C := RX4) (T := TX4) (N := 6) (n := 6) hts (cf_X4).2.1 (hts _ wkn_RX4); exact ⟨a, f, fun q hq => by cases hq; exact h⟩
      | 5 => obtain ⟨a, f, h⟩ := u_known (C := RX5) (T := TX5) (N := 6) (n := 6) hts (cf_X5).2.1 (hts _ wkn_RX5); exact ⟨a, f, fun q hq => by cases hq; exact h⟩
      | 6 => obtain ⟨a, f, h⟩ := u_known (C := RX6) (T := TX6) (N := 3) (n := 3) hts (cf_X6).2.1 (hts _ wkn_RX6); exact ⟨a, f, fun q hq => by cases hq; exact h⟩
      | 7 => obtain ⟨a, f, h⟩ := u_known (C := RX7) (T := TX7) (N := 6) (n := 6) hts (cf_X7).2.1 (hts _ wkn_RX7); exact ⟨a, f, fun q hq => by cases hq; exact h⟩
      | 8 => obtain ⟨a, f, h⟩ := u_known (C := RX8) (T := TX8) (N := 8) (n := 8) hts (cf_X8).2.1 (hts _ wkn_RX8); exact ⟨a, f, fun q hq => by cases hq; exact h⟩
      | 9 => obtain ⟨a, f, h⟩ := u_known (C := RX9) (T := TX9) (N := 6) (n := 6) hts (cf_X9).2.1 (hts _ wkn_RX9); exact ⟨a, f, fun q hq => by cases hq; exact h⟩
      | 10 => obtain ⟨a, f, h⟩ := u_known (C := RX10) (T := TX10) (N := 8) (n := 8) hts (cf_X10).2.1 (hts _ wkn_RX10); exact ⟨a, f, fun q hq => by cases hq; exact h⟩
      | 11 => obtain ⟨a, f, h⟩ := u_known (C := RX11) (T := TX11) (N := 14) (n := 14) hts (cf_X11).2.1 (hts _ wkn_RX11); exact ⟨a, f, fun q hq => by cases hq; exact h⟩
      | n + 12 => exact ⟨0, fun _ => 0, fun q hq => by simp [vwCl] at hq⟩
    intro c
    obtain ⟨a, f, h⟩ := h0 c
    exact ⟨(a, f), h⟩
  obtain ⟨F, hF⟩ := Classical.axiomOfChoice h
  exact ⟨(fun c => (F c).1, fun c => (F c).2), hF⟩
def flatN : List Cond := flatC (Jvm.Cond.and given_1 narrow_1)
theorem tab4 {args : Array Value} {s : State} {n : String} {A : Nat → Prop} {f : Nat → Int32} (hl : (Cond.laysStatic "PressDays" n "[I").before args s = true) (hi : (Cond.initialized "PressDays").before args s = true) (harr : (Cond.arrayOf (.static "PressDays" n "[I") .int).before args s = true) (hlen : (Cond.eq (.length (.static "PressDays" n "[I")) (.int 4)).before args s = true) (hel : ∀ j : Nat, j < 4 → (Cond.eq (.elem (.static "PressDays" n "[I") (.int (Int32.ofNat j))) (.int (f j))).before args s = true) (hA : ∀ a : Nat, a < s.heap.size → ¬ A a) : ∃ t : Nat, va_Z "PressDays" n "[I" (.ref t) A s s.heap ∧ va_T .int t 4 (fun j => .int (f j)) A s s.heap := by
  obtain ⟨t, h1, h2⟩ := va_Tof (N := 4) (f := fun j => .int (f j)) (A := A) (by decide) harr (va_eqt hlen) (fun j hj => va_eqt (hel j hj)) hA
  exact ⟨t, va_Zof hl hi h1 hA, h2⟩
theorem fl_tl : Cond.arrayOf (.static "PressDays" "LAW_LEAST" "[I") .int ∈ flatN ∧ Cond.eq (.length (.static "PressDays" "LAW_LEAST" "[I")) (.int 4) ∈ flatN ∧ (∀ j : Nat, j < 4 → Cond.eq (.elem (.static "PressDays" "LAW_LEAST" "[I") (.int (Int32.ofNat j))) (.int (leastS j)) ∈ flatN) := by decide +kernel
theorem fl_tm : Cond.arrayOf (.static "PressDays" "LAW_MOST" "[I") .int ∈ flatN ∧ Cond.eq (.length (.static "PressDays" "LAW_MOST" "[I")) (.int 4) ∈ flatN ∧ (∀ j : Nat, j < 4 → Cond.eq (.elem (.static "PressDays" "LAW_MOST" "[I") (.int (Int32.ofNat j))) (.int (mostS j)) ∈ flatN) := by decide +kernel
/-- what lies outside the pool, at the law's entry -/
theorem stat_start {s : State} {b L : Nat} {xs : Nat → Int32} (hall : ∀ w ∈ lw_tbl, w.before #[Value.ref b] s = true) (hgv : (Jvm.Cond.and given_1 narrow_1).before #[Value.ref b] s = true) (hX : va_X b L xs s s.heap) (hbl : b < s.heap.size) : ∃ ex : (Nat → Nat) × Value, ex.1 3 = b ∧ ∀ (ad : Nat → Nat) (D : va_G) (cc : C3), StatOK (L, xs) (fun q => s.heap.size ≤ q) (ad, D, cc, ex) s s.heap := by
  have hf : ∀ c ∈ flatN, c.before #[Value.ref b] s = true := flat_of_before _ hgv
  have hA : ∀ a : Nat, a < s.heap.size → ¬ (fun q => s.heap.size ≤ q) a := fun a h => Nat.not_le.mpr h
  have hpd : (Cond.initialized "PressDays").before #[Value.ref b] s = true := hall _ (List.mem_of_getElem? (i := 9) (by decide +kernel))
  obtain ⟨t1, a1, a2⟩ := tab4 (n := "LAW_LEAST") (f := leastS) (A := fun q => s.heap.size ≤ q) (hall _ (List.mem_of_getElem? (i := 705) (by decide +kernel))) hpd (hf _ fl_tl.1) (hf _ fl_tl.2.1) (fun j hj => hf _ (fl_tl.2.2 j hj)) hA
  obtain ⟨t2, b1, b2⟩ := tab4 (n := "LAW_MOST") (f := mostS) (A := fun q => s.heap.size ≤ q) (hall _ (List.mem_of_getElem? (i := 707) (by decide +kernel))) hpd (hf _ fl_tm.1) (hf _ fl_tm.2.1) (fun j hj => hf _ (fl_tm.2.2 j hj)) hA
  obtain ⟨scr, x1, x2, x3, x4, x5⟩ := hX
  exact ⟨(fun k => if k = 1 then t1 else if k = 2 then t2 else b, .null), rfl, fun ad D cc => ⟨⟨a1, a2⟩, ⟨b1, b2⟩, ⟨scr, x1, x2, x3, by omega, by rw [x4], x5, Nat.not_le.mpr hbl⟩, rfl⟩⟩
theorem inj_of {P : PI} {V : EV} {w : AW} {A : Nat → Prop} (h : va_D A (wl P V w)) : ∀ i j, i < P.1.length → j < P.1.length → V.1 i = V.1 j → i = j := fun i j hi hj e => h.1 i j _ _ (wl_at (List.getElem?_eq_getElem hi)) (wl_at (List.getElem?_eq_getElem hj)) e
theorem pl_at {P : PI} {V : EV} {w : AW} {q : Nat} (h : Pl P V q) : ∃ (k : Nat) (x : Nat × va_E), (wl P V w)[k]? = some x ∧ x.1 = q := by
  obtain ⟨k, hk, rfl⟩ := h
  exact ⟨k, _, wl_at (List.getElem?_eq_getElem hk), rfl⟩
/-- the law's first rows: the object and four rows are made -/
theorem law_made (D : va_G) (cc : C3) (b : Nat) : G D cc RL cL_law 33 2000 80 1444 false 0 [some (.ref b), none, none, none, none, none, none, none, none, none, none, none, none, none, none, none, none, none, none, none, none, none, none, none, none, none, none, none, none, none, none, none, none] [] [] 0 0 (fun pc ls st ws cells slots => pc = 29 ∧ st = [] ∧ cells = 80 ∧ slots = 1444 ∧ ∃ (q : Nat) (u v : List Nat), ls = [some (.ref b), some (.ref q), some (.ref (v.getD 0 0)), some (.ref (v.getD 1 0)), some (.ref (v.getD 2 0)), some (.ref (v.getD 3 0)), none, none, none, none, none, none, none, none, none, none, none, none, none, none, none, none, none, none, none, none, none, none, none, none, none, none, none] ∧ ws = wzL D cc q u v) := by
  refine G_new (fs := [.null, .null, .null, .null, .int 0, .null, .null, .null, .null, .null, .null, .null, .null, .null]) cf_X11 dL_law_0 wlc_new wkn_RX11 wln_RX11 (by decide +kernel) (by decide) (by decide) (fun q1 => ?_)
  refine G_dup dL_law_3 ?_
  refine G_ctor (n := 0) (as := []) (wr := []) (rest := [.ref q1]) ct_RX11 dL_law_4 wlm_init wli_RX11 wln_RX11 wlk_RX11 rfl ⟨by decide, by decide, by decide +kernel⟩ (by decide) (by decide) rfl rfl rfl (Nat.le_of_ble_eq_true rfl) (by decide) (by decide) (fun u1 => ?_)
  refine G_astore_n (ls' := [some (.ref b), some (.ref q1), none, none, none, none, none, none, none, none, none, none, none, none, none, none, none, none, none, none, none, none, none, none, none, none, none, none, none, none, none, none, none]) dL_law_7 rfl rfl rfl ?_
  refine G_bipush 30 dL_law_8 bp_30 ?_
  refine G_newarr (ty := .int) (N := 30) (a0 := (30, .inl (fun _ => 0))) 1 dL_law_10 rfl wla_int rfl (fun _ h => by cases h) (fun _ => rfl) (by decide) (by decide) (by decide) (by decide) (by decide) (fun q2 => ?_)
  refine G_astore_n (ls' := [some (.ref b), some (.ref q1), some (.ref q2), none, none, none, none, none, none, none, none, none, none, none, none, none, none, none, none, none, none, none, none, none, none, none, none, none, none, none, none, none, none]) dL_law_12 rfl rfl rfl ?_
  refine G_iconst 4 dL_law_13 ic_4 ?_
  refine G_newarr (ty := .int) (N := 4) (a0 := (4, .inl (fun _ => 0))) 1 dL_law_14 rfl wla_int rfl (fun _ h => by cases h) (fun _ => rfl) (by decide) (by decide) (by decide) (by decide) (by decide) (fun q3 => ?_)
  refine G_astore_n (ls' := [some (.ref b), some (.ref q1), some (.ref q2), some (.ref q3), none, none, none, none, none, none, none, none, none, none, none, none, none, none, none, none, none, none, none, none, none, none, none, none, none, none, none, none, none]) dL_law_16 rfl rfl rfl ?_
  refine G_bipush 10 dL_law_17 bp_10 ?_
  refine G_newarr (ty := .int) (N := 10) (a0 := (10, .inl (fun _ => 0))) 1 dL_law_19 rfl wla_int rfl (fun _ h => by cases h) (fun _ => rfl) (by decide) (by decide) (by decide) (by decide) (by decide) (fun q4 => ?_)
  refine G_astore (ls' := [some (.ref b), some (.ref q1), some (.ref q2), some (.ref q3), some (.ref q4), none, none, none, none, none, none, none, none, none, none, none, none, none, none, none, none, none, none, none, none, none, none, none, none, none, none, none, none]) dL_law_21 rfl rfl rfl ?_
  refine G_bipush 10 dL_law_23 bp_10 ?_
  refine G_newarr (ty := .int) (N := 10) (a0 := (10, .inl (fun _ => 0))) 1 dL_law_25 rfl wla_int rfl (fun _ h => by cases h) (fun _ => rfl) (by decide) (by decide) (by decide) (by decide) (by decide) (fun q5 => ?_)
  refine G_astore (ls' := [some (.ref b), some (.ref q1), some (.ref q2), some (.ref q3), some (.ref q4), some (.ref q5), none, none, none, none, none, none, none, none, none, none, none, none, none, none, none, none, none, none, none, none, none, none, none, none, none, none, none]) dL_law_27 rfl rfl rfl ?_
  exact G.done ⟨rfl, rfl, rfl, rfl, q1, u1, [q2, q3, q4, q5], rfl, rfl⟩

theorem law_row (D : va_G) (cc : C3) (b o n : Nat) (x6 x24 : Int32) (ws : va_W) : G D cc RL cL_law 33 2000 81 1450 false 872 [some (.ref b), some (.ref o), none, none, none, some (.ref n), some (.int x6), none, none, none, none, none, none, none, none, none, none, none, none, none, none, none, none, none, some (.int x24), none, none, none, none, none, none, none, none] [] ws 80 1444 (fun pc ls st ws' cells slots => pc = 878 ∧ st = [] ∧ cells = 81 ∧ slots = 1450 ∧ ∃ q, ls = [some (.ref b), some (.ref o), none, none, none, some (.ref n), some (.int x6), none, none, none, none, none, none, none, none, none, none, none, none, none, none, none, none, none, some (.int x24), some (.ref q), none, none, none, none, none, none, none] ∧ ws' = ws ++ [(q, .inl (cc.2.1, 6, .inl (fun _ => 0)))]) := by
  refine G_bipush 6 dL_law_872 bp_6 ?_
  refine G_newarr (ty := .int) (N := 6) (a0 := (6, .inl (fun _ => 0))) 1 dL_law_874 rfl wla_int rfl (fun _ h => by cases h) (fun _ => rfl) (by decide) (by decide) (by decide) (by decide) (by decide) (fun q => ?_)
  refine G_astore (ls' := [some (.ref b), some (.ref o), none, none, none, some (.ref n), some (.int x6), none, none, none, none, none, none, none, none, none, none, none, none, none, none, none, none, none, some (.int x24), some (.ref q), none, none, none, none, none, none, none]) dL_law_876 rfl rfl rfl ?_
  exact G.done ⟨rfl, rfl, rfl, rfl, q, rfl, rfl⟩

theorem hasL_cv {V V' : EV} {la : Array Slot} {ls ls' : List (Option Value)} (h : hasL V la 33 ls) (he : ∀ (i : Nat) (v : Value), ls'[i]? = some (some v) → ∃ v', ls[i]? = some (some v') ∧ cv V v' = cv V' v) : hasL V' la 33 ls' := ⟨h.1, h.2.1, fun i v hi => by
  obtain ⟨v', h1, h2⟩ := he i v hi
  rw [← h2]; exact h.2.2 i v' h1⟩
theorem wl_ends {S : SC} {V V' : EV} {w : AW} {q : Nat} (h1 : ∀ k, k < 80 → V'.1 k = V.1 k) (h2 : V'.1 80 = q) (h3 : V'.2.2.1 = V.2.2.1) : wl (PE S) V' (zr w) = wl (PC S) V w ++ [(q, .inl (V.2.2.1.2.1, 6, .inl (fun _ => 0)))] := by
  have hA : wl (PC S) V' w = wl (PC S) V w := by
    apply List.ext_getElem?
    intro i
    simp only [wl, List.getElem?_mapIdx]
    cases hc : (PC S).1[i]? with
    | none => rfl
    | some c =>
      have hi : i < 80 := (List.getElem?_eq_some_iff.mp hc).1
      have hf : flds V'.1 (PC S).2.1 w i c = flds V.1 (PC S).2.1 w i c := by
        apply List.ext_getElem?
        intro k
        rw [flds_get, flds_get]
        cases hk : (kd c)[k]? with
        | none => rfl
        | some t =>
          have ht : t ≤ 2 := kd_le hk
          have hr : (PC S).2.1 i k < 80 := rf_lt i k
          simp only [Option.map_some, fv, rfv, h1 _ hr]
          by_cases g0 : t = 0
          · simp only [g0, if_true]
          · by_cases g1 : t = 1
            · simp only [g1, if_true, if_false, Nat.one_ne_zero]
            · have g2 : t = 2 := by omega
              simp only [g2, show ¬ ((2 : Nat) = 0) by decide, show ¬ ((2 : Nat) = 1) by decide, if_true, if_false]
      simp only [Option.map_some, ent, hf, h1 i hi, h3]
  have hB : ent V' rfC (zr w) 80 106 = .inl (V.2.2.1.2.1, 6, .inl (fun _ => 0)) := by
    rw [show (106 : Nat) = 100 + 6 from rfl, ent_I (by decide), h3]
    rfl
  rw [wl_PE, wl_same (zr_lt (w := w)), h2, hA, ← hB]

set_option maxRecDepth 10000 in
set_option maxHeartbeats 4000000 in
/-- from the entry, for every script, the law comes to its end with true -/
theorem whole_start {p : Program} {e : Env} {s : State} {m : MethodId} {below : List Frame} {meth : Method} {c : Code} (l : Launch) (hflags : l.flags = flags0) {b L : Nat} {xs : Nat → Int32} (hL : L ≤ 260) (C0 : lw_At p s m meth c b L xs) : W p l e room_1 s m #[Value.ref b] below meth c s.heap [] 0 0 (lw_Z below #[Value.ref b] s) (entryFrame m ([Value.ref b] : List Value).toArray 33) := by
  obtain ⟨hx, hb, hr, hml, hown, hall, hX, hbl, hlocks, hgv⟩ := id C0
  have hts : ∀ w ∈ TBG, w.before #[Value.ref b] s = true := fun w h => hall w (List.mem_filter.mp h).1
  have hnest : ∀ w ∈ NWL, va_Nw w s := fun w h => va_Nw.of (by
    have hw2 := (List.mem_filter.mp h).2
    cases w <;> first | rfl | exact absurd hw2 (by simp [nestW])) (hall w (List.mem_filter.mp h).1)
  obtain ⟨D, hD0⟩ := cls_known hts
  obtain ⟨cB, b1, b2⟩ := arr_known (hts _ wla_byte)
  obtain ⟨cI, i1, i2⟩ := arr_known (hts _ wla_int)
  have hK : va_K D vwCl (tysC (cB, cI, 0)) s := by
    refine ⟨hD0, fun k q hq => ?_⟩
    match k, hq with
    | 0, hq => cases hq; exact ⟨b1, b2⟩
    | 1, hq => cases hq; exact ⟨i1, i2⟩
    | k + 2, hq => simp [tysC] at hq
  obtain ⟨ex, hex3, hst⟩ := stat_start hall hgv hX hbl
  obtain ⟨wZ, hlaw⟩ := law_ok (L, xs) hL
  have hl := lv_entry ([.ref b]) (n := 33) (Nat.le_of_ble_eq_true rfl)
  rw [lg_entry_eq]
  refine law_made D (cB, cI, 0) b p l e room_1 s m #[Value.ref b] below meth c (fun q => s.heap.size ≤ q) s.heap [] _ _ ⟨hx, hb, hml, hown, hts, hK, hnest, by decide, by decide, by decide, by decide, fun q h => h, fun h => by cases h⟩ (fun k q h => by simp at h) ⟨fun i j p q h => by simp at h, fun k q h => by simp at h⟩ va_S.rf ⟨hl.1, hl.2.1, fun i v hi => ?_⟩ (fun pc' ls' st' ws' cells' slots' H' locs' la' hq hP hD hS hl' => ?_)
  · match i, hi with
    | 0, hi => cases hi; exact hl.2.2 (0, .ref b) List.mem_cons_self
    | i + 1, hi => exact absurd hi (none_at i v)
  · obtain ⟨rfl, rfl, rfl, rfl, q1, u, v, rfl, rfl⟩ := hq
    refine va_forget (fun q hq => hS.2.2 q hq) ?_
    rw [← wz_C D (cB, cI, 0) q1 u v ex (L, xs)] at hP hD
    obtain ⟨V, hV⟩ : ∃ V : EV, V = (adC q1 u v, D, (cB, cI, 0), ex) := ⟨_, rfl⟩
    have hV1 : V.2.1 = D := by rw [hV]
    have hV2 : V.2.2.1 = (cB, cI, 0) := by rw [hV]
    have hlV : hasL V la' 33 [some (.retAddr 3), some (.ref 0), some (.ref 76), some (.ref 77), some (.ref 78), some (.ref 79), none, none, none, none, none, none, none, none, none, none, none, none, none, none, none, none, none, none, none, none, none, none, none, none, none, none, none] := by
      refine hasL_cv hl' (fun i v0 hi => ?_)
      rw [hV]
      exact ls_first hex3 i v0 hi
    rw [← hV] at hP hD
    have hp1 : ∀ q, Pl (PC (L, xs)) V q → s.heap.size ≤ q := fun q h => by
      obtain ⟨k, x, h1, rfl⟩ := pl_at (w := w0C) h
      exact hD.2 k x h1
    have e1 : EnvOK (PC (L, xs)) V s s.heap := ⟨by rw [hV]; exact hK, inj_of hD, hnest, by rw [hV]; rw [hV] at hp1; exact (hst _ D (cB, cI, 0)).narrow hp1⟩
    have hS1 : va_S (Pl (PC (L, xs)) V) s.heap H' [] := ⟨hS.1, fun q h1 h2 => hS.2.1 q h1 (Nat.not_le.mpr h1), fun x hx => by cases hx⟩
    refine ML_law1 N0 (L, xs) (fun x6 x24 w => fL_law2 N0 (L, xs) x6 x24 (zr w)) w0C 1 wZ rfl hlaw p l e room_1 s m #[Value.ref b] below meth c V H' [] 80 1444 la' _ ⟨hx, hb, hml, hown, hts, e1, by decide, by decide, by decide, by decide⟩ (by rw [hV1]; exact hP) hS1 hlV (fun pc2 ls2 st2 w2 H2 locs2 la2 hq2 hP2 hS2 hl2 => ?_)
    have hfg2 : ∀ q ∈ locs2, s.heap.size ≤ q.base := fun q hq => hp1 _ (hS2.2.2 q hq)
    rcases hq2 with ⟨rfl, ⟨v1, ty1, hv1, rfl, hdc, -, -⟩ | ⟨hv1, -⟩⟩ | ⟨rfl, rfl, x6, x24, rfl, hlaw2⟩
    · obtain rfl : (1 : Int32) = v1 := by injection (Option.some.inj hv1)
      refine va_forget hfg2 ?_
      refine W.widen (k := 600000) (n := 7302250) (Nat.le_of_ble_eq_true rfl) (Nat.le_of_ble_eq_true rfl) ?_
      exact lw_ret hx hb hr hlocks hdc
    · cases hv1
    · refine va_forget hfg2 ?_
      have hD2 : va_D (fun q => s.heap.size ≤ q) (wl (PC (L, xs)) V w2) := ⟨(wl_D e1.2.1 w2).1, fun k q hk => hp1 _ ((wl_D e1.2.1 w2).2 k q hk)⟩
      have hlG : hasL (V0 D (cB, cI, 0)) la2 33 [some (.ref b), some (.ref (V.1 0)), none, none, none, some (.ref (V.1 79)), some (.int x6), none, none, none, none, none, none, none, none, none, none, none, none, none, none, none, none, none, some (.int x24), none, none, none, none, none, none, none, none] := by
        refine hasL_cv hl2 (fun i v0 hi => ?_)
        exact ls_mid (by rw [hV]; exact hex3) i v0 hi
      refine law_row D (cB, cI, 0) b (V.1 0) (V.1 79) x6 x24 (wl (PC (L, xs)) V w2) p l e room_1 s m #[Value.ref b] below meth c (fun q => s.heap.size ≤ q) H2 [] la2 _ ⟨hx, hb, hml, hown, hts, hK, hnest, by decide, by decide, by decide, by decide, fun q h => h, fun h => by cases h⟩ (by rw [← hV1]; exact hP2) hD2 ⟨hS2.1, fun q h1 h2 => hS2.2.1 q h1 (fun h => h2 (hp1 q h)), fun x hx => by cases hx⟩ hlG (fun pc3 ls3 st3 ws3 cells3 slots3 H3 locs3 la3 hq3 hP3 hD3 hS3 hl3 => ?_)
      obtain ⟨rfl, rfl, rfl, rfl, q6, rfl, hws⟩ := hq3
      refine va_forget (fun q hq => hS3.2.2 q hq) ?_
      obtain ⟨V', hV'⟩ : ∃ V' : EV, V' = (fun k => if k = 80 then q6 else V.1 k, V.2) := ⟨_, rfl⟩
      have hVlt : ∀ k, k < 80 → V'.1 k = V.1 k := fun k hk => by rw [hV']; exact if_neg (by omega)
      have hV80 : V'.1 80 = q6 := by rw [hV']; rfl
      have hVs : V'.2 = V.2 := by rw [hV']
      have hwl := wl_ends (S := (L, xs)) (w := w2) hVlt hV80 (congrArg (fun z => z.2.1) hVs)
      rw [hV2] at hwl
      have hwl' : wl (PC (L, xs)) V w2 ++ [(q6, .inl (cI, 6, .inl (fun _ => 0)))] = wl (PE (L, xs)) V' (zr w2) := hwl.symm
      rw [hwl'] at hws
      rw [hws] at hP3 hD3
      have hp3 : ∀ q, Pl (PE (L, xs)) V' q → s.heap.size ≤ q := fun q h => by
        obtain ⟨k, x, h1, rfl⟩ := pl_at (w := zr w2) h
        exact hD3.2 k x h1
      have e3 : EnvOK (PE (L, xs)) V' s s.heap := ⟨by rw [hV', hV]; exact hK, inj_of hD3, hnest, by
        have h9 := (hst V'.1 D (cB, cI, 0)).narrow hp3
        have h8 : (V'.1, D, (cB, cI, (0 : ClassId)), ex) = V' := by rw [hV', hV]
        rw [h8] at h9
        exact h9⟩
      have hS4 : va_S (Pl (PE (L, xs)) V') s.heap H3 [] := ⟨hS3.1, fun q h1 h2 => hS3.2.1 q h1 (Nat.not_le.mpr h1), fun x hx => by cases hx⟩
      have hlE : hasL V' la3 33 [some (.retAddr 3), some (.ref 0), none, none, none, some (.ref 79), some (.int x6), none, none, none, none, none, none, none, none, none, none, none, none, none, none, none, none, none, some (.int x24), some (.ref 80), none, none, none, none, none, none, none] := by
        refine hasL_cv hl3 (fun i v0 hi => ?_)
        exact ls_last (by rw [hVs, hV]; exact hex3) (hVlt 0 (by omega)) (hVlt 79 (by omega)) hV80 i v0 hi
      refine ML_law2 N0 (L, xs) x6 x24 (zr w2) 1 wZ rfl hlaw2 p l e room_1 s m #[Value.ref b] below meth c V' H3 [] 81 1450 la3 _ ⟨hx, hb, hml, hown, hts, e3, by decide, by decide, by decide, by decide⟩ (by rw [hVs, hV1]; exact hP3) hS4 hlE (fun pc5 ls5 st5 w5 H5 locs5 la5 hq5 hP5 hS5 hl5 => ?_)
      rcases hq5 with ⟨rfl, ⟨v1, ty1, hv1, rfl, hdc, -, -⟩ | ⟨hv1, -⟩⟩
      · obtain rfl : (1 : Int32) = v1 := by injection (Option.some.inj hv1)
        refine va_forget (fun q hq => hp3 _ (hS5.2.2 q hq)) ?_
        refine W.widen (k := 600000) (n := 7302250) (Nat.le_of_ble_eq_true rfl) (Nat.le_of_ble_eq_true rfl) ?_
        exact lw_ret hx hb hr hlocks hdc
      · cases hv1

