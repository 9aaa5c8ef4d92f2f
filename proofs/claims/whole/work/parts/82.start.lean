theorem wkn_RX0 : Cond.instantiable RX0 1 ∈ TBG := tbg_in (List.mem_of_getElem? (i := 387) (by decide +kernel)) rfl
theorem wkn_RX1 : Cond.instantiable RX1 9 ∈ TBG := tbg_in (List.mem_of_getElem? (i := 110) (by decide +kernel)) rfl
theorem wkn_RX2 : Cond.instantiable RX2 9 ∈ TBG := tbg_in (List.mem_of_getElem? (i := 352) (by decide +kernel)) rfl
theorem wkn_RX3 : Cond.instantiable RX3 7 ∈ TBG := tbg_in (List.mem_of_getElem? (i := 290) (by decide +kernel)) rfl
theorem wkn_RX4 : Cond.instantiable RX4 6 ∈ TBG := tbg_in (List.mem_of_getElem? (i := 116) (by decide +kernel)) rfl
theorem wkn_RX5 : Cond.instantiable RX5 6 ∈ TBG := tbg_in (List.mem_of_getElem? (i := 325) (by decide +kernel)) rfl
theorem wkn_RX6 : Cond.instantiable RX6 3 ∈ TBG := tbg_in (List.mem_of_getElem? (i := 397) (by decide +kernel)) rfl
theorem wkn_RX7 : Cond.instantiable RX7 6 ∈ TBG := tbg_in (List.mem_of_getElem? (i := 417) (by decide +kernel)) rfl
theorem wkn_RX8 : Cond.instantiable RX8 8 ∈ TBG := tbg_in (List.mem_of_getElem? (i := 253) (by decide +kernel)) rfl
theorem wkn_RX9 : Cond.instantiable RX9 6 ∈ TBG := tbg_in (List.mem_of_getElem? (i := 447) (by decide +kernel)) rfl
theorem wkn_RX10 : Cond.instantiable RX10 8 ∈ TBG := tbg_in (List.mem_of_getElem? (i := 207) (by decide +kernel)) rfl
theorem wkn_RX11 : Cond.instantiable RX11 14 ∈ TBG := tbg_in (List.mem_of_getElem? (i := 102) (by decide +kernel)) rfl
theorem wkn_RX12 : Cond.instantiable RX12 54 ∈ TBG := tbg_in (List.mem_of_getElem? (i := 1093) (by decide +kernel)) rfl
theorem wlc_7 : Cond.classLink RL 7 RX11 ∈ TBG := tbg_in (List.mem_of_getElem? (i := 101) (by decide +kernel)) rfl
theorem wlc_10 : Cond.classLink RL 10 RX12 ∈ TBG := tbg_in (List.mem_of_getElem? (i := 1092) (by decide +kernel)) rfl
theorem wlm_9 : Cond.methodLink RL 9 yX11_init ∈ TBG := tbg_in (List.mem_of_getElem? (i := 103) (by decide +kernel)) rfl
theorem wlm_12 : Cond.methodLink RL 12 yX12_init ∈ TBG := tbg_in (List.mem_of_getElem? (i := 1094) (by decide +kernel)) rfl
theorem wli_RX11 : Cond.instanceMethod yX11_init ∈ TBG := tbg_in (List.mem_of_getElem? (i := 104) (by decide +kernel)) rfl
theorem wlk_RX11 : Cond.code yX11_init cX11_init 1 none ∈ TBG := tbg_in (List.mem_of_getElem? (i := 105) (by decide +kernel)) rfl
theorem wln_RX11 : Cond.initialized RX11 ∈ TBG := tbg_in (List.mem_of_getElem? (i := 82) (by decide +kernel)) rfl
theorem wli_RX12 : Cond.instanceMethod yX12_init ∈ TBG := tbg_in (List.mem_of_getElem? (i := 1095) (by decide +kernel)) rfl
theorem wlk_RX12 : Cond.code yX12_init cX12_init 1 none ∈ TBG := tbg_in (List.mem_of_getElem? (i := 1096) (by decide +kernel)) rfl
theorem wln_RX12 : Cond.initialized RX12 ∈ TBG := tbg_in (List.mem_of_getElem? (i := 94) (by decide +kernel)) rfl
theorem wla_byte : Cond.arrayClass .byte ∈ TBG := tbg_in (List.mem_of_getElem? (i := 288) (by decide +kernel)) rfl
theorem wla_int : Cond.arrayClass .int ∈ TBG := tbg_in (List.mem_of_getElem? (i := 164) (by decide +kernel)) rfl
theorem wla_long : Cond.arrayClass .long ∈ TBG := tbg_in (List.mem_of_getElem? (i := 1261) (by decide +kernel)) rfl
theorem arr_known {ty : FieldType} {args : Array Value} {s : State} (h : (Cond.arrayClass ty).before args s = true) : ∃ cA, ArrOfT s cA ty ∧ s.vm.findClass ("[" ++ ty.toString) = some cA := by
  obtain ⟨c, k, comp, h1, h2, h3⟩ := Cond.arrayClass_spec (first := s) (o := none) (idx := []) h
  exact ⟨c, fun n z => ⟨fun k h => (by cases h), k, h2, comp, h3⟩, h1⟩
theorem cls_known {args : Array Value} {s : State} (hts : ∀ w ∈ TBG, w.before args s = true) : ∃ D : va_G, ∀ (c : Nat) (q : vw_C), vwCl[c]? = some q → u_Kn s q.1 q.2.1 q.2.2 (D.1 c) (D.2 c) := by
  have h : ∀ c : Nat, ∃ z : ClassId × (Nat → Nat), ∀ q : vw_C, vwCl[c]? = some q → u_Kn s q.1 q.2.1 q.2.2 z.1 z.2 := by
    have h0 : ∀ c : Nat, ∃ (a : ClassId) (f : Nat → Nat), ∀ q : vw_C, vwCl[c]? = some q → u_Kn s q.1 q.2.1 q.2.2 a f := by
      intro c
      match c with
      | 0 => obtain ⟨a, f, h⟩ := u_known (C := RX0) (T := TX0) (N := 1) (n := 1) hts (cf_X0).2.1 (hts _ wkn_RX0); exact ⟨a, f, fun q hq => by cases hq; exact h⟩
      | 1 => obtain ⟨a, f, h⟩ := u_known (C := RX1) (T := TX1) (N := 9) (n := 9) hts (cf_X1).2.1 (hts _ wkn_RX1); exact ⟨a, f, fun q hq => by cases hq; exact h⟩
      | 2 => obtain ⟨a, f, h⟩ := u_known (C := RX2) (T := TX2) (N := 9) (n := 9) hts (cf_X2).2.1 (hts _ wkn_RX2); exact ⟨a, f, fun q hq => by cases hq; exact h⟩
      | 3 => obtain ⟨a, f, h⟩ := u_known (C := RX3) (T := TX3) (N := 7) (n := 7) hts (cf_X3).2.1 (hts _ wkn_RX3); exact ⟨a, f, fun q hq => by cases hq; exact h⟩
      | 4 => obtain ⟨a, f, h⟩ := u_known (C := RX4) (T := TX4) (N := 6) (n := 6) hts (cf_X4).2.1 (hts _ wkn_RX4); exact ⟨a, f, fun q hq => by cases hq; exact h⟩
      | 5 => obtain ⟨a, f, h⟩ := u_known (C := RX5) (T := TX5) (N := 6) (n := 6) hts (cf_X5).2.1 (hts _ wkn_RX5); exact ⟨a, f, fun q hq => by cases hq; exact h⟩
      | 6 => obtain ⟨a, f, h⟩ := u_known (C := RX6) (T := TX6) (N := 3) (n := 3) hts (cf_X6).2.1 (hts _ wkn_RX6); exact ⟨a, f, fun q hq => by cases hq; exact h⟩
      | 7 => obtain ⟨a, f, h⟩ := u_known (C := RX7) (T := TX7) (N := 6) (n := 6) hts (cf_X7).2.1 (hts _ wkn_RX7); exact ⟨a, f, fun q hq => by cases hq; exact h⟩
      | 8 => obtain ⟨a, f, h⟩ := u_known (C := RX8) (T := TX8) (N := 8) (n := 8) hts (cf_X8).2.1 (hts _ wkn_RX8); exact ⟨a, f, fun q hq => by cases hq; exact h⟩
      | 9 => obtain ⟨a, f, h⟩ := u_known (C := RX9) (T := TX9) (N := 6) (n := 6) hts (cf_X9).2.1 (hts _ wkn_RX9); exact ⟨a, f, fun q hq => by cases hq; exact h⟩
      | 10 => obtain ⟨a, f, h⟩ := u_known (C := RX10) (T := TX10) (N := 8) (n := 8) hts (cf_X10).2.1 (hts _ wkn_RX10); exact ⟨a, f, fun q hq => by cases hq; exact h⟩
      | 11 => obtain ⟨a, f, h⟩ := u_known (C := RX11) (T := TX11) (N := 14) (n := 14) hts (cf_X11).2.1 (hts _ wkn_RX11); exact ⟨a, f, fun q hq => by cases hq; exact h⟩
      | 12 => obtain ⟨a, f, h⟩ := u_known (C := RX12) (T := TX12) (N := 54) (n := 54) hts (cf_X12).2.1 (hts _ wkn_RX12); exact ⟨a, f, fun q hq => by cases hq; exact h⟩
      | n + 13 => exact ⟨0, fun _ => 0, fun q hq => by simp [vwCl] at hq⟩
    intro c
    obtain ⟨a, f, h⟩ := h0 c
    exact ⟨(a, f), h⟩
  obtain ⟨F, hF⟩ := Classical.axiomOfChoice h
  exact ⟨(fun c => (F c).1, fun c => (F c).2), hF⟩
def tmS (i : Nat) : Term := .string "PressDays$Text" (keyS.getD i 0)
def flatN : List Cond := flatC (Jvm.Cond.and given_1 narrow_1)
theorem fl_ex : ∀ i : Nat, i < 12 → Cond.exactly (tmS i) "java/lang/String" ∈ flatN := by decide +kernel
theorem fl_co : ∀ i : Nat, i < 12 → Cond.eq (.field (tmS i) "java/lang/String" "coder" "B") (.int 0) ∈ flatN := by decide +kernel
theorem fl_ar : ∀ i : Nat, i < 12 → Cond.arrayOf (.field (tmS i) "java/lang/String" "value" "[B") .byte ∈ flatN := by decide +kernel
theorem fl_le : ∀ i : Nat, i < 12 → Cond.eq (.length (.field (tmS i) "java/lang/String" "value" "[B")) (.int (Int32.ofNat (lenS.getD i 0))) ∈ flatN := by decide +kernel
theorem fl_el : ∀ i : Nat, i < 12 → ∀ j : Nat, j < lenS.getD i 0 → Cond.eq (.elem (.field (tmS i) "java/lang/String" "value" "[B") (.int (Int32.ofNat j))) (.int ((bytS.getD i []).getD j 0)) ∈ flatN := by decide +kernel
theorem fl_ne : ∀ i : Nat, i < 12 → ∀ j : Nat, j < 12 → i ≠ j → (Cond.not (Cond.eq (tmS i) (tmS j)) ∈ flatN ∨ Cond.not (Cond.eq (tmS j) (tmS i)) ∈ flatN) := by decide +kernel
theorem fl_sr : ∀ i : Nat, i < 12 → Cond.stringRef "PressDays$Text" (keyS.getD i 0) (txtS.getD i "") ∈ lw_tbl := by decide +kernel
theorem tab4 {args : Array Value} {s : State} {n : String} {A : Nat → Prop} {f : Nat → Int32} (hl : (Cond.laysStatic "PressDays" n "[I").before args s = true) (hi : (Cond.initialized "PressDays").before args s = true) (harr : (Cond.arrayOf (.static "PressDays" n "[I") .int).before args s = true) (hlen : (Cond.eq (.length (.static "PressDays" n "[I")) (.int 4)).before args s = true) (hel : ∀ j : Nat, j < 4 → (Cond.eq (.elem (.static "PressDays" n "[I") (.int (Int32.ofNat j))) (.int (f j))).before args s = true) (hA : ∀ a : Nat, a < s.heap.size → ¬ A a) : ∃ t : Nat, va_Z "PressDays" n "[I" (.ref t) A s s.heap ∧ va_T .int t 4 (fun j => .int (f j)) A s s.heap := by
  obtain ⟨t, h1, h2⟩ := va_Tof (N := 4) (f := fun j => .int (f j)) (A := A) (by decide) harr (va_eqt hlen) (fun j hj => va_eqt (hel j hj)) hA
  exact ⟨t, va_Zof hl hi h1 hA, h2⟩
theorem fl_tl : Cond.arrayOf (.static "PressDays" "LAW_LEAST" "[I") .int ∈ flatN ∧ Cond.eq (.length (.static "PressDays" "LAW_LEAST" "[I")) (.int 4) ∈ flatN ∧ (∀ j : Nat, j < 4 → Cond.eq (.elem (.static "PressDays" "LAW_LEAST" "[I") (.int (Int32.ofNat j))) (.int (leastS j)) ∈ flatN) := by decide +kernel
theorem fl_tm : Cond.arrayOf (.static "PressDays" "LAW_MOST" "[I") .int ∈ flatN ∧ Cond.eq (.length (.static "PressDays" "LAW_MOST" "[I")) (.int 4) ∈ flatN ∧ (∀ j : Nat, j < 4 → Cond.eq (.elem (.static "PressDays" "LAW_MOST" "[I") (.int (Int32.ofNat j))) (.int (mostS j)) ∈ flatN) := by decide +kernel
theorem fl_cs : Cond.eq (.static "java/lang/String" "COMPACT_STRINGS" "Z") (.int 1) ∈ flatN := by decide +kernel
theorem fl_si : Cond.isRef (.static "jdk/internal/util/Preconditions" "SIOOBE_FORMATTER" "Ljava/util/function/BiFunction;") ∈ flatN := by decide +kernel
/-- what lies outside the pools, at the law's entry -/
theorem stat_start {s : State} {b : Nat} (hall : ∀ w ∈ lw_tbl, w.before #[Value.ref b] s = true) (hgv : (Jvm.Cond.and given_1 narrow_1).before #[Value.ref b] s = true) : ∃ ex : (Nat → Nat) × Value, ∀ (ad : Nat → Nat) (D : va_G) (cc : C3), StatOK (fun q => s.heap.size ≤ q) (ad, D, cc, ex) s s.heap := by
  have hf : ∀ c ∈ flatN, c.before #[Value.ref b] s = true := flat_of_before _ hgv
  have hA : ∀ a : Nat, a < s.heap.size → ¬ (fun q => s.heap.size ≤ q) a := fun a h => Nat.not_le.mpr h
  have hpd : (Cond.initialized "PressDays").before #[Value.ref b] s = true := hall _ (List.mem_of_getElem? (i := 82) (by decide +kernel))
  obtain ⟨t1, a1, a2⟩ := tab4 (n := "LAW_LEAST") (f := leastS) (A := fun q => s.heap.size ≤ q) (hall _ (List.mem_of_getElem? (i := 607) (by decide +kernel))) hpd (hf _ fl_tl.1) (hf _ fl_tl.2.1) (fun j hj => hf _ (fl_tl.2.2 j hj)) hA
  obtain ⟨t2, b1, b2⟩ := tab4 (n := "LAW_MOST") (f := mostS) (A := fun q => s.heap.size ≤ q) (hall _ (List.mem_of_getElem? (i := 609) (by decide +kernel))) hpd (hf _ fl_tm.1) (hf _ fl_tm.2.1) (fun j hj => hf _ (fl_tm.2.2 j hj)) hA
  have c1 : va_Z "java/lang/String" "COMPACT_STRINGS" "Z" (.int 1) (fun q => s.heap.size ≤ q) s s.heap := va_Zof (hall _ (List.mem_of_getElem? (i := 561) (by decide +kernel))) (hall _ (List.mem_of_getElem? (i := 95) (by decide +kernel))) (va_eqi (hf _ fl_cs)) hA
  have d1 : va_Zq "jdk/internal/util/Preconditions" "SIOOBE_FORMATTER" "Ljava/util/function/BiFunction;" (fun q => s.heap.size ≤ q) s s.heap := va_Zqof (hall _ (List.mem_of_getElem? (i := 577) (by decide +kernel))) (hall _ (List.mem_of_getElem? (i := 97) (by decide +kernel))) (hf _ fl_si) hA
  obtain ⟨x, hx1, hx2⟩ : ∃ x : Value, va_Z "jdk/internal/util/Preconditions" "SIOOBE_FORMATTER" "Ljava/util/function/BiFunction;" x (fun q => s.heap.size ≤ q) s s.heap ∧ (x = .null ∨ ∃ t, x = .ref t) := by
    rcases d1 with h | ⟨t, h⟩
    · exact ⟨.null, h, Or.inl rfl⟩
    · exact ⟨.ref t, h, Or.inr ⟨t, rfl⟩⟩
  obtain ⟨adK, adV, e1, e2⟩ := vk_Sof (args := #[Value.ref b]) (s := s) (N := 12) (tm := tmS) (len := lenS) (byt := bytS) (A := fun q => s.heap.size ≤ q) (by decide) (fun i hi => hf _ (fl_ex i hi)) (fun i hi => hf _ (fl_co i hi)) (fun i hi => hf _ (fl_ar i hi)) (fun i hi => hf _ (fl_le i hi)) (fun i hi j hj => hf _ (fl_el i hi j hj)) (fun i j hi hj hij => (fl_ne i hi j hj hij).imp (hf _) (hf _)) hA
  refine ⟨(fun k => if k = 1 then t1 else if k = 2 then t2 else if k < 30 then adK (k - 10) else adV (k - 30), x), fun ad D cc => ⟨⟨a1, a2⟩, ⟨b1, b2⟩, c1, ⟨hx1, hx2⟩, ?_, fun i hi => ?_⟩⟩
  · refine ⟨fun i hi => ?_, fun i j hi hj h => ?_⟩
    · have g1 : exA (ad, D, cc, (fun k => if k = 1 then t1 else if k = 2 then t2 else if k < 30 then adK (k - 10) else adV (k - 30), x)) (10 + i) = adK i := by
        show (if 10 + i = 1 then t1 else if 10 + i = 2 then t2 else if 10 + i < 30 then adK (10 + i - 10) else adV (10 + i - 30)) = adK i
        rw [if_neg (by omega), if_neg (by omega), if_pos (by omega), Nat.add_sub_cancel_left]
      have g2 : exA (ad, D, cc, (fun k => if k = 1 then t1 else if k = 2 then t2 else if k < 30 then adK (k - 10) else adV (k - 30), x)) (30 + i) = adV i := by
        show (if 30 + i = 1 then t1 else if 30 + i = 2 then t2 else if 30 + i < 30 then adK (30 + i - 10) else adV (30 + i - 30)) = adV i
        rw [if_neg (by omega), if_neg (by omega), if_neg (by omega), Nat.add_sub_cancel_left]
      dsimp only
      rw [g1, g2]
      exact e1.1 i hi
    · have g1 : ∀ i, i < 12 → exA (ad, D, cc, (fun k => if k = 1 then t1 else if k = 2 then t2 else if k < 30 then adK (k - 10) else adV (k - 30), x)) (10 + i) = adK i := by
        intro i hi
        show (if 10 + i = 1 then t1 else if 10 + i = 2 then t2 else if 10 + i < 30 then adK (10 + i - 10) else adV (10 + i - 30)) = adK i
        rw [if_neg (by omega), if_neg (by omega), if_pos (by omega), Nat.add_sub_cancel_left]
      dsimp only at h
      rw [g1 i hi, g1 j hj] at h
      exact e1.2 i j hi hj h
  · have g1 : exA (ad, D, cc, (fun k => if k = 1 then t1 else if k = 2 then t2 else if k < 30 then adK (k - 10) else adV (k - 30), x)) (10 + i) = adK i := by
      show (if 10 + i = 1 then t1 else if 10 + i = 2 then t2 else if 10 + i < 30 then adK (10 + i - 10) else adV (10 + i - 30)) = adK i
      rw [if_neg (by omega), if_neg (by omega), if_pos (by omega), Nat.add_sub_cancel_left]
    rw [g1]
    exact vk_R.of (hall _ (fl_sr i hi)) (e2 i hi)
theorem inj_of {P : PI} {V : EV} {w : AW} {A : Nat → Prop} (h : va_D A (wl P V w)) : ∀ i j, i < P.1.length → j < P.1.length → V.1 i = V.1 j → i = j := fun i j hi hj e => h.1 i j _ _ (wl_at (List.getElem?_eq_getElem hi)) (wl_at (List.getElem?_eq_getElem hj)) e
theorem pl_at {P : PI} {V : EV} {w : AW} {q : Nat} (h : Pl P V q) : ∃ (k : Nat) (x : Nat × va_E), (wl P V w)[k]? = some x ∧ x.1 = q := by
  obtain ⟨k, hk, rfl⟩ := h
  exact ⟨k, _, wl_at (List.getElem?_eq_getElem hk), rfl⟩
/-- the law's first rows: both objects are made -/
theorem law_made (D : va_G) (cc : C3) (b : Nat) : G D cc RL cL_law 4 2000 104 2543 false 0 [some (.ref b), none, none, none] [] [] 0 0 (fun pc ls st ws cells slots => pc = 18 ∧ st = [] ∧ cells = 104 ∧ slots = 2543 ∧ ∃ (q1 q2 : Nat) (u1 u2 : List Nat), ls = [some (.ref b), some (.ref q1), some (.ref q2), some (.int 0)] ∧ ws = wz_RX11 D cc q1 u1 ++ wz_RX12 D cc q2 u2) := by
  refine G_new (fs := [.null, .null, .null, .null, .int 0, .null, .null, .null, .null, .null, .null, .null, .null, .null]) cf_X11 dL_law_0 wlc_7 wkn_RX11 wln_RX11 (by decide +kernel) (by decide) (by decide) (fun q1 => ?_)
  refine G_dup dL_law_3 ?_
  refine G_ctor (n := 0) (as := []) (wr := []) (rest := [.ref q1]) ct_RX11 dL_law_4 wlm_9 wli_RX11 wln_RX11 wlk_RX11 rfl ⟨by decide, by decide, by decide +kernel⟩ (by decide) (by decide) rfl rfl rfl (Nat.le_of_ble_eq_true rfl) (by decide) (by decide) (fun u1 => ?_)
  refine G_astore_n (ls' := [some (.ref b), some (.ref q1), none, none]) dL_law_7 rfl rfl rfl ?_
  refine G_new (fs := [.int 0, .null, .null, .null, .null, .int 0, .int 0, .int 0, .int 0, .null, .null, .null, .int 0, .null, .int 0, .null, .int 0, .int 0, .int 0, .int 0, .long 0, .int 0, .int 0, .null, .null, .int 0, .null, .null, .null, .int 0, .int 0, .null, .int 0, .int 0, .null, .null, .null, .int 0, .null, .null, .null, .null, .null, .null, .int 0, .int 0, .int 0, .null, .int 0, .int 0, .int 0, .null, .int 0, .null]) cf_X12 dL_law_8 wlc_10 wkn_RX12 wln_RX12 (by decide +kernel) (by decide) (by decide) (fun q2 => ?_)
  refine G_dup dL_law_11 ?_
  refine G_ctor (n := 0) (as := []) (wr := wz_RX11 D cc q1 u1) (rest := [.ref q2]) ct_RX12 dL_law_12 wlm_12 wli_RX12 wln_RX12 wlk_RX12 rfl ⟨by decide, by decide, by decide +kernel⟩ (by decide) (by decide) rfl rfl rfl (Nat.le_of_ble_eq_true rfl) (by decide) (by decide) (fun u2 => ?_)
  refine G_astore_n (ls' := [some (.ref b), some (.ref q1), some (.ref q2), none]) dL_law_15 rfl rfl rfl ?_
  refine G_iconst 0 dL_law_16 ic_0 ?_
  refine G_istore_n (ls' := [some (.ref b), some (.ref q1), some (.ref q2), some (.int 0)]) dL_law_17 rfl rfl rfl ?_
  exact G.done ⟨rfl, rfl, rfl, rfl, q1, q2, u1, u2, rfl, rfl⟩
set_option maxRecDepth 10000 in
set_option maxHeartbeats 4000000 in
/-- from the entry, for every script, the law comes to its end with true -/
theorem whole_start {p : Program} {e : Env} {s : State} {m : MethodId} {below : List Frame} {meth : Method} {c : Code} (l : Launch) (hflags : l.flags = flags0) {b L : Nat} {xs : Nat → Int32} (hL : L ≤ 3584) (C0 : lw_At p s m meth c b L xs) : W p l e room_1 s m #[Value.ref b] below meth c s.heap [] 0 0 (lw_Z below #[Value.ref b] s) (entryFrame m ([Value.ref b] : List Value).toArray 4) := by
  obtain ⟨hx, hb, hr, hml, hown, hall, hX, hbl, hlocks, hgv⟩ := id C0
  have hts : ∀ w ∈ TBG, w.before #[Value.ref b] s = true := fun w h => hall w (List.mem_filter.mp h).1
  have hnest : ∀ w ∈ NWL, va_Nw w s := fun w h => va_Nw.of (by
    have hw2 := (List.mem_filter.mp h).2
    cases w <;> first | rfl | exact absurd hw2 (by simp [nestW])) (hall w (List.mem_filter.mp h).1)
  obtain ⟨D, hD0⟩ := cls_known hts
  obtain ⟨cB, b1, b2⟩ := arr_known (hts _ wla_byte)
  obtain ⟨cI, i1, i2⟩ := arr_known (hts _ wla_int)
  obtain ⟨cJ, j1, j2⟩ := arr_known (hts _ wla_long)
  have hK : va_K D vwCl (tysC (cB, cI, cJ)) s := by
    refine ⟨hD0, fun k q hq => ?_⟩
    match k, hq with
    | 0, hq => cases hq; exact ⟨b1, b2⟩
    | 1, hq => cases hq; exact ⟨i1, i2⟩
    | 2, hq => cases hq; exact ⟨j1, j2⟩
    | k + 3, hq => simp [tysC] at hq
  obtain ⟨ex, hst⟩ := stat_start hall hgv
  have hl := lv_entry ([.ref b]) (n := 4) (Nat.le_of_ble_eq_true rfl)
  rw [lg_entry_eq]
  refine law_made D (cB, cI, cJ) b p l e room_1 s m #[Value.ref b] below meth c (fun q => s.heap.size ≤ q) s.heap [] _ _ ⟨hx, hb, hml, hown, hts, hK, hnest, by decide, by decide, by decide, by decide, fun q h => h, fun h => by cases h⟩ (fun k q h => by simp at h) ⟨fun i j p q h => by simp at h, fun k q h => by simp at h⟩ va_S.rf ⟨hl.1, hl.2.1, fun i v hi => ?_⟩ (fun pc' ls' st' ws' cells' slots' H' locs' la' hq hP hD hS hl' => ?_)
  · match i, hi with
    | 0, hi => cases hi; exact hl.2.2 (0, .ref b) List.mem_cons_self
    | 1, hi => cases hi
    | 2, hi => cases hi
    | 3, hi => cases hi
    | i + 4, hi => simp at hi
  · obtain ⟨rfl, rfl, rfl, rfl, q1, q2, u1, u2, rfl, rfl⟩ := hq
    rw [← wz_C D (cB, cI, cJ) q1 u1 ex, ← wz_M D (cB, cI, cJ) q2 u2 ex] at hP hD
    have hDC := hD.left
    have hDM : va_D (fun q => s.heap.size ≤ q) (wl PM (fun k => (q2 :: u2).getD k 0, D, (cB, cI, cJ), ex) w0M) := ⟨fun i j p q h1 h2 h => by
      have := hD.1 ((wl PC (fun k => (q1 :: u1).getD k 0, D, (cB, cI, cJ), ex) w0C).length + i) ((wl PC (fun k => (q1 :: u1).getD k 0, D, (cB, cI, cJ), ex) w0C).length + j) p q (by rw [List.getElem?_append_right (by omega)]; simpa using h1) (by rw [List.getElem?_append_right (by omega)]; simpa using h2) h
      omega, fun k q hk => hD.2 ((wl PC (fun k => (q1 :: u1).getD k 0, D, (cB, cI, cJ), ex) w0C).length + k) q (by rw [List.getElem?_append_right (by omega)]; simpa using hk)⟩
    have hp1 : ∀ q, Pl PC (fun k => (q1 :: u1).getD k 0, D, (cB, cI, cJ), ex) q → s.heap.size ≤ q := fun q h => by
      obtain ⟨k, x, h1, rfl⟩ := pl_at (w := w0C) h
      exact hDC.2 k x h1
    have hp2 : ∀ q, Pl PM (fun k => (q2 :: u2).getD k 0, D, (cB, cI, cJ), ex) q → s.heap.size ≤ q := fun q h => by
      obtain ⟨k, x, h1, rfl⟩ := pl_at (w := w0M) h
      exact hDM.2 k x h1
    have hdis : ∀ q, Pl PC (fun k => (q1 :: u1).getD k 0, D, (cB, cI, cJ), ex) q → ¬ Pl PM (fun k => (q2 :: u2).getD k 0, D, (cB, cI, cJ), ex) q := fun q h h' => by
      obtain ⟨k, x, h1, h2⟩ := pl_at (w := w0C) h
      obtain ⟨k', x', h1', h2'⟩ := pl_at (w := w0M) h'
      exact hD.apart h1 h1' (h2.trans h2'.symm)
    have e1 : EnvOK PC (fun k => (q1 :: u1).getD k 0, D, (cB, cI, cJ), ex) s s.heap := ⟨hK, inj_of hDC, hnest, (hst _ D (cB, cI, cJ)).narrow hp1⟩
    have e2 : EnvOK PM (fun k => (q2 :: u2).getD k 0, D, (cB, cI, cJ), ex) s s.heap := ⟨hK, inj_of hDM, hnest, (hst _ D (cB, cI, cJ)).narrow hp2⟩
    exact LJ_loop (V1 := (fun k => (q1 :: u1).getD k 0, D, (cB, cI, cJ), ex)) (V2 := (fun k => (q2 :: u2).getD k 0, D, (cB, cI, cJ), ex)) hL (L + 8) 0 (by omega) (by omega) w0C w0M Rel_0 0 nI_0.symm p l e s m below meth c H' locs' la' ⟨⟨hx, hb, hml, hown, hts⟩, ⟨e1, e2⟩, ⟨hdis, hp1, hp2⟩, hX, hbl, hr, hlocks⟩ ⟨hP.left, hP.right, hS⟩ hl'
