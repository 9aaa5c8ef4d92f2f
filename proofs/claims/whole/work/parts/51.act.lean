/-! 51: acts -/
def uV (k s : Nat) : Int32 := (fX11_isUnder (nI k) (nI s) (fun _ _ => 0, fun _ _ => 0)).getD 0
def AC (k : Nat) (n a f : Int32) (w : AW) : Prop := w.1 74 0 = nI k ∧ w.1 74 1 = n ∧ w.1 74 2 = a ∧ w.1 74 3 = f
def AM (k : Nat) (n a f : Int32) (w : AW) : Prop := w.1 0 44 = nI k ∧ w.1 0 45 = n ∧ w.1 0 46 = a ∧ w.1 0 49 = f
def TrC (tr : List Nat) (w : AW) : Prop := w.1 74 5 = nI tr.length ∧ rowL (w.1 75) tr
def TrM (tr : List Nat) (w : AW) : Prop := w.1 0 48 = nI tr.length ∧ rowL (w.1 25) tr
def TXc (o k : Nat) : Bool := o == 75 || (o == 74 && (k == 5 || k == 3))
def TXm (o k : Nat) : Bool := o == 25 || (o == 0 && (k == 48 || k == 49))
theorem is_ev {k s : Nat} {n a f : Int32} {w : AW} (h : AC k n a f w) (hk : k < 6) (hs : s < 6) : fX9_is (nI s) w = some (uV k s) := by
  obtain ⟨u1, -⟩ := under_eq k hk s hs
  obtain ⟨r, hu⟩ := under_some k s
  have hb : isb r = true := by
    unfold fX11_isUnder at hu
    repeat' split at hu
    all_goals (injection hu with hu; subst hu; rfl)
  simp only [fX9_is, h.1, u1, hu, bd_some', hb, gd_true, uV, Option.getD_some]
theorem runs_C {k b : Nat} {n a f : Int32} {tr : List Nat} {w : AW} (h : AC k n a f w) (ht : TrC tr w) (hl : tr.length < 30) : ∃ w', fX9_runs (nI b) w = some w' ∧ Fr TXc w w' ∧ AC k n a f w' ∧ TrC (tr ++ [b]) w' := by
  obtain ⟨h1, h2, h3, h4⟩ := h
  obtain ⟨t1, t2⟩ := ht
  refine ⟨setI (setI w 75 tr.length (nI b)) 74 5 (nI (tr.length + 1)), ?_, (Fr.set (by simp [TXc])).tr (Fr.set (by simp [TXc])), ⟨by simp [setI1, h1], by simp [setI1, h2], by simp [setI1, h3], by simp [setI1, h4]⟩, by simp [setI1], rowL_snoc (fun i v hv => ?_) (by simp [setI1])⟩
  · simp only [fX9_runs, t1]
    rw [if_pos (by rw [n30, nlt (by omega) (by omega)]; exact hl), gd_n hl (by omega), ntn (by omega), lw_eq, lw_eq]
    have e : (setI w 75 tr.length (nI b)).1 74 5 = nI tr.length := by simp [setI1, t1]
    rw [e, n1, nadd]
  · have hi : i < tr.length := by rw [List.getElem?_eq_some_iff] at hv; exact hv.1
    simp only [setI1, Nat.reduceEqDiff, false_and, if_false, true_and, show ¬ i = tr.length by omega]
    exact t2 i v hv
theorem ran_M {k b : Nat} {n a f : Int32} {tr : List Nat} {w : AW} (h : AM k n a f w) (ht : TrM tr w) (hl : tr.length < 30) : ∃ w', fX12_ran (nI b) w = some w' ∧ Fr TXm w w' ∧ AM k n a f w' ∧ TrM (tr ++ [b]) w' := by
  obtain ⟨h1, h2, h3, h4⟩ := h
  obtain ⟨t1, t2⟩ := ht
  refine ⟨setI (setI w 25 tr.length (nI b)) 0 48 (nI (tr.length + 1)), ?_, (Fr.set (by simp [TXm])).tr (Fr.set (by simp [TXm])), ⟨by simp [setI1, h1], by simp [setI1, h2], by simp [setI1, h3], by simp [setI1, h4]⟩, by simp [setI1], rowL_snoc (fun i v hv => ?_) (by simp [setI1])⟩
  · simp only [fX12_ran, t1]
    rw [if_neg (by rw [n30, nle (by omega) (by omega)]; omega), gd_n hl (by omega), ntn (by omega), lw_eq, lw_eq]
    have e : (setI w 25 tr.length (nI b)).1 0 48 = nI tr.length := by simp [setI1, t1]
    rw [e, n1, nadd]
  · have hi : i < tr.length := by rw [List.getElem?_eq_some_iff] at hv; exact hv.1
    simp only [setI1, Nat.reduceEqDiff, false_and, if_false, true_and, show ¬ i = tr.length by omega, show ¬ (25 = 0) by omega]
    exact t2 i v hv
def ifT (k s b : Nat) : List Nat := if uV k s = 0 then [] else [b]
theorem ifT_len (k s b : Nat) : (ifT k s b).length ≤ 1 := by unfold ifT; split <;> simp
/-- a body that runs for kinds under one alone -/
theorem cond_C {β : Type} {k s b : Nat} {n a f : Int32} {tr : List Nat} {w : AW} (F : AW → Option β) (h : AC k n a f w) (ht : TrC tr w) (hk : k < 6) (hs : s < 6) (hl : tr.length < 30) :
    ∃ w', bd (fX9_is (nI s) w) (fun r => if r = 0 then F w else bd (fX9_runs (nI b) w) (fun w' => F w')) = F w' ∧ Fr TXc w w' ∧ AC k n a f w' ∧ TrC (tr ++ ifT k s b) w' := by
  obtain ⟨w1, e1, e2, e3, e4⟩ := runs_C (b := b) h ht hl
  have e := is_ev h hk hs
  unfold ifT
  by_cases hu : uV k s = 0
  · exact ⟨w, by simp only [e, bd_some', hu, if_true], Fr.rf, h, by rw [if_pos hu, List.append_nil]; exact ht⟩
  · exact ⟨w1, by simp only [e, bd_some', hu, if_false, e1], e2, e3, by rw [if_neg hu]; exact e4⟩
def prT (k : Nat) : List Nat := ifT k 3 41 ++ (ifT k 2 30 ++ (ifT k 4 50 ++ [10]))
def prV (k : Nat) (n x : Int32) : Int32 :=
  let v1 := if uV k 2 = 0 then x + n else (x + n) * 3
  let v2 := if uV k 3 = 0 then v1 else v1 - n
  if uV k 4 = 0 then v2 else 0 - v2
theorem prT_len (k : Nat) : (prT k).length ≤ 4 := by
  have a := ifT_len k 3 41
  have b := ifT_len k 2 30
  have c := ifT_len k 4 50
  simp only [prT, List.length_append, List.length_cons, List.length_nil]; omega
theorem prints_C {k : Nat} {n a f x : Int32} {tr : List Nat} {w : AW} (h : AC k n a f w) (ht : TrC tr w) (hk : k < 6) (hl : tr.length ≤ 25) : ∃ w', fX9_prints x w = some (prV k n x, w') ∧ Fr TXc w w' ∧ AC k n a f w' ∧ TrC (tr ++ prT k) w' := by
  have l1 := ifT_len k 3 41
  have l2 := ifT_len k 2 30
  have l3 := ifT_len k 4 50
  obtain ⟨w1, a1, a2, a3, a4⟩ := cond_C (s := 3) (b := 41) (fun w => bX9_prints_14 x w) h ht hk (by omega) (by omega)
  obtain ⟨w2, b1, b2, b3, b4⟩ := cond_C (s := 2) (b := 30) (fun w => bX9_prints_28 x w) a3 a4 hk (by omega) (by simp only [List.length_append]; omega)
  obtain ⟨w3, c1, c2, c3, c4⟩ := cond_C (s := 4) (b := 50) (fun w => bX9_prints_42 x w) b3 b4 hk (by omega) (by simp only [List.length_append]; omega)
  obtain ⟨w4, d1, d2, d3, d4⟩ := runs_C (b := 10) c3 c4 (by simp only [List.length_append]; omega)
  refine ⟨w4, ?_, a2.tr (b2.tr (c2.tr d2)), d3, ?_⟩
  · have e : fX9_prints x w = bX9_prints_42 x w3 := a1.trans (b1.trans c1)
    rw [e]
    have d1' : fX9_runs 10 w3 = some w4 := d1
    have i2 : fX9_is 2 w4 = some (uV k 2) := is_ev d3 hk (show 2 < 6 by omega)
    have i3 : fX9_is 3 w4 = some (uV k 3) := is_ev d3 hk (show 3 < 6 by omega)
    have i4 : fX9_is 4 w4 = some (uV k 4) := is_ev d3 hk (show 4 < 6 by omega)
    simp only [bX9_prints_42, d1', bd_some', i2, i3, i4, d3.2.1, lw_eq, prV]
    by_cases u2 : uV k 2 = 0 <;> by_cases u3 : uV k 3 = 0 <;> by_cases u4 : uV k 4 = 0 <;> simp only [u2, u3, u4, if_true, if_false]
  · simp only [prT, List.append_assoc] at d4 ⊢; exact d4
def seT (k : Nat) : List Nat := ifT k 4 51 ++ (ifT k 1 20 ++ ([11] ++ (prT k ++ (if uV k 4 = 0 then [] else prT k))))
def seV (k : Nat) (n a x : Int32) : Int32 :=
  let v1 := if uV k 1 = 0 then prV k n x * 2 else prV k n x * 2 - a
  if uV k 4 = 0 then v1 else v1 + prV k n n
theorem seT_len (k : Nat) : (seT k).length ≤ 11 := by
  have a := ifT_len k 4 51
  have b := ifT_len k 1 20
  have c := prT_len k
  simp only [seT, List.length_append, List.length_cons, List.length_nil]
  split
  · simp only [List.length_nil]; omega
  · omega
theorem sets_C {k : Nat} {n a f x : Int32} {tr : List Nat} {w : AW} (h : AC k n a f w) (ht : TrC tr w) (hk : k < 6) (hl : tr.length ≤ 14) : ∃ w', fX9_sets x w = some (seV k n a x, w') ∧ Fr TXc w w' ∧ AC k n a f w' ∧ TrC (tr ++ seT k) w' := by
  have l1 := ifT_len k 4 51
  have l2 := ifT_len k 1 20
  have l3 := prT_len k
  obtain ⟨w1, a1, a2, a3, a4⟩ := cond_C (s := 4) (b := 51) (fun w => bX9_sets_14 x w) h ht hk (by omega) (by omega)
  obtain ⟨w2, b1, b2, b3, b4⟩ := cond_C (s := 1) (b := 20) (fun w => bX9_sets_28 x w) a3 a4 hk (by omega) (by simp only [List.length_append]; omega)
  obtain ⟨w3, c1, c2, c3, c4⟩ := runs_C (b := 11) b3 b4 (by simp only [List.length_append]; omega)
  obtain ⟨w4, d1, d2, d3, d4⟩ := prints_C (x := x) c3 c4 hk (by simp only [List.length_append, List.length_cons, List.length_nil]; omega)
  obtain ⟨w5, e1, e2, e3, e4⟩ := prints_C (x := n) d3 d4 hk (by simp only [List.length_append, List.length_cons, List.length_nil]; omega)
  have e : fX9_sets x w = bX9_sets_28 x w2 := a1.trans b1
  have c1' : fX9_runs 11 w2 = some w3 := c1
  have i1 : fX9_is 1 w4 = some (uV k 1) := is_ev d3 hk (show 1 < 6 by omega)
  have i4 : fX9_is 4 w4 = some (uV k 4) := is_ev d3 hk (show 4 < 6 by omega)
  by_cases u4 : uV k 4 = 0
  · refine ⟨w4, ?_, a2.tr (b2.tr (c2.tr d2)), d3, ?_⟩
    · rw [e]
      simp only [bX9_sets_28, c1', bd_some', d1, bd2_some', i1, i4, d3.2.1, d3.2.2.1, e1, seV]
      by_cases u1 : uV k 1 = 0 <;> simp only [u1, u4, if_true, if_false]
    · simp only [seT, u4, if_true, List.append_assoc, List.append_nil] at d4 ⊢; exact d4
  · refine ⟨w5, ?_, a2.tr (b2.tr (c2.tr (d2.tr e2))), e3, ?_⟩
    · rw [e]
      simp only [bX9_sets_28, c1', bd_some', d1, bd2_some', i1, i4, d3.2.1, d3.2.2.1, e1, seV]
      by_cases u1 : uV k 1 = 0 <;> simp only [u1, u4, if_true, if_false]
    · simp only [seT, u4, if_false, List.append_assoc] at e4 ⊢; exact e4
def shT (k : Nat) (n a : Int32) : List Nat := ifT k 3 40 ++ (ifT k 5 61 ++ ([12] ++ (if a = n then [] else if uV k 5 = 0 then [] else prT k)))
def shV (k : Nat) (n a x : Int32) : Int32 :=
  let q := (if uV k 3 = 0 then x else x + 2) / (a - n)
  let v := if uV k 3 = 0 then q else q ^^^ 1
  if uV k 5 = 0 then v else v + prV k n a
theorem sub_ne {a n : Int32} (h : ¬ a = n) : ¬ (a - n) = 0 := fun q => h (by
  obtain ⟨x, rfl, -, -⟩ := toZ a
  obtain ⟨y, rfl, -, -⟩ := toZ n
  have : zI x = (zI x - zI y) + zI y := by rw [zsub, zadd]; congr 1; omega
  rw [this, q, Int32.zero_add])
theorem shares_C {k : Nat} {n a x : Int32} {tr : List Nat} {w : AW} (h : AC k n a 0 w) (ht : TrC tr w) (hk : k < 6) (hl : tr.length ≤ 22) :
    ∃ w' v, fX9_shares x w = some (v, w') ∧ Fr TXc w w' ∧ AC k n a (if a = n then 1 else 0) w' ∧ TrC (tr ++ shT k n a) w' ∧ (¬ a = n → v = shV k n a x) := by
  have l1 := ifT_len k 3 40
  have l2 := ifT_len k 5 61
  obtain ⟨w1, a1, a2, a3, a4⟩ := cond_C (s := 3) (b := 40) (fun w => bX9_shares_14 x w) h ht hk (by omega) (by omega)
  obtain ⟨w2, b1, b2, b3, b4⟩ := cond_C (s := 5) (b := 61) (fun w => bX9_shares_28 x w) a3 a4 hk (by omega) (by simp only [List.length_append]; omega)
  obtain ⟨w3, c1, c2, c3, c4⟩ := runs_C (b := 12) b3 b4 (by simp only [List.length_append]; omega)
  have e : fX9_shares x w = bX9_shares_28 x w2 := a1.trans b1
  have c1' : fX9_runs 12 w2 = some w3 := c1
  by_cases han : a = n
  · refine ⟨setI w3 74 3 1, 0, ?_, a2.tr (b2.tr (c2.tr (Fr.set (by simp [TXc])))), ?_, ?_, fun q => absurd han q⟩
    · rw [e]
      simp only [bX9_shares_28, c1', bd_some', c3.2.1, c3.2.2.1, han, if_true, lw_eq]
    · rw [if_pos han]
      obtain ⟨q1, q2, q3, q4⟩ := c3
      exact ⟨by simp [setI1, q1], by simp [setI1, q2], by simp [setI1, q3], by simp [setI1]⟩
    · simp only [shT, han, if_true, List.append_assoc, List.append_nil] at c4 ⊢
      refine ⟨by simp only [setI1]; exact c4.1, fun i v hv => ?_⟩
      simp only [setI1, Nat.reduceEqDiff, false_and, if_false]
      exact c4.2 i v hv
  · have i3 : fX9_is 3 w3 = some (uV k 3) := is_ev c3 hk (show 3 < 6 by omega)
    have i5 : fX9_is 5 w3 = some (uV k 5) := is_ev c3 hk (show 5 < 6 by omega)
    have hne := sub_ne han
    obtain ⟨w4, d1, d2, d3, d4⟩ := prints_C (x := a) c3 c4 hk (by simp only [List.length_append, List.length_cons, List.length_nil]; omega)
    by_cases u5 : uV k 5 = 0
    · refine ⟨w3, shV k n a x, ?_, a2.tr (b2.tr c2), by rw [if_neg han]; exact c3, ?_, fun _ => rfl⟩
      · rw [e]
        simp only [bX9_shares_28, c1', bd_some', c3.2.1, c3.2.2.1, han, if_false, i3, bX9_shares_67, hne, not_false_eq_true, decide_true, gd_true, i5, lw_eq, shV]
        by_cases u3 : uV k 3 = 0 <;> simp only [u3, u5, if_true, if_false]
      · simp only [shT, han, u5, if_true, if_false, List.append_assoc, List.append_nil] at c4 ⊢; exact c4
    · refine ⟨w4, shV k n a x, ?_, a2.tr (b2.tr (c2.tr d2)), by rw [if_neg han]; exact d3, ?_, fun _ => rfl⟩
      · rw [e]
        simp only [bX9_shares_28, c1', bd_some', c3.2.1, c3.2.2.1, han, if_false, i3, bX9_shares_67, hne, not_false_eq_true, decide_true, gd_true, i5, lw_eq, d1, bd2_some', shV]
        by_cases u3 : uV k 3 = 0 <;> simp only [u3, u5, if_true, if_false]
      · simp only [shT, han, u5, if_false, List.append_assoc] at d4 ⊢; exact d4
def teT (k : Nat) (n a : Int32) : List Nat := ifT k 2 31 ++ (ifT k 5 60 ++ ([13] ++ (seT k ++ (if uV k 2 = 0 then [] else shT k n a))))
def teV (k : Nat) (n a x : Int32) : Int32 :=
  let v := seV k n a x ^^^ a
  let v1 := if uV k 2 = 0 then v else v + shV k n a n
  if uV k 5 = 0 then v1 else v1 * 2
theorem tells_C {k : Nat} {n a x : Int32} {tr : List Nat} {w : AW} (h : AC k n a 0 w) (ht : TrC tr w) (hk : k < 6) (hl : tr.length ≤ 2) :
    ∃ w' v, fX9_tells x w = some (v, w') ∧ Fr TXc w w' ∧ AC k n a (if uV k 2 = 0 then 0 else if a = n then 1 else 0) w' ∧ TrC (tr ++ teT k n a) w' ∧ ((uV k 2 = 0 ∨ ¬ a = n) → v = teV k n a x) := by
  have l1 := ifT_len k 2 31
  have l2 := ifT_len k 5 60
  have l3 := seT_len k
  obtain ⟨w1, a1, a2, a3, a4⟩ := cond_C (s := 2) (b := 31) (fun w => bX9_tells_14 x w) h ht hk (by omega) (by omega)
  obtain ⟨w2, b1, b2, b3, b4⟩ := cond_C (s := 5) (b := 60) (fun w => bX9_tells_28 x w) a3 a4 hk (by omega) (by simp only [List.length_append]; omega)
  obtain ⟨w3, c1, c2, c3, c4⟩ := runs_C (b := 13) b3 b4 (by simp only [List.length_append]; omega)
  obtain ⟨w4, d1, d2, d3, d4⟩ := sets_C (x := x) c3 c4 hk (by simp only [List.length_append, List.length_cons, List.length_nil]; omega)
  have e : fX9_tells x w = bX9_tells_28 x w2 := a1.trans b1
  have c1' : fX9_runs 13 w2 = some w3 := c1
  have i2 : fX9_is 2 w4 = some (uV k 2) := is_ev d3 hk (show 2 < 6 by omega)
  have i5 : fX9_is 5 w4 = some (uV k 5) := is_ev d3 hk (show 5 < 6 by omega)
  by_cases u2 : uV k 2 = 0
  · refine ⟨w4, teV k n a x, ?_, a2.tr (b2.tr (c2.tr d2)), by rw [if_pos u2]; exact d3, ?_, fun _ => rfl⟩
    · rw [e]
      simp only [bX9_tells_28, c1', bd_some', d1, bd2_some', i2, i5, d3.2.2.1, teV]
      by_cases u5 : uV k 5 = 0 <;> simp only [u2, u5, if_true, if_false]
    · simp only [teT, u2, if_true, List.append_assoc, List.append_nil] at d4 ⊢; exact d4
  · obtain ⟨w5, v5, e1, e2, e3, e4, e5⟩ := shares_C (x := n) d3 d4 hk (by simp only [List.length_append, List.length_cons, List.length_nil]; omega)
    have j5 : fX9_is 5 w5 = some (uV k 5) := is_ev e3 hk (show 5 < 6 by omega)
    refine ⟨w5, if uV k 5 = 0 then (seV k n a x ^^^ a) + v5 else ((seV k n a x ^^^ a) + v5) * 2, ?_, a2.tr (b2.tr (c2.tr (d2.tr e2))), by rw [if_neg u2]; exact e3, ?_, fun q => ?_⟩
    · rw [e]
      simp only [bX9_tells_28, c1', bd_some', d1, bd2_some', i2, d3.2.1, d3.2.2.1, u2, if_false, e1, j5]
      split <;> rfl
    · simp only [teT, u2, if_false, List.append_assoc] at e4 ⊢; exact e4
    · rw [e5 (q.resolve_left u2)]
      simp only [teV, u2, if_false]
