/-! 34: the program's SURE, MEAN, SAFEST -/
section
variable (dy : Nat → Nat) (st c0 l0 fine odds : Nat) (J : Nat → Nat → Nat)
def svO (was : Nat) (l : List Nat) : List (Nat × Nat) → Int
  | [] => 0
  | q :: o => (q.2 : Int) * svL dy st c0 l0 odds J q.1 was l + svO was l o
def mvO (was : Nat) (l : List Nat) : List (Nat × Nat) → Int
  | [] => 0
  | q :: o => (q.2 : Int) * mvL dy st c0 l0 fine odds J q.1 was l + mvO was l o
end
theorem svO_app {dy : Nat → Nat} {st c0 l0 odds was : Nat} {J : Nat → Nat → Nat} {l : List Nat} : ∀ {o o' : List (Nat × Nat)}, svO dy st c0 l0 odds J was l (o ++ o') = svO dy st c0 l0 odds J was l o + svO dy st c0 l0 odds J was l o' := by
  intro o
  induction o with
  | nil => intro o'; simp [svO]
  | cons q o ih => intro o'; simp only [List.cons_append, svO, ih]; omega
theorem mvO_app {dy : Nat → Nat} {st c0 l0 fine odds was : Nat} {J : Nat → Nat → Nat} {l : List Nat} : ∀ {o o' : List (Nat × Nat)}, mvO dy st c0 l0 fine odds J was l (o ++ o') = mvO dy st c0 l0 fine odds J was l o + mvO dy st c0 l0 fine odds J was l o' := by
  intro o
  induction o with
  | nil => intro o'; simp [mvO]
  | cons q o ih => intro o'; simp only [List.cons_append, mvO, ih]; omega
theorem oBf {odds : Nat} (h : odds ≤ 4) : oB odds false = ((4 - odds : Nat) : Int) := by simp [oB]; omega
theorem oBt {odds : Nat} : oB odds true = (odds : Int) := rfl
theorem svO_keep {dy : Nat → Nat} {st c0 l0 odds j t y : Nat} {J : Nat → Nat → Nat} {l : List Nat} {was : Nat} : svO dy st c0 l0 odds J was l (keep1 dy 0 J j t y) = if dy t ≤ J 3 j then (y : Int) * svL dy st c0 l0 odds J t was l else 0 := by
  unfold keep1
  by_cases hd : dy t ≤ J 3 j
  · rw [if_pos hd]
    by_cases hy : 0 < y
    · rw [if_pos ⟨hy, Or.inr hd⟩]; simp [svO]
    · rw [if_neg (fun h => hy h.1), show y = 0 by omega]; simp [svO]
  · rw [if_neg hd, if_neg (fun h => by omega)]; rfl
theorem svO_next {dy : Nat → Nat} {st c0 l0 odds was j : Nat} {J : Nat → Nat → Nat} {l : List Nat} (ho : odds ≤ 4) : ∀ {o : List (Nat × Nat)}, svO dy st c0 l0 odds J was (j :: l) o = svO dy st c0 l0 odds J (J 2 j) l (sprd dy st c0 l0 odds 0 J was j o) := by
  intro o
  induction o with
  | nil => rfl
  | cons q o ih =>
    unfold sprd at ih ⊢
    rw [List.flatMap_cons, svO_app, ← ih]
    simp only [svO]
    congr 1
    unfold spr1
    rw [svO_app, svO_keep, svO_keep, svL, oBf ho, oBt]
    rw [Int.mul_add]
    congr 1
    · split
      · rw [Int.natCast_mul, Int.mul_assoc]
      · rw [Int.mul_zero]
    · split
      · rw [Int.natCast_mul, Int.mul_assoc]
      · rw [Int.mul_zero]
theorem svO_nil {dy : Nat → Nat} {st c0 l0 odds was : Nat} {J : Nat → Nat → Nat} : ∀ {o : List (Nat × Nat)}, svO dy st c0 l0 odds J was [] o = (sO o : Int) := by
  intro o
  induction o with
  | nil => rfl
  | cons q o ih => simp only [svO, svL, sO, ih, Int.natCast_add, Int.mul_one]
theorem mvO_nil {dy : Nat → Nat} {st c0 l0 fine odds was : Nat} {J : Nat → Nat → Nat} : ∀ {o : List (Nat × Nat)}, mvO dy st c0 l0 fine odds J was [] o = 0 := by
  intro o
  induction o with
  | nil => rfl
  | cons q o ih => simp only [mvO, mvL, ih, Int.mul_zero, Int.zero_add]
theorem mvO_keep {dy : Nat → Nat} {st c0 l0 fine odds j t y : Nat} {J : Nat → Nat → Nat} {l : List Nat} {was : Nat} : eO dy fine J j (keep1 dy 1 J j t y) * 4 ^ l.length + mvO dy st c0 l0 fine odds J was l (keep1 dy 1 J j t y) = (y : Int) * (vOf fine J j (dy t) * 4 ^ l.length + mvL dy st c0 l0 fine odds J t was l) := by
  unfold keep1
  by_cases hy : 0 < y
  · rw [if_pos ⟨hy, Or.inl rfl⟩]; simp only [mvO, eO, Int.add_zero, Int.mul_add, Int.mul_assoc]
  · rw [if_neg (fun h => hy h.1), show y = 0 by omega]; simp [mvO, eO]
theorem mvO_next {dy : Nat → Nat} {st c0 l0 fine odds was j : Nat} {J : Nat → Nat → Nat} {l : List Nat} (ho : odds ≤ 4) : ∀ {o : List (Nat × Nat)}, mvO dy st c0 l0 fine odds J was (j :: l) o = eO dy fine J j (sprd dy st c0 l0 odds 1 J was j o) * 4 ^ l.length + mvO dy st c0 l0 fine odds J (J 2 j) l (sprd dy st c0 l0 odds 1 J was j o) := by
  intro o
  induction o with
  | nil => simp [sprd, mvO, eO]
  | cons q o ih =>
    unfold sprd at ih ⊢
    rw [List.flatMap_cons, mvO_app, eO_app]
    simp only [mvO]
    rw [ih, Int.add_mul]
    have e : (q.2 : Int) * mvL dy st c0 l0 fine odds J q.1 was (j :: l) = eO dy fine J j (spr1 dy st c0 l0 odds 1 J was j q) * 4 ^ l.length + mvO dy st c0 l0 fine odds J (J 2 j) l (spr1 dy st c0 l0 odds 1 J was j q) := by
      unfold spr1
      rw [mvO_app, eO_app, Int.add_mul]
      have e1 := mvO_keep (dy := dy) (st := st) (c0 := c0) (l0 := l0) (fine := fine) (odds := odds) (J := J) (l := l) (was := J 2 j) (j := j) (t := uB st c0 l0 J (J 1) q.1 was j) (y := q.2 * (4 - odds))
      have e2 := mvO_keep (dy := dy) (st := st) (c0 := c0) (l0 := l0) (fine := fine) (odds := odds) (J := J) (l := l) (was := J 2 j) (j := j) (t := uB st c0 l0 J (J 1) q.1 was j + J 1 j) (y := q.2 * odds)
      rw [mvL, oBf ho, oBt, Int.mul_add, ← Int.mul_assoc, ← Int.mul_assoc, ← Int.natCast_mul, ← Int.natCast_mul, ← e1, ← e2]
      omega
    rw [e]
    omega
section
variable (dy : Nat → Nat) (st c0 l0 fine odds late : Nat) (J : Nat → Nat → Nat) (p : Nat → Nat)
def outN : Nat → List (Nat × Nat)
  | 0 => [(0, 1)]
  | i + 1 => sprd dy st c0 l0 odds late J (wasN J p i) (p i) (outN i)
def mSum : Nat → Int
  | 0 => 0
  | i + 1 => mSum i * 4 + eO dy fine J (p i) (outN dy st c0 l0 odds late J p (i + 1))
end
theorem drop_one {l : List Nat} {i : Nat} (h : i < l.length) : l.drop i = lf l i :: l.drop (i + 1) := by
  rw [List.drop_eq_getElem_cons h]
  congr 1
  have := getD_some h
  rw [List.getElem?_eq_getElem h] at this
  exact Option.some.inj this
theorem outN_sv {dy : Nat → Nat} {st c0 l0 odds : Nat} {J : Nat → Nat → Nat} {l : List Nat} (ho : odds ≤ 4) : ∀ {i : Nat}, i ≤ l.length → svO dy st c0 l0 odds J (wasN J (lf l) i) (l.drop i) (outN dy st c0 l0 odds 0 J (lf l) i) = svL dy st c0 l0 odds J 0 0 l := by
  intro i
  induction i with
  | zero => intro _; simp [outN, svO, wasN]
  | succ i ih =>
    intro h
    rw [← ih (by omega), drop_one (l := l) (i := i) (by omega), svO_next ho]
    rfl
theorem outN_sure {dy : Nat → Nat} {st c0 l0 odds : Nat} {J : Nat → Nat → Nat} {l : List Nat} (ho : odds ≤ 4) : (sO (outN dy st c0 l0 odds 0 J (lf l) l.length) : Int) = svL dy st c0 l0 odds J 0 0 l := by
  rw [← outN_sv ho (Nat.le_refl l.length), List.drop_length, svO_nil]
theorem outN_mv {dy : Nat → Nat} {st c0 l0 fine odds : Nat} {J : Nat → Nat → Nat} {l : List Nat} (ho : odds ≤ 4) : ∀ {i : Nat}, i ≤ l.length → mSum dy st c0 l0 fine odds 1 J (lf l) i * 4 ^ (l.length - i) + mvO dy st c0 l0 fine odds J (wasN J (lf l) i) (l.drop i) (outN dy st c0 l0 odds 1 J (lf l) i) = mvL dy st c0 l0 fine odds J 0 0 l := by
  intro i
  induction i with
  | zero => intro _; simp [outN, mvO, wasN, mSum]
  | succ i ih =>
    intro h
    rw [← ih (by omega), drop_one (l := l) (i := i) (by omega), mvO_next ho, List.length_drop, mSum, show l.length - i = (l.length - (i + 1)) + 1 by omega, Int.pow_succ, Int.add_mul, Int.mul_comm (4 ^ (l.length - (i + 1))) 4, Int.mul_assoc]
    simp only [outN, wasN]
    omega
theorem outN_mean {dy : Nat → Nat} {st c0 l0 fine odds : Nat} {J : Nat → Nat → Nat} {l : List Nat} (ho : odds ≤ 4) : mSum dy st c0 l0 fine odds 1 J (lf l) l.length = mvL dy st c0 l0 fine odds J 0 0 l := by
  have := outN_mv (dy := dy) (st := st) (c0 := c0) (l0 := l0) (fine := fine) (odds := odds) (J := J) (l := l) ho (Nat.le_refl l.length)
  rw [List.drop_length, mvO_nil, Nat.sub_self] at this
  rw [← this]; simp
theorem outN_ok {dy : Nat → Nat} {st c0 l0 odds late n : Nat} {J : Nat → Nat → Nat} {p : Nat → Nat} (ho : odds ≤ 4) (h1 : st ≤ 3) (h2 : l0 ≤ 3) (bj : bJ n J) : ∀ {i : Nat}, (∀ k, k < i → p k < n) → okO i (outN dy st c0 l0 odds late J p i) := by
  intro i
  induction i with
  | zero => intro _; refine ⟨by simp [outN], by simp [outN, sO], fun q hq => ?_⟩; simp [outN] at hq; subst hq; simp
  | succ i ih => intro h; exact okO_next (ih (fun k hk => h k (by omega))) ho h1 h2 (bj _ (h i (by omega))).2.2.1
def TC (o k : Nat) : Bool := (o == 52) || (o == 53) || (o == 54) || (o == 55)
theorem TS_TC {lv o k : Nat} (h : TC o k = false) : TS lv o k = false := by
  simp only [TC, TS, Bool.or_eq_false_iff, Bool.and_eq_false_iff] at h ⊢
  obtain ⟨⟨⟨h1, h2⟩, h3⟩, h4⟩ := h
  exact ⟨⟨Or.inl ⟨h2, h3⟩, Or.inl h1⟩, Or.inl h4⟩
theorem begin_ev {dy : Nat → Nat} {st c0 l0 fine odds late n : Nat} {J : Nat → Nat → Nat} {w : AW} (hC : CCo dy st c0 l0 fine odds w) (hJ : CJo 2 n J w) (hl : late ≤ 1) :
    ∃ w', fX2_begin (nI late) w = some w' ∧ Fr TC w w' ∧ CB dy st c0 l0 fine odds late n J w' ∧ rowO 0 [(0, 1)] w' := by
  have hF : Fr TC w (setI (setI (setI (setI w 52 6 (nI late)) 53 1 0) 54 1 1) 55 0 1) := (((Fr.set rfl).tr (Fr.set rfl)).tr (Fr.set rfl)).tr (Fr.set rfl)
  refine ⟨_, ?_, hF, ⟨hC.fr hF (fun k => rfl) (fun k => rfl), hJ.fr hF (fun i hi k => ?_), by simp [setI1]⟩, ⟨by simp [setI1]; rfl, fun i q h => ?_⟩⟩
  · have hb : isb (nI late) = true := by
      have : late = 0 ∨ late = 1 := by omega
      rcases this with rfl | rfl <;> rfl
    simp only [fX2_begin, hb, lw_eq, bd_some', bd2_some', gd_true]
    rfl
  · have h1 : (2 + i == 52) = false := by simp; omega
    have h2 : (2 + i == 53) = false := by simp; omega
    have h3 : (2 + i == 54) = false := by simp; omega
    have h4 : (2 + i == 55) = false := by simp; omega
    simp [TC, h1, h2, h3, h4]
  · cases i with
    | zero => simp at h; subst h; simp [setI1]; exact ⟨rfl, rfl⟩
    | succ i => simp at h
theorem sureMean_ev {dy : Nat → Nat} {st c0 l0 fine odds n N : Nat} {J : Nat → Nat → Nat} {w : AW} {p : List Nat} (hC : CCo dy st c0 l0 fine odds w) (hJ : CJo 2 n J w) (bc : bC dy st c0 l0 fine odds) (bj : bJ n J) (hn : n ≤ 6) (hN : 100 < N) (hr : rowL (w.1 11) p) (hpl : p.length = n) (hpm : ∀ j ∈ p, j < n) :
    (∃ w', fX2_sureOf N 2 11 w = some (zI (svL dy st c0 l0 odds J 0 0 p), w') ∧ Fr TC w w') ∧ (∃ w', fX2_meanOf N 2 11 w = some (zI (mvL dy st c0 l0 fine odds J 0 0 p), w') ∧ Fr TC w w') := by
  have hpi : ∀ k, k < n → lf p k < n := fun k hk => hpm _ (getD_mem (by omega))
  have bo := bc.2.2.2.2.1
  have step : ∀ (late i : Nat) (w1 : AW), late ≤ 1 → i < n → Fr TC w w1 → CB dy st c0 l0 fine odds late n J w1 → rowO i (outN dy st c0 l0 odds late J (lf p) i) w1 →
      ∃ w2, fX2_spread N 2 (nI i) (nI (wasN J (lf p) i)) (nI (lf p i)) w1 = some (nI (sO (outN dy st c0 l0 odds late J (lf p) (i + 1))), w2) ∧ Fr TC w w2 ∧ CB dy st c0 l0 fine odds late n J w2 ∧ rowO (i + 1) (outN dy st c0 l0 odds late J (lf p) (i + 1)) w2 ∧ w2.1 52 7 = zI (eO dy fine J (lf p i) (outN dy st c0 l0 odds late J (lf p) (i + 1))) := by
    intro late i w1 hl hi hF hB hrw
    have hok := outN_ok (dy := dy) (c0 := c0) (late := late) (p := lf p) (i := i) bo bc.1 bc.2.2.1 bj (fun k hk => hpi k (by omega))
    have hwas : wasN J (lf p) i ≤ 1 := by
      cases i with
      | zero => simp [wasN]
      | succ i => exact (bj _ (hpi i (by omega))).2.2.2.1
    obtain ⟨w2, e1, e2, e3, e4⟩ := spread_ev (N := N) hB bc bj hn hl hN (lv := i) (was := wasN J (lf p) i) (j := lf p i) (by omega) hok hrw (hpi i hi) hwas
    exact ⟨w2, e1, hF.tr (e2.wd (fun o k h => TS_TC h)), hB.ts e2, e3, e4⟩
  have row11 : ∀ w1 i, Fr TC w w1 → i < n → w1.1 11 i = nI (lf p i) := fun w1 i hF hi => by rw [hF.at' _ rfl]; exact hr.get (by omega)
  have col : ∀ late w1 i, CB dy st c0 l0 fine odds late n J w1 → i + 1 < n → w1.1 (2 + 3) (lf p i) = nI (wasN J (lf p) (i + 1)) := fun late w1 i hB hi => (hB.2.1.2 _ (hpi i (by omega))).2.2.1
  constructor
  · obtain ⟨w0, b1, b2, b3, b4⟩ := begin_ev (late := 0) hC hJ (by omega)
    have key := wh_cnt (body := lbX2_sureOf_10_1 N 2 11) (n := n)
      (I := fun i s => ∃ w1, s = (nI (sO (outN dy st c0 l0 odds 0 J (lf p) i)), nI i, w1) ∧ Fr TC w w1 ∧ CB dy st c0 l0 fine odds 0 n J w1 ∧ rowO i (outN dy st c0 l0 odds 0 J (lf p) i) w1)
      (Q := fun e => ∃ w1, e = (nI (sO (outN dy st c0 l0 odds 0 J (lf p) n)), w1) ∧ Fr TC w w1)
      ?_ ?_ (N := N) (i := 0) (s := (1, 0, w0)) ⟨w0, rfl, b2, b3, b4⟩ (Nat.zero_le _) (by omega)
    · obtain ⟨e, e1, w1, rfl, e2⟩ := key
      refine ⟨w1, ?_, e2⟩
      have hf : zI (svL dy st c0 l0 odds J 0 0 p) = nI (sO (outN dy st c0 l0 odds 0 J (lf p) n)) := by rw [zI_nI, ← hpl, outN_sure bo]
      rw [hf]
      rw [show nI 0 = 0 from rfl] at b1
      simp only [fX2_sureOf, b1, e1, lw_eq, bd_some', bd2_some', gd_true]
    · rintro i s hi ⟨w1, rfl, hF, hB, hrw⟩
      obtain ⟨w2, e1, e2, e3, e4, e5⟩ := step 0 i w1 (by omega) hi hF hB hrw
      refine ⟨(nI (sO (outN dy st c0 l0 odds 0 J (lf p) (i + 1))), nI (i + 1), w2), ?_, w2, rfl, e2, e3, e4⟩
      have hpii := hpi i hi
      cases i with
      | zero =>
        rw [show nI (wasN J (lf p) 0) = 0 from rfl, show nI 0 = 0 from rfl] at e1
        rw [show nI 0 = 0 from rfl]
        simp only [lbX2_sureOf_10_1, hB.2.1.1, if_true, lw_eq, bd_some', bd2_some', gd_true]
        rw [if_neg (show ¬ nI n ≤ 0 by rw [n0, nle (by omega) (by omega)]; omega)]
        simp only [show (0 : Int32).toNatClampNeg = 0 from rfl, row11 w1 0 hF hi, e1, lw_eq, bd_some', bd2_some', gd_true, show inb 0 6 = true from rfl, show (0 : Int32) + 1 = nI (0 + 1) from rfl]
      | succ i =>
        have hcol := col 0 w1 i hB hi
        have hpi1 := hpi i (by omega)
        simp (disch := omega) only [lbX2_sureOf_10_1, n0, n1, n2, n3, n4, n5, n6, n7, n8, n9, n10, n13, n16, n18, n20, n30, n32, n40, n48, n57, n59, n60, n64, n97, n99, n122, n126, n186, n200, n1000000, nadd, nmul, nlt, nle, neq, ntn, gd_n, lw_eq, bd_some', bd2_some', gd_true, hB.2.1.1, if_neg (show ¬ n ≤ i + 1 by omega), if_neg (show ¬ i + 1 = 0 by omega), nsub (show 1 ≤ i + 1 by omega), Nat.add_sub_cancel, row11 w1 i hF (by omega), row11 w1 (i + 1) hF hi, hcol, e1]
    · rintro s ⟨w1, rfl, hF, hB, hrw⟩
      refine ⟨_, ?_, w1, rfl, hF⟩
      simp only [lbX2_sureOf_10_1, hB.2.1.1, Int32.le_refl, if_true]
  · obtain ⟨w0, b1, b2, b3, b4⟩ := begin_ev (late := 1) hC hJ (by omega)
    have key := wh_cnt (body := lbX2_meanOf_10_1 N 2 11) (n := n)
      (I := fun i s => ∃ w1, s = (zI (mSum dy st c0 l0 fine odds 1 J (lf p) i), nI i, w1) ∧ Fr TC w w1 ∧ CB dy st c0 l0 fine odds 1 n J w1 ∧ rowO i (outN dy st c0 l0 odds 1 J (lf p) i) w1)
      (Q := fun e => ∃ w1, e = (zI (mSum dy st c0 l0 fine odds 1 J (lf p) n), w1) ∧ Fr TC w w1)
      ?_ ?_ (N := N) (i := 0) (s := (0, 0, w0)) ⟨w0, rfl, b2, b3, b4⟩ (Nat.zero_le _) (by omega)
    · obtain ⟨e, e1, w1, rfl, e2⟩ := key
      refine ⟨w1, ?_, e2⟩
      have hf := outN_mean (dy := dy) (st := st) (c0 := c0) (l0 := l0) (fine := fine) (odds := odds) (J := J) (l := p) bo
      rw [hpl] at hf
      rw [← hf]
      rw [show nI 1 = 1 from rfl] at b1
      simp only [fX2_meanOf, b1, e1, lw_eq, bd_some', bd2_some', gd_true]
    · rintro i s hi ⟨w1, rfl, hF, hB, hrw⟩
      obtain ⟨w2, e1, e2, e3, e4, e5⟩ := step 1 i w1 (by omega) hi hF hB hrw
      refine ⟨(zI (mSum dy st c0 l0 fine odds 1 J (lf p) (i + 1)), nI (i + 1), w2), ?_, w2, rfl, e2, e3, e4⟩
      have hms : zI (mSum dy st c0 l0 fine odds 1 J (lf p) i) * 4 + zI (eO dy fine J (lf p i) (outN dy st c0 l0 odds 1 J (lf p) (i + 1))) = zI (mSum dy st c0 l0 fine odds 1 J (lf p) (i + 1)) := by
        rw [show (4 : Int32) = zI 4 from rfl, zmul, zadd]; rfl
      have hpii := hpi i hi
      cases i with
      | zero =>
        rw [show nI (wasN J (lf p) 0) = 0 from rfl, show nI 0 = 0 from rfl] at e1
        rw [show nI 0 = 0 from rfl]
        simp only [lbX2_meanOf_10_1, hB.2.1.1, if_true, lw_eq, bd_some', bd2_some', gd_true]
        rw [if_neg (show ¬ nI n ≤ 0 by rw [n0, nle (by omega) (by omega)]; omega)]
        simp only [show (0 : Int32).toNatClampNeg = 0 from rfl, row11 w1 0 hF hi, e1, lw_eq, bd_some', bd2_some', gd_true, show inb 0 6 = true from rfl, show (0 : Int32) + 1 = nI (0 + 1) from rfl, e5, hms]
      | succ i =>
        have hcol := col 1 w1 i hB hi
        have hpi1 := hpi i (by omega)
        rw [n4] at hms
        simp (disch := omega) only [lbX2_meanOf_10_1, n0, n1, n2, n3, n4, n5, n6, n7, n8, n9, n10, n13, n16, n18, n20, n30, n32, n40, n48, n57, n59, n60, n64, n97, n99, n122, n126, n186, n200, n1000000, nadd, nmul, nlt, nle, neq, ntn, gd_n, lw_eq, bd_some', bd2_some', gd_true, hB.2.1.1, if_neg (show ¬ n ≤ i + 1 by omega), if_neg (show ¬ i + 1 = 0 by omega), nsub (show 1 ≤ i + 1 by omega), Nat.add_sub_cancel, row11 w1 i hF (by omega), row11 w1 (i + 1) hF hi, hcol, e1, e5, hms]
    · rintro s ⟨w1, rfl, hF, hB, hrw⟩
      refine ⟨_, ?_, w1, rfl, hF⟩
      simp only [lbX2_meanOf_10_1, hB.2.1.1, Int32.le_refl, if_true]

