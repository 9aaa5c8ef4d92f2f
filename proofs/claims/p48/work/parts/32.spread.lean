/-! 32: the program parts outcomes -/
section
variable (dy : Nat → Nat) (st c0 l0 fine odds late : Nat) (J : Nat → Nat → Nat)
def keep1 (j t y : Nat) : List (Nat × Nat) := if 0 < y ∧ (late = 1 ∨ dy t ≤ J 3 j) then [(t, y)] else []
def spr1 (was j : Nat) (q : Nat × Nat) : List (Nat × Nat) := keep1 dy late J j (uB st c0 l0 J (J 1) q.1 was j) (q.2 * (4 - odds)) ++ keep1 dy late J j (uB st c0 l0 J (J 1) q.1 was j + J 1 j) (q.2 * odds)
def sprd (was j : Nat) (l : List (Nat × Nat)) : List (Nat × Nat) := l.flatMap (spr1 dy st c0 l0 odds late J was j)
def sO : List (Nat × Nat) → Nat
  | [] => 0
  | q :: l => q.2 + sO l
def eO (j : Nat) : List (Nat × Nat) → Int
  | [] => 0
  | q :: l => (q.2 : Int) * vOf fine J j (dy q.1) + eO j l
end
theorem sO_app : ∀ {l l' : List (Nat × Nat)}, sO (l ++ l') = sO l + sO l' := by
  intro l
  induction l with
  | nil => intro l'; simp [sO]
  | cons q l ih => intro l'; simp only [List.cons_append, sO, ih]; omega
theorem eO_app {dy : Nat → Nat} {fine : Nat} {J : Nat → Nat → Nat} {j : Nat} : ∀ {l l' : List (Nat × Nat)}, eO dy fine J j (l ++ l') = eO dy fine J j l + eO dy fine J j l' := by
  intro l
  induction l with
  | nil => intro l'; simp [eO]
  | cons q l ih => intro l'; simp only [List.cons_append, eO, ih]; omega
def okO (lv : Nat) (l : List (Nat × Nat)) : Prop := l.length ≤ 2 ^ lv ∧ sO l ≤ 4 ^ lv ∧ ∀ q ∈ l, q.1 ≤ 21 * lv
def rowO (lv : Nat) (l : List (Nat × Nat)) (w : AW) : Prop := w.1 55 lv = nI l.length ∧ ∀ (i : Nat) (q : Nat × Nat), l[i]? = some q → w.1 53 (2 ^ lv + i) = nI q.1 ∧ w.1 54 (2 ^ lv + i) = nI q.2
theorem sO_mem {l : List (Nat × Nat)} {q : Nat × Nat} (h : q ∈ l) : q.2 ≤ sO l := by
  induction l with
  | nil => cases h
  | cons a l ih =>
    rcases List.mem_cons.mp h with rfl | h
    · simp only [sO]; omega
    · have := ih h; simp only [sO]; omega
theorem keep1_le {dy : Nat → Nat} {late j t y : Nat} {J : Nat → Nat → Nat} : (keep1 dy late J j t y).length ≤ 1 ∧ sO (keep1 dy late J j t y) ≤ y := by
  unfold keep1; split <;> simp [sO]
theorem spr1_le {dy : Nat → Nat} {st c0 l0 odds late was j : Nat} {J : Nat → Nat → Nat} {q : Nat × Nat} (ho : odds ≤ 4) : (spr1 dy st c0 l0 odds late J was j q).length ≤ 2 ∧ sO (spr1 dy st c0 l0 odds late J was j q) ≤ 4 * q.2 := by
  have a := keep1_le (dy := dy) (late := late) (J := J) (j := j) (t := uB st c0 l0 J (J 1) q.1 was j) (y := q.2 * (4 - odds))
  have b := keep1_le (dy := dy) (late := late) (J := J) (j := j) (t := uB st c0 l0 J (J 1) q.1 was j + J 1 j) (y := q.2 * odds)
  have c : q.2 * (4 - odds) + q.2 * odds = 4 * q.2 := by rw [← Nat.mul_add, Nat.sub_add_cancel ho, Nat.mul_comm]
  unfold spr1
  rw [List.length_append, sO_app]
  omega
theorem sprd_le {dy : Nat → Nat} {st c0 l0 odds late was j : Nat} {J : Nat → Nat → Nat} (ho : odds ≤ 4) : ∀ {l : List (Nat × Nat)}, (sprd dy st c0 l0 odds late J was j l).length ≤ 2 * l.length ∧ sO (sprd dy st c0 l0 odds late J was j l) ≤ 4 * sO l := by
  intro l
  induction l with
  | nil => simp [sprd, sO]
  | cons q l ih =>
    have := spr1_le (dy := dy) (st := st) (c0 := c0) (l0 := l0) (late := late) (J := J) (was := was) (j := j) (q := q) ho
    unfold sprd at ih ⊢
    rw [List.flatMap_cons, List.length_append, sO_app, List.length_cons]
    simp only [sO]
    omega
theorem okO_next {dy : Nat → Nat} {st c0 l0 odds late was j lv : Nat} {J : Nat → Nat → Nat} {l : List (Nat × Nat)} (h : okO lv l) (ho : odds ≤ 4) (h1 : st ≤ 3) (h2 : l0 ≤ 3) (h3 : J 1 j ≤ 9) : okO (lv + 1) (sprd dy st c0 l0 odds late J was j l) := by
  obtain ⟨a, b, c⟩ := h
  have := sprd_le (dy := dy) (st := st) (c0 := c0) (l0 := l0) (late := late) (J := J) (was := was) (j := j) (l := l) ho
  refine ⟨by rw [Nat.pow_succ]; omega, by rw [Nat.pow_succ]; omega, fun q hq => ?_⟩
  unfold sprd at hq
  obtain ⟨q', hq', hq⟩ := List.mem_flatMap.mp hq
  have hc := c q' hq'
  have hu := uB_le (st := st) (c0 := c0) (l0 := l0) (J := J) (R := J 1) (u := q'.1) (was := was) (j := j) (by omega) h1 h2
  have hu2 : uB st c0 l0 J (J 1) q'.1 was j + J 1 j ≤ q'.1 + 21 := by
    unfold uB
    repeat' split
    all_goals omega
  unfold spr1 keep1 at hq
  rcases List.mem_append.mp hq with hq | hq
  · split at hq
    · simp at hq; subst hq; simp only []; omega
    · simp at hq
  · split at hq
    · simp at hq; subst hq; simp only []; omega
    · simp at hq
/-- base of the chances -/
def CB (dy : Nat → Nat) (st c0 l0 fine odds late n : Nat) (J : Nat → Nat → Nat) (w : AW) : Prop := CCo dy st c0 l0 fine odds w ∧ CJo 2 n J w ∧ w.1 52 6 = nI late
theorem CB.fr {dy : Nat → Nat} {st c0 l0 fine odds late n : Nat} {J : Nat → Nat → Nat} {w w' : AW} {T : Nat → Nat → Bool} (h : CB dy st c0 l0 fine odds late n J w) (f : Fr T w w') (h1 : ∀ k, T 46 k = false) (h2 : ∀ k, T 47 k = false) (h3 : ∀ i, i < 6 → ∀ k, T (2 + i) k = false) (h4 : T 52 6 = false) : CB dy st c0 l0 fine odds late n J w' :=
  ⟨h.1.fr f h1 h2, h.2.1.fr f h3, by rw [f.at' _ h4]; exact h.2.2⟩
def TI (p : Nat) (o k : Nat) : Bool := (o == 53 && k == p) || (o == 54 && k == p) || (o == 52 && k == 7)
theorem TI_lo {p : Nat} : ∀ i, i < 6 → ∀ k, TI p (2 + i) k = false := by
  intro i hi k
  have h1 : (2 + i == 53) = false := by simp; omega
  have h2 : (2 + i == 54) = false := by simp; omega
  have h3 : (2 + i == 52) = false := by simp; omega
  simp [TI, h1, h2, h3]
set_option maxHeartbeats 2000000 in
theorem inner_ev {dy : Nat → Nat} {st c0 l0 fine odds late n N : Nat} {J : Nat → Nat → Nat} {w : AW} {c1 c2 : Int32} (hB : CB dy st c0 l0 fine odds late n J w) (bc : bC dy st c0 l0 fine odds) (bj : bJ n J) (hn : n ≤ 6) (hl : late ≤ 1)
    {j fr to i k s t tw x : Nat} {e : Int} (hj : j < n) (hfr : fr + i < 128) (hto : to + k < 128) (ht1 : 1 ≤ t) (ht2 : t ≤ 126) (htw : tw ≤ 1) (hx : w.1 54 (fr + i) = nI x) (hx2 : x ≤ 5000) (he : w.1 52 7 = zI e) :
    ∃ w', lbX2_spread_62_2 N 2 c1 c2 (nI j) (nI fr) (nI to) (nI i) (nI k, nI s, nI t, nI tw, w) = some (.inl (nI (k + (keep1 dy late J j t (x * (if tw = 0 then 4 - odds else odds))).length), nI (s + sO (keep1 dy late J j t (x * (if tw = 0 then 4 - odds else odds)))), nI (t + J 1 j), nI (tw + 1), w')) ∧
      Fr (TI (to + k)) w w' ∧ w'.1 52 7 = zI (e + eO dy fine J j (keep1 dy late J j t (x * (if tw = 0 then 4 - odds else odds)))) ∧ (∀ q ∈ keep1 dy late J j t (x * (if tw = 0 then 4 - odds else odds)), w'.1 53 (to + k) = nI q.1 ∧ w'.1 54 (to + k) = nI q.2) := by
  obtain ⟨hC, hJ, hlt⟩ := hB
  obtain ⟨cf, co, cs, cc, cl, cd⟩ := id hC
  obtain ⟨bst, bc0, bl0, bf, bo, bdy⟩ := id bc
  have ho4 : (4 : Int32) - nI odds = nI (4 - odds) := by rw [n4, nsub bo]
  have ed := dayAt_ev hC ht1 ht2
  have hdy := bdy t ht1 ht2
  obtain ⟨j0, j1, j2, j3, j4⟩ := hJ.2 j hj
  obtain ⟨b0, b1, b2, b3, b4, b5⟩ := bj j hj
  have hyl : x * (if tw = 0 then 4 - odds else odds) ≤ 5000 * 4 := Nat.mul_le_mul hx2 (by split <;> omega)
  have htw01 : tw = 0 ∨ tw = 1 := by omega
  generalize hy : x * (if tw = 0 then 4 - odds else odds) = y at *
  have hv0 : tw = 0 → nI x * nI (4 - odds) = nI y := fun h => by rw [h, if_pos rfl] at hy; rw [nmul, hy]
  have hv1 : tw = 1 → nI x * nI odds = nI y := fun h => by rw [h, if_neg (by omega)] at hy; rw [nmul, hy]
  by_cases hy0 : y = 0
  · have hk : keep1 dy late J j t y = [] := by unfold keep1; rw [if_neg (by omega)]
    refine ⟨w, ?_, Fr.rf, ?_, ?_⟩
    · rw [hk]
      rcases htw01 with rfl | rfl
      · have hvv := hv0 rfl
        simp (disch := omega) only [lbX2_spread_62_2, n0, n1, n2, n4, nsub bo, nadd, nle, neq, ntn, gd_n, lw_eq, hx, co, hvv, ed, bd_some', hy0, gd_true, j1, Nat.le_refl, if_true, if_neg (show ¬ 2 ≤ 0 by omega), List.length_nil, sO, Nat.add_zero]
      · simp (disch := omega) only [lbX2_spread_62_2, n0, n1, n2, nadd, nle, neq, ntn, gd_n, lw_eq, hx, co, hv1 rfl, ed, bd_some', hy0, gd_true, j1, Nat.le_refl, if_true, if_neg (show ¬ 2 ≤ 1 by omega), if_neg (show ¬ 1 = 0 by omega), List.length_nil, sO, Nat.add_zero]
    · rw [hk, he]; simp [eO]
    · rw [hk]; intro q hq; cases hq
  · by_cases hkp : late = 1 ∨ dy t ≤ J 3 j
    · have hk : keep1 dy late J j t y = [(t, y)] := by unfold keep1; rw [if_pos ⟨by omega, hkp⟩]
      have F1 : Fr (TI (to + k)) w (setI w 53 (to + k) (nI t)) := Fr.set (by simp [TI])
      have F2 : Fr (TI (to + k)) w (setI (setI w 53 (to + k) (nI t)) 54 (to + k) (nI y)) := F1.tr (Fr.set (by simp [TI]))
      have hJ2 := hJ.fr F2 TI_lo
      have ev := valueOf_ev hJ2 bj hn hj (e := dy t) (by omega) bf
      refine ⟨setI (setI (setI w 53 (to + k) (nI t)) 54 (to + k) (nI y)) 52 7 (zI (e + (y : Int) * vOf fine J j (dy t))), ?_, F2.tr (Fr.set (by simp [TI])), ?_, ?_⟩
      · rw [hk]
        have hlate : late = 1 ∨ late = 0 := by omega
        have hmul : nI y * zI (vOf fine J j (dy t)) = zI ((y : Int) * vOf fine J j (dy t)) := by rw [zI_nI, zmul]
        rcases htw01 with rfl | rfl
        · have hvv := hv0 rfl
          rcases hlate with rfl | rfl
          · simp (disch := omega) only [lbX2_spread_62_2, n0, n1, n2, n4, nsub bo, nadd, nle, neq, nlt, ntn, gd_n, lw_eq, hx, co, hvv, ed, bd_some', hlt, gd_true, setI1, Nat.reduceEqDiff, false_and, and_false, if_false, cf, ev, he, hmul, zadd, j1, if_true, if_neg (show ¬ 2 ≤ 0 by omega), if_neg (show ¬ y ≤ 0 by omega), List.length_cons, List.length_nil, sO, Nat.add_zero, Nat.zero_add]
          · have hd : dy t ≤ J 3 j := by omega
            simp (disch := omega) only [lbX2_spread_62_2, n0, n1, n2, n4, nsub bo, nadd, nle, neq, nlt, ntn, gd_n, lw_eq, hx, co, hvv, ed, bd_some', hlt, gd_true, setI1, Nat.reduceEqDiff, false_and, and_false, if_false, cf, ev, he, hmul, zadd, j1, j3, if_true, if_neg (show ¬ 2 ≤ 0 by omega), if_neg (show ¬ y ≤ 0 by omega), if_neg (show ¬ J 3 j < dy t by omega), List.length_cons, List.length_nil, sO, Nat.add_zero, Nat.zero_add]
        · have hvv := hv1 rfl
          rcases hlate with rfl | rfl
          · simp (disch := omega) only [lbX2_spread_62_2, n0, n1, n2, nadd, nle, neq, nlt, ntn, gd_n, lw_eq, hx, co, hvv, ed, bd_some', hlt, gd_true, setI1, Nat.reduceEqDiff, false_and, and_false, if_false, cf, ev, he, hmul, zadd, j1, if_true, if_neg (show ¬ 2 ≤ 1 by omega), if_neg (show ¬ 1 = 0 by omega), if_neg (show ¬ y ≤ 0 by omega), List.length_cons, List.length_nil, sO, Nat.add_zero, Nat.zero_add]
          · have hd : dy t ≤ J 3 j := by omega
            simp (disch := omega) only [lbX2_spread_62_2, n0, n1, n2, nadd, nle, neq, nlt, ntn, gd_n, lw_eq, hx, co, hvv, ed, bd_some', hlt, gd_true, setI1, Nat.reduceEqDiff, false_and, and_false, if_false, cf, ev, he, hmul, zadd, j1, j3, if_true, if_neg (show ¬ 2 ≤ 1 by omega), if_neg (show ¬ 1 = 0 by omega), if_neg (show ¬ y ≤ 0 by omega), if_neg (show ¬ J 3 j < dy t by omega), List.length_cons, List.length_nil, sO, Nat.add_zero, Nat.zero_add]
      · rw [hk]; simp [setI1, eO]
      · rw [hk]; intro q hq; simp at hq; subst hq; simp [setI1]
    · have hk : keep1 dy late J j t y = [] := by unfold keep1; rw [if_neg (fun h => hkp h.2)]
      have hl0 : late = 0 := by omega
      subst hl0
      have hd : J 3 j < dy t := by omega
      refine ⟨w, ?_, Fr.rf, ?_, ?_⟩
      · rw [hk]
        rcases htw01 with rfl | rfl
        · have hvv := hv0 rfl
          simp (disch := omega) only [lbX2_spread_62_2, n0, n1, n2, n4, nsub bo, nadd, nle, neq, nlt, ntn, gd_n, lw_eq, hx, co, hvv, ed, bd_some', hlt, gd_true, j1, j3, if_true, if_neg (show ¬ 2 ≤ 0 by omega), if_neg (show ¬ y ≤ 0 by omega), hd, List.length_nil, sO, Nat.add_zero]
        · have hvv := hv1 rfl
          simp (disch := omega) only [lbX2_spread_62_2, n0, n1, n2, nadd, nle, neq, nlt, ntn, gd_n, lw_eq, hx, co, hvv, ed, bd_some', hlt, gd_true, j1, j3, if_true, if_neg (show ¬ 2 ≤ 1 by omega), if_neg (show ¬ 1 = 0 by omega), if_neg (show ¬ y ≤ 0 by omega), hd, List.length_nil, sO, Nat.add_zero]
      · rw [hk, he]; simp [eO]
      · rw [hk]; intro q hq; cases hq

