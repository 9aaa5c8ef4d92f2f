/-! 28: the program goes through all orders -/
/-- jobs in the world of the program -/
def CJo (o n : Nat) (J : Nat → Nat → Nat) (w : AW) : Prop := w.1 o 0 = nI n ∧ ∀ j, j < n → w.1 (o + 1) j = nI (J 0 j) ∧ w.1 (o + 2) j = nI (J 1 j) ∧ w.1 (o + 3) j = nI (J 2 j) ∧ w.1 (o + 4) j = nI (J 3 j) ∧ w.1 (o + 5) j = nI (J 4 j)
theorem CJo.fr {o n : Nat} {J : Nat → Nat → Nat} {w w' : AW} {T : Nat → Nat → Bool} (h : CJo o n J w) (f : Fr T w w') (ht : ∀ i, i < 6 → ∀ k, T (o + i) k = false) : CJo o n J w' := by
  obtain ⟨h0, h1⟩ := h
  refine ⟨by rw [f.at' _ (show T o 0 = false from ht 0 (by omega) 0)]; exact h0, fun j hj => ?_⟩
  obtain ⟨a, b, c, d, e⟩ := h1 j hj
  exact ⟨by rw [f.at' _ (ht 1 (by omega) j)]; exact a, by rw [f.at' _ (ht 2 (by omega) j)]; exact b, by rw [f.at' _ (ht 3 (by omega) j)]; exact c, by rw [f.at' _ (ht 4 (by omega) j)]; exact d, by rw [f.at' _ (ht 5 (by omega) j)]; exact e⟩
theorem CCo.fr {dy : Nat → Nat} {st c0 l0 fine odds : Nat} {w w' : AW} {T : Nat → Nat → Bool} (h : CCo dy st c0 l0 fine odds w) (f : Fr T w w') (h1 : ∀ k, T 46 k = false) (h2 : ∀ k, T 47 k = false) : CCo dy st c0 l0 fine odds w' := by
  obtain ⟨a, b, c, d, e, g⟩ := h
  exact ⟨by rw [f.at' _ (h1 _)]; exact a, by rw [f.at' _ (h1 _)]; exact b, by rw [f.at' _ (h1 _)]; exact c, by rw [f.at' _ (h1 _)]; exact d, by rw [f.at' _ (h1 _)]; exact e, fun u hu1 hu2 => by rw [f.at' _ (h2 _)]; exact g u hu1 hu2⟩
/-- numbers of the course as told -/
def bC (dy : Nat → Nat) (st c0 l0 fine odds : Nat) : Prop := st ≤ 3 ∧ c0 ≤ 1 ∧ l0 ≤ 3 ∧ fine ≤ 99 ∧ odds ≤ 4 ∧ ∀ u, 1 ≤ u → u ≤ 126 → dy u ≤ 186
theorem usedBehind_ev {dy : Nat → Nat} {st c0 l0 fine odds o n : Nat} {J : Nat → Nat → Nat} {w : AW} (hC : CCo dy st c0 l0 fine odds w) (hJ : CJo o n J w) (bc : bC dy st c0 l0 fine odds) (bj : bJ n J) (hn : n ≤ 6) {u was j : Nat} (hj : j < n) (hu : u ≤ 1000) (hw : was ≤ 1) :
    fX3_usedBehind (nI u) (nI was) o (nI j) w = some (nI (uB st c0 l0 J (J 1) u was j)) := by
  obtain ⟨a, b, c, d, e, g⟩ := hC
  obtain ⟨j0, j1, j2, j3, j4⟩ := hJ.2 j hj
  obtain ⟨b0, b1, b2, b3, b4, b5⟩ := bj j hj
  obtain ⟨c1, c2, c3, c4, c5, c6⟩ := bc
  unfold fX3_usedBehind bX3_usedBehind_23 uB
  simp (disch := omega) only [n0, n1, n2, n3, n4, n5, n6, n7, n8, n9, n10, n13, n16, n18, n20, n30, n32, n40, n48, n57, n59, n60, n64, n97, n99, n122, n126, n186, n200, n1000000, nadd, nmul, nlt, nle, neq, ntn, gd_n, j2, c, d, e, j1, Nat.add_zero]
  by_cases h0 : u = 0
  · simp only [h0, if_true]
    by_cases h2 : J 2 j = c0
    · rw [if_pos h2, if_pos h2, ite_self]
    · rw [if_neg h2, if_neg h2, ite_self]
  · simp only [h0, if_false]
    by_cases h1 : J 2 j = was
    · rw [if_pos h1, if_pos h1]; rfl
    · rw [if_neg h1, if_neg h1]
theorem dayAt_ev {dy : Nat → Nat} {st c0 l0 fine odds : Nat} {w : AW} (hC : CCo dy st c0 l0 fine odds w) {u : Nat} (h1 : 1 ≤ u) (h2 : u ≤ 126) : fX3_dayAt (nI u) w = some (nI (dy u)) := by
  have := hC.2.2.2.2.2 u h1 h2
  simp (disch := omega) only [fX3_dayAt, n0, n1, n2, n3, n4, n5, n6, n7, n8, n9, n10, n13, n16, n18, n20, n30, n32, n40, n48, n57, n59, n60, n64, n97, n99, n122, n126, n186, n200, n1000000, nadd, nmul, nlt, nle, neq, ntn, gd_n, if_neg (show ¬ 126 < u by omega), if_pos (show 0 < u by omega), this]
theorem valueOf_ev {o n : Nat} {J : Nat → Nat → Nat} {w : AW} (hJ : CJo o n J w) (bj : bJ n J) (hn : n ≤ 6) {j e fine : Nat} (hj : j < n) (he : e ≤ 1000) (bf : fine ≤ 99) : fX4_valueOf o (nI j) (nI e) (nI fine) w = some (zI (vOf fine J j e)) := by
  obtain ⟨j0, j1, j2, j3, j4⟩ := hJ.2 j hj
  obtain ⟨b0, b1, b2, b3, b4, b5⟩ := bj j hj
  have hm2 : -nI 2 * nI fine = zI (-2 * (fine : Int)) := by rw [zI_nI, ← zmul]; rfl
  have hng : -nI fine = zI (-(fine : Int)) := by rw [zI_nI, zneg]
  unfold vOf fX4_valueOf
  simp (disch := omega) only [n0, n1, n2, n3, n4, n5, n6, n7, n8, n9, n10, n13, n16, n18, n20, n30, n32, n40, n48, n57, n59, n60, n64, n97, n99, n122, n126, n186, n200, n1000000, nadd, nmul, nlt, nle, neq, ntn, gd_n, j0, j3, j4, ndiv]
  by_cases h1 : e ≤ J 3 j
  · rw [if_neg (show ¬ J 3 j < e by omega), if_pos h1, zI_nI]
  · rw [if_pos (show J 3 j < e by omega), if_neg h1]
    by_cases k1 : J 0 j = 1
    · simp only [k1, if_true, ← hm2]
    · by_cases k2 : J 0 j = 2
      · simp only [k2, if_true, if_false, Nat.reduceEqDiff, zI_nI]
      · by_cases k3 : J 0 j = 3
        · simp only [k3, if_true, if_false, Nat.reduceEqDiff, zI_nI, zsub]
        · by_cases k4 : J 0 j = 4
          · simp only [k4, if_true, if_false, Nat.reduceEqDiff]
            by_cases k5 : e = J 3 j + 1
            · simp only [k5, if_true]; rfl
            · simp only [k5, if_false, ← hm2]
          · simp only [k1, k2, k3, k4, if_false, ← hng]
/-- what is lost by a job that ends on a day -/
def lsA (fine : Nat) (J : Nat → Nat → Nat) (n aim j e : Nat) : Nat :=
  if aim = 0 then ((J 4 j : Int) - vOf fine J j e).toNat
  else if aim = 1 then (if e ≤ J 3 j then 0 else 1)
  else if j = n - 1 then e else if e ≤ J 3 j then 0 else 1000000
theorem lsA_le {fine : Nat} {J : Nat → Nat → Nat} {n aim j e : Nat} (bj : bJ n J) (hj : j < n) (bf : fine ≤ 99) (he : e ≤ 1000) : lsA fine J n aim j e ≤ 1000000 := by
  have b5 := (bj j hj).2.2.2.2.2
  have := vOf_ge (fine := fine) (J := J) (j := j) (e := e)
  unfold lsA
  repeat' split
  all_goals omega
theorem lossOf_ev {dy : Nat → Nat} {st c0 l0 fine odds o n aim : Nat} {J : Nat → Nat → Nat} {w : AW} (hC : CCo dy st c0 l0 fine odds w) (hJ : CJo o n J w) (bc : bC dy st c0 l0 fine odds) (bj : bJ n J) (hn : n ≤ 6) (h4 : w.1 49 3 = nI aim) (ha : aim ≤ 2)
    {j e : Nat} (hj : j < n) (he : e ≤ 1000) : fX5_lossOf o (nI j) (nI e) w = some (nI (lsA fine J n aim j e)) := by
  obtain ⟨a, -⟩ := hC
  obtain ⟨j0, j1, j2, j3, j4⟩ := hJ.2 j hj
  obtain ⟨b0, b1, b2, b3, b4, b5⟩ := bj j hj
  have ev := valueOf_ev hJ bj hn hj he bc.2.2.2.1
  have v1 := vOf_le (fine := fine) (J := J) (j := j) (e := e)
  have v2 := vOf_ge (fine := fine) (J := J) (j := j) (e := e)
  have bf := bc.2.2.2.1
  have hz : nI (J 4 j) - zI (vOf fine J j e) = nI ((J 4 j : Int) - vOf fine J j e).toNat := by
    rw [zI_nI, zsub, zI_nI, Int.toNat_of_nonneg (by omega)]
  unfold fX5_lossOf lsA
  simp (disch := omega) only [n0, n1, n2, n3, n4, n5, n6, n7, n8, n9, n10, n13, n16, n18, n20, n30, n32, n40, n48, n57, n59, n60, n64, n97, n99, n122, n126, n186, n200, n1000000, nadd, nmul, nlt, nle, neq, ntn, gd_n, lw_eq, bd_some', bd2_some', gd_true, h4, j3, j4, a, ev, hJ.1, hz, nsub (show 1 ≤ n by omega), ite_self]
  have d01 : ((if (1 : Nat) = 0 then (0 : Nat) else 1)) = 1 := rfl
  by_cases k0 : aim = 0
  · simp only [k0, if_true, ite_self]
  · by_cases k1 : aim = 1
    · simp only [k1, if_true, if_false, Nat.reduceEqDiff]
      by_cases h1 : e ≤ J 3 j <;> simp only [h1, if_true, if_false, Nat.reduceEqDiff]
    · simp only [k0, k1, if_false]
      by_cases k2 : j = n - 1
      · simp only [k2, if_true, ite_self]
      · by_cases h1 : e ≤ J 3 j <;> simp only [k2, h1, if_true, if_false, Nat.reduceEqDiff]
section
variable (dy : Nat → Nat) (st c0 l0 : Nat) (J : Nat → Nat → Nat) (R : Nat → Nat) (ls : Nat → Nat → Nat)
/-- what an order loses, from a place in it on -/
def cL (u was : Nat) : List Nat → Nat
  | [] => 0
  | j :: l => ls j (dy (uB st c0 l0 J R u was j)) + cL (uB st c0 l0 J R u was j) (J 2 j) l
end
def minG (c : List Nat → Nat) (pre : List Nat) (b : Nat × List Nat) (p : List Nat) : Nat × List Nat := if c p < b.1 then (c p, pre ++ p) else b
theorem minG_stay {c : List Nat → Nat} {pre : List Nat} {b : Nat × List Nat} : ∀ {l : List (List Nat)}, (∀ p ∈ l, b.1 ≤ c p) → l.foldl (minG c pre) b = b := by
  intro l
  induction l with
  | nil => intro _; rfl
  | cons p l ih =>
    intro h
    have hp := h p List.mem_cons_self
    rw [List.foldl_cons, show minG c pre b p = b from if_neg (by omega)]
    exact ih (fun q hq => h q (List.mem_cons_of_mem _ hq))
def rmX (x n g : Nat) : List Nat := (List.range' x (n - x)).filter (fun j => !g.testBit j)
theorem rmX_out {x n g : Nat} (h : n ≤ x) : rmX x n g = [] := by
  unfold rmX; rw [show n - x = 0 by omega]; rfl
theorem rmX_step {x n g : Nat} (h : x < n) : rmX x n g = if g.testBit x then rmX (x + 1) n g else x :: rmX (x + 1) n g := by
  unfold rmX
  rw [show n - x = (n - (x + 1)) + 1 by omega, List.range'_succ]
  by_cases hb : g.testBit x = true
  · rw [if_pos hb, List.filter_cons_of_neg (by simp [hb])]
  · rw [if_neg hb, List.filter_cons_of_pos (by simpa using hb)]
theorem rmX_mem {n g j : Nat} : j ∈ rmX 0 n g ↔ j < n ∧ g.testBit j = false := by
  simp [rmX, List.mem_range']
theorem rmX_nodup {n g : Nat} : (rmX 0 n g).Nodup := (List.nodup_range' (step := 1)).filter _
theorem rmX_erase {n g j : Nat} : (rmX 0 n g).erase j = rmX 0 n (g ||| 1 <<< j) := by
  rw [List.Nodup.erase_eq_filter rmX_nodup]
  unfold rmX
  rw [List.filter_filter]
  apply List.filter_congr
  intro a _
  rw [bt_or_test]
  by_cases h : a = j <;> simp [h]
def TK (o k : Nat) : Bool := (o == 49 && k == 5) || (o == 50) || (o == 51)
theorem TK_o {o : Nat} (ho : o = 2 ∨ o = 61) : ∀ i, i < 6 → ∀ k, TK (o + i) k = false := by
  intro i hi k
  have h1 : (o + i == 49) = false := by simp; omega
  have h2 : (o + i == 50) = false := by simp; omega
  have h3 : (o + i == 51) = false := by simp; omega
  simp [TK, h1, h2, h3]
theorem walk_ev {dy : Nat → Nat} {st c0 l0 fine odds o n aim N : Nat} {J : Nat → Nat → Nat} (bc : bC dy st c0 l0 fine odds) (bj : bJ n J) (hn : n ≤ 6) (ho : o = 2 ∨ o = 61) (ha : aim ≤ 2) (hN : 20 < N) :
    ∀ (f k : Nat) (pre : List Nat) (g u was lost le : Nat) (ch : List Nat) (w : AW), k < f → CCo dy st c0 l0 fine odds w → CJo o n J w → w.1 49 3 = nI aim → w.1 49 4 = nI (pre.length + k) → w.1 49 5 = nI le →
      (rmX 0 n g).length = k → g < 64 → pre.length + k ≤ 6 → rowL (w.1 50) pre → rowL (w.1 51) ch → u ≤ 21 * pre.length → was ≤ 1 → lost ≤ 1000000 * pre.length → le ≤ 10000000 →
      ∃ w' le' ch', fX5_walk N f o (nI pre.length) (nI u) (nI was) (nI g) (nI lost) w = some w' ∧ Fr TK w w' ∧ rowL (w'.1 50) pre ∧ w'.1 49 5 = nI le' ∧ rowL (w'.1 51) ch' ∧ le' ≤ 10000000 ∧
        (le', ch') = (pms k (rmX 0 n g)).foldl (minG (fun p => lost + cL dy st c0 l0 J (J 1) (lsA fine J n aim) u was p) pre) (le, ch) := by
  intro f
  induction f with
  | zero => intro k _ _ _ _ _ _ _ _ h; omega
  | succ f ih =>
    intro k pre g u was lost le ch w hf hC hJ h4 h5 h6 hk hg hpk hr hr51 hu hwas hlost hle
    by_cases hcut : lost < le
    · cases k with
      | zero =>
        refine ⟨cpyI (setI w 49 5 (nI lost)) 50 0 51 0 6, lost, pre, ?_, (Fr.set (by simp [TK])).tr (Fr.cpy (fun k => by simp [TK])), ?_, ?_, ?_, by omega, ?_⟩
        · simp (disch := omega) only [fX5_walk, fX5_walk_b, n0, n1, n2, n3, n4, n5, n6, n7, n8, n9, n10, n13, n16, n18, n20, n30, n32, n40, n48, n57, n59, n60, n64, n97, n99, n122, n126, n186, n200, n1000000, nadd, nmul, nlt, nle, neq, ntn, gd_n, lw_eq, bd_some', bd2_some', gd_true, h5, h6, hcut, if_true, if_neg (show ¬ pre.length < pre.length + 0 by omega)]
        · intro i v hv; simp [cpyI1, setI1]; exact hr i v hv
        · simp [cpyI1, setI1]
        · intro i v hv
          have hi : i < 6 := by
            rw [List.getElem?_eq_some_iff] at hv; have := hv.1; omega
          simp [cpyI1, setI1, hi]; exact hr i v hv
        · simp [pms, minG, cL, hcut]
      | succ k =>
        have key := wh_cnt (body := lbX5_walk_43_1 N (fun o0 a1 a2 a3 a4 a5 w => fX5_walk N f o0 a1 a2 a3 a4 a5 w) o (nI pre.length) (nI u) (nI was) (nI g) (nI lost)) (n := n)
          (I := fun x s => ∃ w1 le1 ch1, s = (nI x, w1) ∧ Fr TK w w1 ∧ rowL (w1.1 50) pre ∧ w1.1 49 5 = nI le1 ∧ rowL (w1.1 51) ch1 ∧ le1 ≤ 10000000 ∧
            (rmX x n g).foldl (fun acc j => ((pms k ((rmX 0 n g).erase j)).map (fun p => j :: p)).foldl (minG (fun p => lost + cL dy st c0 l0 J (J 1) (lsA fine J n aim) u was p) pre) acc) (le1, ch1) = (pms (k + 1) (rmX 0 n g)).foldl (minG (fun p => lost + cL dy st c0 l0 J (J 1) (lsA fine J n aim) u was p) pre) (le, ch))
          (Q := fun w1 => ∃ le1 ch1, Fr TK w w1 ∧ rowL (w1.1 50) pre ∧ w1.1 49 5 = nI le1 ∧ rowL (w1.1 51) ch1 ∧ le1 ≤ 10000000 ∧ (le1, ch1) = (pms (k + 1) (rmX 0 n g)).foldl (minG (fun p => lost + cL dy st c0 l0 J (J 1) (lsA fine J n aim) u was p) pre) (le, ch))
          ?_ ?_ (N := N) (i := 0) (s := (0, w)) ⟨w, le, ch, rfl, Fr.rf, hr, h6, hr51, hle, by rw [pms, List.foldl_flatMap]⟩ (by omega) (by omega)
        · obtain ⟨w1, e1, le1, ch1, e2, e3, e4, e5, e6, e7⟩ := key
          refine ⟨w1, le1, ch1, ?_, e2, e3, e4, e5, e6, e7⟩
          rw [n0] at e1
          simp (disch := omega) only [fX5_walk, fX5_walk_b, n0, n1, n2, n3, n4, n5, n6, n7, n8, n9, n10, n13, n16, n18, n20, n30, n32, n40, n48, n57, n59, n60, n64, n97, n99, n122, n126, n186, n200, n1000000, nadd, nmul, nlt, nle, neq, ntn, gd_n, lw_eq, bd_some', bd2_some', gd_true, h5, h6, hcut, if_true, if_pos (show pre.length < pre.length + (k + 1) by omega), e1]
        · rintro x s hx ⟨w1, le1, ch1, rfl, hF, g1, g2, g3, g4, g5⟩
          have hC1 : CCo dy st c0 l0 fine odds w1 := hC.fr hF (fun k => rfl) (fun k => rfl)
          have hJ1 : CJo o n J w1 := hJ.fr hF (TK_o ho)
          have k4 : w1.1 49 3 = nI aim := by rw [hF.at' _ rfl, h4]
          have k5 : w1.1 49 4 = nI (pre.length + (k + 1)) := by rw [hF.at' _ rfl, h5]
          rw [rmX_step hx] at g5
          by_cases hb : g.testBit x = true
          · rw [if_pos hb] at g5
            refine ⟨(nI (x + 1), w1), ?_, w1, le1, ch1, rfl, hF, g1, g2, g3, g4, g5⟩
            have hb0 : ¬ (((nI g >>> (nI x &&& 31)) &&& 1) = 0) := by rw [bt0 hg (by omega), hb]; simp
            rw [lbX5_walk_43_1]
            simp only [hb0, if_false]
            simp (disch := omega) only [n0, n1, n2, n3, n4, n5, n6, n7, n8, n9, n10, n13, n16, n18, n20, n30, n32, n40, n48, n57, n59, n60, n64, n97, n99, n122, n126, n186, n200, n1000000, nadd, nmul, nlt, nle, neq, ntn, gd_n, lw_eq, bd_some', bd2_some', gd_true, hJ1.1, if_neg (show ¬ n ≤ x by omega)]
          · rw [if_neg hb, List.foldl_cons] at g5
            have hbf : g.testBit x = false := by simpa using hb
            have hb0 : ((nI g >>> (nI x &&& 31)) &&& 1) = 0 := by rw [bt0 hg (by omega), hbf]
            have hxm : x ∈ rmX 0 n g := rmX_mem.mpr ⟨hx, hbf⟩
            have eu := usedBehind_ev hC1 hJ1 bc bj hn (u := u) (was := was) hx (by omega) hwas
            have bx := bj x hx
            have hu1 := uB_lt (st := st) (c0 := c0) (l0 := l0) (J := J) (R := J 1) (u := u) (was := was) bx.2.1
            have hu2 := uB_le (st := st) (c0 := c0) (l0 := l0) (J := J) (R := J 1) (u := u) (was := was) (j := x) (by omega) bc.1 bc.2.2.1
            generalize hU : uB st c0 l0 J (J 1) u was x = u' at *
            have hw2F : Fr TK w1 (setI w1 50 pre.length (nI x)) := Fr.set (by simp [TK])
            have hC2 := hC1.fr hw2F (fun k => rfl) (fun k => rfl)
            have hJ2 := hJ1.fr hw2F (TK_o ho)
            have ed := dayAt_ev hC2 (u := u') (by omega) (by omega)
            have hdy := bc.2.2.2.2.2 u' (by omega) (by omega)
            have el := lossOf_ev hC2 hJ2 bc bj hn (by rw [hw2F.at' _ (by simp [TK]), k4]) ha hx (e := dy u') (by omega)
            have hll := lsA_le (aim := aim) (e := dy u') bj hx bc.2.2.2.1 (by omega)
            have hcol := hJ2.2 x hx
            have hlen : ((rmX 0 n g).erase x).length = k := by rw [List.length_erase_of_mem hxm]; omega
            have hrw : rowL ((setI w1 50 pre.length (nI x)).1 50) (pre ++ [x]) := by
              intro i v hv
              rw [List.getElem?_append] at hv
              by_cases hi : i < pre.length
              · rw [if_pos hi] at hv
                simp [setI1, show ¬ i = pre.length by omega]; exact g1 i v hv
              · rw [if_neg hi] at hv
                cases hq : i - pre.length with
                | zero =>
                  rw [hq] at hv
                  simp at hv
                  simp [setI1, show i = pre.length by omega, hv]
                | succ y => rw [hq] at hv; simp at hv
            rw [rmX_erase] at hlen g5
            have hpl : (pre ++ [x]).length = pre.length + 1 := by simp
            obtain ⟨w3, le3, ch3, r1, r2, r3, r4, r5, r6, r7⟩ := ih k (pre ++ [x]) (g ||| 1 <<< x) u' (J 2 x) (lost + lsA fine J n aim x (dy u')) le1 ch1 (setI w1 50 pre.length (nI x)) (by omega) hC2 hJ2
              (by rw [hw2F.at' _ (by simp [TK]), k4]) (by rw [hw2F.at' _ (by simp [TK]), k5, hpl]; congr 1; omega) (by simp [setI1, g2]) hlen (btlt hg (by omega)) (by rw [hpl]; omega) hrw (by intro i v hv; simp [setI1]; exact g3 i v hv) (by rw [hpl]; omega) bx.2.2.2.1 (by rw [hpl]; omega) g4
            rw [hpl] at r1
            refine ⟨(nI (x + 1), w3), ?_, w3, le3, ch3, rfl, hF.tr (hw2F.tr r2), ?_, r4, r5, r6, ?_⟩
            · rw [lbX5_walk_43_1]
              simp only [hb0, if_true]
              simp (disch := omega) only [n0, n1, nadd, nle, ntn, gd_n, lw_eq, bd_some', bd2_some', gd_true, hJ1.1, if_neg (show ¬ n ≤ x by omega), eu, setI1, Nat.reduceEqDiff, false_and, if_false, ed, el]
              rw [← n1, btor hg (by omega), show w1.1 (o + 3) x = nI (J 2 x) from (hJ1.2 x hx).2.2.1]
              have hne : ¬ (o = 47 ∧ x = pre.length) := by omega
              simp only [hne, if_false, r1, lw_eq, bd_some', bd2_some', gd_true]
            · intro i v hv
              exact r3 i v (by rw [List.getElem?_append, if_pos (by rw [List.getElem?_eq_some_iff] at hv; exact hv.1)]; exact hv)
            · rw [← g5]
              congr 1
              rw [r7, List.foldl_map]
              congr 1
              funext b p
              simp only [minG, cL, hU, List.append_assoc, List.singleton_append, Nat.add_assoc]
        · rintro s ⟨w1, le1, ch1, rfl, hF, g1, g2, g3, g4, g5⟩
          have hJ1 : CJo o n J w1 := hJ.fr hF (TK_o ho)
          rw [rmX_out (Nat.le_refl n)] at g5
          refine ⟨w1, ?_, le1, ch1, hF, g1, g2, g3, g4, g5⟩
          simp (disch := omega) only [lbX5_walk_43_1, n0, n1, n2, n3, n4, n5, n6, n7, n8, n9, n10, n13, n16, n18, n20, n30, n32, n40, n48, n57, n59, n60, n64, n97, n99, n122, n126, n186, n200, n1000000, nadd, nmul, nlt, nle, neq, ntn, gd_n, lw_eq, bd_some', bd2_some', gd_true, hJ1.1, Nat.le_refl, if_true]
    · refine ⟨w, le, ch, ?_, Fr.rf, hr, h6, hr51, hle, (minG_stay (fun p _ => by show le ≤ lost + _; omega)).symm⟩
      simp (disch := omega) only [fX5_walk, fX5_walk_b, n0, n1, n2, n3, n4, n5, n6, n7, n8, n9, n10, n13, n16, n18, n20, n30, n32, n40, n48, n57, n59, n60, n64, n97, n99, n122, n126, n186, n200, n1000000, nadd, nmul, nlt, nle, neq, ntn, gd_n, lw_eq, bd_some', bd2_some', gd_true, h6, hcut, if_false]

