/-! 71: what may come, as the program reckons it -/
def TX (o k : Nat) : Bool := TL o k || (decide (61 ≤ o) && decide (o ≤ 66))
theorem TX_L {o k : Nat} (h : TX o k = false) : TL o k = false := by simp only [TX, Bool.or_eq_false_iff] at h; exact h.1
theorem TX_61 {o k : Nat} (h : TX o k = false) : (decide (61 ≤ o) && decide (o ≤ 61 + 5)) = false := by simp only [TX, Bool.or_eq_false_iff] at h; exact h.2
def typR (T : Nat → Nat → Nat) (day : Nat) : Nat → Nat → Nat := fun i x => jR (T 0 x) (T 1 x) (T 2 x) (day + T 3 x) (T 4 x) i
theorem CJo.cgr {o n : Nat} {J J' : Nat → Nat → Nat} {w : AW} (h : CJo o n J w) (e : ∀ y, y < n → ∀ k, J k y = J' k y) : CJo o n J' w := by
  refine ⟨h.1, fun y hy => ?_⟩
  have := h.2 y hy
  simp only [e y hy] at this
  exact this
theorem lf_snoc {l : List Nat} {x i : Nat} : lf (l ++ [x]) i = if i < l.length then lf l i else if i = l.length then x else 0 := by
  unfold lf
  rw [List.getD_eq_getElem?_getD, List.getElem?_append]
  split
  · rw [List.getD_eq_getElem?_getD]
  · by_cases h : i = l.length
    · subst h; simp
    · rw [if_neg h, List.getElem?_eq_none (by simp; omega)]; rfl
theorem upJ_X {n : Nat} {J R : Nat → Nat → Nat} {l : List Nat} {x : Nat} : ∀ y, y < n + l.length + 1 → ∀ k, upJ (jX n J R l) (n + l.length) (fun i => R i x) k y = jX n J R (l ++ [x]) k y := by
  intro y hy k
  unfold upJ jX
  by_cases h1 : y = n + l.length
  · rw [if_pos h1, if_neg (by omega), lf_snoc, if_neg (by omega), if_pos (by omega)]
  · rw [if_neg h1]
    by_cases h2 : y < n
    · rw [if_pos h2, if_pos h2]
    · rw [if_neg h2, if_neg h2, lf_snoc, if_pos (by omega)]
theorem rmJ_X {n : Nat} {J R : Nat → Nat → Nat} {l : List Nat} {x : Nat} : ∀ y, y < n + l.length → ∀ k, rmJ (n + l.length) (jX n J R (l ++ [x])) k y = jX n J R l k y := by
  intro y hy k
  unfold rmJ
  rw [if_pos hy, ← upJ_X y (by omega) k, upJ_lt hy]
section
variable {n k : Nat} {J T : Nat → Nat → Nat} {dy : Nat → Nat} {st c0 l0 fine odds day N : Nat} {z : Int32}
theorem bJ_X {l : List Nat} (bj : bJ n J) (ok : okT k T) (hd : day ≤ 60) (hl : ∀ x ∈ l, x < k) : bJ (n + l.length) (jX n J (typR T day) l) := by
  intro y hy
  unfold jX
  by_cases h : y < n
  · simp only [h, if_true]; exact bj y h
  · simp only [h, if_false]
    have hx := hl _ (getD_mem (l := l) (i := y - n) (by omega))
    have hx' : lf l (y - n) < k := hx
    obtain ⟨a0, a1, a2, a3, a4, a5, a6⟩ := ok.2.1 _ hx'
    simp only [typR, jR, Nat.one_ne_zero, if_true, if_false, Nat.reduceEqDiff]
    refine ⟨a0, ?_, ?_, a3, by omega, a5⟩ <;> split <;> omega
def VX (dy : Nat → Nat) (st c0 l0 fine n : Nat) (J R : Nat → Nat → Nat) (l : List Nat) : Int := Vb dy st c0 l0 fine (jX n J R l) (n + l.length) 6
theorem VX_ok (bj : bJ n J) (ok : okT k T) (hd : day ≤ 60) (bf : fine ≤ 99) {l : List Nat} (hl : ∀ x ∈ l, x < k) (hn : n + l.length ≤ 6) : -2000 ≤ VX dy st c0 l0 fine n J (typR T day) l ∧ VX dy st c0 l0 fine n J (typR T day) l ≤ 2000 := Vb_bd (bJ_X bj ok hd hl) bf hn
theorem aX_bd (bj : bJ n J) (ok : okT k T) (hd : day ≤ 60) (bf : fine ≤ 99) (hn : n ≤ 6) {l : List Nat} {c : Nat} (hl : ∀ x ∈ l, x < k) (h : n + l.length + c ≤ 6) : -(2000 * (4 : Int) ^ c) ≤ aC (VX dy st c0 l0 fine n J (typR T day)) (T 5) k c l ∧ aC (VX dy st c0 l0 fine n J (typR T day)) (T 5) k c l ≤ 2000 * (4 : Int) ^ c :=
  aC_bd (m := 6 - n) ok.2.2 (fun l h1 h2 => VX_ok bj ok hd bf h2 (by omega)) c l (by omega) hl
theorem pow4 {c : Nat} (h : c ≤ 6) : (1 : Int) ≤ (4 : Int) ^ c ∧ (4 : Int) ^ c ≤ 4096 := by
  have : c = 0 ∨ c = 1 ∨ c = 2 ∨ c = 3 ∨ c = 4 ∨ c = 5 ∨ c = 6 := by omega
  rcases this with rfl | rfl | rfl | rfl | rfl | rfl | rfl <;> decide
theorem behind_ev (bc : bC dy st c0 l0 fine odds) (bf : fine ≤ 99) (bj : bJ n J) (ok : okT k T) (hd : day ≤ 60) (hN : 20 < N) :
    ∀ c depth (l : List Nat) (w : AW), c < depth → n + l.length + c ≤ 5 → (∀ x ∈ l, x < k) → CCo dy st c0 l0 fine odds w → CTy 23 k T z w → CJo 61 (n + l.length) (jX n J (typR T day) l) w →
    ∃ w', fX0_mostOf N depth 23 61 (nI day) (nI c) w = some (zI (aC (VX dy st c0 l0 fine n J (typR T day)) (T 5) k c l), w') ∧ Fr TX w w' ∧ CJo 61 (n + l.length) (jX n J (typR T day) l) w' := by
  intro c
  induction c with
  | zero =>
    intro depth l w hdp hn hl hC hT hJ
    obtain ⟨depth, rfl⟩ : ∃ d, depth = d + 1 := ⟨depth - 1, by omega⟩
    obtain ⟨w2, mo, ch, g1, g2, -, -, -, g4⟩ := mostWorth_ev (o := 61) (N := N) (b := 6) (bI := -9) bc (bJ_X bj ok hd hl) (by omega) (Or.inr rfl) hN (Or.inl ⟨rfl, rfl⟩) hC hJ
    have hmo : mo = VX dy st c0 l0 fine n J (typR T day) l := congrArg Prod.fst g4
    refine ⟨w2, ?_, g2.wd (fun o k q => TX_L q), hJ.fr g2 (TL_o (Or.inr rfl))⟩
    simp only [fX0_mostOf, fX0_mostOf_b, show ¬ (0 < nI 0) by decide, if_false, g1, bd2_some', aC, hmo]
  | succ c ih =>
    intro depth l w hdp hn hl hC hT hJ
    obtain ⟨depth, rfl⟩ : ∃ d, depth = d + 1 := ⟨depth - 1, by omega⟩
    have hk3 := ok.1
    have e1 : nI (c + 1) - 1 = nI c := by rw [n1, nsub (by omega)]; rfl
    have hpos : 0 < nI (c + 1) := by rw [n0, nlt (by omega) (by omega)]; omega
    obtain ⟨w1, a1, a2, a3⟩ := ih depth l w (by omega) (by omega) hl hC hT hJ
    have hT1 : CTy 23 k T z w1 := hT.fr a2 (fun i hi k => by simp [TX, TL]; omega)
    have od := oddsC_ev (N := N) ok hT1 hN
    have hC1 : CCo dy st c0 l0 fine odds w1 := hC.fr a2 (fun k => rfl) (fun k => rfl)
    generalize hV : VX dy st c0 l0 fine n J (typR T day) = V at *
    have hp4 := pow4 (c := c) (by omega)
    have hA := aX_bd (dy := dy) (st := st) (c0 := c0) (l0 := l0) bj ok hd bf (by omega) hl (show n + l.length + c ≤ 6 by omega)
    rw [hV] at hA
    have hB : ∀ x, x < k → -(2000 * (4 : Int) ^ c) ≤ aC V (T 5) k c (l ++ [x]) ∧ aC V (T 5) k c (l ++ [x]) ≤ 2000 * (4 : Int) ^ c := fun x hx => by
      have := aX_bd (dy := dy) (st := st) (c0 := c0) (l0 := l0) (c := c) (l := l ++ [x]) bj ok hd bf (by omega) (fun y hy => by
        rcases List.mem_append.mp hy with hy | hy
        · exact hl y hy
        · simp at hy; omega) (by simp; omega)
      rw [hV] at this; exact this
    have key := wh_cnt (body := lbX0_mostOf_43_1 N (fun o0 o1 a2 a3 w => fX0_mostOf N depth o0 o1 a2 a3 w) 23 61 (nI day) (nI (c + 1)) (zI (aC V (T 5) k c l))) (n := k)
      (I := fun i s => ∃ w', s = (zI (aC V (T 5) k c l * ((4 : Int) - (sN (T 5) k : Int)) + zS (fun x => (T 5 x : Int) * (if aC V (T 5) k c (l ++ [x]) < aC V (T 5) k c l then aC V (T 5) k c l else aC V (T 5) k c (l ++ [x]))) i), nI i, w') ∧ Fr TX w w' ∧ CJo 61 (n + l.length) (jX n J (typR T day) l) w')
      (Q := fun e => ∃ w', e = (zI (aC V (T 5) k (c + 1) l), w') ∧ Fr TX w w' ∧ CJo 61 (n + l.length) (jX n J (typR T day) l) w')
      ?_ ?_ (N := N) (i := 0) (s := (zI (aC V (T 5) k c l) * (4 - nI (sN (T 5) k)), 0, w1)) ⟨w1, ?_, a2, a3⟩ (Nat.zero_le _) (by omega)
    · obtain ⟨e, k1, w', rfl, k2, k3⟩ := key
      refine ⟨w', ?_, k2, k3⟩
      simp only [fX0_mostOf, fX0_mostOf_b, hpos, if_true, e1, a1, bd2_some', od, bd_some', k1]
    · rintro x s hx ⟨w', rfl, g1, g2⟩
      obtain ⟨t0, t1, t2⟩ := hT.fr g1 (fun i hi k => by simp [TX, TL]; omega)
      obtain ⟨q0, q1, q2, q3, q4, q5, q6, q7⟩ := ok.2.1 x hx
      have f0 := t2 x hx 0 (by omega)
      have f1 := t2 x hx 1 (by omega)
      have f2 := t2 x hx 2 (by omega)
      have f3 := t2 x hx 3 (by omega)
      have f4 := t2 x hx 4 (by omega)
      obtain ⟨w3, b1, b2, b3⟩ := add_ev (k := T 0 x) (s := T 1 x) (c := T 2 x) (b := day + T 3 x) (p := T 4 x) g2 (by omega) q0 q2
      have b3' : CJo 61 (n + (l ++ [x]).length) (jX n J (typR T day) (l ++ [x])) w3 := by
        rw [List.length_append, List.length_singleton, ← Nat.add_assoc]
        exact b3.cgr (fun y hy k => upJ_X (R := typR T day) (x := x) y (by omega) k)
      have b2' : Fr TX w' w3 := b2.wd (fun o k q => TX_61 q)
      obtain ⟨w4, c1, c2, c3⟩ := ih depth (l ++ [x]) w3 (by omega) (by simp; omega) (fun y hy => by
        rcases List.mem_append.mp hy with hy | hy
        · exact hl y hy
        · simp at hy; omega) ((hC.fr g1 (fun k => rfl) (fun k => rfl)).fr b2' (fun k => rfl) (fun k => rfl)) ((hT.fr g1 (fun i hi k => by simp [TX, TL]; omega)).fr b2' (fun i hi k => by simp [TX, TL]; omega)) b3'
      rw [List.length_append, List.length_singleton, ← Nat.add_assoc] at c3
      obtain ⟨w5, d1, d2, d3⟩ := remove_ev (N := N) (j := n + l.length) c3 (by omega) (by omega) hN
      rw [Nat.add_sub_cancel] at d3
      have d3' := d3.cgr (fun y hy k => rmJ_X (R := typR T day) (x := x) (J := J) y hy k)
      have F5 : Fr TX w w5 := g1.tr (b2'.tr (c2.tr (d2.wd (fun o k q => TX_61 q))))
      have t5 : w5.1 29 x = nI (T 5 x) := (hT.fr F5 (fun i hi k => by simp [TX, TL]; omega)).2.2 x hx 5 (by omega)
      have cnt : w4.1 61 0 = nI (n + l.length + 1) := c3.1
      have ecnt : nI (n + l.length + 1) - 1 = nI (n + l.length) := by rw [n1, nsub (by omega)]; rfl
      have hBx := hB x hx
      have emx : (if zI (aC V (T 5) k c (l ++ [x])) < zI (aC V (T 5) k c l) then zI (aC V (T 5) k c l) else zI (aC V (T 5) k c (l ++ [x]))) = zI (if aC V (T 5) k c (l ++ [x]) < aC V (T 5) k c l then aC V (T 5) k c l else aC V (T 5) k c (l ++ [x])) := by
        have hlt : (zI (aC V (T 5) k c (l ++ [x])) < zI (aC V (T 5) k c l)) = (aC V (T 5) k c (l ++ [x]) < aC V (T 5) k c l) := zlt (by omega) (by omega) (by omega) (by omega)
        by_cases hq : aC V (T 5) k c (l ++ [x]) < aC V (T 5) k c l
        · rw [if_pos (hlt ▸ hq), if_pos hq]
        · rw [if_neg (hlt ▸ hq), if_neg hq]
      refine ⟨_, ?_, w5, rfl, F5, d3'⟩
      have hnn : ¬ nI k ≤ nI x := by rw [nle (by omega) (by omega)]; omega
      simp only [lbX0_mostOf_43_1, t0, hnn, if_false, gd_n (show x < 3 by omega) (show x ≤ 2147483647 by omega), ntn (show x ≤ 2147483647 by omega), Nat.reduceAdd, f0, f1, f2, f3, f4, nadd, b1, bd_some', e1, c1, bd2_some', cnt, ecnt, d1, t5, lw_eq, emx]
      rw [show nI x + 1 = nI (x + 1) by rw [n1, nadd]]
      congr 3
      rw [zI_nI, zmul, zadd]
      congr 1
      simp only [zS]
      omega
    · rintro s ⟨w', rfl, g1, g2⟩
      obtain ⟨t0, t1, t2⟩ := hT.fr g1 (fun i hi k => by simp [TX, TL]; omega)
      refine ⟨_, ?_, w', rfl, g1, g2⟩
      simp only [lbX0_mostOf_43_1, t0, Int32.le_refl, if_true, aC]
    · congr 1
      rw [show (4 : Int32) = zI 4 from rfl, zI_nI, zsub, zmul]
      congr 1
      simp only [zS]; omega
end
