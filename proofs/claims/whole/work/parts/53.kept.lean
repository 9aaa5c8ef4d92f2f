/-! 53: boards kept -/
theorem bcopy_ev {b b0 n N : Nat} {J : Nat → Nat → Nat} {L lost nig : Nat → Nat} {day col left : Nat} {till : Int32} {p : List Nat} {w : AW} (h : CBd b0 n J L lost nig day col left till p w) (hb : (b = 12 ∧ b0 = 1) ∨ (b = 1 ∧ b0 = 12)) (hn : n ≤ 6) (hp : p.length ≤ 6) (hN : 20 < N) :
    ∃ w', fX1_copy N b b0 w = some w' ∧ Fr (fun o _ => decide (b ≤ o) && decide (o ≤ b + 10)) w w' ∧ CBd b n J L lost nig day col left till p w' := by
  obtain ⟨h1, h2, h3, h4, h5, h6, h7, h8, h9⟩ := h
  obtain ⟨w1, e1, e2, e3⟩ := copy_ev (o := b + 1) (N := N) h1 (by omega) hn hN
  have f1 : Fr (fun o _ => decide (b ≤ o) && decide (o ≤ b + 10)) w w1 := e2.wd (fun o k q => by simp at q ⊢; omega)
  generalize hw2 : cpyI (cpyI (cpyI (cpyI w1 (b0 + 7) 0 (b + 7) 0 4) (b0 + 8) 0 (b + 8) 0 61) (b0 + 9) 0 (b + 9) 0 61) (b0 + 10) 0 (b + 10) 0 6 = w2
  have f2 : Fr (fun o _ => decide (b + 7 ≤ o) && decide (o ≤ b + 10)) w1 w2 := by
    subst hw2
    exact (((Fr.cpy (fun k => by simp)).tr (Fr.cpy (fun k => by simp))).tr (Fr.cpy (fun k => by simp))).tr (Fr.cpy (fun k => by simp))
  have g5 : w2.1 b0 5 = nI day := by rw [f2.at' _ (by simp; omega), f1.at' _ (by simp; omega)]; exact h6
  have g6 : w2.1 b0 6 = nI col := by rw [f2.at' _ (by simp; omega), f1.at' _ (by simp; omega)]; exact h7
  have g7 : w2.1 b0 7 = nI left := by rw [f2.at' _ (by simp; omega), f1.at' _ (by simp; omega)]; exact h8
  have g8 : w2.1 b0 8 = till := by rw [f2.at' _ (by simp; omega), f1.at' _ (by simp; omega)]; exact h9
  have hne : b0 ≠ b := by omega
  have f3 : Fr (fun o _ => o == b) w2 (setI (setI (setI (setI w2 b 5 (nI day)) b 6 (nI col)) b 7 (nI left)) b 8 till) := (((Fr.set (by simp)).tr (Fr.set (by simp))).tr (Fr.set (by simp))).tr (Fr.set (by simp))
  refine ⟨setI (setI (setI (setI w2 b 5 (nI day)) b 6 (nI col)) b 7 (nI left)) b 8 till, ?_, f1.tr ((f2.wd (fun o k q => by simp at q ⊢; omega)).tr (f3.wd (fun o k q => by simp at q ⊢; omega))), ((e3.fr f2 (fun i hi k => by simp; omega)).fr f3 (fun i hi k => by simp; omega)), fun i hi => ?_, fun i hi => ?_, fun i hi => ?_, fun i v hv => ?_, by simp [setI1], by simp [setI1], by simp [setI1], by simp [setI1]⟩
  · have z4 : (4 : Int32).toNatClampNeg = 4 := rfl
    have z61 : (61 : Int32).toNatClampNeg = 61 := rfl
    have z6 : (6 : Int32).toNatClampNeg = 6 := rfl
    have z0 : (0 : Int32).toNatClampNeg = 0 := rfl
    simp only [fX1_copy, e1, bd_some', lw_eq, z4, z61, z6, z0, hw2, setI1, hne, false_and, if_false, g5, g6, g7, g8]
  · rw [f3.at' _ (by simp)]
    subst hw2
    rw [cpyI1, if_neg (by omega), cpyI1, if_neg (by omega), cpyI1, if_neg (by omega), cpyI1, if_pos rfl, if_pos (by omega), Nat.zero_add, Nat.sub_zero, f1.at' _ (by simp; omega)]
    exact h2 i hi
  · rw [f3.at' _ (by simp)]
    subst hw2
    rw [cpyI1, if_neg (by omega), cpyI1, if_neg (by omega), cpyI1, if_pos rfl, if_pos (by omega), cpyI1, if_neg (by omega), Nat.zero_add, Nat.sub_zero, f1.at' _ (by simp; omega)]
    exact h3 i hi
  · rw [f3.at' _ (by simp)]
    subst hw2
    rw [cpyI1, if_neg (by omega), cpyI1, if_pos rfl, if_pos (by omega), cpyI1, if_neg (by omega), cpyI1, if_neg (by omega), Nat.zero_add, Nat.sub_zero, f1.at' _ (by simp; omega)]
    exact h4 i hi
  · have hi : i < p.length := by rw [List.getElem?_eq_some_iff] at hv; exact hv.1
    rw [f3.at' _ (by simp)]
    subst hw2
    rw [cpyI1, if_pos rfl, if_pos (by omega), cpyI1, if_neg (by omega), cpyI1, if_neg (by omega), cpyI1, if_neg (by omega), Nat.zero_add, Nat.sub_zero, f1.at' _ (by simp; omega)]
    exact h5 i v hv
theorem tcopy_ev {t t0 k N : Nat} {T : Nat → Nat → Nat} {z : Int32} {w : AW} (h : CTy t0 k T z w) (hb : (t = 30 ∧ t0 = 23) ∨ (t = 23 ∧ t0 = 30)) (hk : k ≤ 3) (hN : 20 < N) :
    ∃ w', fX10_copy N t t0 w = some w' ∧ Fr (fun o _ => decide (t ≤ o) && decide (o ≤ t + 6)) w w' ∧ CTy t k T z w' := by
  obtain ⟨h1, h2, h3⟩ := h
  have key := wh_cnt (body := lbX10_copy_18_1 N t t0) (n := k)
    (I := fun i s => ∃ w1, s = (nI i, w1) ∧ Fr (fun o _ => decide (t ≤ o) && decide (o ≤ t + 6)) w w1 ∧ w1.1 t 0 = nI k ∧ w1.1 t 1 = z ∧ ∀ j, j < i → ∀ x, x < 6 → w1.1 (t + 1 + x) j = nI (T x j))
    (Q := fun w1 => Fr (fun o _ => decide (t ≤ o) && decide (o ≤ t + 6)) w w1 ∧ CTy t k T z w1)
    ?_ ?_ (N := N) (i := 0) (s := (0, setI (setI w t 0 (nI k)) t 1 z)) ⟨_, rfl, (Fr.set (by simp)).tr (Fr.set (by simp)), by simp [setI1], by simp [setI1], fun j hj => by omega⟩ (Nat.zero_le _) (by omega)
  · obtain ⟨w1, e1, e2, e3⟩ := key
    refine ⟨w1, ?_, e2, e3⟩
    have hne : ¬ (t0 = t ∧ 1 = 0) := by omega
    simp only [fX10_copy, h1, lw_eq, setI1, hne, if_false, h2, e1, bd_some']
  · rintro i s hi ⟨w1, rfl, hF, g0, g1, hj⟩
    have src : ∀ x, x < 6 → w1.1 (t0 + 1 + x) i = nI (T x i) := fun x hx => by rw [hF.at' _ (by simp; omega)]; exact h3 i hi x hx
    have s0 : w1.1 (t0 + 1) i = nI (T 0 i) := src 0 (by omega)
    have s1 : w1.1 (t0 + 2) i = nI (T 1 i) := src 1 (by omega)
    have s2 : w1.1 (t0 + 3) i = nI (T 2 i) := src 2 (by omega)
    have s3 : w1.1 (t0 + 4) i = nI (T 3 i) := src 3 (by omega)
    have s4 : w1.1 (t0 + 5) i = nI (T 4 i) := src 4 (by omega)
    have s5 : w1.1 (t0 + 6) i = nI (T 5 i) := src 5 (by omega)
    have ne : ∀ x y, x < 7 → y < 7 → ¬ (t0 + x = t + y) := fun x y hx hy => by omega
    refine ⟨(nI (i + 1), setI (setI (setI (setI (setI (setI w1 (t + 1) i (nI (T 0 i))) (t + 2) i (nI (T 1 i))) (t + 3) i (nI (T 2 i))) (t + 4) i (nI (T 3 i))) (t + 5) i (nI (T 4 i))) (t + 6) i (nI (T 5 i))), ?_, _, rfl, hF.tr ((((((Fr.set (by simp)).tr (Fr.set (by simp))).tr (Fr.set (by simp))).tr (Fr.set (by simp))).tr (Fr.set (by simp))).tr (Fr.set (by simp))), ?_, ?_, ?_⟩
    · have cnt : w1.1 t0 0 = nI k := by rw [hF.at' _ (by simp; omega)]; exact h1
      simp (disch := omega) only [lbX10_copy_18_1, n0, n1, n2, n3, n4, n5, n6, n7, n8, n9, n10, n13, n16, n18, n20, n30, n32, n40, n48, n57, n59, n60, n64, n97, n99, n122, n126, n186, n200, n1000000, nadd, nmul, nlt, nle, neq, ntn, gd_n, lw_eq, bd_some', bd2_some', gd_true, cnt, if_neg (show ¬ k ≤ i by omega), setI1, s0, s1, s2, s3, s4, s5, ne 2 1, ne 3 1, ne 3 2, ne 4 1, ne 4 2, ne 4 3, ne 5 1, ne 5 2, ne 5 3, ne 5 4, ne 6 1, ne 6 2, ne 6 3, ne 6 4, ne 6 5, false_and, if_false]
    · simp [setI1, g0]
    · simp [setI1, g1]
    · intro j hji x hx
      by_cases hq : j = i
      · subst hq
        have : x = 0 ∨ x = 1 ∨ x = 2 ∨ x = 3 ∨ x = 4 ∨ x = 5 := by omega
        rcases this with rfl | rfl | rfl | rfl | rfl | rfl <;> simp [setI1, Nat.add_assoc]
      · have := hj j (by omega) x hx
        simp only [setI1, hq, and_false, if_false]
        exact this
  · rintro s ⟨w1, rfl, hF, g0, g1, hj⟩
    have cnt : w1.1 t0 0 = nI k := by rw [hF.at' _ (by simp; omega)]; exact h1
    refine ⟨w1, ?_, hF, g0, g1, hj⟩
    simp (disch := omega) only [lbX10_copy_18_1, n0, n1, n2, n3, n4, n5, n6, n7, n8, n9, n10, n13, n16, n18, n20, n30, n32, n40, n48, n57, n59, n60, n64, n97, n99, n122, n126, n186, n200, n1000000, nadd, nmul, nlt, nle, neq, ntn, gd_n, cnt, Nat.le_refl, if_true]
theorem move1_ev {r l m N : Nat} {w : AW} (hm : w.1 0 52 = nI m) (hl : m + l ≤ 260) (hr : r ≠ 26) (hr0 : r ≠ 0) (hN : 300 < N) :
    ∃ w', fX12_move N r l (nI l) 1 w = some w' ∧ w'.2 = w.2 ∧ ∀ o k, w'.1 o k = if o = 26 ∧ m ≤ k ∧ k < m + l then w.1 r (k - m) else if o = 0 ∧ k = 52 then nI (m + l) else w.1 o k := by
  have key := wh_cnt (body := lbX12_move_3_1 N r l (nI l) 1) (n := l)
    (I := fun i s => ∃ w1 : AW, s = (nI i, w1) ∧ w1.2 = w.2 ∧ ∀ o k, w1.1 o k = if o = 26 ∧ m ≤ k ∧ k < m + i then w.1 r (k - m) else if o = 0 ∧ k = 52 then nI (m + i) else w.1 o k)
    (Q := fun w1 => w1.2 = w.2 ∧ ∀ o k, w1.1 o k = if o = 26 ∧ m ≤ k ∧ k < m + l then w.1 r (k - m) else if o = 0 ∧ k = 52 then nI (m + l) else w.1 o k)
    ?_ ?_ (N := N) (i := 0) (s := (0, w)) ⟨w, rfl, rfl, fun o k => ?_⟩ (Nat.zero_le _) (by omega)
  · obtain ⟨w1, e1, e2, e3⟩ := key
    exact ⟨w1, by simp only [fX12_move, e1, bd_some'], e2, e3⟩
  · rintro i s hi ⟨w1, rfl, h2, h3⟩
    have e52 : w1.1 0 52 = nI (m + i) := by rw [h3, if_neg (by omega), if_pos ⟨rfl, rfl⟩]
    have er : w1.1 r i = w.1 r i := by rw [h3, if_neg (by omega), if_neg (by omega)]
    refine ⟨(nI (i + 1), setI (setI w1 26 (m + i) (w.1 r i)) 0 52 (nI (m + (i + 1)))), ?_, _, rfl, h2, fun o k => ?_⟩
    · simp only [lbX12_move_3_1, e52, er]
      rw [if_neg (by rw [nle (by omega) (by omega)]; omega), if_neg (show ¬ (1 : Int32) = 0 by decide), gd_n (by omega) (by omega), gd_n (by omega) (by omega), ntn (by omega), ntn (by omega), er, lw_eq, lw_eq]
      have e : (setI w1 26 (m + i) (w.1 r i)).1 0 52 = nI (m + i) := by simp [setI1, e52]
      rw [e, n1, nadd, nadd, Nat.add_assoc]
    · simp only [setI1, h3]
      by_cases q1 : o = 0 ∧ k = 52
      · rw [if_pos q1, if_neg (by omega), if_pos q1]
      · rw [if_neg q1]
        by_cases q2 : o = 26 ∧ k = m + i
        · rw [if_pos q2, if_pos (by omega)]; exact congrArg (w.1 r) (by omega)
        · rw [if_neg q2]
          by_cases q3 : o = 26 ∧ m ≤ k ∧ k < m + i
          · rw [if_pos q3, if_pos (by omega)]
          · rw [if_neg q3, if_neg q1, if_neg (by omega), if_neg q1]
  · rintro s ⟨w1, rfl, h2, h3⟩
    refine ⟨w1, ?_, h2, h3⟩
    simp only [lbX12_move_3_1, Int32.le_refl, if_true]
  · rw [if_neg (by omega)]
    by_cases q1 : o = 0 ∧ k = 52
    · rw [if_pos q1, q1.1, q1.2]; exact hm
    · rw [if_neg q1]
theorem move0_ev {r l m N : Nat} {w : AW} (hm : w.1 0 52 = nI m) (hl : m + l ≤ 260) (hr : r ≠ 26) (hr0 : r ≠ 0) (hN : 300 < N) :
    ∃ w', fX12_move N r l (nI l) 0 w = some w' ∧ w'.2 = w.2 ∧ ∀ o k, w'.1 o k = if o = r ∧ k < l then w.1 26 (m + k) else if o = 0 ∧ k = 52 then nI (m + l) else w.1 o k := by
  have key := wh_cnt (body := lbX12_move_3_1 N r l (nI l) 0) (n := l)
    (I := fun i s => ∃ w1 : AW, s = (nI i, w1) ∧ w1.2 = w.2 ∧ ∀ o k, w1.1 o k = if o = r ∧ k < i then w.1 26 (m + k) else if o = 0 ∧ k = 52 then nI (m + i) else w.1 o k)
    (Q := fun w1 => w1.2 = w.2 ∧ ∀ o k, w1.1 o k = if o = r ∧ k < l then w.1 26 (m + k) else if o = 0 ∧ k = 52 then nI (m + l) else w.1 o k)
    ?_ ?_ (N := N) (i := 0) (s := (0, w)) ⟨w, rfl, rfl, fun o k => ?_⟩ (Nat.zero_le _) (by omega)
  · obtain ⟨w1, e1, e2, e3⟩ := key
    exact ⟨w1, by simp only [fX12_move, e1, bd_some'], e2, e3⟩
  · rintro i s hi ⟨w1, rfl, h2, h3⟩
    have e52 : w1.1 0 52 = nI (m + i) := by rw [h3, if_neg (by omega), if_pos ⟨rfl, rfl⟩]
    have er : w1.1 26 (m + i) = w.1 26 (m + i) := by rw [h3, if_neg (by omega), if_neg (by omega)]
    refine ⟨(nI (i + 1), setI (setI w1 r i (w.1 26 (m + i))) 0 52 (nI (m + (i + 1)))), ?_, _, rfl, h2, fun o k => ?_⟩
    · simp only [lbX12_move_3_1, e52, if_true]
      rw [if_neg (by rw [nle (by omega) (by omega)]; omega), gd_n (by omega) (by omega), gd_n (by omega) (by omega), ntn (by omega), ntn (by omega), er, lw_eq, lw_eq]
      have e : (setI w1 r i (w.1 26 (m + i))).1 0 52 = nI (m + i) := by simp only [setI1]; rw [if_neg (by omega)]; exact e52
      rw [e, n1, nadd, nadd, Nat.add_assoc]
    · simp only [setI1, h3]
      by_cases q1 : o = 0 ∧ k = 52
      · rw [if_pos q1, if_neg (by omega), if_pos q1]
      · rw [if_neg q1]
        by_cases q2 : o = r ∧ k = i
        · rw [if_pos q2, if_pos (by omega)]; exact congrArg (w.1 26) (by omega)
        · rw [if_neg q2]
          by_cases q3 : o = r ∧ k < i
          · rw [if_pos q3, if_pos (by omega)]
          · rw [if_neg q3, if_neg q1, if_neg (by omega), if_neg q1]
  · rintro s ⟨w1, rfl, h2, h3⟩
    refine ⟨w1, ?_, h2, h3⟩
    simp only [lbX12_move_3_1, Int32.le_refl, if_true]
  · rw [if_neg (by omega)]
    by_cases q1 : o = 0 ∧ k = 52
    · rw [if_pos q1, q1.1, q1.2]; exact hm
    · rw [if_neg q1]
def sing (w : AW) : AW := setI (setI (setI (setI (setI (setI (setI (setI w 0 52 0) 27 0 (w.1 0 0)) 27 1 (w.1 0 5)) 27 2 (w.1 0 6)) 27 3 (w.1 0 7)) 27 4 (w.1 0 8)) 27 5 (w.1 0 12)) 27 6 (w.1 0 14)
theorem keepM_ev {N : Nat} {w : AW} (hN : 300 < N) : ∃ w', fX12_moveAll N 1 w = some w' ∧ Fr (fun o k => o == 26 || o == 27 || (o == 0 && k == 52)) w w' ∧ w'.1 26 0 = w.1 0 0 ∧ w'.1 26 1 = w.1 0 5 ∧ w'.1 26 2 = w.1 0 6 ∧ w'.1 26 3 = w.1 0 7 ∧ w'.1 26 4 = w.1 0 8 ∧ w'.1 26 5 = w.1 0 12 ∧ w'.1 26 6 = w.1 0 14
    ∧ (∀ k, k < 50 → w'.1 26 (7 + k) = w.1 1 k) ∧ (∀ k, k < 4 → w'.1 26 (57 + k) = w.1 2 k) ∧ (∀ k, k < 61 → w'.1 26 (61 + k) = w.1 5 k) ∧ (∀ k, k < 61 → w'.1 26 (122 + k) = w.1 6 k) ∧ (∀ k, k < 8 → w'.1 26 (183 + k) = w.1 7 k) ∧ (∀ k, k < 18 → w'.1 26 (191 + k) = w.1 8 k) := by
  have s52 : (sing w).1 0 52 = nI 0 := by simp [sing, setI1]; rfl
  have fs : Fr (fun o k => o == 27 || (o == 0 && k == 52)) w (sing w) := (((((((Fr.set (by simp)).tr (Fr.set (by simp))).tr (Fr.set (by simp))).tr (Fr.set (by simp))).tr (Fr.set (by simp))).tr (Fr.set (by simp))).tr (Fr.set (by simp))).tr (Fr.set (by simp))
  obtain ⟨w1, a1, b1, c1⟩ := move1_ev (r := 27) (l := 7) (m := 0) (N := N) (w := (sing w)) s52 (by omega) (by omega) (by omega) hN
  have d1 : w1.1 0 52 = nI 7 := by rw [c1, if_neg (by omega), if_pos ⟨rfl, rfl⟩]
  obtain ⟨w2, a2, b2, c2⟩ := move1_ev (r := 1) (l := 50) (m := 7) (N := N) (w := w1) d1 (by omega) (by omega) (by omega) hN
  have d2 : w2.1 0 52 = nI 57 := by rw [c2, if_neg (by omega), if_pos ⟨rfl, rfl⟩]
  obtain ⟨w3, a3, b3, c3⟩ := move1_ev (r := 2) (l := 4) (m := 57) (N := N) (w := w2) d2 (by omega) (by omega) (by omega) hN
  have d3 : w3.1 0 52 = nI 61 := by rw [c3, if_neg (by omega), if_pos ⟨rfl, rfl⟩]
  obtain ⟨w4, a4, b4, c4⟩ := move1_ev (r := 5) (l := 61) (m := 61) (N := N) (w := w3) d3 (by omega) (by omega) (by omega) hN
  have d4 : w4.1 0 52 = nI 122 := by rw [c4, if_neg (by omega), if_pos ⟨rfl, rfl⟩]
  obtain ⟨w5, a5, b5, c5⟩ := move1_ev (r := 6) (l := 61) (m := 122) (N := N) (w := w4) d4 (by omega) (by omega) (by omega) hN
  have d5 : w5.1 0 52 = nI 183 := by rw [c5, if_neg (by omega), if_pos ⟨rfl, rfl⟩]
  obtain ⟨w6, a6, b6, c6⟩ := move1_ev (r := 7) (l := 8) (m := 183) (N := N) (w := w5) d5 (by omega) (by omega) (by omega) hN
  have d6 : w6.1 0 52 = nI 191 := by rw [c6, if_neg (by omega), if_pos ⟨rfl, rfl⟩]
  obtain ⟨w7, a7, b7, c7⟩ := move1_ev (r := 8) (l := 18) (m := 191) (N := N) (w := w6) d6 (by omega) (by omega) (by omega) hN
  have d7 : w7.1 0 52 = nI 209 := by rw [c7, if_neg (by omega), if_pos ⟨rfl, rfl⟩]
  refine ⟨w7, ?_, ⟨fun o k q => ?_, ?_⟩, ?_⟩
  · have e : ∀ x y : Int32, x = y → x = y := fun _ _ h => h
    have z0 : (0 : Int32).toNatClampNeg = 0 := rfl
    have z1 : (1 : Int32).toNatClampNeg = 1 := rfl
    have z2 : (2 : Int32).toNatClampNeg = 2 := rfl
    have z3 : (3 : Int32).toNatClampNeg = 3 := rfl
    have z4 : (4 : Int32).toNatClampNeg = 4 := rfl
    have z5 : (5 : Int32).toNatClampNeg = 5 := rfl
    have z6 : (6 : Int32).toNatClampNeg = 6 := rfl
    have hs : setI (setI (setI (setI (setI (setI (setI (setI w 0 52 0) 27 0 (w.1 0 0)) 27 1 (w.1 0 5)) 27 2 (w.1 0 6)) 27 3 (w.1 0 7)) 27 4 (w.1 0 8)) 27 5 (w.1 0 12)) 27 6 (w.1 0 14) = sing w := rfl
    have a1' : fX12_move N 27 7 7 1 (sing w) = some w1 := a1
    have a2' : fX12_move N 1 50 50 1 w1 = some w2 := a2
    have a3' : fX12_move N 2 4 4 1 w2 = some w3 := a3
    have a4' : fX12_move N 5 61 61 1 w3 = some w4 := a4
    have a5' : fX12_move N 6 61 61 1 w4 = some w5 := a5
    have a6' : fX12_move N 7 8 8 1 w5 = some w6 := a6
    have a7' : fX12_move N 8 18 18 1 w6 = some w7 := a7
    simp only [fX12_moveAll, lw_eq, setI1, Nat.reduceEqDiff, and_false, false_and, if_false, z0, z1, z2, z3, z4, z5, z6, show ¬ (0 = 27) by omega, hs, a1', a2', a3', a4', a5', a6', a7', bd_some']
  · simp only [Bool.or_eq_false_iff, Bool.and_eq_false_iff, beq_eq_false_iff_ne] at q
    rw [c7, if_neg (by omega), if_neg (by omega), c6, if_neg (by omega), if_neg (by omega), c5, if_neg (by omega), if_neg (by omega), c4, if_neg (by omega), if_neg (by omega), c3, if_neg (by omega), if_neg (by omega), c2, if_neg (by omega), if_neg (by omega), c1, if_neg (by omega), if_neg (by omega)]
    exact fs.at' k (by simp; omega)
  · rw [b7, b6, b5, b4, b3, b2, b1]; exact fs.2
  · refine ⟨?_, ?_, ?_, ?_, ?_, ?_, ?_, fun k hk => ?_, fun k hk => ?_, fun k hk => ?_, fun k hk => ?_, fun k hk => ?_, fun k hk => ?_⟩
    · rw [c7, if_neg (by omega), if_neg (by omega), c6, if_neg (by omega), if_neg (by omega), c5, if_neg (by omega), if_neg (by omega), c4, if_neg (by omega), if_neg (by omega), c3, if_neg (by omega), if_neg (by omega), c2, if_neg (by omega), if_neg (by omega), c1, if_pos (by omega)]; simp [sing, setI1]
    · rw [c7, if_neg (by omega), if_neg (by omega), c6, if_neg (by omega), if_neg (by omega), c5, if_neg (by omega), if_neg (by omega), c4, if_neg (by omega), if_neg (by omega), c3, if_neg (by omega), if_neg (by omega), c2, if_neg (by omega), if_neg (by omega), c1, if_pos (by omega)]; simp [sing, setI1]
    · rw [c7, if_neg (by omega), if_neg (by omega), c6, if_neg (by omega), if_neg (by omega), c5, if_neg (by omega), if_neg (by omega), c4, if_neg (by omega), if_neg (by omega), c3, if_neg (by omega), if_neg (by omega), c2, if_neg (by omega), if_neg (by omega), c1, if_pos (by omega)]; simp [sing, setI1]
    · rw [c7, if_neg (by omega), if_neg (by omega), c6, if_neg (by omega), if_neg (by omega), c5, if_neg (by omega), if_neg (by omega), c4, if_neg (by omega), if_neg (by omega), c3, if_neg (by omega), if_neg (by omega), c2, if_neg (by omega), if_neg (by omega), c1, if_pos (by omega)]; simp [sing, setI1]
    · rw [c7, if_neg (by omega), if_neg (by omega), c6, if_neg (by omega), if_neg (by omega), c5, if_neg (by omega), if_neg (by omega), c4, if_neg (by omega), if_neg (by omega), c3, if_neg (by omega), if_neg (by omega), c2, if_neg (by omega), if_neg (by omega), c1, if_pos (by omega)]; simp [sing, setI1]
    · rw [c7, if_neg (by omega), if_neg (by omega), c6, if_neg (by omega), if_neg (by omega), c5, if_neg (by omega), if_neg (by omega), c4, if_neg (by omega), if_neg (by omega), c3, if_neg (by omega), if_neg (by omega), c2, if_neg (by omega), if_neg (by omega), c1, if_pos (by omega)]; simp [sing, setI1]
    · rw [c7, if_neg (by omega), if_neg (by omega), c6, if_neg (by omega), if_neg (by omega), c5, if_neg (by omega), if_neg (by omega), c4, if_neg (by omega), if_neg (by omega), c3, if_neg (by omega), if_neg (by omega), c2, if_neg (by omega), if_neg (by omega), c1, if_pos (by omega)]; simp [sing, setI1]
    · rw [c7, if_neg (by omega), if_neg (by omega), c6, if_neg (by omega), if_neg (by omega), c5, if_neg (by omega), if_neg (by omega), c4, if_neg (by omega), if_neg (by omega), c3, if_neg (by omega), if_neg (by omega), c2, if_pos (by omega), c1, if_neg (by omega), if_neg (by omega), show 7 + k - 7 = k by omega]; exact fs.at' k (by simp)
    · rw [c7, if_neg (by omega), if_neg (by omega), c6, if_neg (by omega), if_neg (by omega), c5, if_neg (by omega), if_neg (by omega), c4, if_neg (by omega), if_neg (by omega), c3, if_pos (by omega), c2, if_neg (by omega), if_neg (by omega), c1, if_neg (by omega), if_neg (by omega), show 57 + k - 57 = k by omega]; exact fs.at' k (by simp)
    · rw [c7, if_neg (by omega), if_neg (by omega), c6, if_neg (by omega), if_neg (by omega), c5, if_neg (by omega), if_neg (by omega), c4, if_pos (by omega), c3, if_neg (by omega), if_neg (by omega), c2, if_neg (by omega), if_neg (by omega), c1, if_neg (by omega), if_neg (by omega), show 61 + k - 61 = k by omega]; exact fs.at' k (by simp)
    · rw [c7, if_neg (by omega), if_neg (by omega), c6, if_neg (by omega), if_neg (by omega), c5, if_pos (by omega), c4, if_neg (by omega), if_neg (by omega), c3, if_neg (by omega), if_neg (by omega), c2, if_neg (by omega), if_neg (by omega), c1, if_neg (by omega), if_neg (by omega), show 122 + k - 122 = k by omega]; exact fs.at' k (by simp)
    · rw [c7, if_neg (by omega), if_neg (by omega), c6, if_pos (by omega), c5, if_neg (by omega), if_neg (by omega), c4, if_neg (by omega), if_neg (by omega), c3, if_neg (by omega), if_neg (by omega), c2, if_neg (by omega), if_neg (by omega), c1, if_neg (by omega), if_neg (by omega), show 183 + k - 183 = k by omega]; exact fs.at' k (by simp)
    · rw [c7, if_pos (by omega), c6, if_neg (by omega), if_neg (by omega), c5, if_neg (by omega), if_neg (by omega), c4, if_neg (by omega), if_neg (by omega), c3, if_neg (by omega), if_neg (by omega), c2, if_neg (by omega), if_neg (by omega), c1, if_neg (by omega), if_neg (by omega), show 191 + k - 191 = k by omega]; exact fs.at' k (by simp)
theorem againM_ev {N : Nat} {w : AW} (hN : 300 < N) : ∃ w', fX12_moveAll N 0 w = some w' ∧ Fr (fun o k => o == 1 || o == 2 || o == 5 || o == 6 || o == 7 || o == 8 || o == 27 || (o == 0 && k == 52)) w w' ∧ (∀ k, k < 7 → w'.1 27 k = w.1 26 k)
    ∧ (∀ k, k < 50 → w'.1 1 k = w.1 26 (7 + k)) ∧ (∀ k, k < 4 → w'.1 2 k = w.1 26 (57 + k)) ∧ (∀ k, k < 61 → w'.1 5 k = w.1 26 (61 + k)) ∧ (∀ k, k < 61 → w'.1 6 k = w.1 26 (122 + k)) ∧ (∀ k, k < 8 → w'.1 7 k = w.1 26 (183 + k)) ∧ (∀ k, k < 18 → w'.1 8 k = w.1 26 (191 + k)) := by
  have s52 : (sing w).1 0 52 = nI 0 := by simp [sing, setI1]; rfl
  have fs : Fr (fun o k => o == 27 || (o == 0 && k == 52)) w (sing w) := (((((((Fr.set (by simp)).tr (Fr.set (by simp))).tr (Fr.set (by simp))).tr (Fr.set (by simp))).tr (Fr.set (by simp))).tr (Fr.set (by simp))).tr (Fr.set (by simp))).tr (Fr.set (by simp))
  obtain ⟨w1, a1, b1, c1⟩ := move0_ev (r := 27) (l := 7) (m := 0) (N := N) (w := (sing w)) s52 (by omega) (by omega) (by omega) hN
  have d1 : w1.1 0 52 = nI 7 := by rw [c1, if_neg (by omega), if_pos ⟨rfl, rfl⟩]
  obtain ⟨w2, a2, b2, c2⟩ := move0_ev (r := 1) (l := 50) (m := 7) (N := N) (w := w1) d1 (by omega) (by omega) (by omega) hN
  have d2 : w2.1 0 52 = nI 57 := by rw [c2, if_neg (by omega), if_pos ⟨rfl, rfl⟩]
  obtain ⟨w3, a3, b3, c3⟩ := move0_ev (r := 2) (l := 4) (m := 57) (N := N) (w := w2) d2 (by omega) (by omega) (by omega) hN
  have d3 : w3.1 0 52 = nI 61 := by rw [c3, if_neg (by omega), if_pos ⟨rfl, rfl⟩]
  obtain ⟨w4, a4, b4, c4⟩ := move0_ev (r := 5) (l := 61) (m := 61) (N := N) (w := w3) d3 (by omega) (by omega) (by omega) hN
  have d4 : w4.1 0 52 = nI 122 := by rw [c4, if_neg (by omega), if_pos ⟨rfl, rfl⟩]
  obtain ⟨w5, a5, b5, c5⟩ := move0_ev (r := 6) (l := 61) (m := 122) (N := N) (w := w4) d4 (by omega) (by omega) (by omega) hN
  have d5 : w5.1 0 52 = nI 183 := by rw [c5, if_neg (by omega), if_pos ⟨rfl, rfl⟩]
  obtain ⟨w6, a6, b6, c6⟩ := move0_ev (r := 7) (l := 8) (m := 183) (N := N) (w := w5) d5 (by omega) (by omega) (by omega) hN
  have d6 : w6.1 0 52 = nI 191 := by rw [c6, if_neg (by omega), if_pos ⟨rfl, rfl⟩]
  obtain ⟨w7, a7, b7, c7⟩ := move0_ev (r := 8) (l := 18) (m := 191) (N := N) (w := w6) d6 (by omega) (by omega) (by omega) hN
  have d7 : w7.1 0 52 = nI 209 := by rw [c7, if_neg (by omega), if_pos ⟨rfl, rfl⟩]
  refine ⟨w7, ?_, ⟨fun o k q => ?_, ?_⟩, ?_⟩
  · have z0 : (0 : Int32).toNatClampNeg = 0 := rfl
    have z1 : (1 : Int32).toNatClampNeg = 1 := rfl
    have z2 : (2 : Int32).toNatClampNeg = 2 := rfl
    have z3 : (3 : Int32).toNatClampNeg = 3 := rfl
    have z4 : (4 : Int32).toNatClampNeg = 4 := rfl
    have z5 : (5 : Int32).toNatClampNeg = 5 := rfl
    have z6 : (6 : Int32).toNatClampNeg = 6 := rfl
    have hs : setI (setI (setI (setI (setI (setI (setI (setI w 0 52 0) 27 0 (w.1 0 0)) 27 1 (w.1 0 5)) 27 2 (w.1 0 6)) 27 3 (w.1 0 7)) 27 4 (w.1 0 8)) 27 5 (w.1 0 12)) 27 6 (w.1 0 14) = sing w := rfl
    have a1' : fX12_move N 27 7 7 0 (sing w) = some w1 := a1
    have a2' : fX12_move N 1 50 50 0 w1 = some w2 := a2
    have a3' : fX12_move N 2 4 4 0 w2 = some w3 := a3
    have a4' : fX12_move N 5 61 61 0 w3 = some w4 := a4
    have a5' : fX12_move N 6 61 61 0 w4 = some w5 := a5
    have a6' : fX12_move N 7 8 8 0 w5 = some w6 := a6
    have a7' : fX12_move N 8 18 18 0 w6 = some w7 := a7
    simp only [fX12_moveAll, lw_eq, setI1, Nat.reduceEqDiff, and_false, false_and, if_false, z0, z1, z2, z3, z4, z5, z6, show ¬ (0 = 27) by omega, hs, a1', a2', a3', a4', a5', a6', a7', bd_some']
  · simp only [Bool.or_eq_false_iff, Bool.and_eq_false_iff, beq_eq_false_iff_ne] at q
    rw [c7, if_neg (by omega), if_neg (by omega), c6, if_neg (by omega), if_neg (by omega), c5, if_neg (by omega), if_neg (by omega), c4, if_neg (by omega), if_neg (by omega), c3, if_neg (by omega), if_neg (by omega), c2, if_neg (by omega), if_neg (by omega), c1, if_neg (by omega), if_neg (by omega)]
    exact fs.at' k (by simp; omega)
  · rw [b7, b6, b5, b4, b3, b2, b1]; exact fs.2
  · refine ⟨fun k hk => ?_, fun k hk => ?_, fun k hk => ?_, fun k hk => ?_, fun k hk => ?_, fun k hk => ?_, fun k hk => ?_⟩
    · rw [c7, if_neg (by omega), if_neg (by omega), c6, if_neg (by omega), if_neg (by omega), c5, if_neg (by omega), if_neg (by omega), c4, if_neg (by omega), if_neg (by omega), c3, if_neg (by omega), if_neg (by omega), c2, if_neg (by omega), if_neg (by omega), c1, if_pos (by omega)]
      exact (fs.at' _ (by simp)).trans (congrArg (w.1 26) (by omega))
    · rw [c7, if_neg (by omega), if_neg (by omega), c6, if_neg (by omega), if_neg (by omega), c5, if_neg (by omega), if_neg (by omega), c4, if_neg (by omega), if_neg (by omega), c3, if_neg (by omega), if_neg (by omega), c2, if_pos (by omega), c1, if_neg (by omega), if_neg (by omega)]
      exact (fs.at' _ (by simp)).trans (congrArg (w.1 26) (by omega))
    · rw [c7, if_neg (by omega), if_neg (by omega), c6, if_neg (by omega), if_neg (by omega), c5, if_neg (by omega), if_neg (by omega), c4, if_neg (by omega), if_neg (by omega), c3, if_pos (by omega), c2, if_neg (by omega), if_neg (by omega), c1, if_neg (by omega), if_neg (by omega)]
      exact (fs.at' _ (by simp)).trans (congrArg (w.1 26) (by omega))
    · rw [c7, if_neg (by omega), if_neg (by omega), c6, if_neg (by omega), if_neg (by omega), c5, if_neg (by omega), if_neg (by omega), c4, if_pos (by omega), c3, if_neg (by omega), if_neg (by omega), c2, if_neg (by omega), if_neg (by omega), c1, if_neg (by omega), if_neg (by omega)]
      exact (fs.at' _ (by simp)).trans (congrArg (w.1 26) (by omega))
    · rw [c7, if_neg (by omega), if_neg (by omega), c6, if_neg (by omega), if_neg (by omega), c5, if_pos (by omega), c4, if_neg (by omega), if_neg (by omega), c3, if_neg (by omega), if_neg (by omega), c2, if_neg (by omega), if_neg (by omega), c1, if_neg (by omega), if_neg (by omega)]
      exact (fs.at' _ (by simp)).trans (congrArg (w.1 26) (by omega))
    · rw [c7, if_neg (by omega), if_neg (by omega), c6, if_pos (by omega), c5, if_neg (by omega), if_neg (by omega), c4, if_neg (by omega), if_neg (by omega), c3, if_neg (by omega), if_neg (by omega), c2, if_neg (by omega), if_neg (by omega), c1, if_neg (by omega), if_neg (by omega)]
      exact (fs.at' _ (by simp)).trans (congrArg (w.1 26) (by omega))
    · rw [c7, if_pos (by omega), c6, if_neg (by omega), if_neg (by omega), c5, if_neg (by omega), if_neg (by omega), c4, if_neg (by omega), if_neg (by omega), c3, if_neg (by omega), if_neg (by omega), c2, if_neg (by omega), if_neg (by omega), c1, if_neg (by omega), if_neg (by omega)]
      exact (fs.at' _ (by simp)).trans (congrArg (w.1 26) (by omega))
