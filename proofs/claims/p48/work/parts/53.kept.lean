/-! 53: boards kept -/
theorem bcopy_ev {b b0 n N : Nat} {J : Nat → Nat → Nat} {L lost nig : Nat → Nat} {day col left : Nat} {till : Int32} {p : List Nat} {w : AW} (h : CBd b0 n J L lost nig day col left till p w) (hb : (b = 12 ∧ b0 = 1) ∨ (b = 1 ∧ b0 = 12)) (hn : n ≤ 6) (hp : p.length ≤ 6) (hN : 20 < N) :
    ∃ w', fX1_copy N b b0 w = some w' ∧ Fr (fun o _ => decide (b ≤ o) && decide (o ≤ b + 10)) w w' ∧ CBd b n J L lost nig day col left till p w' := by
  obtain ⟨h1, h2, h3, h4, h5, h6, h7, h8, h9⟩ := h
  obtain ⟨w1, e1, e2, e3⟩ := copy_ev (o := b + 1) (N := N) h1 (by omega) hn hN
  have f1 : Fr (fun o _ => decide (b ≤ o) && decide (o ≤ b + 10)) w w1 := e2.wd (fun o k q => by simp at q ⊢; omega)
  generalize hw2 : cpyI (cpyI (cpyI (cpyI w1 (b0 + 7) 0 (b + 7) 0 4) (b0 + 8) 0 (b + 8) 0 61) (b0 + 9) 0 (b + 9) 0 61) (b0 + 10) 0 (b + 10) 0 6 = w2
  have f2 : Fr (fun o _ => decide (b + 7 ≤ o) && decide (o ≤ b + 10)) w1 w2 := by
    subst hw2
    exact (((Fr.cpy (fun k => by simp)).tr (Fr.cpy (fun k => by simp))).tr (Fr.cpy (fun k => by simp))).tr (Fr.cpy (fun k => by simp))
  have g5 : w2.1 b0 5 = nI day := by rw [f2.at' _ (by simp; omega), f1.at' _ (by simp; omega)]; exact h6
  have g6 : w2.1 b0 6 = nI col := by rw [f2.at' _ (by simp; omega), f1.at' _ (by simp; omega)]; exact h7
  have g7 : w2.1 b0 7 = nI left := by rw [f2.at' _ (by simp; omega), f1.at' _ (by simp; omega)]; exact h8
  have g8 : w2.1 b0 8 = till := by rw [f2.at' _ (by simp; omega), f1.at' _ (by simp; omega)]; exact h9
  have hne : b0 ≠ b := by omega
  have f3 : Fr (fun o _ => o == b) w2 (setI (setI (setI (setI w2 b 5 (nI day)) b 6 (nI col)) b 7 (nI left)) b 8 till) := (((Fr.set (by simp)).tr (Fr.set (by simp))).tr (Fr.set (by simp))).tr (Fr.set (by simp))
  refine ⟨setI (setI (setI (setI w2 b 5 (nI day)) b 6 (nI col)) b 7 (nI left)) b 8 till, ?_, f1.tr ((f2.wd (fun o k q => by simp at q ⊢; omega)).tr (f3.wd (fun o k q => by simp at q ⊢; omega))), ((e3.fr f2 (fun i hi k => by simp; omega)).fr f3 (fun i hi k => by simp; omega)), fun i hi => ?_, fun i hi => ?_, fun i hi => ?_, fun i v hv => ?_, by simp [setI1], by simp [setI1], by simp [setI1], by simp [setI1]⟩
  · have z4 : (4 : Int32).toNatClampNeg = 4 := rfl
    have z61 : (61 : Int32).toNatClampNeg = 61 := rfl
    have z6 : (6 : Int32).toNatClampNeg = 6 := rfl
    have z0 : (0 : Int32).toNatClampNeg = 0 := rfl
    simp only [fX1_copy, e1, bd_some', lw_eq, z4, z61, z6, z0, hw2, setI1, hne, false_and, if_false, g5, g6, g7, g8]
  · rw [f3.at' _ (by simp)]
    subst hw2
    rw [cpyI1, if_neg (by omega), cpyI1, if_neg (by omega), cpyI1, if_neg (by omega), cpyI1, if_pos rfl, if_pos (by omega), Nat.zero_add, Nat.sub_zero, f1.at' _ (by simp; omega)]
    exact h2 i hi
  · rw [f3.at' _ (by simp)]
    subst hw2
    rw [cpyI1, if_neg (by omega), cpyI1, if_neg (by omega), cpyI1, if_pos rfl, if_pos (by omega), cpyI1, if_neg (by omega), Nat.zero_add, Nat.sub_zero, f1.at' _ (by simp; omega)]
    exact h3 i hi
  · rw [f3.at' _ (by simp)]
    subst hw2
    rw [cpyI1, if_neg (by omega), cpyI1, if_pos rfl, if_pos (by omega), cpyI1, if_neg (by omega), cpyI1, if_neg (by omega), Nat.zero_add, Nat.sub_zero, f1.at' _ (by simp; omega)]
    exact h4 i hi
  · have hi : i < p.length := by rw [List.getElem?_eq_some_iff] at hv; exact hv.1
    rw [f3.at' _ (by simp)]
    subst hw2
    rw [cpyI1, if_pos rfl, if_pos (by omega), cpyI1, if_neg (by omega), cpyI1, if_neg (by omega), cpyI1, if_neg (by omega), Nat.zero_add, Nat.sub_zero, f1.at' _ (by simp; omega)]
    exact h5 i v hv
theorem tcopy_ev {t t0 k N : Nat} {T : Nat → Nat → Nat} {z : Int32} {w : AW} (h : CTy t0 k T z w) (hb : (t = 30 ∧ t0 = 23) ∨ (t = 23 ∧ t0 = 30)) (hk : k ≤ 3) (hN : 20 < N) :
    ∃ w', fX10_copy N t t0 w = some w' ∧ Fr (fun o _ => decide (t ≤ o) && decide (o ≤ t + 6)) w w' ∧ CTy t k T z w' := by
  obtain ⟨h1, h2, h3⟩ := h
  have key := wh_cnt (body := lbX10_copy_18_1 N t t0) (n := k)
    (I := fun i s => ∃ w1, s = (nI i, w1) ∧ Fr (fun o _ => decide (t ≤ o) && decide (o ≤ t + 6)) w w1 ∧ w1.1 t 0 = nI k ∧ w1.1 t 1 = z ∧ ∀ j, j < i → ∀ x, x < 6 → w1.1 (t + 1 + x) j = nI (T x j))
    (Q := fun w1 => Fr (fun o _ => decide (t ≤ o) && decide (o ≤ t + 6)) w w1 ∧ CTy t k T z w1)
    ?_ ?_ (N := N) (i := 0) (s := (0, setI (setI w t 0 (nI k)) t 1 z)) ⟨_, rfl, (Fr.set (by simp)).tr (Fr.set (by simp)), by simp [setI1], by simp [setI1], fun j hj => by omega⟩ (Nat.zero_le _) (by omega)
  · obtain ⟨w1, e1, e2, e3⟩ := key
    refine ⟨w1, ?_, e2, e3⟩
    have hne : ¬ (t0 = t ∧ 1 = 0) := by omega
    simp only [fX10_copy, h1, lw_eq, setI1, hne, if_false, h2, e1, bd_some']
  · rintro i s hi ⟨w1, rfl, hF, g0, g1, hj⟩
    have src : ∀ x, x < 6 → w1.1 (t0 + 1 + x) i = nI (T x i) := fun x hx => by rw [hF.at' _ (by simp; omega)]; exact h3 i hi x hx
    have s0 : w1.1 (t0 + 1) i = nI (T 0 i) := src 0 (by omega)
    have s1 : w1.1 (t0 + 2) i = nI (T 1 i) := src 1 (by omega)
    have s2 : w1.1 (t0 + 3) i = nI (T 2 i) := src 2 (by omega)
    have s3 : w1.1 (t0 + 4) i = nI (T 3 i) := src 3 (by omega)
    have s4 : w1.1 (t0 + 5) i = nI (T 4 i) := src 4 (by omega)
    have s5 : w1.1 (t0 + 6) i = nI (T 5 i) := src 5 (by omega)
    have ne : ∀ x y, x < 7 → y < 7 → ¬ (t0 + x = t + y) := fun x y hx hy => by omega
    refine ⟨(nI (i + 1), setI (setI (setI (setI (setI (setI w1 (t + 1) i (nI (T 0 i))) (t + 2) i (nI (T 1 i))) (t + 3) i (nI (T 2 i))) (t + 4) i (nI (T 3 i))) (t + 5) i (nI (T 4 i))) (t + 6) i (nI (T 5 i))), ?_, _, rfl, hF.tr ((((((Fr.set (by simp)).tr (Fr.set (by simp))).tr (Fr.set (by simp))).tr (Fr.set (by simp))).tr (Fr.set (by simp))).tr (Fr.set (by simp))), ?_, ?_, ?_⟩
    · have cnt : w1.1 t0 0 = nI k := by rw [hF.at' _ (by simp; omega)]; exact h1
      simp (disch := omega) only [lbX10_copy_18_1, n0, n1, n2, n3, n4, n5, n6, n7, n8, n9, n10, n13, n16, n18, n20, n30, n32, n40, n48, n57, n59, n60, n64, n97, n99, n122, n126, n186, n200, n1000000, nadd, nmul, nlt, nle, neq, ntn, gd_n, lw_eq, bd_some', bd2_some', gd_true, cnt, if_neg (show ¬ k ≤ i by omega), setI1, s0, s1, s2, s3, s4, s5, ne 2 1, ne 3 1, ne 3 2, ne 4 1, ne 4 2, ne 4 3, ne 5 1, ne 5 2, ne 5 3, ne 5 4, ne 6 1, ne 6 2, ne 6 3, ne 6 4, ne 6 5, false_and, if_false]
    · simp [setI1, g0]
    · simp [setI1, g1]
    · intro j hji x hx
      by_cases hq : j = i
      · subst hq
        have : x = 0 ∨ x = 1 ∨ x = 2 ∨ x = 3 ∨ x = 4 ∨ x = 5 := by omega
        rcases this with rfl | rfl | rfl | rfl | rfl | rfl <;> simp [setI1, Nat.add_assoc]
      · have := hj j (by omega) x hx
        simp only [setI1, hq, and_false, if_false]
        exact this
  · rintro s ⟨w1, rfl, hF, g0, g1, hj⟩
    have cnt : w1.1 t0 0 = nI k := by rw [hF.at' _ (by simp; omega)]; exact h1
    refine ⟨w1, ?_, hF, g0, g1, hj⟩
    simp (disch := omega) only [lbX10_copy_18_1, n0, n1, n2, n3, n4, n5, n6, n7, n8, n9, n10, n13, n16, n18, n20, n30, n32, n40, n48, n57, n59, n60, n64, n97, n99, n122, n126, n186, n200, n1000000, nadd, nmul, nlt, nle, neq, ntn, gd_n, cnt, Nat.le_refl, if_true]
def sing (w : AW) : AW := setI (setI (setI (setI (setI (setI (setI (setI w 0 52 0) 27 0 (w.1 0 0)) 27 1 (w.1 0 5)) 27 2 (w.1 0 6)) 27 3 (w.1 0 7)) 27 4 (w.1 0 8)) 27 5 (w.1 0 12)) 27 6 (w.1 0 14)
