/-! 68: the board, begun -/
def Tbc (o k : Nat) : Bool := o == 37 || (decide (39 ≤ o) && decide (o ≤ 45)) || (decide (1 ≤ o) && decide (o ≤ 11)) || (o == 59 && k == 2)
def Tbm (o k : Nat) : Bool := (o == 0 && (k == 0 || k == 5 || k == 6 || k == 7 || k == 8 || k == 16 || k == 17 || k == 18 || k == 19 || k == 21 || k == 22 || k == 25 || k == 37)) || o == 1 || o == 2 || o == 5 || o == 6 || o == 7 || o == 10 || o == 11
theorem Rel.txt {wC wM wC' wM' : AW} (h : Rel wC wM) (f : Fr Tbc wC wC') (f' : Fm Tbm wM wM') (hb : RBd wC' wM') (ht : RTp wC' wM') (hr : RRw wC' wM') : Rel wC' wM' := by
  obtain ⟨h1, h2, h3, h4, h5, h6, h7, h8⟩ := h
  have g : Fr Tbm wM (wM'.1, wM.2) := ⟨f'.1, rfl⟩
  have r2 := h2.fr f g (fun o k a b => by simp [Tbc]; omega) (fun k => rfl) rfl rfl
  have r3 := h3.fr f g rfl (fun o k a b => by simp [Tbc]; omega) (fun o k a b => by simp [Tbc]; omega) rfl (fun k => rfl)
  have r6 := h6.fr f g (fun o k a b => by simp [Tbc]; omega) (fun o k a b => by simp [Tbm]; omega)
  have r7 := h7.fr f g rfl (fun k => rfl) rfl (fun k => rfl)
  have r8 := h8.fr g (fun k => rfl) (fun k => rfl)
  refine ⟨hb, r2, r3, ht, hr, ?_, r7, r8⟩
  obtain ⟨a1, a2, a3⟩ := r6
  exact ⟨a1, fun k hk => by rw [f'.2 21 k (by omega)]; exact a2 k hk, a3⟩
theorem TR_Tbc {o k : Nat} (q : Tbc o k = false) : TR o k = false := by simp [Tbc, TR, TCj, TCf] at q ⊢; omega
theorem TRM_Tbm {o k : Nat} (q : Tbm o k = false) : TRM o k = false := by simp [Tbm, TRM, TMj, TMf] at q ⊢; omega
theorem brdNew_ev {m N : Nat} {J : Nat → Nat → Nat} {tl : Nat → Bool} {G L : Nat → Nat} {w : AW} (hJ : CJo 39 m J w) (hm : m ≤ 6) (h8 : ∀ i, i < 4 → w.1 8 i = nI (L i)) (h45 : ∀ i, i < 4 → w.1 45 i = if tl i then nI (G i) else -1) (hG : ∀ i, i < 4 → tl i = false → G i = L i) (gb : ∀ i, i < 4 → G i ≤ 99) (hN : 100 < N) :
    ∃ w', fX1_begin N 1 39 45 w = some w' ∧ Fr (fun o _ => decide (1 ≤ o) && decide (o ≤ 11)) w w' ∧ CBd 1 m J G (fun _ => 0) (fun _ => 0) 0 0 0 0 (List.range m) w' := by
  obtain ⟨w1, a1, a2, a3⟩ := copy_ev (o := 2) (o0 := 39) (N := N) hJ (by omega) hm (by omega)
  obtain ⟨w2, b1, b2, b3⟩ : ∃ w2, wh (lbX1_begin_10_1 N 1 45) N (0, w1) = some w2 ∧ Fr (fun o _ => o == 11) w1 w2 ∧ ∀ x, x < 6 → w2.1 11 x = nI x := by
    have key := wh_cnt (body := lbX1_begin_10_1 N 1 45) (n := 6) (I := fun i s => ∃ w', s = (nI i, w') ∧ Fr (fun o _ => o == 11) w1 w' ∧ ∀ x, x < i → w'.1 11 x = nI x) (Q := fun w2 => Fr (fun o _ => o == 11) w1 w2 ∧ ∀ x, x < 6 → w2.1 11 x = nI x)
      ?_ ?_ (N := N) (i := 0) (s := (0, w1)) ⟨w1, rfl, Fr.rf, fun x hx => by omega⟩ (by omega) (by omega)
    · obtain ⟨w', e1, e2, e3⟩ := key; exact ⟨w', e1, e2, e3⟩
    · rintro i s hi ⟨w', rfl, g1, g2⟩
      refine ⟨(nI (i + 1), setI w' 11 i (nI i)), ?_, _, rfl, g1.tr (Fr.set (by simp)), fun x hx => ?_⟩
      · simp (disch := omega) only [lbX1_begin_10_1, n0, n1, n2, n3, n4, n5, n6, n7, n8, n9, n10, n13, n16, n18, n20, n30, n32, n40, n48, n57, n59, n60, n64, n97, n99, n122, n126, n186, n200, n1000000, nadd, nmul, nlt, nle, neq, ntn, gd_n, lw_eq, bd_some', bd2_some', gd_true, Nat.reduceAdd, if_neg (show ¬ 6 ≤ i by omega)]
      · by_cases hq : x = i
        · subst hq; simp [setI1]
        · simp only [setI1, hq, and_false, if_false]; exact g2 x (by omega)
    · rintro s ⟨w', rfl, g1, g2⟩
      exact ⟨w', by simp only [lbX1_begin_10_1, show nI 6 = 6 from rfl, Int32.le_refl, if_true], g1, g2⟩
  obtain ⟨w3, c1, c2, c3⟩ : ∃ w3, wh (lbX1_begin_31_2 N 1 45) N (0, w2) = some w3 ∧ Fr (fun o _ => o == 8) w2 w3 ∧ ∀ x, x < 4 → w3.1 8 x = nI (G x) := by
    have k8 : ∀ i, i < 4 → w2.1 8 i = nI (L i) := fun i hi => by rw [b2.at' _ rfl, a2.at' _ rfl]; exact h8 i hi
    have k45 : ∀ i, i < 4 → w2.1 45 i = if tl i then nI (G i) else -1 := fun i hi => by rw [b2.at' _ rfl, a2.at' _ rfl]; exact h45 i hi
    have key := wh_cnt (body := lbX1_begin_31_2 N 1 45) (n := 4) (I := fun i s => ∃ w', s = (nI i, w') ∧ Fr (fun o _ => o == 8) w2 w' ∧ (∀ x, x < i → w'.1 8 x = nI (G x)) ∧ ∀ x, i ≤ x → x < 4 → w'.1 8 x = nI (L x)) (Q := fun w3 => Fr (fun o _ => o == 8) w2 w3 ∧ ∀ x, x < 4 → w3.1 8 x = nI (G x))
      ?_ ?_ (N := N) (i := 0) (s := (0, w2)) ⟨w2, rfl, Fr.rf, fun x hx => by omega, fun x _ hx => k8 x hx⟩ (by omega) (by omega)
    · obtain ⟨w', e1, e2, e3⟩ := key; exact ⟨w', e1, e2, e3⟩
    · rintro i s hi ⟨w', rfl, g1, g2, g3⟩
      have e45 : w'.1 45 i = if tl i then nI (G i) else -1 := by rw [g1.at' _ rfl]; exact k45 i hi
      by_cases ht : tl i = true
      · rw [if_pos ht] at e45
        have hb := gb i hi
        refine ⟨(nI (i + 1), setI w' 8 i (nI (G i))), ?_, _, rfl, g1.tr (Fr.set (by simp)), fun x hx => ?_, fun x hx1 hx2 => ?_⟩
        · simp (disch := omega) only [lbX1_begin_31_2, n0, n1, n2, n3, n4, n5, n6, n7, n8, n9, n10, n13, n16, n18, n20, n30, n32, n40, n48, n57, n59, n60, n64, n97, n99, n122, n126, n186, n200, n1000000, nadd, nmul, nlt, nle, neq, ntn, gd_n, lw_eq, bd_some', bd2_some', gd_true, Nat.reduceAdd, if_neg (show ¬ 4 ≤ i by omega), e45, if_neg (show ¬ G i < 0 by omega)]
        · by_cases hq : x = i
          · subst hq; simp [setI1]
          · simp only [setI1, hq, and_false, if_false]; exact g2 x (by omega)
        · simp only [setI1, show ¬ x = i by omega, and_false, if_false]; exact g3 x (by omega) hx2
      · rw [if_neg ht] at e45
        refine ⟨(nI (i + 1), w'), ?_, _, rfl, g1, fun x hx => ?_, fun x hx1 hx2 => g3 x (by omega) hx2⟩
        · simp (disch := omega) only [lbX1_begin_31_2, ntn, gd_n, n4, nle, if_neg (show ¬ 4 ≤ i by omega), e45, show ((-1 : Int32) < 0) = True from eq_true (by decide), if_true, show nI i + 1 = nI (i + 1) by rw [n1, nadd]]
        · by_cases hq : x = i
          · subst hq
            rw [g3 x (Nat.le_refl _) hi, hG x hi (by simpa using ht)]
          · exact g2 x (by omega)
    · rintro s ⟨w', rfl, g1, g2, g3⟩
      exact ⟨w', by simp only [lbX1_begin_31_2, show nI 4 = 4 from rfl, Int32.le_refl, if_true], g1, g2⟩
  obtain ⟨w4, d1, d2, d3, d4⟩ : ∃ w4, wh (lbX1_begin_65_3 N 1) N (0, w3) = some w4 ∧ Fr (fun o _ => o == 9 || o == 10) w3 w4 ∧ (∀ x, x ≤ 60 → w4.1 9 x = nI 0) ∧ ∀ x, x ≤ 60 → w4.1 10 x = nI 0 := by
    have key := wh_cnt (body := lbX1_begin_65_3 N 1) (n := 61) (I := fun i s => ∃ w', s = (nI i, w') ∧ Fr (fun o _ => o == 9 || o == 10) w3 w' ∧ (∀ x, x < i → w'.1 9 x = nI 0) ∧ ∀ x, x < i → w'.1 10 x = nI 0) (Q := fun w4 => Fr (fun o _ => o == 9 || o == 10) w3 w4 ∧ (∀ x, x ≤ 60 → w4.1 9 x = nI 0) ∧ ∀ x, x ≤ 60 → w4.1 10 x = nI 0)
      ?_ ?_ (N := N) (i := 0) (s := (0, w3)) ⟨w3, rfl, Fr.rf, fun x hx => by omega, fun x hx => by omega⟩ (by omega) (by omega)
    · obtain ⟨w', e1, e2, e3, e4⟩ := key; exact ⟨w', e1, e2, e3, e4⟩
    · rintro i s hi ⟨w', rfl, g1, g2, g3⟩
      refine ⟨(nI (i + 1), setI (setI w' 9 i (nI 0)) 10 i (nI 0)), ?_, _, rfl, g1.tr ((Fr.set (by simp)).tr (Fr.set (by simp))), fun x hx => ?_, fun x hx => ?_⟩
      · simp (disch := omega) only [lbX1_begin_65_3, n60, n1, nlt, lw_eq, bd_some', bd2_some', gd_true, Nat.reduceAdd, if_neg (show ¬ 60 < i by omega), gd_n, ntn, n0, nadd]
      · by_cases hq : x = i
        · subst hq; simp [setI1]
        · simp only [setI1, hq, and_false, if_false]; exact g2 x (by omega)
      · by_cases hq : x = i
        · subst hq; simp [setI1]
        · simp only [setI1, hq, and_false, if_false]; exact g3 x (by omega)
    · rintro s ⟨w', rfl, g1, g2, g3⟩
      exact ⟨w', by simp only [lbX1_begin_65_3, show (60 < nI 61) = True from eq_true (by decide), if_true], g1, fun x hx => g2 x (by omega), fun x hx => g3 x (by omega)⟩
  have F5 : Fr (fun o k => o == 1 && (k == 5 || k == 6 || k == 7 || k == 8)) w4 (setI (setI (setI (setI w4 1 5 0) 1 6 0) 1 7 0) 1 8 0) := (((Fr.set (by simp)).tr (Fr.set (by simp))).tr (Fr.set (by simp))).tr (Fr.set (by simp))
  generalize hw5 : setI (setI (setI (setI w4 1 5 0) 1 6 0) 1 7 0) 1 8 0 = w5 at F5
  refine ⟨w5, ?_, ?_, ?_, fun i hi => ?_, fun i hi => ?_, fun i hi => ?_, fun i v hv => ?_, by rw [← hw5]; simp [setI1]; rfl, by rw [← hw5]; simp [setI1]; rfl, by rw [← hw5]; simp [setI1]; rfl, by rw [← hw5]; simp [setI1]⟩
  · simp only [fX1_begin, Nat.reduceAdd, a1, bd_some', b1, c1, d1, lw_eq, hw5]
  · exact (a2.wd (fun o k q => by simp at q ⊢; omega)).tr ((b2.wd (fun o k q => by simp at q ⊢; omega)).tr ((c2.wd (fun o k q => by simp at q ⊢; omega)).tr ((d2.wd (fun o k q => by simp at q ⊢; omega)).tr (F5.wd (fun o k q => by simp at q ⊢; omega)))))
  · exact (((a3.fr b2 (fun i hi k => by simp; omega)).fr c2 (fun i hi k => by simp; omega)).fr d2 (fun i hi k => by simp; omega)).fr F5 (fun i hi k => by simp; omega)
  · rw [F5.at' _ rfl, d2.at' _ rfl]; exact c3 i hi
  · rw [F5.at' _ rfl]; exact d3 i hi
  · rw [F5.at' _ rfl]; exact d4 i hi
  · obtain ⟨h1, rfl⟩ := List.getElem?_eq_some_iff.mp hv
    rw [List.length_range] at h1
    rw [List.getElem_range, F5.at' _ rfl, d2.at' _ rfl, c2.at' _ rfl]; exact b3 i (by omega)
/-- the reference lays what it has read -/
theorem laid_ev {m N : Nat} {F : Nat → Nat → Nat} {G : Nat → Nat} {w : AW} (z1 z2 : Nat) (h0 : w.1 0 0 = nI m) (hm : m ≤ 6) (h10 : ∀ x, x < m → ∀ i, i < 5 → w.1 10 (5 * x + i) = nI (F i x)) (hF : ∀ x, x < m → F 0 x ≤ 5 ∧ 1 ≤ F 1 x ∧ F 1 x ≤ 9 ∧ F 2 x ≤ 1 ∧ F 3 x ≤ 60 ∧ F 4 x ≤ 99) (h11 : ∀ i, i < 4 → w.1 11 i = nI (G i)) (hN : 100 < N) :
    ∃ w', (bd (wh (lbX12_board_152_3 N) N (0, w)) (fun w55 => bd (wh (lbX12_board_222_4 N) N (0, w55)) (fun w60 => wh (lbX12_board_247_5 N) N (0, w60)))) = some w' ∧ Fr (fun o _ => o == 1 || o == 2 || o == 5 || o == 6 || o == 7) w w' ∧ MJs m (jRF F) w' ∧ (∀ i, i < 4 → w'.1 2 i = nI (G i)) ∧ (∀ i, i ≤ 60 → w'.1 5 i = nI 0) ∧ (∀ i, i ≤ 60 → w'.1 6 i = nI 0) ∧ rowL (w'.1 7) (List.range m) := by
  obtain ⟨w1, a1, a2, a3, a4⟩ : ∃ w1, wh (lbX12_board_152_3 N) N (0, w) = some w1 ∧ Fr (fun o _ => o == 1 || o == 7) w w1 ∧ MJs m (jRF F) w1 ∧ ∀ x, x < m → w1.1 7 x = nI x := by
    have key := wh_cnt (body := lbX12_board_152_3 N) (n := m) (I := fun i s => ∃ w', s = (nI i, w') ∧ Fr (fun o _ => o == 1 || o == 7) w w' ∧ MJs i (jRF F) w' ∧ ∀ x, x < i → w'.1 7 x = nI x) (Q := fun w1 => Fr (fun o _ => o == 1 || o == 7) w w1 ∧ MJs m (jRF F) w1 ∧ ∀ x, x < m → w1.1 7 x = nI x)
      ?_ ?_ (N := N) (i := 0) (s := (0, w)) ⟨w, rfl, Fr.rf, fun j hj => by omega, fun x hx => by omega⟩ (by omega) (by omega)
    · obtain ⟨w', e1, e2⟩ := key; exact ⟨w', e1, e2⟩
    · rintro i s hi ⟨w', rfl, g1, g2, g3⟩
      obtain ⟨f0, f1, f2, f3, f4, f5⟩ := hF i hi
      have e10 : ∀ j, j < 5 → w'.1 10 (5 * i + j) = nI (F j i) := fun j hj => by rw [g1.at' _ rfl]; exact h10 i hi j hj
      have q0 := e10 0 (by omega)
      have q1 := e10 1 (by omega)
      have q2 := e10 2 (by omega)
      have q3 := e10 3 (by omega)
      have q4 := e10 4 (by omega)
      rw [Nat.add_zero] at q0
      obtain ⟨w2, k1, k2, k3⟩ := lay_ev (k := F 0 i) (s := F 1 i) (c := F 2 i) (b := F 3 i) (p := F 4 i) g2 (by omega) f0 f2
      have c0 : w'.1 0 0 = nI m := by rw [g1.at' _ rfl]; exact h0
      have F7 : Fr (fun o _ => o == 7) w2 (setI w2 7 i (nI i)) := Fr.set (by simp)
      refine ⟨(nI (i + 1), setI w2 7 i (nI i)), ?_, _, rfl, g1.tr ((k2.wd (fun o k q => by simp at q ⊢; omega)).tr (F7.wd (fun o k q => by simp at q ⊢; omega))), ?_, fun x hx => ?_⟩
      · simp (disch := omega) only [lbX12_board_152_3, n0, n1, n2, n3, n4, n5, n6, n7, n8, n9, n10, n13, n16, n18, n20, n30, n32, n40, n48, n57, n59, n60, n64, n97, n99, n122, n126, n186, n200, n1000000, nadd, nmul, nlt, nle, neq, ntn, gd_n, c0, if_neg (show ¬ m ≤ i by omega), q0, q1, q2, q3, q4, k1, lw_eq, bd_some', bd2_some', gd_true]
      · refine (k3.fr F7 (fun k => rfl)).cgr (fun y hy k _ => ?_)
        unfold upJ
        by_cases hq : y = i
        · subst hq; rw [if_pos rfl]; rfl
        · rw [if_neg hq]
      · by_cases hq : x = i
        · subst hq; simp [setI1]
        · simp only [setI1, hq, and_false, if_false]
          rw [k2.at' _ (by simp)]; exact g3 x (by omega)
    · rintro s ⟨w', rfl, g1, g2, g3⟩
      have c0 : w'.1 0 0 = nI m := by rw [g1.at' _ rfl]; exact h0
      exact ⟨w', by simp only [lbX12_board_152_3, c0, Int32.le_refl, if_true], g1, g2, g3⟩
  obtain ⟨w2, b1, b2, b3⟩ : ∃ w2, wh (lbX12_board_222_4 N) N (0, w1) = some w2 ∧ Fr (fun o _ => o == 2) w1 w2 ∧ ∀ x, x < 4 → w2.1 2 x = nI (G x) := by
    have key := wh_cnt (body := lbX12_board_222_4 N) (n := 4) (I := fun i s => ∃ w', s = (nI i, w') ∧ Fr (fun o _ => o == 2) w1 w' ∧ ∀ x, x < i → w'.1 2 x = nI (G x)) (Q := fun w2 => Fr (fun o _ => o == 2) w1 w2 ∧ ∀ x, x < 4 → w2.1 2 x = nI (G x))
      ?_ ?_ (N := N) (i := 0) (s := (0, w1)) ⟨w1, rfl, Fr.rf, fun x hx => by omega⟩ (by omega) (by omega)
    · obtain ⟨w', e1, e2⟩ := key; exact ⟨w', e1, e2⟩
    · rintro i s hi ⟨w', rfl, g1, g2⟩
      have e11 : w'.1 11 i = nI (G i) := by rw [g1.at' _ rfl, a2.at' _ rfl]; exact h11 i hi
      refine ⟨(nI (i + 1), setI w' 2 i (nI (G i))), ?_, _, rfl, g1.tr (Fr.set (by simp)), fun x hx => ?_⟩
      · simp (disch := omega) only [lbX12_board_222_4, n0, n1, n2, n3, n4, n5, n6, n7, n8, n9, n10, n13, n16, n18, n20, n30, n32, n40, n48, n57, n59, n60, n64, n97, n99, n122, n126, n186, n200, n1000000, nadd, nmul, nlt, nle, neq, ntn, gd_n, if_neg (show ¬ 4 ≤ i by omega), e11, lw_eq, bd_some', bd2_some', gd_true]
      · by_cases hq : x = i
        · subst hq; simp [setI1]
        · simp only [setI1, hq, and_false, if_false]; exact g2 x (by omega)
    · rintro s ⟨w', rfl, g1, g2⟩
      exact ⟨w', by simp only [lbX12_board_222_4, show nI 4 = 4 from rfl, Int32.le_refl, if_true], g1, g2⟩
  obtain ⟨w4, d1, d2, d3, d4⟩ : ∃ w4, wh (lbX12_board_247_5 N) N (0, w2) = some w4 ∧ Fr (fun o _ => o == 5 || o == 6) w2 w4 ∧ (∀ x, x ≤ 60 → w4.1 5 x = nI 0) ∧ ∀ x, x ≤ 60 → w4.1 6 x = nI 0 := by
    have key := wh_cnt (body := lbX12_board_247_5 N) (n := 61) (I := fun i s => ∃ w', s = (nI i, w') ∧ Fr (fun o _ => o == 5 || o == 6) w2 w' ∧ (∀ x, x < i → w'.1 5 x = nI 0) ∧ ∀ x, x < i → w'.1 6 x = nI 0) (Q := fun w4 => Fr (fun o _ => o == 5 || o == 6) w2 w4 ∧ (∀ x, x ≤ 60 → w4.1 5 x = nI 0) ∧ ∀ x, x ≤ 60 → w4.1 6 x = nI 0)
      ?_ ?_ (N := N) (i := 0) (s := (0, w2)) ⟨w2, rfl, Fr.rf, fun x hx => by omega, fun x hx => by omega⟩ (by omega) (by omega)
    · obtain ⟨w', e1, e2⟩ := key; exact ⟨w', e1, e2⟩
    · rintro i s hi ⟨w', rfl, g1, g2, g3⟩
      refine ⟨(nI (i + 1), setI (setI w' 5 i (nI 0)) 6 i (nI 0)), ?_, _, rfl, g1.tr ((Fr.set (by simp)).tr (Fr.set (by simp))), fun x hx => ?_, fun x hx => ?_⟩
      · simp (disch := omega) only [lbX12_board_247_5, n60, n1, nlt, lw_eq, bd_some', bd2_some', gd_true, if_neg (show ¬ 60 < i by omega), gd_n, ntn, n0, nadd]
      · by_cases hq : x = i
        · subst hq; simp [setI1]
        · simp only [setI1, hq, and_false, if_false]; exact g2 x (by omega)
      · by_cases hq : x = i
        · subst hq; simp [setI1]
        · simp only [setI1, hq, and_false, if_false]; exact g3 x (by omega)
    · rintro s ⟨w', rfl, g1, g2, g3⟩
      exact ⟨w', by simp only [lbX12_board_247_5, show (60 < nI 61) = True from eq_true (by decide), if_true], g1, fun x hx => g2 x (by omega), fun x hx => g3 x (by omega)⟩
  refine ⟨w4, by rw [a1, bd_some', b1, bd_some', d1], (a2.wd (fun o k q => by simp at q ⊢; omega)).tr ((b2.wd (fun o k q => by simp at q ⊢; omega)).tr (d2.wd (fun o k q => by simp at q ⊢; omega))), (a3.fr b2 (fun k => rfl)).fr d2 (fun k => rfl), fun i hi => by rw [d2.at' _ rfl]; exact b3 i hi, d3, d4, fun i v hv => ?_⟩
  obtain ⟨h1, rfl⟩ := List.getElem?_eq_some_iff.mp hv
  rw [List.length_range] at h1
  rw [List.getElem_range, d2.at' _ rfl, b2.at' _ rfl]; exact a4 i h1
