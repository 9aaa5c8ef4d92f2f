/-! 52: acts of the reference -/
theorem k6 {k : Nat} (h : k < 6) : k = 0 ∨ k = 1 ∨ k = 2 ∨ k = 3 ∨ k = 4 ∨ k = 5 := by omega
theorem plainPr_M {k : Nat} {n a f x : Int32} {tr : List Nat} {w : AW} (h : AM k n a f w) (ht : TrM tr w) (hl : tr.length < 30) : ∃ w', fX12_plainPrints x w = some (x + n, w') ∧ Fr TXm w w' ∧ AM k n a f w' ∧ TrM (tr ++ [10]) w' := by
  obtain ⟨w1, e1, e2, e3, e4⟩ := ran_M (b := 10) h ht hl
  have e1' : fX12_ran 10 w = some w1 := e1
  exact ⟨w1, by simp only [fX12_plainPrints, e1', bd_some', e3.2.1], e2, e3, e4⟩
theorem posterPr_M {k : Nat} {n a f x : Int32} {tr : List Nat} {w : AW} (h : AM k n a f w) (ht : TrM tr w) (hl : tr.length < 29) : ∃ w', fX12_posterPrints x w = some ((x + n) * 3, w') ∧ Fr TXm w w' ∧ AM k n a f w' ∧ TrM (tr ++ [30, 10]) w' := by
  obtain ⟨w1, e1, e2, e3, e4⟩ := ran_M (b := 30) h ht (by omega)
  obtain ⟨w2, g1, g2, g3, g4⟩ := plainPr_M (x := x) e3 e4 (by simp; omega)
  have e1' : fX12_ran 30 w = some w1 := e1
  refine ⟨w2, by simp only [fX12_posterPrints, e1', bd_some', g1, bd2_some'], e2.tr g2, g3, ?_⟩
  rw [List.append_assoc] at g4; exact g4
theorem prints_M {k : Nat} {n a f x : Int32} {tr : List Nat} {w : AW} (h : AM k n a f w) (ht : TrM tr w) (hk : k < 6) (hl : tr.length ≤ 25) : ∃ w', fX12_printsIt x w = some (prV k n x, w') ∧ Fr TXm w w' ∧ AM k n a f w' ∧ TrM (tr ++ prT k) w' := by
  obtain ⟨p1, q1, q2, q3, q4⟩ := plainPr_M (x := x) h ht (by omega)
  obtain ⟨p2, r1, r2, r3, r4⟩ := posterPr_M (x := x) h ht (by omega)
  have hkk := h.1
  rcases k6 hk with rfl | rfl | rfl | rfl | rfl | rfl
  · refine ⟨p1, ?_, q2, q3, q4⟩
    simp only [fX12_printsIt, hkk, show ¬ nI 0 = (2 : Int32) by decide, show ¬ nI 0 = (3 : Int32) by decide, show ¬ nI 0 = (4 : Int32) by decide, if_false, q1, bd2_some']
    rfl
  · refine ⟨p1, ?_, q2, q3, q4⟩
    simp only [fX12_printsIt, hkk, show ¬ nI 1 = (2 : Int32) by decide, show ¬ nI 1 = (3 : Int32) by decide, show ¬ nI 1 = (4 : Int32) by decide, if_false, q1, bd2_some']
    rfl
  · refine ⟨p2, ?_, r2, r3, r4⟩
    simp only [fX12_printsIt, hkk, show nI 2 = (2 : Int32) from rfl, if_true, r1, bd2_some']
    rfl
  · obtain ⟨w1, e1, e2, e3, e4⟩ := ran_M (b := 41) h ht (by omega)
    have e1' : fX12_ran 41 w = some w1 := e1
    obtain ⟨w2, g1, g2, g3, g4⟩ := posterPr_M (x := x) e3 e4 (by simp; omega)
    refine ⟨w2, ?_, e2.tr g2, g3, ?_⟩
    · simp only [fX12_printsIt, hkk, show ¬ nI 3 = (2 : Int32) by decide, show nI 3 = (3 : Int32) from rfl, show ¬ (3 : Int32) = 2 by decide, if_true, if_false, e1', bd_some', g1, bd2_some', g3.2.1]
      rfl
    · rw [List.append_assoc] at g4; exact g4
  · obtain ⟨w1, e1, e2, e3, e4⟩ := ran_M (b := 50) h ht (by omega)
    have e1' : fX12_ran 50 w = some w1 := e1
    obtain ⟨w2, g1, g2, g3, g4⟩ := plainPr_M (x := x) e3 e4 (by simp; omega)
    refine ⟨w2, ?_, e2.tr g2, g3, ?_⟩
    · simp only [fX12_printsIt, hkk, show nI 4 = (4 : Int32) from rfl, show ¬ (4 : Int32) = 2 by decide, show ¬ (4 : Int32) = 3 by decide, if_true, if_false, e1', bd_some', g1, bd2_some']
      rfl
    · rw [List.append_assoc] at g4; exact g4
  · refine ⟨p1, ?_, q2, q3, q4⟩
    simp only [fX12_printsIt, hkk, show ¬ nI 5 = (2 : Int32) by decide, show ¬ nI 5 = (3 : Int32) by decide, show ¬ nI 5 = (4 : Int32) by decide, if_false, q1, bd2_some']
    rfl
theorem plainSe_M {k : Nat} {n a f x : Int32} {tr : List Nat} {w : AW} (h : AM k n a f w) (ht : TrM tr w) (hk : k < 6) (hl : tr.length ≤ 20) : ∃ w', fX12_plainSets x w = some (prV k n x * 2, w') ∧ Fr TXm w w' ∧ AM k n a f w' ∧ TrM (tr ++ ([11] ++ prT k)) w' := by
  obtain ⟨w1, e1, e2, e3, e4⟩ := ran_M (b := 11) h ht (by omega)
  have e1' : fX12_ran 11 w = some w1 := e1
  obtain ⟨w2, g1, g2, g3, g4⟩ := prints_M (x := x) e3 e4 hk (by simp; omega)
  refine ⟨w2, by simp only [fX12_plainSets, e1', bd_some', g1, bd2_some'], e2.tr g2, g3, ?_⟩
  rw [List.append_assoc] at g4; exact g4
theorem wedSe_M {k : Nat} {n a f x : Int32} {tr : List Nat} {w : AW} (h : AM k n a f w) (ht : TrM tr w) (hk : k < 6) (hl : tr.length ≤ 19) : ∃ w', fX12_weddingSets x w = some (prV k n x * 2 - a, w') ∧ Fr TXm w w' ∧ AM k n a f w' ∧ TrM (tr ++ ([20] ++ ([11] ++ prT k))) w' := by
  obtain ⟨w1, e1, e2, e3, e4⟩ := ran_M (b := 20) h ht (by omega)
  have e1' : fX12_ran 20 w = some w1 := e1
  obtain ⟨w2, g1, g2, g3, g4⟩ := plainSe_M (x := x) e3 e4 hk (by simp; omega)
  refine ⟨w2, by simp only [fX12_weddingSets, e1', bd_some', g1, bd2_some', g3.2.2.1], e2.tr g2, g3, ?_⟩
  rw [List.append_assoc] at g4; exact g4
theorem sets_M {k : Nat} {n a f x : Int32} {tr : List Nat} {w : AW} (h : AM k n a f w) (ht : TrM tr w) (hk : k < 6) (hl : tr.length ≤ 14) : ∃ w', fX12_setsIt x w = some (seV k n a x, w') ∧ Fr TXm w w' ∧ AM k n a f w' ∧ TrM (tr ++ seT k) w' := by
  obtain ⟨p1, q1, q2, q3, q4⟩ := plainSe_M (x := x) h ht hk (by omega)
  obtain ⟨p2, r1, r2, r3, r4⟩ := wedSe_M (x := x) h ht hk (by omega)
  have hkk := h.1
  have hpl := prT_len k
  rcases k6 hk with rfl | rfl | rfl | rfl | rfl | rfl
  · refine ⟨p1, ?_, q2, q3, q4⟩
    simp only [fX12_setsIt, hkk, show ¬ nI 0 = (4 : Int32) by decide, show ¬ nI 0 = (1 : Int32) by decide, if_false, q1, bd2_some']
    rfl
  · refine ⟨p2, ?_, r2, r3, r4⟩
    simp only [fX12_setsIt, hkk, show ¬ nI 1 = (4 : Int32) by decide, show nI 1 = (1 : Int32) from rfl, show ¬ (1 : Int32) = 4 by decide, if_true, if_false, r1, bd2_some']
    rfl
  · refine ⟨p1, ?_, q2, q3, q4⟩
    simp only [fX12_setsIt, hkk, show ¬ nI 2 = (4 : Int32) by decide, show ¬ nI 2 = (1 : Int32) by decide, if_false, q1, bd2_some']
    rfl
  · refine ⟨p1, ?_, q2, q3, q4⟩
    simp only [fX12_setsIt, hkk, show ¬ nI 3 = (4 : Int32) by decide, show ¬ nI 3 = (1 : Int32) by decide, if_false, q1, bd2_some']
    rfl
  · obtain ⟨w1, e1, e2, e3, e4⟩ := ran_M (b := 51) h ht (by omega)
    have e1' : fX12_ran 51 w = some w1 := e1
    obtain ⟨w2, g1, g2, g3, g4⟩ := wedSe_M (x := x) e3 e4 hk (by simp; omega)
    obtain ⟨w3, i1, i2, i3, i4⟩ := prints_M (x := n) g3 g4 hk (by simp; omega)
    refine ⟨w3, ?_, e2.tr (g2.tr i2), i3, ?_⟩
    · simp only [fX12_setsIt, hkk, show nI 4 = (4 : Int32) from rfl, if_true, e1', bd_some', g1, bd2_some', g3.2.1, i1]
      rfl
    · simp only [List.append_assoc] at i4; exact i4
  · refine ⟨p1, ?_, q2, q3, q4⟩
    simp only [fX12_setsIt, hkk, show ¬ nI 5 = (4 : Int32) by decide, show ¬ nI 5 = (1 : Int32) by decide, if_false, q1, bd2_some']
    rfl
theorem plainSh_M {k : Nat} {n a x : Int32} {tr : List Nat} {w : AW} (h : AM k n a 0 w) (ht : TrM tr w) (hl : tr.length ≤ 22) :
    ∃ w' v, fX12_plainShares x w = some (v, w') ∧ Fr TXm w w' ∧ AM k n a (if a = n then 1 else 0) w' ∧ TrM (tr ++ [12]) w' ∧ (¬ a = n → v = x / (a - n)) := by
  obtain ⟨w1, e1, e2, e3, e4⟩ := ran_M (b := 12) h ht (by omega)
  have e1' : fX12_ran 12 w = some w1 := e1
  by_cases han : a = n
  · refine ⟨setI w1 0 49 1, 0, ?_, e2.tr (Fr.set (by simp [TXm])), ?_, ?_, fun q => absurd han q⟩
    · simp only [fX12_plainShares, e1', bd_some', e3.2.1, e3.2.2.1, han, if_true, lw_eq]
    · rw [if_pos han]
      obtain ⟨q1, q2, q3, q4⟩ := e3
      exact ⟨by simp [setI1, q1], by simp [setI1, q2], by simp [setI1, q3], by simp [setI1]⟩
    · refine ⟨by simp only [setI1]; exact e4.1, fun i v hv => ?_⟩
      simp only [setI1, Nat.reduceEqDiff, false_and, if_false, show ¬ (25 = 0) by omega]
      exact e4.2 i v hv
  · refine ⟨w1, x / (a - n), ?_, e2, by rw [if_neg han]; exact e3, e4, fun _ => rfl⟩
    simp only [fX12_plainShares, e1', bd_some', e3.2.1, e3.2.2.1, han, if_false, sub_ne han, not_false_eq_true, decide_true, gd_true]
theorem shares_M {k : Nat} {n a x : Int32} {tr : List Nat} {w : AW} (h : AM k n a 0 w) (ht : TrM tr w) (hk : k < 6) (hl : tr.length ≤ 20) :
    ∃ w' v, fX12_sharesIt x w = some (v, w') ∧ Fr TXm w w' ∧ AM k n a (if a = n then 1 else 0) w' ∧ TrM (tr ++ shT k n a) w' ∧ (¬ a = n → v = shV k n a x) := by
  have plain : k ≠ 3 → k ≠ 5 → (uV k 3 = 0) → (uV k 5 = 0) → ∃ w' v, fX12_sharesIt x w = some (v, w') ∧ Fr TXm w w' ∧ AM k n a (if a = n then 1 else 0) w' ∧ TrM (tr ++ shT k n a) w' ∧ (¬ a = n → v = shV k n a x) := by
    intro h3 h5 u3 u5
    obtain ⟨w1, v, e1, e2, e3, e4, e5⟩ := plainSh_M (x := x) h ht (by omega)
    have n3' : ¬ nI k = 3 := by rw [n3, neq (by omega) (by omega)]; exact h3
    have n5' : ¬ nI k = 5 := by rw [n5, neq (by omega) (by omega)]; exact h5
    refine ⟨w1, v, by simp only [fX12_sharesIt, h.1, n3', n5', if_false, e1, bd2_some'], e2, e3, ?_, fun q => by rw [e5 q]; simp only [shV, u3, u5, if_true]⟩
    simp only [shT, ifT, u3, u5, if_true, List.nil_append]
    split <;> exact e4
  rcases k6 hk with rfl | rfl | rfl | rfl | rfl | rfl
  · exact plain (by omega) (by omega) rfl rfl
  · exact plain (by omega) (by omega) rfl rfl
  · exact plain (by omega) (by omega) rfl rfl
  · obtain ⟨w1, e1, e2, e3, e4⟩ := ran_M (b := 40) h ht (by omega)
    have e1' : fX12_ran 40 w = some w1 := e1
    obtain ⟨w2, v, g1, g2, g3, g4, g5⟩ := plainSh_M (x := x + 2) e3 e4 (by simp; omega)
    refine ⟨w2, v ^^^ 1, ?_, e2.tr g2, g3, ?_, fun q => by rw [g5 q]; rfl⟩
    · simp only [fX12_sharesIt, h.1, show nI 3 = (3 : Int32) from rfl, if_true, e1', bd_some', g1, bd2_some']
    · rw [List.append_assoc] at g4
      have : shT 3 n a = [40] ++ [12] := by
        unfold shT
        by_cases han : a = n
        · rw [if_pos han]; rfl
        · rw [if_neg han]; rfl
      rw [this]; exact g4
  · exact plain (by omega) (by omega) rfl rfl
  · obtain ⟨w1, e1, e2, e3, e4⟩ := ran_M (b := 61) h ht (by omega)
    have e1' : fX12_ran 61 w = some w1 := e1
    obtain ⟨w2, v, g1, g2, g3, g4, g5⟩ := plainSh_M (x := x) e3 e4 (by simp; omega)
    by_cases han : a = n
    · rw [if_pos han] at g3
      refine ⟨w2, 0, ?_, e2.tr g2, by rw [if_pos han]; exact g3, ?_, fun q => absurd han q⟩
      · simp only [fX12_sharesIt, h.1, show nI 5 = (5 : Int32) from rfl, show ¬ (5 : Int32) = 3 by decide, if_true, if_false, e1', bd_some', g1, bd2_some', g3.2.2.2, show ¬ (1 : Int32) = 0 by decide]
      · rw [List.append_assoc] at g4
        have : shT 5 n a = [61] ++ [12] := by unfold shT; rw [if_pos han]; rfl
        rw [this]; exact g4
    · rw [if_neg han] at g3
      obtain ⟨w3, i1, i2, i3, i4⟩ := prints_M (x := a) g3 g4 hk (by simp; omega)
      refine ⟨w3, v + prV 5 n a, ?_, e2.tr (g2.tr i2), by rw [if_neg han]; exact i3, ?_, fun q => by rw [g5 q]; rfl⟩
      · simp only [fX12_sharesIt, h.1, show nI 5 = (5 : Int32) from rfl, show ¬ (5 : Int32) = 3 by decide, if_true, if_false, e1', bd_some', g1, bd2_some', g3.2.2.2, g3.2.2.1, i1]
      · simp only [List.append_assoc] at i4
        have : shT 5 n a = [61] ++ ([12] ++ prT 5) := by unfold shT; rw [if_neg han]; rfl
        rw [this]; exact i4
theorem plainTe_M {k : Nat} {n a f x : Int32} {tr : List Nat} {w : AW} (h : AM k n a f w) (ht : TrM tr w) (hk : k < 6) (hl : tr.length ≤ 13) : ∃ w', fX12_plainTells x w = some (seV k n a x ^^^ a, w') ∧ Fr TXm w w' ∧ AM k n a f w' ∧ TrM (tr ++ ([13] ++ seT k)) w' := by
  obtain ⟨w1, e1, e2, e3, e4⟩ := ran_M (b := 13) h ht (by omega)
  have e1' : fX12_ran 13 w = some w1 := e1
  obtain ⟨w2, g1, g2, g3, g4⟩ := sets_M (x := x) e3 e4 hk (by simp; omega)
  refine ⟨w2, by simp only [fX12_plainTells, e1', bd_some', g1, bd2_some', g3.2.2.1], e2.tr g2, g3, ?_⟩
  rw [List.append_assoc] at g4; exact g4
theorem tells_M {k : Nat} {n a x : Int32} {tr : List Nat} {w : AW} (h : AM k n a 0 w) (ht : TrM tr w) (hk : k < 6) (hl : tr.length ≤ 2) :
    ∃ w' v, fX12_tellsIt x w = some (v, w') ∧ Fr TXm w w' ∧ AM k n a (if uV k 2 = 0 then 0 else if a = n then 1 else 0) w' ∧ TrM (tr ++ teT k n a) w' ∧ ((uV k 2 = 0 ∨ ¬ a = n) → v = teV k n a x) := by
  have hsl := seT_len k
  have plain : k ≠ 2 → k ≠ 3 → k ≠ 5 → (uV k 2 = 0) → (uV k 5 = 0) → ∃ w' v, fX12_tellsIt x w = some (v, w') ∧ Fr TXm w w' ∧ AM k n a (if uV k 2 = 0 then 0 else if a = n then 1 else 0) w' ∧ TrM (tr ++ teT k n a) w' ∧ ((uV k 2 = 0 ∨ ¬ a = n) → v = teV k n a x) := by
    intro h2 h3 h5 u2 u5
    obtain ⟨w1, e1, e2, e3, e4⟩ := plainTe_M (x := x) h ht hk (by omega)
    have n2' : ¬ nI k = 2 := by rw [n2, neq (by omega) (by omega)]; exact h2
    have n3' : ¬ nI k = 3 := by rw [n3, neq (by omega) (by omega)]; exact h3
    have n5' : ¬ nI k = 5 := by rw [n5, neq (by omega) (by omega)]; exact h5
    refine ⟨w1, seV k n a x ^^^ a, by simp only [fX12_tellsIt, h.1, n2', n3', n5', if_false, e1, bd2_some'], e2, by rw [if_pos u2]; exact e3, ?_, fun _ => by simp only [teV, u2, u5, if_true]⟩
    simp only [teT, ifT, u2, u5, if_true, List.nil_append, List.append_nil]
    exact e4
  have post : uV k 2 = 1 → uV k 5 = 0 → (nI k = 2 ∨ nI k = 3) → ∃ w' v, fX12_tellsIt x w = some (v, w') ∧ Fr TXm w w' ∧ AM k n a (if uV k 2 = 0 then 0 else if a = n then 1 else 0) w' ∧ TrM (tr ++ teT k n a) w' ∧ ((uV k 2 = 0 ∨ ¬ a = n) → v = teV k n a x) := by
    intro u2 u5 hn
    have hu : ¬ uV k 2 = 0 := by rw [u2]; decide
    obtain ⟨w1, e1, e2, e3, e4⟩ := ran_M (b := 31) h ht (by omega)
    have e1' : fX12_ran 31 w = some w1 := e1
    obtain ⟨w2, g1, g2, g3, g4⟩ := plainTe_M (x := x) e3 e4 hk (by simp; omega)
    obtain ⟨w3, v, i1, i2, i3, i4, i5⟩ := shares_M (x := n) g3 g4 hk (by simp only [List.length_append, List.length_cons, List.length_nil]; omega)
    refine ⟨w3, (seV k n a x ^^^ a) + v, ?_, e2.tr (g2.tr i2), by rw [if_neg hu]; exact i3, ?_, fun q => ?_⟩
    · rcases hn with hn | hn
      · simp only [fX12_tellsIt, h.1, hn, if_true, e1', bd_some', g1, bd2_some', g3.2.1, i1]
      · simp only [fX12_tellsIt, h.1, hn, show ¬ (3 : Int32) = 2 by decide, if_true, if_false, e1', bd_some', g1, bd2_some', g3.2.1, i1]
    · simp only [List.append_assoc] at i4
      simp only [teT, ifT, hu, u5, if_true, if_false, List.nil_append]
      exact i4
    · rw [i5 (q.resolve_left hu)]
      simp only [teV, hu, u5, if_true, if_false]
  rcases k6 hk with rfl | rfl | rfl | rfl | rfl | rfl
  · exact plain (by omega) (by omega) (by omega) rfl rfl
  · exact plain (by omega) (by omega) (by omega) rfl rfl
  · exact post rfl rfl (Or.inl rfl)
  · exact post rfl rfl (Or.inr rfl)
  · exact plain (by omega) (by omega) (by omega) rfl rfl
  · obtain ⟨w1, e1, e2, e3, e4⟩ := ran_M (b := 60) h ht (by omega)
    have e1' : fX12_ran 60 w = some w1 := e1
    obtain ⟨w2, g1, g2, g3, g4⟩ := plainTe_M (x := x) e3 e4 hk (by simp; omega)
    refine ⟨w2, (seV 5 n a x ^^^ a) * 2, ?_, e2.tr g2, g3, ?_, fun _ => rfl⟩
    · simp only [fX12_tellsIt, h.1, show nI 5 = (5 : Int32) from rfl, show ¬ (5 : Int32) = 2 by decide, show ¬ (5 : Int32) = 3 by decide, if_true, if_false, e1', bd_some', g1, bd2_some']
    · simp only [List.append_assoc] at g4; exact g4
/-! the call -/
theorem Rel.thg {wC wM wC' wM' : AW} {T T' : Nat → Nat → Bool} (h : Rel wC wM) (f : Fr T wC wC') (f' : Fr T' wM wM') (hC : ∀ o k, pC o k = true → o < 74 → T o k = false) (hM : ∀ o k, pM o k = true → ¬ (o = 25 ∨ (o = 0 ∧ k = 48)) → T' o k = false) (hb : RTh wC' wM') : Rel wC' wM' := by
  obtain ⟨h1, h2, h3, h4, h5, h6, h7, h8⟩ := h
  refine ⟨h1.fr f f' (fun o k a b => hC o k (by simp [pC]; omega) (by omega)) (fun o k hk => ?_), h2.fr f f' (fun o k a b => hC o k (by simp [pC]; omega) (by omega)) (fun k => hM 8 k rfl (by omega)) (hM 0 12 rfl (by omega)) (hM 0 14 rfl (by omega)), h3.fr f f' (hC 0 4 rfl (by omega)) (fun o k a b => hC o k (by simp [pC]; omega) (by omega)) (fun o k a b => hC o k (by simp [pC]; omega) (by omega)) (hM 0 50 rfl (by omega)) (fun k => hM 26 k rfl (by omega)),
    h4.fr f f' (hC 37 1 rfl (by omega)) (fun k => hC 38 k rfl (by omega)) (hM 0 16 rfl (by omega)) (fun k => hM 9 k rfl (by omega)), h5.fr f f' (hC 59 2 rfl (by omega)) (fun k => hC 60 k rfl (by omega)) (hM 0 37 rfl (by omega)) (fun k => hM 18 k rfl (by omega)), h6.fr f f' (fun o k a b => hC o k (by simp [pC, a, b]) (by omega)) (fun o k a b => hM o k (by simp [pM]; omega) (by omega)), hb, h8.fr f' (fun k => hM 3 k rfl (by omega)) (fun k => hM 4 k rfl (by omega))⟩
  simp only [mB, Bool.or_eq_true, Bool.and_eq_true, beq_iff_eq] at hk
  exact hM o k (by simp only [pM, Bool.or_eq_true, Bool.and_eq_true, beq_iff_eq, decide_eq_true_eq]; omega) (by omega)
theorem st_act {wC wM : AW} (h : Rel wC wM) (a0 a1 a2 : Int32) : ∃ r wC' wM', fX11_act a0 a1 a2 wC = some (r, wC') ∧ fX12_act a0 a1 a2 wM = some (r, wM') ∧ Rel wC' wM' := by
  have h10 : ¬ (1 : Int32) = 0 := by decide
  have hm15 : ¬ (-1 : Int32) = 0 := by decide
  obtain ⟨r1, r2, r3⟩ := h.2.2.2.2.2.1
  obtain ⟨n, J, L, lost, nig, day, col, left, till, p, ok, hc, hm⟩ := h.1
  obtain ⟨hn, bj, -⟩ := ok
  -- the trace is empty
  generalize hw1 : setI wC 74 5 0 = w1
  generalize hv1 : setI wM 0 48 0 = v1
  have fC : Fr (fun o k => o == 74 && k == 5) wC w1 := by subst hw1; exact Fr.set (by simp)
  have fM : Fr (fun o k => o == 0 && k == 48) wM v1 := by subst hv1; exact Fr.set (by simp)
  have hR0 : Rel w1 v1 := h.thg fC fM (fun o k q q1 => by simp; omega) (fun o k q q1 => by simp; omega) ⟨0, by omega, by subst hw1; simp [setI1]; rfl, by subst hv1; simp [setI1]; rfl, fun i hi => by omega⟩
  have hneg1 : wI (-1) 0 5 = 0 := by decide
  have hbad : fX12_in (-1) 0 5 v1 = some 0 := by rw [in_ev, hneg1]
  have refM : ∀ {x : Int32}, wI x 0 5 = 0 → bX12_act_21 a0 a1 a2 x v1 = some (0, v1) := fun {x} hx => by
    simp only [bX12_act_21, in_ev, hx, bd_some', if_true]
    split <;> rfl
  rcases wI_01 a0 0 3 with hr | hr
  · refine ⟨0, w1, v1, ?_, ?_, hR0⟩
    · simp only [fX11_act, fX9_forget, lw_eq, hw1, bd_some', isPlace_ev, hr, if_true]
    · simp only [fX12_act, lw_eq, hv1, isShelf_ev, hr, bd_some', if_true, refM hneg1]
  · obtain ⟨a, -, ha, rfl⟩ := wI_nat (lo := 0) (hi := 3) hr (by omega) (by omega)
    have hg : ∀ {β : Type} {k : Option β}, gd (inb (nI a) 4) k = k := fun {β k} => gd_n (by omega) (by omega)
    have ht : (nI a).toNatClampNeg = a := ntn (by omega)
    have hs := r3 a (by omega)
    have c1' : CBd 1 n J L lost nig day col left till p w1 := hc.fr fC (fun i hi k => by simp; omega)
    have m1' : MBd n J L lost nig day col left till p v1 := hm.fr fM (fun o k q => by
      simp only [mB, Bool.or_eq_true, Bool.and_eq_true, beq_iff_eq] at q
      simp; omega)
    have e71 : w1.1 71 a = wC.1 71 a := fC.at' _ rfl
    have e73 : w1.1 73 a = wC.1 73 a := fC.at' _ rfl
    have e22 : v1.1 22 a = wM.1 22 a := fM.at' _ rfl
    have e23 : v1.1 23 a = wM.1 23 a := fM.at' _ rfl
    rw [← e71, ← e73, ← e22, ← e23] at hs
    -- nothing, or a row: both answer 0
    have nojob : ∀ x : Int32, wI x 0 5 = 0 → fX12_kindOn (nI a) v1 = some x → (fX4_has 2 (if w1.1 71 a = 1 then w1.1 73 a else -9) w1 = some 0) → ∃ r wC' wM', fX11_act (nI a) a1 a2 wC = some (r, wC') ∧ fX12_act (nI a) a1 a2 wM = some (r, wM') ∧ Rel wC' wM' := by
      intro x hx hk hj
      have ejob : fX7_jobOn (nI a) w1 = some (if w1.1 71 a = 1 then w1.1 73 a else -9) := by
        simp only [fX7_jobOn, hg, ht]
        split <;> rfl
      refine ⟨0, w1, v1, ?_, ?_, hR0⟩
      · simp only [fX11_act, fX9_forget, lw_eq, hw1, bd_some', isPlace_ev, hr, h10, if_false, within_ev, ejob, hj, if_true]
        split <;> rfl
      · simp only [fX12_act, lw_eq, hv1, isShelf_ev, hr, bd_some', h10, if_false, hk, refM hx]
    rcases hs with ⟨s1, s2⟩ | ⟨s1, s2, s3⟩ | ⟨s1, s2, -⟩
    · refine nojob (-1) hneg1 ?_ ?_
      · simp only [fX12_kindOn, hg, ht, s2, hm15, if_false, show ¬ (0 : Int32) ≤ -1 by decide]
      · rw [s1, if_neg (by decide), has_wI (o := 2) (w := w1) (-9) c1'.1.1 (by omega)]
        unfold wI; rw [if_pos (by decide)]
    · have e1 := has_wI (o := 2) (w := w1) (w1.1 73 a) c1'.1.1 (by omega)
      have e2 := isJob_wI (w := v1) (w1.1 73 a) m1'.2.2.2.1
      rcases wI_01 (w1.1 73 a) 0 (nI n - 1) with hw | hw
      · refine nojob (-1) hneg1 ?_ ?_
        · simp only [fX12_kindOn, hg, ht, s2, ← s3, e2, hw, if_true, bd_some']
        · rw [s1, if_pos rfl, e1, hw]
      · obtain ⟨j, hj, hj2⟩ := wI_neg (by omega) hw
        rw [hj2] at e1 e2 hw s3
        obtain ⟨k0, k1, k2, k3, k4, k5⟩ := bj j hj
        have e3 : w1.1 3 j = nI (J 0 j) := (c1'.1.2 j hj).1
        have e7 : w1.1 7 j = nI (J 4 j) := (c1'.1.2 j hj).2.2.2.2
        have e4 := its0_ev m1'.1 hj hn
        have ekind : fX12_kindOn (nI a) v1 = some (nI (J 0 j)) := by simp only [fX12_kindOn, hg, ht, s2, ← s3, e2, hw, h10, if_true, if_false, bd_some', e4]
        have ejob : fX7_jobOn (nI a) w1 = some (nI j) := by simp only [fX7_jobOn, hg, ht, s1, if_true, hj2]
        have hin : wI (nI (J 0 j)) 0 5 = 1 := wI_of (lo := 0) (hi := 5) (by omega) k0 (by omega)
        rcases wI_01 a1 0 3 with ha1 | ha1
        · refine ⟨0, w1, v1, ?_, ?_, hR0⟩
          · simp only [fX11_act, fX9_forget, lw_eq, hw1, bd_some', isPlace_ev, hr, h10, if_false, within_ev, ha1, if_true]
          · simp only [fX12_act, lw_eq, hv1, isShelf_ev, hr, bd_some', h10, if_false, ekind, bX12_act_21, in_ev, ha1, if_true]
        · obtain ⟨act, -, hact, rfl⟩ := wI_nat (lo := 0) (hi := 3) ha1 (by omega) (by omega)
          have hg6 : ∀ {β : Type} {k : Option β}, gd (inb (nI j) 6) k = k := fun {β k} => gd_n (by omega) (by omega)
          have htj : (nI j).toNatClampNeg = j := ntn (by omega)
          generalize hw2 : setI (setI (setI (setI w1 74 0 (nI (J 0 j))) 74 1 (nI j)) 74 2 (nI (J 4 j))) 74 3 0 = w2
          generalize hv2 : setI (setI (setI (setI v1 0 44 (nI (J 0 j))) 0 45 (nI j)) 0 46 (nI (J 4 j))) 0 49 0 = v2
          have A1 : AC (J 0 j) (nI j) (nI (J 4 j)) 0 w2 := by subst hw2; exact ⟨by simp [setI1], by simp [setI1], by simp [setI1], by simp [setI1]⟩
          have A2 : AM (J 0 j) (nI j) (nI (J 4 j)) 0 v2 := by subst hv2; exact ⟨by simp [setI1], by simp [setI1], by simp [setI1], by simp [setI1]⟩
          have T1 : TrC [] w2 := ⟨by subst hw2; subst hw1; simp [setI1]; rfl, fun i v hv => by simp at hv⟩
          have T2 : TrM [] v2 := ⟨by subst hv2; subst hv1; simp [setI1]; rfl, fun i v hv => by simp at hv⟩
          have F1 : Fr (fun o _ => o == 74) wC w2 := (fC.wd (fun o k q => by simp at q ⊢; omega)).tr (by subst hw2; exact (((Fr.set (by simp)).tr (Fr.set (by simp))).tr (Fr.set (by simp))).tr (Fr.set (by simp)))
          have F2 : Fr (fun o k => o == 0 && (k == 44 || k == 45 || k == 46 || k == 48 || k == 49)) wM v2 := (fM.wd (fun o k q => by simp at q ⊢; omega)).tr (by subst hv2; exact (((Fr.set (by simp)).tr (Fr.set (by simp))).tr (Fr.set (by simp))).tr (Fr.set (by simp)))
          have fin : ∀ (tr : List Nat) (w3 v3 : AW), tr.length ≤ 30 → Fr TXc w2 w3 → Fr TXm v2 v3 → TrC tr w3 → TrM tr v3 → Rel w3 v3 := by
            intro tr w3 v3 hl g1 g2 g3 g4
            refine h.thg (T := fun o _ => o == 74 || o == 75) (T' := fun o k => o == 25 || (o == 0 && (k == 44 || k == 45 || k == 46 || k == 48 || k == 49))) ((F1.wd (fun o k q => by simp at q ⊢; omega)).tr (g1.wd (fun o k q => by simp [TXc] at q ⊢; omega))) ((F2.wd (fun o k q => by simp at q ⊢; omega)).tr (g2.wd (fun o k q => by simp [TXm] at q ⊢; omega))) (fun o k q q1 => by simp; omega) (fun o k q q1 => ?_) ⟨tr.length, hl, g3.1, g4.1, fun i hi => by rw [g3.2.get hi, g4.2.get hi]⟩
            simp only [pM, Bool.or_eq_true, Bool.and_eq_true, beq_iff_eq, decide_eq_true_eq] at q
            simp; omega
          have eC : fX11_act (nI a) (nI act) a2 wC = bd2 (fX9_perform (nI act) a2 w2) (fun r18 w19 => some (r18, w19)) := by
            simp only [fX11_act, fX9_forget, lw_eq, hw1, bd_some', isPlace_ev, hr, h10, if_false, within_ev, ha1, ejob, e1, hw, hg6, htj, e3, e7, fX9_become, hw2]
          have e45 : ∀ w : AW, fX12_its ((setI (setI v1 0 44 (nI (J 0 j))) 0 45 (nI j)).1 0 45) 4 (setI (setI v1 0 44 (nI (J 0 j))) 0 45 (nI j)) = some (nI (J 4 j)) := fun _ => by
            have hMJ : MJs n J (setI (setI v1 0 44 (nI (J 0 j))) 0 45 (nI j)) := m1'.1.fr (Fr.tr (T := fun o _ => o == 0) (Fr.set (by simp)) (Fr.set (by simp))) (fun k => rfl)
            have := its_ev (i := 4) hMJ hj (by omega) (by omega)
            rw [show (setI (setI v1 0 44 (nI (J 0 j))) 0 45 (nI j)).1 0 45 = nI j by simp [setI1]]
            exact this
          have r23 : (setI v1 0 44 (nI (J 0 j))).1 23 a = nI j := by simp only [setI1, Nat.reduceEqDiff, false_and, if_false, show ¬ (23 = 0) by omega]; exact s3.symm
          have eM : fX12_act (nI a) (nI act) a2 wM = if nI act = 0 then bd2 (fX12_printsIt a2 v2) (fun r w => if (w.1 0 49) = 0 then some (r, w) else some (-15, w))
              else if nI act = 1 then bd2 (fX12_setsIt a2 v2) (fun r w => if (w.1 0 49) = 0 then some (r, w) else some (-15, w))
              else if nI act = 2 then bd2 (fX12_sharesIt a2 v2) (fun r w => if (w.1 0 49) = 0 then some (r, w) else some (-15, w))
              else bd2 (fX12_tellsIt a2 v2) (fun r w => if (w.1 0 49) = 0 then some (r, w) else some (-15, w)) := by
            simp only [fX12_act, lw_eq, hv1, isShelf_ev, hr, bd_some', h10, if_false, ekind, bX12_act_21, in_ev, ha1, hin, hg, ht, r23, e45 v1, hv2]
          have l1 := prT_len (J 0 j)
          have l2 := seT_len (J 0 j)
          have hact4 : act = 0 ∨ act = 1 ∨ act = 2 ∨ act = 3 := by omega
          rcases hact4 with rfl | rfl | rfl | rfl
          · obtain ⟨w3, g1, g2, g3, g4⟩ := prints_C (x := a2) A1 T1 (by omega) (by simp)
            obtain ⟨v3, i1, i2, i3, i4⟩ := prints_M (x := a2) A2 T2 (by omega) (by simp)
            refine ⟨prV (J 0 j) (nI j) a2, w3, v3, ?_, ?_, fin _ w3 v3 ?_ g2 i2 g4 i4⟩
            · rw [eC]
              simp only [fX9_perform, show nI 0 = (0 : Int32) from rfl, if_true, g1, bd2_some', g3.2.2.2]
            · rw [eM]; simp only [h10, if_false, bd_some', show nI 0 = (0 : Int32) from rfl, if_true, i1, bd2_some', i3.2.2.2]
            · simp only [List.nil_append]; omega
          · obtain ⟨w3, g1, g2, g3, g4⟩ := sets_C (x := a2) A1 T1 (by omega) (by simp)
            obtain ⟨v3, i1, i2, i3, i4⟩ := sets_M (x := a2) A2 T2 (by omega) (by simp)
            refine ⟨seV (J 0 j) (nI j) (nI (J 4 j)) a2, w3, v3, ?_, ?_, fin _ w3 v3 ?_ g2 i2 g4 i4⟩
            · rw [eC]
              simp only [fX9_perform, show nI 1 = (1 : Int32) from rfl, show ¬ (1 : Int32) = 0 by decide, if_true, if_false, g1, bd2_some', g3.2.2.2]
            · rw [eM]; simp only [h10, if_false, bd_some', show nI 1 = (1 : Int32) from rfl, if_true, i1, bd2_some', i3.2.2.2]
            · simp only [List.nil_append]; omega
          · obtain ⟨w3, x3, g1, g2, g3, g4, g5⟩ := shares_C (x := a2) A1 T1 (by omega) (by simp)
            obtain ⟨v3, y3, i1, i2, i3, i4, i5⟩ := shares_M (x := a2) A2 T2 (by omega) (by simp)
            have hl : (shT (J 0 j) (nI j) (nI (J 4 j))).length ≤ 30 := by
              have b1 := ifT_len (J 0 j) 3 40
              have b2 := ifT_len (J 0 j) 5 61
              simp only [shT, List.length_append, List.length_cons, List.length_nil]
              repeat' split
              all_goals try simp only [List.length_nil]
              all_goals omega
            by_cases han : nI (J 4 j) = nI j
            · rw [if_pos han] at g3 i3
              refine ⟨-15, w3, v3, ?_, ?_, fin _ w3 v3 (by simpa using hl) g2 i2 g4 i4⟩
              · rw [eC]
                simp only [fX9_perform, show nI 2 = (2 : Int32) from rfl, show ¬ (2 : Int32) = 0 by decide, show ¬ (2 : Int32) = 1 by decide, if_true, if_false, g1, bd2_some', g3.2.2.2, h10]
              · rw [eM]; simp only [h10, if_false, bd_some', show nI 2 = (2 : Int32) from rfl, show ¬ (2 : Int32) = 0 by decide, show ¬ (2 : Int32) = 1 by decide, if_true, i1, bd2_some', i3.2.2.2]
            · rw [if_neg han] at g3 i3
              refine ⟨shV (J 0 j) (nI j) (nI (J 4 j)) a2, w3, v3, ?_, ?_, fin _ w3 v3 (by simpa using hl) g2 i2 g4 i4⟩
              · rw [eC]
                simp only [fX9_perform, show nI 2 = (2 : Int32) from rfl, show ¬ (2 : Int32) = 0 by decide, show ¬ (2 : Int32) = 1 by decide, if_true, if_false, g1, bd2_some', g3.2.2.2, g5 han]
              · rw [eM]; simp only [h10, if_false, bd_some', show nI 2 = (2 : Int32) from rfl, show ¬ (2 : Int32) = 0 by decide, show ¬ (2 : Int32) = 1 by decide, if_true, i1, bd2_some', i3.2.2.2, i5 han]
          · obtain ⟨w3, x3, g1, g2, g3, g4, g5⟩ := tells_C (x := a2) A1 T1 (by omega) (by simp)
            obtain ⟨v3, y3, i1, i2, i3, i4, i5⟩ := tells_M (x := a2) A2 T2 (by omega) (by simp)
            have hl : (teT (J 0 j) (nI j) (nI (J 4 j))).length ≤ 30 := by
              have b1 := ifT_len (J 0 j) 3 40
              have b2 := ifT_len (J 0 j) 5 61
              have b3 := ifT_len (J 0 j) 2 31
              have b4 := ifT_len (J 0 j) 5 60
              simp only [teT, shT, List.length_append, List.length_cons, List.length_nil]
              repeat' split
              all_goals try simp only [List.length_nil, List.length_append, List.length_cons]
              all_goals omega
            by_cases hu : uV (J 0 j) 2 = 0 ∨ ¬ nI (J 4 j) = nI j
            · have hf : (if uV (J 0 j) 2 = 0 then (0 : Int32) else if nI (J 4 j) = nI j then 1 else 0) = 0 := by
                rcases hu with hu | hu
                · rw [if_pos hu]
                · rw [if_neg hu, ite_self]
              rw [hf] at g3 i3
              refine ⟨teV (J 0 j) (nI j) (nI (J 4 j)) a2, w3, v3, ?_, ?_, fin _ w3 v3 (by simpa using hl) g2 i2 g4 i4⟩
              · rw [eC]
                simp only [fX9_perform, show nI 3 = (3 : Int32) from rfl, show ¬ (3 : Int32) = 0 by decide, show ¬ (3 : Int32) = 1 by decide, show ¬ (3 : Int32) = 2 by decide, if_true, if_false, g1, bd2_some', g3.2.2.2, g5 hu]
              · rw [eM]; simp only [h10, if_false, bd_some', show nI 3 = (3 : Int32) from rfl, show ¬ (3 : Int32) = 0 by decide, show ¬ (3 : Int32) = 1 by decide, show ¬ (3 : Int32) = 2 by decide, if_true, i1, bd2_some', i3.2.2.2, i5 hu]
            · have hu1 : ¬ uV (J 0 j) 2 = 0 := fun q => hu (Or.inl q)
              have hu2 : nI (J 4 j) = nI j := Classical.byContradiction (fun q => hu (Or.inr q))
              rw [if_neg hu1, if_pos hu2] at g3 i3
              refine ⟨-15, w3, v3, ?_, ?_, fin _ w3 v3 (by simpa using hl) g2 i2 g4 i4⟩
              · rw [eC]
                simp only [fX9_perform, show nI 3 = (3 : Int32) from rfl, show ¬ (3 : Int32) = 0 by decide, show ¬ (3 : Int32) = 1 by decide, show ¬ (3 : Int32) = 2 by decide, if_true, if_false, g1, bd2_some', g3.2.2.2, h10]
              · rw [eM]; simp only [h10, if_false, bd_some', show nI 3 = (3 : Int32) from rfl, show ¬ (3 : Int32) = 0 by decide, show ¬ (3 : Int32) = 1 by decide, show ¬ (3 : Int32) = 2 by decide, if_true, i1, bd2_some', i3.2.2.2]
    · refine nojob 9 (by decide) ?_ ?_
      · simp only [fX12_kindOn, hg, ht, s2, h10, if_false, show (0 : Int32) ≤ 1 by decide, if_true]
      · rw [s1, if_neg (by decide), has_wI (o := 2) (w := w1) (-9) c1'.1.1 (by omega)]
        unfold wI; rw [if_pos (by decide)]
