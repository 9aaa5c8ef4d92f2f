/-! 42: jobs come, are copied -/
theorem copy_ev {o o0 n N : Nat} {J : Nat → Nat → Nat} {w : AW} (h : CJo o0 n J w) (hd : o0 + 5 < o ∨ o + 5 < o0) (hn : n ≤ 6) (hN : 20 < N) :
    ∃ w', fX4_copy N o o0 w = some w' ∧ Fr (fun a _ => decide (o ≤ a) && decide (a ≤ o + 5)) w w' ∧ CJo o n J w' := by
  have hT : ∀ i, i < 6 → ∀ k : Nat, (fun a (_ : Nat) => decide (o ≤ a) && decide (a ≤ o + 5)) (o0 + i) k = false := fun i hi k => by simp; omega
  have key := wh_cnt (body := lbX4_copy_10_1 N o o0) (n := n)
    (I := fun i s => ∃ w1, s = (nI i, w1) ∧ Fr (fun a _ => decide (o ≤ a) && decide (a ≤ o + 5)) w w1 ∧ w1.1 o 0 = nI n ∧ ∀ j, j < i → w1.1 (o + 1) j = nI (J 0 j) ∧ w1.1 (o + 2) j = nI (J 1 j) ∧ w1.1 (o + 3) j = nI (J 2 j) ∧ w1.1 (o + 4) j = nI (J 3 j) ∧ w1.1 (o + 5) j = nI (J 4 j))
    (Q := fun w1 => Fr (fun a _ => decide (o ≤ a) && decide (a ≤ o + 5)) w w1 ∧ CJo o n J w1)
    ?_ ?_ (N := N) (i := 0) (s := (0, setI w o 0 (nI n))) ⟨_, rfl, Fr.set (by simp), by simp [setI1], fun j hj => by omega⟩ (Nat.zero_le _) (by omega)
  · obtain ⟨w1, e1, e2, e3⟩ := key
    exact ⟨w1, by simp only [fX4_copy, h.1, lw_eq, bd_some', bd2_some', gd_true, e1], e2, e3⟩
  · rintro i s hi ⟨w1, rfl, hF, h0, hj⟩
    have hh := (h.fr hF hT)
    obtain ⟨a, b, c, d, e⟩ := hh.2 i hi
    refine ⟨(nI (i + 1), setI (setI (setI (setI (setI w1 (o + 1) i (nI (J 0 i))) (o + 2) i (nI (J 1 i))) (o + 3) i (nI (J 2 i))) (o + 4) i (nI (J 3 i))) (o + 5) i (nI (J 4 i))), ?_, _, rfl, hF.tr (((((Fr.set (by simp)).tr (Fr.set (by simp))).tr (Fr.set (by simp))).tr (Fr.set (by simp))).tr (Fr.set (by simp))), ?_, ?_⟩
    · have ne : ∀ x y, x < 6 → y < 6 → ¬ (o0 + x = o + y) := fun x y hx hy => by omega
      simp (disch := omega) only [lbX4_copy_10_1, n0, n1, n2, n3, n4, n5, n6, n7, n8, n9, n10, n13, n16, n18, n20, n30, n32, n40, n48, n57, n59, n60, n64, n97, n99, n122, n126, n186, n200, n1000000, nadd, nmul, nlt, nle, neq, ntn, gd_n, lw_eq, bd_some', bd2_some', gd_true, hh.1, if_neg (show ¬ n ≤ i by omega), setI1, a, b, c, d, e, ne 2 1 (by omega) (by omega), ne 3 1 (by omega) (by omega), ne 3 2 (by omega) (by omega), ne 4 1 (by omega) (by omega), ne 4 2 (by omega) (by omega), ne 4 3 (by omega) (by omega), ne 5 1 (by omega) (by omega), ne 5 2 (by omega) (by omega), ne 5 3 (by omega) (by omega), ne 5 4 (by omega) (by omega), false_and, if_false]
    · simp [setI1, h0]
    · intro j hji
      by_cases hq : j = i
      · subst hq; simp [setI1]
      · have := hj j (by omega)
        simp [setI1, hq, this]
  · rintro s ⟨w1, rfl, hF, h0, hj⟩
    have hh := (h.fr hF hT)
    refine ⟨w1, ?_, hF, h0, hj⟩
    simp (disch := omega) only [lbX4_copy_10_1, n0, n1, n2, n3, n4, n5, n6, n7, n8, n9, n10, n13, n16, n18, n20, n30, n32, n40, n48, n57, n59, n60, n64, n97, n99, n122, n126, n186, n200, n1000000, nadd, nmul, nlt, nle, neq, ntn, gd_n, hh.1, Nat.le_refl, if_true]
/-- a job thought of -/
def jR (k s c b p : Nat) (i : Nat) : Nat := if i = 0 then k else if i = 1 then (if k = 5 then (s + 1) / 2 else s) else if i = 2 then c else if i = 3 then b else p
def upJ (J : Nat → Nat → Nat) (n : Nat) (r : Nat → Nat) : Nat → Nat → Nat := fun i j => if j = n then r i else J i j
theorem upJ_lt {J : Nat → Nat → Nat} {n i j : Nat} {r : Nat → Nat} (h : j < n) : upJ J n r i j = J i j := by unfold upJ; rw [if_neg (by omega)]
theorem upJ_at {J : Nat → Nat → Nat} {n i : Nat} {r : Nat → Nat} : upJ J n r i n = r i := by unfold upJ; rw [if_pos rfl]
theorem bJ_up {J : Nat → Nat → Nat} {n k s c b p : Nat} (h : bJ n J) (hk : k ≤ 5) (hs1 : 1 ≤ s) (hs : s ≤ 9) (hc : c ≤ 1) (hb : b ≤ 80) (hp : p ≤ 99) : bJ (n + 1) (upJ J n (jR k s c b p)) := by
  intro j hj
  by_cases hq : j = n
  · subst hq
    simp only [upJ_at, jR, if_true, if_false, Nat.reduceEqDiff, Nat.one_ne_zero]
    refine ⟨hk, ?_, ?_, hc, hb, hp⟩ <;> split <;> omega
  · simp only [upJ_lt (show j < n by omega)]
    exact h j (by omega)
theorem add_ev {o n : Nat} {J : Nat → Nat → Nat} {w : AW} {k s c b p : Nat} (h : CJo o n J w) (hn : n < 6) (hk : k ≤ 5) (hs : s ≤ 9) :
    ∃ w', fX4_add o (nI k) (nI s) (nI c) (nI b) (nI p) w = some w' ∧ Fr (fun a _ => decide (o ≤ a) && decide (a ≤ o + 5)) w w' ∧ CJo o (n + 1) (upJ J n (jR k s c b p)) w' := by
  obtain ⟨h0, h1⟩ := h
  refine ⟨setI (setI (setI (setI (setI (setI w (o + 1) n (nI k)) (o + 2) n (nI (if k = 5 then (s + 1) / 2 else s))) (o + 3) n (nI c)) (o + 4) n (nI b)) (o + 5) n (nI p)) o 0 (nI (n + 1)), ?_, (((((Fr.set (by simp)).tr (Fr.set (by simp))).tr (Fr.set (by simp))).tr (Fr.set (by simp))).tr (Fr.set (by simp))).tr (Fr.set (by simp)), ?_, ?_⟩
  · have hne : ∀ x, ¬ o = o + (x + 1) := fun x => by omega
    have e1 := hne 0
    have e2 := hne 1
    have e3 := hne 2
    have e4 := hne 3
    have e5 := hne 4
    simp only [Nat.zero_add, Nat.reduceAdd] at e1 e2 e3 e4 e5
    by_cases hk5 : k = 5
    · simp (disch := omega) only [fX4_add, n0, n1, n2, n3, n4, n5, n6, n7, n8, n9, n10, n13, n16, n18, n20, n30, n32, n40, n48, n57, n59, n60, n64, n97, n99, n122, n126, n186, n200, n1000000, nadd, nmul, nlt, nle, neq, ntn, gd_n, lw_eq, bd_some', bd2_some', gd_true, h0, hn, if_true, setI1, e1, e2, e3, e4, e5, false_and, if_false, hk5, ndiv]
    · simp (disch := omega) only [fX4_add, n0, n1, n2, n3, n4, n5, n6, n7, n8, n9, n10, n13, n16, n18, n20, n30, n32, n40, n48, n57, n59, n60, n64, n97, n99, n122, n126, n186, n200, n1000000, nadd, nmul, nlt, nle, neq, ntn, gd_n, lw_eq, bd_some', bd2_some', gd_true, h0, hn, if_true, setI1, e1, e2, e3, e4, e5, false_and, if_false, hk5]
  · simp [setI1]
  · intro j hj
    by_cases hq : j = n
    · subst hq
      simp only [upJ_at, jR]
      simp [setI1]
    · simp only [upJ_lt (show j < n by omega)]
      have := h1 j (by omega)
      simp [setI1, hq, this]
theorem MJs.lt {n m : Nat} {J J' : Nat → Nat → Nat} {w : AW} (h : MJs m J' w) (hnm : n ≤ m) (he : ∀ i j, j < n → J' i j = J i j) : MJs n J w := fun j hj i hi => by rw [← he i j hj]; exact h j (by omega) i hi

