/-! 56: jobs go -/
def dcr (j x : Nat) : Nat := if j < x then x - 1 else x
def rmP (j : Nat) (p : List Nat) : List Nat := (p.filter (fun x => !(x == j))).map (dcr j)
def rmJ (j : Nat) (J : Nat → Nat → Nat) : Nat → Nat → Nat := fun i x => if x < j then J i x else J i (x + 1)
theorem rmP_app {j : Nat} {p q : List Nat} : rmP j (p ++ q) = rmP j p ++ rmP j q := by simp [rmP]
theorem rmP_len {j : Nat} {p : List Nat} : (rmP j p).length ≤ p.length := by
  unfold rmP; rw [List.length_map]; exact List.length_filter_le _ _
theorem rmP_one {j x : Nat} : rmP j [x] = if x = j then [] else [dcr j x] := by
  unfold rmP
  by_cases h : x = j <;> simp [h]
theorem rmP_perm {n j : Nat} {p : List Nat} (h : p.Perm (List.range n)) (hj : j < n) : (rmP j p).Perm (List.range (n - 1)) := by
  obtain ⟨hpl, hpm, hnd, hall⟩ := perm_facts h
  refine (perm_of_sub List.nodup_range (fun x hx => ?_) ?_).symm
  · have hx' : x < n - 1 := by simpa using hx
    unfold rmP
    rw [List.mem_map]
    by_cases hxj : x < j
    · exact ⟨x, List.mem_filter.mpr ⟨hall x (by omega), by simp; omega⟩, by unfold dcr; rw [if_neg (by omega)]⟩
    · exact ⟨x + 1, List.mem_filter.mpr ⟨hall (x + 1) (by omega), by simp; omega⟩, by unfold dcr; rw [if_pos (by omega)]; omega⟩
  · unfold rmP
    rw [List.length_map, List.length_range]
    have : p.filter (fun x => !(x == j)) = p.erase j := by
      rw [List.Nodup.erase_eq_filter hnd]
      rfl
    rw [this, List.length_erase_of_mem (hall j hj), hpl]
theorem rmLoop {n j r N : Nat} {p : List Nat} {w : AW} (body : (Int32 × Int32 × AW) → Option ((Int32 × Int32 × AW) ⊕ AW)) (hn : n ≤ 6) (hpl : p.length = n) (hr : rowL (w.1 r) p) (hN : 20 < N)
    (hb : ∀ k i w1, k ≤ i → i < n → Fr (fun o _ => o == r) w w1 → w1.1 r i = nI (lf p i) → body (nI k, nI i, w1) = some (.inl (if lf p i = j then (nI k, nI (i + 1), w1) else (nI (k + 1), nI (i + 1), setI w1 r k (nI (dcr j (lf p i)))))))
    (he : ∀ k w1, Fr (fun o _ => o == r) w w1 → body (k, nI n, w1) = some (.inr w1)) :
    ∃ w', wh body N (0, 0, w) = some w' ∧ Fr (fun o _ => o == r) w w' ∧ rowL (w'.1 r) (rmP j p) := by
  have key := wh_cnt (body := body) (n := n)
    (I := fun i s => ∃ w1, s = (nI (rmP j (p.take i)).length, nI i, w1) ∧ Fr (fun o _ => o == r) w w1 ∧ rowL (w1.1 r) (rmP j (p.take i)) ∧ ∀ x, i ≤ x → x < n → w1.1 r x = nI (lf p x))
    (Q := fun w1 => Fr (fun o _ => o == r) w w1 ∧ rowL (w1.1 r) (rmP j p))
    ?_ ?_ (N := N) (i := 0) (s := (0, 0, w)) ⟨w, rfl, Fr.rf, fun i v h => by simp [rmP] at h, fun x _ hx => hr.get (by omega)⟩ (Nat.zero_le _) (by omega)
  · obtain ⟨w1, e1, e2, e3⟩ := key
    exact ⟨w1, e1, e2, e3⟩
  · rintro i s hi ⟨w1, rfl, hF, h3, h4⟩
    have hlen := rmP_len (j := j) (p := p.take i)
    rw [List.length_take] at hlen
    have hs : rmP j (p.take (i + 1)) = rmP j (p.take i) ++ (if lf p i = j then [] else [dcr j (lf p i)]) := by
      rw [take_one (by omega), rmP_app, rmP_one]
    have hstep := hb (rmP j (p.take i)).length i w1 (by omega) hi hF (h4 i (Nat.le_refl _) hi)
    by_cases hq : lf p i = j
    · rw [if_pos hq] at hstep hs
      rw [List.append_nil] at hs
      exact ⟨_, hstep, w1, by rw [hs], hF, by rw [hs]; exact h3, fun x hx1 hx2 => h4 x (by omega) hx2⟩
    · rw [if_neg hq] at hstep hs
      refine ⟨_, hstep, setI w1 r (rmP j (p.take i)).length (nI (dcr j (lf p i))), by rw [hs]; simp, hF.tr (Fr.set (by simp)), ?_, fun x hx1 hx2 => ?_⟩
      · rw [hs]
        refine rowL_snoc (fun x v hv => ?_) (by simp [setI1])
        have hx : x < (rmP j (p.take i)).length := by rw [List.getElem?_eq_some_iff] at hv; exact hv.1
        simp only [setI1, true_and, show ¬ x = (rmP j (p.take i)).length by omega, if_false]
        exact h3 x v hv
      · simp only [setI1, true_and, show ¬ x = (rmP j (p.take i)).length by omega, if_false]
        exact h4 x (by omega) hx2
  · rintro s ⟨w1, rfl, hF, h3, h4⟩
    have ht : p.take n = p := by rw [← hpl, List.take_length]
    rw [ht] at h3
    exact ⟨w1, he _ w1 hF, hF, h3⟩
theorem remove_ev {o n j N : Nat} {J : Nat → Nat → Nat} {w : AW} (h : CJo o n J w) (hj : j < n) (hn : n ≤ 6) (hN : 20 < N) :
    ∃ w', fX4_remove N o (nI j) w = some w' ∧ Fr (fun a _ => decide (o ≤ a) && decide (a ≤ o + 5)) w w' ∧ CJo o (n - 1) (rmJ j J) w' := by
  have key := wh_cnt (body := lbX4_remove_11_1 N o) (n := n - 1)
    (I := fun i s => ∃ w1, s = (nI i, w1) ∧ Fr (fun a _ => decide (o ≤ a) && decide (a ≤ o + 5)) w w1 ∧ w1.1 o 0 = nI n ∧ (∀ x, x < i → x < n - 1 → w1.1 (o + 1) x = nI (rmJ j J 0 x) ∧ w1.1 (o + 2) x = nI (rmJ j J 1 x) ∧ w1.1 (o + 3) x = nI (rmJ j J 2 x) ∧ w1.1 (o + 4) x = nI (rmJ j J 3 x) ∧ w1.1 (o + 5) x = nI (rmJ j J 4 x))
      ∧ (∀ x, i ≤ x → x < n → w1.1 (o + 1) x = nI (J 0 x) ∧ w1.1 (o + 2) x = nI (J 1 x) ∧ w1.1 (o + 3) x = nI (J 2 x) ∧ w1.1 (o + 4) x = nI (J 3 x) ∧ w1.1 (o + 5) x = nI (J 4 x)) ∧ j ≤ i)
    (Q := fun w1 => Fr (fun a _ => decide (o ≤ a) && decide (a ≤ o + 5)) w w1 ∧ w1.1 o 0 = nI n ∧ (∀ x, x < n - 1 → w1.1 (o + 1) x = nI (rmJ j J 0 x) ∧ w1.1 (o + 2) x = nI (rmJ j J 1 x) ∧ w1.1 (o + 3) x = nI (rmJ j J 2 x) ∧ w1.1 (o + 4) x = nI (rmJ j J 3 x) ∧ w1.1 (o + 5) x = nI (rmJ j J 4 x)))
    ?_ ?_ (N := N) (i := j) (s := (nI j, w)) ⟨w, rfl, Fr.rf, h.1, fun x hx hx2 => ?_, fun x _ hx => h.2 x hx, Nat.le_refl _⟩ (by omega) (by omega)
  · obtain ⟨w1, e1, e2, e3, e4⟩ := key
    have f : Fr (fun a _ => a == o) w1 (setI w1 o 0 (nI (n - 1))) := Fr.set (by simp)
    refine ⟨setI w1 o 0 (nI (n - 1)), ?_, e2.tr (f.wd (fun a k q => by simp at q ⊢; omega)), by simp [setI1], fun x hx => ?_⟩
    · have eh := has_wI (o := o) (w := w) (nI j) h.1 (by omega)
      have hw : wI (nI j) 0 (nI n - 1) = 1 := wI_below (by omega) hj
      simp only [fX4_remove, eh, hw, bd_some', show ¬ (1 : Int32) = 0 by decide, if_false, e1, lw_eq, e3, show nI n - 1 = nI (n - 1) by rw [n1, nsub (show 1 ≤ n by omega)]]
      rw [show nI n - 1 = nI (n - 1) by rw [n1, nsub (show 1 ≤ n by omega)]] at hw
      rw [hw, if_neg (by decide)]
    · have := e4 x hx
      rw [f.at' _ (by simp), f.at' _ (by simp), f.at' _ (by simp), f.at' _ (by simp), f.at' _ (by simp)]
      exact this
  · rintro i s hi ⟨w1, rfl, hF, g0, g1, g2, g3⟩
    obtain ⟨a, b, c, d, e⟩ := g2 (i + 1) (by omega) (by omega)
    have hr : ∀ y, rmJ j J y i = J y (i + 1) := fun y => by unfold rmJ; rw [if_neg (by omega)]
    refine ⟨(nI (i + 1), setI (setI (setI (setI (setI w1 (o + 1) i (nI (J 0 (i + 1)))) (o + 2) i (nI (J 1 (i + 1)))) (o + 3) i (nI (J 2 (i + 1)))) (o + 4) i (nI (J 3 (i + 1)))) (o + 5) i (nI (J 4 (i + 1)))), ?_, _, rfl, hF.tr (((((Fr.set (by simp)).tr (Fr.set (by simp))).tr (Fr.set (by simp))).tr (Fr.set (by simp))).tr (Fr.set (by simp))), ?_, ?_, ?_, by omega⟩
    · simp (disch := omega) only [lbX4_remove_11_1, n0, n1, n2, n3, n4, n5, n6, n7, n8, n9, n10, n13, n16, n18, n20, n30, n32, n40, n48, n57, n59, n60, n64, n97, n99, n122, n126, n186, n200, n1000000, nadd, nmul, nlt, nle, neq, ntn, gd_n, lw_eq, bd_some', bd2_some', gd_true, g0, if_neg (show ¬ n ≤ i + 1 by omega), setI1, a, b, c, d, e, Nat.add_left_cancel_iff, Nat.reduceEqDiff, false_and, if_false, show ¬ (i + 1 = i) by omega, and_false]
    · simp [setI1, g0]
    · intro x hx hx2
      by_cases hq : x = i
      · subst hq; simp [setI1, hr]
      · have := g1 x (by omega) hx2
        simp [setI1, hq, this]
    · intro x hx hx2
      have := g2 x (by omega) hx2
      simp [setI1, show ¬ x = i by omega, this]
  · rintro s ⟨w1, rfl, hF, g0, g1, g2, g3⟩
    refine ⟨w1, ?_, hF, g0, fun x hx => g1 x hx hx⟩
    simp (disch := omega) only [lbX4_remove_11_1, n0, n1, n2, n3, n4, n5, n6, n7, n8, n9, n10, n13, n16, n18, n20, n30, n32, n40, n48, n57, n59, n60, n64, n97, n99, n122, n126, n186, n200, n1000000, nadd, nmul, nlt, nle, neq, ntn, gd_n, g0, if_pos (show n ≤ n - 1 + 1 by omega)]
  · have hr : ∀ y, rmJ j J y x = J y x := fun y => by unfold rmJ; rw [if_pos (by omega)]
    simp only [hr]; exact h.2 x (by omega)
theorem leave_ev {n j N : Nat} {J : Nat → Nat → Nat} {L lost nig : Nat → Nat} {day col left : Nat} {till : Int32} {p : List Nat} {w : AW} (h : CBd 1 n J L lost nig day col left till p w) (hpl : p.length = n) (hpm : ∀ x ∈ p, x < n) (hj : j < n) (hn : n ≤ 6) (hN : 20 < N) :
    ∃ w', fX1_leave N 1 (nI j) w = some w' ∧ Fr (fun o _ => (decide (2 ≤ o) && decide (o ≤ 7)) || o == 11) w w' ∧ CBd 1 (n - 1) (rmJ j J) L lost nig day col left till (rmP j p) w' := by
  obtain ⟨w1, e1, e2, e3⟩ := rmLoop (r := 11) (j := j) (N := N) (body := lbX1_leave_4_1 N 1 (nI j)) hn hpl h.2.2.2.2.1 hN (fun k i w1 hk hi hF hr => by
    have cnt : w1.1 2 0 = nI n := by rw [hF.at' _ rfl]; exact h.1.1
    have hv := hpm _ (getD_mem (l := p) (i := i) (by omega))
    have hv' : lf p i < n := hv
    by_cases hq : lf p i = j
    · rw [if_pos hq]
      simp (disch := omega) only [lbX1_leave_4_1, Nat.reduceAdd, n0, n1, n2, n3, n4, n5, n6, n7, n8, n9, n10, n13, n16, n18, n20, n30, n32, n40, n48, n57, n59, n60, n64, n97, n99, n122, n126, n186, n200, n1000000, nadd, nmul, nlt, nle, neq, ntn, gd_n, lw_eq, bd_some', bd2_some', gd_true, cnt, if_neg (show ¬ n ≤ i by omega), hr, hq, if_true]
    · rw [if_neg hq]
      unfold dcr
      by_cases hlt : j < lf p i
      · rw [if_pos hlt]
        simp (disch := omega) only [lbX1_leave_4_1, Nat.reduceAdd, n0, n1, n2, n3, n4, n5, n6, n7, n8, n9, n10, n13, n16, n18, n20, n30, n32, n40, n48, n57, n59, n60, n64, n97, n99, n122, n126, n186, n200, n1000000, nadd, nmul, nlt, nle, neq, ntn, gd_n, lw_eq, bd_some', bd2_some', gd_true, cnt, if_neg (show ¬ n ≤ i by omega), hr, hq, if_false, if_neg (show ¬ lf p i ≤ j by omega), nsub (show 1 ≤ lf p i by omega)]
      · rw [if_neg hlt]
        simp (disch := omega) only [lbX1_leave_4_1, Nat.reduceAdd, n0, n1, n2, n3, n4, n5, n6, n7, n8, n9, n10, n13, n16, n18, n20, n30, n32, n40, n48, n57, n59, n60, n64, n97, n99, n122, n126, n186, n200, n1000000, nadd, nmul, nlt, nle, neq, ntn, gd_n, lw_eq, bd_some', bd2_some', gd_true, cnt, if_neg (show ¬ n ≤ i by omega), hr, hq, if_false, if_pos (show lf p i ≤ j by omega)]) (fun k w1 hF => by
    have cnt : w1.1 2 0 = nI n := by rw [hF.at' _ rfl]; exact h.1.1
    simp only [lbX1_leave_4_1, Nat.reduceAdd, cnt, Int32.le_refl, if_true])
  obtain ⟨w2, g1, g2, g3⟩ := remove_ev (o := 2) (N := N) (h.1.fr e2 (fun i hi k => by simp; omega)) hj hn hN
  have F : Fr (fun o _ => (decide (2 ≤ o) && decide (o ≤ 7)) || o == 11) w w2 := (e2.wd (fun o k q => by simp at q ⊢; omega)).tr (g2.wd (fun o k q => by simp at q ⊢; omega))
  refine ⟨w2, ?_, F, h.with F (fun k => rfl) (fun k => rfl) (fun k => rfl) (fun k _ _ => rfl) g3 (fun i v hv => ?_)⟩
  · simp only [fX1_leave, e1, bd_some', Nat.reduceAdd, g1]
  · rw [g2.at' _ (by simp)]; exact e3 i v hv
theorem bJ_rm {n j : Nat} {J : Nat → Nat → Nat} (h : bJ n J) : bJ (n - 1) (rmJ j J) := fun x hx => by
  unfold rmJ
  by_cases hxj : x < j
  · simp only [hxj, if_true]; exact h x (by omega)
  · simp only [hxj, if_false]; exact h (x + 1) (by omega)
