/-! 33: the program's chances -/
def TS (lv o k : Nat) : Bool := ((o == 53 || o == 54) && decide (2 ^ (lv + 1) ≤ k)) || (o == 52 && k == 7) || (o == 55 && k == lv + 1)
theorem TS_lo {lv o k : Nat} (h : o < 52) : TS lv o k = false := by
  have h1 : (o == 53) = false := by simp; omega
  have h2 : (o == 54) = false := by simp; omega
  have h3 : (o == 52) = false := by simp; omega
  have h4 : (o == 55) = false := by simp; omega
  simp [TS, h1, h2, h3, h4]
theorem CB.ts {dy : Nat → Nat} {st c0 l0 fine odds late n lv : Nat} {J : Nat → Nat → Nat} {w w' : AW} (h : CB dy st c0 l0 fine odds late n J w) (f : Fr (TS lv) w w') : CB dy st c0 l0 fine odds late n J w' :=
  h.fr f (fun k => TS_lo (by omega)) (fun k => TS_lo (by omega)) (fun i hi k => TS_lo (by omega)) rfl
theorem getElem?_app_lt {α : Type} {l l' : List α} {a : Nat} {q : α} (h : (l ++ l')[a]? = some q) : (a < l.length ∧ l[a]? = some q) ∨ (l.length ≤ a ∧ l'[a - l.length]? = some q) := by
  rw [List.getElem?_append] at h
  split at h
  · next hlt => exact Or.inl ⟨hlt, h⟩
  · next hge => exact Or.inr ⟨by omega, h⟩
theorem wh_two {σ ε : Type} {body : σ → Option (σ ⊕ ε)} {N : Nat} {s s1 s2 : σ} {e : ε} (hN : 3 ≤ N) (h1 : body s = some (.inl s1)) (h2 : body s1 = some (.inl s2)) (h3 : body s2 = some (.inr e)) : wh body N s = some e := by
  obtain ⟨M, rfl⟩ : ∃ k, N = k + 3 := ⟨N - 3, by omega⟩
  exact (wh_step (n := M + 2) h1).trans ((wh_step (n := M + 1) h2).trans (wh_out (n := M) h3))
theorem spread_ev {dy : Nat → Nat} {st c0 l0 fine odds late n N : Nat} {J : Nat → Nat → Nat} {w : AW} (hB : CB dy st c0 l0 fine odds late n J w) (bc : bC dy st c0 l0 fine odds) (bj : bJ n J) (hn : n ≤ 6) (hl : late ≤ 1) (hN : 100 < N)
    {lv was j : Nat} {l : List (Nat × Nat)} (hlv : lv < 6) (hok : okO lv l) (hrow : rowO lv l w) (hj : j < n) (hwas : was ≤ 1) :
    ∃ w', fX2_spread N 2 (nI lv) (nI was) (nI j) w = some (nI (sO (sprd dy st c0 l0 odds late J was j l)), w') ∧ Fr (TS lv) w w' ∧ rowO (lv + 1) (sprd dy st c0 l0 odds late J was j l) w' ∧ w'.1 52 7 = zI (eO dy fine J j (sprd dy st c0 l0 odds late J was j l)) := by
  have hp6 : 2 ^ (lv + 1) ≤ 64 := by
    have : 2 ^ (lv + 1) ≤ 2 ^ 6 := Nat.pow_le_pow_right (by omega) (by omega)
    simpa using this
  have hp1 : 2 ^ (lv + 1) = 2 ^ lv * 2 := Nat.pow_succ ..
  have hpp : 1 ≤ 2 ^ lv := Nat.one_le_two_pow
  have h4 := four_le (n := lv) (by omega)
  have bo := bc.2.2.2.2.1
  have b1 := (bj j hj)
  have hF0 : Fr (TS lv) w (setI w 52 7 0) := Fr.set (by simp [TS])
  have hokn := okO_next (dy := dy) (st := st) (c0 := c0) (l0 := l0) (late := late) (J := J) (was := was) (j := j) hok bo bc.1 bc.2.2.1 b1.2.2.1
  have key := wh_cnt (body := lbX2_spread_25_1 N 2 (nI lv) (nI was) (nI j) (nI (2 ^ lv)) (nI (2 ^ (lv + 1)))) (n := l.length)
    (I := fun i s => ∃ w1, s = (nI (sprd dy st c0 l0 odds late J was j (l.take i)).length, nI (sO (sprd dy st c0 l0 odds late J was j (l.take i))), nI i, w1) ∧ Fr (TS lv) w w1 ∧ w1.1 52 7 = zI (eO dy fine J j (sprd dy st c0 l0 odds late J was j (l.take i)))
      ∧ (∀ a q, (sprd dy st c0 l0 odds late J was j (l.take i))[a]? = some q → w1.1 53 (2 ^ (lv + 1) + a) = nI q.1 ∧ w1.1 54 (2 ^ (lv + 1) + a) = nI q.2))
    (Q := fun e => ∃ w1, e = (nI (sprd dy st c0 l0 odds late J was j l).length, nI (sO (sprd dy st c0 l0 odds late J was j l)), w1) ∧ Fr (TS lv) w w1 ∧ w1.1 52 7 = zI (eO dy fine J j (sprd dy st c0 l0 odds late J was j l))
      ∧ (∀ a q, (sprd dy st c0 l0 odds late J was j l)[a]? = some q → w1.1 53 (2 ^ (lv + 1) + a) = nI q.1 ∧ w1.1 54 (2 ^ (lv + 1) + a) = nI q.2))
    ?_ ?_ (N := N) (i := 0) (s := (0, 0, 0, setI w 52 7 0)) ⟨setI w 52 7 0, rfl, hF0, by simp [setI1, sprd, eO]; rfl, fun a q h => by simp [sprd] at h⟩ (Nat.zero_le _) (by have := hok.1; omega)
  · obtain ⟨e, e1, w1, rfl, e2, e3, e4⟩ := key
    refine ⟨setI w1 55 (lv + 1) (nI (sprd dy st c0 l0 odds late J was j l).length), ?_, e2.tr (Fr.set (by simp [TS])), ⟨by simp [setI1], fun i q h => ?_⟩, ?_⟩
    · have hsh : (1 : Int32) <<< (nI lv &&& 31) = nI (2 ^ lv) := shl1 (by omega)
      simp only [fX2_spread, lw_eq, bd_some', bd2_some', gd_true, hsh]
      rw [show nI (2 ^ lv) * 2 = nI (2 ^ (lv + 1)) by rw [n2, nmul, hp1], e1]
      simp (disch := omega) only [n0, n1, n2, n3, n4, n5, n6, n7, n8, n9, n10, n13, n16, n18, n20, n30, n32, n40, n48, n57, n59, n60, n64, n97, n99, n122, n126, n186, n200, n1000000, nadd, nmul, nlt, nle, neq, ntn, gd_n, lw_eq, bd_some', bd2_some', gd_true]
    · simp only [setI1, Nat.reduceEqDiff, false_and, if_false]
      exact e4 i q h
    · simp only [setI1, Nat.reduceEqDiff, false_and, if_false]
      exact e3
  · rintro i s hi ⟨w1, rfl, hF, he, hrw⟩
    obtain ⟨q, hq⟩ : ∃ q, l[i]? = some q := ⟨l[i], List.getElem?_eq_getElem hi⟩
    have hqm : q ∈ l := List.mem_of_getElem? hq
    have htk : l.take (i + 1) = l.take i ++ [q] := by rw [List.take_add_one, hq]; rfl
    have hll := hok.1
    have hq1 := hok.2.2 q hqm
    have hq2 := sO_mem hqm
    have hso := hok.2.1
    have hB1 := hB.ts hF
    obtain ⟨r1, r2⟩ := hrow.2 i q hq
    have f1 : w1.1 53 (2 ^ lv + i) = nI q.1 := by rw [hF.at' _ (by simp [TS]; omega)]; exact r1
    have f2 : w1.1 54 (2 ^ lv + i) = nI q.2 := by rw [hF.at' _ (by simp [TS]; omega)]; exact r2
    have f3 : w1.1 55 lv = nI l.length := by rw [hF.at' _ (by simp [TS])]; exact hrow.1
    have eu := usedBehind_ev hB1.1 hB1.2.1 bc bj hn (u := q.1) (was := was) hj (by omega) hwas
    have hu1 := uB_lt (st := st) (c0 := c0) (l0 := l0) (J := J) (R := J 1) (u := q.1) (was := was) b1.2.1
    have hu2 := uB_le (st := st) (c0 := c0) (l0 := l0) (J := J) (R := J 1) (u := q.1) (was := was) (j := j) (by omega) bc.1 bc.2.2.1
    have hu3 : uB st c0 l0 J (J 1) q.1 was j + J 1 j ≤ q.1 + 21 := by
      have g1 := bc.1
      have g2 := bc.2.2.1
      have g3 := b1.2.2.1
      unfold uB
      repeat' split
      all_goals omega
    have hsl := (sprd_le (dy := dy) (st := st) (c0 := c0) (l0 := l0) (late := late) (J := J) (was := was) (j := j) (l := l.take i) bo).1
    have htl : (l.take i).length = i := by rw [List.length_take]; omega
    have hsp : sprd dy st c0 l0 odds late J was j (l.take (i + 1)) = sprd dy st c0 l0 odds late J was j (l.take i) ++ spr1 dy st c0 l0 odds late J was j q := by
      rw [htk]; unfold sprd; rw [List.flatMap_append]; simp
    generalize hP : sprd dy st c0 l0 odds late J was j (l.take i) = P at *
    unfold spr1 at hsp
    generalize hU : uB st c0 l0 J (J 1) q.1 was j = t at *
    have hk1 := keep1_le (dy := dy) (late := late) (J := J) (j := j) (t := t) (y := q.2 * (4 - odds))
    obtain ⟨w2, g1, g2, g3, g4⟩ := inner_ev (N := N) (c1 := nI lv) (c2 := nI was) hB1 bc bj hn hl (fr := 2 ^ lv) (to := 2 ^ (lv + 1)) (i := i) (k := P.length) (s := sO P) (t := t) (tw := 0) (x := q.2) (e := eO dy fine J j P) hj (by omega) (by omega) (by omega) (by omega) (by omega) f2 (by omega) he
    rw [if_pos rfl] at g1 g3 g4
    have hB2 : CB dy st c0 l0 fine odds late n J w2 := hB1.fr g2 (fun k => rfl) (fun k => rfl) TI_lo rfl
    have f2' : w2.1 54 (2 ^ lv + i) = nI q.2 := by rw [g2.at' _ (by simp [TI]; omega)]; exact f2
    generalize hK1 : keep1 dy late J j t (q.2 * (4 - odds)) = K1 at *
    obtain ⟨w3, i1, i2, i3, i4⟩ := inner_ev (N := N) (c1 := nI lv) (c2 := nI was) hB2 bc bj hn hl (fr := 2 ^ lv) (to := 2 ^ (lv + 1)) (i := i) (k := P.length + K1.length) (s := sO P + sO K1) (t := t + J 1 j) (tw := 1) (x := q.2) (e := eO dy fine J j P + eO dy fine J j K1) hj (by omega) (by omega) (by omega) (by omega) (by omega) f2' (by omega) g3
    rw [if_neg (by omega)] at i1 i3 i4
    have hk2 := keep1_le (dy := dy) (late := late) (J := J) (j := j) (t := t + J 1 j) (y := q.2 * odds)
    generalize hK2 : keep1 dy late J j (t + J 1 j) (q.2 * odds) = K2 at *
    refine ⟨(nI (P ++ (K1 ++ K2)).length, nI (sO (P ++ (K1 ++ K2))), nI (i + 1), w3), ?_, w3, by rw [hsp], ?_, ?_, ?_⟩
    · have hin : wh (lbX2_spread_62_2 N 2 (nI lv) (nI was) (nI j) (nI (2 ^ lv)) (nI (2 ^ (lv + 1))) (nI i)) N (nI P.length, nI (sO P), nI t, 0, w1) = some (nI (P ++ (K1 ++ K2)).length, nI (sO (P ++ (K1 ++ K2))), w3) := by
        refine wh_two (by omega) g1 i1 ?_
        rw [List.length_append, List.length_append, sO_app, sO_app, ← Nat.add_assoc, ← Nat.add_assoc]
        rfl
      simp (disch := omega) only [lbX2_spread_25_1, n1, nadd, nle, ntn, gd_n, lw_eq, bd_some', f3, if_neg (show ¬ l.length ≤ i by omega), gd_true, f1, eu, hin]
    · refine hF.tr ((g2.wd (fun o k h => ?_)).tr (i2.wd (fun o k h => ?_)))
      · simp only [TS, TI, Bool.or_eq_false_iff, Bool.and_eq_false_iff, decide_eq_false_iff_not, beq_eq_false_iff_ne] at h ⊢
        omega
      · simp only [TS, TI, Bool.or_eq_false_iff, Bool.and_eq_false_iff, decide_eq_false_iff_not, beq_eq_false_iff_ne] at h ⊢
        omega
    · rw [hsp, eO_app, eO_app, i3]; congr 1; omega
    · intro a q' hq'
      rw [hsp] at hq'
      rcases getElem?_app_lt hq' with ⟨h1, h2⟩ | ⟨h1, h2⟩
      · have := hrw a q' h2
        rw [i2.at' _ (by simp [TI]; omega), i2.at' _ (by simp [TI]; omega), g2.at' _ (by simp [TI]; omega), g2.at' _ (by simp [TI]; omega)]
        exact this
      · rcases getElem?_app_lt h2 with ⟨h3, h4⟩ | ⟨h3, h4⟩
        · have hm := g4 q' (List.mem_of_getElem? h4)
          rw [i2.at' _ (by simp [TI]; omega), i2.at' _ (by simp [TI]; omega), show a = P.length by omega]
          exact hm
        · have hm := i4 q' (List.mem_of_getElem? h4)
          have ha : a = P.length + K1.length := by
            have : a - P.length - K1.length < K2.length := by
              rw [List.getElem?_eq_some_iff] at h4; exact h4.1
            omega
          rw [ha]
          exact hm
  · rintro s ⟨w1, rfl, hF, he, hrw⟩
    rw [List.take_length] at he hrw
    refine ⟨(nI (sprd dy st c0 l0 odds late J was j l).length, nI (sO (sprd dy st c0 l0 odds late J was j l)), w1), ?_, w1, rfl, hF, he, hrw⟩
    have f3 : w1.1 55 lv = nI l.length := by rw [hF.at' _ (by simp [TS])]; exact hrow.1
    rw [List.take_length]
    simp (disch := omega) only [lbX2_spread_25_1, nle, ntn, gd_n, f3, Int32.le_refl, if_true]

