/-! 74: the first half of the law, from its begin -/
theorem se_l {α β : Type} {γ : Sort _} {f : α → γ} {g : β → γ} {a : α} : se f g (.inl a) = f a := rfl
theorem se_r {α β : Type} {γ : Sort _} {f : α → γ} {g : β → γ} {a : β} : se f g (.inr a) = g a := rfl
theorem sN_cap {f : Nat → Nat} {c : Nat} : ∀ {n : Nat}, (∀ j, j < n → f j ≤ c) → sN f n ≤ n * c := by
  intro n
  induction n with
  | zero => intro _; simp [sN]
  | succ n ih =>
    intro h
    have h1 := ih (fun j hj => h j (by omega))
    have h2 := h n (by omega)
    rw [Nat.succ_mul]
    simp only [sN]
    omega
theorem isOrder_ev {n : Nat} (hn : n ≤ 6) {q : List Nat} (hq : q ∈ prm n 6) (w : AW) : fL_isOrder N0 (dg q n) (nI n) w = some 1 := by
  have hN := N0_big
  obtain ⟨c1, c2, d1, c3⟩ := dg_all n (by omega) q hq
  have key : wh (lbL_isOrder_4_1 N0 (dg q n) (nI n) w) N0 (seenD (dg q n) 0, nI 0) = some (seenD (dg q n) n) :=
    wh_for (body := lbL_isOrder_4_1 N0 (dg q n) (nI n) w) (fun i => (seenD (dg q n) i, nI i)) (n := n) (e := seenD (dg q n) n)
      (fun i hi => by
        have h3 : (3 : Int32) * nI i = nI (3 * i) := by rw [n3, nmul]
        simp only [lbL_isOrder_4_1, h3, lw_eq]
        rw [if_neg (by rw [nle (by omega) (by omega)]; omega), show nI i + 1 = nI (i + 1) by rw [n1, nadd]]
        rfl)
      (by simp only [lbL_isOrder_4_1, Int32.le_refl, if_true]) (N := N0) (i := 0) (Nat.zero_le _) (by omega)
  have key' : wh (lbL_isOrder_4_1 N0 (dg q n) (nI n) w) N0 (0, 0) = some (seenD (dg q n) n) := key
  simp only [fL_isOrder, key', bd_some', c3, c2, if_true]
section
variable {S : SC} {n : Nat} {J : Nat → Nat → Nat} {L lost nig : Nat → Nat} {ch : List Nat} {w : AW} {k : Int32 → Int32 → AW → Option (Int32 × AW)}
theorem rows_ev (h : LwS n J L lost nig ch w) (hR : RwS n ch (fun j => eJ (dyS (sOf L lost nig) 0) (L 1) 0 0 J j ch) (fun j => vOf (L 2) J j (eJ (dyS (sOf L lost nig) 0) (L 1) 0 0 J j ch)) w) (r : Int32) :
    ∃ w', wh (lbL_law1_166_1 N0 S (nI n) r (dg ch n)) N0 (0, 0, 0, w) = some (.inl (zI (wN (dyS (sOf L lost nig) 0) (L 1) 0 0 (L 2) J (J 1) (lf ch) n), w')) ∧ LwS n J L lost nig ch w' := by
  have hN := N0_big
  obtain ⟨hn, bj, b, hpp⟩ := id h.1
  obtain ⟨hpl, hpm, hnd, hall⟩ := perm_facts hpp
  obtain ⟨-, -, d1, -⟩ := dg_all n (by omega) ch (prm_of hn hpp)
  have hul : ∀ i, i ≤ n → uN (L 1) 0 0 J (J 1) (lf ch) i ≤ 21 * i := uN_le (fun i hi => by have := (bj _ (hpm _ (getD_mem (l := ch) (i := i) (by omega)))).2.2.1; show J 1 (lf ch i) ≤ 18; exact Nat.le_trans this (by omega)) b.2.2.1 (by omega)
  have key := wh_cnt (body := lbL_law1_166_1 N0 S (nI n) r (dg ch n)) (n := n)
    (I := fun i s => ∃ w2, s = (zI (wN (dyS (sOf L lost nig) 0) (L 1) 0 0 (L 2) J (J 1) (lf ch) i), nI (if i = 0 then 0 else (dyS (sOf L lost nig) 0) (uN (L 1) 0 0 J (J 1) (lf ch) i)), nI i, w2) ∧ LwS n J L lost nig ch w2 ∧ RwS n ch (fun j => eJ (dyS (sOf L lost nig) 0) (L 1) 0 0 J j ch) (fun j => vOf (L 2) J j (eJ (dyS (sOf L lost nig) 0) (L 1) 0 0 J j ch)) w2)
    (Q := fun e => ∃ w2, e = .inl (zI (wN (dyS (sOf L lost nig) 0) (L 1) 0 0 (L 2) J (J 1) (lf ch) n), w2) ∧ LwS n J L lost nig ch w2)
    (fun i s hi hI => by
      obtain ⟨w2, rfl, l2, R2⟩ := hI
      have hj : lf ch i < n := hpm _ (getD_mem (by omega))
      have hE : eJ (dyS (sOf L lost nig) 0) (L 1) 0 0 J (lf ch i) ch = (dyS (sOf L lost nig) 0) (uN (L 1) 0 0 J (J 1) (lf ch) (i + 1)) := eJ_at hnd (by omega)
      obtain ⟨w3, e1, e2, e3⟩ := c_ends l2.1 l2.2.1 hj
      have R3 := R2.fr e2 rfl (fun k => rfl)
      have row0 := c_row R2 hn hi (x := 0) (by omega)
      have row1 := c_row R2 hn hi (x := 1) (by omega)
      have row1' := c_row R3 hn hi (x := 1) (by omega)
      have row2' := c_row R3 hn hi (x := 2) (by omega)
      rw [Nat.add_zero, RV_0] at row0
      rw [RV_1] at row1 row1'
      rw [RV_2] at row2'
      rw [show nI 0 = (0 : Int32) from rfl] at row0
      rw [show nI 1 = (1 : Int32) from rfl] at row1 row1'
      rw [show nI 2 = (2 : Int32) from rfl] at row2'
      have hd : ((dg ch n >>> ((3 * nI i) &&& 31)) &&& 7) = nI (lf ch i) := by
        rw [show (3 : Int32) * nI i = nI (3 * i) by rw [n3, nmul]]
        exact d1 i hi
      have hu1 := hul (i + 1) (by omega)
      have hb1 : (dyS (sOf L lost nig) 0) (uN (L 1) 0 0 J (J 1) (lf ch) (i + 1)) ≤ 186 := dyS_le b.2.2.2.2.2.2.2.1 (sOf_pos b.1) (uN_pos (bj _ hj).2.1) (by omega)
      have hle : (if i = 0 then 0 else (dyS (sOf L lost nig) 0) (uN (L 1) 0 0 J (J 1) (lf ch) i)) ≤ (dyS (sOf L lost nig) 0) (uN (L 1) 0 0 J (J 1) (lf ch) (i + 1)) := by
        split
        · exact Nat.zero_le _
        · next h0 =>
          obtain ⟨i', rfl⟩ : ∃ i', i = i' + 1 := ⟨i - 1, by omega⟩
          have hj' : lf ch i' < n := hpm _ (getD_mem (by omega))
          refine monD b _ _ (uN_pos (bj _ hj').2.1) ?_ (by omega)
          have := uB_pos (st := L 1) (c0 := 0) (l0 := 0) (J := J) (u := uN (L 1) 0 0 J (J 1) (lf ch) (i' + 1)) (was := wasN J (lf ch) (i' + 1)) (bj _ hj).2.1
          simp only [uN] at this ⊢
          unfold uB; omega
      refine ⟨(zI (wN (dyS (sOf L lost nig) 0) (L 1) 0 0 (L 2) J (J 1) (lf ch) (i + 1)), nI (if i + 1 = 0 then 0 else (dyS (sOf L lost nig) 0) (uN (L 1) 0 0 J (J 1) (lf ch) (i + 1))), nI (i + 1), w3), ?_, w3, rfl, l2.tb e2 e3, R3⟩
      simp only [lbL_law1_166_1, hd]
      rw [if_neg (by rw [nle (by omega) (by omega)]; omega), row0, bd_some', if_pos rfl, row1, bd_some', e1, bd2_some', if_pos rfl, row1', bd_some', hE, if_pos (by rw [nle (by omega) (by omega)]; exact hle), bd_some', row2', bd_some', zadd, hE, n1, nadd, if_neg (by omega)]
      first | done | rfl)
    (fun s hI => by
      obtain ⟨w2, rfl, l2, R2⟩ := hI
      exact ⟨_, by simp only [lbL_law1_166_1, Int32.le_refl, if_true], w2, rfl, l2⟩) (N := N0) (i := 0) (s := (0, 0, 0, w)) ⟨w, rfl, h, hR⟩ (by omega) (by omega)
  obtain ⟨e, e1, w2, rfl, l2⟩ := key
  exact ⟨w2, e1, l2⟩
theorem late_ev (h : LwS n J L lost nig ch w) (r : Int32) :
    ∃ w', wh (lbL_law1_276_2 N0 S (nI n) r) N0 (0, 0, 0, w) = some (nI (sN (fun j => if eJ (dyS (sOf L lost nig) 0) (L 1) 0 0 J j ch ≤ J 3 j then 0 else 1) n), nI (sN (J 4) n), w') ∧ LwS n J L lost nig ch w' := by
  have hN := N0_big
  have hn := h.1.1
  have key := wh_cnt (body := lbL_law1_276_2 N0 S (nI n) r) (n := n)
    (I := fun i s => ∃ w2, s = (nI (sN (fun j => if eJ (dyS (sOf L lost nig) 0) (L 1) 0 0 J j ch ≤ J 3 j then 0 else 1) i), nI (sN (J 4) i), nI i, w2) ∧ LwS n J L lost nig ch w2)
    (Q := fun e => ∃ w2, e = (nI (sN (fun j => if eJ (dyS (sOf L lost nig) 0) (L 1) 0 0 J j ch ≤ J 3 j then 0 else 1) n), nI (sN (J 4) n), w2) ∧ LwS n J L lost nig ch w2)
    (fun i s hi hI => by
      obtain ⟨w2, rfl, l2⟩ := hI
      obtain ⟨w3, e1, e2, e3⟩ := c_late l2.1 l2.2.1
      have l3 := l2.tb e2 e3
      have m5 : 5 * nI i = nI (5 * i) := by rw [n5, nmul]
      have a4 : nI (5 * i) + 4 = nI (5 * i + 4) := by rw [n4, nadd]
      have r76 := l3.2.2.1 i hi
      refine ⟨(nI (sN (fun j => if eJ (dyS (sOf L lost nig) 0) (L 1) 0 0 J j ch ≤ J 3 j then 0 else 1) (i + 1)), nI (sN (J 4) (i + 1)), nI (i + 1), w3), ?_, w3, rfl, l3⟩
      simp only [lbL_law1_276_2]
      rw [if_neg (by rw [nle (by omega) (by omega)]; omega), e1, bd2_some', late_one hn hi, m5, a4, lw_eq, gd_n (by omega) (by omega), ntn (by omega), r76, lw_eq, nadd, nadd, n1, nadd]
      first | done | rfl)
    (fun s hI => by
      obtain ⟨w2, rfl, l2⟩ := hI
      exact ⟨_, by simp only [lbL_law1_276_2, Int32.le_refl, if_true], w2, rfl, l2⟩) (N := N0) (i := 0) (s := (0, 0, 0, w)) ⟨w, rfl, h⟩ (by omega) (by omega)
  obtain ⟨e, e1, w2, rfl, l2⟩ := key
  exact ⟨w2, e1, l2⟩
theorem lt_sum {dy : Nat → Nat} {st c0 l0 : Nat} (hp : ch.Perm (List.range n)) : ltN dy st c0 l0 J (J 1) (lf ch) ch.length = sN (fun j => if eJ dy st c0 l0 J j ch ≤ J 3 j then 0 else 1) n := by
  obtain ⟨hpl, hpm, hnd, hall⟩ := perm_facts hp
  have h1 : ∀ i, i ≤ ch.length → ltN dy st c0 l0 J (J 1) (lf ch) i = sN (fun k => (fun j => if eJ dy st c0 l0 J j ch ≤ J 3 j then 0 else 1) (lf ch k)) i := by
    intro i
    induction i with
    | zero => intro _; rfl
    | succ i ih =>
      intro hi
      simp only [ltN, sN]
      rw [ih (by omega), eJ_at hnd (by omega)]
  rw [h1 _ (Nat.le_refl _)]
  exact (sN_sL (f := fun j => if eJ dy st c0 l0 J j ch ≤ J 3 j then 0 else 1) (l := ch)).trans (by rw [sN_range, sL_perm hp])
theorem law1_ev (hS : S.1 ≤ 260) (hK : ∀ n J L lost nig ch, n ≤ 5 → FinK n J L lost nig ch k) : ∃ wZ, fL_law1 N0 S k w0C = some (1, wZ) := by
  obtain ⟨m, x1, x2⟩ := mod_ev (atV S 8) (k := 5) (by omega) (by omega)
  rw [show nI 5 = (5 : Int32) from rfl] at x2
  have ha : ∀ w, fL_at S 8 w = some (atV S 8) := fun w => at_ev hS (k := 8) (by omega) w
  have hm1 : 1 + nI m = nI (1 + m) := by rw [n1, nadd]
  obtain ⟨n, hn5, hmn⟩ : ∃ n, n ≤ 5 ∧ 1 + m = n := ⟨1 + m, by omega, rfl⟩
  rw [hmn] at hm1
  obtain ⟨J, L, lost, nig, w1, a1, a2⟩ := lay_ev hS hn5
  have l1 : LwS n J L lost nig (List.range n) w1 := a2
  obtain ⟨hn, bj, b, hpp⟩ := id l1.1
  obtain ⟨t1, t2, t3, t4, t5⟩ := bst_top (dy := (dyS (sOf L lost nig) 0)) (st := L 1) (c0 := 0) (l0 := 0) bj b.2.2.2.1 hn
  obtain ⟨al1, al2⟩ := bst_all (dy := (dyS (sOf L lost nig) 0)) (st := L 1) (c0 := 0) (l0 := 0) bj b.2.2.2.1 hn
  obtain ⟨fe1, -⟩ := few_top (dy := (dyS (sOf L lost nig) 0)) (st := L 1) (c0 := 0) (l0 := 0) (J := J) hn
  rw [← sN_range] at al1 al2
  have hsp : sN (J 4) n ≤ n * 99 := sN_cap (fun j hj => (bj j hj).2.2.2.2.2)
  obtain ⟨ch, hch⟩ : ∃ ch, (bst (dyS (sOf L lost nig) 0) (L 1) 0 0 (L 2) J n).2 = ch := ⟨_, rfl⟩
  rw [hch] at t2 t3
  have hcp := prm_to hn t3
  obtain ⟨hpl, hpm, hnd, hall⟩ := perm_facts hcp
  obtain ⟨w2, b1, b2, b3⟩ := c_worth l1.1 l1.2.1
  have l2 := l1.tb b2 b3
  obtain ⟨w3, c1, c2, c3⟩ := c_best l2.1 l2.2.1 0 (by decide)
  have l3 := l2.tb c2 c3
  obtain ⟨w4, d1, d2, d3⟩ := c_best l3.1 l3.2.1 1 (by decide)
  have l4 := l3.tb d2 d3
  rw [if_pos rfl] at c1
  rw [if_neg (by decide), hch] at d1
  have q1 := t1 (List.range n) (prm_of hn (List.Perm.refl _))
  have q2 := W_low (dy := (dyS (sOf L lost nig) 0)) (st := L 1) (c0 := 0) (l0 := 0) (b := 6) bj b.2.2.2.1 hn (List.range n) (prm_of hn (List.Perm.refl _))
  rw [← vL_wN] at q1
  rw [List.length_range] at q1 q2
  obtain ⟨w5, e1, e2, e3, e4⟩ := c_plan l4.1 l4.2.1 t3
  have l5 : LwS n J L lost nig ch w5 := l4.mv e2 e3 e4 (fun o k a b => T1_no (by omega)) (fun o k a => T1_no (by omega))
  obtain ⟨w6, f1, f2, f3⟩ := c_worth l5.1 l5.2.1
  have l6 := l5.tb f2 f3
  have ew : wN (dyS (sOf L lost nig) 0) (L 1) 0 0 (L 2) J (J 1) (lf ch) n = (bst (dyS (sOf L lost nig) 0) (L 1) 0 0 (L 2) J n).1 := by
    have e := vL_wN (dy := (dyS (sOf L lost nig) 0)) (st := L 1) (c0 := 0) (l0 := 0) (fine := L 2) (J := J) (l := ch)
    rw [hpl] at e
    rw [e]; exact t2
  rw [ew] at f1
  obtain ⟨w7, g1, g2, g3⟩ := c_best l6.1 l6.2.1 0 (by decide)
  have l7 := l6.tb g2 g3
  obtain ⟨w8, h1, h2, h3⟩ := c_best l7.1 l7.2.1 1 (by decide)
  have l8 := l7.tb h2 h3
  rw [if_pos rfl] at g1
  rw [if_neg (by decide), hch] at h1
  obtain ⟨w9, i1, i2, i3, R9⟩ := c_prove l8.1 l8.2.1
  rw [hch] at R9
  have l9 : LwS n J L lost nig ch w9 := l8.mv i2 l8.1 i3 (fun o k a b => by simp [TP, TB]; omega) (fun o k a => by simp [TP, TB]; omega)
  obtain ⟨w10, j1, j2, j3⟩ := c_judge l9.1 l9.2.1 hcp R9
  have l10 := l9.tb j2 j3
  have R10 := R9.fr j2 rfl (fun k => rfl)
  obtain ⟨w11, r1, l11⟩ := rows_ev (S := S) l10 R10 (zI (bst (dyS (sOf L lost nig) 0) (L 1) 0 0 (L 2) J n).1)
  rw [ew] at r1
  obtain ⟨w12, s1, l12⟩ := late_ev (S := S) l11 (zI (bst (dyS (sOf L lost nig) 0) (L 1) 0 0 (L 2) J n).1)
  obtain ⟨w13, v1, v2, v3, v4⟩ := c_fewest l12.1 l12.2.1
  have l13 := l12.tb v2 v3
  have fe2 := fe1 ch t3
  rw [lt_sum hcp] at fe2
  have fe3 : sN (fun j => if eJ (dyS (sOf L lost nig) 0) (L 1) 0 0 J j ch ≤ J 3 j then 0 else 1) n ≤ n * 1 := sN_cap (fun j hj => by show (if _ then 0 else 1) ≤ 1; split <;> omega)
  obtain ⟨wZ, hz⟩ := b348 hS (hK n J L lost nig ch hn5) l13 hn5 v4
  refine ⟨wZ, ?_⟩
  rw [fL_law1, ha, bd_some', x2, bd_some', hm1, a1, bd2_some', if_pos rfl, b1, bd2_some', c1, bd2_some', d1, bd2_some']
  rw [if_neg (by rw [zlt (by omega) (by omega) (by omega) (by omega)]; omega)]
  rw [isOrder_ev hn t3, bd_some', if_neg (by decide), e1, bd2_some', if_pos rfl, f1, bd2_some', if_pos rfl, g1, bd2_some', if_pos rfl, h1, bd2_some', if_pos rfl, i1, bd2_some', if_pos rfl, j1, bd2_some', if_pos rfl, r1, bd_some', se_l]
  dsimp only
  rw [if_pos rfl, s1, bd_some']
  dsimp only
  rw [v1, bd2_some', if_neg (by rw [nlt (by omega) (by omega)]; omega)]
  rw [if_neg (by rw [zI_nI, zlt (by omega) (by omega) (by omega) (by omega)]; omega)]
  by_cases hf0 : nI (few (dyS (sOf L lost nig) 0) (L 1) 0 0 J n) = 0
  · rw [if_pos hf0]
    rw [n0, neq (by omega) (by omega)] at hf0
    rw [if_pos (by rw [al2 hf0, zI_nI])]
    exact hz
  · rw [if_neg hf0]
    exact hz
end
