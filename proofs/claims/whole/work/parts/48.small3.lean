/-! 48: types come; rows; the trace; how many -/
theorem sN_congr {f g : Nat → Nat} : ∀ {n : Nat}, (∀ i, i < n → f i = g i) → sN f n = sN g n := by
  intro n
  induction n with
  | zero => intro _; rfl
  | succ n ih => intro h; simp only [sN, ih (fun i hi => h i (by omega)), h n (by omega)]
theorem st_type {wC wM : AW} (h : Rel wC wM) (a0 a1 a2 a3 a4 a5 : Int32) : ∃ r wC' wM', fX11_type N0 a0 a1 a2 a3 a4 a5 wC = some (r, wC') ∧ fX12_type N0 a0 a1 a2 a3 a4 a5 wM = some (r, wM') ∧ Rel wC' wM' := by
  obtain ⟨k, T, z, ok, hc, hm⟩ := h.2.1
  have hN := N0_big
  have h10 : ¬ (1 : Int32) = 0 := by decide
  have h060 : wI 0 0 60 = 1 := by decide
  by_cases h1 : lkW a0 a1 a2 = 0
  · exact ⟨-1, wC, wM, by simp only [fX11_type, isJobC_ev, h1, bd_some', if_true], by simp only [fX12_type, isLike_ev, h1, bd_some', if_true], h⟩
  · have hpm : pmW 0 a4 = if wI a4 0 99 = 0 then 0 else 1 := by unfold pmW; rw [if_neg (by rw [h060]; decide)]
    -- whichever of the numbers isn't as told, both say so
    by_cases h3 : wI a3 0 20 = 0
    · refine ⟨-1, wC, wM, ?_, by simp only [fX12_type, isLike_ev, in_ev, h1, h3, bd_some', if_true, if_false], h⟩
      simp only [fX11_type, isJobC_ev, within_ev, h1, h3, bd_some', if_true, if_false, ite_self]
    · by_cases h4 : wI a4 0 99 = 0
      · refine ⟨-1, wC, wM, ?_, by simp only [fX12_type, isLike_ev, in_ev, h1, h3, h4, bd_some', if_true, if_false], h⟩
        rw [if_pos h4] at hpm
        simp only [fX11_type, isJobC_ev, h1, hpm, bd_some', if_true, if_false]
      · rw [if_neg h4] at hpm
        by_cases h5 : wI a5 1 4 = 0
        · refine ⟨-1, wC, wM, ?_, by simp only [fX12_type, isLike_ev, in_ev, h1, h3, h4, h5, bd_some', if_true, if_false], h⟩
          simp only [fX11_type, isJobC_ev, within_ev, h1, hpm, h3, h5, h10, bd_some', if_true, if_false]
        · have e : ∀ a lo hi, wI a lo hi ≠ 0 → wI a lo hi = 1 := fun a lo hi hh => (wI_01 a lo hi).resolve_left hh
          obtain ⟨kd, s, c, hk, hs1, hs, hcc, rfl, rfl, rfl⟩ := lkW_nat h1
          obtain ⟨pt, -, hpt, rfl⟩ := wI_nat (lo := 0) (hi := 20) (e _ _ _ h3) (by omega) (by omega)
          obtain ⟨pr, -, hpr, rfl⟩ := wI_nat (lo := 0) (hi := 99) (e _ _ _ h4) (by omega) (by omega)
          obtain ⟨od, ho1, ho2, rfl⟩ := wI_nat (lo := 1) (hi := 4) (e _ _ _ h5) (by omega) (by omega)
          have oC := oddsC_ev (N := N0) ok hc (by omega)
          have oM := oddsM_ev (N := N0) ok hm (by omega)
          obtain ⟨ok1, ok2, ok3⟩ := ok
          by_cases h6 : sN (T 5) k + od ≤ 4
          · have hle : nI (sN (T 5) k) + nI od ≤ 4 := by rw [nadd, n4, nle (by omega) (by omega)]; exact h6
            by_cases hk3 : k = 3
            · refine ⟨-2, wC, wM, ?_, ?_, h⟩
              · have hn3 : ¬ nI k < 3 := by rw [n3, nlt (by omega) (by omega)]; omega
                simp only [fX11_type, isJobC_ev, within_ev, h1, hpm, h3, h5, h10, bd_some', if_false, oC, hle, if_true, fX10_add, hc.1, hn3, bd2_some']
              · have hn3 : nI k = 3 := by rw [hk3]; rfl
                simp only [fX12_type, isLike_ev, in_ev, h1, h3, h4, h5, bd_some', if_false, oM, hle, if_true, hm.1, hn3]
            · have hlt : nI k < 3 := by rw [n3, nlt (by omega) (by omega)]; omega
              have hne3 : ¬ nI k = 3 := by rw [n3, neq (by omega) (by omega)]; exact hk3
              obtain ⟨c1, c2, c3⟩ := hc
              obtain ⟨m1, m2, m3⟩ := hm
              have F6 : ∀ i v, 24 ≤ i → i ≤ 29 → ∀ w, Fr (fun o k => decide (23 < o) && decide (o ≤ 29) || (o == 23 && k == 0)) w (setI w i k v) := fun i v a b w => Fr.set (by simp; omega)
              refine ⟨nI k, setI (setI (setI (setI (setI (setI (setI wC 24 k (nI kd)) 25 k (nI s)) 26 k (nI c)) 27 k (nI pt)) 28 k (nI pr)) 29 k (nI od)) 23 0 (nI (k + 1)), setI (setI (setI (setI (setI (setI (setI wM 8 (6 * k) (nI kd)) 8 (6 * k + 1) (nI s)) 8 (6 * k + 2) (nI c)) 8 (6 * k + 3) (nI pt)) 8 (6 * k + 4) (nI pr)) 8 (6 * k + 5) (nI od)) 0 12 (nI (k + 1)), ?_, ?_, ?_⟩
              · have hg : ∀ {β : Type} {x : Option β}, gd (inb (nI k) 3) x = x := fun {β x} => gd_n (by omega) (by omega)
                simp only [fX11_type, isJobC_ev, within_ev, h1, hpm, h3, h5, h10, bd_some', if_false, oC, hle, if_true, fX10_add, c1, hlt, hg, ntn (show k ≤ 2147483647 by omega), lw_eq, setI1, Nat.reduceAdd, Nat.reduceEqDiff, false_and, and_false, true_and, bd2_some']
                simp only [n1, nadd, nsub (show 1 ≤ k + 1 by omega), Nat.add_sub_cancel]
              · simp only [fX12_type, isLike_ev, in_ev, h1, h3, h4, h5, bd_some', if_false, oM, hle, if_true, m1, hne3]
                simp (disch := omega) only [if_false, if_true, m1, n1, n2, n3, n4, n5, n6, nmul, nadd, ntn, gd_n, lw_eq, setI1, Nat.reduceEqDiff, false_and, and_false, true_and, show ¬ (0 = 8) by omega, nsub, Nat.add_sub_cancel]
              · have fC : Fr (fun o k => (decide (23 < o) && decide (o ≤ 29)) || (o == 23 && k == 0)) wC (setI (setI (setI (setI (setI (setI (setI wC 24 k (nI kd)) 25 k (nI s)) 26 k (nI c)) 27 k (nI pt)) 28 k (nI pr)) 29 k (nI od)) 23 0 (nI (k + 1))) :=
                  ((((((Fr.set (by simp)).tr (Fr.set (by simp))).tr (Fr.set (by simp))).tr (Fr.set (by simp))).tr (Fr.set (by simp))).tr (Fr.set (by simp))).tr (Fr.set (by simp))
                have fM : Fr (fun o k => o == 8 || (o == 0 && k == 12)) wM (setI (setI (setI (setI (setI (setI (setI wM 8 (6 * k) (nI kd)) 8 (6 * k + 1) (nI s)) 8 (6 * k + 2) (nI c)) 8 (6 * k + 3) (nI pt)) 8 (6 * k + 4) (nI pr)) 8 (6 * k + 5) (nI od)) 0 12 (nI (k + 1))) :=
                  ((((((Fr.set (by simp)).tr (Fr.set (by simp))).tr (Fr.set (by simp))).tr (Fr.set (by simp))).tr (Fr.set (by simp))).tr (Fr.set (by simp))).tr (Fr.set (by simp))
                refine h.typ fC fM (fun o k q q1 => by simp; omega) (fun o k q q1 => by simp; omega) ⟨k + 1, upJ T k (fun i => if i = 0 then kd else if i = 1 then s else if i = 2 then c else if i = 3 then pt else if i = 4 then pr else od), z, ⟨by omega, fun j hj => ?_, ?_⟩, ⟨by simp [setI1], by rw [fC.at' _ (by simp)]; exact c2, fun j hj i hi => ?_⟩, ⟨by simp [setI1], by rw [fM.at' _ (by simp)]; exact m2, fun j hj i hi => ?_⟩⟩
                · by_cases hq : j = k
                  · subst hq; simp only [upJ_at]; simp; omega
                  · simp only [upJ_lt (show j < k by omega)]; exact ok2 j (by omega)
                · have e1 : sN (upJ T k (fun i => if i = 0 then kd else if i = 1 then s else if i = 2 then c else if i = 3 then pt else if i = 4 then pr else od) 5) k = sN (T 5) k := sN_congr (fun i hi => upJ_lt hi)
                  rw [sN, e1, upJ_at]; simp; exact h6
                · by_cases hq : j = k
                  · subst hq
                    simp only [upJ_at]
                    have : i = 0 ∨ i = 1 ∨ i = 2 ∨ i = 3 ∨ i = 4 ∨ i = 5 := by omega
                    rcases this with rfl | rfl | rfl | rfl | rfl | rfl <;> simp [setI1]
                  · simp only [upJ_lt (show j < k by omega)]
                    have := c3 j (by omega) i hi
                    simp only [setI1, hq, and_false, if_false]
                    rw [if_neg (by omega)]
                    exact this
                · by_cases hq : j = k
                  · subst hq
                    simp only [upJ_at]
                    have : i = 0 ∨ i = 1 ∨ i = 2 ∨ i = 3 ∨ i = 4 ∨ i = 5 := by omega
                    rcases this with rfl | rfl | rfl | rfl | rfl | rfl <;> simp [setI1]
                  · simp only [upJ_lt (show j < k by omega)]
                    have := m3 j (by omega) i hi
                    have hx : ∀ x, x < 6 → ¬ (6 * j + i = 6 * k + x) := fun x hx => by omega
                    have a0 := hx 0 (by omega)
                    have a1 := hx 1 (by omega)
                    have a2 := hx 2 (by omega)
                    have a3 := hx 3 (by omega)
                    have a4 := hx 4 (by omega)
                    have a5 := hx 5 (by omega)
                    simp only [Nat.add_zero] at a0
                    simp only [setI1, a0, a1, a2, a3, a4, a5, and_false, if_false, show ¬ (8 = 0) by omega, false_and]
                    exact this
          · have hle : ¬ nI (sN (T 5) k) + nI od ≤ 4 := by rw [nadd, n4, nle (by omega) (by omega)]; exact h6
            refine ⟨-4, wC, wM, ?_, ?_, h⟩
            · simp only [fX11_type, isJobC_ev, within_ev, h1, hpm, h3, h5, h10, bd_some', if_false, oC, hle]
            · simp only [fX12_type, isLike_ev, in_ev, h1, h3, h4, h5, bd_some', if_false, oM, hle]
theorem comes_both {k : Nat} {T : Nat → Nat → Nat} {z z' : Int32} {c1 : Int32} {wC wM : AW} (ok : okT k T) (hc : CTy 23 k T z wC) (hm : MTy k T z' wM) : ∀ d i M : Nat, i + d = k → d < M →
    ∃ e : Unit ⊕ Int32, wh (lbX10_next_29_1 N0 23 c1 wC) M (nI (sN (T 5) i), nI i) = some e ∧ wh (lbX12_comes_30_1 N0 c1 wM) M (nI (sN (T 5) i), nI i) = some e := by
  intro d
  induction d with
  | zero =>
    intro i M hi hM
    obtain ⟨M, rfl⟩ : ∃ k, M = k + 1 := ⟨M - 1, by omega⟩
    have : i = k := by omega
    subst this
    exact ⟨.inl (), wh_out (by simp only [lbX10_next_29_1, hc.1, Int32.le_refl, if_true]), wh_out (by simp only [lbX12_comes_30_1, hm.1, Int32.le_refl, if_true])⟩
  | succ d ih =>
    intro i M hi hM
    obtain ⟨M, rfl⟩ : ∃ k, M = k + 1 := ⟨M - 1, by omega⟩
    have hk := ok.1
    have hik : i < k := by omega
    have e1 : wC.1 (23 + 6) i = nI (T 5 i) := hc.2.2 i hik 5 (by omega)
    have e2 := typeIts_ev ok hm hik (show 5 < 6 by omega)
    rw [show nI 5 = 5 from rfl] at e2
    have hnn : ¬ nI k ≤ nI i := by rw [nle (by omega) (by omega)]; omega
    have h1i : nI i + 1 = nI (i + 1) := by rw [n1, nadd]
    have hs : nI (sN (T 5) i) + nI (T 5 i) = nI (sN (T 5) (i + 1)) := by rw [nadd]; rfl
    by_cases hcd : nI (sN (T 5) (i + 1)) ≤ c1
    · have s1 : lbX10_next_29_1 N0 23 c1 wC (nI (sN (T 5) i), nI i) = some (.inl (nI (sN (T 5) (i + 1)), nI (i + 1))) := by
        simp only [lbX10_next_29_1, hc.1, hnn, if_false, gd_n (show i < 3 by omega) (show i ≤ 2147483647 by omega), ntn (show i ≤ 2147483647 by omega), e1, lw_eq, hs, hcd, if_true, h1i]
      have s2 : lbX12_comes_30_1 N0 c1 wM (nI (sN (T 5) i), nI i) = some (.inl (nI (sN (T 5) (i + 1)), nI (i + 1))) := by
        simp only [lbX12_comes_30_1, hm.1, hnn, if_false, e2, bd_some', hs, hcd, if_true, h1i]
      rw [wh_step s1, wh_step s2]
      exact ih (i + 1) M (by omega) (by omega)
    · refine ⟨.inr (nI i), wh_out ?_, wh_out ?_⟩
      · simp only [lbX10_next_29_1, hc.1, hnn, if_false, gd_n (show i < 3 by omega) (show i ≤ 2147483647 by omega), ntn (show i ≤ 2147483647 by omega), e1, lw_eq, hs, hcd]
      · simp only [lbX12_comes_30_1, hm.1, hnn, if_false, e2, bd_some', hs, hcd]
theorem st_comes {wC wM : AW} (h : Rel wC wM) : ∃ r wC' wM', fX11_comes N0 wC = some (r, wC') ∧ fX12_comes N0 wM = some (r, wM') ∧ Rel wC' wM' := by
  obtain ⟨k, T, z, ok, hc, hm⟩ := h.2.1
  obtain ⟨c1, c2, c3⟩ := id hc
  obtain ⟨m1, m2, m3⟩ := id hm
  have hN := N0_big
  generalize hz : z * 1103515245 + 12345 = z'
  have fC : Fr (fun o k => o == 23 && k == 1) wC (setI wC 23 1 z') := Fr.set (by simp)
  have fM : Fr (fun o k => o == 0 && k == 14) wM (setI wM 0 14 z') := Fr.set (by simp)
  have hc' : CTy 23 k T z' (setI wC 23 1 z') := ⟨by simp [setI1, c1], by simp [setI1], fun j hj i hi => by rw [fC.at' _ (by simp; omega)]; exact c3 j hj i hi⟩
  have hm' : MTy k T z' (setI wM 0 14 z') := ⟨by simp [setI1, m1], by simp [setI1], fun j hj i hi => by rw [fM.at' _ (by simp)]; exact m3 j hj i hi⟩
  have hR : Rel (setI wC 23 1 z') (setI wM 0 14 z') := h.typ fC fM (fun o k q q1 => by simp; omega) (fun o k q q1 => by simp; omega) ⟨k, T, z', ok, hc', hm'⟩
  obtain ⟨e, e1, e2⟩ := comes_both (c1 := (((z').toUInt32 >>> ((16 : Int32).toUInt32 &&& Int32.toUInt32 31)).toInt32) - (((z').toUInt32 >>> ((16 : Int32).toUInt32 &&& Int32.toUInt32 31)).toInt32) / 4 * 4) ok hc' hm' k 0 N0 (by omega) (by have := ok.1; omega)
  have e1' : wh (lbX10_next_29_1 N0 23 ((((z').toUInt32 >>> ((16 : Int32).toUInt32 &&& Int32.toUInt32 31)).toInt32) - (((z').toUInt32 >>> ((16 : Int32).toUInt32 &&& Int32.toUInt32 31)).toInt32) / 4 * 4) (setI wC 23 1 z')) N0 (0, 0) = some e := e1
  have e2' : wh (lbX12_comes_30_1 N0 ((((z').toUInt32 >>> ((16 : Int32).toUInt32 &&& Int32.toUInt32 31)).toInt32) - (((z').toUInt32 >>> ((16 : Int32).toUInt32 &&& Int32.toUInt32 31)).toInt32) / 4 * 4) (setI wM 0 14 z')) N0 (0, 0) = some e := e2
  have zC : (setI wC 23 1 z').1 23 1 = z' := by simp [setI1]
  have zM : (setI wM 0 14 z').1 0 14 = z' := by simp [setI1]
  cases e with
  | inl u => exact ⟨-9, _, _, by simp only [fX11_comes, fX10_next, lw_eq, c2, hz, zC, e1', bd_some', se, bd2_some'], by simp only [fX12_comes, lw_eq, m2, hz, zM, e2', bd_some', se], hR⟩
  | inr v => exact ⟨v, _, _, by simp only [fX11_comes, fX10_next, lw_eq, c2, hz, zC, e1', bd_some', se, bd2_some'], by simp only [fX12_comes, lw_eq, m2, hz, zM, e2', bd_some', se], hR⟩
theorem st_row {wC wM : AW} (h : Rel wC wM) (a0 a1 : Int32) : ∃ r, fX11_row a0 a1 wC = some r ∧ fX12_row a0 a1 wM = some r := by
  obtain ⟨m, hm6, c1, m1, hr⟩ := h.2.2.2.2.1
  have h10 : ¬ (1 : Int32) = 0 := by decide
  rcases wI_01 a0 0 (nI m - 1) with h1 | h1
  · exact ⟨-2147483648, by simp only [fX11_row, fX6_has, c1, within_ev, h1, bd_some', if_true], by simp only [fX12_row, fX12_isRow, m1, in_ev, h1, bd_some', if_true]⟩
  · rcases wI_01 a1 0 2 with h2 | h2
    · exact ⟨-2147483648, by simp only [fX11_row, fX6_has, c1, within_ev, h1, h2, bd_some', h10, if_false, if_true], by simp only [fX12_row, fX12_isRow, m1, in_ev, h1, h2, bd_some', h10, if_false, if_true]⟩
    · obtain ⟨i, hi, rfl⟩ := wI_neg (by omega) h1
      obtain ⟨x, -, hx, rfl⟩ := wI_nat (lo := 0) (hi := 2) h2 (by omega) (by omega)
      refine ⟨wM.1 18 (3 * i + x), ?_, ?_⟩
      · rw [← hr (3 * i + x) (by omega)]
        simp (disch := omega) only [fX11_row, fX6_has, c1, within_ev, h1, h2, bd_some', h10, if_false, n3, nmul, nadd, ntn, gd_n, Nat.mul_comm i 3]
      · simp (disch := omega) only [fX12_row, fX12_isRow, m1, in_ev, h1, h2, bd_some', h10, if_false, n3, nmul, nadd, ntn, gd_n]
theorem Rel.rws {wC wM wC' wM' : AW} {T T' : Nat → Nat → Bool} (h : Rel wC wM) (f : Fr T wC wC') (f' : Fr T' wM wM') (hC : ∀ o k, pC o k = true → ¬ (o = 59 ∨ o = 60) → T o k = false) (hM : ∀ o k, pM o k = true → ¬ (o = 18 ∨ (o = 0 ∧ k = 37)) → T' o k = false) (hb : RRw wC' wM') : Rel wC' wM' := by
  obtain ⟨h1, h2, h3, h4, h5, h6, h7, h8⟩ := h
  refine ⟨h1.fr f f' (fun o k a b => hC o k (by simp [pC]; omega) (by omega)) (fun o k hk => ?_), h2.fr f f' (fun o k a b => hC o k (by simp [pC]; omega) (by omega)) (fun k => hM 8 k rfl (by omega)) (hM 0 12 rfl (by omega)) (hM 0 14 rfl (by omega)), h3.fr f f' (hC 0 4 rfl (by omega)) (fun o k a b => hC o k (by simp [pC]; omega) (by omega)) (fun o k a b => hC o k (by simp [pC]; omega) (by omega)) (hM 0 50 rfl (by omega)) (fun k => hM 26 k rfl (by omega)),
    h4.fr f f' (hC 37 1 rfl (by omega)) (fun k => hC 38 k rfl (by omega)) (hM 0 16 rfl (by omega)) (fun k => hM 9 k rfl (by omega)), hb, h6.fr f f' (fun o k a b => hC o k (by simp [pC, a, b]) (by omega)) (fun o k a b => hM o k (by simp [pM]; omega) (by omega)), h7.fr f f' (hC 74 5 rfl (by omega)) (fun k => hC 75 k rfl (by omega)) (hM 0 48 rfl (by omega)) (fun k => hM 25 k rfl (by omega)), h8.fr f' (fun k => hM 3 k rfl (by omega)) (fun k => hM 4 k rfl (by omega))⟩
  simp only [mB, Bool.or_eq_true, Bool.and_eq_true, beq_iff_eq] at hk
  exact hM o k (by simp only [pM, Bool.or_eq_true, Bool.and_eq_true, beq_iff_eq, decide_eq_true_eq]; omega) (by omega)
theorem st_alterRow {wC wM : AW} (h : Rel wC wM) (a0 a1 a2 : Int32) : ∃ r wC' wM', fX11_alterRow a0 a1 a2 wC = some (r, wC') ∧ fX12_alterRow a0 a1 a2 wM = some (r, wM') ∧ Rel wC' wM' := by
  obtain ⟨m, hm6, c1, m1, hr⟩ := h.2.2.2.2.1
  have h10 : ¬ (1 : Int32) = 0 := by decide
  rcases wI_01 a0 0 (nI m - 1) with h1 | h1
  · exact ⟨-2147483648, wC, wM, by simp only [fX11_alterRow, fX6_has, c1, within_ev, h1, bd_some', if_true], by simp only [fX12_alterRow, fX12_isRow, m1, in_ev, h1, bd_some', if_true], h⟩
  · rcases wI_01 a1 0 2 with h2 | h2
    · exact ⟨-2147483648, wC, wM, by simp only [fX11_alterRow, fX6_has, c1, within_ev, h1, h2, bd_some', h10, if_false, if_true], by simp only [fX12_alterRow, fX12_isRow, m1, in_ev, h1, h2, bd_some', h10, if_false, if_true], h⟩
    · obtain ⟨i, hi, rfl⟩ := wI_neg (by omega) h1
      obtain ⟨x, -, hx, rfl⟩ := wI_nat (lo := 0) (hi := 2) h2 (by omega) (by omega)
      refine ⟨wM.1 18 (3 * i + x), setI wC 60 (3 * i + x) a2, setI wM 18 (3 * i + x) a2, ?_, ?_, h.rws (Fr.set (T := fun o _ => o == 60) (by simp)) (Fr.set (T := fun o _ => o == 18) (by simp)) (fun o k q q1 => by simp; omega) (fun o k q q1 => by simp; omega) ⟨m, hm6, by simp [setI1, c1], by simp [setI1, m1], fun k hk => ?_⟩⟩
      · rw [← hr (3 * i + x) (by omega)]
        simp (disch := omega) only [fX11_alterRow, fX6_has, c1, within_ev, h1, h2, bd_some', h10, if_false, n3, nmul, nadd, ntn, gd_n, lw_eq, Nat.mul_comm i 3]
      · simp (disch := omega) only [fX12_alterRow, fX12_isRow, m1, in_ev, h1, h2, bd_some', h10, if_false, n3, nmul, nadd, ntn, gd_n, lw_eq]
      · by_cases hq : k = 3 * i + x
        · subst hq; simp [setI1]
        · simp only [setI1, hq, and_false, if_false]; exact hr k hk
theorem st_trace {wC wM : AW} (h : Rel wC wM) (a0 : Int32) : ∃ r, fX11_trace a0 wC = some r ∧ fX12_trace a0 wM = some r := by
  obtain ⟨m, hm6, c1, m1, hr⟩ := h.2.2.2.2.2.2.1
  have h10 : ¬ (1 : Int32) = 0 := by decide
  rcases wI_01 a0 0 (nI m - 1) with h1 | h1
  · exact ⟨-3, by simp only [fX11_trace, c1, within_ev, h1, bd_some', if_true], by simp only [fX12_trace, m1, in_ev, h1, bd_some', if_true]⟩
  · obtain ⟨i, hi, rfl⟩ := wI_neg (by omega) h1
    refine ⟨wM.1 25 i, ?_, ?_⟩
    · rw [← hr i hi]
      simp (disch := omega) only [fX11_trace, c1, within_ev, h1, bd_some', h10, if_false, ntn, gd_n]
    · simp (disch := omega) only [fX12_trace, m1, in_ev, h1, bd_some', h10, if_false, ntn, gd_n]
theorem st_many {wC wM : AW} (h : Rel wC wM) (a0 : Int32) : ∃ r, fX11_many a0 wC = some r ∧ fX12_many a0 wM = some r := by
  obtain ⟨⟨n, J, L, lost, nig, day, col, left, till, p, ok, hc, hm⟩, ⟨k, T, z, okt, tc, tm⟩, -, ⟨c, Y, -, -, y1, y2, -⟩, ⟨m, -, r1, r2, -⟩, -, ⟨b, -, b1, b2, -⟩, -⟩ := h
  have hcn : wC.1 2 0 = nI n := hc.1.1
  refine ⟨fX12_many a0 wM |>.getD 0, ?_, ?_⟩ <;> simp only [fX11_many, fX12_many, hcn, hm.2.2.2.1, tc.1, tm.1, y1, y2, r1, r2, b1, b2]
  all_goals (repeat' split) <;> rfl
