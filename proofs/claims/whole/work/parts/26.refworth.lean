/-! 26: the reference works an order: ends, worth, late ones -/
theorem worksMany_ev {all : Nat} {J : Nat → Nat → Nat} {L lost nig : Nat → Nat} {day col left lg N tw m : Nat} {w : AW} {p : Nat → Nat} (hJ : MJs all J w) (hM : MLs L lost nig day col left w) (b : bL L lost nig day col left) (bj : bJ all J) (ha : all ≤ 6) (hm : tw < 64) (hlg : lg ≤ 9) (hN : 300 < N)
    (hmm : m ≤ all) (hp : ∀ i, i < m → w.1 12 i = nI (p i)) (hp2 : ∀ i, i < m → p i < all) (hp3 : ∀ i k, i < m → k < m → p i = p k → i = k) :
    ∃ w', fX12_worksMany N (nI m) (nI all) (nI tw) (nI lg) w = some w' ∧ Fr TW w w' ∧ ∀ i, i < m → w'.1 14 (p i) = nI (dyS (sLg (sOf L lost nig) day lg) day (uN (L 1) col left J (Rd J tw) p (i + 1))) := by
  obtain ⟨w1, e1, e2, e3, e4⟩ := lends_ev hJ hM bj ha hm hN
  have bdy : day ≤ 60 := b.2.2.2.2.2.2.2.1
  have bl : left ≤ 3 := b.2.2.2.2.2.2.2.2.2
  have bc : col ≤ 1 := b.2.2.2.2.2.2.2.2.1
  have hS := sLg_pos (d0 := day) (lg := lg) (sOf_pos (lost := lost) (nig := nig) b.1)
  have hR : ∀ j, j < all → 1 ≤ Rd J tw j ∧ Rd J tw j ≤ 18 := fun j hj => by
    have := bj j hj
    unfold Rd; split <;> omega
  have hU : ∀ i, i ≤ m → uN (L 1) col left J (Rd J tw) p i ≤ 21 * i := uN_le (fun i hi => (hR _ (hp2 i hi)).2) b.2.2.1 bl
  generalize hS' : sLg (sOf L lost nig) day lg = S at *
  have hM1 : MLs L lost nig day col left w1 := hM.fr e2 (fun k => rfl) (fun k => rfl) (fun k => rfl) rfl rfl rfl
  have hJ1 : MJs all J w1 := hJ.fr e2 (fun k => rfl)
  have key := wh_cnt (body := lbX12_worksMany_34_1 N (nI m) (nI lg)) (n := m)
    (I := fun i s => ∃ d lf w2, s = (nI d, nI lf, nI i, w2) ∧ atS S day (uN (L 1) col left J (Rd J tw) p i) d lf ∧ Fr TW w1 w2 ∧ (∃ pc ps, MP pc ps w2 ∧ pc ≤ 1 ∧ ps ≤ 3 ∧ (i = 0 → pc = col ∧ ps = left) ∧ (0 < i → pc = wasN J p i ∧ ps = 0)) ∧ (∀ k, i ≤ k → k < m → w2.1 13 (p k) = nI (Rd J tw (p k))) ∧ (∀ k, k < i → w2.1 14 (p k) = nI (dyS S day (uN (L 1) col left J (Rd J tw) p (k + 1)))))
    (Q := fun w2 => Fr TW w1 w2 ∧ (∀ k, k < m → w2.1 14 (p k) = nI (dyS S day (uN (L 1) col left J (Rd J tw) p (k + 1)))))
    ?_ ?_ (N := N) (i := 0) (s := (nI day, nI (S day), 0, w1)) ⟨day, S day, w1, rfl, atS_0, Fr.rf, ⟨col, left, e3, bc, bl, fun _ => ⟨rfl, rfl⟩, fun h => by omega⟩, fun k hk1 hk2 => e4 _ (hp2 k hk2), fun k hk => by omega⟩ (by omega) (by omega)
  · obtain ⟨w2, k1, k2, k3⟩ := key
    refine ⟨w2, ?_, (e2.wd (fun o k h => ?_)).tr k2, k3⟩
    · have h5 := hM1.2.2.2.1
      have hs := slotsOf_ev hM1 b (d := day) (by omega)
      have hle := sOf_le (d := day) b
      simp only [fX12_worksMany, e1, lw_eq, bd_some', bd2_some', gd_true, h5, hs]
      rw [← hS'] at k1
      by_cases hc : lg = 0
      · subst hc
        have : sLg (sOf L lost nig) day 0 day = sOf L lost nig day + 0 := by unfold sLg; simp
        rw [this, ← nadd] at k1
        simp only [n0, Nat.le_refl, nle (show 0 ≤ 2147483647 by omega) (show 0 ≤ 2147483647 by omega), if_true, bX12_worksMany_28]
        rw [← n0]
        rw [show (nI 0) = 0 from rfl] at k1
        simp only [k1, bd_some']
      · have : sLg (sOf L lost nig) day lg day = sOf L lost nig day + 1 := by unfold sLg; rw [if_pos (by omega)]
        rw [this, ← nadd] at k1
        simp (disch := omega) only [n0, nle, if_neg (show ¬ lg ≤ 0 by omega), bX12_worksMany_28]
        rw [show nI 1 = 1 from rfl] at k1
        rw [show nI 0 = 0 from rfl]
        simp only [k1, bd_some']
    · simp only [TW, Bool.or_eq_false_iff] at h ⊢
      exact ⟨h.1.1, h.2⟩
  · rintro i s hi ⟨d, lf, w2, rfl, hat, hF, ⟨pc, ps, hmp, hpc, hps, hi0, hi1⟩, hrest, hends⟩
    have hpi := hp2 i hi
    obtain ⟨r, hr⟩ : ∃ r, Rd J tw (p i) = r + 1 := ⟨Rd J tw (p i) - 1, by have := hR _ hpi; omega⟩
    have hr18 := (hR _ hpi).2
    have hJ2 : MJs all J w2 := hJ1.fr hF (fun k => rfl)
    have hM2 : MLs L lost nig day col left w2 := hM1.fr hF (fun k => rfl) (fun k => rfl) (fun k => rfl) rfl rfl rfl
    have ho : w2.1 12 i = nI (p i) := by rw [hF.at' _ rfl, e2.at' _ rfl, hp i hi]
    have hUi := hU (i + 1) (by omega)
    have hu : uN (L 1) col left J (Rd J tw) p i + ((if J 2 (p i) = pc then ps else L 1) + (r + 1)) = uN (L 1) col left J (Rd J tw) p (i + 1) := by
      rw [uN, uB, hr]
      by_cases h0 : i = 0
      · subst h0
        obtain ⟨rfl, rfl⟩ := hi0 rfl
        simp only [uN, if_true]; omega
      · obtain ⟨h1, rfl⟩ := hi1 (by omega)
        obtain ⟨i', rfl⟩ : ∃ k, i = k + 1 := ⟨i - 1, by omega⟩
        have hpos := uN_pos (st := L 1) (c0 := col) (l0 := left) (J := J) (R := Rd J tw) (p := p) (i := i') (hR _ (hp2 i' (by omega))).1
        rw [if_neg (show ¬ uN (L 1) col left J (Rd J tw) p (i' + 1) = 0 by omega), h1]; omega
    have hat' := hat
    rw [← hS'] at hat'
    obtain ⟨d', lf', w3, g1, g2, g3, g4, g5⟩ := jobEnd_ev (c1 := nI m) hlg hN b bj (by omega) hpi (show i < 8 by omega) (U := uN (L 1) col left J (Rd J tw) p (i + 1)) (by omega) (M := N) hJ2 hM2 ho hmp hpc hps (by rw [hrest i (Nat.le_refl _) hi, hr]) (by omega) rfl hu hat' (by
      have h3 := b.2.2.1
      split <;> omega)
    rw [hS'] at g2 g3
    have hd' : d' = dyS S day (uN (L 1) col left J (Rd J tw) p (i + 1)) := isD_uniq g3 (dyS_is bdy hS (uN_pos (hR _ hpi).1) (by omega))
    have ho3 : w3.1 12 i = nI (p i) := by rw [g5.at' _ rfl, ho]
    refine ⟨(nI d', nI lf', nI (i + 1), setI w3 14 (p i) (nI d')), ?_, d', lf', setI w3 14 (p i) (nI d'), rfl, g2, ?_, ⟨J 2 (p i), 0, ?_, (bj _ hpi).2.2.2.1, by omega, fun h => by omega, fun _ => ⟨rfl, rfl⟩⟩, fun k hk1 hk2 => ?_, fun k hk => ?_⟩
    · have hstep : wh (lbX12_worksMany_43_2 N (nI m) (nI lg) (nI i)) N (nI d, nI lf, nI 0, w2) = some (nI d', nI lf', w3) := g1
      simp (disch := omega) only [lbX12_worksMany_34_1, n0, n1, n2, n3, n4, n5, n6, n7, n8, n9, n10, n13, n16, n18, n20, n30, n32, n40, n48, n57, n59, n60, n64, n97, n99, n122, n126, n186, n200, n1000000, nadd, nmul, nlt, nle, neq, ntn, gd_n, lw_eq, bd_some', bd2_some', gd_true, if_neg (show ¬ m ≤ i by omega), hstep, ho3]
    · refine hF.tr ((g5.wd (fun o k h => ?_)).tr (Fr.set (by simp [TW])))
      simp only [TW, Bool.or_eq_false_iff] at h ⊢
      exact ⟨by simp [h.1.1], h.2⟩
    · obtain ⟨m1, m2⟩ := g4
      exact ⟨by simp [setI1, m1], by simp [setI1, m2]⟩
    · have hne : p k ≠ p i := fun h => by have := hp3 k i hk2 hi h; omega
      rw [setI1, if_neg (by simp), g5.at' _ (by simp [hne]), hrest k (by omega) hk2]
    · by_cases hki : k = i
      · subst hki
        rw [setI1, if_pos ⟨rfl, rfl⟩, hd']
      · have hne : p k ≠ p i := fun h => hki (hp3 k i (by omega) hi h)
        rw [setI1, if_neg (by simp [hne]), g5.at' _ rfl, hends k (by omega)]
  · rintro s ⟨d, lf, w2, rfl, hat, hF, -, -, hends⟩
    refine ⟨w2, ?_, hF, hends⟩
    simp (disch := omega) only [lbX12_worksMany_34_1, n0, n1, n2, n3, n4, n5, n6, n7, n8, n9, n10, n13, n16, n18, n20, n30, n32, n40, n48, n57, n59, n60, n64, n97, n99, n122, n126, n186, n200, n1000000, nadd, nmul, nlt, nle, neq, ntn, gd_n, Nat.le_refl, if_true]
theorem isLate_ev {all : Nat} {J : Nat → Nat → Nat} {w : AW} (hJ : MJs all J w) (bj : bJ all J) (ha : all ≤ 8) {j e : Nat} (hj : j < all) (he : w.1 14 j = nI e) (hb : e ≤ 1000) : fX12_isLate (nI j) w = some (nI (if e ≤ J 3 j then 0 else 1)) := by
  have e1 := its_ev hJ hj ha (show 3 < 5 by omega)
  have := (bj j hj).2.2.2.2.1
  simp (disch := omega) only [fX12_isLate, n0, n1, n2, n3, n4, n5, n6, n7, n8, n9, n10, n13, n16, n18, n20, n30, n32, n40, n48, n57, n59, n60, n64, n97, n99, n122, n126, n186, n200, n1000000, nadd, nmul, nlt, nle, neq, ntn, gd_n, lw_eq, bd_some', bd2_some', gd_true, e1, he]
  split <;> rfl
theorem worthOf_ev {all : Nat} {J : Nat → Nat → Nat} {w : AW} {fine : Nat} (hJ : MJs all J w) (bj : bJ all J) (ha : all ≤ 8) (hf : w.1 2 2 = nI fine) (bf : fine ≤ 99) {j e : Nat} (hj : j < all) (he : w.1 14 j = nI e) (hb : e ≤ 1000) : fX12_worthOf (nI j) w = some (zI (vOf fine J j e)) := by
  have e0 := its_ev hJ hj ha (show 0 < 5 by omega)
  have e3 := its_ev hJ hj ha (show 3 < 5 by omega)
  have e4 := its_ev hJ hj ha (show 4 < 5 by omega)
  have el := isLate_ev hJ bj ha hj he hb
  obtain ⟨b0, b1, b2, b3, b4, b5⟩ := bj j hj
  have hm2 : -nI 2 * nI fine = zI (-2 * (fine : Int)) := by rw [zI_nI, ← zmul]; rfl
  have hn : -nI fine = zI (-(fine : Int)) := by rw [zI_nI, zneg]
  unfold vOf fX12_worthOf
  by_cases h1 : e ≤ J 3 j
  · rw [if_pos h1] at el ⊢
    simp (disch := omega) only [n0, n1, n2, n3, n4, n5, n6, n7, n8, n9, n10, n13, n16, n18, n20, n30, n32, n40, n48, n57, n59, n60, n64, n97, n99, n122, n126, n186, n200, n1000000, nadd, nmul, nlt, nle, neq, ntn, gd_n, lw_eq, bd_some', bd2_some', gd_true, e4, el, if_true]
    rw [zI_nI]
  · rw [if_neg h1] at el ⊢
    simp (disch := omega) only [n0, n1, n2, n3, n4, n5, n6, n7, n8, n9, n10, n13, n16, n18, n20, n30, n32, n40, n48, n57, n59, n60, n64, n97, n99, n122, n126, n186, n200, n1000000, nadd, nmul, nlt, nle, neq, ntn, gd_n, lw_eq, bd_some', bd2_some', gd_true, e4, el, e0, hf, ndiv, he, e3, if_neg (show ¬ 1 = 0 by omega)]
    by_cases k1 : J 0 j = 1
    · simp only [k1, if_true, ← hm2]
    · by_cases k2 : J 0 j = 2
      · simp only [k2, if_true, if_false, Nat.reduceEqDiff, zI_nI]
      · by_cases k3 : J 0 j = 3
        · simp only [k3, if_true, if_false, Nat.reduceEqDiff, zI_nI, zsub]
        · by_cases k4 : J 0 j = 4
          · simp only [k4, if_true, if_false, Nat.reduceEqDiff]
            by_cases k5 : e = J 3 j + 1
            · simp only [k5, if_true]; rfl
            · simp only [k5, if_false, ← hm2]
          · simp only [k1, k2, k3, k4, if_false, ← hn]
theorem wN_bd {dy : Nat → Nat} {st c0 l0 fine : Nat} {J : Nat → Nat → Nat} {R : Nat → Nat} {p : Nat → Nat} {all m : Nat} (bj : bJ all J) (bf : fine ≤ 99) (hp2 : ∀ i, i < m → p i < all) : ∀ i, i ≤ m → -198 * (i : Int) ≤ wN dy st c0 l0 fine J R p i ∧ wN dy st c0 l0 fine J R p i ≤ 99 * (i : Int) := by
  intro i
  induction i with
  | zero => intro _; simp [wN]
  | succ i ih =>
    intro hi
    have := ih (by omega)
    have b4 := (bj _ (hp2 i (by omega))).2.2.2.2.2
    have v1 := vOf_le (fine := fine) (J := J) (j := p i) (e := dy (uN st c0 l0 J R p (i + 1)))
    have v2 := vOf_ge (fine := fine) (J := J) (j := p i) (e := dy (uN st c0 l0 J R p (i + 1)))
    simp only [wN]
    omega
theorem lN_bd {dy : Nat → Nat} {st c0 l0 : Nat} {J : Nat → Nat → Nat} {R : Nat → Nat} {p : Nat → Nat} : ∀ i, ltN dy st c0 l0 J R p i ≤ i := by
  intro i
  induction i with
  | zero => exact Nat.le_refl _
  | succ i ih => simp only [ltN]; split <;> omega
theorem worthAll_ev {all : Nat} {J : Nat → Nat → Nat} {w : AW} {fine m N : Nat} {st c0 l0 : Nat} {dy : Nat → Nat} {R p : Nat → Nat} (hJ : MJs all J w) (bj : bJ all J) (ha : all ≤ 6) (hf : w.1 2 2 = nI fine) (bf : fine ≤ 99) (hmm : m ≤ all) (hp : ∀ i, i < m → w.1 12 i = nI (p i)) (hp2 : ∀ i, i < m → p i < all)
    (he : ∀ i, i < m → w.1 14 (p i) = nI (dy (uN st c0 l0 J R p (i + 1)))) (hb : ∀ i, i < m → dy (uN st c0 l0 J R p (i + 1)) ≤ 1000) (hN : 10 < N) :
    fX12_worthAll N (nI m) w = some (zI (wN dy st c0 l0 fine J R p m)) := by
  have key := wh_for (body := lbX12_worthAll_4_1 N (nI m) w) (fun i => (zI (wN dy st c0 l0 fine J R p i), nI i)) (n := m) (e := zI (wN dy st c0 l0 fine J R p m)) ?_ ?_ (N := N) (i := 0) (by omega) (by omega)
  · have key' : wh (lbX12_worthAll_4_1 N (nI m) w) N (0, 0) = some (zI (wN dy st c0 l0 fine J R p m)) := key
    simp only [fX12_worthAll, key', lw_eq, bd_some', bd2_some', gd_true]
  · intro i hi
    have ev := worthOf_ev hJ bj (by omega) hf bf (hp2 i hi) (he i hi) (hb i hi)
    simp (disch := omega) only [lbX12_worthAll_4_1, n0, n1, n2, n3, n4, n5, n6, n7, n8, n9, n10, n13, n16, n18, n20, n30, n32, n40, n48, n57, n59, n60, n64, n97, n99, n122, n126, n186, n200, n1000000, nadd, nmul, nlt, nle, neq, ntn, gd_n, lw_eq, bd_some', bd2_some', gd_true, if_neg (show ¬ m ≤ i by omega), hp i hi, ev, zadd, wN]
  · simp (disch := omega) only [lbX12_worthAll_4_1, n0, n1, n2, n3, n4, n5, n6, n7, n8, n9, n10, n13, n16, n18, n20, n30, n32, n40, n48, n57, n59, n60, n64, n97, n99, n122, n126, n186, n200, n1000000, nadd, nmul, nlt, nle, neq, ntn, gd_n, Nat.le_refl, if_true]
theorem lateMany_ev {all : Nat} {J : Nat → Nat → Nat} {w : AW} {m N : Nat} {st c0 l0 : Nat} {dy : Nat → Nat} {R p : Nat → Nat} (hJ : MJs all J w) (bj : bJ all J) (ha : all ≤ 6) (hmm : m ≤ all) (hp : ∀ i, i < m → w.1 12 i = nI (p i)) (hp2 : ∀ i, i < m → p i < all)
    (he : ∀ i, i < m → w.1 14 (p i) = nI (dy (uN st c0 l0 J R p (i + 1)))) (hb : ∀ i, i < m → dy (uN st c0 l0 J R p (i + 1)) ≤ 1000) (hN : 10 < N) :
    fX12_lateMany N (nI m) w = some (nI (ltN dy st c0 l0 J R p m)) := by
  have key := wh_for (body := lbX12_lateMany_4_1 N (nI m) w) (fun i => (nI (ltN dy st c0 l0 J R p i), nI i)) (n := m) (e := nI (ltN dy st c0 l0 J R p m)) ?_ ?_ (N := N) (i := 0) (by omega) (by omega)
  · have key' : wh (lbX12_lateMany_4_1 N (nI m) w) N (0, 0) = some (nI (ltN dy st c0 l0 J R p m)) := key
    simp only [fX12_lateMany, key', lw_eq, bd_some', bd2_some', gd_true]
  · intro i hi
    have ev := isLate_ev hJ bj (by omega) (hp2 i hi) (he i hi) (hb i hi)
    by_cases hc : dy (uN st c0 l0 J R p (i + 1)) ≤ J 3 (p i)
    · rw [if_pos hc] at ev
      simp (disch := omega) only [lbX12_lateMany_4_1, n0, n1, n2, n3, n4, n5, n6, n7, n8, n9, n10, n13, n16, n18, n20, n30, n32, n40, n48, n57, n59, n60, n64, n97, n99, n122, n126, n186, n200, n1000000, nadd, nmul, nlt, nle, neq, ntn, gd_n, lw_eq, bd_some', bd2_some', gd_true, if_neg (show ¬ m ≤ i by omega), hp i hi, ev, ltN, hc, if_true]
    · rw [if_neg hc] at ev
      simp (disch := omega) only [lbX12_lateMany_4_1, n0, n1, n2, n3, n4, n5, n6, n7, n8, n9, n10, n13, n16, n18, n20, n30, n32, n40, n48, n57, n59, n60, n64, n97, n99, n122, n126, n186, n200, n1000000, nadd, nmul, nlt, nle, neq, ntn, gd_n, lw_eq, bd_some', bd2_some', gd_true, if_neg (show ¬ m ≤ i by omega), hp i hi, ev, ltN, hc, if_false, if_neg (show ¬ 1 = 0 by omega)]
  · simp (disch := omega) only [lbX12_lateMany_4_1, n0, n1, n2, n3, n4, n5, n6, n7, n8, n9, n10, n13, n16, n18, n20, n30, n32, n40, n48, n57, n59, n60, n64, n97, n99, n122, n126, n186, n200, n1000000, nadd, nmul, nlt, nle, neq, ntn, gd_n, Nat.le_refl, if_true]
